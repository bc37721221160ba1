-- X4_isKnownAtMost (I)Z: 63 instructions
theorem dX4_isKnownAtMost_0 : decode cX4_isKnownAtMost 0 = .ok (.aload_n 0, 1) := by decide +kernel
theorem dX4_isKnownAtMost_1 : decode cX4_isKnownAtMost 1 = .ok (.getfield 15, 3) := by decide +kernel
theorem dX4_isKnownAtMost_4 : decode cX4_isKnownAtMost 4 = .ok (.aload_n 0, 1) := by decide +kernel
theorem dX4_isKnownAtMost_5 : decode cX4_isKnownAtMost 5 = .ok (.getfield 44, 3) := by decide +kernel
theorem dX4_isKnownAtMost_8 : decode cX4_isKnownAtMost 8 = .ok (.iload_n 1, 1) := by decide +kernel
theorem dX4_isKnownAtMost_9 : decode cX4_isKnownAtMost 9 = .ok (.invokevirtual 85, 3) := by decide +kernel
theorem dX4_isKnownAtMost_12 : decode cX4_isKnownAtMost 12 = .ok (.istore_n 2, 1) := by decide +kernel
theorem dX4_isKnownAtMost_13 : decode cX4_isKnownAtMost 13 = .ok (.iconst 0, 1) := by decide +kernel
theorem dX4_isKnownAtMost_14 : decode cX4_isKnownAtMost 14 = .ok (.istore_n 3, 1) := by decide +kernel
theorem dX4_isKnownAtMost_15 : decode cX4_isKnownAtMost 15 = .ok (.iload_n 3, 1) := by decide +kernel
theorem dX4_isKnownAtMost_16 : decode cX4_isKnownAtMost 16 = .ok (.aload_n 0, 1) := by decide +kernel
theorem dX4_isKnownAtMost_17 : decode cX4_isKnownAtMost 17 = .ok (.getfield 30, 3) := by decide +kernel
theorem dX4_isKnownAtMost_20 : decode cX4_isKnownAtMost 20 = .ok (.arraylength, 1) := by decide +kernel
theorem dX4_isKnownAtMost_21 : decode cX4_isKnownAtMost 21 = .ok (.if_icmp .ge 98, 3) := by decide +kernel
theorem dX4_isKnownAtMost_24 : decode cX4_isKnownAtMost 24 = .ok (.iload_n 2, 1) := by decide +kernel
theorem dX4_isKnownAtMost_25 : decode cX4_isKnownAtMost 25 = .ok (.iload_n 3, 1) := by decide +kernel
theorem dX4_isKnownAtMost_26 : decode cX4_isKnownAtMost 26 = .ok (.invokestatic 113, 3) := by decide +kernel
theorem dX4_isKnownAtMost_29 : decode cX4_isKnownAtMost 29 = .ok (.ifCond .ne 6, 3) := by decide +kernel
theorem dX4_isKnownAtMost_32 : decode cX4_isKnownAtMost 32 = .ok (.goto 81, 3) := by decide +kernel
theorem dX4_isKnownAtMost_35 : decode cX4_isKnownAtMost 35 = .ok (.aload_n 0, 1) := by decide +kernel
theorem dX4_isKnownAtMost_36 : decode cX4_isKnownAtMost 36 = .ok (.getfield 30, 3) := by decide +kernel
theorem dX4_isKnownAtMost_39 : decode cX4_isKnownAtMost 39 = .ok (.iload_n 3, 1) := by decide +kernel
theorem dX4_isKnownAtMost_40 : decode cX4_isKnownAtMost 40 = .ok (.aaload, 1) := by decide +kernel
theorem dX4_isKnownAtMost_41 : decode cX4_isKnownAtMost 41 = .ok (.getfield 74, 3) := by decide +kernel
theorem dX4_isKnownAtMost_44 : decode cX4_isKnownAtMost 44 = .ok (.getfield 130, 3) := by decide +kernel
theorem dX4_isKnownAtMost_47 : decode cX4_isKnownAtMost 47 = .ok (.iload_n 1, 1) := by decide +kernel
theorem dX4_isKnownAtMost_48 : decode cX4_isKnownAtMost 48 = .ok (.aaload, 1) := by decide +kernel
theorem dX4_isKnownAtMost_49 : decode cX4_isKnownAtMost 49 = .ok (.aload_n 0, 1) := by decide +kernel
theorem dX4_isKnownAtMost_50 : decode cX4_isKnownAtMost 50 = .ok (.getfield 40, 3) := by decide +kernel
theorem dX4_isKnownAtMost_53 : decode cX4_isKnownAtMost 53 = .ok (.invokestatic 133, 3) := by decide +kernel
theorem dX4_isKnownAtMost_56 : decode cX4_isKnownAtMost 56 = .ok (.ifCond .ne 5, 3) := by decide +kernel
theorem dX4_isKnownAtMost_59 : decode cX4_isKnownAtMost 59 = .ok (.iconst 0, 1) := by decide +kernel
theorem dX4_isKnownAtMost_60 : decode cX4_isKnownAtMost 60 = .ok (.ireturn, 1) := by decide +kernel
theorem dX4_isKnownAtMost_61 : decode cX4_isKnownAtMost 61 = .ok (.aload_n 0, 1) := by decide +kernel
theorem dX4_isKnownAtMost_62 : decode cX4_isKnownAtMost 62 = .ok (.getfield 30, 3) := by decide +kernel
theorem dX4_isKnownAtMost_65 : decode cX4_isKnownAtMost 65 = .ok (.iload_n 3, 1) := by decide +kernel
theorem dX4_isKnownAtMost_66 : decode cX4_isKnownAtMost 66 = .ok (.aaload, 1) := by decide +kernel
theorem dX4_isKnownAtMost_67 : decode cX4_isKnownAtMost 67 = .ok (.getfield 137, 3) := by decide +kernel
theorem dX4_isKnownAtMost_70 : decode cX4_isKnownAtMost 70 = .ok (.iload_n 1, 1) := by decide +kernel
theorem dX4_isKnownAtMost_71 : decode cX4_isKnownAtMost 71 = .ok (.aaload, 1) := by decide +kernel
theorem dX4_isKnownAtMost_72 : decode cX4_isKnownAtMost 72 = .ok (.astore 4, 2) := by decide +kernel
theorem dX4_isKnownAtMost_74 : decode cX4_isKnownAtMost 74 = .ok (.iconst 0, 1) := by decide +kernel
theorem dX4_isKnownAtMost_75 : decode cX4_isKnownAtMost 75 = .ok (.istore 5, 2) := by decide +kernel
theorem dX4_isKnownAtMost_77 : decode cX4_isKnownAtMost 77 = .ok (.iload 5, 2) := by decide +kernel
theorem dX4_isKnownAtMost_79 : decode cX4_isKnownAtMost 79 = .ok (.aload 4, 2) := by decide +kernel
theorem dX4_isKnownAtMost_81 : decode cX4_isKnownAtMost 81 = .ok (.getfield 141, 3) := by decide +kernel
theorem dX4_isKnownAtMost_84 : decode cX4_isKnownAtMost 84 = .ok (.if_icmp .ge 29, 3) := by decide +kernel
theorem dX4_isKnownAtMost_87 : decode cX4_isKnownAtMost 87 = .ok (.aload 4, 2) := by decide +kernel
theorem dX4_isKnownAtMost_89 : decode cX4_isKnownAtMost 89 = .ok (.getfield 144, 3) := by decide +kernel
theorem dX4_isKnownAtMost_92 : decode cX4_isKnownAtMost 92 = .ok (.iload 5, 2) := by decide +kernel
theorem dX4_isKnownAtMost_94 : decode cX4_isKnownAtMost 94 = .ok (.aaload, 1) := by decide +kernel
theorem dX4_isKnownAtMost_95 : decode cX4_isKnownAtMost 95 = .ok (.aload_n 0, 1) := by decide +kernel
theorem dX4_isKnownAtMost_96 : decode cX4_isKnownAtMost 96 = .ok (.getfield 40, 3) := by decide +kernel
theorem dX4_isKnownAtMost_99 : decode cX4_isKnownAtMost 99 = .ok (.invokestatic 133, 3) := by decide +kernel
theorem dX4_isKnownAtMost_102 : decode cX4_isKnownAtMost 102 = .ok (.ifCond .ne 5, 3) := by decide +kernel
theorem dX4_isKnownAtMost_105 : decode cX4_isKnownAtMost 105 = .ok (.iconst 0, 1) := by decide +kernel
theorem dX4_isKnownAtMost_106 : decode cX4_isKnownAtMost 106 = .ok (.ireturn, 1) := by decide +kernel
theorem dX4_isKnownAtMost_107 : decode cX4_isKnownAtMost 107 = .ok (.iinc 5 1, 3) := by decide +kernel
theorem dX4_isKnownAtMost_110 : decode cX4_isKnownAtMost 110 = .ok (.goto (-33), 3) := by decide +kernel
theorem dX4_isKnownAtMost_113 : decode cX4_isKnownAtMost 113 = .ok (.iinc 3 1, 3) := by decide +kernel
theorem dX4_isKnownAtMost_116 : decode cX4_isKnownAtMost 116 = .ok (.goto (-101), 3) := by decide +kernel
theorem dX4_isKnownAtMost_119 : decode cX4_isKnownAtMost 119 = .ok (.iconst 1, 1) := by decide +kernel
theorem dX4_isKnownAtMost_120 : decode cX4_isKnownAtMost 120 = .ok (.ireturn, 1) := by decide +kernel
abbrev wmX4_isKnownAtMost : List Cond := .code yX4_isKnownAtMost cX4_isKnownAtMost 6 (some .boolean) :: cBig
def f_X4_isKnownAtMost_L77 (N : Nat) (M20 : gM) (a1 : Int32) (v3 : Int32) (x4 : Int32) (v17 : Nat) (v18 : Nat) (J113 : Unit → Option Int32) : Nat → Int32 → Option Int32
  | 0, _ => none
  | n21 + 1, x19 => lt (M20 (60, (48 * v17 + v18), 0) 3) (fun v22 => (if v22 ≤ x19 then J113 () else ix x19 (cMost (48 * v17 + v18)) (fun v24 => o1 (f_X10_isAtMost N M20 (64, (48 * v17 + v18), v24) (14, 0, 0)) (fun v26 => (if v26 = 0 then some (0 : Int32) else lt (x19 + 1) (fun x28 => f_X4_isKnownAtMost_L77 N M20 a1 v3 x4 v17 v18 J113 n21 x28))))))
def f_X4_isKnownAtMost_L15 (N : Nat) (M5 : gM) (a1 : Int32) (v3 : Int32) : Nat → Int32 → Option Int32
  | 0, _ => none
  | n6 + 1, x4 => (if (nI N) ≤ x4 then some (1 : Int32) else o1 (f_X10_isIn N M5 v3 x4) (fun v9 => jn (fun (_ : Unit) => lt (x4 + 1) (fun x10 => f_X4_isKnownAtMost_L15 N M5 a1 v3 n6 x10)) (fun J113 => (if v9 = 0 then J113 () else ix x4 N (fun v12 => ix a1 48 (fun v13 => o1 (f_X10_isAtMost N M5 (55, v12, v13) (14, 0, 0)) (fun v15 => (if v15 = 0 then some (0 : Int32) else ix x4 N (fun v17 => ix a1 48 (fun v18 => f_X4_isKnownAtMost_L77 N M5 a1 v3 x4 v17 v18 J113 100 (0 : Int32)))))))))))
def f_X4_isKnownAtMost (N : Nat) (M : gM) (a1 : Int32) : Option Int32 :=
  lt (M (13, 0, 0) 6) (fun v1 => o1 (f_X6_holders N M v1 a1) (fun v3 => f_X4_isKnownAtMost_L15 N M a1 v3 100 (0 : Int32)))
set_option maxHeartbeats 4000000 in
set_option maxRecDepth 100000 in
theorem t_X4_isKnownAtMost (l : Launch) (N : Nat) (D : va_G) (dA : Nat → ClassId) (A : gI → Nat) (hJ : gJ (cLive N) A) {M : gM} {a1 : Int32}  {y : Int32} (h : f_X4_isKnownAtMost N M a1 = some y) : cMi l yX4_isKnownAtMost wmX4_isKnownAtMost ({ frames := 2, cells := 0, slots := 0, locals := 45 } : Room) N D dA A [.ref (A (13, 0, 0)), .int a1] M y M := by
  refine Met.ofW (cc := cX4_isKnownAtMost) (maxL := 6) (ret := (some .boolean)) (by decide) rfl ?_
  intro p e s m args below meth c s₁ B hml hv
  obtain ⟨rfl, hP, hK, hN⟩ := hv
  generalize hargs : ([.ref (A (13, 0, 0)), .int a1] : List Value).toArray = args at B ⊢
  have S : CallFix p m c cX4_isKnownAtMost 6 s args wmX4_isKnownAtMost RX4 := ⟨B.exec, B.bytes, hml, findClass_of_methodNamed B.named, atoms_spec (ws := wmX4_isKnownAtMost) B.pre⟩
  obtain ⟨hx, hb, -, hown, hts⟩ := id S
  have hr := B.returns
  have hlocks := B.notSynchronized
  have X : gX D vwCl dA (cLive N) A (gA (cLive N) A) s := ⟨hK, hJ, fun i hi => ⟨i, hi, rfl⟩⟩
  have Z : gZ D (cLay N) dA (cLive N) A (gA (cLive N) A) s.heap M s.heap [] := ⟨hP, va_S.rf⟩
  have hin_X4 : ∀ w ∈ wsX40, w ∈ wmX4_isKnownAtMost := cin_X4
  have hin_X7 : ∀ w ∈ wsX70, w ∈ wmX4_isKnownAtMost := cin_X7
  have hin_X8 : ∀ w ∈ wsX80, w ∈ wmX4_isKnownAtMost := cin_X8
  have hin_X9 : ∀ w ∈ wsX90, w ∈ wmX4_isKnownAtMost := cin_X9
  have hl_15 := hts (.fieldLink RX4 15 "ReplicaFiles$Meeting" "replicas" "LReplicaFiles$Replicas;") (cBc 323 rfl)
  have hl_30 := hts (.fieldLink RX4 30 "ReplicaFiles$Meeting" "servers" "[LReplicaFiles$Server;") (cBc 325 rfl)
  have hl_40 := hts (.fieldLink RX4 40 "ReplicaFiles$Meeting" "greater" "[I") (cBc 329 rfl)
  have hl_44 := hts (.fieldLink RX4 44 "ReplicaFiles$Meeting" "group" "I") (cBc 333 rfl)
  have hl_74 := va_Nw.use (A := args) rfl (hN.1 ("ReplicaFiles$Meeting", 74, "ReplicaFiles$Server", "tree", "LReplicaFiles$Tree;", "ReplicaFiles") (by decide +kernel))
  have hl_130 := va_Nw.use (A := args) rfl (hN.1 ("ReplicaFiles$Meeting", 130, "ReplicaFiles$Tree", "counts", "[[I", "ReplicaFiles") (by decide +kernel))
  have hl_137 := va_Nw.use (A := args) rfl (hN.1 ("ReplicaFiles$Meeting", 137, "ReplicaFiles$Server", "versions", "[LReplicaFiles$Versions;", "ReplicaFiles") (by decide +kernel))
  have hl_141 := va_Nw.use (A := args) rfl (hN.1 ("ReplicaFiles$Meeting", 141, "ReplicaFiles$Versions", "length", "I", "ReplicaFiles") (by decide +kernel))
  have hl_144 := va_Nw.use (A := args) rfl (hN.1 ("ReplicaFiles$Meeting", 144, "ReplicaFiles$Versions", "counts", "[[I", "ReplicaFiles") (by decide +kernel))
  have hl := lv_entry ([.ref (A (13, 0, 0)), .int a1]) (n := 6) (Nat.le_of_ble_eq_true rfl)
  rw [← hargs, lg_entry_eq, hargs]
  generalize (lg_sl ([.ref (A (13, 0, 0)), .int a1]) ++ List.replicate (6 - (lg_sl ([.ref (A (13, 0, 0)), .int a1])).length) Slot.unset).toArray = ls at hl ⊢
  have hl : lv_has ls 6 [(0, .ref (A (13, 0, 0))), (1, .int a1)] := hl
  unfold f_X4_isKnownAtMost at h
  refine lv_aload_n hx hb dX4_isKnownAtMost_0 rfl (lv_at hl 0 rfl) ?_
  refine cr_X4_replicas S X Z hin_X4 (cl_one N 13 (by decide)) hl_15 dX4_isKnownAtMost_1 ?_
  refine lv_aload_n hx hb dX4_isKnownAtMost_4 rfl (lv_at hl 0 rfl) ?_
  refine cr_X4_group S X Z hin_X4 (cl_one N 13 (by decide)) hl_44 dX4_isKnownAtMost_5 h (fun v1 h => ?_)
  refine lv_iload_n hx hb dX4_isKnownAtMost_8 rfl (lv_at hl 1 rfl) ?_
  obtain ⟨v3, hc2, h⟩ := o1_e h
  refine c_i X Z (c_V (i := (10, 0, 0)) (As := [.int v1, .int a1]) (rest := []) S X hN Z (cl_one N 10 (by decide)) rfl rfl (t_X6_holders l N D dA A hJ  hc2) (cwV 2 hts (cGV (cB 337 rfl) (cB 225 rfl) (cB 226 rfl) (cB 203 rfl) (cB 222 rfl)) rfl rfl rfl (by decide +kernel) ⟨Nat.le_of_ble_eq_true rfl, Nat.le_of_ble_eq_true rfl⟩) rfl hl.1 rfl (Nat.le_of_ble_eq_true rfl) dX4_isKnownAtMost_9 ⟨Nat.zero_le _, Nat.zero_le _⟩) (fun H locs Z => ?_)
  refine lv_istore_n (lv' := [(2, .int v3), (0, .ref (A (13, 0, 0))), (1, .int a1)]) hx hb dX4_isKnownAtMost_12 rfl hl (by decide) rfl (fun ls hl => ?_)
  refine lv_iconst (v := (0 : Int32)) hx hb dX4_isKnownAtMost_13 (by decide) ?_
  refine lv_istore_n (lv' := [(3, .int (0 : Int32)), (2, .int v3), (0, .ref (A (13, 0, 0))), (1, .int a1)]) hx hb dX4_isKnownAtMost_14 rfl hl (by decide) rfl (fun ls hl => ?_)
  have hL15 : ∀ (n : Nat) (x4 : Int32) (H : Heap) (locs : List Loc) (ls : Array Slot), gZ D (cLay N) dA (cLive N) A (gA (cLive N) A) s.heap M H locs → lv_has ls 6 [(0, .ref (A (13, 0, 0))), (1, .int a1), (2, .int v3), (3, .int x4)] → f_X4_isKnownAtMost_L15 N M a1 v3 n x4 = some y → W p l e (headSpec wmX4_isKnownAtMost ({ frames := 2, cells := 0, slots := 0, locals := 45 } : Room)).room s m args below meth c H locs 0 0 (MQ below (cQi N D dA A (y, M)) args s 0 0 (gA (cLive N) A)) (F0 m 15 ls []) := by
    intro n
    induction n with
    | zero =>
      intro x4 H locs ls Z hl h
      rw [f_X4_isKnownAtMost_L15] at h
      cases h
    | succ n6 ih15 =>
      intro x4 H locs ls Z hl h
      rw [f_X4_isKnownAtMost_L15] at h
      refine lv_iload_n hx hb dX4_isKnownAtMost_15 rfl (lv_at hl 3 rfl) ?_
      refine lv_aload_n hx hb dX4_isKnownAtMost_16 rfl (lv_at hl 0 rfl) ?_
      refine cr_X4_servers S X Z hin_X4 (cl_one N 13 (by decide)) hl_30 dX4_isKnownAtMost_17 ?_
      refine g_alR (i := (7, 0, 0)) (ca := 2) rfl S X Z (cl_one N 7 (by decide)) rfl dX4_isKnownAtMost_20 ?_
      refine lv_icmp_ge (tgt := 119) hx hb dX4_isKnownAtMost_21 (by decide) (fun c7 => ?_) (fun c7 => ?_)
      · have h := if_t c7 h
        refine lv_iconst (v := (1 : Int32)) hx hb dX4_isKnownAtMost_119 (by decide) ?_
        have hy := Option.some.inj h
        subst hy
        exact g_rz (Or.inr rfl) S Z hr hlocks dX4_isKnownAtMost_120
      · have h := if_f c7 h
        refine lv_iload_n hx hb dX4_isKnownAtMost_24 rfl (lv_at hl 2 rfl) ?_
        refine lv_iload_n hx hb dX4_isKnownAtMost_25 rfl (lv_at hl 3 rfl) ?_
        obtain ⟨v9, hc8, h⟩ := o1_e h
        refine c_i X Z (c_SN (As := [.int v3, .int x4]) (rest := []) S X hN Z (t_X10_isIn l N D dA A hJ  hc8) ⟨va_cnB 2 hts (cG (cB 175 rfl)) rfl rfl rfl (hN.2 ("ReplicaFiles$Meeting", 113, yX10_isIn, "ReplicaFiles") (by decide +kernel)) (hts (.initialized RX10) (cBc 107 rfl)) (by decide +kernel) ⟨Nat.le_of_ble_eq_true rfl, Nat.le_of_ble_eq_true rfl⟩, hts (.static yX10_isIn) (cBc 178 rfl), trivial⟩ rfl hl.1 rfl (Nat.le_of_ble_eq_true rfl) dX4_isKnownAtMost_26 ⟨Nat.zero_le _, Nat.zero_le _⟩) (fun H locs Z => ?_)
        obtain ⟨J113, eJ113, h⟩ := jn_e h
        have hJ113 : ∀  (H : Heap) (locs : List Loc) (ls : Array Slot), gZ D (cLay N) dA (cLive N) A (gA (cLive N) A) s.heap M H locs → lv_has ls 6 [(0, .ref (A (13, 0, 0))), (1, .int a1), (2, .int v3), (3, .int x4)] → J113 () = some y → W p l e (headSpec wmX4_isKnownAtMost ({ frames := 2, cells := 0, slots := 0, locals := 45 } : Room)).room s m args below meth c H locs 0 0 (MQ below (cQi N D dA A (y, M)) args s 0 0 (gA (cLive N) A)) (F0 m 113 ls []) := by
          intro  H locs ls Z hl h
          rw [eJ113] at h
          try dsimp only at h
          obtain ⟨x10, ex10, h⟩ := lt_e h
          refine lv_iinc (v := x10) (lv' := [(3, .int x10), (0, .ref (A (13, 0, 0))), (1, .int a1), (2, .int v3)]) hx hb dX4_isKnownAtMost_113 hl (k := 3) rfl (by rw [ex10]; rfl) (by decide) rfl (fun ls hl => ?_)
          refine lv_goto (tgt := 15) hx hb dX4_isKnownAtMost_116 (by decide) ?_
          exact ih15 x10 _ _ _ Z (lv_sub hl [1, 2, 3, 0] rfl) h
        refine lv_if_ne (tgt := 35) hx hb dX4_isKnownAtMost_29 (by decide) (fun c11 => ?_) (fun c11 => ?_)
        · have h := if_f c11 h
          refine lv_aload_n hx hb dX4_isKnownAtMost_35 rfl (lv_at hl 0 rfl) ?_
          refine cr_X4_servers S X Z hin_X4 (cl_one N 13 (by decide)) hl_30 dX4_isKnownAtMost_36 ?_
          refine lv_iload_n hx hb dX4_isKnownAtMost_39 rfl (lv_at hl 3 rfl) ?_
          refine g_aald (i := (7, 0, 0)) (ca := 2) ⟨rfl, rfl⟩ S X Z (cl_one N 7 (by decide)) rfl dX4_isKnownAtMost_40 h (fun v12 hv12 h => ?_)
          refine cn_X7_tree (a := v12) S X Z hin_X7 (cl_srv hv12) hl_74 dX4_isKnownAtMost_41 ?_
          refine cn_X8_counts (a := v12) S X Z hin_X8 (cl_st (cl_srv hv12)) hl_130 dX4_isKnownAtMost_44 ?_
          refine lv_iload_n hx hb dX4_isKnownAtMost_47 rfl (lv_at hl 1 rfl) ?_
          refine g_aald (i := (54, v12, 0)) (ca := 5) ⟨rfl, rfl⟩ S X Z (cl_X8_counts (cl_st (cl_srv hv12))) rfl dX4_isKnownAtMost_48 h (fun v13 hv13 h => ?_)
          refine lv_aload_n hx hb dX4_isKnownAtMost_49 rfl (lv_at hl 0 rfl) ?_
          refine cr_X4_greater S X Z hin_X4 (cl_one N 13 (by decide)) hl_40 dX4_isKnownAtMost_50 ?_
          obtain ⟨v15, hc14, h⟩ := o1_e h
          refine c_i X Z (c_SN (As := [.ref (A (55, v12, v13)), .ref (A (14, 0, 0))]) (rest := []) S X hN Z (t_X10_isAtMost l N D dA A hJ ⟨(cl_55 (cl_X8_counts (cl_st (cl_srv hv12))) hv13), rfl⟩ ⟨(cl_one N 14 (by decide)), rfl⟩ hc14) ⟨va_cnB 2 hts (cG (cB 264 rfl)) rfl rfl rfl (hN.2 ("ReplicaFiles$Meeting", 133, yX10_isAtMost, "ReplicaFiles") (by decide +kernel)) (hts (.initialized RX10) (cBc 107 rfl)) (by decide +kernel) ⟨Nat.le_of_ble_eq_true rfl, Nat.le_of_ble_eq_true rfl⟩, hts (.static yX10_isAtMost) (cBc 282 rfl), trivial⟩ rfl hl.1 rfl (Nat.le_of_ble_eq_true rfl) dX4_isKnownAtMost_53 ⟨Nat.zero_le _, Nat.zero_le _⟩) (fun H locs Z => ?_)
          refine lv_if_ne (tgt := 61) hx hb dX4_isKnownAtMost_56 (by decide) (fun c16 => ?_) (fun c16 => ?_)
          · have h := if_f c16 h
            refine lv_aload_n hx hb dX4_isKnownAtMost_61 rfl (lv_at hl 0 rfl) ?_
            refine cr_X4_servers S X Z hin_X4 (cl_one N 13 (by decide)) hl_30 dX4_isKnownAtMost_62 ?_
            refine lv_iload_n hx hb dX4_isKnownAtMost_65 rfl (lv_at hl 3 rfl) ?_
            refine g_aald (i := (7, 0, 0)) (ca := 2) ⟨rfl, rfl⟩ S X Z (cl_one N 7 (by decide)) rfl dX4_isKnownAtMost_66 h (fun v17 hv17 h => ?_)
            refine cn_X7_versions (a := v17) S X Z hin_X7 (cl_srv hv17) hl_137 dX4_isKnownAtMost_67 ?_
            refine lv_iload_n hx hb dX4_isKnownAtMost_70 rfl (lv_at hl 1 rfl) ?_
            refine g_aald (i := (21, v17, 0)) (ca := 4) ⟨rfl, rfl⟩ S X Z (cl_X7_versions (cl_srv hv17)) rfl dX4_isKnownAtMost_71 h (fun v18 hv18 h => ?_)
            refine lv_astore (lv' := [(4, .ref (A (60, (48 * v17 + v18), 0))), (0, .ref (A (13, 0, 0))), (1, .int a1), (2, .int v3), (3, .int x4)]) hx hb dX4_isKnownAtMost_72 hl (by decide) rfl (fun ls hl => ?_)
            refine lv_iconst (v := (0 : Int32)) hx hb dX4_isKnownAtMost_74 (by decide) ?_
            refine lv_istore (lv' := [(5, .int (0 : Int32)), (4, .ref (A (60, (48 * v17 + v18), 0))), (0, .ref (A (13, 0, 0))), (1, .int a1), (2, .int v3), (3, .int x4)]) hx hb dX4_isKnownAtMost_75 hl (by decide) rfl (fun ls hl => ?_)
            have hL77 : ∀ (n : Nat) (x19 : Int32) (H : Heap) (locs : List Loc) (ls : Array Slot), gZ D (cLay N) dA (cLive N) A (gA (cLive N) A) s.heap M H locs → lv_has ls 6 [(0, .ref (A (13, 0, 0))), (1, .int a1), (2, .int v3), (3, .int x4), (4, .ref (A (60, (48 * v17 + v18), 0))), (5, .int x19)] → f_X4_isKnownAtMost_L77 N M a1 v3 x4 v17 v18 J113 n x19 = some y → W p l e (headSpec wmX4_isKnownAtMost ({ frames := 2, cells := 0, slots := 0, locals := 45 } : Room)).room s m args below meth c H locs 0 0 (MQ below (cQi N D dA A (y, M)) args s 0 0 (gA (cLive N) A)) (F0 m 77 ls []) := by
              intro n
              induction n with
              | zero =>
                intro x19 H locs ls Z hl h
                rw [f_X4_isKnownAtMost_L77] at h
                cases h
              | succ n21 ih77 =>
                intro x19 H locs ls Z hl h
                rw [f_X4_isKnownAtMost_L77] at h
                refine lv_iload hx hb dX4_isKnownAtMost_77 (lv_at hl 5 rfl) ?_
                refine lv_aload hx hb dX4_isKnownAtMost_79 (lv_at hl 4 rfl) ?_
                refine cn_X9_length (a := (48 * v17 + v18)) S X Z hin_X9 (cl_ver (cl_X7_versions (cl_srv hv17)) hv18) hl_141 dX4_isKnownAtMost_81 h (fun v22 h => ?_)
                refine lv_icmp_ge (tgt := 113) hx hb dX4_isKnownAtMost_84 (by decide) (fun c23 => ?_) (fun c23 => ?_)
                · have h := if_t c23 h
                  exact hJ113  _ _ _ Z (lv_sub hl [0, 1, 2, 3] rfl) h
                · have h := if_f c23 h
                  refine lv_aload hx hb dX4_isKnownAtMost_87 (lv_at hl 4 rfl) ?_
                  refine cn_X9_counts (a := (48 * v17 + v18)) S X Z hin_X9 (cl_ver (cl_X7_versions (cl_srv hv17)) hv18) hl_144 dX4_isKnownAtMost_89 ?_
                  refine lv_iload hx hb dX4_isKnownAtMost_92 (lv_at hl 5 rfl) ?_
                  refine g_aald (i := (63, (48 * v17 + v18), 0)) (ca := 5) ⟨rfl, rfl⟩ S X Z (cl_X9_counts (cl_ver (cl_X7_versions (cl_srv hv17)) hv18)) rfl dX4_isKnownAtMost_94 h (fun v24 hv24 h => ?_)
                  refine lv_aload_n hx hb dX4_isKnownAtMost_95 rfl (lv_at hl 0 rfl) ?_
                  refine cr_X4_greater S X Z hin_X4 (cl_one N 13 (by decide)) hl_40 dX4_isKnownAtMost_96 ?_
                  obtain ⟨v26, hc25, h⟩ := o1_e h
                  refine c_i X Z (c_SN (As := [.ref (A (64, (48 * v17 + v18), v24)), .ref (A (14, 0, 0))]) (rest := []) S X hN Z (t_X10_isAtMost l N D dA A hJ ⟨(cl_64 (cl_X9_counts (cl_ver (cl_X7_versions (cl_srv hv17)) hv18)) hv24), rfl⟩ ⟨(cl_one N 14 (by decide)), rfl⟩ hc25) ⟨va_cnB 2 hts (cG (cB 264 rfl)) rfl rfl rfl (hN.2 ("ReplicaFiles$Meeting", 133, yX10_isAtMost, "ReplicaFiles") (by decide +kernel)) (hts (.initialized RX10) (cBc 107 rfl)) (by decide +kernel) ⟨Nat.le_of_ble_eq_true rfl, Nat.le_of_ble_eq_true rfl⟩, hts (.static yX10_isAtMost) (cBc 282 rfl), trivial⟩ rfl hl.1 rfl (Nat.le_of_ble_eq_true rfl) dX4_isKnownAtMost_99 ⟨Nat.zero_le _, Nat.zero_le _⟩) (fun H locs Z => ?_)
                  refine lv_if_ne (tgt := 107) hx hb dX4_isKnownAtMost_102 (by decide) (fun c27 => ?_) (fun c27 => ?_)
                  · have h := if_f c27 h
                    obtain ⟨x28, ex28, h⟩ := lt_e h
                    refine lv_iinc (v := x28) (lv' := [(5, .int x28), (0, .ref (A (13, 0, 0))), (1, .int a1), (2, .int v3), (3, .int x4), (4, .ref (A (60, (48 * v17 + v18), 0)))]) hx hb dX4_isKnownAtMost_107 hl (k := 5) rfl (by rw [ex28]; rfl) (by decide) rfl (fun ls hl => ?_)
                    refine lv_goto (tgt := 77) hx hb dX4_isKnownAtMost_110 (by decide) ?_
                    exact ih77 x28 _ _ _ Z (lv_sub hl [1, 2, 3, 4, 5, 0] rfl) h
                  · have h := if_t c27 h
                    refine lv_iconst (v := (0 : Int32)) hx hb dX4_isKnownAtMost_105 (by decide) ?_
                    have hy := Option.some.inj h
                    subst hy
                    exact g_rz (Or.inl rfl) S Z hr hlocks dX4_isKnownAtMost_106
            exact hL77 100 (0 : Int32) _ _ _ Z (lv_sub hl [2, 3, 4, 5, 1, 0] rfl) h
          · have h := if_t c16 h
            refine lv_iconst (v := (0 : Int32)) hx hb dX4_isKnownAtMost_59 (by decide) ?_
            have hy := Option.some.inj h
            subst hy
            exact g_rz (Or.inl rfl) S Z hr hlocks dX4_isKnownAtMost_60
        · have h := if_t c11 h
          refine lv_goto (tgt := 113) hx hb dX4_isKnownAtMost_32 (by decide) ?_
          exact hJ113  _ _ _ Z (lv_sub hl [0, 1, 2, 3] rfl) h
  exact hL15 100 (0 : Int32) _ _ _ Z (lv_sub hl [2, 3, 1, 0] rfl) h
-- X4_canBeDropped (I)Z: 74 instructions
theorem dX4_canBeDropped_0 : decode cX4_canBeDropped 0 = .ok (.iconst 0, 1) := by decide +kernel
theorem dX4_canBeDropped_1 : decode cX4_canBeDropped 1 = .ok (.istore_n 2, 1) := by decide +kernel
theorem dX4_canBeDropped_2 : decode cX4_canBeDropped 2 = .ok (.iload_n 2, 1) := by decide +kernel
theorem dX4_canBeDropped_3 : decode cX4_canBeDropped 3 = .ok (.bipush 48, 2) := by decide +kernel
theorem dX4_canBeDropped_5 : decode cX4_canBeDropped 5 = .ok (.if_icmp .ge 25, 3) := by decide +kernel
theorem dX4_canBeDropped_8 : decode cX4_canBeDropped 8 = .ok (.aload_n 0, 1) := by decide +kernel
theorem dX4_canBeDropped_9 : decode cX4_canBeDropped 9 = .ok (.getfield 9, 3) := by decide +kernel
theorem dX4_canBeDropped_12 : decode cX4_canBeDropped 12 = .ok (.iload_n 2, 1) := by decide +kernel
theorem dX4_canBeDropped_13 : decode cX4_canBeDropped 13 = .ok (.iload_n 2, 1) := by decide +kernel
theorem dX4_canBeDropped_14 : decode cX4_canBeDropped 14 = .ok (.iload_n 1, 1) := by decide +kernel
theorem dX4_canBeDropped_15 : decode cX4_canBeDropped 15 = .ok (.if_icmp .ne 7, 3) := by decide +kernel
theorem dX4_canBeDropped_18 : decode cX4_canBeDropped 18 = .ok (.iconst 1, 1) := by decide +kernel
theorem dX4_canBeDropped_19 : decode cX4_canBeDropped 19 = .ok (.goto 4, 3) := by decide +kernel
theorem dX4_canBeDropped_22 : decode cX4_canBeDropped 22 = .ok (.iconst 0, 1) := by decide +kernel
theorem dX4_canBeDropped_23 : decode cX4_canBeDropped 23 = .ok (.bastore, 1) := by decide +kernel
theorem dX4_canBeDropped_24 : decode cX4_canBeDropped 24 = .ok (.iinc 2 1, 3) := by decide +kernel
theorem dX4_canBeDropped_27 : decode cX4_canBeDropped 27 = .ok (.goto (-25), 3) := by decide +kernel
theorem dX4_canBeDropped_30 : decode cX4_canBeDropped 30 = .ok (.aload_n 0, 1) := by decide +kernel
theorem dX4_canBeDropped_31 : decode cX4_canBeDropped 31 = .ok (.iload_n 1, 1) := by decide +kernel
theorem dX4_canBeDropped_32 : decode cX4_canBeDropped 32 = .ok (.invokevirtual 98, 3) := by decide +kernel
theorem dX4_canBeDropped_35 : decode cX4_canBeDropped 35 = .ok (.pop, 1) := by decide +kernel
theorem dX4_canBeDropped_36 : decode cX4_canBeDropped 36 = .ok (.aload_n 0, 1) := by decide +kernel
theorem dX4_canBeDropped_37 : decode cX4_canBeDropped 37 = .ok (.iload_n 1, 1) := by decide +kernel
theorem dX4_canBeDropped_38 : decode cX4_canBeDropped 38 = .ok (.invokevirtual 101, 3) := by decide +kernel
theorem dX4_canBeDropped_41 : decode cX4_canBeDropped 41 = .ok (.ifCond .ne 5, 3) := by decide +kernel
theorem dX4_canBeDropped_44 : decode cX4_canBeDropped 44 = .ok (.iconst 0, 1) := by decide +kernel
theorem dX4_canBeDropped_45 : decode cX4_canBeDropped 45 = .ok (.ireturn, 1) := by decide +kernel
theorem dX4_canBeDropped_46 : decode cX4_canBeDropped 46 = .ok (.iload_n 1, 1) := by decide +kernel
theorem dX4_canBeDropped_47 : decode cX4_canBeDropped 47 = .ok (.iconst 1, 1) := by decide +kernel
theorem dX4_canBeDropped_48 : decode cX4_canBeDropped 48 = .ok (.iadd, 1) := by decide +kernel
theorem dX4_canBeDropped_49 : decode cX4_canBeDropped 49 = .ok (.istore_n 2, 1) := by decide +kernel
theorem dX4_canBeDropped_50 : decode cX4_canBeDropped 50 = .ok (.iload_n 2, 1) := by decide +kernel
theorem dX4_canBeDropped_51 : decode cX4_canBeDropped 51 = .ok (.aload_n 0, 1) := by decide +kernel
theorem dX4_canBeDropped_52 : decode cX4_canBeDropped 52 = .ok (.getfield 25, 3) := by decide +kernel
theorem dX4_canBeDropped_55 : decode cX4_canBeDropped 55 = .ok (.getfield 51, 3) := by decide +kernel
theorem dX4_canBeDropped_58 : decode cX4_canBeDropped 58 = .ok (.if_icmp .gt 67, 3) := by decide +kernel
theorem dX4_canBeDropped_61 : decode cX4_canBeDropped 61 = .ok (.aload_n 0, 1) := by decide +kernel
theorem dX4_canBeDropped_62 : decode cX4_canBeDropped 62 = .ok (.getfield 9, 3) := by decide +kernel
theorem dX4_canBeDropped_65 : decode cX4_canBeDropped 65 = .ok (.iload_n 2, 1) := by decide +kernel
theorem dX4_canBeDropped_66 : decode cX4_canBeDropped 66 = .ok (.aload_n 0, 1) := by decide +kernel
theorem dX4_canBeDropped_67 : decode cX4_canBeDropped 67 = .ok (.getfield 9, 3) := by decide +kernel
theorem dX4_canBeDropped_70 : decode cX4_canBeDropped 70 = .ok (.aload_n 0, 1) := by decide +kernel
theorem dX4_canBeDropped_71 : decode cX4_canBeDropped 71 = .ok (.getfield 25, 3) := by decide +kernel
theorem dX4_canBeDropped_74 : decode cX4_canBeDropped 74 = .ok (.getfield 104, 3) := by decide +kernel
theorem dX4_canBeDropped_77 : decode cX4_canBeDropped 77 = .ok (.iload_n 2, 1) := by decide +kernel
theorem dX4_canBeDropped_78 : decode cX4_canBeDropped 78 = .ok (.iaload, 1) := by decide +kernel
theorem dX4_canBeDropped_79 : decode cX4_canBeDropped 79 = .ok (.baload, 1) := by decide +kernel
theorem dX4_canBeDropped_80 : decode cX4_canBeDropped 80 = .ok (.bastore, 1) := by decide +kernel
theorem dX4_canBeDropped_81 : decode cX4_canBeDropped 81 = .ok (.aload_n 0, 1) := by decide +kernel
theorem dX4_canBeDropped_82 : decode cX4_canBeDropped 82 = .ok (.getfield 9, 3) := by decide +kernel
theorem dX4_canBeDropped_85 : decode cX4_canBeDropped 85 = .ok (.iload_n 2, 1) := by decide +kernel
theorem dX4_canBeDropped_86 : decode cX4_canBeDropped 86 = .ok (.baload, 1) := by decide +kernel
theorem dX4_canBeDropped_87 : decode cX4_canBeDropped 87 = .ok (.ifCond .ne 6, 3) := by decide +kernel
theorem dX4_canBeDropped_90 : decode cX4_canBeDropped 90 = .ok (.goto 29, 3) := by decide +kernel
theorem dX4_canBeDropped_93 : decode cX4_canBeDropped 93 = .ok (.aload_n 0, 1) := by decide +kernel
theorem dX4_canBeDropped_94 : decode cX4_canBeDropped 94 = .ok (.iload_n 2, 1) := by decide +kernel
theorem dX4_canBeDropped_95 : decode cX4_canBeDropped 95 = .ok (.invokevirtual 98, 3) := by decide +kernel
theorem dX4_canBeDropped_98 : decode cX4_canBeDropped 98 = .ok (.istore_n 3, 1) := by decide +kernel
theorem dX4_canBeDropped_99 : decode cX4_canBeDropped 99 = .ok (.iload_n 3, 1) := by decide +kernel
theorem dX4_canBeDropped_100 : decode cX4_canBeDropped 100 = .ok (.iconst 1, 1) := by decide +kernel
theorem dX4_canBeDropped_101 : decode cX4_canBeDropped 101 = .ok (.if_icmp .eq 16, 3) := by decide +kernel
theorem dX4_canBeDropped_104 : decode cX4_canBeDropped 104 = .ok (.iload_n 3, 1) := by decide +kernel
theorem dX4_canBeDropped_105 : decode cX4_canBeDropped 105 = .ok (.iconst 2, 1) := by decide +kernel
theorem dX4_canBeDropped_106 : decode cX4_canBeDropped 106 = .ok (.if_icmp .ne 13, 3) := by decide +kernel
theorem dX4_canBeDropped_109 : decode cX4_canBeDropped 109 = .ok (.aload_n 0, 1) := by decide +kernel
theorem dX4_canBeDropped_110 : decode cX4_canBeDropped 110 = .ok (.iload_n 2, 1) := by decide +kernel
theorem dX4_canBeDropped_111 : decode cX4_canBeDropped 111 = .ok (.invokevirtual 101, 3) := by decide +kernel
theorem dX4_canBeDropped_114 : decode cX4_canBeDropped 114 = .ok (.ifCond .ne 5, 3) := by decide +kernel
theorem dX4_canBeDropped_117 : decode cX4_canBeDropped 117 = .ok (.iconst 0, 1) := by decide +kernel
theorem dX4_canBeDropped_118 : decode cX4_canBeDropped 118 = .ok (.ireturn, 1) := by decide +kernel
theorem dX4_canBeDropped_119 : decode cX4_canBeDropped 119 = .ok (.iinc 2 1, 3) := by decide +kernel
theorem dX4_canBeDropped_122 : decode cX4_canBeDropped 122 = .ok (.goto (-72), 3) := by decide +kernel
theorem dX4_canBeDropped_125 : decode cX4_canBeDropped 125 = .ok (.iconst 1, 1) := by decide +kernel
theorem dX4_canBeDropped_126 : decode cX4_canBeDropped 126 = .ok (.ireturn, 1) := by decide +kernel
abbrev wmX4_canBeDropped : List Cond := .code yX4_canBeDropped cX4_canBeDropped 4 (some .boolean) :: cBig
def f_X4_canBeDropped_L50 (N : Nat) : Nat → Int32 → gM → Option (Int32 × gM)
  | 0, _, _ => none
  | n11 + 1, x9, M10 => lt (M10 (1, 0, 0) 3) (fun v12 => (if v12 < x9 then some ((1 : Int32), M10) else rd M10 (2, 0, 0) 48 x9 (fun v14 => rd M10 (15, 0, 0) 48 v14 (fun v15 => wz M10 (15, 0, 0) 48 x9 v15 (fun M16 => rd M16 (15, 0, 0) 48 x9 (fun v17 => jn (fun (M18 : gM) => lt (x9 + 1) (fun x19 => f_X4_canBeDropped_L50 N n11 x19 M18)) (fun J119 => (if v17 = 0 then J119 M16 else ob (f_X4_joinedState N M16 x9) (fun v23 M22 => (if v23 = (1 : Int32) then some ((0 : Int32), M22) else (if v23 = (2 : Int32) then o1 (f_X4_isKnownAtMost N M22 x9) (fun v27 => (if v27 = 0 then some ((0 : Int32), M22) else J119 M22)) else J119 M22)))))))))))
def f_X4_canBeDropped_L2 (N : Nat) (a1 : Int32) (J30 : gM → Option (Int32 × gM)) : Nat → Int32 → gM → Option (Int32 × gM)
  | 0, _, _ => none
  | n31 + 1, x29, M30 => (if (48 : Int32) ≤ x29 then J30 M30 else jn (fun (q : (Int32 × gM)) => match q with | (b33, M34) => wz M34 (15, 0, 0) 48 x29 b33 (fun M35 => lt (x29 + 1) (fun x36 => f_X4_canBeDropped_L2 N a1 J30 n31 x36 M35))) (fun J23 => (if x29 = a1 then J23 ((1 : Int32), M30) else J23 ((0 : Int32), M30))))
def f_X4_canBeDropped (N : Nat) (M : gM) (a1 : Int32) : Option (Int32 × gM) :=
  jn (fun (M1 : gM) => ob (f_X4_joinedState N M1 a1) (fun v4 M3 => o1 (f_X4_isKnownAtMost N M3 a1) (fun v6 => (if v6 = 0 then some ((0 : Int32), M3) else lt ((a1 + (1 : Int32))) (fun x8 => f_X4_canBeDropped_L50 N 100 x8 M3))))) (fun J30 => f_X4_canBeDropped_L2 N a1 J30 100 (0 : Int32) M)
set_option maxHeartbeats 4000000 in
set_option maxRecDepth 100000 in
theorem t_X4_canBeDropped (l : Launch) (N : Nat) (D : va_G) (dA : Nat → ClassId) (A : gI → Nat) (hJ : gJ (cLive N) A) {M : gM} {a1 : Int32}  {y : (Int32 × gM)} (h : f_X4_canBeDropped N M a1 = some y) : cMi l yX4_canBeDropped wmX4_canBeDropped ({ frames := 3, cells := 0, slots := 0, locals := 70 } : Room) N D dA A [.ref (A (13, 0, 0)), .int a1] M y.1 y.2 := by
  refine Met.ofW (cc := cX4_canBeDropped) (maxL := 4) (ret := (some .boolean)) (by decide) rfl ?_
  intro p e s m args below meth c s₁ B hml hv
  obtain ⟨rfl, hP, hK, hN⟩ := hv
  generalize hargs : ([.ref (A (13, 0, 0)), .int a1] : List Value).toArray = args at B ⊢
  have S : CallFix p m c cX4_canBeDropped 4 s args wmX4_canBeDropped RX4 := ⟨B.exec, B.bytes, hml, findClass_of_methodNamed B.named, atoms_spec (ws := wmX4_canBeDropped) B.pre⟩
  obtain ⟨hx, hb, -, hown, hts⟩ := id S
  have hr := B.returns
  have hlocks := B.notSynchronized
  have X : gX D vwCl dA (cLive N) A (gA (cLive N) A) s := ⟨hK, hJ, fun i hi => ⟨i, hi, rfl⟩⟩
  have Z : gZ D (cLay N) dA (cLive N) A (gA (cLive N) A) s.heap M s.heap [] := ⟨hP, va_S.rf⟩
  have hin_X0 : ∀ w ∈ wsX00, w ∈ wmX4_canBeDropped := cin_X0
  have hin_X4 : ∀ w ∈ wsX40, w ∈ wmX4_canBeDropped := cin_X4
  have hl_9 := hts (.fieldLink RX4 9 "ReplicaFiles$Meeting" "inside" "[Z") (cBc 322 rfl)
  have hl_25 := hts (.fieldLink RX4 25 "ReplicaFiles$Meeting" "catalog" "LReplicaFiles$Catalog;") (cBc 324 rfl)
  have hl_51 := va_Nw.use (A := args) rfl (hN.1 ("ReplicaFiles$Meeting", 51, "ReplicaFiles$Catalog", "made", "I", "ReplicaFiles") (by decide +kernel))
  have hl_104 := va_Nw.use (A := args) rfl (hN.1 ("ReplicaFiles$Meeting", 104, "ReplicaFiles$Catalog", "parent", "[I", "ReplicaFiles") (by decide +kernel))
  have hl := lv_entry ([.ref (A (13, 0, 0)), .int a1]) (n := 4) (Nat.le_of_ble_eq_true rfl)
  rw [← hargs, lg_entry_eq, hargs]
  generalize (lg_sl ([.ref (A (13, 0, 0)), .int a1]) ++ List.replicate (4 - (lg_sl ([.ref (A (13, 0, 0)), .int a1])).length) Slot.unset).toArray = ls at hl ⊢
  have hl : lv_has ls 4 [(0, .ref (A (13, 0, 0))), (1, .int a1)] := hl
  unfold f_X4_canBeDropped at h
  refine lv_iconst (v := (0 : Int32)) hx hb dX4_canBeDropped_0 (by decide) ?_
  refine lv_istore_n (lv' := [(2, .int (0 : Int32)), (0, .ref (A (13, 0, 0))), (1, .int a1)]) hx hb dX4_canBeDropped_1 rfl hl (by decide) rfl (fun ls hl => ?_)
  obtain ⟨J30, eJ30, h⟩ := jn_e h
  have hJ30 : ∀ (M1 : gM) (H : Heap) (locs : List Loc) (ls : Array Slot), gZ D (cLay N) dA (cLive N) A (gA (cLive N) A) s.heap M1 H locs → lv_has ls 4 [(0, .ref (A (13, 0, 0))), (1, .int a1)] → J30 M1 = some y → W p l e (headSpec wmX4_canBeDropped ({ frames := 3, cells := 0, slots := 0, locals := 70 } : Room)).room s m args below meth c H locs 0 0 (MQ below (cQi N D dA A y) args s 0 0 (gA (cLive N) A)) (F0 m 30 ls []) := by
    intro M1 H locs ls Z hl h
    rw [eJ30] at h
    try dsimp only at h
    refine lv_aload_n hx hb dX4_canBeDropped_30 rfl (lv_at hl 0 rfl) ?_
    refine lv_iload_n hx hb dX4_canBeDropped_31 rfl (lv_at hl 1 rfl) ?_
    obtain ⟨v4, M3, hc2, h⟩ := ob_e h
    refine c_i X Z (c_V (i := (13, 0, 0)) (As := [.int a1]) (rest := []) S X hN Z (cl_one N 13 (by decide)) rfl rfl (t_X4_joinedState l N D dA A hJ  hc2) (cwV 1 hts (cGV (cB 338 rfl) (cB 339 rfl) (cB 340 rfl) (cB 341 rfl) (cB 332 rfl)) rfl rfl rfl (by decide +kernel) ⟨Nat.le_of_ble_eq_true rfl, Nat.le_of_ble_eq_true rfl⟩) rfl hl.1 rfl (Nat.le_of_ble_eq_true rfl) dX4_canBeDropped_32 ⟨Nat.zero_le _, Nat.zero_le _⟩) (fun H locs Z => ?_)
    refine lv_pop hx hb dX4_canBeDropped_35 rfl ?_
    refine lv_aload_n hx hb dX4_canBeDropped_36 rfl (lv_at hl 0 rfl) ?_
    refine lv_iload_n hx hb dX4_canBeDropped_37 rfl (lv_at hl 1 rfl) ?_
    obtain ⟨v6, hc5, h⟩ := o1_e h
    refine c_i X Z (c_V (i := (13, 0, 0)) (As := [.int a1]) (rest := []) S X hN Z (cl_one N 13 (by decide)) rfl rfl (t_X4_isKnownAtMost l N D dA A hJ  hc5) (cwV 1 hts (cGV (cB 342 rfl) (cB 343 rfl) (cB 344 rfl) (cB 341 rfl) (cB 336 rfl)) rfl rfl rfl (by decide +kernel) ⟨Nat.le_of_ble_eq_true rfl, Nat.le_of_ble_eq_true rfl⟩) rfl hl.1 rfl (Nat.le_of_ble_eq_true rfl) dX4_canBeDropped_38 ⟨Nat.zero_le _, Nat.zero_le _⟩) (fun H locs Z => ?_)
    refine lv_if_ne (tgt := 46) hx hb dX4_canBeDropped_41 (by decide) (fun c7 => ?_) (fun c7 => ?_)
    · have h := if_f c7 h
      refine lv_iload_n hx hb dX4_canBeDropped_46 rfl (lv_at hl 1 rfl) ?_
      refine lv_iconst (v := (1 : Int32)) hx hb dX4_canBeDropped_47 (by decide) ?_
      refine lv_iadd hx hb dX4_canBeDropped_48 ?_
      refine g_topi h (fun x8 h => ?_)
      refine lv_istore_n (lv' := [(2, .int x8), (0, .ref (A (13, 0, 0))), (1, .int a1)]) hx hb dX4_canBeDropped_49 rfl hl (by decide) rfl (fun ls hl => ?_)
      have hL50 : ∀ (n : Nat) (x9 : Int32) (M10 : gM) (H : Heap) (locs : List Loc) (ls : Array Slot), gZ D (cLay N) dA (cLive N) A (gA (cLive N) A) s.heap M10 H locs → lv_has ls 4 [(0, .ref (A (13, 0, 0))), (2, .int x9)] → f_X4_canBeDropped_L50 N n x9 M10 = some y → W p l e (headSpec wmX4_canBeDropped ({ frames := 3, cells := 0, slots := 0, locals := 70 } : Room)).room s m args below meth c H locs 0 0 (MQ below (cQi N D dA A y) args s 0 0 (gA (cLive N) A)) (F0 m 50 ls []) := by
        intro n
        induction n with
        | zero =>
          intro x9 M10 H locs ls Z hl h
          rw [f_X4_canBeDropped_L50] at h
          cases h
        | succ n11 ih50 =>
          intro x9 M10 H locs ls Z hl h
          rw [f_X4_canBeDropped_L50] at h
          refine lv_iload_n hx hb dX4_canBeDropped_50 rfl (lv_at hl 1 rfl) ?_
          refine lv_aload_n hx hb dX4_canBeDropped_51 rfl (lv_at hl 0 rfl) ?_
          refine cr_X4_catalog S X Z hin_X4 (cl_one N 13 (by decide)) hl_25 dX4_canBeDropped_52 ?_
          refine cn_X0_made S X Z hin_X0 (cl_one N 1 (by decide)) hl_51 dX4_canBeDropped_55 h (fun v12 h => ?_)
          refine lv_icmp_gt (tgt := 125) hx hb dX4_canBeDropped_58 (by decide) (fun c13 => ?_) (fun c13 => ?_)
          · have h := if_t c13 h
            refine lv_iconst (v := (1 : Int32)) hx hb dX4_canBeDropped_125 (by decide) ?_
            have hy := Option.some.inj h
            subst hy
            exact g_rz (Or.inr rfl) S Z hr hlocks dX4_canBeDropped_126
          · have h := if_f c13 h
            refine lv_aload_n hx hb dX4_canBeDropped_61 rfl (lv_at hl 0 rfl) ?_
            refine cr_X4_inside S X Z hin_X4 (cl_one N 13 (by decide)) hl_9 dX4_canBeDropped_62 ?_
            refine lv_iload_n hx hb dX4_canBeDropped_65 rfl (lv_at hl 1 rfl) ?_
            refine lv_aload_n hx hb dX4_canBeDropped_66 rfl (lv_at hl 0 rfl) ?_
            refine cr_X4_inside S X Z hin_X4 (cl_one N 13 (by decide)) hl_9 dX4_canBeDropped_67 ?_
            refine lv_aload_n hx hb dX4_canBeDropped_70 rfl (lv_at hl 0 rfl) ?_
            refine cr_X4_catalog S X Z hin_X4 (cl_one N 13 (by decide)) hl_25 dX4_canBeDropped_71 ?_
            refine cn_X0_parent S X Z hin_X0 (cl_one N 1 (by decide)) hl_104 dX4_canBeDropped_74 ?_
            refine lv_iload_n hx hb dX4_canBeDropped_77 rfl (lv_at hl 1 rfl) ?_
            refine g_iald (i := (2, 0, 0)) (n := 48) S X Z (cl_one N 2 (by decide)) rfl dX4_canBeDropped_78 h (fun v14 h => ?_)
            refine g_zald (i := (15, 0, 0)) (n := 48) S X Z (cl_one N 15 (by decide)) rfl dX4_canBeDropped_79 h (fun v15 h => ?_)
            refine g_zast (i := (15, 0, 0)) (n := 48) S X Z (cl_one N 15 (by decide)) rfl dX4_canBeDropped_80 h (fun M16 H locs Z h => ?_)
            refine lv_aload_n hx hb dX4_canBeDropped_81 rfl (lv_at hl 0 rfl) ?_
            refine cr_X4_inside S X Z hin_X4 (cl_one N 13 (by decide)) hl_9 dX4_canBeDropped_82 ?_
            refine lv_iload_n hx hb dX4_canBeDropped_85 rfl (lv_at hl 1 rfl) ?_
            refine g_zald (i := (15, 0, 0)) (n := 48) S X Z (cl_one N 15 (by decide)) rfl dX4_canBeDropped_86 h (fun v17 h => ?_)
            obtain ⟨J119, eJ119, h⟩ := jn_e h
            have hJ119 : ∀ (M18 : gM) (H : Heap) (locs : List Loc) (ls : Array Slot), gZ D (cLay N) dA (cLive N) A (gA (cLive N) A) s.heap M18 H locs → lv_has ls 4 [(0, .ref (A (13, 0, 0))), (2, .int x9)] → J119 M18 = some y → W p l e (headSpec wmX4_canBeDropped ({ frames := 3, cells := 0, slots := 0, locals := 70 } : Room)).room s m args below meth c H locs 0 0 (MQ below (cQi N D dA A y) args s 0 0 (gA (cLive N) A)) (F0 m 119 ls []) := by
              intro M18 H locs ls Z hl h
              rw [eJ119] at h
              try dsimp only at h
              obtain ⟨x19, ex19, h⟩ := lt_e h
              refine lv_iinc (v := x19) (lv' := [(2, .int x19), (0, .ref (A (13, 0, 0)))]) hx hb dX4_canBeDropped_119 hl (k := 1) rfl (by rw [ex19]; rfl) (by decide) rfl (fun ls hl => ?_)
              refine lv_goto (tgt := 50) hx hb dX4_canBeDropped_122 (by decide) ?_
              exact ih50 x19 M18 _ _ _ Z (lv_sub hl [1, 0] rfl) h
            refine lv_if_ne (tgt := 93) hx hb dX4_canBeDropped_87 (by decide) (fun c20 => ?_) (fun c20 => ?_)
            · have h := if_f c20 h
              refine lv_aload_n hx hb dX4_canBeDropped_93 rfl (lv_at hl 0 rfl) ?_
              refine lv_iload_n hx hb dX4_canBeDropped_94 rfl (lv_at hl 1 rfl) ?_
              obtain ⟨v23, M22, hc21, h⟩ := ob_e h
              refine c_i X Z (c_V (i := (13, 0, 0)) (As := [.int x9]) (rest := []) S X hN Z (cl_one N 13 (by decide)) rfl rfl (t_X4_joinedState l N D dA A hJ  hc21) (cwV 1 hts (cGV (cB 338 rfl) (cB 339 rfl) (cB 340 rfl) (cB 341 rfl) (cB 332 rfl)) rfl rfl rfl (by decide +kernel) ⟨Nat.le_of_ble_eq_true rfl, Nat.le_of_ble_eq_true rfl⟩) rfl hl.1 rfl (Nat.le_of_ble_eq_true rfl) dX4_canBeDropped_95 ⟨Nat.zero_le _, Nat.zero_le _⟩) (fun H locs Z => ?_)
              refine lv_istore_n (lv' := [(3, .int v23), (0, .ref (A (13, 0, 0))), (2, .int x9)]) hx hb dX4_canBeDropped_98 rfl hl (by decide) rfl (fun ls hl => ?_)
              refine lv_iload_n hx hb dX4_canBeDropped_99 rfl (lv_at hl 0 rfl) ?_
              refine lv_iconst (v := (1 : Int32)) hx hb dX4_canBeDropped_100 (by decide) ?_
              refine lv_icmp_eq (tgt := 117) hx hb dX4_canBeDropped_101 (by decide) (fun c24 => ?_) (fun c24 => ?_)
              · have h := if_t c24 h
                refine lv_iconst (v := (0 : Int32)) hx hb dX4_canBeDropped_117 (by decide) ?_
                have hy := Option.some.inj h
                subst hy
                exact g_rz (Or.inl rfl) S Z hr hlocks dX4_canBeDropped_118
              · have h := if_f c24 h
                refine lv_iload_n hx hb dX4_canBeDropped_104 rfl (lv_at hl 0 rfl) ?_
                refine lv_iconst (v := (2 : Int32)) hx hb dX4_canBeDropped_105 (by decide) ?_
                refine lv_icmp_ne (tgt := 119) hx hb dX4_canBeDropped_106 (by decide) (fun c25 => ?_) (fun c25 => ?_)
                · have h := if_f c25 h
                  exact hJ119 M22 _ _ _ Z (lv_sub hl [1, 2] rfl) h
                · have h := if_t c25 h
                  refine lv_aload_n hx hb dX4_canBeDropped_109 rfl (lv_at hl 1 rfl) ?_
                  refine lv_iload_n hx hb dX4_canBeDropped_110 rfl (lv_at hl 2 rfl) ?_
                  obtain ⟨v27, hc26, h⟩ := o1_e h
                  refine c_i X Z (c_V (i := (13, 0, 0)) (As := [.int x9]) (rest := []) S X hN Z (cl_one N 13 (by decide)) rfl rfl (t_X4_isKnownAtMost l N D dA A hJ  hc26) (cwV 1 hts (cGV (cB 342 rfl) (cB 343 rfl) (cB 344 rfl) (cB 341 rfl) (cB 336 rfl)) rfl rfl rfl (by decide +kernel) ⟨Nat.le_of_ble_eq_true rfl, Nat.le_of_ble_eq_true rfl⟩) rfl hl.1 rfl (Nat.le_of_ble_eq_true rfl) dX4_canBeDropped_111 ⟨Nat.zero_le _, Nat.zero_le _⟩) (fun H locs Z => ?_)
                  refine lv_if_ne (tgt := 119) hx hb dX4_canBeDropped_114 (by decide) (fun c28 => ?_) (fun c28 => ?_)
                  · have h := if_f c28 h
                    exact hJ119 M22 _ _ _ Z (lv_sub hl [1, 2] rfl) h
                  · have h := if_t c28 h
                    refine lv_iconst (v := (0 : Int32)) hx hb dX4_canBeDropped_117 (by decide) ?_
                    have hy := Option.some.inj h
                    subst hy
                    exact g_rz (Or.inl rfl) S Z hr hlocks dX4_canBeDropped_118
            · have h := if_t c20 h
              refine lv_goto (tgt := 119) hx hb dX4_canBeDropped_90 (by decide) ?_
              exact hJ119 M16 _ _ _ Z (lv_sub hl [0, 1] rfl) h
      exact hL50 100 x8 M3 _ _ _ Z (lv_sub hl [1, 0] rfl) h
    · have h := if_t c7 h
      refine lv_iconst (v := (0 : Int32)) hx hb dX4_canBeDropped_44 (by decide) ?_
      have hy := Option.some.inj h
      subst hy
      exact g_rz (Or.inl rfl) S Z hr hlocks dX4_canBeDropped_45
  have hL2 : ∀ (n : Nat) (x29 : Int32) (M30 : gM) (H : Heap) (locs : List Loc) (ls : Array Slot), gZ D (cLay N) dA (cLive N) A (gA (cLive N) A) s.heap M30 H locs → lv_has ls 4 [(0, .ref (A (13, 0, 0))), (1, .int a1), (2, .int x29)] → f_X4_canBeDropped_L2 N a1 J30 n x29 M30 = some y → W p l e (headSpec wmX4_canBeDropped ({ frames := 3, cells := 0, slots := 0, locals := 70 } : Room)).room s m args below meth c H locs 0 0 (MQ below (cQi N D dA A y) args s 0 0 (gA (cLive N) A)) (F0 m 2 ls []) := by
    intro n
    induction n with
    | zero =>
      intro x29 M30 H locs ls Z hl h
      rw [f_X4_canBeDropped_L2] at h
      cases h
    | succ n31 ih2 =>
      intro x29 M30 H locs ls Z hl h
      rw [f_X4_canBeDropped_L2] at h
      refine lv_iload_n hx hb dX4_canBeDropped_2 rfl (lv_at hl 2 rfl) ?_
      refine lv_bipush (v := (48 : Int32)) hx hb dX4_canBeDropped_3 (by decide) ?_
      refine lv_icmp_ge (tgt := 30) hx hb dX4_canBeDropped_5 (by decide) (fun c32 => ?_) (fun c32 => ?_)
      · have h := if_t c32 h
        exact hJ30 M30 _ _ _ Z (lv_sub hl [0, 1] rfl) h
      · have h := if_f c32 h
        refine lv_aload_n hx hb dX4_canBeDropped_8 rfl (lv_at hl 0 rfl) ?_
        refine cr_X4_inside S X Z hin_X4 (cl_one N 13 (by decide)) hl_9 dX4_canBeDropped_9 ?_
        refine lv_iload_n hx hb dX4_canBeDropped_12 rfl (lv_at hl 2 rfl) ?_
        refine lv_iload_n hx hb dX4_canBeDropped_13 rfl (lv_at hl 2 rfl) ?_
        refine lv_iload_n hx hb dX4_canBeDropped_14 rfl (lv_at hl 1 rfl) ?_
        obtain ⟨J23, eJ23, h⟩ := jn_e h
        have hJ23 : ∀ (b33 : Int32) (M34 : gM) (H : Heap) (locs : List Loc) (ls : Array Slot), gZ D (cLay N) dA (cLive N) A (gA (cLive N) A) s.heap M34 H locs → lv_has ls 4 [(0, .ref (A (13, 0, 0))), (1, .int a1), (2, .int x29)] → J23 (b33, M34) = some y → W p l e (headSpec wmX4_canBeDropped ({ frames := 3, cells := 0, slots := 0, locals := 70 } : Room)).room s m args below meth c H locs 0 0 (MQ below (cQi N D dA A y) args s 0 0 (gA (cLive N) A)) (F0 m 23 ls [.int b33, .int x29, .ref (A (15, 0, 0))]) := by
          intro b33 M34 H locs ls Z hl h
          rw [eJ23] at h
          try dsimp only at h
          refine g_zast (i := (15, 0, 0)) (n := 48) S X Z (cl_one N 15 (by decide)) rfl dX4_canBeDropped_23 h (fun M35 H locs Z h => ?_)
          obtain ⟨x36, ex36, h⟩ := lt_e h
          refine lv_iinc (v := x36) (lv' := [(2, .int x36), (0, .ref (A (13, 0, 0))), (1, .int a1)]) hx hb dX4_canBeDropped_24 hl (k := 2) rfl (by rw [ex36]; rfl) (by decide) rfl (fun ls hl => ?_)
          refine lv_goto (tgt := 2) hx hb dX4_canBeDropped_27 (by decide) ?_
          exact ih2 x36 M35 _ _ _ Z (lv_sub hl [1, 2, 0] rfl) h
        refine lv_icmp_ne (tgt := 22) hx hb dX4_canBeDropped_15 (by decide) (fun c37 => ?_) (fun c37 => ?_)
        · have h := if_f c37 h
          refine lv_iconst (v := (0 : Int32)) hx hb dX4_canBeDropped_22 (by decide) ?_
          exact hJ23 (0 : Int32) M30 _ _ _ Z (lv_sub hl [0, 1, 2] rfl) h
        · have h := if_t c37 h
          refine lv_iconst (v := (1 : Int32)) hx hb dX4_canBeDropped_18 (by decide) ?_
          refine lv_goto (tgt := 23) hx hb dX4_canBeDropped_19 (by decide) ?_
          exact hJ23 (1 : Int32) M30 _ _ _ Z (lv_sub hl [0, 1, 2] rfl) h
  exact hL2 100 (0 : Int32) M _ _ _ Z (lv_sub hl [1, 2, 0] rfl) h
-- J6_bitCount_0f7a4 (I)I: 42 instructions
theorem dJ6_bitCount_0f7a4_0 : decode cJ6_bitCount_0f7a4 0 = .ok (.iload_n 0, 1) := by decide +kernel
theorem dJ6_bitCount_0f7a4_1 : decode cJ6_bitCount_0f7a4 1 = .ok (.iload_n 0, 1) := by decide +kernel
theorem dJ6_bitCount_0f7a4_2 : decode cJ6_bitCount_0f7a4 2 = .ok (.iconst 1, 1) := by decide +kernel
theorem dJ6_bitCount_0f7a4_3 : decode cJ6_bitCount_0f7a4 3 = .ok (.iushr, 1) := by decide +kernel
theorem dJ6_bitCount_0f7a4_4 : decode cJ6_bitCount_0f7a4 4 = .ok (.ldc_w 265, 3) := by decide +kernel
theorem dJ6_bitCount_0f7a4_7 : decode cJ6_bitCount_0f7a4 7 = .ok (.iand, 1) := by decide +kernel
theorem dJ6_bitCount_0f7a4_8 : decode cJ6_bitCount_0f7a4 8 = .ok (.isub, 1) := by decide +kernel
theorem dJ6_bitCount_0f7a4_9 : decode cJ6_bitCount_0f7a4 9 = .ok (.istore_n 0, 1) := by decide +kernel
theorem dJ6_bitCount_0f7a4_10 : decode cJ6_bitCount_0f7a4 10 = .ok (.iload_n 0, 1) := by decide +kernel
theorem dJ6_bitCount_0f7a4_11 : decode cJ6_bitCount_0f7a4 11 = .ok (.ldc_w 266, 3) := by decide +kernel
theorem dJ6_bitCount_0f7a4_14 : decode cJ6_bitCount_0f7a4 14 = .ok (.iand, 1) := by decide +kernel
theorem dJ6_bitCount_0f7a4_15 : decode cJ6_bitCount_0f7a4 15 = .ok (.iload_n 0, 1) := by decide +kernel
theorem dJ6_bitCount_0f7a4_16 : decode cJ6_bitCount_0f7a4 16 = .ok (.iconst 2, 1) := by decide +kernel
theorem dJ6_bitCount_0f7a4_17 : decode cJ6_bitCount_0f7a4 17 = .ok (.iushr, 1) := by decide +kernel
theorem dJ6_bitCount_0f7a4_18 : decode cJ6_bitCount_0f7a4 18 = .ok (.ldc_w 266, 3) := by decide +kernel
theorem dJ6_bitCount_0f7a4_21 : decode cJ6_bitCount_0f7a4 21 = .ok (.iand, 1) := by decide +kernel
theorem dJ6_bitCount_0f7a4_22 : decode cJ6_bitCount_0f7a4 22 = .ok (.iadd, 1) := by decide +kernel
theorem dJ6_bitCount_0f7a4_23 : decode cJ6_bitCount_0f7a4 23 = .ok (.istore_n 0, 1) := by decide +kernel
theorem dJ6_bitCount_0f7a4_24 : decode cJ6_bitCount_0f7a4 24 = .ok (.iload_n 0, 1) := by decide +kernel
theorem dJ6_bitCount_0f7a4_25 : decode cJ6_bitCount_0f7a4 25 = .ok (.iload_n 0, 1) := by decide +kernel
theorem dJ6_bitCount_0f7a4_26 : decode cJ6_bitCount_0f7a4 26 = .ok (.iconst 4, 1) := by decide +kernel
theorem dJ6_bitCount_0f7a4_27 : decode cJ6_bitCount_0f7a4 27 = .ok (.iushr, 1) := by decide +kernel
theorem dJ6_bitCount_0f7a4_28 : decode cJ6_bitCount_0f7a4 28 = .ok (.iadd, 1) := by decide +kernel
theorem dJ6_bitCount_0f7a4_29 : decode cJ6_bitCount_0f7a4 29 = .ok (.ldc_w 267, 3) := by decide +kernel
theorem dJ6_bitCount_0f7a4_32 : decode cJ6_bitCount_0f7a4 32 = .ok (.iand, 1) := by decide +kernel
theorem dJ6_bitCount_0f7a4_33 : decode cJ6_bitCount_0f7a4 33 = .ok (.istore_n 0, 1) := by decide +kernel
theorem dJ6_bitCount_0f7a4_34 : decode cJ6_bitCount_0f7a4 34 = .ok (.iload_n 0, 1) := by decide +kernel
theorem dJ6_bitCount_0f7a4_35 : decode cJ6_bitCount_0f7a4 35 = .ok (.iload_n 0, 1) := by decide +kernel
theorem dJ6_bitCount_0f7a4_36 : decode cJ6_bitCount_0f7a4 36 = .ok (.bipush 8, 2) := by decide +kernel
theorem dJ6_bitCount_0f7a4_38 : decode cJ6_bitCount_0f7a4 38 = .ok (.iushr, 1) := by decide +kernel
theorem dJ6_bitCount_0f7a4_39 : decode cJ6_bitCount_0f7a4 39 = .ok (.iadd, 1) := by decide +kernel
theorem dJ6_bitCount_0f7a4_40 : decode cJ6_bitCount_0f7a4 40 = .ok (.istore_n 0, 1) := by decide +kernel
theorem dJ6_bitCount_0f7a4_41 : decode cJ6_bitCount_0f7a4 41 = .ok (.iload_n 0, 1) := by decide +kernel
theorem dJ6_bitCount_0f7a4_42 : decode cJ6_bitCount_0f7a4 42 = .ok (.iload_n 0, 1) := by decide +kernel
theorem dJ6_bitCount_0f7a4_43 : decode cJ6_bitCount_0f7a4 43 = .ok (.bipush 16, 2) := by decide +kernel
theorem dJ6_bitCount_0f7a4_45 : decode cJ6_bitCount_0f7a4 45 = .ok (.iushr, 1) := by decide +kernel
theorem dJ6_bitCount_0f7a4_46 : decode cJ6_bitCount_0f7a4 46 = .ok (.iadd, 1) := by decide +kernel
theorem dJ6_bitCount_0f7a4_47 : decode cJ6_bitCount_0f7a4 47 = .ok (.istore_n 0, 1) := by decide +kernel
theorem dJ6_bitCount_0f7a4_48 : decode cJ6_bitCount_0f7a4 48 = .ok (.iload_n 0, 1) := by decide +kernel
theorem dJ6_bitCount_0f7a4_49 : decode cJ6_bitCount_0f7a4 49 = .ok (.bipush 63, 2) := by decide +kernel
theorem dJ6_bitCount_0f7a4_51 : decode cJ6_bitCount_0f7a4 51 = .ok (.iand, 1) := by decide +kernel
theorem dJ6_bitCount_0f7a4_52 : decode cJ6_bitCount_0f7a4 52 = .ok (.ireturn, 1) := by decide +kernel
abbrev wmJ6_bitCount_0f7a4 : List Cond := .code yJ6_bitCount_0f7a4 cJ6_bitCount_0f7a4 1 (some .int) :: cBig
def f_J6_bitCount_0f7a4 (N : Nat) (M : gM) (a0 : Int32) : Option Int32 :=
  lt ((a0 - ((((a0).toUInt32 >>> (((1 : Int32)).toUInt32 &&& Int32.toUInt32 31)).toInt32) &&& (1431655765 : Int32)))) (fun x1 => lt (((x1 &&& (858993459 : Int32)) + ((((x1).toUInt32 >>> (((2 : Int32)).toUInt32 &&& Int32.toUInt32 31)).toInt32) &&& (858993459 : Int32)))) (fun x2 => lt (((x2 + (((x2).toUInt32 >>> (((4 : Int32)).toUInt32 &&& Int32.toUInt32 31)).toInt32)) &&& (252645135 : Int32))) (fun x3 => lt ((x3 + (((x3).toUInt32 >>> (((8 : Int32)).toUInt32 &&& Int32.toUInt32 31)).toInt32))) (fun x4 => lt ((x4 + (((x4).toUInt32 >>> (((16 : Int32)).toUInt32 &&& Int32.toUInt32 31)).toInt32))) (fun x5 => some (x5 &&& (63 : Int32)))))))
set_option maxHeartbeats 4000000 in
set_option maxRecDepth 100000 in
theorem t_J6_bitCount_0f7a4 (l : Launch) (N : Nat) (D : va_G) (dA : Nat → ClassId) (A : gI → Nat) (hJ : gJ (cLive N) A) {M : gM} {a0 : Int32}  {y : Int32} (h : f_J6_bitCount_0f7a4 N M a0 = some y) : cMi l yJ6_bitCount_0f7a4 wmJ6_bitCount_0f7a4 ({ frames := 0, cells := 0, slots := 0, locals := 0 } : Room) N D dA A [.int a0] M y M := by
  refine Met.ofW (cc := cJ6_bitCount_0f7a4) (maxL := 1) (ret := (some .int)) (by decide) rfl ?_
  intro p e s m args below meth c s₁ B hml hv
  obtain ⟨rfl, hP, hK, hN⟩ := hv
  generalize hargs : ([.int a0] : List Value).toArray = args at B ⊢
  have S : CallFix p m c cJ6_bitCount_0f7a4 1 s args wmJ6_bitCount_0f7a4 RJ6 := ⟨B.exec, B.bytes, hml, findClass_of_methodNamed B.named, atoms_spec (ws := wmJ6_bitCount_0f7a4) B.pre⟩
  obtain ⟨hx, hb, -, hown, hts⟩ := id S
  have hr := B.returns
  have hlocks := B.notSynchronized
  have X : gX D vwCl dA (cLive N) A (gA (cLive N) A) s := ⟨hK, hJ, fun i hi => ⟨i, hi, rfl⟩⟩
  have Z : gZ D (cLay N) dA (cLive N) A (gA (cLive N) A) s.heap M s.heap [] := ⟨hP, va_S.rf⟩
  have hc_265 := hts (.constant RJ6 265 (1431655765)) (cBc 347 rfl)
  have hc_266 := hts (.constant RJ6 266 (858993459)) (cBc 348 rfl)
  have hc_267 := hts (.constant RJ6 267 (252645135)) (cBc 349 rfl)
  have hl := lv_entry ([.int a0]) (n := 1) (Nat.le_of_ble_eq_true rfl)
  rw [← hargs, lg_entry_eq, hargs]
  generalize (lg_sl ([.int a0]) ++ List.replicate (1 - (lg_sl ([.int a0])).length) Slot.unset).toArray = ls at hl ⊢
  have hl : lv_has ls 1 [(0, .int a0)] := hl
  unfold f_J6_bitCount_0f7a4 at h
  refine lv_iload_n hx hb dJ6_bitCount_0f7a4_0 rfl (lv_at hl 0 rfl) ?_
  refine lv_iload_n hx hb dJ6_bitCount_0f7a4_1 rfl (lv_at hl 0 rfl) ?_
  refine lv_iconst (v := (1 : Int32)) hx hb dJ6_bitCount_0f7a4_2 (by decide) ?_
  refine lv_iushr hx hb dJ6_bitCount_0f7a4_3 rfl ?_
  refine lv_ldcw hx hb hown hc_265 dJ6_bitCount_0f7a4_4 ?_
  refine lv_iand hx hb dJ6_bitCount_0f7a4_7 ?_
  refine lv_isub hx hb dJ6_bitCount_0f7a4_8 ?_
  refine g_topi h (fun x1 h => ?_)
  refine lv_istore_n (lv' := [(0, .int x1)]) hx hb dJ6_bitCount_0f7a4_9 rfl hl (by decide) rfl (fun ls hl => ?_)
  refine lv_iload_n hx hb dJ6_bitCount_0f7a4_10 rfl (lv_at hl 0 rfl) ?_
  refine lv_ldcw hx hb hown hc_266 dJ6_bitCount_0f7a4_11 ?_
  refine lv_iand hx hb dJ6_bitCount_0f7a4_14 ?_
  refine lv_iload_n hx hb dJ6_bitCount_0f7a4_15 rfl (lv_at hl 0 rfl) ?_
  refine lv_iconst (v := (2 : Int32)) hx hb dJ6_bitCount_0f7a4_16 (by decide) ?_
  refine lv_iushr hx hb dJ6_bitCount_0f7a4_17 rfl ?_
  refine lv_ldcw hx hb hown hc_266 dJ6_bitCount_0f7a4_18 ?_
  refine lv_iand hx hb dJ6_bitCount_0f7a4_21 ?_
  refine lv_iadd hx hb dJ6_bitCount_0f7a4_22 ?_
  refine g_topi h (fun x2 h => ?_)
  refine lv_istore_n (lv' := [(0, .int x2)]) hx hb dJ6_bitCount_0f7a4_23 rfl hl (by decide) rfl (fun ls hl => ?_)
  refine lv_iload_n hx hb dJ6_bitCount_0f7a4_24 rfl (lv_at hl 0 rfl) ?_
  refine lv_iload_n hx hb dJ6_bitCount_0f7a4_25 rfl (lv_at hl 0 rfl) ?_
  refine lv_iconst (v := (4 : Int32)) hx hb dJ6_bitCount_0f7a4_26 (by decide) ?_
  refine lv_iushr hx hb dJ6_bitCount_0f7a4_27 rfl ?_
  refine lv_iadd hx hb dJ6_bitCount_0f7a4_28 ?_
  refine lv_ldcw hx hb hown hc_267 dJ6_bitCount_0f7a4_29 ?_
  refine lv_iand hx hb dJ6_bitCount_0f7a4_32 ?_
  refine g_topi h (fun x3 h => ?_)
  refine lv_istore_n (lv' := [(0, .int x3)]) hx hb dJ6_bitCount_0f7a4_33 rfl hl (by decide) rfl (fun ls hl => ?_)
  refine lv_iload_n hx hb dJ6_bitCount_0f7a4_34 rfl (lv_at hl 0 rfl) ?_
  refine lv_iload_n hx hb dJ6_bitCount_0f7a4_35 rfl (lv_at hl 0 rfl) ?_
  refine lv_bipush (v := (8 : Int32)) hx hb dJ6_bitCount_0f7a4_36 (by decide) ?_
  refine lv_iushr hx hb dJ6_bitCount_0f7a4_38 rfl ?_
  refine lv_iadd hx hb dJ6_bitCount_0f7a4_39 ?_
  refine g_topi h (fun x4 h => ?_)
  refine lv_istore_n (lv' := [(0, .int x4)]) hx hb dJ6_bitCount_0f7a4_40 rfl hl (by decide) rfl (fun ls hl => ?_)
  refine lv_iload_n hx hb dJ6_bitCount_0f7a4_41 rfl (lv_at hl 0 rfl) ?_
  refine lv_iload_n hx hb dJ6_bitCount_0f7a4_42 rfl (lv_at hl 0 rfl) ?_
  refine lv_bipush (v := (16 : Int32)) hx hb dJ6_bitCount_0f7a4_43 (by decide) ?_
  refine lv_iushr hx hb dJ6_bitCount_0f7a4_45 rfl ?_
  refine lv_iadd hx hb dJ6_bitCount_0f7a4_46 ?_
  refine g_topi h (fun x5 h => ?_)
  refine lv_istore_n (lv' := [(0, .int x5)]) hx hb dJ6_bitCount_0f7a4_47 rfl hl (by decide) rfl (fun ls hl => ?_)
  refine lv_iload_n hx hb dJ6_bitCount_0f7a4_48 rfl (lv_at hl 0 rfl) ?_
  refine lv_bipush (v := (63 : Int32)) hx hb dJ6_bitCount_0f7a4_49 (by decide) ?_
  refine lv_iand hx hb dJ6_bitCount_0f7a4_51 ?_
  have hy := Option.some.inj h
  subst hy
  exact g_ri S Z hr hlocks dJ6_bitCount_0f7a4_52
-- X4_noteChange (II)V: 13 instructions
theorem dX4_noteChange_0 : decode cX4_noteChange 0 = .ok (.aload_n 0, 1) := by decide +kernel
theorem dX4_noteChange_1 : decode cX4_noteChange 1 = .ok (.dup, 1) := by decide +kernel
theorem dX4_noteChange_2 : decode cX4_noteChange 2 = .ok (.getfield 48, 3) := by decide +kernel
theorem dX4_noteChange_5 : decode cX4_noteChange 5 = .ok (.iload_n 1, 1) := by decide +kernel
theorem dX4_noteChange_6 : decode cX4_noteChange 6 = .ok (.invokestatic 151, 3) := by decide +kernel
theorem dX4_noteChange_9 : decode cX4_noteChange 9 = .ok (.iadd, 1) := by decide +kernel
theorem dX4_noteChange_10 : decode cX4_noteChange 10 = .ok (.putfield 48, 3) := by decide +kernel
theorem dX4_noteChange_13 : decode cX4_noteChange 13 = .ok (.aload_n 0, 1) := by decide +kernel
theorem dX4_noteChange_14 : decode cX4_noteChange 14 = .ok (.getfield 15, 3) := by decide +kernel
theorem dX4_noteChange_17 : decode cX4_noteChange 17 = .ok (.iload_n 1, 1) := by decide +kernel
theorem dX4_noteChange_18 : decode cX4_noteChange 18 = .ok (.iload_n 2, 1) := by decide +kernel
theorem dX4_noteChange_19 : decode cX4_noteChange 19 = .ok (.invokevirtual 156, 3) := by decide +kernel
theorem dX4_noteChange_22 : decode cX4_noteChange 22 = .ok (.return_, 1) := by decide +kernel
abbrev wmX4_noteChange : List Cond := .code yX4_noteChange cX4_noteChange 3 none :: cBig
def f_X4_noteChange (N : Nat) (M : gM) (a1 : Int32) (a2 : Int32) : Option gM :=
  lt (M (13, 0, 0) 7) (fun v1 => o1 (f_J6_bitCount_0f7a4 N M a1) (fun v3 => lt (gset M (13, 0, 0) 7 (v1 + v3)) (fun M4 => o1 (f_X6_endPromises N M4 a1 a2) (fun M6 => some M6))))
set_option maxHeartbeats 4000000 in
set_option maxRecDepth 100000 in
theorem t_X4_noteChange (l : Launch) (N : Nat) (D : va_G) (dA : Nat → ClassId) (A : gI → Nat) (hJ : gJ (cLive N) A) {M : gM} {a1 : Int32} {a2 : Int32}  {y : gM} (h : f_X4_noteChange N M a1 a2 = some y) : cMv l yX4_noteChange wmX4_noteChange ({ frames := 1, cells := 0, slots := 0, locals := 23 } : Room) N D dA A [.ref (A (13, 0, 0)), .int a1, .int a2] M y := by
  refine Met.ofW (cc := cX4_noteChange) (maxL := 3) (ret := none) (by decide) rfl ?_
  intro p e s m args below meth c s₁ B hml hv
  obtain ⟨rfl, hP, hK, hN⟩ := hv
  generalize hargs : ([.ref (A (13, 0, 0)), .int a1, .int a2] : List Value).toArray = args at B ⊢
  have S : CallFix p m c cX4_noteChange 3 s args wmX4_noteChange RX4 := ⟨B.exec, B.bytes, hml, findClass_of_methodNamed B.named, atoms_spec (ws := wmX4_noteChange) B.pre⟩
  obtain ⟨hx, hb, -, hown, hts⟩ := id S
  have hr := B.returns
  have hlocks := B.notSynchronized
  have X : gX D vwCl dA (cLive N) A (gA (cLive N) A) s := ⟨hK, hJ, fun i hi => ⟨i, hi, rfl⟩⟩
  have Z : gZ D (cLay N) dA (cLive N) A (gA (cLive N) A) s.heap M s.heap [] := ⟨hP, va_S.rf⟩
  have hin_X4 : ∀ w ∈ wsX40, w ∈ wmX4_noteChange := cin_X4
  have hl_15 := hts (.fieldLink RX4 15 "ReplicaFiles$Meeting" "replicas" "LReplicaFiles$Replicas;") (cBc 323 rfl)
  have hl_48 := hts (.fieldLink RX4 48 "ReplicaFiles$Meeting" "changes" "I") (cBc 351 rfl)
  have hl := lv_entry ([.ref (A (13, 0, 0)), .int a1, .int a2]) (n := 3) (Nat.le_of_ble_eq_true rfl)
  rw [← hargs, lg_entry_eq, hargs]
  generalize (lg_sl ([.ref (A (13, 0, 0)), .int a1, .int a2]) ++ List.replicate (3 - (lg_sl ([.ref (A (13, 0, 0)), .int a1, .int a2])).length) Slot.unset).toArray = ls at hl ⊢
  have hl : lv_has ls 3 [(0, .ref (A (13, 0, 0))), (1, .int a1), (2, .int a2)] := hl
  unfold f_X4_noteChange at h
  refine lv_aload_n hx hb dX4_noteChange_0 rfl (lv_at hl 0 rfl) ?_
  refine lv_dup hx hb dX4_noteChange_1 rfl ?_
  refine cr_X4_changes S X Z hin_X4 (cl_one N 13 (by decide)) hl_48 dX4_noteChange_2 h (fun v1 h => ?_)
  refine lv_iload_n hx hb dX4_noteChange_5 rfl (lv_at hl 1 rfl) ?_
  obtain ⟨v3, hc2, h⟩ := o1_e h
  refine c_i X Z (c_S (As := [.int a1]) (rest := [.int v1, .ref (A (13, 0, 0))]) S X hN Z (t_J6_bitCount_0f7a4 l N D dA A hJ  hc2) (va_cwS 1 hts (cGS (cB 352 rfl) (cB 353 rfl) (cB 354 rfl) (cB 346 rfl)) rfl rfl rfl (by decide +kernel) ⟨Nat.le_of_ble_eq_true rfl, Nat.le_of_ble_eq_true rfl⟩) rfl hl.1 rfl (Nat.le_of_ble_eq_true rfl) dX4_noteChange_6 ⟨Nat.zero_le _, Nat.zero_le _⟩) (fun H locs Z => ?_)
  refine lv_iadd hx hb dX4_noteChange_9 ?_
  refine cp_X4_changes S X Z hin_X4 (cl_one N 13 (by decide)) hl_48 dX4_noteChange_10 h (fun M4 H locs Z h => ?_)
  refine lv_aload_n hx hb dX4_noteChange_13 rfl (lv_at hl 0 rfl) ?_
  refine cr_X4_replicas S X Z hin_X4 (cl_one N 13 (by decide)) hl_15 dX4_noteChange_14 ?_
  refine lv_iload_n hx hb dX4_noteChange_17 rfl (lv_at hl 1 rfl) ?_
  refine lv_iload_n hx hb dX4_noteChange_18 rfl (lv_at hl 2 rfl) ?_
  obtain ⟨M6, hc5, h⟩ := o1_e h
  refine c_v X Z (c_V (i := (10, 0, 0)) (As := [.int a1, .int a2]) (rest := []) S X hN Z (cl_one N 10 (by decide)) rfl rfl (t_X6_endPromises l N D dA A hJ  hc5) (cwV 2 hts (cGV (cB 355 rfl) (cB 219 rfl) (cB 220 rfl) (cB 203 rfl) (cB 207 rfl)) rfl rfl rfl (by decide +kernel) ⟨Nat.le_of_ble_eq_true rfl, Nat.le_of_ble_eq_true rfl⟩) rfl hl.1 rfl (Nat.le_of_ble_eq_true rfl) dX4_noteChange_19 ⟨Nat.zero_le _, Nat.zero_le _⟩) (fun H locs Z => ?_)
  have hy := Option.some.inj h
  subst hy
  exact g_rv S Z hr hlocks dX4_noteChange_22
-- X4_dropInside ()V: 46 instructions
theorem dX4_dropInside_0 : decode cX4_dropInside 0 = .ok (.iconst 0, 1) := by decide +kernel
theorem dX4_dropInside_1 : decode cX4_dropInside 1 = .ok (.istore_n 1, 1) := by decide +kernel
theorem dX4_dropInside_2 : decode cX4_dropInside 2 = .ok (.iload_n 1, 1) := by decide +kernel
theorem dX4_dropInside_3 : decode cX4_dropInside 3 = .ok (.aload_n 0, 1) := by decide +kernel
theorem dX4_dropInside_4 : decode cX4_dropInside 4 = .ok (.getfield 25, 3) := by decide +kernel
theorem dX4_dropInside_7 : decode cX4_dropInside 7 = .ok (.getfield 51, 3) := by decide +kernel
theorem dX4_dropInside_10 : decode cX4_dropInside 10 = .ok (.if_icmp .gt 75, 3) := by decide +kernel
theorem dX4_dropInside_13 : decode cX4_dropInside 13 = .ok (.aload_n 0, 1) := by decide +kernel
theorem dX4_dropInside_14 : decode cX4_dropInside 14 = .ok (.getfield 9, 3) := by decide +kernel
theorem dX4_dropInside_17 : decode cX4_dropInside 17 = .ok (.iload_n 1, 1) := by decide +kernel
theorem dX4_dropInside_18 : decode cX4_dropInside 18 = .ok (.baload, 1) := by decide +kernel
theorem dX4_dropInside_19 : decode cX4_dropInside 19 = .ok (.ifCond .ne 6, 3) := by decide +kernel
theorem dX4_dropInside_22 : decode cX4_dropInside 22 = .ok (.goto 57, 3) := by decide +kernel
theorem dX4_dropInside_25 : decode cX4_dropInside 25 = .ok (.aload_n 0, 1) := by decide +kernel
theorem dX4_dropInside_26 : decode cX4_dropInside 26 = .ok (.getfield 15, 3) := by decide +kernel
theorem dX4_dropInside_29 : decode cX4_dropInside 29 = .ok (.aload_n 0, 1) := by decide +kernel
theorem dX4_dropInside_30 : decode cX4_dropInside 30 = .ok (.getfield 44, 3) := by decide +kernel
theorem dX4_dropInside_33 : decode cX4_dropInside 33 = .ok (.iload_n 1, 1) := by decide +kernel
theorem dX4_dropInside_34 : decode cX4_dropInside 34 = .ok (.invokevirtual 85, 3) := by decide +kernel
theorem dX4_dropInside_37 : decode cX4_dropInside 37 = .ok (.istore_n 2, 1) := by decide +kernel
theorem dX4_dropInside_38 : decode cX4_dropInside 38 = .ok (.iconst 0, 1) := by decide +kernel
theorem dX4_dropInside_39 : decode cX4_dropInside 39 = .ok (.istore_n 3, 1) := by decide +kernel
theorem dX4_dropInside_40 : decode cX4_dropInside 40 = .ok (.iload_n 3, 1) := by decide +kernel
theorem dX4_dropInside_41 : decode cX4_dropInside 41 = .ok (.aload_n 0, 1) := by decide +kernel
theorem dX4_dropInside_42 : decode cX4_dropInside 42 = .ok (.getfield 30, 3) := by decide +kernel
theorem dX4_dropInside_45 : decode cX4_dropInside 45 = .ok (.arraylength, 1) := by decide +kernel
theorem dX4_dropInside_46 : decode cX4_dropInside 46 = .ok (.if_icmp .ge 27, 3) := by decide +kernel
theorem dX4_dropInside_49 : decode cX4_dropInside 49 = .ok (.iload_n 2, 1) := by decide +kernel
theorem dX4_dropInside_50 : decode cX4_dropInside 50 = .ok (.iload_n 3, 1) := by decide +kernel
theorem dX4_dropInside_51 : decode cX4_dropInside 51 = .ok (.invokestatic 113, 3) := by decide +kernel
theorem dX4_dropInside_54 : decode cX4_dropInside 54 = .ok (.ifCond .eq 13, 3) := by decide +kernel
theorem dX4_dropInside_57 : decode cX4_dropInside 57 = .ok (.aload_n 0, 1) := by decide +kernel
theorem dX4_dropInside_58 : decode cX4_dropInside 58 = .ok (.getfield 30, 3) := by decide +kernel
theorem dX4_dropInside_61 : decode cX4_dropInside 61 = .ok (.iload_n 3, 1) := by decide +kernel
theorem dX4_dropInside_62 : decode cX4_dropInside 62 = .ok (.aaload, 1) := by decide +kernel
theorem dX4_dropInside_63 : decode cX4_dropInside 63 = .ok (.iload_n 1, 1) := by decide +kernel
theorem dX4_dropInside_64 : decode cX4_dropInside 64 = .ok (.invokevirtual 145, 3) := by decide +kernel
theorem dX4_dropInside_67 : decode cX4_dropInside 67 = .ok (.iinc 3 1, 3) := by decide +kernel
theorem dX4_dropInside_70 : decode cX4_dropInside 70 = .ok (.goto (-30), 3) := by decide +kernel
theorem dX4_dropInside_73 : decode cX4_dropInside 73 = .ok (.aload_n 0, 1) := by decide +kernel
theorem dX4_dropInside_74 : decode cX4_dropInside 74 = .ok (.iload_n 2, 1) := by decide +kernel
theorem dX4_dropInside_75 : decode cX4_dropInside 75 = .ok (.iload_n 1, 1) := by decide +kernel
theorem dX4_dropInside_76 : decode cX4_dropInside 76 = .ok (.invokevirtual 148, 3) := by decide +kernel
theorem dX4_dropInside_79 : decode cX4_dropInside 79 = .ok (.iinc 1 1, 3) := by decide +kernel
theorem dX4_dropInside_82 : decode cX4_dropInside 82 = .ok (.goto (-80), 3) := by decide +kernel
theorem dX4_dropInside_85 : decode cX4_dropInside 85 = .ok (.return_, 1) := by decide +kernel
abbrev wmX4_dropInside : List Cond := .code yX4_dropInside cX4_dropInside 4 none :: cBig
def f_X4_dropInside_L40 (N : Nat) (x1 : Int32) (v12 : Int32) (J73 : gM → Option gM) (J79 : gM → Option gM) : Nat → Int32 → gM → Option gM
  | 0, _, _ => none
  | n18 + 1, x16, M17 => (if (nI N) ≤ x16 then J73 M17 else o1 (f_X10_isIn N M17 v12 x16) (fun v21 => jn (fun (M22 : gM) => lt (x16 + 1) (fun x23 => f_X4_dropInside_L40 N x1 v12 J73 J79 n18 x23 M22)) (fun J67 => (if v21 = 0 then J67 M17 else ix x16 N (fun v25 => o1 (f_X7_drop N M17 v25 x1) (fun M27 => J67 M27))))))
def f_X4_dropInside_L2 (N : Nat) : Nat → Int32 → gM → Option gM
  | 0, _, _ => none
  | n3 + 1, x1, M2 => lt (M2 (1, 0, 0) 3) (fun v4 => (if v4 < x1 then some M2 else rd M2 (15, 0, 0) 48 x1 (fun v6 => jn (fun (M7 : gM) => lt (x1 + 1) (fun x8 => f_X4_dropInside_L2 N n3 x8 M7)) (fun J79 => (if v6 = 0 then J79 M2 else lt (M2 (13, 0, 0) 6) (fun v10 => o1 (f_X6_holders N M2 v10 x1) (fun v12 => jn (fun (M13 : gM) => o1 (f_X4_noteChange N M13 v12 x1) (fun M15 => J79 M15)) (fun J73 => f_X4_dropInside_L40 N x1 v12 J73 J79 100 (0 : Int32) M2))))))))
def f_X4_dropInside (N : Nat) (M : gM)  : Option gM :=
  f_X4_dropInside_L2 N 100 (0 : Int32) M
set_option maxHeartbeats 4000000 in
set_option maxRecDepth 100000 in
theorem t_X4_dropInside (l : Launch) (N : Nat) (D : va_G) (dA : Nat → ClassId) (A : gI → Nat) (hJ : gJ (cLive N) A) {M : gM}   {y : gM} (h : f_X4_dropInside N M = some y) : cMv l yX4_dropInside wmX4_dropInside ({ frames := 3, cells := 0, slots := 0, locals := 66 } : Room) N D dA A [.ref (A (13, 0, 0))] M y := by
  refine Met.ofW (cc := cX4_dropInside) (maxL := 4) (ret := none) (by decide) rfl ?_
  intro p e s m args below meth c s₁ B hml hv
  obtain ⟨rfl, hP, hK, hN⟩ := hv
  generalize hargs : ([.ref (A (13, 0, 0))] : List Value).toArray = args at B ⊢
  have S : CallFix p m c cX4_dropInside 4 s args wmX4_dropInside RX4 := ⟨B.exec, B.bytes, hml, findClass_of_methodNamed B.named, atoms_spec (ws := wmX4_dropInside) B.pre⟩
  obtain ⟨hx, hb, -, hown, hts⟩ := id S
  have hr := B.returns
  have hlocks := B.notSynchronized
  have X : gX D vwCl dA (cLive N) A (gA (cLive N) A) s := ⟨hK, hJ, fun i hi => ⟨i, hi, rfl⟩⟩
  have Z : gZ D (cLay N) dA (cLive N) A (gA (cLive N) A) s.heap M s.heap [] := ⟨hP, va_S.rf⟩
  have hin_X0 : ∀ w ∈ wsX00, w ∈ wmX4_dropInside := cin_X0
  have hin_X4 : ∀ w ∈ wsX40, w ∈ wmX4_dropInside := cin_X4
  have hl_9 := hts (.fieldLink RX4 9 "ReplicaFiles$Meeting" "inside" "[Z") (cBc 322 rfl)
  have hl_15 := hts (.fieldLink RX4 15 "ReplicaFiles$Meeting" "replicas" "LReplicaFiles$Replicas;") (cBc 323 rfl)
  have hl_25 := hts (.fieldLink RX4 25 "ReplicaFiles$Meeting" "catalog" "LReplicaFiles$Catalog;") (cBc 324 rfl)
  have hl_30 := hts (.fieldLink RX4 30 "ReplicaFiles$Meeting" "servers" "[LReplicaFiles$Server;") (cBc 325 rfl)
  have hl_44 := hts (.fieldLink RX4 44 "ReplicaFiles$Meeting" "group" "I") (cBc 333 rfl)
  have hl_51 := va_Nw.use (A := args) rfl (hN.1 ("ReplicaFiles$Meeting", 51, "ReplicaFiles$Catalog", "made", "I", "ReplicaFiles") (by decide +kernel))
  have hl := lv_entry ([.ref (A (13, 0, 0))]) (n := 4) (Nat.le_of_ble_eq_true rfl)
  rw [← hargs, lg_entry_eq, hargs]
  generalize (lg_sl ([.ref (A (13, 0, 0))]) ++ List.replicate (4 - (lg_sl ([.ref (A (13, 0, 0))])).length) Slot.unset).toArray = ls at hl ⊢
  have hl : lv_has ls 4 [(0, .ref (A (13, 0, 0)))] := hl
  unfold f_X4_dropInside at h
  refine lv_iconst (v := (0 : Int32)) hx hb dX4_dropInside_0 (by decide) ?_
  refine lv_istore_n (lv' := [(1, .int (0 : Int32)), (0, .ref (A (13, 0, 0)))]) hx hb dX4_dropInside_1 rfl hl (by decide) rfl (fun ls hl => ?_)
  have hL2 : ∀ (n : Nat) (x1 : Int32) (M2 : gM) (H : Heap) (locs : List Loc) (ls : Array Slot), gZ D (cLay N) dA (cLive N) A (gA (cLive N) A) s.heap M2 H locs → lv_has ls 4 [(0, .ref (A (13, 0, 0))), (1, .int x1)] → f_X4_dropInside_L2 N n x1 M2 = some y → W p l e (headSpec wmX4_dropInside ({ frames := 3, cells := 0, slots := 0, locals := 66 } : Room)).room s m args below meth c H locs 0 0 (MQ below (cQv N D dA A y) args s 0 0 (gA (cLive N) A)) (F0 m 2 ls []) := by
    intro n
    induction n with
    | zero =>
      intro x1 M2 H locs ls Z hl h
      rw [f_X4_dropInside_L2] at h
      cases h
    | succ n3 ih2 =>
      intro x1 M2 H locs ls Z hl h
      rw [f_X4_dropInside_L2] at h
      refine lv_iload_n hx hb dX4_dropInside_2 rfl (lv_at hl 1 rfl) ?_
      refine lv_aload_n hx hb dX4_dropInside_3 rfl (lv_at hl 0 rfl) ?_
      refine cr_X4_catalog S X Z hin_X4 (cl_one N 13 (by decide)) hl_25 dX4_dropInside_4 ?_
      refine cn_X0_made S X Z hin_X0 (cl_one N 1 (by decide)) hl_51 dX4_dropInside_7 h (fun v4 h => ?_)
      refine lv_icmp_gt (tgt := 85) hx hb dX4_dropInside_10 (by decide) (fun c5 => ?_) (fun c5 => ?_)
      · have h := if_t c5 h
        have hy := Option.some.inj h
        subst hy
        exact g_rv S Z hr hlocks dX4_dropInside_85
      · have h := if_f c5 h
        refine lv_aload_n hx hb dX4_dropInside_13 rfl (lv_at hl 0 rfl) ?_
        refine cr_X4_inside S X Z hin_X4 (cl_one N 13 (by decide)) hl_9 dX4_dropInside_14 ?_
        refine lv_iload_n hx hb dX4_dropInside_17 rfl (lv_at hl 1 rfl) ?_
        refine g_zald (i := (15, 0, 0)) (n := 48) S X Z (cl_one N 15 (by decide)) rfl dX4_dropInside_18 h (fun v6 h => ?_)
        obtain ⟨J79, eJ79, h⟩ := jn_e h
        have hJ79 : ∀ (M7 : gM) (H : Heap) (locs : List Loc) (ls : Array Slot), gZ D (cLay N) dA (cLive N) A (gA (cLive N) A) s.heap M7 H locs → lv_has ls 4 [(0, .ref (A (13, 0, 0))), (1, .int x1)] → J79 M7 = some y → W p l e (headSpec wmX4_dropInside ({ frames := 3, cells := 0, slots := 0, locals := 66 } : Room)).room s m args below meth c H locs 0 0 (MQ below (cQv N D dA A y) args s 0 0 (gA (cLive N) A)) (F0 m 79 ls []) := by
          intro M7 H locs ls Z hl h
          rw [eJ79] at h
          try dsimp only at h
          obtain ⟨x8, ex8, h⟩ := lt_e h
          refine lv_iinc (v := x8) (lv' := [(1, .int x8), (0, .ref (A (13, 0, 0)))]) hx hb dX4_dropInside_79 hl (k := 1) rfl (by rw [ex8]; rfl) (by decide) rfl (fun ls hl => ?_)
          refine lv_goto (tgt := 2) hx hb dX4_dropInside_82 (by decide) ?_
          exact ih2 x8 M7 _ _ _ Z (lv_sub hl [1, 0] rfl) h
        refine lv_if_ne (tgt := 25) hx hb dX4_dropInside_19 (by decide) (fun c9 => ?_) (fun c9 => ?_)
        · have h := if_f c9 h
          refine lv_aload_n hx hb dX4_dropInside_25 rfl (lv_at hl 0 rfl) ?_
          refine cr_X4_replicas S X Z hin_X4 (cl_one N 13 (by decide)) hl_15 dX4_dropInside_26 ?_
          refine lv_aload_n hx hb dX4_dropInside_29 rfl (lv_at hl 0 rfl) ?_
          refine cr_X4_group S X Z hin_X4 (cl_one N 13 (by decide)) hl_44 dX4_dropInside_30 h (fun v10 h => ?_)
          refine lv_iload_n hx hb dX4_dropInside_33 rfl (lv_at hl 1 rfl) ?_
          obtain ⟨v12, hc11, h⟩ := o1_e h
          refine c_i X Z (c_V (i := (10, 0, 0)) (As := [.int v10, .int x1]) (rest := []) S X hN Z (cl_one N 10 (by decide)) rfl rfl (t_X6_holders l N D dA A hJ  hc11) (cwV 2 hts (cGV (cB 337 rfl) (cB 225 rfl) (cB 226 rfl) (cB 203 rfl) (cB 222 rfl)) rfl rfl rfl (by decide +kernel) ⟨Nat.le_of_ble_eq_true rfl, Nat.le_of_ble_eq_true rfl⟩) rfl hl.1 rfl (Nat.le_of_ble_eq_true rfl) dX4_dropInside_34 ⟨Nat.zero_le _, Nat.zero_le _⟩) (fun H locs Z => ?_)
          refine lv_istore_n (lv' := [(2, .int v12), (0, .ref (A (13, 0, 0))), (1, .int x1)]) hx hb dX4_dropInside_37 rfl hl (by decide) rfl (fun ls hl => ?_)
          refine lv_iconst (v := (0 : Int32)) hx hb dX4_dropInside_38 (by decide) ?_
          refine lv_istore_n (lv' := [(3, .int (0 : Int32)), (2, .int v12), (0, .ref (A (13, 0, 0))), (1, .int x1)]) hx hb dX4_dropInside_39 rfl hl (by decide) rfl (fun ls hl => ?_)
          obtain ⟨J73, eJ73, h⟩ := jn_e h
          have hJ73 : ∀ (M13 : gM) (H : Heap) (locs : List Loc) (ls : Array Slot), gZ D (cLay N) dA (cLive N) A (gA (cLive N) A) s.heap M13 H locs → lv_has ls 4 [(0, .ref (A (13, 0, 0))), (1, .int x1), (2, .int v12)] → J73 M13 = some y → W p l e (headSpec wmX4_dropInside ({ frames := 3, cells := 0, slots := 0, locals := 66 } : Room)).room s m args below meth c H locs 0 0 (MQ below (cQv N D dA A y) args s 0 0 (gA (cLive N) A)) (F0 m 73 ls []) := by
            intro M13 H locs ls Z hl h
            rw [eJ73] at h
            try dsimp only at h
            refine lv_aload_n hx hb dX4_dropInside_73 rfl (lv_at hl 0 rfl) ?_
            refine lv_iload_n hx hb dX4_dropInside_74 rfl (lv_at hl 2 rfl) ?_
            refine lv_iload_n hx hb dX4_dropInside_75 rfl (lv_at hl 1 rfl) ?_
            obtain ⟨M15, hc14, h⟩ := o1_e h
            refine c_v X Z (c_V (i := (13, 0, 0)) (As := [.int v12, .int x1]) (rest := []) S X hN Z (cl_one N 13 (by decide)) rfl rfl (t_X4_noteChange l N D dA A hJ  hc14) (cwV 2 hts (cGV (cB 357 rfl) (cB 358 rfl) (cB 359 rfl) (cB 341 rfl) (cB 350 rfl)) rfl rfl rfl (by decide +kernel) ⟨Nat.le_of_ble_eq_true rfl, Nat.le_of_ble_eq_true rfl⟩) rfl hl.1 rfl (Nat.le_of_ble_eq_true rfl) dX4_dropInside_76 ⟨Nat.zero_le _, Nat.zero_le _⟩) (fun H locs Z => ?_)
            exact hJ79 M15 _ _ _ Z (lv_sub hl [0, 1] rfl) h
          have hL40 : ∀ (n : Nat) (x16 : Int32) (M17 : gM) (H : Heap) (locs : List Loc) (ls : Array Slot), gZ D (cLay N) dA (cLive N) A (gA (cLive N) A) s.heap M17 H locs → lv_has ls 4 [(0, .ref (A (13, 0, 0))), (1, .int x1), (2, .int v12), (3, .int x16)] → f_X4_dropInside_L40 N x1 v12 J73 J79 n x16 M17 = some y → W p l e (headSpec wmX4_dropInside ({ frames := 3, cells := 0, slots := 0, locals := 66 } : Room)).room s m args below meth c H locs 0 0 (MQ below (cQv N D dA A y) args s 0 0 (gA (cLive N) A)) (F0 m 40 ls []) := by
            intro n
            induction n with
            | zero =>
              intro x16 M17 H locs ls Z hl h
              rw [f_X4_dropInside_L40] at h
              cases h
            | succ n18 ih40 =>
              intro x16 M17 H locs ls Z hl h
              rw [f_X4_dropInside_L40] at h
              refine lv_iload_n hx hb dX4_dropInside_40 rfl (lv_at hl 3 rfl) ?_
              refine lv_aload_n hx hb dX4_dropInside_41 rfl (lv_at hl 0 rfl) ?_
              refine cr_X4_servers S X Z hin_X4 (cl_one N 13 (by decide)) hl_30 dX4_dropInside_42 ?_
              refine g_alR (i := (7, 0, 0)) (ca := 2) rfl S X Z (cl_one N 7 (by decide)) rfl dX4_dropInside_45 ?_
              refine lv_icmp_ge (tgt := 73) hx hb dX4_dropInside_46 (by decide) (fun c19 => ?_) (fun c19 => ?_)
              · have h := if_t c19 h
                exact hJ73 M17 _ _ _ Z (lv_sub hl [0, 1, 2] rfl) h
              · have h := if_f c19 h
                refine lv_iload_n hx hb dX4_dropInside_49 rfl (lv_at hl 2 rfl) ?_
                refine lv_iload_n hx hb dX4_dropInside_50 rfl (lv_at hl 3 rfl) ?_
                obtain ⟨v21, hc20, h⟩ := o1_e h
                refine c_i X Z (c_SN (As := [.int v12, .int x16]) (rest := []) S X hN Z (t_X10_isIn l N D dA A hJ  hc20) ⟨va_cnB 2 hts (cG (cB 175 rfl)) rfl rfl rfl (hN.2 ("ReplicaFiles$Meeting", 113, yX10_isIn, "ReplicaFiles") (by decide +kernel)) (hts (.initialized RX10) (cBc 107 rfl)) (by decide +kernel) ⟨Nat.le_of_ble_eq_true rfl, Nat.le_of_ble_eq_true rfl⟩, hts (.static yX10_isIn) (cBc 178 rfl), trivial⟩ rfl hl.1 rfl (Nat.le_of_ble_eq_true rfl) dX4_dropInside_51 ⟨Nat.zero_le _, Nat.zero_le _⟩) (fun H locs Z => ?_)
                obtain ⟨J67, eJ67, h⟩ := jn_e h
                have hJ67 : ∀ (M22 : gM) (H : Heap) (locs : List Loc) (ls : Array Slot), gZ D (cLay N) dA (cLive N) A (gA (cLive N) A) s.heap M22 H locs → lv_has ls 4 [(0, .ref (A (13, 0, 0))), (1, .int x1), (2, .int v12), (3, .int x16)] → J67 M22 = some y → W p l e (headSpec wmX4_dropInside ({ frames := 3, cells := 0, slots := 0, locals := 66 } : Room)).room s m args below meth c H locs 0 0 (MQ below (cQv N D dA A y) args s 0 0 (gA (cLive N) A)) (F0 m 67 ls []) := by
                  intro M22 H locs ls Z hl h
                  rw [eJ67] at h
                  try dsimp only at h
                  obtain ⟨x23, ex23, h⟩ := lt_e h
                  refine lv_iinc (v := x23) (lv' := [(3, .int x23), (0, .ref (A (13, 0, 0))), (1, .int x1), (2, .int v12)]) hx hb dX4_dropInside_67 hl (k := 3) rfl (by rw [ex23]; rfl) (by decide) rfl (fun ls hl => ?_)
                  refine lv_goto (tgt := 40) hx hb dX4_dropInside_70 (by decide) ?_
                  exact ih40 x23 M22 _ _ _ Z (lv_sub hl [1, 2, 3, 0] rfl) h
                refine lv_if_eq (tgt := 67) hx hb dX4_dropInside_54 (by decide) (fun c24 => ?_) (fun c24 => ?_)
                · have h := if_t c24 h
                  exact hJ67 M17 _ _ _ Z (lv_sub hl [0, 1, 2, 3] rfl) h
                · have h := if_f c24 h
                  refine lv_aload_n hx hb dX4_dropInside_57 rfl (lv_at hl 0 rfl) ?_
                  refine cr_X4_servers S X Z hin_X4 (cl_one N 13 (by decide)) hl_30 dX4_dropInside_58 ?_
                  refine lv_iload_n hx hb dX4_dropInside_61 rfl (lv_at hl 3 rfl) ?_
                  refine g_aald (i := (7, 0, 0)) (ca := 2) ⟨rfl, rfl⟩ S X Z (cl_one N 7 (by decide)) rfl dX4_dropInside_62 h (fun v25 hv25 h => ?_)
                  refine lv_iload_n hx hb dX4_dropInside_63 rfl (lv_at hl 1 rfl) ?_
                  obtain ⟨M27, hc26, h⟩ := o1_e h
                  refine c_v X Z (c_V (i := (20, v25, 0)) (As := [.int x1]) (rest := []) S X hN Z (cl_srv hv25) rfl rfl (t_X7_drop l N D dA A hJ (cl_srv hv25) hc26) (cwV 1 hts (cGV (cB 356 rfl) (cB 287 rfl) (cB 288 rfl) (cB 235 rfl) (cB 280 rfl)) rfl rfl rfl (by decide +kernel) ⟨Nat.le_of_ble_eq_true rfl, Nat.le_of_ble_eq_true rfl⟩) rfl hl.1 rfl (Nat.le_of_ble_eq_true rfl) dX4_dropInside_64 ⟨Nat.zero_le _, Nat.zero_le _⟩) (fun H locs Z => ?_)
                  exact hJ67 M27 _ _ _ Z (lv_sub hl [0, 1, 2, 3] rfl) h
          exact hL40 100 (0 : Int32) M2 _ _ _ Z (lv_sub hl [2, 3, 1, 0] rfl) h
        · have h := if_t c9 h
          refine lv_goto (tgt := 79) hx hb dX4_dropInside_22 (by decide) ?_
          exact hJ79 M2 _ _ _ Z (lv_sub hl [0, 1] rfl) h
  exact hL2 100 (0 : Int32) M _ _ _ Z (lv_sub hl [1, 0] rfl) h
-- X4_bringBack (I)V: 39 instructions
theorem dX4_bringBack_0 : decode cX4_bringBack 0 = .ok (.iconst 0, 1) := by decide +kernel
theorem dX4_bringBack_1 : decode cX4_bringBack 1 = .ok (.istore_n 2, 1) := by decide +kernel
theorem dX4_bringBack_2 : decode cX4_bringBack 2 = .ok (.iload_n 2, 1) := by decide +kernel
theorem dX4_bringBack_3 : decode cX4_bringBack 3 = .ok (.aload_n 0, 1) := by decide +kernel
theorem dX4_bringBack_4 : decode cX4_bringBack 4 = .ok (.getfield 30, 3) := by decide +kernel
theorem dX4_bringBack_7 : decode cX4_bringBack 7 = .ok (.arraylength, 1) := by decide +kernel
theorem dX4_bringBack_8 : decode cX4_bringBack 8 = .ok (.if_icmp .ge 33, 3) := by decide +kernel
theorem dX4_bringBack_11 : decode cX4_bringBack 11 = .ok (.aload_n 0, 1) := by decide +kernel
theorem dX4_bringBack_12 : decode cX4_bringBack 12 = .ok (.getfield 44, 3) := by decide +kernel
theorem dX4_bringBack_15 : decode cX4_bringBack 15 = .ok (.iload_n 2, 1) := by decide +kernel
theorem dX4_bringBack_16 : decode cX4_bringBack 16 = .ok (.invokestatic 113, 3) := by decide +kernel
theorem dX4_bringBack_19 : decode cX4_bringBack 19 = .ok (.ifCond .eq 16, 3) := by decide +kernel
theorem dX4_bringBack_22 : decode cX4_bringBack 22 = .ok (.aload_n 0, 1) := by decide +kernel
theorem dX4_bringBack_23 : decode cX4_bringBack 23 = .ok (.getfield 30, 3) := by decide +kernel
theorem dX4_bringBack_26 : decode cX4_bringBack 26 = .ok (.iload_n 2, 1) := by decide +kernel
theorem dX4_bringBack_27 : decode cX4_bringBack 27 = .ok (.aaload, 1) := by decide +kernel
theorem dX4_bringBack_28 : decode cX4_bringBack 28 = .ok (.getfield 74, 3) := by decide +kernel
theorem dX4_bringBack_31 : decode cX4_bringBack 31 = .ok (.iload_n 1, 1) := by decide +kernel
theorem dX4_bringBack_32 : decode cX4_bringBack 32 = .ok (.invokevirtual 159, 3) := by decide +kernel
theorem dX4_bringBack_35 : decode cX4_bringBack 35 = .ok (.iinc 2 1, 3) := by decide +kernel
theorem dX4_bringBack_38 : decode cX4_bringBack 38 = .ok (.goto (-36), 3) := by decide +kernel
theorem dX4_bringBack_41 : decode cX4_bringBack 41 = .ok (.aload_n 0, 1) := by decide +kernel
theorem dX4_bringBack_42 : decode cX4_bringBack 42 = .ok (.getfield 25, 3) := by decide +kernel
theorem dX4_bringBack_45 : decode cX4_bringBack 45 = .ok (.getfield 104, 3) := by decide +kernel
theorem dX4_bringBack_48 : decode cX4_bringBack 48 = .ok (.iload_n 1, 1) := by decide +kernel
theorem dX4_bringBack_49 : decode cX4_bringBack 49 = .ok (.iaload, 1) := by decide +kernel
theorem dX4_bringBack_50 : decode cX4_bringBack 50 = .ok (.istore_n 2, 1) := by decide +kernel
theorem dX4_bringBack_51 : decode cX4_bringBack 51 = .ok (.aload_n 0, 1) := by decide +kernel
theorem dX4_bringBack_52 : decode cX4_bringBack 52 = .ok (.getfield 15, 3) := by decide +kernel
theorem dX4_bringBack_55 : decode cX4_bringBack 55 = .ok (.aload_n 0, 1) := by decide +kernel
theorem dX4_bringBack_56 : decode cX4_bringBack 56 = .ok (.getfield 44, 3) := by decide +kernel
theorem dX4_bringBack_59 : decode cX4_bringBack 59 = .ok (.iload_n 2, 1) := by decide +kernel
theorem dX4_bringBack_60 : decode cX4_bringBack 60 = .ok (.invokevirtual 162, 3) := by decide +kernel
theorem dX4_bringBack_63 : decode cX4_bringBack 63 = .ok (.aload_n 0, 1) := by decide +kernel
theorem dX4_bringBack_64 : decode cX4_bringBack 64 = .ok (.aload_n 0, 1) := by decide +kernel
theorem dX4_bringBack_65 : decode cX4_bringBack 65 = .ok (.getfield 44, 3) := by decide +kernel
theorem dX4_bringBack_68 : decode cX4_bringBack 68 = .ok (.iload_n 2, 1) := by decide +kernel
theorem dX4_bringBack_69 : decode cX4_bringBack 69 = .ok (.invokevirtual 148, 3) := by decide +kernel
theorem dX4_bringBack_72 : decode cX4_bringBack 72 = .ok (.return_, 1) := by decide +kernel
abbrev wmX4_bringBack : List Cond := .code yX4_bringBack cX4_bringBack 3 none :: cBig
def f_X4_bringBack_L2 (N : Nat) (a1 : Int32) (J41 : gM → Option gM) : Nat → Int32 → gM → Option gM
  | 0, _, _ => none
  | n11 + 1, x9, M10 => (if (nI N) ≤ x9 then J41 M10 else lt (M10 (13, 0, 0) 6) (fun v13 => o1 (f_X10_isIn N M10 v13 x9) (fun v15 => jn (fun (M16 : gM) => lt (x9 + 1) (fun x17 => f_X4_bringBack_L2 N a1 J41 n11 x17 M16)) (fun J35 => (if v15 = 0 then J35 M10 else ix x9 N (fun v19 => o1 (f_X8_setThere N M10 v19 a1) (fun M21 => J35 M21)))))))
def f_X4_bringBack (N : Nat) (M : gM) (a1 : Int32) : Option gM :=
  jn (fun (M1 : gM) => rd M1 (2, 0, 0) 48 a1 (fun v2 => lt (M1 (13, 0, 0) 6) (fun v3 => o1 (f_X6_countAll N M1 v3 v2) (fun M5 => lt (M5 (13, 0, 0) 6) (fun v6 => o1 (f_X4_noteChange N M5 v6 v2) (fun M8 => some M8)))))) (fun J41 => f_X4_bringBack_L2 N a1 J41 100 (0 : Int32) M)
set_option maxHeartbeats 4000000 in
set_option maxRecDepth 100000 in
theorem t_X4_bringBack (l : Launch) (N : Nat) (D : va_G) (dA : Nat → ClassId) (A : gI → Nat) (hJ : gJ (cLive N) A) {M : gM} {a1 : Int32}  {y : gM} (h : f_X4_bringBack N M a1 = some y) : cMv l yX4_bringBack wmX4_bringBack ({ frames := 3, cells := 0, slots := 0, locals := 68 } : Room) N D dA A [.ref (A (13, 0, 0)), .int a1] M y := by
  refine Met.ofW (cc := cX4_bringBack) (maxL := 3) (ret := none) (by decide) rfl ?_
  intro p e s m args below meth c s₁ B hml hv
  obtain ⟨rfl, hP, hK, hN⟩ := hv
  generalize hargs : ([.ref (A (13, 0, 0)), .int a1] : List Value).toArray = args at B ⊢
  have S : CallFix p m c cX4_bringBack 3 s args wmX4_bringBack RX4 := ⟨B.exec, B.bytes, hml, findClass_of_methodNamed B.named, atoms_spec (ws := wmX4_bringBack) B.pre⟩
  obtain ⟨hx, hb, -, hown, hts⟩ := id S
  have hr := B.returns
  have hlocks := B.notSynchronized
  have X : gX D vwCl dA (cLive N) A (gA (cLive N) A) s := ⟨hK, hJ, fun i hi => ⟨i, hi, rfl⟩⟩
  have Z : gZ D (cLay N) dA (cLive N) A (gA (cLive N) A) s.heap M s.heap [] := ⟨hP, va_S.rf⟩
  have hin_X0 : ∀ w ∈ wsX00, w ∈ wmX4_bringBack := cin_X0
  have hin_X4 : ∀ w ∈ wsX40, w ∈ wmX4_bringBack := cin_X4
  have hin_X7 : ∀ w ∈ wsX70, w ∈ wmX4_bringBack := cin_X7
  have hl_15 := hts (.fieldLink RX4 15 "ReplicaFiles$Meeting" "replicas" "LReplicaFiles$Replicas;") (cBc 323 rfl)
  have hl_25 := hts (.fieldLink RX4 25 "ReplicaFiles$Meeting" "catalog" "LReplicaFiles$Catalog;") (cBc 324 rfl)
  have hl_30 := hts (.fieldLink RX4 30 "ReplicaFiles$Meeting" "servers" "[LReplicaFiles$Server;") (cBc 325 rfl)
  have hl_44 := hts (.fieldLink RX4 44 "ReplicaFiles$Meeting" "group" "I") (cBc 333 rfl)
  have hl_74 := va_Nw.use (A := args) rfl (hN.1 ("ReplicaFiles$Meeting", 74, "ReplicaFiles$Server", "tree", "LReplicaFiles$Tree;", "ReplicaFiles") (by decide +kernel))
  have hl_104 := va_Nw.use (A := args) rfl (hN.1 ("ReplicaFiles$Meeting", 104, "ReplicaFiles$Catalog", "parent", "[I", "ReplicaFiles") (by decide +kernel))
  have hl := lv_entry ([.ref (A (13, 0, 0)), .int a1]) (n := 3) (Nat.le_of_ble_eq_true rfl)
  rw [← hargs, lg_entry_eq, hargs]
  generalize (lg_sl ([.ref (A (13, 0, 0)), .int a1]) ++ List.replicate (3 - (lg_sl ([.ref (A (13, 0, 0)), .int a1])).length) Slot.unset).toArray = ls at hl ⊢
  have hl : lv_has ls 3 [(0, .ref (A (13, 0, 0))), (1, .int a1)] := hl
  unfold f_X4_bringBack at h
  refine lv_iconst (v := (0 : Int32)) hx hb dX4_bringBack_0 (by decide) ?_
  refine lv_istore_n (lv' := [(2, .int (0 : Int32)), (0, .ref (A (13, 0, 0))), (1, .int a1)]) hx hb dX4_bringBack_1 rfl hl (by decide) rfl (fun ls hl => ?_)
  obtain ⟨J41, eJ41, h⟩ := jn_e h
  have hJ41 : ∀ (M1 : gM) (H : Heap) (locs : List Loc) (ls : Array Slot), gZ D (cLay N) dA (cLive N) A (gA (cLive N) A) s.heap M1 H locs → lv_has ls 3 [(0, .ref (A (13, 0, 0))), (1, .int a1)] → J41 M1 = some y → W p l e (headSpec wmX4_bringBack ({ frames := 3, cells := 0, slots := 0, locals := 68 } : Room)).room s m args below meth c H locs 0 0 (MQ below (cQv N D dA A y) args s 0 0 (gA (cLive N) A)) (F0 m 41 ls []) := by
    intro M1 H locs ls Z hl h
    rw [eJ41] at h
    try dsimp only at h
    refine lv_aload_n hx hb dX4_bringBack_41 rfl (lv_at hl 0 rfl) ?_
    refine cr_X4_catalog S X Z hin_X4 (cl_one N 13 (by decide)) hl_25 dX4_bringBack_42 ?_
    refine cn_X0_parent S X Z hin_X0 (cl_one N 1 (by decide)) hl_104 dX4_bringBack_45 ?_
    refine lv_iload_n hx hb dX4_bringBack_48 rfl (lv_at hl 1 rfl) ?_
    refine g_iald (i := (2, 0, 0)) (n := 48) S X Z (cl_one N 2 (by decide)) rfl dX4_bringBack_49 h (fun v2 h => ?_)
    refine lv_istore_n (lv' := [(2, .int v2), (0, .ref (A (13, 0, 0))), (1, .int a1)]) hx hb dX4_bringBack_50 rfl hl (by decide) rfl (fun ls hl => ?_)
    refine lv_aload_n hx hb dX4_bringBack_51 rfl (lv_at hl 1 rfl) ?_
    refine cr_X4_replicas S X Z hin_X4 (cl_one N 13 (by decide)) hl_15 dX4_bringBack_52 ?_
    refine lv_aload_n hx hb dX4_bringBack_55 rfl (lv_at hl 1 rfl) ?_
    refine cr_X4_group S X Z hin_X4 (cl_one N 13 (by decide)) hl_44 dX4_bringBack_56 h (fun v3 h => ?_)
    refine lv_iload_n hx hb dX4_bringBack_59 rfl (lv_at hl 0 rfl) ?_
    obtain ⟨M5, hc4, h⟩ := o1_e h
    refine c_v X Z (c_V (i := (10, 0, 0)) (As := [.int v3, .int v2]) (rest := []) S X hN Z (cl_one N 10 (by decide)) rfl rfl (t_X6_countAll l N D dA A hJ  hc4) (cwV 2 hts (cGV (cB 362 rfl) (cB 216 rfl) (cB 217 rfl) (cB 203 rfl) (cB 199 rfl)) rfl rfl rfl (by decide +kernel) ⟨Nat.le_of_ble_eq_true rfl, Nat.le_of_ble_eq_true rfl⟩) rfl hl.1 rfl (Nat.le_of_ble_eq_true rfl) dX4_bringBack_60 ⟨Nat.zero_le _, Nat.zero_le _⟩) (fun H locs Z => ?_)
    refine lv_aload_n hx hb dX4_bringBack_63 rfl (lv_at hl 1 rfl) ?_
    refine lv_aload_n hx hb dX4_bringBack_64 rfl (lv_at hl 1 rfl) ?_
    refine cr_X4_group S X Z hin_X4 (cl_one N 13 (by decide)) hl_44 dX4_bringBack_65 h (fun v6 h => ?_)
    refine lv_iload_n hx hb dX4_bringBack_68 rfl (lv_at hl 0 rfl) ?_
    obtain ⟨M8, hc7, h⟩ := o1_e h
    refine c_v X Z (c_V (i := (13, 0, 0)) (As := [.int v6, .int v2]) (rest := []) S X hN Z (cl_one N 13 (by decide)) rfl rfl (t_X4_noteChange l N D dA A hJ  hc7) (cwV 2 hts (cGV (cB 357 rfl) (cB 358 rfl) (cB 359 rfl) (cB 341 rfl) (cB 350 rfl)) rfl rfl rfl (by decide +kernel) ⟨Nat.le_of_ble_eq_true rfl, Nat.le_of_ble_eq_true rfl⟩) rfl hl.1 rfl (Nat.le_of_ble_eq_true rfl) dX4_bringBack_69 ⟨Nat.zero_le _, Nat.zero_le _⟩) (fun H locs Z => ?_)
    have hy := Option.some.inj h
    subst hy
    exact g_rv S Z hr hlocks dX4_bringBack_72
  have hL2 : ∀ (n : Nat) (x9 : Int32) (M10 : gM) (H : Heap) (locs : List Loc) (ls : Array Slot), gZ D (cLay N) dA (cLive N) A (gA (cLive N) A) s.heap M10 H locs → lv_has ls 3 [(0, .ref (A (13, 0, 0))), (1, .int a1), (2, .int x9)] → f_X4_bringBack_L2 N a1 J41 n x9 M10 = some y → W p l e (headSpec wmX4_bringBack ({ frames := 3, cells := 0, slots := 0, locals := 68 } : Room)).room s m args below meth c H locs 0 0 (MQ below (cQv N D dA A y) args s 0 0 (gA (cLive N) A)) (F0 m 2 ls []) := by
    intro n
    induction n with
    | zero =>
      intro x9 M10 H locs ls Z hl h
      rw [f_X4_bringBack_L2] at h
      cases h
    | succ n11 ih2 =>
      intro x9 M10 H locs ls Z hl h
      rw [f_X4_bringBack_L2] at h
      refine lv_iload_n hx hb dX4_bringBack_2 rfl (lv_at hl 2 rfl) ?_
      refine lv_aload_n hx hb dX4_bringBack_3 rfl (lv_at hl 0 rfl) ?_
      refine cr_X4_servers S X Z hin_X4 (cl_one N 13 (by decide)) hl_30 dX4_bringBack_4 ?_
      refine g_alR (i := (7, 0, 0)) (ca := 2) rfl S X Z (cl_one N 7 (by decide)) rfl dX4_bringBack_7 ?_
      refine lv_icmp_ge (tgt := 41) hx hb dX4_bringBack_8 (by decide) (fun c12 => ?_) (fun c12 => ?_)
      · have h := if_t c12 h
        exact hJ41 M10 _ _ _ Z (lv_sub hl [0, 1] rfl) h
      · have h := if_f c12 h
        refine lv_aload_n hx hb dX4_bringBack_11 rfl (lv_at hl 0 rfl) ?_
        refine cr_X4_group S X Z hin_X4 (cl_one N 13 (by decide)) hl_44 dX4_bringBack_12 h (fun v13 h => ?_)
        refine lv_iload_n hx hb dX4_bringBack_15 rfl (lv_at hl 2 rfl) ?_
        obtain ⟨v15, hc14, h⟩ := o1_e h
        refine c_i X Z (c_SN (As := [.int v13, .int x9]) (rest := []) S X hN Z (t_X10_isIn l N D dA A hJ  hc14) ⟨va_cnB 2 hts (cG (cB 175 rfl)) rfl rfl rfl (hN.2 ("ReplicaFiles$Meeting", 113, yX10_isIn, "ReplicaFiles") (by decide +kernel)) (hts (.initialized RX10) (cBc 107 rfl)) (by decide +kernel) ⟨Nat.le_of_ble_eq_true rfl, Nat.le_of_ble_eq_true rfl⟩, hts (.static yX10_isIn) (cBc 178 rfl), trivial⟩ rfl hl.1 rfl (Nat.le_of_ble_eq_true rfl) dX4_bringBack_16 ⟨Nat.zero_le _, Nat.zero_le _⟩) (fun H locs Z => ?_)
        obtain ⟨J35, eJ35, h⟩ := jn_e h
        have hJ35 : ∀ (M16 : gM) (H : Heap) (locs : List Loc) (ls : Array Slot), gZ D (cLay N) dA (cLive N) A (gA (cLive N) A) s.heap M16 H locs → lv_has ls 3 [(0, .ref (A (13, 0, 0))), (1, .int a1), (2, .int x9)] → J35 M16 = some y → W p l e (headSpec wmX4_bringBack ({ frames := 3, cells := 0, slots := 0, locals := 68 } : Room)).room s m args below meth c H locs 0 0 (MQ below (cQv N D dA A y) args s 0 0 (gA (cLive N) A)) (F0 m 35 ls []) := by
          intro M16 H locs ls Z hl h
          rw [eJ35] at h
          try dsimp only at h
          obtain ⟨x17, ex17, h⟩ := lt_e h
          refine lv_iinc (v := x17) (lv' := [(2, .int x17), (0, .ref (A (13, 0, 0))), (1, .int a1)]) hx hb dX4_bringBack_35 hl (k := 2) rfl (by rw [ex17]; rfl) (by decide) rfl (fun ls hl => ?_)
          refine lv_goto (tgt := 2) hx hb dX4_bringBack_38 (by decide) ?_
          exact ih2 x17 M16 _ _ _ Z (lv_sub hl [1, 2, 0] rfl) h
        refine lv_if_eq (tgt := 35) hx hb dX4_bringBack_19 (by decide) (fun c18 => ?_) (fun c18 => ?_)
        · have h := if_t c18 h
          exact hJ35 M10 _ _ _ Z (lv_sub hl [0, 1, 2] rfl) h
        · have h := if_f c18 h
          refine lv_aload_n hx hb dX4_bringBack_22 rfl (lv_at hl 0 rfl) ?_
          refine cr_X4_servers S X Z hin_X4 (cl_one N 13 (by decide)) hl_30 dX4_bringBack_23 ?_
          refine lv_iload_n hx hb dX4_bringBack_26 rfl (lv_at hl 2 rfl) ?_
          refine g_aald (i := (7, 0, 0)) (ca := 2) ⟨rfl, rfl⟩ S X Z (cl_one N 7 (by decide)) rfl dX4_bringBack_27 h (fun v19 hv19 h => ?_)
          refine cn_X7_tree (a := v19) S X Z hin_X7 (cl_srv hv19) hl_74 dX4_bringBack_28 ?_
          refine lv_iload_n hx hb dX4_bringBack_31 rfl (lv_at hl 1 rfl) ?_
          obtain ⟨M21, hc20, h⟩ := o1_e h
          refine c_v X Z (c_V (i := (50, v19, 0)) (As := [.int a1]) (rest := []) S X hN Z (cl_st (cl_srv hv19)) rfl rfl (t_X8_setThere l N D dA A hJ (cl_st (cl_srv hv19)) hc20) (cwV 1 hts (cGV (cB 361 rfl) (cB 120 rfl) (cB 121 rfl) (cB 44 rfl) (cB 117 rfl)) rfl rfl rfl (by decide +kernel) ⟨Nat.le_of_ble_eq_true rfl, Nat.le_of_ble_eq_true rfl⟩) rfl hl.1 rfl (Nat.le_of_ble_eq_true rfl) dX4_bringBack_32 ⟨Nat.zero_le _, Nat.zero_le _⟩) (fun H locs Z => ?_)
          exact hJ35 M21 _ _ _ Z (lv_sub hl [0, 1, 2] rfl) h
  exact hL2 100 (0 : Int32) M _ _ _ Z (lv_sub hl [1, 2, 0] rfl) h
-- X4_isToStay (I)Z: 43 instructions
theorem dX4_isToStay_0 : decode cX4_isToStay 0 = .ok (.aload_n 0, 1) := by decide +kernel
theorem dX4_isToStay_1 : decode cX4_isToStay 1 = .ok (.getfield 30, 3) := by decide +kernel
theorem dX4_isToStay_4 : decode cX4_isToStay 4 = .ok (.aload_n 0, 1) := by decide +kernel
theorem dX4_isToStay_5 : decode cX4_isToStay 5 = .ok (.getfield 15, 3) := by decide +kernel
theorem dX4_isToStay_8 : decode cX4_isToStay 8 = .ok (.aload_n 0, 1) := by decide +kernel
theorem dX4_isToStay_9 : decode cX4_isToStay 9 = .ok (.getfield 44, 3) := by decide +kernel
theorem dX4_isToStay_12 : decode cX4_isToStay 12 = .ok (.invokevirtual 70, 3) := by decide +kernel
theorem dX4_isToStay_15 : decode cX4_isToStay 15 = .ok (.aaload, 1) := by decide +kernel
theorem dX4_isToStay_16 : decode cX4_isToStay 16 = .ok (.getfield 74, 3) := by decide +kernel
theorem dX4_isToStay_19 : decode cX4_isToStay 19 = .ok (.getfield 80, 3) := by decide +kernel
theorem dX4_isToStay_22 : decode cX4_isToStay 22 = .ok (.iload_n 1, 1) := by decide +kernel
theorem dX4_isToStay_23 : decode cX4_isToStay 23 = .ok (.iaload, 1) := by decide +kernel
theorem dX4_isToStay_24 : decode cX4_isToStay 24 = .ok (.istore_n 2, 1) := by decide +kernel
theorem dX4_isToStay_25 : decode cX4_isToStay 25 = .ok (.iload_n 2, 1) := by decide +kernel
theorem dX4_isToStay_26 : decode cX4_isToStay 26 = .ok (.iconst 1, 1) := by decide +kernel
theorem dX4_isToStay_27 : decode cX4_isToStay 27 = .ok (.if_icmp .ne 5, 3) := by decide +kernel
theorem dX4_isToStay_30 : decode cX4_isToStay 30 = .ok (.iconst 1, 1) := by decide +kernel
theorem dX4_isToStay_31 : decode cX4_isToStay 31 = .ok (.ireturn, 1) := by decide +kernel
theorem dX4_isToStay_32 : decode cX4_isToStay 32 = .ok (.aload_n 0, 1) := by decide +kernel
theorem dX4_isToStay_33 : decode cX4_isToStay 33 = .ok (.getfield 15, 3) := by decide +kernel
theorem dX4_isToStay_36 : decode cX4_isToStay 36 = .ok (.aload_n 0, 1) := by decide +kernel
theorem dX4_isToStay_37 : decode cX4_isToStay 37 = .ok (.getfield 44, 3) := by decide +kernel
theorem dX4_isToStay_40 : decode cX4_isToStay 40 = .ok (.iload_n 1, 1) := by decide +kernel
theorem dX4_isToStay_41 : decode cX4_isToStay 41 = .ok (.invokevirtual 85, 3) := by decide +kernel
theorem dX4_isToStay_44 : decode cX4_isToStay 44 = .ok (.ifCond .ne 5, 3) := by decide +kernel
theorem dX4_isToStay_47 : decode cX4_isToStay 47 = .ok (.iconst 0, 1) := by decide +kernel
theorem dX4_isToStay_48 : decode cX4_isToStay 48 = .ok (.ireturn, 1) := by decide +kernel
theorem dX4_isToStay_49 : decode cX4_isToStay 49 = .ok (.iload_n 2, 1) := by decide +kernel
theorem dX4_isToStay_50 : decode cX4_isToStay 50 = .ok (.iconst 2, 1) := by decide +kernel
theorem dX4_isToStay_51 : decode cX4_isToStay 51 = .ok (.if_icmp .ne 22, 3) := by decide +kernel
theorem dX4_isToStay_54 : decode cX4_isToStay 54 = .ok (.aload_n 0, 1) := by decide +kernel
theorem dX4_isToStay_55 : decode cX4_isToStay 55 = .ok (.iload_n 1, 1) := by decide +kernel
theorem dX4_isToStay_56 : decode cX4_isToStay 56 = .ok (.invokevirtual 89, 3) := by decide +kernel
theorem dX4_isToStay_59 : decode cX4_isToStay 59 = .ok (.ifCond .eq 9, 3) := by decide +kernel
theorem dX4_isToStay_62 : decode cX4_isToStay 62 = .ok (.aload_n 0, 1) := by decide +kernel
theorem dX4_isToStay_63 : decode cX4_isToStay 63 = .ok (.invokevirtual 92, 3) := by decide +kernel
theorem dX4_isToStay_66 : decode cX4_isToStay 66 = .ok (.iconst 0, 1) := by decide +kernel
theorem dX4_isToStay_67 : decode cX4_isToStay 67 = .ok (.ireturn, 1) := by decide +kernel
theorem dX4_isToStay_68 : decode cX4_isToStay 68 = .ok (.aload_n 0, 1) := by decide +kernel
theorem dX4_isToStay_69 : decode cX4_isToStay 69 = .ok (.iload_n 1, 1) := by decide +kernel
theorem dX4_isToStay_70 : decode cX4_isToStay 70 = .ok (.invokevirtual 95, 3) := by decide +kernel
theorem dX4_isToStay_73 : decode cX4_isToStay 73 = .ok (.iconst 1, 1) := by decide +kernel
theorem dX4_isToStay_74 : decode cX4_isToStay 74 = .ok (.ireturn, 1) := by decide +kernel
abbrev wmX4_isToStay : List Cond := .code yX4_isToStay cX4_isToStay 3 (some .boolean) :: cBig
def f_X4_isToStay (N : Nat) (M : gM) (a1 : Int32) : Option (Int32 × gM) :=
  lt (M (13, 0, 0) 6) (fun v1 => o1 (f_X6_leastOf N M v1) (fun v3 => ix v3 N (fun v4 => rd M (56, v4, 0) 48 a1 (fun v5 => (if v5 = (1 : Int32) then some ((1 : Int32), M) else lt (M (13, 0, 0) 6) (fun v7 => o1 (f_X6_holders N M v7 a1) (fun v9 => (if v9 = 0 then some ((0 : Int32), M) else (if v5 = (2 : Int32) then ob (f_X4_canBeDropped N M a1) (fun v14 M13 => (if v14 = 0 then o1 (f_X4_bringBack N M13 a1) (fun M17 => some ((1 : Int32), M17)) else o1 (f_X4_dropInside N M13 ) (fun M19 => some ((0 : Int32), M19)))) else some ((1 : Int32), M))))))))))
set_option maxHeartbeats 4000000 in
set_option maxRecDepth 100000 in
theorem t_X4_isToStay (l : Launch) (N : Nat) (D : va_G) (dA : Nat → ClassId) (A : gI → Nat) (hJ : gJ (cLive N) A) {M : gM} {a1 : Int32}  {y : (Int32 × gM)} (h : f_X4_isToStay N M a1 = some y) : cMi l yX4_isToStay wmX4_isToStay ({ frames := 4, cells := 0, slots := 0, locals := 93 } : Room) N D dA A [.ref (A (13, 0, 0)), .int a1] M y.1 y.2 := by
  refine Met.ofW (cc := cX4_isToStay) (maxL := 3) (ret := (some .boolean)) (by decide) rfl ?_
  intro p e s m args below meth c s₁ B hml hv
  obtain ⟨rfl, hP, hK, hN⟩ := hv
  generalize hargs : ([.ref (A (13, 0, 0)), .int a1] : List Value).toArray = args at B ⊢
  have S : CallFix p m c cX4_isToStay 3 s args wmX4_isToStay RX4 := ⟨B.exec, B.bytes, hml, findClass_of_methodNamed B.named, atoms_spec (ws := wmX4_isToStay) B.pre⟩
  obtain ⟨hx, hb, -, hown, hts⟩ := id S
  have hr := B.returns
  have hlocks := B.notSynchronized
  have X : gX D vwCl dA (cLive N) A (gA (cLive N) A) s := ⟨hK, hJ, fun i hi => ⟨i, hi, rfl⟩⟩
  have Z : gZ D (cLay N) dA (cLive N) A (gA (cLive N) A) s.heap M s.heap [] := ⟨hP, va_S.rf⟩
  have hin_X4 : ∀ w ∈ wsX40, w ∈ wmX4_isToStay := cin_X4
  have hin_X7 : ∀ w ∈ wsX70, w ∈ wmX4_isToStay := cin_X7
  have hin_X8 : ∀ w ∈ wsX80, w ∈ wmX4_isToStay := cin_X8
  have hl_15 := hts (.fieldLink RX4 15 "ReplicaFiles$Meeting" "replicas" "LReplicaFiles$Replicas;") (cBc 323 rfl)
  have hl_30 := hts (.fieldLink RX4 30 "ReplicaFiles$Meeting" "servers" "[LReplicaFiles$Server;") (cBc 325 rfl)
  have hl_44 := hts (.fieldLink RX4 44 "ReplicaFiles$Meeting" "group" "I") (cBc 333 rfl)
  have hl_74 := va_Nw.use (A := args) rfl (hN.1 ("ReplicaFiles$Meeting", 74, "ReplicaFiles$Server", "tree", "LReplicaFiles$Tree;", "ReplicaFiles") (by decide +kernel))
  have hl_80 := va_Nw.use (A := args) rfl (hN.1 ("ReplicaFiles$Meeting", 80, "ReplicaFiles$Tree", "state", "[I", "ReplicaFiles") (by decide +kernel))
  have hl := lv_entry ([.ref (A (13, 0, 0)), .int a1]) (n := 3) (Nat.le_of_ble_eq_true rfl)
  rw [← hargs, lg_entry_eq, hargs]
  generalize (lg_sl ([.ref (A (13, 0, 0)), .int a1]) ++ List.replicate (3 - (lg_sl ([.ref (A (13, 0, 0)), .int a1])).length) Slot.unset).toArray = ls at hl ⊢
  have hl : lv_has ls 3 [(0, .ref (A (13, 0, 0))), (1, .int a1)] := hl
  unfold f_X4_isToStay at h
  refine lv_aload_n hx hb dX4_isToStay_0 rfl (lv_at hl 0 rfl) ?_
  refine cr_X4_servers S X Z hin_X4 (cl_one N 13 (by decide)) hl_30 dX4_isToStay_1 ?_
  refine lv_aload_n hx hb dX4_isToStay_4 rfl (lv_at hl 0 rfl) ?_
  refine cr_X4_replicas S X Z hin_X4 (cl_one N 13 (by decide)) hl_15 dX4_isToStay_5 ?_
  refine lv_aload_n hx hb dX4_isToStay_8 rfl (lv_at hl 0 rfl) ?_
  refine cr_X4_group S X Z hin_X4 (cl_one N 13 (by decide)) hl_44 dX4_isToStay_9 h (fun v1 h => ?_)
  obtain ⟨v3, hc2, h⟩ := o1_e h
  refine c_i X Z (c_V (i := (10, 0, 0)) (As := [.int v1]) (rest := [.ref (A (7, 0, 0))]) S X hN Z (cl_one N 10 (by decide)) rfl rfl (t_X6_leastOf l N D dA A hJ  hc2) (cwV 1 hts (cGV (cB 364 rfl) (cB 302 rfl) (cB 303 rfl) (cB 203 rfl) (cB 176 rfl)) rfl rfl rfl (by decide +kernel) ⟨Nat.le_of_ble_eq_true rfl, Nat.le_of_ble_eq_true rfl⟩) rfl hl.1 rfl (Nat.le_of_ble_eq_true rfl) dX4_isToStay_12 ⟨Nat.zero_le _, Nat.zero_le _⟩) (fun H locs Z => ?_)
  refine g_aald (i := (7, 0, 0)) (ca := 2) ⟨rfl, rfl⟩ S X Z (cl_one N 7 (by decide)) rfl dX4_isToStay_15 h (fun v4 hv4 h => ?_)
  refine cn_X7_tree (a := v4) S X Z hin_X7 (cl_srv hv4) hl_74 dX4_isToStay_16 ?_
  refine cn_X8_state (a := v4) S X Z hin_X8 (cl_st (cl_srv hv4)) hl_80 dX4_isToStay_19 ?_
  refine lv_iload_n hx hb dX4_isToStay_22 rfl (lv_at hl 1 rfl) ?_
  refine g_iald (i := (56, v4, 0)) (n := 48) S X Z (cl_X8_state (cl_st (cl_srv hv4))) rfl dX4_isToStay_23 h (fun v5 h => ?_)
  refine lv_istore_n (lv' := [(2, .int v5), (0, .ref (A (13, 0, 0))), (1, .int a1)]) hx hb dX4_isToStay_24 rfl hl (by decide) rfl (fun ls hl => ?_)
  refine lv_iload_n hx hb dX4_isToStay_25 rfl (lv_at hl 0 rfl) ?_
  refine lv_iconst (v := (1 : Int32)) hx hb dX4_isToStay_26 (by decide) ?_
  refine lv_icmp_ne (tgt := 32) hx hb dX4_isToStay_27 (by decide) (fun c6 => ?_) (fun c6 => ?_)
  · have h := if_f c6 h
    refine lv_aload_n hx hb dX4_isToStay_32 rfl (lv_at hl 1 rfl) ?_
    refine cr_X4_replicas S X Z hin_X4 (cl_one N 13 (by decide)) hl_15 dX4_isToStay_33 ?_
    refine lv_aload_n hx hb dX4_isToStay_36 rfl (lv_at hl 1 rfl) ?_
    refine cr_X4_group S X Z hin_X4 (cl_one N 13 (by decide)) hl_44 dX4_isToStay_37 h (fun v7 h => ?_)
    refine lv_iload_n hx hb dX4_isToStay_40 rfl (lv_at hl 2 rfl) ?_
    obtain ⟨v9, hc8, h⟩ := o1_e h
    refine c_i X Z (c_V (i := (10, 0, 0)) (As := [.int v7, .int a1]) (rest := []) S X hN Z (cl_one N 10 (by decide)) rfl rfl (t_X6_holders l N D dA A hJ  hc8) (cwV 2 hts (cGV (cB 337 rfl) (cB 225 rfl) (cB 226 rfl) (cB 203 rfl) (cB 222 rfl)) rfl rfl rfl (by decide +kernel) ⟨Nat.le_of_ble_eq_true rfl, Nat.le_of_ble_eq_true rfl⟩) rfl hl.1 rfl (Nat.le_of_ble_eq_true rfl) dX4_isToStay_41 ⟨Nat.zero_le _, Nat.zero_le _⟩) (fun H locs Z => ?_)
    refine lv_if_ne (tgt := 49) hx hb dX4_isToStay_44 (by decide) (fun c10 => ?_) (fun c10 => ?_)
    · have h := if_f c10 h
      refine lv_iload_n hx hb dX4_isToStay_49 rfl (lv_at hl 0 rfl) ?_
      refine lv_iconst (v := (2 : Int32)) hx hb dX4_isToStay_50 (by decide) ?_
      refine lv_icmp_ne (tgt := 73) hx hb dX4_isToStay_51 (by decide) (fun c11 => ?_) (fun c11 => ?_)
      · have h := if_f c11 h
        refine lv_iconst (v := (1 : Int32)) hx hb dX4_isToStay_73 (by decide) ?_
        have hy := Option.some.inj h
        subst hy
        exact g_rz (Or.inr rfl) S Z hr hlocks dX4_isToStay_74
      · have h := if_t c11 h
        refine lv_aload_n hx hb dX4_isToStay_54 rfl (lv_at hl 1 rfl) ?_
        refine lv_iload_n hx hb dX4_isToStay_55 rfl (lv_at hl 2 rfl) ?_
        obtain ⟨v14, M13, hc12, h⟩ := ob_e h
        refine c_i X Z (c_V (i := (13, 0, 0)) (As := [.int a1]) (rest := []) S X hN Z (cl_one N 13 (by decide)) rfl rfl (t_X4_canBeDropped l N D dA A hJ  hc12) (cwV 1 hts (cGV (cB 365 rfl) (cB 366 rfl) (cB 367 rfl) (cB 341 rfl) (cB 345 rfl)) rfl rfl rfl (by decide +kernel) ⟨Nat.le_of_ble_eq_true rfl, Nat.le_of_ble_eq_true rfl⟩) rfl hl.1 rfl (Nat.le_of_ble_eq_true rfl) dX4_isToStay_56 ⟨Nat.zero_le _, Nat.zero_le _⟩) (fun H locs Z => ?_)
        refine lv_if_eq (tgt := 68) hx hb dX4_isToStay_59 (by decide) (fun c15 => ?_) (fun c15 => ?_)
        · have h := if_t c15 h
          refine lv_aload_n hx hb dX4_isToStay_68 rfl (lv_at hl 1 rfl) ?_
          refine lv_iload_n hx hb dX4_isToStay_69 rfl (lv_at hl 2 rfl) ?_
          obtain ⟨M17, hc16, h⟩ := o1_e h
          refine c_v X Z (c_V (i := (13, 0, 0)) (As := [.int a1]) (rest := []) S X hN Z (cl_one N 13 (by decide)) rfl rfl (t_X4_bringBack l N D dA A hJ  hc16) (cwV 1 hts (cGV (cB 371 rfl) (cB 372 rfl) (cB 373 rfl) (cB 341 rfl) (cB 363 rfl)) rfl rfl rfl (by decide +kernel) ⟨Nat.le_of_ble_eq_true rfl, Nat.le_of_ble_eq_true rfl⟩) rfl hl.1 rfl (Nat.le_of_ble_eq_true rfl) dX4_isToStay_70 ⟨Nat.zero_le _, Nat.zero_le _⟩) (fun H locs Z => ?_)
          refine lv_iconst (v := (1 : Int32)) hx hb dX4_isToStay_73 (by decide) ?_
          have hy := Option.some.inj h
          subst hy
          exact g_rz (Or.inr rfl) S Z hr hlocks dX4_isToStay_74
        · have h := if_f c15 h
          refine lv_aload_n hx hb dX4_isToStay_62 rfl (lv_at hl 1 rfl) ?_
          obtain ⟨M19, hc18, h⟩ := o1_e h
          refine c_v X Z (c_V (i := (13, 0, 0)) (As := []) (rest := []) S X hN Z (cl_one N 13 (by decide)) rfl rfl (t_X4_dropInside l N D dA A hJ  hc18) (cwV 0 hts (cGV (cB 368 rfl) (cB 369 rfl) (cB 370 rfl) (cB 341 rfl) (cB 360 rfl)) rfl rfl rfl (by decide +kernel) ⟨Nat.le_of_ble_eq_true rfl, Nat.le_of_ble_eq_true rfl⟩) rfl hl.1 rfl (Nat.le_of_ble_eq_true rfl) dX4_isToStay_63 ⟨Nat.zero_le _, Nat.zero_le _⟩) (fun H locs Z => ?_)
          refine lv_iconst (v := (0 : Int32)) hx hb dX4_isToStay_66 (by decide) ?_
          have hy := Option.some.inj h
          subst hy
          exact g_rz (Or.inl rfl) S Z hr hlocks dX4_isToStay_67
    · have h := if_t c10 h
      refine lv_iconst (v := (0 : Int32)) hx hb dX4_isToStay_47 (by decide) ?_
      have hy := Option.some.inj h
      subst hy
      exact g_rz (Or.inl rfl) S Z hr hlocks dX4_isToStay_48
  · have h := if_t c6 h
    refine lv_iconst (v := (1 : Int32)) hx hb dX4_isToStay_30 (by decide) ?_
    have hy := Option.some.inj h
    subst hy
    exact g_rz (Or.inr rfl) S Z hr hlocks dX4_isToStay_31
-- X4_allHold (I)Z: 13 instructions
theorem dX4_allHold_0 : decode cX4_allHold 0 = .ok (.aload_n 0, 1) := by decide +kernel
theorem dX4_allHold_1 : decode cX4_allHold 1 = .ok (.getfield 15, 3) := by decide +kernel
theorem dX4_allHold_4 : decode cX4_allHold 4 = .ok (.aload_n 0, 1) := by decide +kernel
theorem dX4_allHold_5 : decode cX4_allHold 5 = .ok (.getfield 44, 3) := by decide +kernel
theorem dX4_allHold_8 : decode cX4_allHold 8 = .ok (.iload_n 1, 1) := by decide +kernel
theorem dX4_allHold_9 : decode cX4_allHold 9 = .ok (.invokevirtual 85, 3) := by decide +kernel
theorem dX4_allHold_12 : decode cX4_allHold 12 = .ok (.aload_n 0, 1) := by decide +kernel
theorem dX4_allHold_13 : decode cX4_allHold 13 = .ok (.getfield 44, 3) := by decide +kernel
theorem dX4_allHold_16 : decode cX4_allHold 16 = .ok (.if_icmp .ne 7, 3) := by decide +kernel
theorem dX4_allHold_19 : decode cX4_allHold 19 = .ok (.iconst 1, 1) := by decide +kernel
theorem dX4_allHold_20 : decode cX4_allHold 20 = .ok (.goto 4, 3) := by decide +kernel
theorem dX4_allHold_23 : decode cX4_allHold 23 = .ok (.iconst 0, 1) := by decide +kernel
theorem dX4_allHold_24 : decode cX4_allHold 24 = .ok (.ireturn, 1) := by decide +kernel
abbrev wmX4_allHold : List Cond := .code yX4_allHold cX4_allHold 2 (some .boolean) :: cBig
def f_X4_allHold (N : Nat) (M : gM) (a1 : Int32) : Option Int32 :=
  lt (M (13, 0, 0) 6) (fun v1 => o1 (f_X6_holders N M v1 a1) (fun v3 => lt (M (13, 0, 0) 6) (fun v4 => (if v3 = v4 then some (1 : Int32) else some (0 : Int32)))))
set_option maxHeartbeats 4000000 in
set_option maxRecDepth 100000 in
theorem t_X4_allHold (l : Launch) (N : Nat) (D : va_G) (dA : Nat → ClassId) (A : gI → Nat) (hJ : gJ (cLive N) A) {M : gM} {a1 : Int32}  {y : Int32} (h : f_X4_allHold N M a1 = some y) : cMi l yX4_allHold wmX4_allHold ({ frames := 2, cells := 0, slots := 0, locals := 45 } : Room) N D dA A [.ref (A (13, 0, 0)), .int a1] M y M := by
  refine Met.ofW (cc := cX4_allHold) (maxL := 2) (ret := (some .boolean)) (by decide) rfl ?_
  intro p e s m args below meth c s₁ B hml hv
  obtain ⟨rfl, hP, hK, hN⟩ := hv
  generalize hargs : ([.ref (A (13, 0, 0)), .int a1] : List Value).toArray = args at B ⊢
  have S : CallFix p m c cX4_allHold 2 s args wmX4_allHold RX4 := ⟨B.exec, B.bytes, hml, findClass_of_methodNamed B.named, atoms_spec (ws := wmX4_allHold) B.pre⟩
  obtain ⟨hx, hb, -, hown, hts⟩ := id S
  have hr := B.returns
  have hlocks := B.notSynchronized
  have X : gX D vwCl dA (cLive N) A (gA (cLive N) A) s := ⟨hK, hJ, fun i hi => ⟨i, hi, rfl⟩⟩
  have Z : gZ D (cLay N) dA (cLive N) A (gA (cLive N) A) s.heap M s.heap [] := ⟨hP, va_S.rf⟩
  have hin_X4 : ∀ w ∈ wsX40, w ∈ wmX4_allHold := cin_X4
  have hl_15 := hts (.fieldLink RX4 15 "ReplicaFiles$Meeting" "replicas" "LReplicaFiles$Replicas;") (cBc 323 rfl)
  have hl_44 := hts (.fieldLink RX4 44 "ReplicaFiles$Meeting" "group" "I") (cBc 333 rfl)
  have hl := lv_entry ([.ref (A (13, 0, 0)), .int a1]) (n := 2) (Nat.le_of_ble_eq_true rfl)
  rw [← hargs, lg_entry_eq, hargs]
  generalize (lg_sl ([.ref (A (13, 0, 0)), .int a1]) ++ List.replicate (2 - (lg_sl ([.ref (A (13, 0, 0)), .int a1])).length) Slot.unset).toArray = ls at hl ⊢
  have hl : lv_has ls 2 [(0, .ref (A (13, 0, 0))), (1, .int a1)] := hl
  unfold f_X4_allHold at h
  refine lv_aload_n hx hb dX4_allHold_0 rfl (lv_at hl 0 rfl) ?_
  refine cr_X4_replicas S X Z hin_X4 (cl_one N 13 (by decide)) hl_15 dX4_allHold_1 ?_
  refine lv_aload_n hx hb dX4_allHold_4 rfl (lv_at hl 0 rfl) ?_
  refine cr_X4_group S X Z hin_X4 (cl_one N 13 (by decide)) hl_44 dX4_allHold_5 h (fun v1 h => ?_)
  refine lv_iload_n hx hb dX4_allHold_8 rfl (lv_at hl 1 rfl) ?_
  obtain ⟨v3, hc2, h⟩ := o1_e h
  refine c_i X Z (c_V (i := (10, 0, 0)) (As := [.int v1, .int a1]) (rest := []) S X hN Z (cl_one N 10 (by decide)) rfl rfl (t_X6_holders l N D dA A hJ  hc2) (cwV 2 hts (cGV (cB 337 rfl) (cB 225 rfl) (cB 226 rfl) (cB 203 rfl) (cB 222 rfl)) rfl rfl rfl (by decide +kernel) ⟨Nat.le_of_ble_eq_true rfl, Nat.le_of_ble_eq_true rfl⟩) rfl hl.1 rfl (Nat.le_of_ble_eq_true rfl) dX4_allHold_9 ⟨Nat.zero_le _, Nat.zero_le _⟩) (fun H locs Z => ?_)
  refine lv_aload_n hx hb dX4_allHold_12 rfl (lv_at hl 0 rfl) ?_
  refine cr_X4_group S X Z hin_X4 (cl_one N 13 (by decide)) hl_44 dX4_allHold_13 h (fun v4 h => ?_)
  refine lv_icmp_ne (tgt := 23) hx hb dX4_allHold_16 (by decide) (fun c5 => ?_) (fun c5 => ?_)
  · have h := if_f c5 h
    refine lv_iconst (v := (0 : Int32)) hx hb dX4_allHold_23 (by decide) ?_
    have hy := Option.some.inj h
    subst hy
    exact g_rz (Or.inl rfl) S Z hr hlocks dX4_allHold_24
  · have h := if_t c5 h
    refine lv_iconst (v := (1 : Int32)) hx hb dX4_allHold_19 (by decide) ?_
    refine lv_goto (tgt := 24) hx hb dX4_allHold_20 (by decide) ?_
    have hy := Option.some.inj h
    subst hy
    exact g_rz (Or.inr rfl) S Z hr hlocks dX4_allHold_24
-- X8_isCopyLike (LReplicaFiles$Tree;I)Z: 80 instructions
theorem dX8_isCopyLike_0 : decode cX8_isCopyLike 0 = .ok (.aload_n 0, 1) := by decide +kernel
theorem dX8_isCopyLike_1 : decode cX8_isCopyLike 1 = .ok (.getfield 9, 3) := by decide +kernel
theorem dX8_isCopyLike_4 : decode cX8_isCopyLike 4 = .ok (.iload_n 2, 1) := by decide +kernel
theorem dX8_isCopyLike_5 : decode cX8_isCopyLike 5 = .ok (.baload, 1) := by decide +kernel
theorem dX8_isCopyLike_6 : decode cX8_isCopyLike 6 = .ok (.aload_n 1, 1) := by decide +kernel
theorem dX8_isCopyLike_7 : decode cX8_isCopyLike 7 = .ok (.getfield 9, 3) := by decide +kernel
theorem dX8_isCopyLike_10 : decode cX8_isCopyLike 10 = .ok (.iload_n 2, 1) := by decide +kernel
theorem dX8_isCopyLike_11 : decode cX8_isCopyLike 11 = .ok (.baload, 1) := by decide +kernel
theorem dX8_isCopyLike_12 : decode cX8_isCopyLike 12 = .ok (.if_icmp .ne 51, 3) := by decide +kernel
theorem dX8_isCopyLike_15 : decode cX8_isCopyLike 15 = .ok (.aload_n 0, 1) := by decide +kernel
theorem dX8_isCopyLike_16 : decode cX8_isCopyLike 16 = .ok (.getfield 15, 3) := by decide +kernel
theorem dX8_isCopyLike_19 : decode cX8_isCopyLike 19 = .ok (.iload_n 2, 1) := by decide +kernel
theorem dX8_isCopyLike_20 : decode cX8_isCopyLike 20 = .ok (.iaload, 1) := by decide +kernel
theorem dX8_isCopyLike_21 : decode cX8_isCopyLike 21 = .ok (.aload_n 1, 1) := by decide +kernel
theorem dX8_isCopyLike_22 : decode cX8_isCopyLike 22 = .ok (.getfield 15, 3) := by decide +kernel
theorem dX8_isCopyLike_25 : decode cX8_isCopyLike 25 = .ok (.iload_n 2, 1) := by decide +kernel
theorem dX8_isCopyLike_26 : decode cX8_isCopyLike 26 = .ok (.iaload, 1) := by decide +kernel
theorem dX8_isCopyLike_27 : decode cX8_isCopyLike 27 = .ok (.if_icmp .ne 36, 3) := by decide +kernel
theorem dX8_isCopyLike_30 : decode cX8_isCopyLike 30 = .ok (.aload_n 0, 1) := by decide +kernel
theorem dX8_isCopyLike_31 : decode cX8_isCopyLike 31 = .ok (.getfield 19, 3) := by decide +kernel
theorem dX8_isCopyLike_34 : decode cX8_isCopyLike 34 = .ok (.iload_n 2, 1) := by decide +kernel
theorem dX8_isCopyLike_35 : decode cX8_isCopyLike 35 = .ok (.iaload, 1) := by decide +kernel
theorem dX8_isCopyLike_36 : decode cX8_isCopyLike 36 = .ok (.aload_n 1, 1) := by decide +kernel
theorem dX8_isCopyLike_37 : decode cX8_isCopyLike 37 = .ok (.getfield 19, 3) := by decide +kernel
theorem dX8_isCopyLike_40 : decode cX8_isCopyLike 40 = .ok (.iload_n 2, 1) := by decide +kernel
theorem dX8_isCopyLike_41 : decode cX8_isCopyLike 41 = .ok (.iaload, 1) := by decide +kernel
theorem dX8_isCopyLike_42 : decode cX8_isCopyLike 42 = .ok (.if_icmp .ne 21, 3) := by decide +kernel
theorem dX8_isCopyLike_45 : decode cX8_isCopyLike 45 = .ok (.aload_n 0, 1) := by decide +kernel
theorem dX8_isCopyLike_46 : decode cX8_isCopyLike 46 = .ok (.getfield 31, 3) := by decide +kernel
theorem dX8_isCopyLike_49 : decode cX8_isCopyLike 49 = .ok (.iload_n 2, 1) := by decide +kernel
theorem dX8_isCopyLike_50 : decode cX8_isCopyLike 50 = .ok (.aaload, 1) := by decide +kernel
theorem dX8_isCopyLike_51 : decode cX8_isCopyLike 51 = .ok (.aload_n 1, 1) := by decide +kernel
theorem dX8_isCopyLike_52 : decode cX8_isCopyLike 52 = .ok (.getfield 31, 3) := by decide +kernel
theorem dX8_isCopyLike_55 : decode cX8_isCopyLike 55 = .ok (.iload_n 2, 1) := by decide +kernel
theorem dX8_isCopyLike_56 : decode cX8_isCopyLike 56 = .ok (.aaload, 1) := by decide +kernel
theorem dX8_isCopyLike_57 : decode cX8_isCopyLike 57 = .ok (.invokestatic 76, 3) := by decide +kernel
theorem dX8_isCopyLike_60 : decode cX8_isCopyLike 60 = .ok (.ifCond .ne 5, 3) := by decide +kernel
theorem dX8_isCopyLike_63 : decode cX8_isCopyLike 63 = .ok (.iconst 0, 1) := by decide +kernel
theorem dX8_isCopyLike_64 : decode cX8_isCopyLike 64 = .ok (.ireturn, 1) := by decide +kernel
theorem dX8_isCopyLike_65 : decode cX8_isCopyLike 65 = .ok (.iload_n 2, 1) := by decide +kernel
theorem dX8_isCopyLike_66 : decode cX8_isCopyLike 66 = .ok (.iconst 1, 1) := by decide +kernel
theorem dX8_isCopyLike_67 : decode cX8_isCopyLike 67 = .ok (.iadd, 1) := by decide +kernel
theorem dX8_isCopyLike_68 : decode cX8_isCopyLike 68 = .ok (.istore_n 3, 1) := by decide +kernel
theorem dX8_isCopyLike_69 : decode cX8_isCopyLike 69 = .ok (.iload_n 3, 1) := by decide +kernel
theorem dX8_isCopyLike_70 : decode cX8_isCopyLike 70 = .ok (.aload_n 0, 1) := by decide +kernel
theorem dX8_isCopyLike_71 : decode cX8_isCopyLike 71 = .ok (.getfield 25, 3) := by decide +kernel
theorem dX8_isCopyLike_74 : decode cX8_isCopyLike 74 = .ok (.getfield 51, 3) := by decide +kernel
theorem dX8_isCopyLike_77 : decode cX8_isCopyLike 77 = .ok (.if_icmp .gt 57, 3) := by decide +kernel
theorem dX8_isCopyLike_80 : decode cX8_isCopyLike 80 = .ok (.aload_n 0, 1) := by decide +kernel
theorem dX8_isCopyLike_81 : decode cX8_isCopyLike 81 = .ok (.getfield 25, 3) := by decide +kernel
theorem dX8_isCopyLike_84 : decode cX8_isCopyLike 84 = .ok (.getfield 57, 3) := by decide +kernel
theorem dX8_isCopyLike_87 : decode cX8_isCopyLike 87 = .ok (.iload_n 3, 1) := by decide +kernel
theorem dX8_isCopyLike_88 : decode cX8_isCopyLike 88 = .ok (.iaload, 1) := by decide +kernel
theorem dX8_isCopyLike_89 : decode cX8_isCopyLike 89 = .ok (.iload_n 2, 1) := by decide +kernel
theorem dX8_isCopyLike_90 : decode cX8_isCopyLike 90 = .ok (.if_icmp .ne 38, 3) := by decide +kernel
theorem dX8_isCopyLike_93 : decode cX8_isCopyLike 93 = .ok (.aload_n 0, 1) := by decide +kernel
theorem dX8_isCopyLike_94 : decode cX8_isCopyLike 94 = .ok (.getfield 22, 3) := by decide +kernel
theorem dX8_isCopyLike_97 : decode cX8_isCopyLike 97 = .ok (.iload_n 3, 1) := by decide +kernel
theorem dX8_isCopyLike_98 : decode cX8_isCopyLike 98 = .ok (.iaload, 1) := by decide +kernel
theorem dX8_isCopyLike_99 : decode cX8_isCopyLike 99 = .ok (.aload_n 1, 1) := by decide +kernel
theorem dX8_isCopyLike_100 : decode cX8_isCopyLike 100 = .ok (.getfield 22, 3) := by decide +kernel
theorem dX8_isCopyLike_103 : decode cX8_isCopyLike 103 = .ok (.iload_n 3, 1) := by decide +kernel
theorem dX8_isCopyLike_104 : decode cX8_isCopyLike 104 = .ok (.iaload, 1) := by decide +kernel
theorem dX8_isCopyLike_105 : decode cX8_isCopyLike 105 = .ok (.if_icmp .ne 21, 3) := by decide +kernel
theorem dX8_isCopyLike_108 : decode cX8_isCopyLike 108 = .ok (.aload_n 0, 1) := by decide +kernel
theorem dX8_isCopyLike_109 : decode cX8_isCopyLike 109 = .ok (.getfield 34, 3) := by decide +kernel
theorem dX8_isCopyLike_112 : decode cX8_isCopyLike 112 = .ok (.iload_n 3, 1) := by decide +kernel
theorem dX8_isCopyLike_113 : decode cX8_isCopyLike 113 = .ok (.aaload, 1) := by decide +kernel
theorem dX8_isCopyLike_114 : decode cX8_isCopyLike 114 = .ok (.aload_n 1, 1) := by decide +kernel
theorem dX8_isCopyLike_115 : decode cX8_isCopyLike 115 = .ok (.getfield 34, 3) := by decide +kernel
theorem dX8_isCopyLike_118 : decode cX8_isCopyLike 118 = .ok (.iload_n 3, 1) := by decide +kernel
theorem dX8_isCopyLike_119 : decode cX8_isCopyLike 119 = .ok (.aaload, 1) := by decide +kernel
theorem dX8_isCopyLike_120 : decode cX8_isCopyLike 120 = .ok (.invokestatic 76, 3) := by decide +kernel
theorem dX8_isCopyLike_123 : decode cX8_isCopyLike 123 = .ok (.ifCond .ne 5, 3) := by decide +kernel
theorem dX8_isCopyLike_126 : decode cX8_isCopyLike 126 = .ok (.iconst 0, 1) := by decide +kernel
theorem dX8_isCopyLike_127 : decode cX8_isCopyLike 127 = .ok (.ireturn, 1) := by decide +kernel
theorem dX8_isCopyLike_128 : decode cX8_isCopyLike 128 = .ok (.iinc 3 1, 3) := by decide +kernel
theorem dX8_isCopyLike_131 : decode cX8_isCopyLike 131 = .ok (.goto (-62), 3) := by decide +kernel
theorem dX8_isCopyLike_134 : decode cX8_isCopyLike 134 = .ok (.iconst 1, 1) := by decide +kernel
theorem dX8_isCopyLike_135 : decode cX8_isCopyLike 135 = .ok (.ireturn, 1) := by decide +kernel
abbrev wmX8_isCopyLike : List Cond := .code yX8_isCopyLike cX8_isCopyLike 4 (some .boolean) :: cBig
def f_X8_isCopyLike_L69 (N : Nat) (M17 : gM) (i0 : Nat) (i1 : Nat) (a2 : Int32) : Nat → Int32 → Option Int32
  | 0, _ => none
  | n18 + 1, x16 => lt (M17 (1, 0, 0) 3) (fun v19 => (if v19 < x16 then some (1 : Int32) else rd M17 (2, 0, 0) 48 x16 (fun v21 => jn (fun (_ : Unit) => lt (x16 + 1) (fun x22 => f_X8_isCopyLike_L69 N M17 i0 i1 a2 n18 x22)) (fun J128 => (if v21 = a2 then rd M17 (56, i0, 0) 48 x16 (fun v24 => rd M17 (56, i1, 0) 48 x16 (fun v25 => (if v24 = v25 then ix x16 48 (fun v27 => ix x16 48 (fun v28 => o1 (f_X10_isSame N M17 (58, i0, v27) (58, i1, v28)) (fun v30 => (if v30 = 0 then some (0 : Int32) else J128 ())))) else some (0 : Int32)))) else J128 ())))))
def f_X8_isCopyLike (N : Nat) (M : gM) (i0 : Nat) (i1 : Nat) (a2 : Int32) : Option Int32 :=
  rd M (51, i0, 0) 48 a2 (fun v1 => rd M (51, i1, 0) 48 a2 (fun v2 => (if v1 = v2 then rd M (52, i0, 0) 48 a2 (fun v4 => rd M (52, i1, 0) 48 a2 (fun v5 => (if v4 = v5 then rd M (53, i0, 0) 48 a2 (fun v7 => rd M (53, i1, 0) 48 a2 (fun v8 => (if v7 = v8 then ix a2 48 (fun v10 => ix a2 48 (fun v11 => o1 (f_X10_isSame N M (55, i0, v10) (55, i1, v11)) (fun v13 => (if v13 = 0 then some (0 : Int32) else lt ((a2 + (1 : Int32))) (fun x15 => f_X8_isCopyLike_L69 N M i0 i1 a2 100 x15))))) else some (0 : Int32)))) else some (0 : Int32)))) else some (0 : Int32))))
set_option maxHeartbeats 4000000 in
set_option maxRecDepth 100000 in
theorem t_X8_isCopyLike (l : Launch) (N : Nat) (D : va_G) (dA : Nat → ClassId) (A : gI → Nat) (hJ : gJ (cLive N) A) {M : gM} {i0 : Nat} {i1 : Nat} {a2 : Int32} (hi0 : cLive N (50, i0, 0)) (hi1 : cLive N (50, i1, 0)) {y : Int32} (h : f_X8_isCopyLike N M i0 i1 a2 = some y) : cMi l yX8_isCopyLike wmX8_isCopyLike ({ frames := 1, cells := 0, slots := 0, locals := 22 } : Room) N D dA A [.ref (A (50, i0, 0)), .ref (A (50, i1, 0)), .int a2] M y M := by
  refine Met.ofW (cc := cX8_isCopyLike) (maxL := 4) (ret := (some .boolean)) (by decide) rfl ?_
  intro p e s m args below meth c s₁ B hml hv
  obtain ⟨rfl, hP, hK, hN⟩ := hv
  generalize hargs : ([.ref (A (50, i0, 0)), .ref (A (50, i1, 0)), .int a2] : List Value).toArray = args at B ⊢
  have S : CallFix p m c cX8_isCopyLike 4 s args wmX8_isCopyLike RX8 := ⟨B.exec, B.bytes, hml, findClass_of_methodNamed B.named, atoms_spec (ws := wmX8_isCopyLike) B.pre⟩
  obtain ⟨hx, hb, -, hown, hts⟩ := id S
  have hr := B.returns
  have hlocks := B.notSynchronized
  have X : gX D vwCl dA (cLive N) A (gA (cLive N) A) s := ⟨hK, hJ, fun i hi => ⟨i, hi, rfl⟩⟩
  have Z : gZ D (cLay N) dA (cLive N) A (gA (cLive N) A) s.heap M s.heap [] := ⟨hP, va_S.rf⟩
  have hin_X0 : ∀ w ∈ wsX00, w ∈ wmX8_isCopyLike := cin_X0
  have hin_X8 : ∀ w ∈ wsX80, w ∈ wmX8_isCopyLike := cin_X8
  have hl_9 := hts (.fieldLink RX8 9 "ReplicaFiles$Tree" "held" "[Z") (cBc 19 rfl)
  have hl_15 := hts (.fieldLink RX8 15 "ReplicaFiles$Tree" "value" "[I") (cBc 20 rfl)
  have hl_19 := hts (.fieldLink RX8 19 "ReplicaFiles$Tree" "size" "[I") (cBc 21 rfl)
  have hl_22 := hts (.fieldLink RX8 22 "ReplicaFiles$Tree" "state" "[I") (cBc 22 rfl)
  have hl_25 := hts (.fieldLink RX8 25 "ReplicaFiles$Tree" "catalog" "LReplicaFiles$Catalog;") (cBc 23 rfl)
  have hl_31 := hts (.fieldLink RX8 31 "ReplicaFiles$Tree" "counts" "[[I") (cBc 25 rfl)
  have hl_34 := hts (.fieldLink RX8 34 "ReplicaFiles$Tree" "goneCounts" "[[I") (cBc 26 rfl)
  have hl_51 := va_Nw.use (A := args) rfl (hN.1 ("ReplicaFiles$Tree", 51, "ReplicaFiles$Catalog", "made", "I", "ReplicaFiles") (by decide +kernel))
  have hl_57 := va_Nw.use (A := args) rfl (hN.1 ("ReplicaFiles$Tree", 57, "ReplicaFiles$Catalog", "parent", "[I", "ReplicaFiles") (by decide +kernel))
  have hl := lv_entry ([.ref (A (50, i0, 0)), .ref (A (50, i1, 0)), .int a2]) (n := 4) (Nat.le_of_ble_eq_true rfl)
  rw [← hargs, lg_entry_eq, hargs]
  generalize (lg_sl ([.ref (A (50, i0, 0)), .ref (A (50, i1, 0)), .int a2]) ++ List.replicate (4 - (lg_sl ([.ref (A (50, i0, 0)), .ref (A (50, i1, 0)), .int a2])).length) Slot.unset).toArray = ls at hl ⊢
  have hl : lv_has ls 4 [(0, .ref (A (50, i0, 0))), (1, .ref (A (50, i1, 0))), (2, .int a2)] := hl
  unfold f_X8_isCopyLike at h
  refine lv_aload_n hx hb dX8_isCopyLike_0 rfl (lv_at hl 0 rfl) ?_
  refine cr_X8_held (a := i0) S X Z hin_X8 hi0 hl_9 dX8_isCopyLike_1 ?_
  refine lv_iload_n hx hb dX8_isCopyLike_4 rfl (lv_at hl 2 rfl) ?_
  refine g_zald (i := (51, i0, 0)) (n := 48) S X Z (cl_X8_held hi0) rfl dX8_isCopyLike_5 h (fun v1 h => ?_)
  refine lv_aload_n hx hb dX8_isCopyLike_6 rfl (lv_at hl 1 rfl) ?_
  refine cr_X8_held (a := i1) S X Z hin_X8 hi1 hl_9 dX8_isCopyLike_7 ?_
  refine lv_iload_n hx hb dX8_isCopyLike_10 rfl (lv_at hl 2 rfl) ?_
  refine g_zald (i := (51, i1, 0)) (n := 48) S X Z (cl_X8_held hi1) rfl dX8_isCopyLike_11 h (fun v2 h => ?_)
  refine lv_icmp_ne (tgt := 63) hx hb dX8_isCopyLike_12 (by decide) (fun c3 => ?_) (fun c3 => ?_)
  · have h := if_f c3 h
    refine lv_iconst (v := (0 : Int32)) hx hb dX8_isCopyLike_63 (by decide) ?_
    have hy := Option.some.inj h
    subst hy
    exact g_rz (Or.inl rfl) S Z hr hlocks dX8_isCopyLike_64
  · have h := if_t c3 h
    refine lv_aload_n hx hb dX8_isCopyLike_15 rfl (lv_at hl 0 rfl) ?_
    refine cr_X8_value (a := i0) S X Z hin_X8 hi0 hl_15 dX8_isCopyLike_16 ?_
    refine lv_iload_n hx hb dX8_isCopyLike_19 rfl (lv_at hl 2 rfl) ?_
    refine g_iald (i := (52, i0, 0)) (n := 48) S X Z (cl_X8_value hi0) rfl dX8_isCopyLike_20 h (fun v4 h => ?_)
    refine lv_aload_n hx hb dX8_isCopyLike_21 rfl (lv_at hl 1 rfl) ?_
    refine cr_X8_value (a := i1) S X Z hin_X8 hi1 hl_15 dX8_isCopyLike_22 ?_
    refine lv_iload_n hx hb dX8_isCopyLike_25 rfl (lv_at hl 2 rfl) ?_
    refine g_iald (i := (52, i1, 0)) (n := 48) S X Z (cl_X8_value hi1) rfl dX8_isCopyLike_26 h (fun v5 h => ?_)
    refine lv_icmp_ne (tgt := 63) hx hb dX8_isCopyLike_27 (by decide) (fun c6 => ?_) (fun c6 => ?_)
    · have h := if_f c6 h
      refine lv_iconst (v := (0 : Int32)) hx hb dX8_isCopyLike_63 (by decide) ?_
      have hy := Option.some.inj h
      subst hy
      exact g_rz (Or.inl rfl) S Z hr hlocks dX8_isCopyLike_64
    · have h := if_t c6 h
      refine lv_aload_n hx hb dX8_isCopyLike_30 rfl (lv_at hl 0 rfl) ?_
      refine cr_X8_size (a := i0) S X Z hin_X8 hi0 hl_19 dX8_isCopyLike_31 ?_
      refine lv_iload_n hx hb dX8_isCopyLike_34 rfl (lv_at hl 2 rfl) ?_
      refine g_iald (i := (53, i0, 0)) (n := 48) S X Z (cl_X8_size hi0) rfl dX8_isCopyLike_35 h (fun v7 h => ?_)
      refine lv_aload_n hx hb dX8_isCopyLike_36 rfl (lv_at hl 1 rfl) ?_
      refine cr_X8_size (a := i1) S X Z hin_X8 hi1 hl_19 dX8_isCopyLike_37 ?_
      refine lv_iload_n hx hb dX8_isCopyLike_40 rfl (lv_at hl 2 rfl) ?_
      refine g_iald (i := (53, i1, 0)) (n := 48) S X Z (cl_X8_size hi1) rfl dX8_isCopyLike_41 h (fun v8 h => ?_)
      refine lv_icmp_ne (tgt := 63) hx hb dX8_isCopyLike_42 (by decide) (fun c9 => ?_) (fun c9 => ?_)
      · have h := if_f c9 h
        refine lv_iconst (v := (0 : Int32)) hx hb dX8_isCopyLike_63 (by decide) ?_
        have hy := Option.some.inj h
        subst hy
        exact g_rz (Or.inl rfl) S Z hr hlocks dX8_isCopyLike_64
      · have h := if_t c9 h
        refine lv_aload_n hx hb dX8_isCopyLike_45 rfl (lv_at hl 0 rfl) ?_
        refine cr_X8_counts (a := i0) S X Z hin_X8 hi0 hl_31 dX8_isCopyLike_46 ?_
        refine lv_iload_n hx hb dX8_isCopyLike_49 rfl (lv_at hl 2 rfl) ?_
        refine g_aald (i := (54, i0, 0)) (ca := 5) ⟨rfl, rfl⟩ S X Z (cl_X8_counts hi0) rfl dX8_isCopyLike_50 h (fun v10 hv10 h => ?_)
        refine lv_aload_n hx hb dX8_isCopyLike_51 rfl (lv_at hl 1 rfl) ?_
        refine cr_X8_counts (a := i1) S X Z hin_X8 hi1 hl_31 dX8_isCopyLike_52 ?_
        refine lv_iload_n hx hb dX8_isCopyLike_55 rfl (lv_at hl 2 rfl) ?_
        refine g_aald (i := (54, i1, 0)) (ca := 5) ⟨rfl, rfl⟩ S X Z (cl_X8_counts hi1) rfl dX8_isCopyLike_56 h (fun v11 hv11 h => ?_)
        obtain ⟨v13, hc12, h⟩ := o1_e h
        refine c_i X Z (c_SN (As := [.ref (A (55, i0, v10)), .ref (A (55, i1, v11))]) (rest := []) S X hN Z (t_X10_isSame l N D dA A hJ ⟨(cl_55 (cl_X8_counts hi0) hv10), rfl⟩ ⟨(cl_55 (cl_X8_counts hi1) hv11), rfl⟩ hc12) ⟨va_cnB 2 hts (cG (cB 181 rfl)) rfl rfl rfl (hN.2 ("ReplicaFiles$Tree", 76, yX10_isSame, "ReplicaFiles") (by decide +kernel)) (hts (.initialized RX10) (cBc 107 rfl)) (by decide +kernel) ⟨Nat.le_of_ble_eq_true rfl, Nat.le_of_ble_eq_true rfl⟩, hts (.static yX10_isSame) (cBc 227 rfl), trivial⟩ rfl hl.1 rfl (Nat.le_of_ble_eq_true rfl) dX8_isCopyLike_57 ⟨Nat.zero_le _, Nat.zero_le _⟩) (fun H locs Z => ?_)
        refine lv_if_ne (tgt := 65) hx hb dX8_isCopyLike_60 (by decide) (fun c14 => ?_) (fun c14 => ?_)
        · have h := if_f c14 h
          refine lv_iload_n hx hb dX8_isCopyLike_65 rfl (lv_at hl 2 rfl) ?_
          refine lv_iconst (v := (1 : Int32)) hx hb dX8_isCopyLike_66 (by decide) ?_
          refine lv_iadd hx hb dX8_isCopyLike_67 ?_
          refine g_topi h (fun x15 h => ?_)
          refine lv_istore_n (lv' := [(3, .int x15), (0, .ref (A (50, i0, 0))), (1, .ref (A (50, i1, 0))), (2, .int a2)]) hx hb dX8_isCopyLike_68 rfl hl (by decide) rfl (fun ls hl => ?_)
          have hL69 : ∀ (n : Nat) (x16 : Int32) (H : Heap) (locs : List Loc) (ls : Array Slot), gZ D (cLay N) dA (cLive N) A (gA (cLive N) A) s.heap M H locs → lv_has ls 4 [(0, .ref (A (50, i0, 0))), (1, .ref (A (50, i1, 0))), (2, .int a2), (3, .int x16)] → f_X8_isCopyLike_L69 N M i0 i1 a2 n x16 = some y → W p l e (headSpec wmX8_isCopyLike ({ frames := 1, cells := 0, slots := 0, locals := 22 } : Room)).room s m args below meth c H locs 0 0 (MQ below (cQi N D dA A (y, M)) args s 0 0 (gA (cLive N) A)) (F0 m 69 ls []) := by
            intro n
            induction n with
            | zero =>
              intro x16 H locs ls Z hl h
              rw [f_X8_isCopyLike_L69] at h
              cases h
            | succ n18 ih69 =>
              intro x16 H locs ls Z hl h
              rw [f_X8_isCopyLike_L69] at h
              refine lv_iload_n hx hb dX8_isCopyLike_69 rfl (lv_at hl 3 rfl) ?_
              refine lv_aload_n hx hb dX8_isCopyLike_70 rfl (lv_at hl 0 rfl) ?_
              refine cr_X8_catalog (a := i0) S X Z hin_X8 hi0 hl_25 dX8_isCopyLike_71 ?_
              refine cn_X0_made S X Z hin_X0 (cl_one N 1 (by decide)) hl_51 dX8_isCopyLike_74 h (fun v19 h => ?_)
              refine lv_icmp_gt (tgt := 134) hx hb dX8_isCopyLike_77 (by decide) (fun c20 => ?_) (fun c20 => ?_)
              · have h := if_t c20 h
                refine lv_iconst (v := (1 : Int32)) hx hb dX8_isCopyLike_134 (by decide) ?_
                have hy := Option.some.inj h
                subst hy
                exact g_rz (Or.inr rfl) S Z hr hlocks dX8_isCopyLike_135
              · have h := if_f c20 h
                refine lv_aload_n hx hb dX8_isCopyLike_80 rfl (lv_at hl 0 rfl) ?_
                refine cr_X8_catalog (a := i0) S X Z hin_X8 hi0 hl_25 dX8_isCopyLike_81 ?_
                refine cn_X0_parent S X Z hin_X0 (cl_one N 1 (by decide)) hl_57 dX8_isCopyLike_84 ?_
                refine lv_iload_n hx hb dX8_isCopyLike_87 rfl (lv_at hl 3 rfl) ?_
                refine g_iald (i := (2, 0, 0)) (n := 48) S X Z (cl_one N 2 (by decide)) rfl dX8_isCopyLike_88 h (fun v21 h => ?_)
                refine lv_iload_n hx hb dX8_isCopyLike_89 rfl (lv_at hl 2 rfl) ?_
                obtain ⟨J128, eJ128, h⟩ := jn_e h
                have hJ128 : ∀  (H : Heap) (locs : List Loc) (ls : Array Slot), gZ D (cLay N) dA (cLive N) A (gA (cLive N) A) s.heap M H locs → lv_has ls 4 [(0, .ref (A (50, i0, 0))), (1, .ref (A (50, i1, 0))), (2, .int a2), (3, .int x16)] → J128 () = some y → W p l e (headSpec wmX8_isCopyLike ({ frames := 1, cells := 0, slots := 0, locals := 22 } : Room)).room s m args below meth c H locs 0 0 (MQ below (cQi N D dA A (y, M)) args s 0 0 (gA (cLive N) A)) (F0 m 128 ls []) := by
                  intro  H locs ls Z hl h
                  rw [eJ128] at h
                  try dsimp only at h
                  obtain ⟨x22, ex22, h⟩ := lt_e h
                  refine lv_iinc (v := x22) (lv' := [(3, .int x22), (0, .ref (A (50, i0, 0))), (1, .ref (A (50, i1, 0))), (2, .int a2)]) hx hb dX8_isCopyLike_128 hl (k := 3) rfl (by rw [ex22]; rfl) (by decide) rfl (fun ls hl => ?_)
                  refine lv_goto (tgt := 69) hx hb dX8_isCopyLike_131 (by decide) ?_
                  exact ih69 x22 _ _ _ Z (lv_sub hl [1, 2, 3, 0] rfl) h
                refine lv_icmp_ne (tgt := 128) hx hb dX8_isCopyLike_90 (by decide) (fun c23 => ?_) (fun c23 => ?_)
                · have h := if_f c23 h
                  exact hJ128  _ _ _ Z (lv_sub hl [0, 1, 2, 3] rfl) h
                · have h := if_t c23 h
                  refine lv_aload_n hx hb dX8_isCopyLike_93 rfl (lv_at hl 0 rfl) ?_
                  refine cr_X8_state (a := i0) S X Z hin_X8 hi0 hl_22 dX8_isCopyLike_94 ?_
                  refine lv_iload_n hx hb dX8_isCopyLike_97 rfl (lv_at hl 3 rfl) ?_
                  refine g_iald (i := (56, i0, 0)) (n := 48) S X Z (cl_X8_state hi0) rfl dX8_isCopyLike_98 h (fun v24 h => ?_)
                  refine lv_aload_n hx hb dX8_isCopyLike_99 rfl (lv_at hl 1 rfl) ?_
                  refine cr_X8_state (a := i1) S X Z hin_X8 hi1 hl_22 dX8_isCopyLike_100 ?_
                  refine lv_iload_n hx hb dX8_isCopyLike_103 rfl (lv_at hl 3 rfl) ?_
                  refine g_iald (i := (56, i1, 0)) (n := 48) S X Z (cl_X8_state hi1) rfl dX8_isCopyLike_104 h (fun v25 h => ?_)
                  refine lv_icmp_ne (tgt := 126) hx hb dX8_isCopyLike_105 (by decide) (fun c26 => ?_) (fun c26 => ?_)
                  · have h := if_f c26 h
                    refine lv_iconst (v := (0 : Int32)) hx hb dX8_isCopyLike_126 (by decide) ?_
                    have hy := Option.some.inj h
                    subst hy
                    exact g_rz (Or.inl rfl) S Z hr hlocks dX8_isCopyLike_127
                  · have h := if_t c26 h
                    refine lv_aload_n hx hb dX8_isCopyLike_108 rfl (lv_at hl 0 rfl) ?_
                    refine cr_X8_goneCounts (a := i0) S X Z hin_X8 hi0 hl_34 dX8_isCopyLike_109 ?_
                    refine lv_iload_n hx hb dX8_isCopyLike_112 rfl (lv_at hl 3 rfl) ?_
                    refine g_aald (i := (57, i0, 0)) (ca := 5) ⟨rfl, rfl⟩ S X Z (cl_X8_goneCounts hi0) rfl dX8_isCopyLike_113 h (fun v27 hv27 h => ?_)
                    refine lv_aload_n hx hb dX8_isCopyLike_114 rfl (lv_at hl 1 rfl) ?_
                    refine cr_X8_goneCounts (a := i1) S X Z hin_X8 hi1 hl_34 dX8_isCopyLike_115 ?_
                    refine lv_iload_n hx hb dX8_isCopyLike_118 rfl (lv_at hl 3 rfl) ?_
                    refine g_aald (i := (57, i1, 0)) (ca := 5) ⟨rfl, rfl⟩ S X Z (cl_X8_goneCounts hi1) rfl dX8_isCopyLike_119 h (fun v28 hv28 h => ?_)
                    obtain ⟨v30, hc29, h⟩ := o1_e h
                    refine c_i X Z (c_SN (As := [.ref (A (58, i0, v27)), .ref (A (58, i1, v28))]) (rest := []) S X hN Z (t_X10_isSame l N D dA A hJ ⟨(cl_58 (cl_X8_goneCounts hi0) hv27), rfl⟩ ⟨(cl_58 (cl_X8_goneCounts hi1) hv28), rfl⟩ hc29) ⟨va_cnB 2 hts (cG (cB 181 rfl)) rfl rfl rfl (hN.2 ("ReplicaFiles$Tree", 76, yX10_isSame, "ReplicaFiles") (by decide +kernel)) (hts (.initialized RX10) (cBc 107 rfl)) (by decide +kernel) ⟨Nat.le_of_ble_eq_true rfl, Nat.le_of_ble_eq_true rfl⟩, hts (.static yX10_isSame) (cBc 227 rfl), trivial⟩ rfl hl.1 rfl (Nat.le_of_ble_eq_true rfl) dX8_isCopyLike_120 ⟨Nat.zero_le _, Nat.zero_le _⟩) (fun H locs Z => ?_)
                    refine lv_if_ne (tgt := 128) hx hb dX8_isCopyLike_123 (by decide) (fun c31 => ?_) (fun c31 => ?_)
                    · have h := if_f c31 h
                      exact hJ128  _ _ _ Z (lv_sub hl [0, 1, 2, 3] rfl) h
                    · have h := if_t c31 h
                      refine lv_iconst (v := (0 : Int32)) hx hb dX8_isCopyLike_126 (by decide) ?_
                      have hy := Option.some.inj h
                      subst hy
                      exact g_rz (Or.inl rfl) S Z hr hlocks dX8_isCopyLike_127
          exact hL69 100 x15 _ _ _ Z (lv_sub hl [1, 2, 3, 0] rfl) h
        · have h := if_t c14 h
          refine lv_iconst (v := (0 : Int32)) hx hb dX8_isCopyLike_63 (by decide) ?_
          have hy := Option.some.inj h
          subst hy
          exact g_rz (Or.inl rfl) S Z hr hlocks dX8_isCopyLike_64
-- X9_isAt (III[I)Z: 23 instructions
theorem dX9_isAt_0 : decode cX9_isAt 0 = .ok (.aload_n 0, 1) := by decide +kernel
theorem dX9_isAt_1 : decode cX9_isAt 1 = .ok (.getfield 7, 3) := by decide +kernel
theorem dX9_isAt_4 : decode cX9_isAt 4 = .ok (.iload_n 1, 1) := by decide +kernel
theorem dX9_isAt_5 : decode cX9_isAt 5 = .ok (.iaload, 1) := by decide +kernel
theorem dX9_isAt_6 : decode cX9_isAt 6 = .ok (.iload_n 2, 1) := by decide +kernel
theorem dX9_isAt_7 : decode cX9_isAt 7 = .ok (.if_icmp .ne 31, 3) := by decide +kernel
theorem dX9_isAt_10 : decode cX9_isAt 10 = .ok (.aload_n 0, 1) := by decide +kernel
theorem dX9_isAt_11 : decode cX9_isAt 11 = .ok (.getfield 13, 3) := by decide +kernel
theorem dX9_isAt_14 : decode cX9_isAt 14 = .ok (.iload_n 1, 1) := by decide +kernel
theorem dX9_isAt_15 : decode cX9_isAt 15 = .ok (.iaload, 1) := by decide +kernel
theorem dX9_isAt_16 : decode cX9_isAt 16 = .ok (.iload_n 3, 1) := by decide +kernel
theorem dX9_isAt_17 : decode cX9_isAt 17 = .ok (.if_icmp .ne 21, 3) := by decide +kernel
theorem dX9_isAt_20 : decode cX9_isAt 20 = .ok (.aload_n 0, 1) := by decide +kernel
theorem dX9_isAt_21 : decode cX9_isAt 21 = .ok (.getfield 18, 3) := by decide +kernel
theorem dX9_isAt_24 : decode cX9_isAt 24 = .ok (.iload_n 1, 1) := by decide +kernel
theorem dX9_isAt_25 : decode cX9_isAt 25 = .ok (.aaload, 1) := by decide +kernel
theorem dX9_isAt_26 : decode cX9_isAt 26 = .ok (.aload 4, 2) := by decide +kernel
theorem dX9_isAt_28 : decode cX9_isAt 28 = .ok (.invokestatic 43, 3) := by decide +kernel
theorem dX9_isAt_31 : decode cX9_isAt 31 = .ok (.ifCond .eq 7, 3) := by decide +kernel
theorem dX9_isAt_34 : decode cX9_isAt 34 = .ok (.iconst 1, 1) := by decide +kernel
theorem dX9_isAt_35 : decode cX9_isAt 35 = .ok (.goto 4, 3) := by decide +kernel
theorem dX9_isAt_38 : decode cX9_isAt 38 = .ok (.iconst 0, 1) := by decide +kernel
theorem dX9_isAt_39 : decode cX9_isAt 39 = .ok (.ireturn, 1) := by decide +kernel
abbrev wmX9_isAt : List Cond := .code yX9_isAt cX9_isAt 5 (some .boolean) :: cBig
def f_X9_isAt (N : Nat) (M : gM) (i0 : Nat) (a1 : Int32) (a2 : Int32) (a3 : Int32) (a4 : gI) : Option Int32 :=
  rd M (61, i0, 0) (cMost i0) a1 (fun v1 => (if v1 = a2 then rd M (62, i0, 0) (cMost i0) a1 (fun v3 => (if v3 = a3 then ix a1 (cMost i0) (fun v5 => o1 (f_X10_isSame N M (64, i0, v5) a4) (fun v7 => (if v7 = 0 then some (0 : Int32) else some (1 : Int32)))) else some (0 : Int32))) else some (0 : Int32)))
set_option maxHeartbeats 4000000 in
set_option maxRecDepth 100000 in
theorem t_X9_isAt (l : Launch) (N : Nat) (D : va_G) (dA : Nat → ClassId) (A : gI → Nat) (hJ : gJ (cLive N) A) {M : gM} {i0 : Nat} {a1 : Int32} {a2 : Int32} {a3 : Int32} {a4 : gI} (hi0 : cLive N (60, i0, 0)) (ha4 : cArr N a4) {y : Int32} (h : f_X9_isAt N M i0 a1 a2 a3 a4 = some y) : cMi l yX9_isAt wmX9_isAt ({ frames := 1, cells := 0, slots := 0, locals := 22 } : Room) N D dA A [.ref (A (60, i0, 0)), .int a1, .int a2, .int a3, .ref (A a4)] M y M := by
  refine Met.ofW (cc := cX9_isAt) (maxL := 5) (ret := (some .boolean)) (by decide) rfl ?_
  intro p e s m args below meth c s₁ B hml hv
  obtain ⟨rfl, hP, hK, hN⟩ := hv
  generalize hargs : ([.ref (A (60, i0, 0)), .int a1, .int a2, .int a3, .ref (A a4)] : List Value).toArray = args at B ⊢
  have S : CallFix p m c cX9_isAt 5 s args wmX9_isAt RX9 := ⟨B.exec, B.bytes, hml, findClass_of_methodNamed B.named, atoms_spec (ws := wmX9_isAt) B.pre⟩
  obtain ⟨hx, hb, -, hown, hts⟩ := id S
  have hr := B.returns
  have hlocks := B.notSynchronized
  have X : gX D vwCl dA (cLive N) A (gA (cLive N) A) s := ⟨hK, hJ, fun i hi => ⟨i, hi, rfl⟩⟩
  have Z : gZ D (cLay N) dA (cLive N) A (gA (cLive N) A) s.heap M s.heap [] := ⟨hP, va_S.rf⟩
  have hin_X9 : ∀ w ∈ wsX90, w ∈ wmX9_isAt := cin_X9
  have hl_7 := hts (.fieldLink RX9 7 "ReplicaFiles$Versions" "value" "[I") (cBc 184 rfl)
  have hl_13 := hts (.fieldLink RX9 13 "ReplicaFiles$Versions" "size" "[I") (cBc 186 rfl)
  have hl_18 := hts (.fieldLink RX9 18 "ReplicaFiles$Versions" "counts" "[[I") (cBc 187 rfl)
  have hl := lv_entry ([.ref (A (60, i0, 0)), .int a1, .int a2, .int a3, .ref (A a4)]) (n := 5) (Nat.le_of_ble_eq_true rfl)
  rw [← hargs, lg_entry_eq, hargs]
  generalize (lg_sl ([.ref (A (60, i0, 0)), .int a1, .int a2, .int a3, .ref (A a4)]) ++ List.replicate (5 - (lg_sl ([.ref (A (60, i0, 0)), .int a1, .int a2, .int a3, .ref (A a4)])).length) Slot.unset).toArray = ls at hl ⊢
  have hl : lv_has ls 5 [(0, .ref (A (60, i0, 0))), (1, .int a1), (2, .int a2), (3, .int a3), (4, .ref (A a4))] := hl
  unfold f_X9_isAt at h
  refine lv_aload_n hx hb dX9_isAt_0 rfl (lv_at hl 0 rfl) ?_
  refine cr_X9_value (a := i0) S X Z hin_X9 hi0 hl_7 dX9_isAt_1 ?_
  refine lv_iload_n hx hb dX9_isAt_4 rfl (lv_at hl 1 rfl) ?_
  refine g_iald (i := (61, i0, 0)) (n := (cMost i0)) S X Z (cl_X9_value hi0) rfl dX9_isAt_5 h (fun v1 h => ?_)
  refine lv_iload_n hx hb dX9_isAt_6 rfl (lv_at hl 2 rfl) ?_
  refine lv_icmp_ne (tgt := 38) hx hb dX9_isAt_7 (by decide) (fun c2 => ?_) (fun c2 => ?_)
  · have h := if_f c2 h
    refine lv_iconst (v := (0 : Int32)) hx hb dX9_isAt_38 (by decide) ?_
    have hy := Option.some.inj h
    subst hy
    exact g_rz (Or.inl rfl) S Z hr hlocks dX9_isAt_39
  · have h := if_t c2 h
    refine lv_aload_n hx hb dX9_isAt_10 rfl (lv_at hl 0 rfl) ?_
    refine cr_X9_size (a := i0) S X Z hin_X9 hi0 hl_13 dX9_isAt_11 ?_
    refine lv_iload_n hx hb dX9_isAt_14 rfl (lv_at hl 1 rfl) ?_
    refine g_iald (i := (62, i0, 0)) (n := (cMost i0)) S X Z (cl_X9_size hi0) rfl dX9_isAt_15 h (fun v3 h => ?_)
    refine lv_iload_n hx hb dX9_isAt_16 rfl (lv_at hl 3 rfl) ?_
    refine lv_icmp_ne (tgt := 38) hx hb dX9_isAt_17 (by decide) (fun c4 => ?_) (fun c4 => ?_)
    · have h := if_f c4 h
      refine lv_iconst (v := (0 : Int32)) hx hb dX9_isAt_38 (by decide) ?_
      have hy := Option.some.inj h
      subst hy
      exact g_rz (Or.inl rfl) S Z hr hlocks dX9_isAt_39
    · have h := if_t c4 h
      refine lv_aload_n hx hb dX9_isAt_20 rfl (lv_at hl 0 rfl) ?_
      refine cr_X9_counts (a := i0) S X Z hin_X9 hi0 hl_18 dX9_isAt_21 ?_
      refine lv_iload_n hx hb dX9_isAt_24 rfl (lv_at hl 1 rfl) ?_
      refine g_aald (i := (63, i0, 0)) (ca := 5) ⟨rfl, rfl⟩ S X Z (cl_X9_counts hi0) rfl dX9_isAt_25 h (fun v5 hv5 h => ?_)
      refine lv_aload hx hb dX9_isAt_26 (lv_at hl 4 rfl) ?_
      obtain ⟨v7, hc6, h⟩ := o1_e h
      refine c_i X Z (c_SN (As := [.ref (A (64, i0, v5)), .ref (A a4)]) (rest := []) S X hN Z (t_X10_isSame l N D dA A hJ ⟨(cl_64 (cl_X9_counts hi0) hv5), rfl⟩ ha4 hc6) ⟨va_cnB 2 hts (cG (cB 181 rfl)) rfl rfl rfl (hN.2 ("ReplicaFiles$Versions", 43, yX10_isSame, "ReplicaFiles") (by decide +kernel)) (hts (.initialized RX10) (cBc 107 rfl)) (by decide +kernel) ⟨Nat.le_of_ble_eq_true rfl, Nat.le_of_ble_eq_true rfl⟩, hts (.static yX10_isSame) (cBc 227 rfl), trivial⟩ rfl hl.1 rfl (Nat.le_of_ble_eq_true rfl) dX9_isAt_28 ⟨Nat.zero_le _, Nat.zero_le _⟩) (fun H locs Z => ?_)
      refine lv_if_eq (tgt := 38) hx hb dX9_isAt_31 (by decide) (fun c8 => ?_) (fun c8 => ?_)
      · have h := if_t c8 h
        refine lv_iconst (v := (0 : Int32)) hx hb dX9_isAt_38 (by decide) ?_
        have hy := Option.some.inj h
        subst hy
        exact g_rz (Or.inl rfl) S Z hr hlocks dX9_isAt_39
      · have h := if_f c8 h
        refine lv_iconst (v := (1 : Int32)) hx hb dX9_isAt_34 (by decide) ?_
        refine lv_goto (tgt := 39) hx hb dX9_isAt_35 (by decide) ?_
        have hy := Option.some.inj h
        subst hy
        exact g_rz (Or.inr rfl) S Z hr hlocks dX9_isAt_39
