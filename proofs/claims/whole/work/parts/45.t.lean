-- X10_record (III)J: 39 instructions
theorem dX10_record_0 : decode cX10_record 0 = .ok (.iload_n 1, 1) := by decide +kernel
theorem dX10_record_1 : decode cX10_record 1 = .ok (.invokestatic 110, 3) := by decide +kernel
theorem dX10_record_4 : decode cX10_record 4 = .ok (.iload_n 3, 1) := by decide +kernel
theorem dX10_record_5 : decode cX10_record 5 = .ok (.iconst 2, 1) := by decide +kernel
theorem dX10_record_6 : decode cX10_record 6 = .ok (.invokestatic 244, 3) := by decide +kernel
theorem dX10_record_9 : decode cX10_record 9 = .ok (.aload_n 0, 1) := by decide +kernel
theorem dX10_record_10 : decode cX10_record 10 = .ok (.getfield 53, 3) := by decide +kernel
theorem dX10_record_13 : decode cX10_record 13 = .ok (.iload_n 1, 1) := by decide +kernel
theorem dX10_record_14 : decode cX10_record 14 = .ok (.aaload, 1) := by decide +kernel
theorem dX10_record_15 : decode cX10_record 15 = .ok (.getfield 195, 3) := by decide +kernel
theorem dX10_record_18 : decode cX10_record 18 = .ok (.astore 4, 2) := by decide +kernel
theorem dX10_record_20 : decode cX10_record 20 = .ok (.iload_n 2, 1) := by decide +kernel
theorem dX10_record_21 : decode cX10_record 21 = .ok (.ifCond .lt 12, 3) := by decide +kernel
theorem dX10_record_24 : decode cX10_record 24 = .ok (.iload_n 2, 1) := by decide +kernel
theorem dX10_record_25 : decode cX10_record 25 = .ok (.aload 4, 2) := by decide +kernel
theorem dX10_record_27 : decode cX10_record 27 = .ok (.getfield 199, 3) := by decide +kernel
theorem dX10_record_30 : decode cX10_record 30 = .ok (.if_icmp .lt 7, 3) := by decide +kernel
theorem dX10_record_33 : decode cX10_record 33 = .ok (.ldc2_w 174, 3) := by decide +kernel
theorem dX10_record_36 : decode cX10_record 36 = .ok (.lreturn, 1) := by decide +kernel
theorem dX10_record_37 : decode cX10_record 37 = .ok (.iload_n 3, 1) := by decide +kernel
theorem dX10_record_38 : decode cX10_record 38 = .ok (.lookupswitch 44 #[(0, 26), (1, 35)], 26) := by decide +kernel
theorem dX10_record_64 : decode cX10_record 64 = .ok (.aload 4, 2) := by decide +kernel
theorem dX10_record_66 : decode cX10_record 66 = .ok (.getfield 284, 3) := by decide +kernel
theorem dX10_record_69 : decode cX10_record 69 = .ok (.iload_n 2, 1) := by decide +kernel
theorem dX10_record_70 : decode cX10_record 70 = .ok (.iaload, 1) := by decide +kernel
theorem dX10_record_71 : decode cX10_record 71 = .ok (.i2l, 1) := by decide +kernel
theorem dX10_record_72 : decode cX10_record 72 = .ok (.lreturn, 1) := by decide +kernel
theorem dX10_record_73 : decode cX10_record 73 = .ok (.aload 4, 2) := by decide +kernel
theorem dX10_record_75 : decode cX10_record 75 = .ok (.getfield 287, 3) := by decide +kernel
theorem dX10_record_78 : decode cX10_record 78 = .ok (.iload_n 2, 1) := by decide +kernel
theorem dX10_record_79 : decode cX10_record 79 = .ok (.iaload, 1) := by decide +kernel
theorem dX10_record_80 : decode cX10_record 80 = .ok (.i2l, 1) := by decide +kernel
theorem dX10_record_81 : decode cX10_record 81 = .ok (.lreturn, 1) := by decide +kernel
theorem dX10_record_82 : decode cX10_record 82 = .ok (.aload 4, 2) := by decide +kernel
theorem dX10_record_84 : decode cX10_record 84 = .ok (.getfield 290, 3) := by decide +kernel
theorem dX10_record_87 : decode cX10_record 87 = .ok (.iload_n 2, 1) := by decide +kernel
theorem dX10_record_88 : decode cX10_record 88 = .ok (.iaload, 1) := by decide +kernel
theorem dX10_record_89 : decode cX10_record 89 = .ok (.i2l, 1) := by decide +kernel
theorem dX10_record_90 : decode cX10_record 90 = .ok (.lreturn, 1) := by decide +kernel
abbrev wmX10_record : List Cond := .code yX10_record cX10_record 5 (some .long) :: tBig
def f_X10_record (N : Nat) (M : gM) (a1 : Int32) (a2 : Int32) (a3 : Int32) : Option (Nat × Int64 × gM) :=
  o1 (f_X10_checkClient N M a1) (fun k1 => (if k1 = 0 then o1 (f_X10_checkWhat N M a3 (2 : Int32)) (fun k4 => (if k4 = 0 then ix a1 4 (fun v7 => (if a2 < 0 then some (0, (-2199023255552 : Int64), M) else lt (M (40, v7, 0) 4) (fun v9 => (if a2 < v9 then (if a3 = 0 then rd M (41, v7, 0) 12 a2 (fun v12 => some (0, v12.toInt64, M)) else (if a3 = 1 then rd M (42, v7, 0) 12 a2 (fun v14 => some (0, v14.toInt64, M)) else rd M (43, v7, 0) 12 a2 (fun v15 => some (0, v15.toInt64, M)))) else some (0, (-2199023255552 : Int64), M))))) else some (k4, (0 : Int64), M))) else some (k1, (0 : Int64), M)))
set_option maxHeartbeats 4000000 in
set_option maxRecDepth 100000 in
theorem t_X10_record (l : Launch) (hst : l.stackTraces = false) (N : Nat) (D : va_G) (dA : Nat → ClassId) (A : gI → Nat) (hJ : gJ (cLive N) A) (tx : Nat → Nat) (sz : Nat) {M : gM} {a1 : Int32} {a2 : Int32} {a3 : Int32} {y : (Nat × Int64 × gM)} (h : f_X10_record N M a1 a2 a3 = some y) : tMl l yX10_record wmX10_record ({ frames := 7, cells := 2, slots := 12, locals := 111 } : Room) N D dA A tx sz [.ref (A (0, 0, 0)), .int a1, .int a2, .int a3] M y 2 12 := by
  refine vx_ofW (cc := cX10_record) (maxL := 5) (ret := (some .long)) (by decide) rfl ?_
  intro p e s m args below meth c s₁ B hml hout hv
  obtain ⟨rfl, hsz, hP, hK, hN, hT⟩ := hv
  subst hsz
  generalize hargs : ([.ref (A (0, 0, 0)), .int a1, .int a2, .int a3] : List Value).toArray = args at B ⊢
  have S : CallFix p m c cX10_record 5 s args wmX10_record RX10 := ⟨B.exec, B.bytes, hml, findClass_of_methodNamed B.named, atoms_spec (ws := wmX10_record) B.pre⟩
  obtain ⟨hx, hb, -, hown, hts⟩ := id S
  have hr := B.returns
  have hlocks := B.notSynchronized
  have X : gX D vwCl dA (cLive N) A (cReg N A s.heap.size) s := ⟨hK, hJ, fun i hi => Or.inl ⟨i, hi, rfl⟩⟩
  have Z : tZ D N dA A s M s.heap [] := ⟨hP, va_S.rf⟩
  have hin_X1 : ∀ w ∈ wsX10, w ∈ wmX10_record := tin cin_X1 (Or.inr trivial)
  have hin_X10 : ∀ w ∈ wsX100, w ∈ wmX10_record := tin cin_X10 (Or.inr trivial)
  have hin_X3 : ∀ w ∈ wsX30, w ∈ wmX10_record := tin cin_X3 (Or.inr trivial)
  have hl_53 := hts (.fieldLink RX10 53 "ReplicaFiles" "clients" "[LReplicaFiles$Client;") (tBc 541 rfl)
  have hl_195 := va_Nw.use (A := args) rfl (hN.1 ("ReplicaFiles", 195, "ReplicaFiles$Client", "log", "LReplicaFiles$Log;", "ReplicaFiles") (by decide +kernel))
  have hl_199 := va_Nw.use (A := args) rfl (hN.1 ("ReplicaFiles", 199, "ReplicaFiles$Log", "length", "I", "ReplicaFiles") (by decide +kernel))
  have hl_284 := va_Nw.use (A := args) rfl (hN.1 ("ReplicaFiles", 284, "ReplicaFiles$Log", "kind", "[I", "ReplicaFiles") (by decide +kernel))
  have hl_287 := va_Nw.use (A := args) rfl (hN.1 ("ReplicaFiles", 287, "ReplicaFiles$Log", "object", "[I", "ReplicaFiles") (by decide +kernel))
  have hl_290 := va_Nw.use (A := args) rfl (hN.1 ("ReplicaFiles", 290, "ReplicaFiles$Log", "directory", "[I", "ReplicaFiles") (by decide +kernel))
  have hc_174 := hts (.constantLong RX10 174 (-2199023255552)) (tBc 602 rfl)
  have hl := lv_entry ([.ref (A (0, 0, 0)), .int a1, .int a2, .int a3]) (n := 5) (Nat.le_of_ble_eq_true rfl)
  rw [← hargs, lg_entry_eq, hargs]
  generalize (lg_sl ([.ref (A (0, 0, 0)), .int a1, .int a2, .int a3]) ++ List.replicate (5 - (lg_sl ([.ref (A (0, 0, 0)), .int a1, .int a2, .int a3])).length) Slot.unset).toArray = ls at hl ⊢
  have hl : lv_has ls 5 [(0, .ref (A (0, 0, 0))), (1, .int a1), (2, .int a2), (3, .int a3)] := hl
  unfold f_X10_record at h
  refine lv_iload_n hx hb dX10_record_0 rfl (lv_at hl 1 rfl) ?_
  obtain ⟨k1, hc2, h⟩ := o1_e h
  refine t_chk X Z (vx_runS (As := [.int a1]) (rest := []) S (t_X10_checkClient l hst N D dA A hJ tx _ hc2) (va_cwS 1 hts (tTS (tB 591 rfl) (tB 592 rfl) (tB 107 rfl) (tB 585 rfl)) rfl rfl rfl (by decide +kernel) ⟨Nat.le_of_ble_eq_true rfl, Nat.le_of_ble_eq_true rfl⟩) ⟨tPc.blind, t_pre X hN hT Z _⟩ rfl rfl hl.1 rfl (lv_room (m := m) (pc := 1) (ls := ls) (rest := [.int a1]) (Nat.le_of_ble_eq_true rfl)) dX10_record_1 ⟨Nat.le_of_ble_eq_true rfl, Nat.le_of_ble_eq_true rfl⟩) (fun hk3 ce q9 H locs Z hce hcv hcl => ?_) (fun hk3 H locs Z => ?_)
  · have h := if_f hk3 h
    have hy := Option.some.inj h
    subst hy
    exact t_out hk3 hout hlocks Z hce hcv hcl (Nat.le_of_ble_eq_true rfl) (Nat.le_of_ble_eq_true rfl)
  have h := if_t hk3 h
  refine lv_iload_n hx hb dX10_record_4 rfl (lv_at hl 3 rfl) ?_
  refine lv_iconst (v := (2 : Int32)) hx hb dX10_record_5 (by decide) ?_
  obtain ⟨k4, hc5, h⟩ := o1_e h
  refine t_chk X Z (vx_runS (As := [.int a3, .int (2 : Int32)]) (rest := []) S (t_X10_checkWhat l hst N D dA A hJ tx _ hc5) (va_cwS 2 hts (tTS (tB 723 rfl) (tB 724 rfl) (tB 107 rfl) (tB 722 rfl)) rfl rfl rfl (by decide +kernel) ⟨Nat.le_of_ble_eq_true rfl, Nat.le_of_ble_eq_true rfl⟩) ⟨tPc.blind, t_pre X hN hT Z _⟩ rfl rfl hl.1 rfl (lv_room (m := m) (pc := 6) (ls := ls) (rest := [.int (2 : Int32), .int a3]) (Nat.le_of_ble_eq_true rfl)) dX10_record_6 ⟨Nat.le_of_ble_eq_true rfl, Nat.le_of_ble_eq_true rfl⟩) (fun hk6 ce q9 H locs Z hce hcv hcl => ?_) (fun hk6 H locs Z => ?_)
  · have h := if_f hk6 h
    have hy := Option.some.inj h
    subst hy
    exact t_out hk6 hout hlocks Z hce hcv hcl (Nat.le_of_ble_eq_true rfl) (Nat.le_of_ble_eq_true rfl)
  have h := if_t hk6 h
  refine lv_aload_n hx hb dX10_record_9 rfl (lv_at hl 0 rfl) ?_
  refine cr_X10_clients S X Z hin_X10 (cl_one N 0 (by decide)) hl_53 dX10_record_10 ?_
  refine lv_iload_n hx hb dX10_record_13 rfl (lv_at hl 1 rfl) ?_
  refine g_aald (i := (8, 0, 0)) (ca := 3) ⟨rfl, rfl⟩ S X Z (cl_one N 8 (by decide)) rfl dX10_record_14 h (fun v7 hv7 h => ?_)
  refine cn_X1_log (a := v7) S X Z hin_X1 (cl_cli hv7) hl_195 dX10_record_15 ?_
  refine lv_astore (lv' := [(4, .ref (A (40, v7, 0))), (0, .ref (A (0, 0, 0))), (1, .int a1), (2, .int a2), (3, .int a3)]) hx hb dX10_record_18 hl (by decide) rfl (fun ls hl => ?_)
  refine lv_iload_n hx hb dX10_record_20 rfl (lv_at hl 3 rfl) ?_
  refine lv_if_lt (tgt := 33) hx hb dX10_record_21 (by decide) (fun c8 => ?_) (fun c8 => ?_)
  · have h := if_t c8 h
    refine lv_ldc2 hx hb hown hc_174 dX10_record_33 ?_
    have hy := Option.some.inj h
    subst hy
    exact t_rl S Z hr hlocks dX10_record_36
  · have h := if_f c8 h
    refine lv_iload_n hx hb dX10_record_24 rfl (lv_at hl 3 rfl) ?_
    refine lv_aload hx hb dX10_record_25 (lv_at hl 0 rfl) ?_
    refine cn_X3_length (a := v7) S X Z hin_X3 (cl_X1_log (cl_cli hv7)) hl_199 dX10_record_27 h (fun v9 h => ?_)
    refine lv_icmp_lt (tgt := 37) hx hb dX10_record_30 (by decide) (fun c10 => ?_) (fun c10 => ?_)
    · have h := if_t c10 h
      refine lv_iload_n hx hb dX10_record_37 rfl (lv_at hl 4 rfl) ?_
      by_cases c11 : a3 = 0
      · have h := if_t c11 h
        refine lv_lookup (off := 26) (tgt := 64) hx hb dX10_record_38 (by decide) (by rw [c11]; decide) (by decide) ?_
        refine lv_aload hx hb dX10_record_64 (lv_at hl 0 rfl) ?_
        refine cn_X3_kind (a := v7) S X Z hin_X3 (cl_X1_log (cl_cli hv7)) hl_284 dX10_record_66 ?_
        refine lv_iload_n hx hb dX10_record_69 rfl (lv_at hl 3 rfl) ?_
        refine g_iald (i := (41, v7, 0)) (n := 12) S X Z (cl_X3_kind (cl_X1_log (cl_cli hv7))) rfl dX10_record_70 h (fun v12 h => ?_)
        refine lv_i2l hx hb dX10_record_71 rfl ?_
        have hy := Option.some.inj h
        subst hy
        exact t_rl S Z hr hlocks dX10_record_72
      have h := if_f c11 h
      by_cases c13 : a3 = 1
      · have h := if_t c13 h
        refine lv_lookup (off := 35) (tgt := 73) hx hb dX10_record_38 (by decide) (by rw [c13]; decide) (by decide) ?_
        refine lv_aload hx hb dX10_record_73 (lv_at hl 0 rfl) ?_
        refine cn_X3_object (a := v7) S X Z hin_X3 (cl_X1_log (cl_cli hv7)) hl_287 dX10_record_75 ?_
        refine lv_iload_n hx hb dX10_record_78 rfl (lv_at hl 3 rfl) ?_
        refine g_iald (i := (42, v7, 0)) (n := 12) S X Z (cl_X3_object (cl_X1_log (cl_cli hv7))) rfl dX10_record_79 h (fun v14 h => ?_)
        refine lv_i2l hx hb dX10_record_80 rfl ?_
        have hy := Option.some.inj h
        subst hy
        exact t_rl S Z hr hlocks dX10_record_81
      have h := if_f c13 h
      refine lv_lookup (off := 44) (tgt := 82) hx hb dX10_record_38 (by decide) (by rw [lv_osw (k := 0) c11 (by decide)]; rw [lv_osw (k := 1) c13 (by decide)]; rfl) (by decide) ?_
      refine lv_aload hx hb dX10_record_82 (lv_at hl 0 rfl) ?_
      refine cn_X3_directory (a := v7) S X Z hin_X3 (cl_X1_log (cl_cli hv7)) hl_290 dX10_record_84 ?_
      refine lv_iload_n hx hb dX10_record_87 rfl (lv_at hl 3 rfl) ?_
      refine g_iald (i := (43, v7, 0)) (n := 12) S X Z (cl_X3_directory (cl_X1_log (cl_cli hv7))) rfl dX10_record_88 h (fun v15 h => ?_)
      refine lv_i2l hx hb dX10_record_89 rfl ?_
      have hy := Option.some.inj h
      subst hy
      exact t_rl S Z hr hlocks dX10_record_90
    · have h := if_f c10 h
      refine lv_ldc2 hx hb hown hc_174 dX10_record_33 ?_
      have hy := Option.some.inj h
      subst hy
      exact t_rl S Z hr hlocks dX10_record_36
-- X10_told (I)I: 25 instructions
theorem dX10_told_0 : decode cX10_told 0 = .ok (.iload_n 1, 1) := by decide +kernel
theorem dX10_told_1 : decode cX10_told 1 = .ok (.bipush 7, 2) := by decide +kernel
theorem dX10_told_3 : decode cX10_told 3 = .ok (.invokestatic 244, 3) := by decide +kernel
theorem dX10_told_6 : decode cX10_told 6 = .ok (.iload_n 1, 1) := by decide +kernel
theorem dX10_told_7 : decode cX10_told 7 = .ok (.lookupswitch 56 #[(0, 25), (7, 33)], 25) := by decide +kernel
theorem dX10_told_32 : decode cX10_told 32 = .ok (.aload_n 0, 1) := by decide +kernel
theorem dX10_told_33 : decode cX10_told 33 = .ok (.getfield 25, 3) := by decide +kernel
theorem dX10_told_36 : decode cX10_told 36 = .ok (.getfield 208, 3) := by decide +kernel
theorem dX10_told_39 : decode cX10_told 39 = .ok (.ireturn, 1) := by decide +kernel
theorem dX10_told_40 : decode cX10_told 40 = .ok (.aload_n 0, 1) := by decide +kernel
theorem dX10_told_41 : decode cX10_told 41 = .ok (.getfield 65, 3) := by decide +kernel
theorem dX10_told_44 : decode cX10_told 44 = .ok (.aload_n 0, 1) := by decide +kernel
theorem dX10_told_45 : decode cX10_told 45 = .ok (.getfield 34, 3) := by decide +kernel
theorem dX10_told_48 : decode cX10_told 48 = .ok (.getfield 293, 3) := by decide +kernel
theorem dX10_told_51 : decode cX10_told 51 = .ok (.invokevirtual 296, 3) := by decide +kernel
theorem dX10_told_54 : decode cX10_told 54 = .ok (.ifCond .eq 7, 3) := by decide +kernel
theorem dX10_told_57 : decode cX10_told 57 = .ok (.iconst 1, 1) := by decide +kernel
theorem dX10_told_58 : decode cX10_told 58 = .ok (.goto 4, 3) := by decide +kernel
theorem dX10_told_61 : decode cX10_told 61 = .ok (.iconst 0, 1) := by decide +kernel
theorem dX10_told_62 : decode cX10_told 62 = .ok (.ireturn, 1) := by decide +kernel
theorem dX10_told_63 : decode cX10_told 63 = .ok (.aload_n 0, 1) := by decide +kernel
theorem dX10_told_64 : decode cX10_told 64 = .ok (.getfield 38, 3) := by decide +kernel
theorem dX10_told_67 : decode cX10_told 67 = .ok (.iload_n 1, 1) := by decide +kernel
theorem dX10_told_68 : decode cX10_told 68 = .ok (.iaload, 1) := by decide +kernel
theorem dX10_told_69 : decode cX10_told 69 = .ok (.ireturn, 1) := by decide +kernel
abbrev wmX10_told : List Cond := .code yX10_told cX10_told 2 (some .int) :: tBig
def f_X10_told (N : Nat) (M : gM) (a1 : Int32) : Option (Nat × Int32 × gM) :=
  o1 (f_X10_checkWhat N M a1 (7 : Int32)) (fun k1 => (if k1 = 0 then (if a1 = 0 then lt (M (1, 0, 0) 3) (fun v5 => some (0, v5, M)) else (if a1 = 7 then lt (M (5, 0, 0) 2) (fun v7 => o1 (f_X6_allAlike N M v7) (fun v9 => (if v9 = 0 then some (0, (0 : Int32), M) else some (0, (1 : Int32), M)))) else rd M (9, 0, 0) 8 a1 (fun v11 => some (0, v11, M)))) else some (k1, (0 : Int32), M)))
set_option maxHeartbeats 4000000 in
set_option maxRecDepth 100000 in
theorem t_X10_told (l : Launch) (hst : l.stackTraces = false) (N : Nat) (D : va_G) (dA : Nat → ClassId) (A : gI → Nat) (hJ : gJ (cLive N) A) (tx : Nat → Nat) (sz : Nat) {M : gM} {a1 : Int32} {y : (Nat × Int32 × gM)} (h : f_X10_told N M a1 = some y) : tMi l yX10_told wmX10_told ({ frames := 7, cells := 1, slots := 6, locals := 136 } : Room) N D dA A tx sz [.ref (A (0, 0, 0)), .int a1] M y 1 6 := by
  refine vx_ofW (cc := cX10_told) (maxL := 2) (ret := (some .int)) (by decide) rfl ?_
  intro p e s m args below meth c s₁ B hml hout hv
  obtain ⟨rfl, hsz, hP, hK, hN, hT⟩ := hv
  subst hsz
  generalize hargs : ([.ref (A (0, 0, 0)), .int a1] : List Value).toArray = args at B ⊢
  have S : CallFix p m c cX10_told 2 s args wmX10_told RX10 := ⟨B.exec, B.bytes, hml, findClass_of_methodNamed B.named, atoms_spec (ws := wmX10_told) B.pre⟩
  obtain ⟨hx, hb, -, hown, hts⟩ := id S
  have hr := B.returns
  have hlocks := B.notSynchronized
  have X : gX D vwCl dA (cLive N) A (cReg N A s.heap.size) s := ⟨hK, hJ, fun i hi => Or.inl ⟨i, hi, rfl⟩⟩
  have Z : tZ D N dA A s M s.heap [] := ⟨hP, va_S.rf⟩
  have hin_X0 : ∀ w ∈ wsX00, w ∈ wmX10_told := tin cin_X0 (Or.inr trivial)
  have hin_X10 : ∀ w ∈ wsX100, w ∈ wmX10_told := tin cin_X10 (Or.inr trivial)
  have hin_X5 : ∀ w ∈ wsX50, w ∈ wmX10_told := tin cin_X5 (Or.inr trivial)
  have hl_25 := hts (.fieldLink RX10 25 "ReplicaFiles" "catalog" "LReplicaFiles$Catalog;") (tBc 532 rfl)
  have hl_34 := hts (.fieldLink RX10 34 "ReplicaFiles" "net" "LReplicaFiles$Net;") (tBc 535 rfl)
  have hl_38 := hts (.fieldLink RX10 38 "ReplicaFiles" "tallies" "[I") (tBc 536 rfl)
  have hl_65 := hts (.fieldLink RX10 65 "ReplicaFiles" "replicas" "LReplicaFiles$Replicas;") (tBc 545 rfl)
  have hl_208 := va_Nw.use (A := args) rfl (hN.1 ("ReplicaFiles", 208, "ReplicaFiles$Catalog", "made", "I", "ReplicaFiles") (by decide +kernel))
  have hl_293 := va_Nw.use (A := args) rfl (hN.1 ("ReplicaFiles", 293, "ReplicaFiles$Net", "up", "I", "ReplicaFiles") (by decide +kernel))
  have hl := lv_entry ([.ref (A (0, 0, 0)), .int a1]) (n := 2) (Nat.le_of_ble_eq_true rfl)
  rw [← hargs, lg_entry_eq, hargs]
  generalize (lg_sl ([.ref (A (0, 0, 0)), .int a1]) ++ List.replicate (2 - (lg_sl ([.ref (A (0, 0, 0)), .int a1])).length) Slot.unset).toArray = ls at hl ⊢
  have hl : lv_has ls 2 [(0, .ref (A (0, 0, 0))), (1, .int a1)] := hl
  unfold f_X10_told at h
  refine lv_iload_n hx hb dX10_told_0 rfl (lv_at hl 1 rfl) ?_
  refine lv_bipush (v := (7 : Int32)) hx hb dX10_told_1 (by decide) ?_
  obtain ⟨k1, hc2, h⟩ := o1_e h
  refine t_chk X Z (vx_runS (As := [.int a1, .int (7 : Int32)]) (rest := []) S (t_X10_checkWhat l hst N D dA A hJ tx _ hc2) (va_cwS 2 hts (tTS (tB 723 rfl) (tB 724 rfl) (tB 107 rfl) (tB 722 rfl)) rfl rfl rfl (by decide +kernel) ⟨Nat.le_of_ble_eq_true rfl, Nat.le_of_ble_eq_true rfl⟩) ⟨tPc.blind, t_pre X hN hT Z _⟩ rfl rfl hl.1 rfl (lv_room (m := m) (pc := 3) (ls := ls) (rest := [.int (7 : Int32), .int a1]) (Nat.le_of_ble_eq_true rfl)) dX10_told_3 ⟨Nat.le_of_ble_eq_true rfl, Nat.le_of_ble_eq_true rfl⟩) (fun hk3 ce q9 H locs Z hce hcv hcl => ?_) (fun hk3 H locs Z => ?_)
  · have h := if_f hk3 h
    have hy := Option.some.inj h
    subst hy
    exact t_out hk3 hout hlocks Z hce hcv hcl (Nat.le_of_ble_eq_true rfl) (Nat.le_of_ble_eq_true rfl)
  have h := if_t hk3 h
  refine lv_iload_n hx hb dX10_told_6 rfl (lv_at hl 1 rfl) ?_
  by_cases c4 : a1 = 0
  · have h := if_t c4 h
    refine lv_lookup (off := 25) (tgt := 32) hx hb dX10_told_7 (by decide) (by rw [c4]; decide) (by decide) ?_
    refine lv_aload_n hx hb dX10_told_32 rfl (lv_at hl 0 rfl) ?_
    refine cr_X10_catalog S X Z hin_X10 (cl_one N 0 (by decide)) hl_25 dX10_told_33 ?_
    refine cn_X0_made S X Z hin_X0 (cl_one N 1 (by decide)) hl_208 dX10_told_36 h (fun v5 h => ?_)
    have hy := Option.some.inj h
    subst hy
    exact t_ri S Z hr hlocks dX10_told_39
  have h := if_f c4 h
  by_cases c6 : a1 = 7
  · have h := if_t c6 h
    refine lv_lookup (off := 33) (tgt := 40) hx hb dX10_told_7 (by decide) (by rw [c6]; decide) (by decide) ?_
    refine lv_aload_n hx hb dX10_told_40 rfl (lv_at hl 0 rfl) ?_
    refine cr_X10_replicas S X Z hin_X10 (cl_one N 0 (by decide)) hl_65 dX10_told_41 ?_
    refine lv_aload_n hx hb dX10_told_44 rfl (lv_at hl 0 rfl) ?_
    refine cr_X10_net S X Z hin_X10 (cl_one N 0 (by decide)) hl_34 dX10_told_45 ?_
    refine cn_X5_up S X Z hin_X5 (cl_one N 5 (by decide)) hl_293 dX10_told_48 h (fun v7 h => ?_)
    obtain ⟨v9, hc8, h⟩ := o1_e h
    refine c_i X Z (c_V (i := (10, 0, 0)) (As := [.int v7]) (rest := []) S X hN Z (cl_one N 10 (by decide)) rfl rfl (t_X6_allAlike l N D dA A hJ  hc8) (cwV 1 hts (tGV (cB 737 rfl) (cB 738 rfl) (cB 739 rfl) (cB 203 rfl) (cB 509 rfl)) rfl rfl rfl (by decide +kernel) ⟨Nat.le_of_ble_eq_true rfl, Nat.le_of_ble_eq_true rfl⟩) rfl hl.1 rfl (Nat.le_of_ble_eq_true rfl) dX10_told_51 ⟨Nat.le_of_ble_eq_true rfl, Nat.le_of_ble_eq_true rfl⟩) (fun H locs Z => ?_)
    refine lv_if_eq (tgt := 61) hx hb dX10_told_54 (by decide) (fun c10 => ?_) (fun c10 => ?_)
    · have h := if_t c10 h
      refine lv_iconst (v := (0 : Int32)) hx hb dX10_told_61 (by decide) ?_
      have hy := Option.some.inj h
      subst hy
      exact t_ri S Z hr hlocks dX10_told_62
    · have h := if_f c10 h
      refine lv_iconst (v := (1 : Int32)) hx hb dX10_told_57 (by decide) ?_
      refine lv_goto (tgt := 62) hx hb dX10_told_58 (by decide) ?_
      have hy := Option.some.inj h
      subst hy
      exact t_ri S Z hr hlocks dX10_told_62
  have h := if_f c6 h
  refine lv_lookup (off := 56) (tgt := 63) hx hb dX10_told_7 (by decide) (by rw [lv_osw (k := 0) c4 (by decide)]; rw [lv_osw (k := 7) c6 (by decide)]; rfl) (by decide) ?_
  refine lv_aload_n hx hb dX10_told_63 rfl (lv_at hl 0 rfl) ?_
  refine cr_X10_tallies S X Z hin_X10 (cl_one N 0 (by decide)) hl_38 dX10_told_64 ?_
  refine lv_iload_n hx hb dX10_told_67 rfl (lv_at hl 1 rfl) ?_
  refine g_iald (i := (9, 0, 0)) (n := 8) S X Z (cl_one N 9 (by decide)) rfl dX10_told_68 h (fun v11 h => ?_)
  have hy := Option.some.inj h
  subst hy
  exact t_ri S Z hr hlocks dX10_told_69
