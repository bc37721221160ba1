-- X8_takeFrom (LReplicaFiles$Tree;I)V: 61 instructions
theorem dX8_takeFrom_0 : decode cX8_takeFrom 0 = .ok (.aload_n 0, 1) := by decide +kernel
theorem dX8_takeFrom_1 : decode cX8_takeFrom 1 = .ok (.getfield 9, 3) := by decide +kernel
theorem dX8_takeFrom_4 : decode cX8_takeFrom 4 = .ok (.iload_n 2, 1) := by decide +kernel
theorem dX8_takeFrom_5 : decode cX8_takeFrom 5 = .ok (.iconst 1, 1) := by decide +kernel
theorem dX8_takeFrom_6 : decode cX8_takeFrom 6 = .ok (.bastore, 1) := by decide +kernel
theorem dX8_takeFrom_7 : decode cX8_takeFrom 7 = .ok (.aload_n 0, 1) := by decide +kernel
theorem dX8_takeFrom_8 : decode cX8_takeFrom 8 = .ok (.iload_n 2, 1) := by decide +kernel
theorem dX8_takeFrom_9 : decode cX8_takeFrom 9 = .ok (.aload_n 1, 1) := by decide +kernel
theorem dX8_takeFrom_10 : decode cX8_takeFrom 10 = .ok (.getfield 15, 3) := by decide +kernel
theorem dX8_takeFrom_13 : decode cX8_takeFrom 13 = .ok (.iload_n 2, 1) := by decide +kernel
theorem dX8_takeFrom_14 : decode cX8_takeFrom 14 = .ok (.iaload, 1) := by decide +kernel
theorem dX8_takeFrom_15 : decode cX8_takeFrom 15 = .ok (.aload_n 1, 1) := by decide +kernel
theorem dX8_takeFrom_16 : decode cX8_takeFrom 16 = .ok (.getfield 19, 3) := by decide +kernel
theorem dX8_takeFrom_19 : decode cX8_takeFrom 19 = .ok (.iload_n 2, 1) := by decide +kernel
theorem dX8_takeFrom_20 : decode cX8_takeFrom 20 = .ok (.iaload, 1) := by decide +kernel
theorem dX8_takeFrom_21 : decode cX8_takeFrom 21 = .ok (.invokevirtual 37, 3) := by decide +kernel
theorem dX8_takeFrom_24 : decode cX8_takeFrom 24 = .ok (.aload_n 0, 1) := by decide +kernel
theorem dX8_takeFrom_25 : decode cX8_takeFrom 25 = .ok (.getfield 31, 3) := by decide +kernel
theorem dX8_takeFrom_28 : decode cX8_takeFrom 28 = .ok (.iload_n 2, 1) := by decide +kernel
theorem dX8_takeFrom_29 : decode cX8_takeFrom 29 = .ok (.aaload, 1) := by decide +kernel
theorem dX8_takeFrom_30 : decode cX8_takeFrom 30 = .ok (.aload_n 1, 1) := by decide +kernel
theorem dX8_takeFrom_31 : decode cX8_takeFrom 31 = .ok (.getfield 31, 3) := by decide +kernel
theorem dX8_takeFrom_34 : decode cX8_takeFrom 34 = .ok (.iload_n 2, 1) := by decide +kernel
theorem dX8_takeFrom_35 : decode cX8_takeFrom 35 = .ok (.aaload, 1) := by decide +kernel
theorem dX8_takeFrom_36 : decode cX8_takeFrom 36 = .ok (.invokestatic 47, 3) := by decide +kernel
theorem dX8_takeFrom_39 : decode cX8_takeFrom 39 = .ok (.iload_n 2, 1) := by decide +kernel
theorem dX8_takeFrom_40 : decode cX8_takeFrom 40 = .ok (.iconst 1, 1) := by decide +kernel
theorem dX8_takeFrom_41 : decode cX8_takeFrom 41 = .ok (.iadd, 1) := by decide +kernel
theorem dX8_takeFrom_42 : decode cX8_takeFrom 42 = .ok (.istore_n 3, 1) := by decide +kernel
theorem dX8_takeFrom_43 : decode cX8_takeFrom 43 = .ok (.iload_n 3, 1) := by decide +kernel
theorem dX8_takeFrom_44 : decode cX8_takeFrom 44 = .ok (.aload_n 0, 1) := by decide +kernel
theorem dX8_takeFrom_45 : decode cX8_takeFrom 45 = .ok (.getfield 25, 3) := by decide +kernel
theorem dX8_takeFrom_48 : decode cX8_takeFrom 48 = .ok (.getfield 51, 3) := by decide +kernel
theorem dX8_takeFrom_51 : decode cX8_takeFrom 51 = .ok (.if_icmp .gt 49, 3) := by decide +kernel
theorem dX8_takeFrom_54 : decode cX8_takeFrom 54 = .ok (.aload_n 0, 1) := by decide +kernel
theorem dX8_takeFrom_55 : decode cX8_takeFrom 55 = .ok (.getfield 25, 3) := by decide +kernel
theorem dX8_takeFrom_58 : decode cX8_takeFrom 58 = .ok (.getfield 57, 3) := by decide +kernel
theorem dX8_takeFrom_61 : decode cX8_takeFrom 61 = .ok (.iload_n 3, 1) := by decide +kernel
theorem dX8_takeFrom_62 : decode cX8_takeFrom 62 = .ok (.iaload, 1) := by decide +kernel
theorem dX8_takeFrom_63 : decode cX8_takeFrom 63 = .ok (.iload_n 2, 1) := by decide +kernel
theorem dX8_takeFrom_64 : decode cX8_takeFrom 64 = .ok (.if_icmp .ne 30, 3) := by decide +kernel
theorem dX8_takeFrom_67 : decode cX8_takeFrom 67 = .ok (.aload_n 0, 1) := by decide +kernel
theorem dX8_takeFrom_68 : decode cX8_takeFrom 68 = .ok (.getfield 22, 3) := by decide +kernel
theorem dX8_takeFrom_71 : decode cX8_takeFrom 71 = .ok (.iload_n 3, 1) := by decide +kernel
theorem dX8_takeFrom_72 : decode cX8_takeFrom 72 = .ok (.aload_n 1, 1) := by decide +kernel
theorem dX8_takeFrom_73 : decode cX8_takeFrom 73 = .ok (.getfield 22, 3) := by decide +kernel
theorem dX8_takeFrom_76 : decode cX8_takeFrom 76 = .ok (.iload_n 3, 1) := by decide +kernel
theorem dX8_takeFrom_77 : decode cX8_takeFrom 77 = .ok (.iaload, 1) := by decide +kernel
theorem dX8_takeFrom_78 : decode cX8_takeFrom 78 = .ok (.iastore, 1) := by decide +kernel
theorem dX8_takeFrom_79 : decode cX8_takeFrom 79 = .ok (.aload_n 0, 1) := by decide +kernel
theorem dX8_takeFrom_80 : decode cX8_takeFrom 80 = .ok (.getfield 34, 3) := by decide +kernel
theorem dX8_takeFrom_83 : decode cX8_takeFrom 83 = .ok (.iload_n 3, 1) := by decide +kernel
theorem dX8_takeFrom_84 : decode cX8_takeFrom 84 = .ok (.aaload, 1) := by decide +kernel
theorem dX8_takeFrom_85 : decode cX8_takeFrom 85 = .ok (.aload_n 1, 1) := by decide +kernel
theorem dX8_takeFrom_86 : decode cX8_takeFrom 86 = .ok (.getfield 34, 3) := by decide +kernel
theorem dX8_takeFrom_89 : decode cX8_takeFrom 89 = .ok (.iload_n 3, 1) := by decide +kernel
theorem dX8_takeFrom_90 : decode cX8_takeFrom 90 = .ok (.aaload, 1) := by decide +kernel
theorem dX8_takeFrom_91 : decode cX8_takeFrom 91 = .ok (.invokestatic 47, 3) := by decide +kernel
theorem dX8_takeFrom_94 : decode cX8_takeFrom 94 = .ok (.iinc 3 1, 3) := by decide +kernel
theorem dX8_takeFrom_97 : decode cX8_takeFrom 97 = .ok (.goto (-54), 3) := by decide +kernel
theorem dX8_takeFrom_100 : decode cX8_takeFrom 100 = .ok (.return_, 1) := by decide +kernel
abbrev wmX8_takeFrom : List Cond := .code yX8_takeFrom cX8_takeFrom 4 none :: cBig
def f_X8_takeFrom_L43 (N : Nat) (i0 : Nat) (i1 : Nat) (a2 : Int32) : Nat → Int32 → gM → Option gM
  | 0, _, _ => none
  | n13 + 1, x11, M12 => lt (M12 (1, 0, 0) 3) (fun v14 => (if v14 < x11 then some M12 else rd M12 (2, 0, 0) 48 x11 (fun v16 => jn (fun (M17 : gM) => lt (x11 + 1) (fun x18 => f_X8_takeFrom_L43 N i0 i1 a2 n13 x18 M17)) (fun J94 => (if v16 = a2 then rd M12 (56, i1, 0) 48 x11 (fun v20 => wr M12 (56, i0, 0) 48 x11 v20 (fun M21 => ix x11 48 (fun v22 => ix x11 48 (fun v23 => o1 (f_X10_assign N M21 (58, i0, v22) (58, i1, v23)) (fun M25 => J94 M25))))) else J94 M12)))))
def f_X8_takeFrom (N : Nat) (M : gM) (i0 : Nat) (i1 : Nat) (a2 : Int32) : Option gM :=
  wz M (51, i0, 0) 48 a2 (1 : Int32) (fun M1 => rd M1 (52, i1, 0) 48 a2 (fun v2 => rd M1 (53, i1, 0) 48 a2 (fun v3 => o1 (f_X8_setFile N M1 i0 a2 v2 v3) (fun M5 => ix a2 48 (fun v6 => ix a2 48 (fun v7 => o1 (f_X10_assign N M5 (55, i0, v6) (55, i1, v7)) (fun M9 => lt ((a2 + (1 : Int32))) (fun x10 => f_X8_takeFrom_L43 N i0 i1 a2 100 x10 M9))))))))
set_option maxHeartbeats 4000000 in
set_option maxRecDepth 100000 in
theorem t_X8_takeFrom (l : Launch) (N : Nat) (D : va_G) (dA : Nat → ClassId) (A : gI → Nat) (hJ : gJ (cLive N) A) {M : gM} {i0 : Nat} {i1 : Nat} {a2 : Int32} (hi0 : cLive N (50, i0, 0)) (hi1 : cLive N (50, i1, 0)) {y : gM} (h : f_X8_takeFrom N M i0 i1 a2 = some y) : cMv l yX8_takeFrom wmX8_takeFrom ({ frames := 1, cells := 0, slots := 0, locals := 23 } : Room) N D dA A [.ref (A (50, i0, 0)), .ref (A (50, i1, 0)), .int a2] M y := by
  refine Met.ofW (cc := cX8_takeFrom) (maxL := 4) (ret := none) (by decide) rfl ?_
  intro p e s m args below meth c s₁ B hml hv
  obtain ⟨rfl, hP, hK, hN⟩ := hv
  generalize hargs : ([.ref (A (50, i0, 0)), .ref (A (50, i1, 0)), .int a2] : List Value).toArray = args at B ⊢
  have S : CallFix p m c cX8_takeFrom 4 s args wmX8_takeFrom RX8 := ⟨B.exec, B.bytes, hml, findClass_of_methodNamed B.named, atoms_spec (ws := wmX8_takeFrom) B.pre⟩
  obtain ⟨hx, hb, -, hown, hts⟩ := id S
  have hr := B.returns
  have hlocks := B.notSynchronized
  have X : gX D vwCl dA (cLive N) A (gA (cLive N) A) s := ⟨hK, hJ, fun i hi => ⟨i, hi, rfl⟩⟩
  have Z : gZ D (cLay N) dA (cLive N) A (gA (cLive N) A) s.heap M s.heap [] := ⟨hP, va_S.rf⟩
  have hin_X0 : ∀ w ∈ wsX00, w ∈ wmX8_takeFrom := cin_X0
  have hin_X8 : ∀ w ∈ wsX80, w ∈ wmX8_takeFrom := cin_X8
  have hl_9 := hts (.fieldLink RX8 9 "ReplicaFiles$Tree" "held" "[Z") (cBc 19 rfl)
  have hl_15 := hts (.fieldLink RX8 15 "ReplicaFiles$Tree" "value" "[I") (cBc 20 rfl)
  have hl_19 := hts (.fieldLink RX8 19 "ReplicaFiles$Tree" "size" "[I") (cBc 21 rfl)
  have hl_22 := hts (.fieldLink RX8 22 "ReplicaFiles$Tree" "state" "[I") (cBc 22 rfl)
  have hl_25 := hts (.fieldLink RX8 25 "ReplicaFiles$Tree" "catalog" "LReplicaFiles$Catalog;") (cBc 23 rfl)
  have hl_31 := hts (.fieldLink RX8 31 "ReplicaFiles$Tree" "counts" "[[I") (cBc 25 rfl)
  have hl_34 := hts (.fieldLink RX8 34 "ReplicaFiles$Tree" "goneCounts" "[[I") (cBc 26 rfl)
  have hl_51 := va_Nw.use (A := args) rfl (hN.1 ("ReplicaFiles$Tree", 51, "ReplicaFiles$Catalog", "made", "I", "ReplicaFiles") (by decide +kernel))
  have hl_57 := va_Nw.use (A := args) rfl (hN.1 ("ReplicaFiles$Tree", 57, "ReplicaFiles$Catalog", "parent", "[I", "ReplicaFiles") (by decide +kernel))
  have hl := lv_entry ([.ref (A (50, i0, 0)), .ref (A (50, i1, 0)), .int a2]) (n := 4) (Nat.le_of_ble_eq_true rfl)
  rw [← hargs, lg_entry_eq, hargs]
  generalize (lg_sl ([.ref (A (50, i0, 0)), .ref (A (50, i1, 0)), .int a2]) ++ List.replicate (4 - (lg_sl ([.ref (A (50, i0, 0)), .ref (A (50, i1, 0)), .int a2])).length) Slot.unset).toArray = ls at hl ⊢
  have hl : lv_has ls 4 [(0, .ref (A (50, i0, 0))), (1, .ref (A (50, i1, 0))), (2, .int a2)] := hl
  unfold f_X8_takeFrom at h
  refine lv_aload_n hx hb dX8_takeFrom_0 rfl (lv_at hl 0 rfl) ?_
  refine cr_X8_held (a := i0) S X Z hin_X8 hi0 hl_9 dX8_takeFrom_1 ?_
  refine lv_iload_n hx hb dX8_takeFrom_4 rfl (lv_at hl 2 rfl) ?_
  refine lv_iconst (v := (1 : Int32)) hx hb dX8_takeFrom_5 (by decide) ?_
  refine g_zast (i := (51, i0, 0)) (n := 48) S X Z (cl_X8_held hi0) rfl dX8_takeFrom_6 h (fun M1 H locs Z h => ?_)
  refine lv_aload_n hx hb dX8_takeFrom_7 rfl (lv_at hl 0 rfl) ?_
  refine lv_iload_n hx hb dX8_takeFrom_8 rfl (lv_at hl 2 rfl) ?_
  refine lv_aload_n hx hb dX8_takeFrom_9 rfl (lv_at hl 1 rfl) ?_
  refine cr_X8_value (a := i1) S X Z hin_X8 hi1 hl_15 dX8_takeFrom_10 ?_
  refine lv_iload_n hx hb dX8_takeFrom_13 rfl (lv_at hl 2 rfl) ?_
  refine g_iald (i := (52, i1, 0)) (n := 48) S X Z (cl_X8_value hi1) rfl dX8_takeFrom_14 h (fun v2 h => ?_)
  refine lv_aload_n hx hb dX8_takeFrom_15 rfl (lv_at hl 1 rfl) ?_
  refine cr_X8_size (a := i1) S X Z hin_X8 hi1 hl_19 dX8_takeFrom_16 ?_
  refine lv_iload_n hx hb dX8_takeFrom_19 rfl (lv_at hl 2 rfl) ?_
  refine g_iald (i := (53, i1, 0)) (n := 48) S X Z (cl_X8_size hi1) rfl dX8_takeFrom_20 h (fun v3 h => ?_)
  obtain ⟨M5, hc4, h⟩ := o1_e h
  refine c_v X Z (c_V (i := (50, i0, 0)) (As := [.int a2, .int v2, .int v3]) (rest := []) S X hN Z hi0 rfl rfl (t_X8_setFile l N D dA A hJ hi0 hc4) (cwV 3 hts (cGV (cB 70 rfl) (cB 71 rfl) (cB 72 rfl) (cB 44 rfl) (cB 67 rfl)) rfl rfl rfl (by decide +kernel) ⟨Nat.le_of_ble_eq_true rfl, Nat.le_of_ble_eq_true rfl⟩) rfl hl.1 rfl (Nat.le_of_ble_eq_true rfl) dX8_takeFrom_21 ⟨Nat.zero_le _, Nat.zero_le _⟩) (fun H locs Z => ?_)
  refine lv_aload_n hx hb dX8_takeFrom_24 rfl (lv_at hl 0 rfl) ?_
  refine cr_X8_counts (a := i0) S X Z hin_X8 hi0 hl_31 dX8_takeFrom_25 ?_
  refine lv_iload_n hx hb dX8_takeFrom_28 rfl (lv_at hl 2 rfl) ?_
  refine g_aald (i := (54, i0, 0)) (ca := 5) ⟨rfl, rfl⟩ S X Z (cl_X8_counts hi0) rfl dX8_takeFrom_29 h (fun v6 hv6 h => ?_)
  refine lv_aload_n hx hb dX8_takeFrom_30 rfl (lv_at hl 1 rfl) ?_
  refine cr_X8_counts (a := i1) S X Z hin_X8 hi1 hl_31 dX8_takeFrom_31 ?_
  refine lv_iload_n hx hb dX8_takeFrom_34 rfl (lv_at hl 2 rfl) ?_
  refine g_aald (i := (54, i1, 0)) (ca := 5) ⟨rfl, rfl⟩ S X Z (cl_X8_counts hi1) rfl dX8_takeFrom_35 h (fun v7 hv7 h => ?_)
  obtain ⟨M9, hc8, h⟩ := o1_e h
  refine c_v X Z (c_SN (As := [.ref (A (55, i0, v6)), .ref (A (55, i1, v7))]) (rest := []) S X hN Z (t_X10_assign l N D dA A hJ ⟨(cl_55 (cl_X8_counts hi0) hv6), rfl⟩ ⟨(cl_55 (cl_X8_counts hi1) hv7), rfl⟩ hc8) ⟨va_cnB 2 hts (cG (cB 104 rfl)) rfl rfl rfl (hN.2 ("ReplicaFiles$Tree", 47, yX10_assign, "ReplicaFiles") (by decide +kernel)) (hts (.initialized RX10) (cBc 107 rfl)) (by decide +kernel) ⟨Nat.le_of_ble_eq_true rfl, Nat.le_of_ble_eq_true rfl⟩, hts (.static yX10_assign) (cBc 106 rfl), trivial⟩ rfl hl.1 rfl (Nat.le_of_ble_eq_true rfl) dX8_takeFrom_36 ⟨Nat.zero_le _, Nat.zero_le _⟩) (fun H locs Z => ?_)
  refine lv_iload_n hx hb dX8_takeFrom_39 rfl (lv_at hl 2 rfl) ?_
  refine lv_iconst (v := (1 : Int32)) hx hb dX8_takeFrom_40 (by decide) ?_
  refine lv_iadd hx hb dX8_takeFrom_41 ?_
  refine g_topi h (fun x10 h => ?_)
  refine lv_istore_n (lv' := [(3, .int x10), (0, .ref (A (50, i0, 0))), (1, .ref (A (50, i1, 0))), (2, .int a2)]) hx hb dX8_takeFrom_42 rfl hl (by decide) rfl (fun ls hl => ?_)
  have hL43 : ∀ (n : Nat) (x11 : Int32) (M12 : gM) (H : Heap) (locs : List Loc) (ls : Array Slot), gZ D (cLay N) dA (cLive N) A (gA (cLive N) A) s.heap M12 H locs → lv_has ls 4 [(0, .ref (A (50, i0, 0))), (1, .ref (A (50, i1, 0))), (2, .int a2), (3, .int x11)] → f_X8_takeFrom_L43 N i0 i1 a2 n x11 M12 = some y → W p l e (headSpec wmX8_takeFrom ({ frames := 1, cells := 0, slots := 0, locals := 23 } : Room)).room s m args below meth c H locs 0 0 (MQ below (cQv N D dA A y) args s 0 0 (gA (cLive N) A)) (F0 m 43 ls []) := by
    intro n
    induction n with
    | zero =>
      intro x11 M12 H locs ls Z hl h
      rw [f_X8_takeFrom_L43] at h
      cases h
    | succ n13 ih43 =>
      intro x11 M12 H locs ls Z hl h
      rw [f_X8_takeFrom_L43] at h
      refine lv_iload_n hx hb dX8_takeFrom_43 rfl (lv_at hl 3 rfl) ?_
      refine lv_aload_n hx hb dX8_takeFrom_44 rfl (lv_at hl 0 rfl) ?_
      refine cr_X8_catalog (a := i0) S X Z hin_X8 hi0 hl_25 dX8_takeFrom_45 ?_
      refine cn_X0_made S X Z hin_X0 (cl_one N 1 (by decide)) hl_51 dX8_takeFrom_48 h (fun v14 h => ?_)
      refine lv_icmp_gt (tgt := 100) hx hb dX8_takeFrom_51 (by decide) (fun c15 => ?_) (fun c15 => ?_)
      · have h := if_t c15 h
        have hy := Option.some.inj h
        subst hy
        exact g_rv S Z hr hlocks dX8_takeFrom_100
      · have h := if_f c15 h
        refine lv_aload_n hx hb dX8_takeFrom_54 rfl (lv_at hl 0 rfl) ?_
        refine cr_X8_catalog (a := i0) S X Z hin_X8 hi0 hl_25 dX8_takeFrom_55 ?_
        refine cn_X0_parent S X Z hin_X0 (cl_one N 1 (by decide)) hl_57 dX8_takeFrom_58 ?_
        refine lv_iload_n hx hb dX8_takeFrom_61 rfl (lv_at hl 3 rfl) ?_
        refine g_iald (i := (2, 0, 0)) (n := 48) S X Z (cl_one N 2 (by decide)) rfl dX8_takeFrom_62 h (fun v16 h => ?_)
        refine lv_iload_n hx hb dX8_takeFrom_63 rfl (lv_at hl 2 rfl) ?_
        obtain ⟨J94, eJ94, h⟩ := jn_e h
        have hJ94 : ∀ (M17 : gM) (H : Heap) (locs : List Loc) (ls : Array Slot), gZ D (cLay N) dA (cLive N) A (gA (cLive N) A) s.heap M17 H locs → lv_has ls 4 [(0, .ref (A (50, i0, 0))), (1, .ref (A (50, i1, 0))), (2, .int a2), (3, .int x11)] → J94 M17 = some y → W p l e (headSpec wmX8_takeFrom ({ frames := 1, cells := 0, slots := 0, locals := 23 } : Room)).room s m args below meth c H locs 0 0 (MQ below (cQv N D dA A y) args s 0 0 (gA (cLive N) A)) (F0 m 94 ls []) := by
          intro M17 H locs ls Z hl h
          rw [eJ94] at h
          try dsimp only at h
          obtain ⟨x18, ex18, h⟩ := lt_e h
          refine lv_iinc (v := x18) (lv' := [(3, .int x18), (0, .ref (A (50, i0, 0))), (1, .ref (A (50, i1, 0))), (2, .int a2)]) hx hb dX8_takeFrom_94 hl (k := 3) rfl (by rw [ex18]; rfl) (by decide) rfl (fun ls hl => ?_)
          refine lv_goto (tgt := 43) hx hb dX8_takeFrom_97 (by decide) ?_
          exact ih43 x18 M17 _ _ _ Z (lv_sub hl [1, 2, 3, 0] rfl) h
        refine lv_icmp_ne (tgt := 94) hx hb dX8_takeFrom_64 (by decide) (fun c19 => ?_) (fun c19 => ?_)
        · have h := if_f c19 h
          exact hJ94 M12 _ _ _ Z (lv_sub hl [0, 1, 2, 3] rfl) h
        · have h := if_t c19 h
          refine lv_aload_n hx hb dX8_takeFrom_67 rfl (lv_at hl 0 rfl) ?_
          refine cr_X8_state (a := i0) S X Z hin_X8 hi0 hl_22 dX8_takeFrom_68 ?_
          refine lv_iload_n hx hb dX8_takeFrom_71 rfl (lv_at hl 3 rfl) ?_
          refine lv_aload_n hx hb dX8_takeFrom_72 rfl (lv_at hl 1 rfl) ?_
          refine cr_X8_state (a := i1) S X Z hin_X8 hi1 hl_22 dX8_takeFrom_73 ?_
          refine lv_iload_n hx hb dX8_takeFrom_76 rfl (lv_at hl 3 rfl) ?_
          refine g_iald (i := (56, i1, 0)) (n := 48) S X Z (cl_X8_state hi1) rfl dX8_takeFrom_77 h (fun v20 h => ?_)
          refine g_iast (i := (56, i0, 0)) (n := 48) S X Z (cl_X8_state hi0) rfl dX8_takeFrom_78 h (fun M21 H locs Z h => ?_)
          refine lv_aload_n hx hb dX8_takeFrom_79 rfl (lv_at hl 0 rfl) ?_
          refine cr_X8_goneCounts (a := i0) S X Z hin_X8 hi0 hl_34 dX8_takeFrom_80 ?_
          refine lv_iload_n hx hb dX8_takeFrom_83 rfl (lv_at hl 3 rfl) ?_
          refine g_aald (i := (57, i0, 0)) (ca := 5) ⟨rfl, rfl⟩ S X Z (cl_X8_goneCounts hi0) rfl dX8_takeFrom_84 h (fun v22 hv22 h => ?_)
          refine lv_aload_n hx hb dX8_takeFrom_85 rfl (lv_at hl 1 rfl) ?_
          refine cr_X8_goneCounts (a := i1) S X Z hin_X8 hi1 hl_34 dX8_takeFrom_86 ?_
          refine lv_iload_n hx hb dX8_takeFrom_89 rfl (lv_at hl 3 rfl) ?_
          refine g_aald (i := (57, i1, 0)) (ca := 5) ⟨rfl, rfl⟩ S X Z (cl_X8_goneCounts hi1) rfl dX8_takeFrom_90 h (fun v23 hv23 h => ?_)
          obtain ⟨M25, hc24, h⟩ := o1_e h
          refine c_v X Z (c_SN (As := [.ref (A (58, i0, v22)), .ref (A (58, i1, v23))]) (rest := []) S X hN Z (t_X10_assign l N D dA A hJ ⟨(cl_58 (cl_X8_goneCounts hi0) hv22), rfl⟩ ⟨(cl_58 (cl_X8_goneCounts hi1) hv23), rfl⟩ hc24) ⟨va_cnB 2 hts (cG (cB 104 rfl)) rfl rfl rfl (hN.2 ("ReplicaFiles$Tree", 47, yX10_assign, "ReplicaFiles") (by decide +kernel)) (hts (.initialized RX10) (cBc 107 rfl)) (by decide +kernel) ⟨Nat.le_of_ble_eq_true rfl, Nat.le_of_ble_eq_true rfl⟩, hts (.static yX10_assign) (cBc 106 rfl), trivial⟩ rfl hl.1 rfl (Nat.le_of_ble_eq_true rfl) dX8_takeFrom_91 ⟨Nat.zero_le _, Nat.zero_le _⟩) (fun H locs Z => ?_)
          exact hJ94 M25 _ _ _ Z (lv_sub hl [0, 1, 2, 3] rfl) h
  exact hL43 100 x10 M9 _ _ _ Z (lv_sub hl [1, 2, 3, 0] rfl) h
-- X1_takeIn (LReplicaFiles$Tree;III)V: 40 instructions
theorem dX1_takeIn_0 : decode cX1_takeIn 0 = .ok (.aload_n 0, 1) := by decide +kernel
theorem dX1_takeIn_1 : decode cX1_takeIn 1 = .ok (.iload_n 2, 1) := by decide +kernel
theorem dX1_takeIn_2 : decode cX1_takeIn 2 = .ok (.aload_n 1, 1) := by decide +kernel
theorem dX1_takeIn_3 : decode cX1_takeIn 3 = .ok (.getfield 71, 3) := by decide +kernel
theorem dX1_takeIn_6 : decode cX1_takeIn 6 = .ok (.iload_n 2, 1) := by decide +kernel
theorem dX1_takeIn_7 : decode cX1_takeIn 7 = .ok (.iaload, 1) := by decide +kernel
theorem dX1_takeIn_8 : decode cX1_takeIn 8 = .ok (.invokevirtual 74, 3) := by decide +kernel
theorem dX1_takeIn_11 : decode cX1_takeIn 11 = .ok (.aload_n 0, 1) := by decide +kernel
theorem dX1_takeIn_12 : decode cX1_takeIn 12 = .ok (.iload_n 2, 1) := by decide +kernel
theorem dX1_takeIn_13 : decode cX1_takeIn 13 = .ok (.invokevirtual 86, 3) := by decide +kernel
theorem dX1_takeIn_16 : decode cX1_takeIn 16 = .ok (.isub, 1) := by decide +kernel
theorem dX1_takeIn_17 : decode cX1_takeIn 17 = .ok (.istore 5, 2) := by decide +kernel
theorem dX1_takeIn_19 : decode cX1_takeIn 19 = .ok (.aload_n 0, 1) := by decide +kernel
theorem dX1_takeIn_20 : decode cX1_takeIn 20 = .ok (.iload 5, 2) := by decide +kernel
theorem dX1_takeIn_22 : decode cX1_takeIn 22 = .ok (.iload 4, 2) := by decide +kernel
theorem dX1_takeIn_24 : decode cX1_takeIn 24 = .ok (.invokevirtual 101, 3) := by decide +kernel
theorem dX1_takeIn_27 : decode cX1_takeIn 27 = .ok (.ifCond .ne 9, 3) := by decide +kernel
theorem dX1_takeIn_30 : decode cX1_takeIn 30 = .ok (.aload_n 0, 1) := by decide +kernel
theorem dX1_takeIn_31 : decode cX1_takeIn 31 = .ok (.iload_n 2, 1) := by decide +kernel
theorem dX1_takeIn_32 : decode cX1_takeIn 32 = .ok (.invokevirtual 97, 3) := by decide +kernel
theorem dX1_takeIn_35 : decode cX1_takeIn 35 = .ok (.return_, 1) := by decide +kernel
theorem dX1_takeIn_36 : decode cX1_takeIn 36 = .ok (.aload_n 0, 1) := by decide +kernel
theorem dX1_takeIn_37 : decode cX1_takeIn 37 = .ok (.getfield 41, 3) := by decide +kernel
theorem dX1_takeIn_40 : decode cX1_takeIn 40 = .ok (.aload_n 1, 1) := by decide +kernel
theorem dX1_takeIn_41 : decode cX1_takeIn 41 = .ok (.iload_n 2, 1) := by decide +kernel
theorem dX1_takeIn_42 : decode cX1_takeIn 42 = .ok (.invokevirtual 104, 3) := by decide +kernel
theorem dX1_takeIn_45 : decode cX1_takeIn 45 = .ok (.aload_n 0, 1) := by decide +kernel
theorem dX1_takeIn_46 : decode cX1_takeIn 46 = .ok (.getfield 15, 3) := by decide +kernel
theorem dX1_takeIn_49 : decode cX1_takeIn 49 = .ok (.iload_n 2, 1) := by decide +kernel
theorem dX1_takeIn_50 : decode cX1_takeIn 50 = .ok (.iload_n 3, 1) := by decide +kernel
theorem dX1_takeIn_51 : decode cX1_takeIn 51 = .ok (.iastore, 1) := by decide +kernel
theorem dX1_takeIn_52 : decode cX1_takeIn 52 = .ok (.aload_n 0, 1) := by decide +kernel
theorem dX1_takeIn_53 : decode cX1_takeIn 53 = .ok (.getfield 33, 3) := by decide +kernel
theorem dX1_takeIn_56 : decode cX1_takeIn 56 = .ok (.iconst 5, 1) := by decide +kernel
theorem dX1_takeIn_57 : decode cX1_takeIn 57 = .ok (.dup2, 1) := by decide +kernel
theorem dX1_takeIn_58 : decode cX1_takeIn 58 = .ok (.iaload, 1) := by decide +kernel
theorem dX1_takeIn_59 : decode cX1_takeIn 59 = .ok (.iconst 1, 1) := by decide +kernel
theorem dX1_takeIn_60 : decode cX1_takeIn 60 = .ok (.iadd, 1) := by decide +kernel
theorem dX1_takeIn_61 : decode cX1_takeIn 61 = .ok (.iastore, 1) := by decide +kernel
theorem dX1_takeIn_62 : decode cX1_takeIn 62 = .ok (.return_, 1) := by decide +kernel
abbrev wmX1_takeIn : List Cond := .code yX1_takeIn cX1_takeIn 6 none :: cBig
def f_X1_takeIn (N : Nat) (M : gM) (i0 : Nat) (i1 : Nat) (a2 : Int32) (a3 : Int32) (a4 : Int32) : Option gM :=
  rd M (53, i1, 0) 48 a2 (fun v1 => o1 (f_X1_fullWeight N M i0 a2 v1) (fun v3 => o1 (f_X1_weightOf N M i0 a2) (fun v5 => lt ((v3 - v5)) (fun x6 => ob (f_X1_makeRoom N M i0 x6 a4) (fun v9 M8 => (if v9 = 0 then o1 (f_X1_drop N M8 i0 a2) (fun M17 => some M17) else o1 (f_X8_takeFrom N M8 (4 + i0) i1 a2) (fun M12 => wr M12 (32, i0, 0) 48 a2 a3 (fun M13 => rd M13 (9, 0, 0) 8 (5 : Int32) (fun v14 => wr M13 (9, 0, 0) 8 (5 : Int32) (v14 + (1 : Int32)) (fun M15 => some M15))))))))))
set_option maxHeartbeats 4000000 in
set_option maxRecDepth 100000 in
theorem t_X1_takeIn (l : Launch) (N : Nat) (D : va_G) (dA : Nat → ClassId) (A : gI → Nat) (hJ : gJ (cLive N) A) {M : gM} {i0 : Nat} {i1 : Nat} {a2 : Int32} {a3 : Int32} {a4 : Int32} (hi0 : cLive N (30, i0, 0)) (hi1 : cLive N (50, i1, 0)) {y : gM} (h : f_X1_takeIn N M i0 i1 a2 a3 a4 = some y) : cMv l yX1_takeIn wmX1_takeIn ({ frames := 4, cells := 0, slots := 0, locals := 92 } : Room) N D dA A [.ref (A (30, i0, 0)), .ref (A (50, i1, 0)), .int a2, .int a3, .int a4] M y := by
  refine Met.ofW (cc := cX1_takeIn) (maxL := 6) (ret := none) (by decide) rfl ?_
  intro p e s m args below meth c s₁ B hml hv
  obtain ⟨rfl, hP, hK, hN⟩ := hv
  generalize hargs : ([.ref (A (30, i0, 0)), .ref (A (50, i1, 0)), .int a2, .int a3, .int a4] : List Value).toArray = args at B ⊢
  have S : CallFix p m c cX1_takeIn 6 s args wmX1_takeIn RX1 := ⟨B.exec, B.bytes, hml, findClass_of_methodNamed B.named, atoms_spec (ws := wmX1_takeIn) B.pre⟩
  obtain ⟨hx, hb, -, hown, hts⟩ := id S
  have hr := B.returns
  have hlocks := B.notSynchronized
  have X : gX D vwCl dA (cLive N) A (gA (cLive N) A) s := ⟨hK, hJ, fun i hi => ⟨i, hi, rfl⟩⟩
  have Z : gZ D (cLay N) dA (cLive N) A (gA (cLive N) A) s.heap M s.heap [] := ⟨hP, va_S.rf⟩
  have hin_X1 : ∀ w ∈ wsX10, w ∈ wmX1_takeIn := cin_X1
  have hin_X8 : ∀ w ∈ wsX80, w ∈ wmX1_takeIn := cin_X8
  have hl_15 := hts (.fieldLink RX1 15 "ReplicaFiles$Client" "promised" "[I") (cBc 36 rfl)
  have hl_33 := hts (.fieldLink RX1 33 "ReplicaFiles$Client" "tallies" "[I") (cBc 41 rfl)
  have hl_41 := hts (.fieldLink RX1 41 "ReplicaFiles$Client" "tree" "LReplicaFiles$Tree;") (cBc 45 rfl)
  have hl_71 := va_Nw.use (A := args) rfl (hN.1 ("ReplicaFiles$Client", 71, "ReplicaFiles$Tree", "size", "[I", "ReplicaFiles") (by decide +kernel))
  have hl := lv_entry ([.ref (A (30, i0, 0)), .ref (A (50, i1, 0)), .int a2, .int a3, .int a4]) (n := 6) (Nat.le_of_ble_eq_true rfl)
  rw [← hargs, lg_entry_eq, hargs]
  generalize (lg_sl ([.ref (A (30, i0, 0)), .ref (A (50, i1, 0)), .int a2, .int a3, .int a4]) ++ List.replicate (6 - (lg_sl ([.ref (A (30, i0, 0)), .ref (A (50, i1, 0)), .int a2, .int a3, .int a4])).length) Slot.unset).toArray = ls at hl ⊢
  have hl : lv_has ls 6 [(0, .ref (A (30, i0, 0))), (1, .ref (A (50, i1, 0))), (2, .int a2), (3, .int a3), (4, .int a4)] := hl
  unfold f_X1_takeIn at h
  refine lv_aload_n hx hb dX1_takeIn_0 rfl (lv_at hl 0 rfl) ?_
  refine lv_iload_n hx hb dX1_takeIn_1 rfl (lv_at hl 2 rfl) ?_
  refine lv_aload_n hx hb dX1_takeIn_2 rfl (lv_at hl 1 rfl) ?_
  refine cn_X8_size (a := i1) S X Z hin_X8 hi1 hl_71 dX1_takeIn_3 ?_
  refine lv_iload_n hx hb dX1_takeIn_6 rfl (lv_at hl 2 rfl) ?_
  refine g_iald (i := (53, i1, 0)) (n := 48) S X Z (cl_X8_size hi1) rfl dX1_takeIn_7 h (fun v1 h => ?_)
  obtain ⟨v3, hc2, h⟩ := o1_e h
  refine c_i X Z (c_V (i := (30, i0, 0)) (As := [.int a2, .int v1]) (rest := []) S X hN Z hi0 rfl rfl (t_X1_fullWeight l N D dA A hJ hi0 hc2) (cwV 2 hts (cGV (cB 82 rfl) (cB 83 rfl) (cB 84 rfl) (cB 64 rfl) (cB 80 rfl)) rfl rfl rfl (by decide +kernel) ⟨Nat.le_of_ble_eq_true rfl, Nat.le_of_ble_eq_true rfl⟩) rfl hl.1 rfl (Nat.le_of_ble_eq_true rfl) dX1_takeIn_8 ⟨Nat.zero_le _, Nat.zero_le _⟩) (fun H locs Z => ?_)
  refine lv_aload_n hx hb dX1_takeIn_11 rfl (lv_at hl 0 rfl) ?_
  refine lv_iload_n hx hb dX1_takeIn_12 rfl (lv_at hl 2 rfl) ?_
  obtain ⟨v5, hc4, h⟩ := o1_e h
  refine c_i X Z (c_V (i := (30, i0, 0)) (As := [.int a2]) (rest := [.int v3]) S X hN Z hi0 rfl rfl (t_X1_weightOf l N D dA A hJ hi0 hc4) (cwV 1 hts (cGV (cB 94 rfl) (cB 95 rfl) (cB 96 rfl) (cB 64 rfl) (cB 81 rfl)) rfl rfl rfl (by decide +kernel) ⟨Nat.le_of_ble_eq_true rfl, Nat.le_of_ble_eq_true rfl⟩) rfl hl.1 rfl (Nat.le_of_ble_eq_true rfl) dX1_takeIn_13 ⟨Nat.zero_le _, Nat.zero_le _⟩) (fun H locs Z => ?_)
  refine lv_isub hx hb dX1_takeIn_16 ?_
  refine g_topi h (fun x6 h => ?_)
  refine lv_istore (lv' := [(5, .int x6), (0, .ref (A (30, i0, 0))), (1, .ref (A (50, i1, 0))), (2, .int a2), (3, .int a3), (4, .int a4)]) hx hb dX1_takeIn_17 hl (by decide) rfl (fun ls hl => ?_)
  refine lv_aload_n hx hb dX1_takeIn_19 rfl (lv_at hl 1 rfl) ?_
  refine lv_iload hx hb dX1_takeIn_20 (lv_at hl 0 rfl) ?_
  refine lv_iload hx hb dX1_takeIn_22 (lv_at hl 5 rfl) ?_
  obtain ⟨v9, M8, hc7, h⟩ := ob_e h
  refine c_i X Z (c_V (i := (30, i0, 0)) (As := [.int x6, .int a4]) (rest := []) S X hN Z hi0 rfl rfl (t_X1_makeRoom l N D dA A hJ hi0 hc7) (cwV 2 hts (cGV (cB 108 rfl) (cB 109 rfl) (cB 110 rfl) (cB 64 rfl) (cB 103 rfl)) rfl rfl rfl (by decide +kernel) ⟨Nat.le_of_ble_eq_true rfl, Nat.le_of_ble_eq_true rfl⟩) rfl hl.1 rfl (Nat.le_of_ble_eq_true rfl) dX1_takeIn_24 ⟨Nat.zero_le _, Nat.zero_le _⟩) (fun H locs Z => ?_)
  refine lv_if_ne (tgt := 36) hx hb dX1_takeIn_27 (by decide) (fun c10 => ?_) (fun c10 => ?_)
  · have h := if_f c10 h
    refine lv_aload_n hx hb dX1_takeIn_36 rfl (lv_at hl 1 rfl) ?_
    refine cr_X1_tree (a := i0) S X Z hin_X1 hi0 hl_41 dX1_takeIn_37 ?_
    refine lv_aload_n hx hb dX1_takeIn_40 rfl (lv_at hl 2 rfl) ?_
    refine lv_iload_n hx hb dX1_takeIn_41 rfl (lv_at hl 3 rfl) ?_
    obtain ⟨M12, hc11, h⟩ := o1_e h
    refine c_v X Z (c_V (i := (50, (4 + i0), 0)) (As := [.ref (A (50, i1, 0)), .int a2]) (rest := []) S X hN Z (cl_ct hi0) rfl rfl (t_X8_takeFrom l N D dA A hJ (cl_ct hi0) hi1 hc11) (cwV 2 hts (cGV (cB 111 rfl) (cB 112 rfl) (cB 113 rfl) (cB 44 rfl) (cB 105 rfl)) rfl rfl rfl (by decide +kernel) ⟨Nat.le_of_ble_eq_true rfl, Nat.le_of_ble_eq_true rfl⟩) rfl hl.1 rfl (Nat.le_of_ble_eq_true rfl) dX1_takeIn_42 ⟨Nat.zero_le _, Nat.zero_le _⟩) (fun H locs Z => ?_)
    refine lv_aload_n hx hb dX1_takeIn_45 rfl (lv_at hl 1 rfl) ?_
    refine cr_X1_promised (a := i0) S X Z hin_X1 hi0 hl_15 dX1_takeIn_46 ?_
    refine lv_iload_n hx hb dX1_takeIn_49 rfl (lv_at hl 3 rfl) ?_
    refine lv_iload_n hx hb dX1_takeIn_50 rfl (lv_at hl 4 rfl) ?_
    refine g_iast (i := (32, i0, 0)) (n := 48) S X Z (cl_X1_promised hi0) rfl dX1_takeIn_51 h (fun M13 H locs Z h => ?_)
    refine lv_aload_n hx hb dX1_takeIn_52 rfl (lv_at hl 1 rfl) ?_
    refine cr_X1_tallies (a := i0) S X Z hin_X1 hi0 hl_33 dX1_takeIn_53 ?_
    refine lv_iconst (v := (5 : Int32)) hx hb dX1_takeIn_56 (by decide) ?_
    refine lv_dup2_11 hx hb dX1_takeIn_57 rfl rfl ?_
    refine g_iald (i := (9, 0, 0)) (n := 8) S X Z (cl_one N 9 (by decide)) rfl dX1_takeIn_58 h (fun v14 h => ?_)
    refine lv_iconst (v := (1 : Int32)) hx hb dX1_takeIn_59 (by decide) ?_
    refine lv_iadd hx hb dX1_takeIn_60 ?_
    refine g_iast (i := (9, 0, 0)) (n := 8) S X Z (cl_one N 9 (by decide)) rfl dX1_takeIn_61 h (fun M15 H locs Z h => ?_)
    have hy := Option.some.inj h
    subst hy
    exact g_rv S Z hr hlocks dX1_takeIn_62
  · have h := if_t c10 h
    refine lv_aload_n hx hb dX1_takeIn_30 rfl (lv_at hl 1 rfl) ?_
    refine lv_iload_n hx hb dX1_takeIn_31 rfl (lv_at hl 3 rfl) ?_
    obtain ⟨M17, hc16, h⟩ := o1_e h
    refine c_v X Z (c_V (i := (30, i0, 0)) (As := [.int a2]) (rest := []) S X hN Z hi0 rfl rfl (t_X1_drop l N D dA A hJ hi0 hc16) (cwV 1 hts (cGV (cB 100 rfl) (cB 101 rfl) (cB 102 rfl) (cB 64 rfl) (cB 76 rfl)) rfl rfl rfl (by decide +kernel) ⟨Nat.le_of_ble_eq_true rfl, Nat.le_of_ble_eq_true rfl⟩) rfl hl.1 rfl (Nat.le_of_ble_eq_true rfl) dX1_takeIn_32 ⟨Nat.zero_le _, Nat.zero_le _⟩) (fun H locs Z => ?_)
    have hy := Option.some.inj h
    subst hy
    exact g_rv S Z hr hlocks dX1_takeIn_35
-- X1_changeFile (III)V: 29 instructions
theorem dX1_changeFile_0 : decode cX1_changeFile 0 = .ok (.aload_n 0, 1) := by decide +kernel
theorem dX1_changeFile_1 : decode cX1_changeFile 1 = .ok (.getfield 41, 3) := by decide +kernel
theorem dX1_changeFile_4 : decode cX1_changeFile 4 = .ok (.getfield 60, 3) := by decide +kernel
theorem dX1_changeFile_7 : decode cX1_changeFile 7 = .ok (.iload_n 1, 1) := by decide +kernel
theorem dX1_changeFile_8 : decode cX1_changeFile 8 = .ok (.baload, 1) := by decide +kernel
theorem dX1_changeFile_9 : decode cX1_changeFile 9 = .ok (.ifCond .ne 4, 3) := by decide +kernel
theorem dX1_changeFile_12 : decode cX1_changeFile 12 = .ok (.return_, 1) := by decide +kernel
theorem dX1_changeFile_13 : decode cX1_changeFile 13 = .ok (.aload_n 0, 1) := by decide +kernel
theorem dX1_changeFile_14 : decode cX1_changeFile 14 = .ok (.iload_n 3, 1) := by decide +kernel
theorem dX1_changeFile_15 : decode cX1_changeFile 15 = .ok (.aload_n 0, 1) := by decide +kernel
theorem dX1_changeFile_16 : decode cX1_changeFile 16 = .ok (.getfield 41, 3) := by decide +kernel
theorem dX1_changeFile_19 : decode cX1_changeFile 19 = .ok (.getfield 71, 3) := by decide +kernel
theorem dX1_changeFile_22 : decode cX1_changeFile 22 = .ok (.iload_n 1, 1) := by decide +kernel
theorem dX1_changeFile_23 : decode cX1_changeFile 23 = .ok (.iaload, 1) := by decide +kernel
theorem dX1_changeFile_24 : decode cX1_changeFile 24 = .ok (.isub, 1) := by decide +kernel
theorem dX1_changeFile_25 : decode cX1_changeFile 25 = .ok (.bipush 10, 2) := by decide +kernel
theorem dX1_changeFile_27 : decode cX1_changeFile 27 = .ok (.invokevirtual 101, 3) := by decide +kernel
theorem dX1_changeFile_30 : decode cX1_changeFile 30 = .ok (.ifCond .ne 9, 3) := by decide +kernel
theorem dX1_changeFile_33 : decode cX1_changeFile 33 = .ok (.aload_n 0, 1) := by decide +kernel
theorem dX1_changeFile_34 : decode cX1_changeFile 34 = .ok (.iload_n 1, 1) := by decide +kernel
theorem dX1_changeFile_35 : decode cX1_changeFile 35 = .ok (.invokevirtual 97, 3) := by decide +kernel
theorem dX1_changeFile_38 : decode cX1_changeFile 38 = .ok (.return_, 1) := by decide +kernel
theorem dX1_changeFile_39 : decode cX1_changeFile 39 = .ok (.aload_n 0, 1) := by decide +kernel
theorem dX1_changeFile_40 : decode cX1_changeFile 40 = .ok (.getfield 41, 3) := by decide +kernel
theorem dX1_changeFile_43 : decode cX1_changeFile 43 = .ok (.iload_n 1, 1) := by decide +kernel
theorem dX1_changeFile_44 : decode cX1_changeFile 44 = .ok (.iload_n 2, 1) := by decide +kernel
theorem dX1_changeFile_45 : decode cX1_changeFile 45 = .ok (.iload_n 3, 1) := by decide +kernel
theorem dX1_changeFile_46 : decode cX1_changeFile 46 = .ok (.invokevirtual 108, 3) := by decide +kernel
theorem dX1_changeFile_49 : decode cX1_changeFile 49 = .ok (.return_, 1) := by decide +kernel
abbrev wmX1_changeFile : List Cond := .code yX1_changeFile cX1_changeFile 4 none :: cBig
def f_X1_changeFile (N : Nat) (M : gM) (i0 : Nat) (a1 : Int32) (a2 : Int32) (a3 : Int32) : Option gM :=
  rd M (51, (4 + i0), 0) 48 a1 (fun v1 => (if v1 = 0 then some M else rd M (53, (4 + i0), 0) 48 a1 (fun v3 => ob (f_X1_makeRoom N M i0 (a3 - v3) (10 : Int32)) (fun v6 M5 => (if v6 = 0 then o1 (f_X1_drop N M5 i0 a1) (fun M11 => some M11) else o1 (f_X8_setFile N M5 (4 + i0) a1 a2 a3) (fun M9 => some M9))))))
set_option maxHeartbeats 4000000 in
set_option maxRecDepth 100000 in
theorem t_X1_changeFile (l : Launch) (N : Nat) (D : va_G) (dA : Nat → ClassId) (A : gI → Nat) (hJ : gJ (cLive N) A) {M : gM} {i0 : Nat} {a1 : Int32} {a2 : Int32} {a3 : Int32} (hi0 : cLive N (30, i0, 0)) {y : gM} (h : f_X1_changeFile N M i0 a1 a2 a3 = some y) : cMv l yX1_changeFile wmX1_changeFile ({ frames := 4, cells := 0, slots := 0, locals := 92 } : Room) N D dA A [.ref (A (30, i0, 0)), .int a1, .int a2, .int a3] M y := by
  refine Met.ofW (cc := cX1_changeFile) (maxL := 4) (ret := none) (by decide) rfl ?_
  intro p e s m args below meth c s₁ B hml hv
  obtain ⟨rfl, hP, hK, hN⟩ := hv
  generalize hargs : ([.ref (A (30, i0, 0)), .int a1, .int a2, .int a3] : List Value).toArray = args at B ⊢
  have S : CallFix p m c cX1_changeFile 4 s args wmX1_changeFile RX1 := ⟨B.exec, B.bytes, hml, findClass_of_methodNamed B.named, atoms_spec (ws := wmX1_changeFile) B.pre⟩
  obtain ⟨hx, hb, -, hown, hts⟩ := id S
  have hr := B.returns
  have hlocks := B.notSynchronized
  have X : gX D vwCl dA (cLive N) A (gA (cLive N) A) s := ⟨hK, hJ, fun i hi => ⟨i, hi, rfl⟩⟩
  have Z : gZ D (cLay N) dA (cLive N) A (gA (cLive N) A) s.heap M s.heap [] := ⟨hP, va_S.rf⟩
  have hin_X1 : ∀ w ∈ wsX10, w ∈ wmX1_changeFile := cin_X1
  have hin_X8 : ∀ w ∈ wsX80, w ∈ wmX1_changeFile := cin_X8
  have hl_41 := hts (.fieldLink RX1 41 "ReplicaFiles$Client" "tree" "LReplicaFiles$Tree;") (cBc 45 rfl)
  have hl_60 := va_Nw.use (A := args) rfl (hN.1 ("ReplicaFiles$Client", 60, "ReplicaFiles$Tree", "held", "[Z", "ReplicaFiles") (by decide +kernel))
  have hl_71 := va_Nw.use (A := args) rfl (hN.1 ("ReplicaFiles$Client", 71, "ReplicaFiles$Tree", "size", "[I", "ReplicaFiles") (by decide +kernel))
  have hl := lv_entry ([.ref (A (30, i0, 0)), .int a1, .int a2, .int a3]) (n := 4) (Nat.le_of_ble_eq_true rfl)
  rw [← hargs, lg_entry_eq, hargs]
  generalize (lg_sl ([.ref (A (30, i0, 0)), .int a1, .int a2, .int a3]) ++ List.replicate (4 - (lg_sl ([.ref (A (30, i0, 0)), .int a1, .int a2, .int a3])).length) Slot.unset).toArray = ls at hl ⊢
  have hl : lv_has ls 4 [(0, .ref (A (30, i0, 0))), (1, .int a1), (2, .int a2), (3, .int a3)] := hl
  unfold f_X1_changeFile at h
  refine lv_aload_n hx hb dX1_changeFile_0 rfl (lv_at hl 0 rfl) ?_
  refine cr_X1_tree (a := i0) S X Z hin_X1 hi0 hl_41 dX1_changeFile_1 ?_
  refine cn_X8_held (a := (4 + i0)) S X Z hin_X8 (cl_ct hi0) hl_60 dX1_changeFile_4 ?_
  refine lv_iload_n hx hb dX1_changeFile_7 rfl (lv_at hl 1 rfl) ?_
  refine g_zald (i := (51, (4 + i0), 0)) (n := 48) S X Z (cl_X8_held (cl_ct hi0)) rfl dX1_changeFile_8 h (fun v1 h => ?_)
  refine lv_if_ne (tgt := 13) hx hb dX1_changeFile_9 (by decide) (fun c2 => ?_) (fun c2 => ?_)
  · have h := if_f c2 h
    refine lv_aload_n hx hb dX1_changeFile_13 rfl (lv_at hl 0 rfl) ?_
    refine lv_iload_n hx hb dX1_changeFile_14 rfl (lv_at hl 3 rfl) ?_
    refine lv_aload_n hx hb dX1_changeFile_15 rfl (lv_at hl 0 rfl) ?_
    refine cr_X1_tree (a := i0) S X Z hin_X1 hi0 hl_41 dX1_changeFile_16 ?_
    refine cn_X8_size (a := (4 + i0)) S X Z hin_X8 (cl_ct hi0) hl_71 dX1_changeFile_19 ?_
    refine lv_iload_n hx hb dX1_changeFile_22 rfl (lv_at hl 1 rfl) ?_
    refine g_iald (i := (53, (4 + i0), 0)) (n := 48) S X Z (cl_X8_size (cl_ct hi0)) rfl dX1_changeFile_23 h (fun v3 h => ?_)
    refine lv_isub hx hb dX1_changeFile_24 ?_
    refine lv_bipush (v := (10 : Int32)) hx hb dX1_changeFile_25 (by decide) ?_
    obtain ⟨v6, M5, hc4, h⟩ := ob_e h
    refine c_i X Z (c_V (i := (30, i0, 0)) (As := [.int (a3 - v3), .int (10 : Int32)]) (rest := []) S X hN Z hi0 rfl rfl (t_X1_makeRoom l N D dA A hJ hi0 hc4) (cwV 2 hts (cGV (cB 108 rfl) (cB 109 rfl) (cB 110 rfl) (cB 64 rfl) (cB 103 rfl)) rfl rfl rfl (by decide +kernel) ⟨Nat.le_of_ble_eq_true rfl, Nat.le_of_ble_eq_true rfl⟩) rfl hl.1 rfl (Nat.le_of_ble_eq_true rfl) dX1_changeFile_27 ⟨Nat.zero_le _, Nat.zero_le _⟩) (fun H locs Z => ?_)
    refine lv_if_ne (tgt := 39) hx hb dX1_changeFile_30 (by decide) (fun c7 => ?_) (fun c7 => ?_)
    · have h := if_f c7 h
      refine lv_aload_n hx hb dX1_changeFile_39 rfl (lv_at hl 0 rfl) ?_
      refine cr_X1_tree (a := i0) S X Z hin_X1 hi0 hl_41 dX1_changeFile_40 ?_
      refine lv_iload_n hx hb dX1_changeFile_43 rfl (lv_at hl 1 rfl) ?_
      refine lv_iload_n hx hb dX1_changeFile_44 rfl (lv_at hl 2 rfl) ?_
      refine lv_iload_n hx hb dX1_changeFile_45 rfl (lv_at hl 3 rfl) ?_
      obtain ⟨M9, hc8, h⟩ := o1_e h
      refine c_v X Z (c_V (i := (50, (4 + i0), 0)) (As := [.int a1, .int a2, .int a3]) (rest := []) S X hN Z (cl_ct hi0) rfl rfl (t_X8_setFile l N D dA A hJ (cl_ct hi0) hc8) (cwV 3 hts (cGV (cB 115 rfl) (cB 71 rfl) (cB 72 rfl) (cB 44 rfl) (cB 67 rfl)) rfl rfl rfl (by decide +kernel) ⟨Nat.le_of_ble_eq_true rfl, Nat.le_of_ble_eq_true rfl⟩) rfl hl.1 rfl (Nat.le_of_ble_eq_true rfl) dX1_changeFile_46 ⟨Nat.zero_le _, Nat.zero_le _⟩) (fun H locs Z => ?_)
      have hy := Option.some.inj h
      subst hy
      exact g_rv S Z hr hlocks dX1_changeFile_49
    · have h := if_t c7 h
      refine lv_aload_n hx hb dX1_changeFile_33 rfl (lv_at hl 0 rfl) ?_
      refine lv_iload_n hx hb dX1_changeFile_34 rfl (lv_at hl 1 rfl) ?_
      obtain ⟨M11, hc10, h⟩ := o1_e h
      refine c_v X Z (c_V (i := (30, i0, 0)) (As := [.int a1]) (rest := []) S X hN Z hi0 rfl rfl (t_X1_drop l N D dA A hJ hi0 hc10) (cwV 1 hts (cGV (cB 100 rfl) (cB 101 rfl) (cB 102 rfl) (cB 64 rfl) (cB 76 rfl)) rfl rfl rfl (by decide +kernel) ⟨Nat.le_of_ble_eq_true rfl, Nat.le_of_ble_eq_true rfl⟩) rfl hl.1 rfl (Nat.le_of_ble_eq_true rfl) dX1_changeFile_35 ⟨Nat.zero_le _, Nat.zero_le _⟩) (fun H locs Z => ?_)
      have hy := Option.some.inj h
      subst hy
      exact g_rv S Z hr hlocks dX1_changeFile_38
  · have h := if_t c2 h
    have hy := Option.some.inj h
    subst hy
    exact g_rv S Z hr hlocks dX1_changeFile_12
-- X8_setThere (I)V: 12 instructions
theorem dX8_setThere_0 : decode cX8_setThere 0 = .ok (.aload_n 0, 1) := by decide +kernel
theorem dX8_setThere_1 : decode cX8_setThere 1 = .ok (.getfield 22, 3) := by decide +kernel
theorem dX8_setThere_4 : decode cX8_setThere 4 = .ok (.iload_n 1, 1) := by decide +kernel
theorem dX8_setThere_5 : decode cX8_setThere 5 = .ok (.iconst 1, 1) := by decide +kernel
theorem dX8_setThere_6 : decode cX8_setThere 6 = .ok (.iastore, 1) := by decide +kernel
theorem dX8_setThere_7 : decode cX8_setThere 7 = .ok (.aload_n 0, 1) := by decide +kernel
theorem dX8_setThere_8 : decode cX8_setThere 8 = .ok (.getfield 34, 3) := by decide +kernel
theorem dX8_setThere_11 : decode cX8_setThere 11 = .ok (.iload_n 1, 1) := by decide +kernel
theorem dX8_setThere_12 : decode cX8_setThere 12 = .ok (.aaload, 1) := by decide +kernel
theorem dX8_setThere_13 : decode cX8_setThere 13 = .ok (.iconst 0, 1) := by decide +kernel
theorem dX8_setThere_14 : decode cX8_setThere 14 = .ok (.invokestatic 41, 3) := by decide +kernel
theorem dX8_setThere_17 : decode cX8_setThere 17 = .ok (.return_, 1) := by decide +kernel
abbrev wmX8_setThere : List Cond := .code yX8_setThere cX8_setThere 2 none :: cBig
def f_X8_setThere (N : Nat) (M : gM) (i0 : Nat) (a1 : Int32) : Option gM :=
  wr M (56, i0, 0) 48 a1 (1 : Int32) (fun M1 => ix a1 48 (fun v2 => o1 (f_J7_fill_53178 N M1 (58, i0, v2) (0 : Int32)) (fun M4 => some M4)))
set_option maxHeartbeats 4000000 in
set_option maxRecDepth 100000 in
theorem t_X8_setThere (l : Launch) (N : Nat) (D : va_G) (dA : Nat → ClassId) (A : gI → Nat) (hJ : gJ (cLive N) A) {M : gM} {i0 : Nat} {a1 : Int32} (hi0 : cLive N (50, i0, 0)) {y : gM} (h : f_X8_setThere N M i0 a1 = some y) : cMv l yX8_setThere wmX8_setThere ({ frames := 1, cells := 0, slots := 0, locals := 23 } : Room) N D dA A [.ref (A (50, i0, 0)), .int a1] M y := by
  refine Met.ofW (cc := cX8_setThere) (maxL := 2) (ret := none) (by decide) rfl ?_
  intro p e s m args below meth c s₁ B hml hv
  obtain ⟨rfl, hP, hK, hN⟩ := hv
  generalize hargs : ([.ref (A (50, i0, 0)), .int a1] : List Value).toArray = args at B ⊢
  have S : CallFix p m c cX8_setThere 2 s args wmX8_setThere RX8 := ⟨B.exec, B.bytes, hml, findClass_of_methodNamed B.named, atoms_spec (ws := wmX8_setThere) B.pre⟩
  obtain ⟨hx, hb, -, hown, hts⟩ := id S
  have hr := B.returns
  have hlocks := B.notSynchronized
  have X : gX D vwCl dA (cLive N) A (gA (cLive N) A) s := ⟨hK, hJ, fun i hi => ⟨i, hi, rfl⟩⟩
  have Z : gZ D (cLay N) dA (cLive N) A (gA (cLive N) A) s.heap M s.heap [] := ⟨hP, va_S.rf⟩
  have hin_X8 : ∀ w ∈ wsX80, w ∈ wmX8_setThere := cin_X8
  have hl_22 := hts (.fieldLink RX8 22 "ReplicaFiles$Tree" "state" "[I") (cBc 22 rfl)
  have hl_34 := hts (.fieldLink RX8 34 "ReplicaFiles$Tree" "goneCounts" "[[I") (cBc 26 rfl)
  have hl := lv_entry ([.ref (A (50, i0, 0)), .int a1]) (n := 2) (Nat.le_of_ble_eq_true rfl)
  rw [← hargs, lg_entry_eq, hargs]
  generalize (lg_sl ([.ref (A (50, i0, 0)), .int a1]) ++ List.replicate (2 - (lg_sl ([.ref (A (50, i0, 0)), .int a1])).length) Slot.unset).toArray = ls at hl ⊢
  have hl : lv_has ls 2 [(0, .ref (A (50, i0, 0))), (1, .int a1)] := hl
  unfold f_X8_setThere at h
  refine lv_aload_n hx hb dX8_setThere_0 rfl (lv_at hl 0 rfl) ?_
  refine cr_X8_state (a := i0) S X Z hin_X8 hi0 hl_22 dX8_setThere_1 ?_
  refine lv_iload_n hx hb dX8_setThere_4 rfl (lv_at hl 1 rfl) ?_
  refine lv_iconst (v := (1 : Int32)) hx hb dX8_setThere_5 (by decide) ?_
  refine g_iast (i := (56, i0, 0)) (n := 48) S X Z (cl_X8_state hi0) rfl dX8_setThere_6 h (fun M1 H locs Z h => ?_)
  refine lv_aload_n hx hb dX8_setThere_7 rfl (lv_at hl 0 rfl) ?_
  refine cr_X8_goneCounts (a := i0) S X Z hin_X8 hi0 hl_34 dX8_setThere_8 ?_
  refine lv_iload_n hx hb dX8_setThere_11 rfl (lv_at hl 1 rfl) ?_
  refine g_aald (i := (57, i0, 0)) (ca := 5) ⟨rfl, rfl⟩ S X Z (cl_X8_goneCounts hi0) rfl dX8_setThere_12 h (fun v2 hv2 h => ?_)
  refine lv_iconst (v := (0 : Int32)) hx hb dX8_setThere_13 (by decide) ?_
  obtain ⟨M4, hc3, h⟩ := o1_e h
  refine c_v X Z (c_S (As := [.ref (A (58, i0, v2)), .int (0 : Int32)]) (rest := []) S X hN Z (t_J7_fill_53178 l N D dA A hJ ⟨(cl_58 (cl_X8_goneCounts hi0) hv2), rfl⟩ hc3) (va_cwS 2 hts (cGS (cB 73 rfl) (cB 74 rfl) (cB 75 rfl) (cB 68 rfl)) rfl rfl rfl (by decide +kernel) ⟨Nat.le_of_ble_eq_true rfl, Nat.le_of_ble_eq_true rfl⟩) rfl hl.1 rfl (Nat.le_of_ble_eq_true rfl) dX8_setThere_14 ⟨Nat.zero_le _, Nat.zero_le _⟩) (fun H locs Z => ?_)
  have hy := Option.some.inj h
  subst hy
  exact g_rv S Z hr hlocks dX8_setThere_17
-- X8_createCopy (I)V: 17 instructions
theorem dX8_createCopy_0 : decode cX8_createCopy 0 = .ok (.aload_n 0, 1) := by decide +kernel
theorem dX8_createCopy_1 : decode cX8_createCopy 1 = .ok (.getfield 9, 3) := by decide +kernel
theorem dX8_createCopy_4 : decode cX8_createCopy 4 = .ok (.iload_n 1, 1) := by decide +kernel
theorem dX8_createCopy_5 : decode cX8_createCopy 5 = .ok (.iconst 1, 1) := by decide +kernel
theorem dX8_createCopy_6 : decode cX8_createCopy 6 = .ok (.bastore, 1) := by decide +kernel
theorem dX8_createCopy_7 : decode cX8_createCopy 7 = .ok (.aload_n 0, 1) := by decide +kernel
theorem dX8_createCopy_8 : decode cX8_createCopy 8 = .ok (.iload_n 1, 1) := by decide +kernel
theorem dX8_createCopy_9 : decode cX8_createCopy 9 = .ok (.iconst 0, 1) := by decide +kernel
theorem dX8_createCopy_10 : decode cX8_createCopy 10 = .ok (.iconst 0, 1) := by decide +kernel
theorem dX8_createCopy_11 : decode cX8_createCopy 11 = .ok (.invokevirtual 37, 3) := by decide +kernel
theorem dX8_createCopy_14 : decode cX8_createCopy 14 = .ok (.aload_n 0, 1) := by decide +kernel
theorem dX8_createCopy_15 : decode cX8_createCopy 15 = .ok (.getfield 31, 3) := by decide +kernel
theorem dX8_createCopy_18 : decode cX8_createCopy 18 = .ok (.iload_n 1, 1) := by decide +kernel
theorem dX8_createCopy_19 : decode cX8_createCopy 19 = .ok (.aaload, 1) := by decide +kernel
theorem dX8_createCopy_20 : decode cX8_createCopy 20 = .ok (.iconst 0, 1) := by decide +kernel
theorem dX8_createCopy_21 : decode cX8_createCopy 21 = .ok (.invokestatic 41, 3) := by decide +kernel
theorem dX8_createCopy_24 : decode cX8_createCopy 24 = .ok (.return_, 1) := by decide +kernel
abbrev wmX8_createCopy : List Cond := .code yX8_createCopy cX8_createCopy 2 none :: cBig
def f_X8_createCopy (N : Nat) (M : gM) (i0 : Nat) (a1 : Int32) : Option gM :=
  wz M (51, i0, 0) 48 a1 (1 : Int32) (fun M1 => o1 (f_X8_setFile N M1 i0 a1 (0 : Int32) (0 : Int32)) (fun M3 => ix a1 48 (fun v4 => o1 (f_J7_fill_53178 N M3 (55, i0, v4) (0 : Int32)) (fun M6 => some M6))))
set_option maxHeartbeats 4000000 in
set_option maxRecDepth 100000 in
theorem t_X8_createCopy (l : Launch) (N : Nat) (D : va_G) (dA : Nat → ClassId) (A : gI → Nat) (hJ : gJ (cLive N) A) {M : gM} {i0 : Nat} {a1 : Int32} (hi0 : cLive N (50, i0, 0)) {y : gM} (h : f_X8_createCopy N M i0 a1 = some y) : cMv l yX8_createCopy wmX8_createCopy ({ frames := 1, cells := 0, slots := 0, locals := 23 } : Room) N D dA A [.ref (A (50, i0, 0)), .int a1] M y := by
  refine Met.ofW (cc := cX8_createCopy) (maxL := 2) (ret := none) (by decide) rfl ?_
  intro p e s m args below meth c s₁ B hml hv
  obtain ⟨rfl, hP, hK, hN⟩ := hv
  generalize hargs : ([.ref (A (50, i0, 0)), .int a1] : List Value).toArray = args at B ⊢
  have S : CallFix p m c cX8_createCopy 2 s args wmX8_createCopy RX8 := ⟨B.exec, B.bytes, hml, findClass_of_methodNamed B.named, atoms_spec (ws := wmX8_createCopy) B.pre⟩
  obtain ⟨hx, hb, -, hown, hts⟩ := id S
  have hr := B.returns
  have hlocks := B.notSynchronized
  have X : gX D vwCl dA (cLive N) A (gA (cLive N) A) s := ⟨hK, hJ, fun i hi => ⟨i, hi, rfl⟩⟩
  have Z : gZ D (cLay N) dA (cLive N) A (gA (cLive N) A) s.heap M s.heap [] := ⟨hP, va_S.rf⟩
  have hin_X8 : ∀ w ∈ wsX80, w ∈ wmX8_createCopy := cin_X8
  have hl_9 := hts (.fieldLink RX8 9 "ReplicaFiles$Tree" "held" "[Z") (cBc 19 rfl)
  have hl_31 := hts (.fieldLink RX8 31 "ReplicaFiles$Tree" "counts" "[[I") (cBc 25 rfl)
  have hl := lv_entry ([.ref (A (50, i0, 0)), .int a1]) (n := 2) (Nat.le_of_ble_eq_true rfl)
  rw [← hargs, lg_entry_eq, hargs]
  generalize (lg_sl ([.ref (A (50, i0, 0)), .int a1]) ++ List.replicate (2 - (lg_sl ([.ref (A (50, i0, 0)), .int a1])).length) Slot.unset).toArray = ls at hl ⊢
  have hl : lv_has ls 2 [(0, .ref (A (50, i0, 0))), (1, .int a1)] := hl
  unfold f_X8_createCopy at h
  refine lv_aload_n hx hb dX8_createCopy_0 rfl (lv_at hl 0 rfl) ?_
  refine cr_X8_held (a := i0) S X Z hin_X8 hi0 hl_9 dX8_createCopy_1 ?_
  refine lv_iload_n hx hb dX8_createCopy_4 rfl (lv_at hl 1 rfl) ?_
  refine lv_iconst (v := (1 : Int32)) hx hb dX8_createCopy_5 (by decide) ?_
  refine g_zast (i := (51, i0, 0)) (n := 48) S X Z (cl_X8_held hi0) rfl dX8_createCopy_6 h (fun M1 H locs Z h => ?_)
  refine lv_aload_n hx hb dX8_createCopy_7 rfl (lv_at hl 0 rfl) ?_
  refine lv_iload_n hx hb dX8_createCopy_8 rfl (lv_at hl 1 rfl) ?_
  refine lv_iconst (v := (0 : Int32)) hx hb dX8_createCopy_9 (by decide) ?_
  refine lv_iconst (v := (0 : Int32)) hx hb dX8_createCopy_10 (by decide) ?_
  obtain ⟨M3, hc2, h⟩ := o1_e h
  refine c_v X Z (c_V (i := (50, i0, 0)) (As := [.int a1, .int (0 : Int32), .int (0 : Int32)]) (rest := []) S X hN Z hi0 rfl rfl (t_X8_setFile l N D dA A hJ hi0 hc2) (cwV 3 hts (cGV (cB 70 rfl) (cB 71 rfl) (cB 72 rfl) (cB 44 rfl) (cB 67 rfl)) rfl rfl rfl (by decide +kernel) ⟨Nat.le_of_ble_eq_true rfl, Nat.le_of_ble_eq_true rfl⟩) rfl hl.1 rfl (Nat.le_of_ble_eq_true rfl) dX8_createCopy_11 ⟨Nat.zero_le _, Nat.zero_le _⟩) (fun H locs Z => ?_)
  refine lv_aload_n hx hb dX8_createCopy_14 rfl (lv_at hl 0 rfl) ?_
  refine cr_X8_counts (a := i0) S X Z hin_X8 hi0 hl_31 dX8_createCopy_15 ?_
  refine lv_iload_n hx hb dX8_createCopy_18 rfl (lv_at hl 1 rfl) ?_
  refine g_aald (i := (54, i0, 0)) (ca := 5) ⟨rfl, rfl⟩ S X Z (cl_X8_counts hi0) rfl dX8_createCopy_19 h (fun v4 hv4 h => ?_)
  refine lv_iconst (v := (0 : Int32)) hx hb dX8_createCopy_20 (by decide) ?_
  obtain ⟨M6, hc5, h⟩ := o1_e h
  refine c_v X Z (c_S (As := [.ref (A (55, i0, v4)), .int (0 : Int32)]) (rest := []) S X hN Z (t_J7_fill_53178 l N D dA A hJ ⟨(cl_55 (cl_X8_counts hi0) hv4), rfl⟩ hc5) (va_cwS 2 hts (cGS (cB 73 rfl) (cB 74 rfl) (cB 75 rfl) (cB 68 rfl)) rfl rfl rfl (by decide +kernel) ⟨Nat.le_of_ble_eq_true rfl, Nat.le_of_ble_eq_true rfl⟩) rfl hl.1 rfl (Nat.le_of_ble_eq_true rfl) dX8_createCopy_21 ⟨Nat.zero_le _, Nat.zero_le _⟩) (fun H locs Z => ?_)
  have hy := Option.some.inj h
  subst hy
  exact g_rv S Z hr hlocks dX8_createCopy_24
-- X1_takeInMade (III)V: 32 instructions
theorem dX1_takeInMade_0 : decode cX1_takeInMade 0 = .ok (.aload_n 0, 1) := by decide +kernel
theorem dX1_takeInMade_1 : decode cX1_takeInMade 1 = .ok (.getfield 41, 3) := by decide +kernel
theorem dX1_takeInMade_4 : decode cX1_takeInMade 4 = .ok (.getfield 60, 3) := by decide +kernel
theorem dX1_takeInMade_7 : decode cX1_takeInMade 7 = .ok (.iload_n 1, 1) := by decide +kernel
theorem dX1_takeInMade_8 : decode cX1_takeInMade 8 = .ok (.baload, 1) := by decide +kernel
theorem dX1_takeInMade_9 : decode cX1_takeInMade 9 = .ok (.ifCond .eq 11, 3) := by decide +kernel
theorem dX1_takeInMade_12 : decode cX1_takeInMade 12 = .ok (.aload_n 0, 1) := by decide +kernel
theorem dX1_takeInMade_13 : decode cX1_takeInMade 13 = .ok (.getfield 41, 3) := by decide +kernel
theorem dX1_takeInMade_16 : decode cX1_takeInMade 16 = .ok (.iload_n 2, 1) := by decide +kernel
theorem dX1_takeInMade_17 : decode cX1_takeInMade 17 = .ok (.invokevirtual 112, 3) := by decide +kernel
theorem dX1_takeInMade_20 : decode cX1_takeInMade 20 = .ok (.aload_n 0, 1) := by decide +kernel
theorem dX1_takeInMade_21 : decode cX1_takeInMade 21 = .ok (.aload_n 0, 1) := by decide +kernel
theorem dX1_takeInMade_22 : decode cX1_takeInMade 22 = .ok (.iload_n 2, 1) := by decide +kernel
theorem dX1_takeInMade_23 : decode cX1_takeInMade 23 = .ok (.iconst 0, 1) := by decide +kernel
theorem dX1_takeInMade_24 : decode cX1_takeInMade 24 = .ok (.invokevirtual 74, 3) := by decide +kernel
theorem dX1_takeInMade_27 : decode cX1_takeInMade 27 = .ok (.bipush 10, 2) := by decide +kernel
theorem dX1_takeInMade_29 : decode cX1_takeInMade 29 = .ok (.invokevirtual 101, 3) := by decide +kernel
theorem dX1_takeInMade_32 : decode cX1_takeInMade 32 = .ok (.ifCond .ne 4, 3) := by decide +kernel
theorem dX1_takeInMade_35 : decode cX1_takeInMade 35 = .ok (.return_, 1) := by decide +kernel
theorem dX1_takeInMade_36 : decode cX1_takeInMade 36 = .ok (.aload_n 0, 1) := by decide +kernel
theorem dX1_takeInMade_37 : decode cX1_takeInMade 37 = .ok (.getfield 41, 3) := by decide +kernel
theorem dX1_takeInMade_40 : decode cX1_takeInMade 40 = .ok (.iload_n 2, 1) := by decide +kernel
theorem dX1_takeInMade_41 : decode cX1_takeInMade 41 = .ok (.invokevirtual 115, 3) := by decide +kernel
theorem dX1_takeInMade_44 : decode cX1_takeInMade 44 = .ok (.aload_n 0, 1) := by decide +kernel
theorem dX1_takeInMade_45 : decode cX1_takeInMade 45 = .ok (.getfield 15, 3) := by decide +kernel
theorem dX1_takeInMade_48 : decode cX1_takeInMade 48 = .ok (.iload_n 2, 1) := by decide +kernel
theorem dX1_takeInMade_49 : decode cX1_takeInMade 49 = .ok (.iload_n 3, 1) := by decide +kernel
theorem dX1_takeInMade_50 : decode cX1_takeInMade 50 = .ok (.iastore, 1) := by decide +kernel
theorem dX1_takeInMade_51 : decode cX1_takeInMade 51 = .ok (.aload_n 0, 1) := by decide +kernel
theorem dX1_takeInMade_52 : decode cX1_takeInMade 52 = .ok (.iload_n 2, 1) := by decide +kernel
theorem dX1_takeInMade_53 : decode cX1_takeInMade 53 = .ok (.invokevirtual 65, 3) := by decide +kernel
theorem dX1_takeInMade_56 : decode cX1_takeInMade 56 = .ok (.return_, 1) := by decide +kernel
abbrev wmX1_takeInMade : List Cond := .code yX1_takeInMade cX1_takeInMade 4 none :: cBig
def f_X1_takeInMade (N : Nat) (M : gM) (i0 : Nat) (a1 : Int32) (a2 : Int32) (a3 : Int32) : Option gM :=
  rd M (51, (4 + i0), 0) 48 a1 (fun v1 => jn (fun (M2 : gM) => o1 (f_X1_fullWeight N M2 i0 a2 (0 : Int32)) (fun v4 => ob (f_X1_makeRoom N M2 i0 v4 (10 : Int32)) (fun v7 M6 => (if v7 = 0 then some M6 else o1 (f_X8_createCopy N M6 (4 + i0) a2) (fun M10 => wr M10 (32, i0, 0) 48 a2 a3 (fun M11 => o1 (f_X1_use N M11 i0 a2) (fun M13 => some M13))))))) (fun J20 => (if v1 = 0 then J20 M else o1 (f_X8_setThere N M (4 + i0) a2) (fun M16 => J20 M16))))
set_option maxHeartbeats 4000000 in
set_option maxRecDepth 100000 in
theorem t_X1_takeInMade (l : Launch) (N : Nat) (D : va_G) (dA : Nat → ClassId) (A : gI → Nat) (hJ : gJ (cLive N) A) {M : gM} {i0 : Nat} {a1 : Int32} {a2 : Int32} {a3 : Int32} (hi0 : cLive N (30, i0, 0)) {y : gM} (h : f_X1_takeInMade N M i0 a1 a2 a3 = some y) : cMv l yX1_takeInMade wmX1_takeInMade ({ frames := 4, cells := 0, slots := 0, locals := 92 } : Room) N D dA A [.ref (A (30, i0, 0)), .int a1, .int a2, .int a3] M y := by
  refine Met.ofW (cc := cX1_takeInMade) (maxL := 4) (ret := none) (by decide) rfl ?_
  intro p e s m args below meth c s₁ B hml hv
  obtain ⟨rfl, hP, hK, hN⟩ := hv
  generalize hargs : ([.ref (A (30, i0, 0)), .int a1, .int a2, .int a3] : List Value).toArray = args at B ⊢
  have S : CallFix p m c cX1_takeInMade 4 s args wmX1_takeInMade RX1 := ⟨B.exec, B.bytes, hml, findClass_of_methodNamed B.named, atoms_spec (ws := wmX1_takeInMade) B.pre⟩
  obtain ⟨hx, hb, -, hown, hts⟩ := id S
  have hr := B.returns
  have hlocks := B.notSynchronized
  have X : gX D vwCl dA (cLive N) A (gA (cLive N) A) s := ⟨hK, hJ, fun i hi => ⟨i, hi, rfl⟩⟩
  have Z : gZ D (cLay N) dA (cLive N) A (gA (cLive N) A) s.heap M s.heap [] := ⟨hP, va_S.rf⟩
  have hin_X1 : ∀ w ∈ wsX10, w ∈ wmX1_takeInMade := cin_X1
  have hin_X8 : ∀ w ∈ wsX80, w ∈ wmX1_takeInMade := cin_X8
  have hl_15 := hts (.fieldLink RX1 15 "ReplicaFiles$Client" "promised" "[I") (cBc 36 rfl)
  have hl_41 := hts (.fieldLink RX1 41 "ReplicaFiles$Client" "tree" "LReplicaFiles$Tree;") (cBc 45 rfl)
  have hl_60 := va_Nw.use (A := args) rfl (hN.1 ("ReplicaFiles$Client", 60, "ReplicaFiles$Tree", "held", "[Z", "ReplicaFiles") (by decide +kernel))
  have hl := lv_entry ([.ref (A (30, i0, 0)), .int a1, .int a2, .int a3]) (n := 4) (Nat.le_of_ble_eq_true rfl)
  rw [← hargs, lg_entry_eq, hargs]
  generalize (lg_sl ([.ref (A (30, i0, 0)), .int a1, .int a2, .int a3]) ++ List.replicate (4 - (lg_sl ([.ref (A (30, i0, 0)), .int a1, .int a2, .int a3])).length) Slot.unset).toArray = ls at hl ⊢
  have hl : lv_has ls 4 [(0, .ref (A (30, i0, 0))), (1, .int a1), (2, .int a2), (3, .int a3)] := hl
  unfold f_X1_takeInMade at h
  refine lv_aload_n hx hb dX1_takeInMade_0 rfl (lv_at hl 0 rfl) ?_
  refine cr_X1_tree (a := i0) S X Z hin_X1 hi0 hl_41 dX1_takeInMade_1 ?_
  refine cn_X8_held (a := (4 + i0)) S X Z hin_X8 (cl_ct hi0) hl_60 dX1_takeInMade_4 ?_
  refine lv_iload_n hx hb dX1_takeInMade_7 rfl (lv_at hl 1 rfl) ?_
  refine g_zald (i := (51, (4 + i0), 0)) (n := 48) S X Z (cl_X8_held (cl_ct hi0)) rfl dX1_takeInMade_8 h (fun v1 h => ?_)
  obtain ⟨J20, eJ20, h⟩ := jn_e h
  have hJ20 : ∀ (M2 : gM) (H : Heap) (locs : List Loc) (ls : Array Slot), gZ D (cLay N) dA (cLive N) A (gA (cLive N) A) s.heap M2 H locs → lv_has ls 4 [(0, .ref (A (30, i0, 0))), (2, .int a2), (3, .int a3)] → J20 M2 = some y → W p l e (headSpec wmX1_takeInMade ({ frames := 4, cells := 0, slots := 0, locals := 92 } : Room)).room s m args below meth c H locs 0 0 (MQ below (cQv N D dA A y) args s 0 0 (gA (cLive N) A)) (F0 m 20 ls []) := by
    intro M2 H locs ls Z hl h
    rw [eJ20] at h
    try dsimp only at h
    refine lv_aload_n hx hb dX1_takeInMade_20 rfl (lv_at hl 0 rfl) ?_
    refine lv_aload_n hx hb dX1_takeInMade_21 rfl (lv_at hl 0 rfl) ?_
    refine lv_iload_n hx hb dX1_takeInMade_22 rfl (lv_at hl 1 rfl) ?_
    refine lv_iconst (v := (0 : Int32)) hx hb dX1_takeInMade_23 (by decide) ?_
    obtain ⟨v4, hc3, h⟩ := o1_e h
    refine c_i X Z (c_V (i := (30, i0, 0)) (As := [.int a2, .int (0 : Int32)]) (rest := [.ref (A (30, i0, 0))]) S X hN Z hi0 rfl rfl (t_X1_fullWeight l N D dA A hJ hi0 hc3) (cwV 2 hts (cGV (cB 82 rfl) (cB 83 rfl) (cB 84 rfl) (cB 64 rfl) (cB 80 rfl)) rfl rfl rfl (by decide +kernel) ⟨Nat.le_of_ble_eq_true rfl, Nat.le_of_ble_eq_true rfl⟩) rfl hl.1 rfl (Nat.le_of_ble_eq_true rfl) dX1_takeInMade_24 ⟨Nat.zero_le _, Nat.zero_le _⟩) (fun H locs Z => ?_)
    refine lv_bipush (v := (10 : Int32)) hx hb dX1_takeInMade_27 (by decide) ?_
    obtain ⟨v7, M6, hc5, h⟩ := ob_e h
    refine c_i X Z (c_V (i := (30, i0, 0)) (As := [.int v4, .int (10 : Int32)]) (rest := []) S X hN Z hi0 rfl rfl (t_X1_makeRoom l N D dA A hJ hi0 hc5) (cwV 2 hts (cGV (cB 108 rfl) (cB 109 rfl) (cB 110 rfl) (cB 64 rfl) (cB 103 rfl)) rfl rfl rfl (by decide +kernel) ⟨Nat.le_of_ble_eq_true rfl, Nat.le_of_ble_eq_true rfl⟩) rfl hl.1 rfl (Nat.le_of_ble_eq_true rfl) dX1_takeInMade_29 ⟨Nat.zero_le _, Nat.zero_le _⟩) (fun H locs Z => ?_)
    refine lv_if_ne (tgt := 36) hx hb dX1_takeInMade_32 (by decide) (fun c8 => ?_) (fun c8 => ?_)
    · have h := if_f c8 h
      refine lv_aload_n hx hb dX1_takeInMade_36 rfl (lv_at hl 0 rfl) ?_
      refine cr_X1_tree (a := i0) S X Z hin_X1 hi0 hl_41 dX1_takeInMade_37 ?_
      refine lv_iload_n hx hb dX1_takeInMade_40 rfl (lv_at hl 1 rfl) ?_
      obtain ⟨M10, hc9, h⟩ := o1_e h
      refine c_v X Z (c_V (i := (50, (4 + i0), 0)) (As := [.int a2]) (rest := []) S X hN Z (cl_ct hi0) rfl rfl (t_X8_createCopy l N D dA A hJ (cl_ct hi0) hc9) (cwV 1 hts (cGV (cB 122 rfl) (cB 123 rfl) (cB 124 rfl) (cB 44 rfl) (cB 118 rfl)) rfl rfl rfl (by decide +kernel) ⟨Nat.le_of_ble_eq_true rfl, Nat.le_of_ble_eq_true rfl⟩) rfl hl.1 rfl (Nat.le_of_ble_eq_true rfl) dX1_takeInMade_41 ⟨Nat.zero_le _, Nat.zero_le _⟩) (fun H locs Z => ?_)
      refine lv_aload_n hx hb dX1_takeInMade_44 rfl (lv_at hl 0 rfl) ?_
      refine cr_X1_promised (a := i0) S X Z hin_X1 hi0 hl_15 dX1_takeInMade_45 ?_
      refine lv_iload_n hx hb dX1_takeInMade_48 rfl (lv_at hl 1 rfl) ?_
      refine lv_iload_n hx hb dX1_takeInMade_49 rfl (lv_at hl 2 rfl) ?_
      refine g_iast (i := (32, i0, 0)) (n := 48) S X Z (cl_X1_promised hi0) rfl dX1_takeInMade_50 h (fun M11 H locs Z h => ?_)
      refine lv_aload_n hx hb dX1_takeInMade_51 rfl (lv_at hl 0 rfl) ?_
      refine lv_iload_n hx hb dX1_takeInMade_52 rfl (lv_at hl 1 rfl) ?_
      obtain ⟨M13, hc12, h⟩ := o1_e h
      refine c_v X Z (c_V (i := (30, i0, 0)) (As := [.int a2]) (rest := []) S X hN Z hi0 rfl rfl (t_X1_use l N D dA A hJ hi0 hc12) (cwV 1 hts (cGV (cB 61 rfl) (cB 62 rfl) (cB 63 rfl) (cB 64 rfl) (cB 58 rfl)) rfl rfl rfl (by decide +kernel) ⟨Nat.le_of_ble_eq_true rfl, Nat.le_of_ble_eq_true rfl⟩) rfl hl.1 rfl (Nat.le_of_ble_eq_true rfl) dX1_takeInMade_53 ⟨Nat.zero_le _, Nat.zero_le _⟩) (fun H locs Z => ?_)
      have hy := Option.some.inj h
      subst hy
      exact g_rv S Z hr hlocks dX1_takeInMade_56
    · have h := if_t c8 h
      have hy := Option.some.inj h
      subst hy
      exact g_rv S Z hr hlocks dX1_takeInMade_35
  refine lv_if_eq (tgt := 20) hx hb dX1_takeInMade_9 (by decide) (fun c14 => ?_) (fun c14 => ?_)
  · have h := if_t c14 h
    exact hJ20 M _ _ _ Z (lv_sub hl [0, 2, 3] rfl) h
  · have h := if_f c14 h
    refine lv_aload_n hx hb dX1_takeInMade_12 rfl (lv_at hl 0 rfl) ?_
    refine cr_X1_tree (a := i0) S X Z hin_X1 hi0 hl_41 dX1_takeInMade_13 ?_
    refine lv_iload_n hx hb dX1_takeInMade_16 rfl (lv_at hl 2 rfl) ?_
    obtain ⟨M16, hc15, h⟩ := o1_e h
    refine c_v X Z (c_V (i := (50, (4 + i0), 0)) (As := [.int a2]) (rest := []) S X hN Z (cl_ct hi0) rfl rfl (t_X8_setThere l N D dA A hJ (cl_ct hi0) hc15) (cwV 1 hts (cGV (cB 119 rfl) (cB 120 rfl) (cB 121 rfl) (cB 44 rfl) (cB 117 rfl)) rfl rfl rfl (by decide +kernel) ⟨Nat.le_of_ble_eq_true rfl, Nat.le_of_ble_eq_true rfl⟩) rfl hl.1 rfl (Nat.le_of_ble_eq_true rfl) dX1_takeInMade_17 ⟨Nat.zero_le _, Nat.zero_le _⟩) (fun H locs Z => ?_)
    exact hJ20 M16 _ _ _ Z (lv_sub hl [0, 2, 3] rfl) h
-- X8_setGone (I[I)V: 12 instructions
theorem dX8_setGone_0 : decode cX8_setGone 0 = .ok (.aload_n 0, 1) := by decide +kernel
theorem dX8_setGone_1 : decode cX8_setGone 1 = .ok (.getfield 22, 3) := by decide +kernel
theorem dX8_setGone_4 : decode cX8_setGone 4 = .ok (.iload_n 1, 1) := by decide +kernel
theorem dX8_setGone_5 : decode cX8_setGone 5 = .ok (.iconst 2, 1) := by decide +kernel
theorem dX8_setGone_6 : decode cX8_setGone 6 = .ok (.iastore, 1) := by decide +kernel
theorem dX8_setGone_7 : decode cX8_setGone 7 = .ok (.aload_n 0, 1) := by decide +kernel
theorem dX8_setGone_8 : decode cX8_setGone 8 = .ok (.getfield 34, 3) := by decide +kernel
theorem dX8_setGone_11 : decode cX8_setGone 11 = .ok (.iload_n 1, 1) := by decide +kernel
theorem dX8_setGone_12 : decode cX8_setGone 12 = .ok (.aaload, 1) := by decide +kernel
theorem dX8_setGone_13 : decode cX8_setGone 13 = .ok (.aload_n 2, 1) := by decide +kernel
theorem dX8_setGone_14 : decode cX8_setGone 14 = .ok (.invokestatic 47, 3) := by decide +kernel
theorem dX8_setGone_17 : decode cX8_setGone 17 = .ok (.return_, 1) := by decide +kernel
abbrev wmX8_setGone : List Cond := .code yX8_setGone cX8_setGone 3 none :: cBig
def f_X8_setGone (N : Nat) (M : gM) (i0 : Nat) (a1 : Int32) (a2 : gI) : Option gM :=
  wr M (56, i0, 0) 48 a1 (2 : Int32) (fun M1 => ix a1 48 (fun v2 => o1 (f_X10_assign N M1 (58, i0, v2) a2) (fun M4 => some M4)))
set_option maxHeartbeats 4000000 in
set_option maxRecDepth 100000 in
theorem t_X8_setGone (l : Launch) (N : Nat) (D : va_G) (dA : Nat → ClassId) (A : gI → Nat) (hJ : gJ (cLive N) A) {M : gM} {i0 : Nat} {a1 : Int32} {a2 : gI} (hi0 : cLive N (50, i0, 0)) (ha2 : cArr N a2) {y : gM} (h : f_X8_setGone N M i0 a1 a2 = some y) : cMv l yX8_setGone wmX8_setGone ({ frames := 1, cells := 0, slots := 0, locals := 22 } : Room) N D dA A [.ref (A (50, i0, 0)), .int a1, .ref (A a2)] M y := by
  refine Met.ofW (cc := cX8_setGone) (maxL := 3) (ret := none) (by decide) rfl ?_
  intro p e s m args below meth c s₁ B hml hv
  obtain ⟨rfl, hP, hK, hN⟩ := hv
  generalize hargs : ([.ref (A (50, i0, 0)), .int a1, .ref (A a2)] : List Value).toArray = args at B ⊢
  have S : CallFix p m c cX8_setGone 3 s args wmX8_setGone RX8 := ⟨B.exec, B.bytes, hml, findClass_of_methodNamed B.named, atoms_spec (ws := wmX8_setGone) B.pre⟩
  obtain ⟨hx, hb, -, hown, hts⟩ := id S
  have hr := B.returns
  have hlocks := B.notSynchronized
  have X : gX D vwCl dA (cLive N) A (gA (cLive N) A) s := ⟨hK, hJ, fun i hi => ⟨i, hi, rfl⟩⟩
  have Z : gZ D (cLay N) dA (cLive N) A (gA (cLive N) A) s.heap M s.heap [] := ⟨hP, va_S.rf⟩
  have hin_X8 : ∀ w ∈ wsX80, w ∈ wmX8_setGone := cin_X8
  have hl_22 := hts (.fieldLink RX8 22 "ReplicaFiles$Tree" "state" "[I") (cBc 22 rfl)
  have hl_34 := hts (.fieldLink RX8 34 "ReplicaFiles$Tree" "goneCounts" "[[I") (cBc 26 rfl)
  have hl := lv_entry ([.ref (A (50, i0, 0)), .int a1, .ref (A a2)]) (n := 3) (Nat.le_of_ble_eq_true rfl)
  rw [← hargs, lg_entry_eq, hargs]
  generalize (lg_sl ([.ref (A (50, i0, 0)), .int a1, .ref (A a2)]) ++ List.replicate (3 - (lg_sl ([.ref (A (50, i0, 0)), .int a1, .ref (A a2)])).length) Slot.unset).toArray = ls at hl ⊢
  have hl : lv_has ls 3 [(0, .ref (A (50, i0, 0))), (1, .int a1), (2, .ref (A a2))] := hl
  unfold f_X8_setGone at h
  refine lv_aload_n hx hb dX8_setGone_0 rfl (lv_at hl 0 rfl) ?_
  refine cr_X8_state (a := i0) S X Z hin_X8 hi0 hl_22 dX8_setGone_1 ?_
  refine lv_iload_n hx hb dX8_setGone_4 rfl (lv_at hl 1 rfl) ?_
  refine lv_iconst (v := (2 : Int32)) hx hb dX8_setGone_5 (by decide) ?_
  refine g_iast (i := (56, i0, 0)) (n := 48) S X Z (cl_X8_state hi0) rfl dX8_setGone_6 h (fun M1 H locs Z h => ?_)
  refine lv_aload_n hx hb dX8_setGone_7 rfl (lv_at hl 0 rfl) ?_
  refine cr_X8_goneCounts (a := i0) S X Z hin_X8 hi0 hl_34 dX8_setGone_8 ?_
  refine lv_iload_n hx hb dX8_setGone_11 rfl (lv_at hl 1 rfl) ?_
  refine g_aald (i := (57, i0, 0)) (ca := 5) ⟨rfl, rfl⟩ S X Z (cl_X8_goneCounts hi0) rfl dX8_setGone_12 h (fun v2 hv2 h => ?_)
  refine lv_aload_n hx hb dX8_setGone_13 rfl (lv_at hl 2 rfl) ?_
  obtain ⟨M4, hc3, h⟩ := o1_e h
  refine c_v X Z (c_SN (As := [.ref (A (58, i0, v2)), .ref (A a2)]) (rest := []) S X hN Z (t_X10_assign l N D dA A hJ ⟨(cl_58 (cl_X8_goneCounts hi0) hv2), rfl⟩ ha2 hc3) ⟨va_cnB 2 hts (cG (cB 104 rfl)) rfl rfl rfl (hN.2 ("ReplicaFiles$Tree", 47, yX10_assign, "ReplicaFiles") (by decide +kernel)) (hts (.initialized RX10) (cBc 107 rfl)) (by decide +kernel) ⟨Nat.le_of_ble_eq_true rfl, Nat.le_of_ble_eq_true rfl⟩, hts (.static yX10_assign) (cBc 106 rfl), trivial⟩ rfl hl.1 rfl (Nat.le_of_ble_eq_true rfl) dX8_setGone_14 ⟨Nat.zero_le _, Nat.zero_le _⟩) (fun H locs Z => ?_)
  have hy := Option.some.inj h
  subst hy
  exact g_rv S Z hr hlocks dX8_setGone_17
-- X1_dropRemoved (II)V: 19 instructions
theorem dX1_dropRemoved_0 : decode cX1_dropRemoved 0 = .ok (.aload_n 0, 1) := by decide +kernel
theorem dX1_dropRemoved_1 : decode cX1_dropRemoved 1 = .ok (.getfield 41, 3) := by decide +kernel
theorem dX1_dropRemoved_4 : decode cX1_dropRemoved 4 = .ok (.getfield 60, 3) := by decide +kernel
theorem dX1_dropRemoved_7 : decode cX1_dropRemoved 7 = .ok (.iload_n 1, 1) := by decide +kernel
theorem dX1_dropRemoved_8 : decode cX1_dropRemoved 8 = .ok (.baload, 1) := by decide +kernel
theorem dX1_dropRemoved_9 : decode cX1_dropRemoved 9 = .ok (.ifCond .eq 20, 3) := by decide +kernel
theorem dX1_dropRemoved_12 : decode cX1_dropRemoved 12 = .ok (.aload_n 0, 1) := by decide +kernel
theorem dX1_dropRemoved_13 : decode cX1_dropRemoved 13 = .ok (.getfield 41, 3) := by decide +kernel
theorem dX1_dropRemoved_16 : decode cX1_dropRemoved 16 = .ok (.iload_n 2, 1) := by decide +kernel
theorem dX1_dropRemoved_17 : decode cX1_dropRemoved 17 = .ok (.aload_n 0, 1) := by decide +kernel
theorem dX1_dropRemoved_18 : decode cX1_dropRemoved 18 = .ok (.getfield 41, 3) := by decide +kernel
theorem dX1_dropRemoved_21 : decode cX1_dropRemoved 21 = .ok (.getfield 118, 3) := by decide +kernel
theorem dX1_dropRemoved_24 : decode cX1_dropRemoved 24 = .ok (.iload_n 2, 1) := by decide +kernel
theorem dX1_dropRemoved_25 : decode cX1_dropRemoved 25 = .ok (.aaload, 1) := by decide +kernel
theorem dX1_dropRemoved_26 : decode cX1_dropRemoved 26 = .ok (.invokevirtual 122, 3) := by decide +kernel
theorem dX1_dropRemoved_29 : decode cX1_dropRemoved 29 = .ok (.aload_n 0, 1) := by decide +kernel
theorem dX1_dropRemoved_30 : decode cX1_dropRemoved 30 = .ok (.iload_n 2, 1) := by decide +kernel
theorem dX1_dropRemoved_31 : decode cX1_dropRemoved 31 = .ok (.invokevirtual 97, 3) := by decide +kernel
theorem dX1_dropRemoved_34 : decode cX1_dropRemoved 34 = .ok (.return_, 1) := by decide +kernel
abbrev wmX1_dropRemoved : List Cond := .code yX1_dropRemoved cX1_dropRemoved 3 none :: cBig
def f_X1_dropRemoved (N : Nat) (M : gM) (i0 : Nat) (a1 : Int32) (a2 : Int32) : Option gM :=
  rd M (51, (4 + i0), 0) 48 a1 (fun v1 => jn (fun (M2 : gM) => o1 (f_X1_drop N M2 i0 a2) (fun M4 => some M4)) (fun J29 => (if v1 = 0 then J29 M else ix a2 48 (fun v6 => o1 (f_X8_setGone N M (4 + i0) a2 (55, (4 + i0), v6)) (fun M8 => J29 M8)))))
set_option maxHeartbeats 4000000 in
set_option maxRecDepth 100000 in
theorem t_X1_dropRemoved (l : Launch) (N : Nat) (D : va_G) (dA : Nat → ClassId) (A : gI → Nat) (hJ : gJ (cLive N) A) {M : gM} {i0 : Nat} {a1 : Int32} {a2 : Int32} (hi0 : cLive N (30, i0, 0)) {y : gM} (h : f_X1_dropRemoved N M i0 a1 a2 = some y) : cMv l yX1_dropRemoved wmX1_dropRemoved ({ frames := 3, cells := 0, slots := 0, locals := 66 } : Room) N D dA A [.ref (A (30, i0, 0)), .int a1, .int a2] M y := by
  refine Met.ofW (cc := cX1_dropRemoved) (maxL := 3) (ret := none) (by decide) rfl ?_
  intro p e s m args below meth c s₁ B hml hv
  obtain ⟨rfl, hP, hK, hN⟩ := hv
  generalize hargs : ([.ref (A (30, i0, 0)), .int a1, .int a2] : List Value).toArray = args at B ⊢
  have S : CallFix p m c cX1_dropRemoved 3 s args wmX1_dropRemoved RX1 := ⟨B.exec, B.bytes, hml, findClass_of_methodNamed B.named, atoms_spec (ws := wmX1_dropRemoved) B.pre⟩
  obtain ⟨hx, hb, -, hown, hts⟩ := id S
  have hr := B.returns
  have hlocks := B.notSynchronized
  have X : gX D vwCl dA (cLive N) A (gA (cLive N) A) s := ⟨hK, hJ, fun i hi => ⟨i, hi, rfl⟩⟩
  have Z : gZ D (cLay N) dA (cLive N) A (gA (cLive N) A) s.heap M s.heap [] := ⟨hP, va_S.rf⟩
  have hin_X1 : ∀ w ∈ wsX10, w ∈ wmX1_dropRemoved := cin_X1
  have hin_X8 : ∀ w ∈ wsX80, w ∈ wmX1_dropRemoved := cin_X8
  have hl_41 := hts (.fieldLink RX1 41 "ReplicaFiles$Client" "tree" "LReplicaFiles$Tree;") (cBc 45 rfl)
  have hl_60 := va_Nw.use (A := args) rfl (hN.1 ("ReplicaFiles$Client", 60, "ReplicaFiles$Tree", "held", "[Z", "ReplicaFiles") (by decide +kernel))
  have hl_118 := va_Nw.use (A := args) rfl (hN.1 ("ReplicaFiles$Client", 118, "ReplicaFiles$Tree", "counts", "[[I", "ReplicaFiles") (by decide +kernel))
  have hl := lv_entry ([.ref (A (30, i0, 0)), .int a1, .int a2]) (n := 3) (Nat.le_of_ble_eq_true rfl)
  rw [← hargs, lg_entry_eq, hargs]
  generalize (lg_sl ([.ref (A (30, i0, 0)), .int a1, .int a2]) ++ List.replicate (3 - (lg_sl ([.ref (A (30, i0, 0)), .int a1, .int a2])).length) Slot.unset).toArray = ls at hl ⊢
  have hl : lv_has ls 3 [(0, .ref (A (30, i0, 0))), (1, .int a1), (2, .int a2)] := hl
  unfold f_X1_dropRemoved at h
  refine lv_aload_n hx hb dX1_dropRemoved_0 rfl (lv_at hl 0 rfl) ?_
  refine cr_X1_tree (a := i0) S X Z hin_X1 hi0 hl_41 dX1_dropRemoved_1 ?_
  refine cn_X8_held (a := (4 + i0)) S X Z hin_X8 (cl_ct hi0) hl_60 dX1_dropRemoved_4 ?_
  refine lv_iload_n hx hb dX1_dropRemoved_7 rfl (lv_at hl 1 rfl) ?_
  refine g_zald (i := (51, (4 + i0), 0)) (n := 48) S X Z (cl_X8_held (cl_ct hi0)) rfl dX1_dropRemoved_8 h (fun v1 h => ?_)
  obtain ⟨J29, eJ29, h⟩ := jn_e h
  have hJ29 : ∀ (M2 : gM) (H : Heap) (locs : List Loc) (ls : Array Slot), gZ D (cLay N) dA (cLive N) A (gA (cLive N) A) s.heap M2 H locs → lv_has ls 3 [(0, .ref (A (30, i0, 0))), (2, .int a2)] → J29 M2 = some y → W p l e (headSpec wmX1_dropRemoved ({ frames := 3, cells := 0, slots := 0, locals := 66 } : Room)).room s m args below meth c H locs 0 0 (MQ below (cQv N D dA A y) args s 0 0 (gA (cLive N) A)) (F0 m 29 ls []) := by
    intro M2 H locs ls Z hl h
    rw [eJ29] at h
    try dsimp only at h
    refine lv_aload_n hx hb dX1_dropRemoved_29 rfl (lv_at hl 0 rfl) ?_
    refine lv_iload_n hx hb dX1_dropRemoved_30 rfl (lv_at hl 1 rfl) ?_
    obtain ⟨M4, hc3, h⟩ := o1_e h
    refine c_v X Z (c_V (i := (30, i0, 0)) (As := [.int a2]) (rest := []) S X hN Z hi0 rfl rfl (t_X1_drop l N D dA A hJ hi0 hc3) (cwV 1 hts (cGV (cB 100 rfl) (cB 101 rfl) (cB 102 rfl) (cB 64 rfl) (cB 76 rfl)) rfl rfl rfl (by decide +kernel) ⟨Nat.le_of_ble_eq_true rfl, Nat.le_of_ble_eq_true rfl⟩) rfl hl.1 rfl (Nat.le_of_ble_eq_true rfl) dX1_dropRemoved_31 ⟨Nat.zero_le _, Nat.zero_le _⟩) (fun H locs Z => ?_)
    have hy := Option.some.inj h
    subst hy
    exact g_rv S Z hr hlocks dX1_dropRemoved_34
  refine lv_if_eq (tgt := 29) hx hb dX1_dropRemoved_9 (by decide) (fun c5 => ?_) (fun c5 => ?_)
  · have h := if_t c5 h
    exact hJ29 M _ _ _ Z (lv_sub hl [0, 2] rfl) h
  · have h := if_f c5 h
    refine lv_aload_n hx hb dX1_dropRemoved_12 rfl (lv_at hl 0 rfl) ?_
    refine cr_X1_tree (a := i0) S X Z hin_X1 hi0 hl_41 dX1_dropRemoved_13 ?_
    refine lv_iload_n hx hb dX1_dropRemoved_16 rfl (lv_at hl 2 rfl) ?_
    refine lv_aload_n hx hb dX1_dropRemoved_17 rfl (lv_at hl 0 rfl) ?_
    refine cr_X1_tree (a := i0) S X Z hin_X1 hi0 hl_41 dX1_dropRemoved_18 ?_
    refine cn_X8_counts (a := (4 + i0)) S X Z hin_X8 (cl_ct hi0) hl_118 dX1_dropRemoved_21 ?_
    refine lv_iload_n hx hb dX1_dropRemoved_24 rfl (lv_at hl 2 rfl) ?_
    refine g_aald (i := (54, (4 + i0), 0)) (ca := 5) ⟨rfl, rfl⟩ S X Z (cl_X8_counts (cl_ct hi0)) rfl dX1_dropRemoved_25 h (fun v6 hv6 h => ?_)
    obtain ⟨M8, hc7, h⟩ := o1_e h
    refine c_v X Z (c_V (i := (50, (4 + i0), 0)) (As := [.int a2, .ref (A (55, (4 + i0), v6))]) (rest := []) S X hN Z (cl_ct hi0) rfl rfl (t_X8_setGone l N D dA A hJ (cl_ct hi0) ⟨(cl_55 (cl_X8_counts (cl_ct hi0)) hv6), rfl⟩ hc7) (cwV 2 hts (cGV (cB 127 rfl) (cB 128 rfl) (cB 129 rfl) (cB 44 rfl) (cB 126 rfl)) rfl rfl rfl (by decide +kernel) ⟨Nat.le_of_ble_eq_true rfl, Nat.le_of_ble_eq_true rfl⟩) rfl hl.1 rfl (Nat.le_of_ble_eq_true rfl) dX1_dropRemoved_26 ⟨Nat.zero_le _, Nat.zero_le _⟩) (fun H locs Z => ?_)
    exact hJ29 M8 _ _ _ Z (lv_sub hl [0, 2] rfl) h
-- X3_indexOf (II)I: 24 instructions
theorem dX3_indexOf_0 : decode cX3_indexOf 0 = .ok (.iconst 0, 1) := by decide +kernel
theorem dX3_indexOf_1 : decode cX3_indexOf 1 = .ok (.istore_n 3, 1) := by decide +kernel
theorem dX3_indexOf_2 : decode cX3_indexOf 2 = .ok (.iload_n 3, 1) := by decide +kernel
theorem dX3_indexOf_3 : decode cX3_indexOf 3 = .ok (.aload_n 0, 1) := by decide +kernel
theorem dX3_indexOf_4 : decode cX3_indexOf 4 = .ok (.getfield 26, 3) := by decide +kernel
theorem dX3_indexOf_7 : decode cX3_indexOf 7 = .ok (.if_icmp .ge 31, 3) := by decide +kernel
theorem dX3_indexOf_10 : decode cX3_indexOf 10 = .ok (.aload_n 0, 1) := by decide +kernel
theorem dX3_indexOf_11 : decode cX3_indexOf 11 = .ok (.getfield 9, 3) := by decide +kernel
theorem dX3_indexOf_14 : decode cX3_indexOf 14 = .ok (.iload_n 3, 1) := by decide +kernel
theorem dX3_indexOf_15 : decode cX3_indexOf 15 = .ok (.iaload, 1) := by decide +kernel
theorem dX3_indexOf_16 : decode cX3_indexOf 16 = .ok (.iload_n 1, 1) := by decide +kernel
theorem dX3_indexOf_17 : decode cX3_indexOf 17 = .ok (.if_icmp .ne 15, 3) := by decide +kernel
theorem dX3_indexOf_20 : decode cX3_indexOf 20 = .ok (.aload_n 0, 1) := by decide +kernel
theorem dX3_indexOf_21 : decode cX3_indexOf 21 = .ok (.getfield 15, 3) := by decide +kernel
theorem dX3_indexOf_24 : decode cX3_indexOf 24 = .ok (.iload_n 3, 1) := by decide +kernel
theorem dX3_indexOf_25 : decode cX3_indexOf 25 = .ok (.iaload, 1) := by decide +kernel
theorem dX3_indexOf_26 : decode cX3_indexOf 26 = .ok (.iload_n 2, 1) := by decide +kernel
theorem dX3_indexOf_27 : decode cX3_indexOf 27 = .ok (.if_icmp .ne 5, 3) := by decide +kernel
theorem dX3_indexOf_30 : decode cX3_indexOf 30 = .ok (.iload_n 3, 1) := by decide +kernel
theorem dX3_indexOf_31 : decode cX3_indexOf 31 = .ok (.ireturn, 1) := by decide +kernel
theorem dX3_indexOf_32 : decode cX3_indexOf 32 = .ok (.iinc 3 1, 3) := by decide +kernel
theorem dX3_indexOf_35 : decode cX3_indexOf 35 = .ok (.goto (-33), 3) := by decide +kernel
theorem dX3_indexOf_38 : decode cX3_indexOf 38 = .ok (.iconst (-1), 1) := by decide +kernel
theorem dX3_indexOf_39 : decode cX3_indexOf 39 = .ok (.ireturn, 1) := by decide +kernel
abbrev wmX3_indexOf : List Cond := .code yX3_indexOf cX3_indexOf 4 (some .int) :: cBig
def f_X3_indexOf_L2 (N : Nat) (M2 : gM) (i0 : Nat) (a1 : Int32) (a2 : Int32) : Nat → Int32 → Option Int32
  | 0, _ => none
  | n3 + 1, x1 => lt (M2 (40, i0, 0) 4) (fun v4 => (if v4 ≤ x1 then some (-1 : Int32) else rd M2 (41, i0, 0) 12 x1 (fun v6 => jn (fun (_ : Unit) => lt (x1 + 1) (fun x7 => f_X3_indexOf_L2 N M2 i0 a1 a2 n3 x7)) (fun J32 => (if v6 = a1 then rd M2 (42, i0, 0) 12 x1 (fun v9 => (if v9 = a2 then some x1 else J32 ())) else J32 ())))))
def f_X3_indexOf (N : Nat) (M : gM) (i0 : Nat) (a1 : Int32) (a2 : Int32) : Option Int32 :=
  f_X3_indexOf_L2 N M i0 a1 a2 100 (0 : Int32)
set_option maxHeartbeats 4000000 in
set_option maxRecDepth 100000 in
theorem t_X3_indexOf (l : Launch) (N : Nat) (D : va_G) (dA : Nat → ClassId) (A : gI → Nat) (hJ : gJ (cLive N) A) {M : gM} {i0 : Nat} {a1 : Int32} {a2 : Int32} (hi0 : cLive N (40, i0, 0)) {y : Int32} (h : f_X3_indexOf N M i0 a1 a2 = some y) : cMi l yX3_indexOf wmX3_indexOf ({ frames := 0, cells := 0, slots := 0, locals := 0 } : Room) N D dA A [.ref (A (40, i0, 0)), .int a1, .int a2] M y M := by
  refine Met.ofW (cc := cX3_indexOf) (maxL := 4) (ret := (some .int)) (by decide) rfl ?_
  intro p e s m args below meth c s₁ B hml hv
  obtain ⟨rfl, hP, hK, hN⟩ := hv
  generalize hargs : ([.ref (A (40, i0, 0)), .int a1, .int a2] : List Value).toArray = args at B ⊢
  have S : CallFix p m c cX3_indexOf 4 s args wmX3_indexOf RX3 := ⟨B.exec, B.bytes, hml, findClass_of_methodNamed B.named, atoms_spec (ws := wmX3_indexOf) B.pre⟩
  obtain ⟨hx, hb, -, hown, hts⟩ := id S
  have hr := B.returns
  have hlocks := B.notSynchronized
  have X : gX D vwCl dA (cLive N) A (gA (cLive N) A) s := ⟨hK, hJ, fun i hi => ⟨i, hi, rfl⟩⟩
  have Z : gZ D (cLay N) dA (cLive N) A (gA (cLive N) A) s.heap M s.heap [] := ⟨hP, va_S.rf⟩
  have hin_X3 : ∀ w ∈ wsX30, w ∈ wmX3_indexOf := cin_X3
  have hl_9 := hts (.fieldLink RX3 9 "ReplicaFiles$Log" "kind" "[I") (cBc 29 rfl)
  have hl_15 := hts (.fieldLink RX3 15 "ReplicaFiles$Log" "object" "[I") (cBc 30 rfl)
  have hl_26 := hts (.fieldLink RX3 26 "ReplicaFiles$Log" "length" "I") (cBc 132 rfl)
  have hl := lv_entry ([.ref (A (40, i0, 0)), .int a1, .int a2]) (n := 4) (Nat.le_of_ble_eq_true rfl)
  rw [← hargs, lg_entry_eq, hargs]
  generalize (lg_sl ([.ref (A (40, i0, 0)), .int a1, .int a2]) ++ List.replicate (4 - (lg_sl ([.ref (A (40, i0, 0)), .int a1, .int a2])).length) Slot.unset).toArray = ls at hl ⊢
  have hl : lv_has ls 4 [(0, .ref (A (40, i0, 0))), (1, .int a1), (2, .int a2)] := hl
  unfold f_X3_indexOf at h
  refine lv_iconst (v := (0 : Int32)) hx hb dX3_indexOf_0 (by decide) ?_
  refine lv_istore_n (lv' := [(3, .int (0 : Int32)), (0, .ref (A (40, i0, 0))), (1, .int a1), (2, .int a2)]) hx hb dX3_indexOf_1 rfl hl (by decide) rfl (fun ls hl => ?_)
  have hL2 : ∀ (n : Nat) (x1 : Int32) (H : Heap) (locs : List Loc) (ls : Array Slot), gZ D (cLay N) dA (cLive N) A (gA (cLive N) A) s.heap M H locs → lv_has ls 4 [(0, .ref (A (40, i0, 0))), (1, .int a1), (2, .int a2), (3, .int x1)] → f_X3_indexOf_L2 N M i0 a1 a2 n x1 = some y → W p l e (headSpec wmX3_indexOf ({ frames := 0, cells := 0, slots := 0, locals := 0 } : Room)).room s m args below meth c H locs 0 0 (MQ below (cQi N D dA A (y, M)) args s 0 0 (gA (cLive N) A)) (F0 m 2 ls []) := by
    intro n
    induction n with
    | zero =>
      intro x1 H locs ls Z hl h
      rw [f_X3_indexOf_L2] at h
      cases h
    | succ n3 ih2 =>
      intro x1 H locs ls Z hl h
      rw [f_X3_indexOf_L2] at h
      refine lv_iload_n hx hb dX3_indexOf_2 rfl (lv_at hl 3 rfl) ?_
      refine lv_aload_n hx hb dX3_indexOf_3 rfl (lv_at hl 0 rfl) ?_
      refine cr_X3_length (a := i0) S X Z hin_X3 hi0 hl_26 dX3_indexOf_4 h (fun v4 h => ?_)
      refine lv_icmp_ge (tgt := 38) hx hb dX3_indexOf_7 (by decide) (fun c5 => ?_) (fun c5 => ?_)
      · have h := if_t c5 h
        refine lv_iconst (v := (-1 : Int32)) hx hb dX3_indexOf_38 (by decide) ?_
        have hy := Option.some.inj h
        subst hy
        exact g_ri S Z hr hlocks dX3_indexOf_39
      · have h := if_f c5 h
        refine lv_aload_n hx hb dX3_indexOf_10 rfl (lv_at hl 0 rfl) ?_
        refine cr_X3_kind (a := i0) S X Z hin_X3 hi0 hl_9 dX3_indexOf_11 ?_
        refine lv_iload_n hx hb dX3_indexOf_14 rfl (lv_at hl 3 rfl) ?_
        refine g_iald (i := (41, i0, 0)) (n := 12) S X Z (cl_X3_kind hi0) rfl dX3_indexOf_15 h (fun v6 h => ?_)
        refine lv_iload_n hx hb dX3_indexOf_16 rfl (lv_at hl 1 rfl) ?_
        obtain ⟨J32, eJ32, h⟩ := jn_e h
        have hJ32 : ∀  (H : Heap) (locs : List Loc) (ls : Array Slot), gZ D (cLay N) dA (cLive N) A (gA (cLive N) A) s.heap M H locs → lv_has ls 4 [(0, .ref (A (40, i0, 0))), (1, .int a1), (2, .int a2), (3, .int x1)] → J32 () = some y → W p l e (headSpec wmX3_indexOf ({ frames := 0, cells := 0, slots := 0, locals := 0 } : Room)).room s m args below meth c H locs 0 0 (MQ below (cQi N D dA A (y, M)) args s 0 0 (gA (cLive N) A)) (F0 m 32 ls []) := by
          intro  H locs ls Z hl h
          rw [eJ32] at h
          try dsimp only at h
          obtain ⟨x7, ex7, h⟩ := lt_e h
          refine lv_iinc (v := x7) (lv' := [(3, .int x7), (0, .ref (A (40, i0, 0))), (1, .int a1), (2, .int a2)]) hx hb dX3_indexOf_32 hl (k := 3) rfl (by rw [ex7]; rfl) (by decide) rfl (fun ls hl => ?_)
          refine lv_goto (tgt := 2) hx hb dX3_indexOf_35 (by decide) ?_
          exact ih2 x7 _ _ _ Z (lv_sub hl [1, 2, 3, 0] rfl) h
        refine lv_icmp_ne (tgt := 32) hx hb dX3_indexOf_17 (by decide) (fun c8 => ?_) (fun c8 => ?_)
        · have h := if_f c8 h
          exact hJ32  _ _ _ Z (lv_sub hl [0, 1, 2, 3] rfl) h
        · have h := if_t c8 h
          refine lv_aload_n hx hb dX3_indexOf_20 rfl (lv_at hl 0 rfl) ?_
          refine cr_X3_object (a := i0) S X Z hin_X3 hi0 hl_15 dX3_indexOf_21 ?_
          refine lv_iload_n hx hb dX3_indexOf_24 rfl (lv_at hl 3 rfl) ?_
          refine g_iald (i := (42, i0, 0)) (n := 12) S X Z (cl_X3_object hi0) rfl dX3_indexOf_25 h (fun v9 h => ?_)
          refine lv_iload_n hx hb dX3_indexOf_26 rfl (lv_at hl 2 rfl) ?_
          refine lv_icmp_ne (tgt := 32) hx hb dX3_indexOf_27 (by decide) (fun c10 => ?_) (fun c10 => ?_)
          · have h := if_f c10 h
            exact hJ32  _ _ _ Z (lv_sub hl [0, 1, 2, 3] rfl) h
          · have h := if_t c10 h
            refine lv_iload_n hx hb dX3_indexOf_30 rfl (lv_at hl 3 rfl) ?_
            have hy := Option.some.inj h
            subst hy
            exact g_ri S Z hr hlocks dX3_indexOf_31
  exact hL2 100 (0 : Int32) _ _ _ Z (lv_sub hl [1, 2, 3, 0] rfl) h
-- X3_isFull ()Z: 8 instructions
theorem dX3_isFull_0 : decode cX3_isFull 0 = .ok (.aload_n 0, 1) := by decide +kernel
theorem dX3_isFull_1 : decode cX3_isFull 1 = .ok (.getfield 26, 3) := by decide +kernel
theorem dX3_isFull_4 : decode cX3_isFull 4 = .ok (.bipush 12, 2) := by decide +kernel
theorem dX3_isFull_6 : decode cX3_isFull 6 = .ok (.if_icmp .lt 7, 3) := by decide +kernel
theorem dX3_isFull_9 : decode cX3_isFull 9 = .ok (.iconst 1, 1) := by decide +kernel
theorem dX3_isFull_10 : decode cX3_isFull 10 = .ok (.goto 4, 3) := by decide +kernel
theorem dX3_isFull_13 : decode cX3_isFull 13 = .ok (.iconst 0, 1) := by decide +kernel
theorem dX3_isFull_14 : decode cX3_isFull 14 = .ok (.ireturn, 1) := by decide +kernel
abbrev wmX3_isFull : List Cond := .code yX3_isFull cX3_isFull 1 (some .boolean) :: cBig
def f_X3_isFull (N : Nat) (M : gM) (i0 : Nat) : Option Int32 :=
  lt (M (40, i0, 0) 4) (fun v1 => (if v1 < (12 : Int32) then some (0 : Int32) else some (1 : Int32)))
set_option maxHeartbeats 4000000 in
set_option maxRecDepth 100000 in
theorem t_X3_isFull (l : Launch) (N : Nat) (D : va_G) (dA : Nat → ClassId) (A : gI → Nat) (hJ : gJ (cLive N) A) {M : gM} {i0 : Nat} (hi0 : cLive N (40, i0, 0)) {y : Int32} (h : f_X3_isFull N M i0 = some y) : cMi l yX3_isFull wmX3_isFull ({ frames := 0, cells := 0, slots := 0, locals := 0 } : Room) N D dA A [.ref (A (40, i0, 0))] M y M := by
  refine Met.ofW (cc := cX3_isFull) (maxL := 1) (ret := (some .boolean)) (by decide) rfl ?_
  intro p e s m args below meth c s₁ B hml hv
  obtain ⟨rfl, hP, hK, hN⟩ := hv
  generalize hargs : ([.ref (A (40, i0, 0))] : List Value).toArray = args at B ⊢
  have S : CallFix p m c cX3_isFull 1 s args wmX3_isFull RX3 := ⟨B.exec, B.bytes, hml, findClass_of_methodNamed B.named, atoms_spec (ws := wmX3_isFull) B.pre⟩
  obtain ⟨hx, hb, -, hown, hts⟩ := id S
  have hr := B.returns
  have hlocks := B.notSynchronized
  have X : gX D vwCl dA (cLive N) A (gA (cLive N) A) s := ⟨hK, hJ, fun i hi => ⟨i, hi, rfl⟩⟩
  have Z : gZ D (cLay N) dA (cLive N) A (gA (cLive N) A) s.heap M s.heap [] := ⟨hP, va_S.rf⟩
  have hin_X3 : ∀ w ∈ wsX30, w ∈ wmX3_isFull := cin_X3
  have hl_26 := hts (.fieldLink RX3 26 "ReplicaFiles$Log" "length" "I") (cBc 132 rfl)
  have hl := lv_entry ([.ref (A (40, i0, 0))]) (n := 1) (Nat.le_of_ble_eq_true rfl)
  rw [← hargs, lg_entry_eq, hargs]
  generalize (lg_sl ([.ref (A (40, i0, 0))]) ++ List.replicate (1 - (lg_sl ([.ref (A (40, i0, 0))])).length) Slot.unset).toArray = ls at hl ⊢
  have hl : lv_has ls 1 [(0, .ref (A (40, i0, 0)))] := hl
  unfold f_X3_isFull at h
  refine lv_aload_n hx hb dX3_isFull_0 rfl (lv_at hl 0 rfl) ?_
  refine cr_X3_length (a := i0) S X Z hin_X3 hi0 hl_26 dX3_isFull_1 h (fun v1 h => ?_)
  refine lv_bipush (v := (12 : Int32)) hx hb dX3_isFull_4 (by decide) ?_
  refine lv_icmp_lt (tgt := 13) hx hb dX3_isFull_6 (by decide) (fun c2 => ?_) (fun c2 => ?_)
  · have h := if_t c2 h
    refine lv_iconst (v := (0 : Int32)) hx hb dX3_isFull_13 (by decide) ?_
    have hy := Option.some.inj h
    subst hy
    exact g_rz (Or.inl rfl) S Z hr hlocks dX3_isFull_14
  · have h := if_f c2 h
    refine lv_iconst (v := (1 : Int32)) hx hb dX3_isFull_9 (by decide) ?_
    refine lv_goto (tgt := 14) hx hb dX3_isFull_10 (by decide) ?_
    have hy := Option.some.inj h
    subst hy
    exact g_rz (Or.inr rfl) S Z hr hlocks dX3_isFull_14
-- X3_add (III[I)V: 36 instructions
theorem dX3_add_0 : decode cX3_add 0 = .ok (.aload_n 0, 1) := by decide +kernel
theorem dX3_add_1 : decode cX3_add 1 = .ok (.invokevirtual 30, 3) := by decide +kernel
theorem dX3_add_4 : decode cX3_add 4 = .ok (.ifCond .eq 4, 3) := by decide +kernel
theorem dX3_add_7 : decode cX3_add 7 = .ok (.return_, 1) := by decide +kernel
theorem dX3_add_8 : decode cX3_add 8 = .ok (.aload_n 0, 1) := by decide +kernel
theorem dX3_add_9 : decode cX3_add 9 = .ok (.getfield 9, 3) := by decide +kernel
theorem dX3_add_12 : decode cX3_add 12 = .ok (.aload_n 0, 1) := by decide +kernel
theorem dX3_add_13 : decode cX3_add 13 = .ok (.getfield 26, 3) := by decide +kernel
theorem dX3_add_16 : decode cX3_add 16 = .ok (.iload_n 1, 1) := by decide +kernel
theorem dX3_add_17 : decode cX3_add 17 = .ok (.iastore, 1) := by decide +kernel
theorem dX3_add_18 : decode cX3_add 18 = .ok (.aload_n 0, 1) := by decide +kernel
theorem dX3_add_19 : decode cX3_add 19 = .ok (.getfield 15, 3) := by decide +kernel
theorem dX3_add_22 : decode cX3_add 22 = .ok (.aload_n 0, 1) := by decide +kernel
theorem dX3_add_23 : decode cX3_add 23 = .ok (.getfield 26, 3) := by decide +kernel
theorem dX3_add_26 : decode cX3_add 26 = .ok (.iload_n 2, 1) := by decide +kernel
theorem dX3_add_27 : decode cX3_add 27 = .ok (.iastore, 1) := by decide +kernel
theorem dX3_add_28 : decode cX3_add 28 = .ok (.aload_n 0, 1) := by decide +kernel
theorem dX3_add_29 : decode cX3_add 29 = .ok (.getfield 18, 3) := by decide +kernel
theorem dX3_add_32 : decode cX3_add 32 = .ok (.aload_n 0, 1) := by decide +kernel
theorem dX3_add_33 : decode cX3_add 33 = .ok (.getfield 26, 3) := by decide +kernel
theorem dX3_add_36 : decode cX3_add 36 = .ok (.iload_n 3, 1) := by decide +kernel
theorem dX3_add_37 : decode cX3_add 37 = .ok (.iastore, 1) := by decide +kernel
theorem dX3_add_38 : decode cX3_add 38 = .ok (.aload_n 0, 1) := by decide +kernel
theorem dX3_add_39 : decode cX3_add 39 = .ok (.getfield 23, 3) := by decide +kernel
theorem dX3_add_42 : decode cX3_add 42 = .ok (.aload_n 0, 1) := by decide +kernel
theorem dX3_add_43 : decode cX3_add 43 = .ok (.getfield 26, 3) := by decide +kernel
theorem dX3_add_46 : decode cX3_add 46 = .ok (.aaload, 1) := by decide +kernel
theorem dX3_add_47 : decode cX3_add 47 = .ok (.aload 4, 2) := by decide +kernel
theorem dX3_add_49 : decode cX3_add 49 = .ok (.invokestatic 34, 3) := by decide +kernel
theorem dX3_add_52 : decode cX3_add 52 = .ok (.aload_n 0, 1) := by decide +kernel
theorem dX3_add_53 : decode cX3_add 53 = .ok (.dup, 1) := by decide +kernel
theorem dX3_add_54 : decode cX3_add 54 = .ok (.getfield 26, 3) := by decide +kernel
theorem dX3_add_57 : decode cX3_add 57 = .ok (.iconst 1, 1) := by decide +kernel
theorem dX3_add_58 : decode cX3_add 58 = .ok (.iadd, 1) := by decide +kernel
theorem dX3_add_59 : decode cX3_add 59 = .ok (.putfield 26, 3) := by decide +kernel
theorem dX3_add_62 : decode cX3_add 62 = .ok (.return_, 1) := by decide +kernel
abbrev wmX3_add : List Cond := .code yX3_add cX3_add 5 none :: cBig
def f_X3_add (N : Nat) (M : gM) (i0 : Nat) (a1 : Int32) (a2 : Int32) (a3 : Int32) (a4 : gI) : Option gM :=
  o1 (f_X3_isFull N M i0) (fun v2 => (if v2 = 0 then lt (M (40, i0, 0) 4) (fun v4 => wr M (41, i0, 0) 12 v4 a1 (fun M5 => lt (M5 (40, i0, 0) 4) (fun v6 => wr M5 (42, i0, 0) 12 v6 a2 (fun M7 => lt (M7 (40, i0, 0) 4) (fun v8 => wr M7 (43, i0, 0) 12 v8 a3 (fun M9 => lt (M9 (40, i0, 0) 4) (fun v10 => ix v10 12 (fun v11 => o1 (f_X10_assign N M9 (45, i0, v11) a4) (fun M13 => lt (M13 (40, i0, 0) 4) (fun v14 => lt (gset M13 (40, i0, 0) 4 (v14 + (1 : Int32))) (fun M15 => some M15))))))))))) else some M))
set_option maxHeartbeats 4000000 in
set_option maxRecDepth 100000 in
theorem t_X3_add (l : Launch) (N : Nat) (D : va_G) (dA : Nat → ClassId) (A : gI → Nat) (hJ : gJ (cLive N) A) {M : gM} {i0 : Nat} {a1 : Int32} {a2 : Int32} {a3 : Int32} {a4 : gI} (hi0 : cLive N (40, i0, 0)) (ha4 : cArr N a4) {y : gM} (h : f_X3_add N M i0 a1 a2 a3 a4 = some y) : cMv l yX3_add wmX3_add ({ frames := 1, cells := 0, slots := 0, locals := 22 } : Room) N D dA A [.ref (A (40, i0, 0)), .int a1, .int a2, .int a3, .ref (A a4)] M y := by
  refine Met.ofW (cc := cX3_add) (maxL := 5) (ret := none) (by decide) rfl ?_
  intro p e s m args below meth c s₁ B hml hv
  obtain ⟨rfl, hP, hK, hN⟩ := hv
  generalize hargs : ([.ref (A (40, i0, 0)), .int a1, .int a2, .int a3, .ref (A a4)] : List Value).toArray = args at B ⊢
  have S : CallFix p m c cX3_add 5 s args wmX3_add RX3 := ⟨B.exec, B.bytes, hml, findClass_of_methodNamed B.named, atoms_spec (ws := wmX3_add) B.pre⟩
  obtain ⟨hx, hb, -, hown, hts⟩ := id S
  have hr := B.returns
  have hlocks := B.notSynchronized
  have X : gX D vwCl dA (cLive N) A (gA (cLive N) A) s := ⟨hK, hJ, fun i hi => ⟨i, hi, rfl⟩⟩
  have Z : gZ D (cLay N) dA (cLive N) A (gA (cLive N) A) s.heap M s.heap [] := ⟨hP, va_S.rf⟩
  have hin_X3 : ∀ w ∈ wsX30, w ∈ wmX3_add := cin_X3
  have hl_9 := hts (.fieldLink RX3 9 "ReplicaFiles$Log" "kind" "[I") (cBc 29 rfl)
  have hl_15 := hts (.fieldLink RX3 15 "ReplicaFiles$Log" "object" "[I") (cBc 30 rfl)
  have hl_18 := hts (.fieldLink RX3 18 "ReplicaFiles$Log" "directory" "[I") (cBc 31 rfl)
  have hl_23 := hts (.fieldLink RX3 23 "ReplicaFiles$Log" "counts" "[[I") (cBc 33 rfl)
  have hl_26 := hts (.fieldLink RX3 26 "ReplicaFiles$Log" "length" "I") (cBc 132 rfl)
  have hl := lv_entry ([.ref (A (40, i0, 0)), .int a1, .int a2, .int a3, .ref (A a4)]) (n := 5) (Nat.le_of_ble_eq_true rfl)
  rw [← hargs, lg_entry_eq, hargs]
  generalize (lg_sl ([.ref (A (40, i0, 0)), .int a1, .int a2, .int a3, .ref (A a4)]) ++ List.replicate (5 - (lg_sl ([.ref (A (40, i0, 0)), .int a1, .int a2, .int a3, .ref (A a4)])).length) Slot.unset).toArray = ls at hl ⊢
  have hl : lv_has ls 5 [(0, .ref (A (40, i0, 0))), (1, .int a1), (2, .int a2), (3, .int a3), (4, .ref (A a4))] := hl
  unfold f_X3_add at h
  refine lv_aload_n hx hb dX3_add_0 rfl (lv_at hl 0 rfl) ?_
  obtain ⟨v2, hc1, h⟩ := o1_e h
  refine c_i X Z (c_V (i := (40, i0, 0)) (As := []) (rest := []) S X hN Z hi0 rfl rfl (t_X3_isFull l N D dA A hJ hi0 hc1) (cwV 0 hts (cGV (cB 135 rfl) (cB 136 rfl) (cB 137 rfl) (cB 48 rfl) (cB 133 rfl)) rfl rfl rfl (by decide +kernel) ⟨Nat.le_of_ble_eq_true rfl, Nat.le_of_ble_eq_true rfl⟩) rfl hl.1 rfl (Nat.le_of_ble_eq_true rfl) dX3_add_1 ⟨Nat.zero_le _, Nat.zero_le _⟩) (fun H locs Z => ?_)
  refine lv_if_eq (tgt := 8) hx hb dX3_add_4 (by decide) (fun c3 => ?_) (fun c3 => ?_)
  · have h := if_t c3 h
    refine lv_aload_n hx hb dX3_add_8 rfl (lv_at hl 0 rfl) ?_
    refine cr_X3_kind (a := i0) S X Z hin_X3 hi0 hl_9 dX3_add_9 ?_
    refine lv_aload_n hx hb dX3_add_12 rfl (lv_at hl 0 rfl) ?_
    refine cr_X3_length (a := i0) S X Z hin_X3 hi0 hl_26 dX3_add_13 h (fun v4 h => ?_)
    refine lv_iload_n hx hb dX3_add_16 rfl (lv_at hl 1 rfl) ?_
    refine g_iast (i := (41, i0, 0)) (n := 12) S X Z (cl_X3_kind hi0) rfl dX3_add_17 h (fun M5 H locs Z h => ?_)
    refine lv_aload_n hx hb dX3_add_18 rfl (lv_at hl 0 rfl) ?_
    refine cr_X3_object (a := i0) S X Z hin_X3 hi0 hl_15 dX3_add_19 ?_
    refine lv_aload_n hx hb dX3_add_22 rfl (lv_at hl 0 rfl) ?_
    refine cr_X3_length (a := i0) S X Z hin_X3 hi0 hl_26 dX3_add_23 h (fun v6 h => ?_)
    refine lv_iload_n hx hb dX3_add_26 rfl (lv_at hl 2 rfl) ?_
    refine g_iast (i := (42, i0, 0)) (n := 12) S X Z (cl_X3_object hi0) rfl dX3_add_27 h (fun M7 H locs Z h => ?_)
    refine lv_aload_n hx hb dX3_add_28 rfl (lv_at hl 0 rfl) ?_
    refine cr_X3_directory (a := i0) S X Z hin_X3 hi0 hl_18 dX3_add_29 ?_
    refine lv_aload_n hx hb dX3_add_32 rfl (lv_at hl 0 rfl) ?_
    refine cr_X3_length (a := i0) S X Z hin_X3 hi0 hl_26 dX3_add_33 h (fun v8 h => ?_)
    refine lv_iload_n hx hb dX3_add_36 rfl (lv_at hl 3 rfl) ?_
    refine g_iast (i := (43, i0, 0)) (n := 12) S X Z (cl_X3_directory hi0) rfl dX3_add_37 h (fun M9 H locs Z h => ?_)
    refine lv_aload_n hx hb dX3_add_38 rfl (lv_at hl 0 rfl) ?_
    refine cr_X3_counts (a := i0) S X Z hin_X3 hi0 hl_23 dX3_add_39 ?_
    refine lv_aload_n hx hb dX3_add_42 rfl (lv_at hl 0 rfl) ?_
    refine cr_X3_length (a := i0) S X Z hin_X3 hi0 hl_26 dX3_add_43 h (fun v10 h => ?_)
    refine g_aald (i := (44, i0, 0)) (ca := 5) ⟨rfl, rfl⟩ S X Z (cl_X3_counts hi0) rfl dX3_add_46 h (fun v11 hv11 h => ?_)
    refine lv_aload hx hb dX3_add_47 (lv_at hl 4 rfl) ?_
    obtain ⟨M13, hc12, h⟩ := o1_e h
    refine c_v X Z (c_SN (As := [.ref (A (45, i0, v11)), .ref (A a4)]) (rest := []) S X hN Z (t_X10_assign l N D dA A hJ ⟨(cl_45 (cl_X3_counts hi0) hv11), rfl⟩ ha4 hc12) ⟨va_cnB 2 hts (cG (cB 104 rfl)) rfl rfl rfl (hN.2 ("ReplicaFiles$Log", 34, yX10_assign, "ReplicaFiles") (by decide +kernel)) (hts (.initialized RX10) (cBc 107 rfl)) (by decide +kernel) ⟨Nat.le_of_ble_eq_true rfl, Nat.le_of_ble_eq_true rfl⟩, hts (.static yX10_assign) (cBc 106 rfl), trivial⟩ rfl hl.1 rfl (Nat.le_of_ble_eq_true rfl) dX3_add_49 ⟨Nat.zero_le _, Nat.zero_le _⟩) (fun H locs Z => ?_)
    refine lv_aload_n hx hb dX3_add_52 rfl (lv_at hl 0 rfl) ?_
    refine lv_dup hx hb dX3_add_53 rfl ?_
    refine cr_X3_length (a := i0) S X Z hin_X3 hi0 hl_26 dX3_add_54 h (fun v14 h => ?_)
    refine lv_iconst (v := (1 : Int32)) hx hb dX3_add_57 (by decide) ?_
    refine lv_iadd hx hb dX3_add_58 ?_
    refine cp_X3_length (a := i0) S X Z hin_X3 hi0 hl_26 dX3_add_59 h (fun M15 H locs Z h => ?_)
    have hy := Option.some.inj h
    subst hy
    exact g_rv S Z hr hlocks dX3_add_62
  · have h := if_f c3 h
    have hy := Option.some.inj h
    subst hy
    exact g_rv S Z hr hlocks dX3_add_7
-- X1_writeAlone (III)J: 58 instructions
theorem dX1_writeAlone_0 : decode cX1_writeAlone 0 = .ok (.aload_n 0, 1) := by decide +kernel
theorem dX1_writeAlone_1 : decode cX1_writeAlone 1 = .ok (.getfield 50, 3) := by decide +kernel
theorem dX1_writeAlone_4 : decode cX1_writeAlone 4 = .ok (.iconst 0, 1) := by decide +kernel
theorem dX1_writeAlone_5 : decode cX1_writeAlone 5 = .ok (.iload_n 1, 1) := by decide +kernel
theorem dX1_writeAlone_6 : decode cX1_writeAlone 6 = .ok (.invokevirtual 126, 3) := by decide +kernel
theorem dX1_writeAlone_9 : decode cX1_writeAlone 9 = .ok (.iconst (-1), 1) := by decide +kernel
theorem dX1_writeAlone_10 : decode cX1_writeAlone 10 = .ok (.if_icmp .ne 7, 3) := by decide +kernel
theorem dX1_writeAlone_13 : decode cX1_writeAlone 13 = .ok (.iconst 1, 1) := by decide +kernel
theorem dX1_writeAlone_14 : decode cX1_writeAlone 14 = .ok (.goto 4, 3) := by decide +kernel
theorem dX1_writeAlone_17 : decode cX1_writeAlone 17 = .ok (.iconst 0, 1) := by decide +kernel
theorem dX1_writeAlone_18 : decode cX1_writeAlone 18 = .ok (.istore 4, 2) := by decide +kernel
theorem dX1_writeAlone_20 : decode cX1_writeAlone 20 = .ok (.iload 4, 2) := by decide +kernel
theorem dX1_writeAlone_22 : decode cX1_writeAlone 22 = .ok (.ifCond .eq 17, 3) := by decide +kernel
theorem dX1_writeAlone_25 : decode cX1_writeAlone 25 = .ok (.aload_n 0, 1) := by decide +kernel
theorem dX1_writeAlone_26 : decode cX1_writeAlone 26 = .ok (.getfield 50, 3) := by decide +kernel
theorem dX1_writeAlone_29 : decode cX1_writeAlone 29 = .ok (.invokevirtual 129, 3) := by decide +kernel
theorem dX1_writeAlone_32 : decode cX1_writeAlone 32 = .ok (.ifCond .eq 7, 3) := by decide +kernel
theorem dX1_writeAlone_35 : decode cX1_writeAlone 35 = .ok (.ldc2_w 133, 3) := by decide +kernel
theorem dX1_writeAlone_38 : decode cX1_writeAlone 38 = .ok (.lreturn, 1) := by decide +kernel
theorem dX1_writeAlone_39 : decode cX1_writeAlone 39 = .ok (.aload_n 0, 1) := by decide +kernel
theorem dX1_writeAlone_40 : decode cX1_writeAlone 40 = .ok (.iload_n 3, 1) := by decide +kernel
theorem dX1_writeAlone_41 : decode cX1_writeAlone 41 = .ok (.aload_n 0, 1) := by decide +kernel
theorem dX1_writeAlone_42 : decode cX1_writeAlone 42 = .ok (.getfield 41, 3) := by decide +kernel
theorem dX1_writeAlone_45 : decode cX1_writeAlone 45 = .ok (.getfield 71, 3) := by decide +kernel
theorem dX1_writeAlone_48 : decode cX1_writeAlone 48 = .ok (.iload_n 1, 1) := by decide +kernel
theorem dX1_writeAlone_49 : decode cX1_writeAlone 49 = .ok (.iaload, 1) := by decide +kernel
theorem dX1_writeAlone_50 : decode cX1_writeAlone 50 = .ok (.isub, 1) := by decide +kernel
theorem dX1_writeAlone_51 : decode cX1_writeAlone 51 = .ok (.bipush 10, 2) := by decide +kernel
theorem dX1_writeAlone_53 : decode cX1_writeAlone 53 = .ok (.invokevirtual 101, 3) := by decide +kernel
theorem dX1_writeAlone_56 : decode cX1_writeAlone 56 = .ok (.ifCond .ne 7, 3) := by decide +kernel
theorem dX1_writeAlone_59 : decode cX1_writeAlone 59 = .ok (.ldc2_w 135, 3) := by decide +kernel
theorem dX1_writeAlone_62 : decode cX1_writeAlone 62 = .ok (.lreturn, 1) := by decide +kernel
theorem dX1_writeAlone_63 : decode cX1_writeAlone 63 = .ok (.iload 4, 2) := by decide +kernel
theorem dX1_writeAlone_65 : decode cX1_writeAlone 65 = .ok (.ifCond .eq 22, 3) := by decide +kernel
theorem dX1_writeAlone_68 : decode cX1_writeAlone 68 = .ok (.aload_n 0, 1) := by decide +kernel
theorem dX1_writeAlone_69 : decode cX1_writeAlone 69 = .ok (.getfield 50, 3) := by decide +kernel
theorem dX1_writeAlone_72 : decode cX1_writeAlone 72 = .ok (.iconst 0, 1) := by decide +kernel
theorem dX1_writeAlone_73 : decode cX1_writeAlone 73 = .ok (.iload_n 1, 1) := by decide +kernel
theorem dX1_writeAlone_74 : decode cX1_writeAlone 74 = .ok (.iconst (-1), 1) := by decide +kernel
theorem dX1_writeAlone_75 : decode cX1_writeAlone 75 = .ok (.aload_n 0, 1) := by decide +kernel
theorem dX1_writeAlone_76 : decode cX1_writeAlone 76 = .ok (.getfield 41, 3) := by decide +kernel
theorem dX1_writeAlone_79 : decode cX1_writeAlone 79 = .ok (.getfield 118, 3) := by decide +kernel
theorem dX1_writeAlone_82 : decode cX1_writeAlone 82 = .ok (.iload_n 1, 1) := by decide +kernel
theorem dX1_writeAlone_83 : decode cX1_writeAlone 83 = .ok (.aaload, 1) := by decide +kernel
theorem dX1_writeAlone_84 : decode cX1_writeAlone 84 = .ok (.invokevirtual 137, 3) := by decide +kernel
theorem dX1_writeAlone_87 : decode cX1_writeAlone 87 = .ok (.aload_n 0, 1) := by decide +kernel
theorem dX1_writeAlone_88 : decode cX1_writeAlone 88 = .ok (.getfield 41, 3) := by decide +kernel
theorem dX1_writeAlone_91 : decode cX1_writeAlone 91 = .ok (.iload_n 1, 1) := by decide +kernel
theorem dX1_writeAlone_92 : decode cX1_writeAlone 92 = .ok (.iload_n 2, 1) := by decide +kernel
theorem dX1_writeAlone_93 : decode cX1_writeAlone 93 = .ok (.iload_n 3, 1) := by decide +kernel
theorem dX1_writeAlone_94 : decode cX1_writeAlone 94 = .ok (.invokevirtual 108, 3) := by decide +kernel
theorem dX1_writeAlone_97 : decode cX1_writeAlone 97 = .ok (.aload_n 0, 1) := by decide +kernel
theorem dX1_writeAlone_98 : decode cX1_writeAlone 98 = .ok (.getfield 18, 3) := by decide +kernel
theorem dX1_writeAlone_101 : decode cX1_writeAlone 101 = .ok (.iload_n 1, 1) := by decide +kernel
theorem dX1_writeAlone_102 : decode cX1_writeAlone 102 = .ok (.iconst 1, 1) := by decide +kernel
theorem dX1_writeAlone_103 : decode cX1_writeAlone 103 = .ok (.bastore, 1) := by decide +kernel
theorem dX1_writeAlone_104 : decode cX1_writeAlone 104 = .ok (.lconst 0, 1) := by decide +kernel
theorem dX1_writeAlone_105 : decode cX1_writeAlone 105 = .ok (.lreturn, 1) := by decide +kernel
abbrev wmX1_writeAlone : List Cond := .code yX1_writeAlone cX1_writeAlone 5 (some .long) :: cBig
def f_X1_writeAlone (N : Nat) (M : gM) (i0 : Nat) (a1 : Int32) (a2 : Int32) (a3 : Int32) : Option (Int64 × gM) :=
  o1 (f_X3_indexOf N M i0 (0 : Int32) a1) (fun v2 => jn (fun (q : (Int32 × gM)) => match q with | (b3, M4) => jn (fun (M5 : gM) => rd M5 (53, (4 + i0), 0) 48 a1 (fun v6 => ob (f_X1_makeRoom N M5 i0 (a3 - v6) (10 : Int32)) (fun v9 M8 => (if v9 = 0 then some ((-2199023255558 : Int64), M8) else jn (fun (M11 : gM) => o1 (f_X8_setFile N M11 (4 + i0) a1 a2 a3) (fun M13 => wz M13 (33, i0, 0) 48 a1 (1 : Int32) (fun M14 => some ((0 : Int64), M14)))) (fun J87 => (if b3 = 0 then J87 M8 else ix a1 48 (fun v16 => o1 (f_X3_add N M8 i0 (0 : Int32) a1 (-1 : Int32) (55, (4 + i0), v16)) (fun M18 => J87 M18)))))))) (fun J39 => (if b3 = 0 then J39 M4 else o1 (f_X3_isFull N M4 i0) (fun v21 => (if v21 = 0 then J39 M4 else some ((-2199023255557 : Int64), M4)))))) (fun J18 => (if v2 = (-1 : Int32) then J18 ((1 : Int32), M) else J18 ((0 : Int32), M))))
set_option maxHeartbeats 4000000 in
set_option maxRecDepth 100000 in
theorem t_X1_writeAlone (l : Launch) (N : Nat) (D : va_G) (dA : Nat → ClassId) (A : gI → Nat) (hJ : gJ (cLive N) A) {M : gM} {i0 : Nat} {a1 : Int32} {a2 : Int32} {a3 : Int32} (hi0 : cLive N (30, i0, 0)) {y : (Int64 × gM)} (h : f_X1_writeAlone N M i0 a1 a2 a3 = some y) : cMl l yX1_writeAlone wmX1_writeAlone ({ frames := 4, cells := 0, slots := 0, locals := 92 } : Room) N D dA A [.ref (A (30, i0, 0)), .int a1, .int a2, .int a3] M y.1 y.2 := by
  refine Met.ofW (cc := cX1_writeAlone) (maxL := 5) (ret := (some .long)) (by decide) rfl ?_
  intro p e s m args below meth c s₁ B hml hv
  obtain ⟨rfl, hP, hK, hN⟩ := hv
  generalize hargs : ([.ref (A (30, i0, 0)), .int a1, .int a2, .int a3] : List Value).toArray = args at B ⊢
  have S : CallFix p m c cX1_writeAlone 5 s args wmX1_writeAlone RX1 := ⟨B.exec, B.bytes, hml, findClass_of_methodNamed B.named, atoms_spec (ws := wmX1_writeAlone) B.pre⟩
  obtain ⟨hx, hb, -, hown, hts⟩ := id S
  have hr := B.returns
  have hlocks := B.notSynchronized
  have X : gX D vwCl dA (cLive N) A (gA (cLive N) A) s := ⟨hK, hJ, fun i hi => ⟨i, hi, rfl⟩⟩
  have Z : gZ D (cLay N) dA (cLive N) A (gA (cLive N) A) s.heap M s.heap [] := ⟨hP, va_S.rf⟩
  have hin_X1 : ∀ w ∈ wsX10, w ∈ wmX1_writeAlone := cin_X1
  have hin_X8 : ∀ w ∈ wsX80, w ∈ wmX1_writeAlone := cin_X8
  have hl_18 := hts (.fieldLink RX1 18 "ReplicaFiles$Client" "dirty" "[Z") (cBc 37 rfl)
  have hl_41 := hts (.fieldLink RX1 41 "ReplicaFiles$Client" "tree" "LReplicaFiles$Tree;") (cBc 45 rfl)
  have hl_50 := hts (.fieldLink RX1 50 "ReplicaFiles$Client" "log" "LReplicaFiles$Log;") (cBc 49 rfl)
  have hl_71 := va_Nw.use (A := args) rfl (hN.1 ("ReplicaFiles$Client", 71, "ReplicaFiles$Tree", "size", "[I", "ReplicaFiles") (by decide +kernel))
  have hl_118 := va_Nw.use (A := args) rfl (hN.1 ("ReplicaFiles$Client", 118, "ReplicaFiles$Tree", "counts", "[[I", "ReplicaFiles") (by decide +kernel))
  have hc_133 := hts (.constantLong RX1 133 (-2199023255557)) (cBc 138 rfl)
  have hc_135 := hts (.constantLong RX1 135 (-2199023255558)) (cBc 139 rfl)
  have hl := lv_entry ([.ref (A (30, i0, 0)), .int a1, .int a2, .int a3]) (n := 5) (Nat.le_of_ble_eq_true rfl)
  rw [← hargs, lg_entry_eq, hargs]
  generalize (lg_sl ([.ref (A (30, i0, 0)), .int a1, .int a2, .int a3]) ++ List.replicate (5 - (lg_sl ([.ref (A (30, i0, 0)), .int a1, .int a2, .int a3])).length) Slot.unset).toArray = ls at hl ⊢
  have hl : lv_has ls 5 [(0, .ref (A (30, i0, 0))), (1, .int a1), (2, .int a2), (3, .int a3)] := hl
  unfold f_X1_writeAlone at h
  refine lv_aload_n hx hb dX1_writeAlone_0 rfl (lv_at hl 0 rfl) ?_
  refine cr_X1_log (a := i0) S X Z hin_X1 hi0 hl_50 dX1_writeAlone_1 ?_
  refine lv_iconst (v := (0 : Int32)) hx hb dX1_writeAlone_4 (by decide) ?_
  refine lv_iload_n hx hb dX1_writeAlone_5 rfl (lv_at hl 1 rfl) ?_
  obtain ⟨v2, hc1, h⟩ := o1_e h
  refine c_i X Z (c_V (i := (40, i0, 0)) (As := [.int (0 : Int32), .int a1]) (rest := []) S X hN Z (cl_X1_log hi0) rfl rfl (t_X3_indexOf l N D dA A hJ (cl_X1_log hi0) hc1) (cwV 2 hts (cGV (cB 140 rfl) (cB 141 rfl) (cB 142 rfl) (cB 48 rfl) (cB 131 rfl)) rfl rfl rfl (by decide +kernel) ⟨Nat.le_of_ble_eq_true rfl, Nat.le_of_ble_eq_true rfl⟩) rfl hl.1 rfl (Nat.le_of_ble_eq_true rfl) dX1_writeAlone_6 ⟨Nat.zero_le _, Nat.zero_le _⟩) (fun H locs Z => ?_)
  refine lv_iconst (v := (-1 : Int32)) hx hb dX1_writeAlone_9 (by decide) ?_
  obtain ⟨J18, eJ18, h⟩ := jn_e h
  have hJ18 : ∀ (b3 : Int32) (M4 : gM) (H : Heap) (locs : List Loc) (ls : Array Slot), gZ D (cLay N) dA (cLive N) A (gA (cLive N) A) s.heap M4 H locs → lv_has ls 5 [(0, .ref (A (30, i0, 0))), (1, .int a1), (2, .int a2), (3, .int a3)] → J18 (b3, M4) = some y → W p l e (headSpec wmX1_writeAlone ({ frames := 4, cells := 0, slots := 0, locals := 92 } : Room)).room s m args below meth c H locs 0 0 (MQ below (cQl N D dA A y) args s 0 0 (gA (cLive N) A)) (F0 m 18 ls [.int b3]) := by
    intro b3 M4 H locs ls Z hl h
    rw [eJ18] at h
    try dsimp only at h
    refine lv_istore (lv' := [(4, .int b3), (0, .ref (A (30, i0, 0))), (1, .int a1), (2, .int a2), (3, .int a3)]) hx hb dX1_writeAlone_18 hl (by decide) rfl (fun ls hl => ?_)
    refine lv_iload hx hb dX1_writeAlone_20 (lv_at hl 0 rfl) ?_
    obtain ⟨J39, eJ39, h⟩ := jn_e h
    have hJ39 : ∀ (M5 : gM) (H : Heap) (locs : List Loc) (ls : Array Slot), gZ D (cLay N) dA (cLive N) A (gA (cLive N) A) s.heap M5 H locs → lv_has ls 5 [(0, .ref (A (30, i0, 0))), (1, .int a1), (2, .int a2), (3, .int a3), (4, .int b3)] → J39 M5 = some y → W p l e (headSpec wmX1_writeAlone ({ frames := 4, cells := 0, slots := 0, locals := 92 } : Room)).room s m args below meth c H locs 0 0 (MQ below (cQl N D dA A y) args s 0 0 (gA (cLive N) A)) (F0 m 39 ls []) := by
      intro M5 H locs ls Z hl h
      rw [eJ39] at h
      try dsimp only at h
      refine lv_aload_n hx hb dX1_writeAlone_39 rfl (lv_at hl 0 rfl) ?_
      refine lv_iload_n hx hb dX1_writeAlone_40 rfl (lv_at hl 3 rfl) ?_
      refine lv_aload_n hx hb dX1_writeAlone_41 rfl (lv_at hl 0 rfl) ?_
      refine cr_X1_tree (a := i0) S X Z hin_X1 hi0 hl_41 dX1_writeAlone_42 ?_
      refine cn_X8_size (a := (4 + i0)) S X Z hin_X8 (cl_ct hi0) hl_71 dX1_writeAlone_45 ?_
      refine lv_iload_n hx hb dX1_writeAlone_48 rfl (lv_at hl 1 rfl) ?_
      refine g_iald (i := (53, (4 + i0), 0)) (n := 48) S X Z (cl_X8_size (cl_ct hi0)) rfl dX1_writeAlone_49 h (fun v6 h => ?_)
      refine lv_isub hx hb dX1_writeAlone_50 ?_
      refine lv_bipush (v := (10 : Int32)) hx hb dX1_writeAlone_51 (by decide) ?_
      obtain ⟨v9, M8, hc7, h⟩ := ob_e h
      refine c_i X Z (c_V (i := (30, i0, 0)) (As := [.int (a3 - v6), .int (10 : Int32)]) (rest := []) S X hN Z hi0 rfl rfl (t_X1_makeRoom l N D dA A hJ hi0 hc7) (cwV 2 hts (cGV (cB 108 rfl) (cB 109 rfl) (cB 110 rfl) (cB 64 rfl) (cB 103 rfl)) rfl rfl rfl (by decide +kernel) ⟨Nat.le_of_ble_eq_true rfl, Nat.le_of_ble_eq_true rfl⟩) rfl hl.1 rfl (Nat.le_of_ble_eq_true rfl) dX1_writeAlone_53 ⟨Nat.zero_le _, Nat.zero_le _⟩) (fun H locs Z => ?_)
      refine lv_if_ne (tgt := 63) hx hb dX1_writeAlone_56 (by decide) (fun c10 => ?_) (fun c10 => ?_)
      · have h := if_f c10 h
        refine lv_iload hx hb dX1_writeAlone_63 (lv_at hl 4 rfl) ?_
        obtain ⟨J87, eJ87, h⟩ := jn_e h
        have hJ87 : ∀ (M11 : gM) (H : Heap) (locs : List Loc) (ls : Array Slot), gZ D (cLay N) dA (cLive N) A (gA (cLive N) A) s.heap M11 H locs → lv_has ls 5 [(0, .ref (A (30, i0, 0))), (1, .int a1), (2, .int a2), (3, .int a3)] → J87 M11 = some y → W p l e (headSpec wmX1_writeAlone ({ frames := 4, cells := 0, slots := 0, locals := 92 } : Room)).room s m args below meth c H locs 0 0 (MQ below (cQl N D dA A y) args s 0 0 (gA (cLive N) A)) (F0 m 87 ls []) := by
          intro M11 H locs ls Z hl h
          rw [eJ87] at h
          try dsimp only at h
          refine lv_aload_n hx hb dX1_writeAlone_87 rfl (lv_at hl 0 rfl) ?_
          refine cr_X1_tree (a := i0) S X Z hin_X1 hi0 hl_41 dX1_writeAlone_88 ?_
          refine lv_iload_n hx hb dX1_writeAlone_91 rfl (lv_at hl 1 rfl) ?_
          refine lv_iload_n hx hb dX1_writeAlone_92 rfl (lv_at hl 2 rfl) ?_
          refine lv_iload_n hx hb dX1_writeAlone_93 rfl (lv_at hl 3 rfl) ?_
          obtain ⟨M13, hc12, h⟩ := o1_e h
          refine c_v X Z (c_V (i := (50, (4 + i0), 0)) (As := [.int a1, .int a2, .int a3]) (rest := []) S X hN Z (cl_ct hi0) rfl rfl (t_X8_setFile l N D dA A hJ (cl_ct hi0) hc12) (cwV 3 hts (cGV (cB 115 rfl) (cB 71 rfl) (cB 72 rfl) (cB 44 rfl) (cB 67 rfl)) rfl rfl rfl (by decide +kernel) ⟨Nat.le_of_ble_eq_true rfl, Nat.le_of_ble_eq_true rfl⟩) rfl hl.1 rfl (Nat.le_of_ble_eq_true rfl) dX1_writeAlone_94 ⟨Nat.zero_le _, Nat.zero_le _⟩) (fun H locs Z => ?_)
          refine lv_aload_n hx hb dX1_writeAlone_97 rfl (lv_at hl 0 rfl) ?_
          refine cr_X1_dirty (a := i0) S X Z hin_X1 hi0 hl_18 dX1_writeAlone_98 ?_
          refine lv_iload_n hx hb dX1_writeAlone_101 rfl (lv_at hl 1 rfl) ?_
          refine lv_iconst (v := (1 : Int32)) hx hb dX1_writeAlone_102 (by decide) ?_
          refine g_zast (i := (33, i0, 0)) (n := 48) S X Z (cl_X1_dirty hi0) rfl dX1_writeAlone_103 h (fun M14 H locs Z h => ?_)
          refine lv_lconst (v := (0 : Int64)) hx hb dX1_writeAlone_104 (by decide) ?_
          have hy := Option.some.inj h
          subst hy
          exact g_rl S Z hr hlocks dX1_writeAlone_105
        refine lv_if_eq (tgt := 87) hx hb dX1_writeAlone_65 (by decide) (fun c15 => ?_) (fun c15 => ?_)
        · have h := if_t c15 h
          exact hJ87 M8 _ _ _ Z (lv_sub hl [0, 1, 2, 3] rfl) h
        · have h := if_f c15 h
          refine lv_aload_n hx hb dX1_writeAlone_68 rfl (lv_at hl 0 rfl) ?_
          refine cr_X1_log (a := i0) S X Z hin_X1 hi0 hl_50 dX1_writeAlone_69 ?_
          refine lv_iconst (v := (0 : Int32)) hx hb dX1_writeAlone_72 (by decide) ?_
          refine lv_iload_n hx hb dX1_writeAlone_73 rfl (lv_at hl 1 rfl) ?_
          refine lv_iconst (v := (-1 : Int32)) hx hb dX1_writeAlone_74 (by decide) ?_
          refine lv_aload_n hx hb dX1_writeAlone_75 rfl (lv_at hl 0 rfl) ?_
          refine cr_X1_tree (a := i0) S X Z hin_X1 hi0 hl_41 dX1_writeAlone_76 ?_
          refine cn_X8_counts (a := (4 + i0)) S X Z hin_X8 (cl_ct hi0) hl_118 dX1_writeAlone_79 ?_
          refine lv_iload_n hx hb dX1_writeAlone_82 rfl (lv_at hl 1 rfl) ?_
          refine g_aald (i := (54, (4 + i0), 0)) (ca := 5) ⟨rfl, rfl⟩ S X Z (cl_X8_counts (cl_ct hi0)) rfl dX1_writeAlone_83 h (fun v16 hv16 h => ?_)
          obtain ⟨M18, hc17, h⟩ := o1_e h
          refine c_v X Z (c_V (i := (40, i0, 0)) (As := [.int (0 : Int32), .int a1, .int (-1 : Int32), .ref (A (55, (4 + i0), v16))]) (rest := []) S X hN Z (cl_X1_log hi0) rfl rfl (t_X3_add l N D dA A hJ (cl_X1_log hi0) ⟨(cl_55 (cl_X8_counts (cl_ct hi0)) hv16), rfl⟩ hc17) (cwV 4 hts (cGV (cB 144 rfl) (cB 145 rfl) (cB 146 rfl) (cB 48 rfl) (cB 134 rfl)) rfl rfl rfl (by decide +kernel) ⟨Nat.le_of_ble_eq_true rfl, Nat.le_of_ble_eq_true rfl⟩) rfl hl.1 rfl (Nat.le_of_ble_eq_true rfl) dX1_writeAlone_84 ⟨Nat.zero_le _, Nat.zero_le _⟩) (fun H locs Z => ?_)
          exact hJ87 M18 _ _ _ Z (lv_sub hl [0, 1, 2, 3] rfl) h
      · have h := if_t c10 h
        refine lv_ldc2 hx hb hown hc_135 dX1_writeAlone_59 ?_
        have hy := Option.some.inj h
        subst hy
        exact g_rl S Z hr hlocks dX1_writeAlone_62
    refine lv_if_eq (tgt := 39) hx hb dX1_writeAlone_22 (by decide) (fun c19 => ?_) (fun c19 => ?_)
    · have h := if_t c19 h
      exact hJ39 M4 _ _ _ Z (lv_sub hl [1, 2, 3, 4, 0] rfl) h
    · have h := if_f c19 h
      refine lv_aload_n hx hb dX1_writeAlone_25 rfl (lv_at hl 1 rfl) ?_
      refine cr_X1_log (a := i0) S X Z hin_X1 hi0 hl_50 dX1_writeAlone_26 ?_
      obtain ⟨v21, hc20, h⟩ := o1_e h
      refine c_i X Z (c_V (i := (40, i0, 0)) (As := []) (rest := []) S X hN Z (cl_X1_log hi0) rfl rfl (t_X3_isFull l N D dA A hJ (cl_X1_log hi0) hc20) (cwV 0 hts (cGV (cB 143 rfl) (cB 136 rfl) (cB 137 rfl) (cB 48 rfl) (cB 133 rfl)) rfl rfl rfl (by decide +kernel) ⟨Nat.le_of_ble_eq_true rfl, Nat.le_of_ble_eq_true rfl⟩) rfl hl.1 rfl (Nat.le_of_ble_eq_true rfl) dX1_writeAlone_29 ⟨Nat.zero_le _, Nat.zero_le _⟩) (fun H locs Z => ?_)
      refine lv_if_eq (tgt := 39) hx hb dX1_writeAlone_32 (by decide) (fun c22 => ?_) (fun c22 => ?_)
      · have h := if_t c22 h
        exact hJ39 M4 _ _ _ Z (lv_sub hl [1, 2, 3, 4, 0] rfl) h
      · have h := if_f c22 h
        refine lv_ldc2 hx hb hown hc_133 dX1_writeAlone_35 ?_
        have hy := Option.some.inj h
        subst hy
        exact g_rl S Z hr hlocks dX1_writeAlone_38
  refine lv_icmp_ne (tgt := 17) hx hb dX1_writeAlone_10 (by decide) (fun c23 => ?_) (fun c23 => ?_)
  · have h := if_f c23 h
    refine lv_iconst (v := (0 : Int32)) hx hb dX1_writeAlone_17 (by decide) ?_
    exact hJ18 (0 : Int32) M _ _ _ Z (lv_sub hl [0, 1, 2, 3] rfl) h
  · have h := if_t c23 h
    refine lv_iconst (v := (1 : Int32)) hx hb dX1_writeAlone_13 (by decide) ?_
    refine lv_goto (tgt := 18) hx hb dX1_writeAlone_14 (by decide) ?_
    exact hJ18 (1 : Int32) M _ _ _ Z (lv_sub hl [0, 1, 2, 3] rfl) h
-- X1_makeAlone (IIZ)J: 64 instructions
theorem dX1_makeAlone_0 : decode cX1_makeAlone 0 = .ok (.aload_n 0, 1) := by decide +kernel
theorem dX1_makeAlone_1 : decode cX1_makeAlone 1 = .ok (.getfield 50, 3) := by decide +kernel
theorem dX1_makeAlone_4 : decode cX1_makeAlone 4 = .ok (.invokevirtual 129, 3) := by decide +kernel
theorem dX1_makeAlone_7 : decode cX1_makeAlone 7 = .ok (.ifCond .eq 7, 3) := by decide +kernel
theorem dX1_makeAlone_10 : decode cX1_makeAlone 10 = .ok (.ldc2_w 133, 3) := by decide +kernel
theorem dX1_makeAlone_13 : decode cX1_makeAlone 13 = .ok (.lreturn, 1) := by decide +kernel
theorem dX1_makeAlone_14 : decode cX1_makeAlone 14 = .ok (.aload_n 0, 1) := by decide +kernel
theorem dX1_makeAlone_15 : decode cX1_makeAlone 15 = .ok (.iload_n 3, 1) := by decide +kernel
theorem dX1_makeAlone_16 : decode cX1_makeAlone 16 = .ok (.ifCond .eq 7, 3) := by decide +kernel
theorem dX1_makeAlone_19 : decode cX1_makeAlone 19 = .ok (.iconst 2, 1) := by decide +kernel
theorem dX1_makeAlone_20 : decode cX1_makeAlone 20 = .ok (.goto 4, 3) := by decide +kernel
theorem dX1_makeAlone_23 : decode cX1_makeAlone 23 = .ok (.iconst 1, 1) := by decide +kernel
theorem dX1_makeAlone_24 : decode cX1_makeAlone 24 = .ok (.bipush 10, 2) := by decide +kernel
theorem dX1_makeAlone_26 : decode cX1_makeAlone 26 = .ok (.invokevirtual 101, 3) := by decide +kernel
theorem dX1_makeAlone_29 : decode cX1_makeAlone 29 = .ok (.ifCond .ne 7, 3) := by decide +kernel
theorem dX1_makeAlone_32 : decode cX1_makeAlone 32 = .ok (.ldc2_w 135, 3) := by decide +kernel
theorem dX1_makeAlone_35 : decode cX1_makeAlone 35 = .ok (.lreturn, 1) := by decide +kernel
theorem dX1_makeAlone_36 : decode cX1_makeAlone 36 = .ok (.aload_n 0, 1) := by decide +kernel
theorem dX1_makeAlone_37 : decode cX1_makeAlone 37 = .ok (.getfield 29, 3) := by decide +kernel
theorem dX1_makeAlone_40 : decode cX1_makeAlone 40 = .ok (.iload_n 1, 1) := by decide +kernel
theorem dX1_makeAlone_41 : decode cX1_makeAlone 41 = .ok (.iload_n 2, 1) := by decide +kernel
theorem dX1_makeAlone_42 : decode cX1_makeAlone 42 = .ok (.iload_n 3, 1) := by decide +kernel
theorem dX1_makeAlone_43 : decode cX1_makeAlone 43 = .ok (.invokevirtual 141, 3) := by decide +kernel
theorem dX1_makeAlone_46 : decode cX1_makeAlone 46 = .ok (.istore 4, 2) := by decide +kernel
theorem dX1_makeAlone_48 : decode cX1_makeAlone 48 = .ok (.iload 4, 2) := by decide +kernel
theorem dX1_makeAlone_50 : decode cX1_makeAlone 50 = .ok (.iconst (-1), 1) := by decide +kernel
theorem dX1_makeAlone_51 : decode cX1_makeAlone 51 = .ok (.if_icmp .ne 7, 3) := by decide +kernel
theorem dX1_makeAlone_54 : decode cX1_makeAlone 54 = .ok (.ldc2_w 133, 3) := by decide +kernel
theorem dX1_makeAlone_57 : decode cX1_makeAlone 57 = .ok (.lreturn, 1) := by decide +kernel
theorem dX1_makeAlone_58 : decode cX1_makeAlone 58 = .ok (.aload_n 0, 1) := by decide +kernel
theorem dX1_makeAlone_59 : decode cX1_makeAlone 59 = .ok (.getfield 41, 3) := by decide +kernel
theorem dX1_makeAlone_62 : decode cX1_makeAlone 62 = .ok (.iload 4, 2) := by decide +kernel
theorem dX1_makeAlone_64 : decode cX1_makeAlone 64 = .ok (.invokevirtual 115, 3) := by decide +kernel
theorem dX1_makeAlone_67 : decode cX1_makeAlone 67 = .ok (.aload_n 0, 1) := by decide +kernel
theorem dX1_makeAlone_68 : decode cX1_makeAlone 68 = .ok (.getfield 41, 3) := by decide +kernel
theorem dX1_makeAlone_71 : decode cX1_makeAlone 71 = .ok (.iload 4, 2) := by decide +kernel
theorem dX1_makeAlone_73 : decode cX1_makeAlone 73 = .ok (.invokevirtual 112, 3) := by decide +kernel
theorem dX1_makeAlone_76 : decode cX1_makeAlone 76 = .ok (.aload_n 0, 1) := by decide +kernel
theorem dX1_makeAlone_77 : decode cX1_makeAlone 77 = .ok (.iload 4, 2) := by decide +kernel
theorem dX1_makeAlone_79 : decode cX1_makeAlone 79 = .ok (.invokevirtual 65, 3) := by decide +kernel
theorem dX1_makeAlone_82 : decode cX1_makeAlone 82 = .ok (.aload_n 0, 1) := by decide +kernel
theorem dX1_makeAlone_83 : decode cX1_makeAlone 83 = .ok (.getfield 50, 3) := by decide +kernel
theorem dX1_makeAlone_86 : decode cX1_makeAlone 86 = .ok (.iconst 1, 1) := by decide +kernel
theorem dX1_makeAlone_87 : decode cX1_makeAlone 87 = .ok (.iload 4, 2) := by decide +kernel
theorem dX1_makeAlone_89 : decode cX1_makeAlone 89 = .ok (.iload_n 1, 1) := by decide +kernel
theorem dX1_makeAlone_90 : decode cX1_makeAlone 90 = .ok (.aload_n 0, 1) := by decide +kernel
theorem dX1_makeAlone_91 : decode cX1_makeAlone 91 = .ok (.getfield 41, 3) := by decide +kernel
theorem dX1_makeAlone_94 : decode cX1_makeAlone 94 = .ok (.getfield 118, 3) := by decide +kernel
theorem dX1_makeAlone_97 : decode cX1_makeAlone 97 = .ok (.iload 4, 2) := by decide +kernel
theorem dX1_makeAlone_99 : decode cX1_makeAlone 99 = .ok (.aaload, 1) := by decide +kernel
theorem dX1_makeAlone_100 : decode cX1_makeAlone 100 = .ok (.invokevirtual 137, 3) := by decide +kernel
theorem dX1_makeAlone_103 : decode cX1_makeAlone 103 = .ok (.aload_n 0, 1) := by decide +kernel
theorem dX1_makeAlone_104 : decode cX1_makeAlone 104 = .ok (.getfield 18, 3) := by decide +kernel
theorem dX1_makeAlone_107 : decode cX1_makeAlone 107 = .ok (.iload 4, 2) := by decide +kernel
theorem dX1_makeAlone_109 : decode cX1_makeAlone 109 = .ok (.iconst 1, 1) := by decide +kernel
theorem dX1_makeAlone_110 : decode cX1_makeAlone 110 = .ok (.bastore, 1) := by decide +kernel
theorem dX1_makeAlone_111 : decode cX1_makeAlone 111 = .ok (.aload_n 0, 1) := by decide +kernel
theorem dX1_makeAlone_112 : decode cX1_makeAlone 112 = .ok (.getfield 18, 3) := by decide +kernel
theorem dX1_makeAlone_115 : decode cX1_makeAlone 115 = .ok (.iload_n 1, 1) := by decide +kernel
theorem dX1_makeAlone_116 : decode cX1_makeAlone 116 = .ok (.iconst 1, 1) := by decide +kernel
theorem dX1_makeAlone_117 : decode cX1_makeAlone 117 = .ok (.bastore, 1) := by decide +kernel
theorem dX1_makeAlone_118 : decode cX1_makeAlone 118 = .ok (.iload 4, 2) := by decide +kernel
theorem dX1_makeAlone_120 : decode cX1_makeAlone 120 = .ok (.i2l, 1) := by decide +kernel
theorem dX1_makeAlone_121 : decode cX1_makeAlone 121 = .ok (.lreturn, 1) := by decide +kernel
abbrev wmX1_makeAlone : List Cond := .code yX1_makeAlone cX1_makeAlone 5 (some .long) :: cBig
def f_X1_makeAlone (N : Nat) (M : gM) (i0 : Nat) (a1 : Int32) (a2 : Int32) (a3 : Int32) : Option (Int64 × gM) :=
  o1 (f_X3_isFull N M i0) (fun v2 => (if v2 = 0 then jn (fun (q : (Int32 × gM)) => match q with | (b4, M5) => ob (f_X1_makeRoom N M5 i0 b4 (10 : Int32)) (fun v8 M7 => (if v8 = 0 then some ((-2199023255558 : Int64), M7) else ob (f_X0_enter N M7 a1 a2 a3) (fun v12 M11 => (if v12 = (-1 : Int32) then some ((-2199023255557 : Int64), M11) else o1 (f_X8_createCopy N M11 (4 + i0) v12) (fun M15 => o1 (f_X8_setThere N M15 (4 + i0) v12) (fun M17 => o1 (f_X1_use N M17 i0 v12) (fun M19 => ix v12 48 (fun v20 => o1 (f_X3_add N M19 i0 (1 : Int32) v12 a1 (55, (4 + i0), v20)) (fun M22 => wz M22 (33, i0, 0) 48 v12 (1 : Int32) (fun M23 => wz M23 (33, i0, 0) 48 a1 (1 : Int32) (fun M24 => some (v12.toInt64, M24))))))))))))) (fun J24 => (if a3 = 0 then J24 ((1 : Int32), M) else J24 ((2 : Int32), M))) else some ((-2199023255557 : Int64), M)))
set_option maxHeartbeats 4000000 in
set_option maxRecDepth 100000 in
theorem t_X1_makeAlone (l : Launch) (N : Nat) (D : va_G) (dA : Nat → ClassId) (A : gI → Nat) (hJ : gJ (cLive N) A) {M : gM} {i0 : Nat} {a1 : Int32} {a2 : Int32} {a3 : Int32} (hi0 : cLive N (30, i0, 0)) {y : (Int64 × gM)} (h : f_X1_makeAlone N M i0 a1 a2 a3 = some y) : cMl l yX1_makeAlone wmX1_makeAlone ({ frames := 4, cells := 0, slots := 0, locals := 92 } : Room) N D dA A [.ref (A (30, i0, 0)), .int a1, .int a2, .int a3] M y.1 y.2 := by
  refine Met.ofW (cc := cX1_makeAlone) (maxL := 5) (ret := (some .long)) (by decide) rfl ?_
  intro p e s m args below meth c s₁ B hml hv
  obtain ⟨rfl, hP, hK, hN⟩ := hv
  generalize hargs : ([.ref (A (30, i0, 0)), .int a1, .int a2, .int a3] : List Value).toArray = args at B ⊢
  have S : CallFix p m c cX1_makeAlone 5 s args wmX1_makeAlone RX1 := ⟨B.exec, B.bytes, hml, findClass_of_methodNamed B.named, atoms_spec (ws := wmX1_makeAlone) B.pre⟩
  obtain ⟨hx, hb, -, hown, hts⟩ := id S
  have hr := B.returns
  have hlocks := B.notSynchronized
  have X : gX D vwCl dA (cLive N) A (gA (cLive N) A) s := ⟨hK, hJ, fun i hi => ⟨i, hi, rfl⟩⟩
  have Z : gZ D (cLay N) dA (cLive N) A (gA (cLive N) A) s.heap M s.heap [] := ⟨hP, va_S.rf⟩
  have hin_X1 : ∀ w ∈ wsX10, w ∈ wmX1_makeAlone := cin_X1
  have hin_X8 : ∀ w ∈ wsX80, w ∈ wmX1_makeAlone := cin_X8
  have hl_18 := hts (.fieldLink RX1 18 "ReplicaFiles$Client" "dirty" "[Z") (cBc 37 rfl)
  have hl_29 := hts (.fieldLink RX1 29 "ReplicaFiles$Client" "catalog" "LReplicaFiles$Catalog;") (cBc 40 rfl)
  have hl_41 := hts (.fieldLink RX1 41 "ReplicaFiles$Client" "tree" "LReplicaFiles$Tree;") (cBc 45 rfl)
  have hl_50 := hts (.fieldLink RX1 50 "ReplicaFiles$Client" "log" "LReplicaFiles$Log;") (cBc 49 rfl)
  have hl_118 := va_Nw.use (A := args) rfl (hN.1 ("ReplicaFiles$Client", 118, "ReplicaFiles$Tree", "counts", "[[I", "ReplicaFiles") (by decide +kernel))
  have hc_133 := hts (.constantLong RX1 133 (-2199023255557)) (cBc 138 rfl)
  have hc_135 := hts (.constantLong RX1 135 (-2199023255558)) (cBc 139 rfl)
  have hl := lv_entry ([.ref (A (30, i0, 0)), .int a1, .int a2, .int a3]) (n := 5) (Nat.le_of_ble_eq_true rfl)
  rw [← hargs, lg_entry_eq, hargs]
  generalize (lg_sl ([.ref (A (30, i0, 0)), .int a1, .int a2, .int a3]) ++ List.replicate (5 - (lg_sl ([.ref (A (30, i0, 0)), .int a1, .int a2, .int a3])).length) Slot.unset).toArray = ls at hl ⊢
  have hl : lv_has ls 5 [(0, .ref (A (30, i0, 0))), (1, .int a1), (2, .int a2), (3, .int a3)] := hl
  unfold f_X1_makeAlone at h
  refine lv_aload_n hx hb dX1_makeAlone_0 rfl (lv_at hl 0 rfl) ?_
  refine cr_X1_log (a := i0) S X Z hin_X1 hi0 hl_50 dX1_makeAlone_1 ?_
  obtain ⟨v2, hc1, h⟩ := o1_e h
  refine c_i X Z (c_V (i := (40, i0, 0)) (As := []) (rest := []) S X hN Z (cl_X1_log hi0) rfl rfl (t_X3_isFull l N D dA A hJ (cl_X1_log hi0) hc1) (cwV 0 hts (cGV (cB 143 rfl) (cB 136 rfl) (cB 137 rfl) (cB 48 rfl) (cB 133 rfl)) rfl rfl rfl (by decide +kernel) ⟨Nat.le_of_ble_eq_true rfl, Nat.le_of_ble_eq_true rfl⟩) rfl hl.1 rfl (Nat.le_of_ble_eq_true rfl) dX1_makeAlone_4 ⟨Nat.zero_le _, Nat.zero_le _⟩) (fun H locs Z => ?_)
  refine lv_if_eq (tgt := 14) hx hb dX1_makeAlone_7 (by decide) (fun c3 => ?_) (fun c3 => ?_)
  · have h := if_t c3 h
    refine lv_aload_n hx hb dX1_makeAlone_14 rfl (lv_at hl 0 rfl) ?_
    refine lv_iload_n hx hb dX1_makeAlone_15 rfl (lv_at hl 3 rfl) ?_
    obtain ⟨J24, eJ24, h⟩ := jn_e h
    have hJ24 : ∀ (b4 : Int32) (M5 : gM) (H : Heap) (locs : List Loc) (ls : Array Slot), gZ D (cLay N) dA (cLive N) A (gA (cLive N) A) s.heap M5 H locs → lv_has ls 5 [(0, .ref (A (30, i0, 0))), (1, .int a1), (2, .int a2), (3, .int a3)] → J24 (b4, M5) = some y → W p l e (headSpec wmX1_makeAlone ({ frames := 4, cells := 0, slots := 0, locals := 92 } : Room)).room s m args below meth c H locs 0 0 (MQ below (cQl N D dA A y) args s 0 0 (gA (cLive N) A)) (F0 m 24 ls [.int b4, .ref (A (30, i0, 0))]) := by
      intro b4 M5 H locs ls Z hl h
      rw [eJ24] at h
      try dsimp only at h
      refine lv_bipush (v := (10 : Int32)) hx hb dX1_makeAlone_24 (by decide) ?_
      obtain ⟨v8, M7, hc6, h⟩ := ob_e h
      refine c_i X Z (c_V (i := (30, i0, 0)) (As := [.int b4, .int (10 : Int32)]) (rest := []) S X hN Z hi0 rfl rfl (t_X1_makeRoom l N D dA A hJ hi0 hc6) (cwV 2 hts (cGV (cB 108 rfl) (cB 109 rfl) (cB 110 rfl) (cB 64 rfl) (cB 103 rfl)) rfl rfl rfl (by decide +kernel) ⟨Nat.le_of_ble_eq_true rfl, Nat.le_of_ble_eq_true rfl⟩) rfl hl.1 rfl (Nat.le_of_ble_eq_true rfl) dX1_makeAlone_26 ⟨Nat.zero_le _, Nat.zero_le _⟩) (fun H locs Z => ?_)
      refine lv_if_ne (tgt := 36) hx hb dX1_makeAlone_29 (by decide) (fun c9 => ?_) (fun c9 => ?_)
      · have h := if_f c9 h
        refine lv_aload_n hx hb dX1_makeAlone_36 rfl (lv_at hl 0 rfl) ?_
        refine cr_X1_catalog (a := i0) S X Z hin_X1 hi0 hl_29 dX1_makeAlone_37 ?_
        refine lv_iload_n hx hb dX1_makeAlone_40 rfl (lv_at hl 1 rfl) ?_
        refine lv_iload_n hx hb dX1_makeAlone_41 rfl (lv_at hl 2 rfl) ?_
        refine lv_iload_n hx hb dX1_makeAlone_42 rfl (lv_at hl 3 rfl) ?_
        obtain ⟨v12, M11, hc10, h⟩ := ob_e h
        refine c_i X Z (c_V (i := (1, 0, 0)) (As := [.int a1, .int a2, .int a3]) (rest := []) S X hN Z (cl_one N 1 (by decide)) rfl rfl (t_X0_enter l N D dA A hJ  hc10) (cwV 3 hts (cGV (cB 148 rfl) (cB 149 rfl) (cB 150 rfl) (cB 16 rfl) (cB 12 rfl)) rfl rfl rfl (by decide +kernel) ⟨Nat.le_of_ble_eq_true rfl, Nat.le_of_ble_eq_true rfl⟩) rfl hl.1 rfl (Nat.le_of_ble_eq_true rfl) dX1_makeAlone_43 ⟨Nat.zero_le _, Nat.zero_le _⟩) (fun H locs Z => ?_)
        refine lv_istore (lv' := [(4, .int v12), (0, .ref (A (30, i0, 0))), (1, .int a1), (2, .int a2), (3, .int a3)]) hx hb dX1_makeAlone_46 hl (by decide) rfl (fun ls hl => ?_)
        refine lv_iload hx hb dX1_makeAlone_48 (lv_at hl 0 rfl) ?_
        refine lv_iconst (v := (-1 : Int32)) hx hb dX1_makeAlone_50 (by decide) ?_
        refine lv_icmp_ne (tgt := 58) hx hb dX1_makeAlone_51 (by decide) (fun c13 => ?_) (fun c13 => ?_)
        · have h := if_f c13 h
          refine lv_aload_n hx hb dX1_makeAlone_58 rfl (lv_at hl 1 rfl) ?_
          refine cr_X1_tree (a := i0) S X Z hin_X1 hi0 hl_41 dX1_makeAlone_59 ?_
          refine lv_iload hx hb dX1_makeAlone_62 (lv_at hl 0 rfl) ?_
          obtain ⟨M15, hc14, h⟩ := o1_e h
          refine c_v X Z (c_V (i := (50, (4 + i0), 0)) (As := [.int v12]) (rest := []) S X hN Z (cl_ct hi0) rfl rfl (t_X8_createCopy l N D dA A hJ (cl_ct hi0) hc14) (cwV 1 hts (cGV (cB 122 rfl) (cB 123 rfl) (cB 124 rfl) (cB 44 rfl) (cB 118 rfl)) rfl rfl rfl (by decide +kernel) ⟨Nat.le_of_ble_eq_true rfl, Nat.le_of_ble_eq_true rfl⟩) rfl hl.1 rfl (Nat.le_of_ble_eq_true rfl) dX1_makeAlone_64 ⟨Nat.zero_le _, Nat.zero_le _⟩) (fun H locs Z => ?_)
          refine lv_aload_n hx hb dX1_makeAlone_67 rfl (lv_at hl 1 rfl) ?_
          refine cr_X1_tree (a := i0) S X Z hin_X1 hi0 hl_41 dX1_makeAlone_68 ?_
          refine lv_iload hx hb dX1_makeAlone_71 (lv_at hl 0 rfl) ?_
          obtain ⟨M17, hc16, h⟩ := o1_e h
          refine c_v X Z (c_V (i := (50, (4 + i0), 0)) (As := [.int v12]) (rest := []) S X hN Z (cl_ct hi0) rfl rfl (t_X8_setThere l N D dA A hJ (cl_ct hi0) hc16) (cwV 1 hts (cGV (cB 119 rfl) (cB 120 rfl) (cB 121 rfl) (cB 44 rfl) (cB 117 rfl)) rfl rfl rfl (by decide +kernel) ⟨Nat.le_of_ble_eq_true rfl, Nat.le_of_ble_eq_true rfl⟩) rfl hl.1 rfl (Nat.le_of_ble_eq_true rfl) dX1_makeAlone_73 ⟨Nat.zero_le _, Nat.zero_le _⟩) (fun H locs Z => ?_)
          refine lv_aload_n hx hb dX1_makeAlone_76 rfl (lv_at hl 1 rfl) ?_
          refine lv_iload hx hb dX1_makeAlone_77 (lv_at hl 0 rfl) ?_
          obtain ⟨M19, hc18, h⟩ := o1_e h
          refine c_v X Z (c_V (i := (30, i0, 0)) (As := [.int v12]) (rest := []) S X hN Z hi0 rfl rfl (t_X1_use l N D dA A hJ hi0 hc18) (cwV 1 hts (cGV (cB 61 rfl) (cB 62 rfl) (cB 63 rfl) (cB 64 rfl) (cB 58 rfl)) rfl rfl rfl (by decide +kernel) ⟨Nat.le_of_ble_eq_true rfl, Nat.le_of_ble_eq_true rfl⟩) rfl hl.1 rfl (Nat.le_of_ble_eq_true rfl) dX1_makeAlone_79 ⟨Nat.zero_le _, Nat.zero_le _⟩) (fun H locs Z => ?_)
          refine lv_aload_n hx hb dX1_makeAlone_82 rfl (lv_at hl 1 rfl) ?_
          refine cr_X1_log (a := i0) S X Z hin_X1 hi0 hl_50 dX1_makeAlone_83 ?_
          refine lv_iconst (v := (1 : Int32)) hx hb dX1_makeAlone_86 (by decide) ?_
          refine lv_iload hx hb dX1_makeAlone_87 (lv_at hl 0 rfl) ?_
          refine lv_iload_n hx hb dX1_makeAlone_89 rfl (lv_at hl 2 rfl) ?_
          refine lv_aload_n hx hb dX1_makeAlone_90 rfl (lv_at hl 1 rfl) ?_
          refine cr_X1_tree (a := i0) S X Z hin_X1 hi0 hl_41 dX1_makeAlone_91 ?_
          refine cn_X8_counts (a := (4 + i0)) S X Z hin_X8 (cl_ct hi0) hl_118 dX1_makeAlone_94 ?_
          refine lv_iload hx hb dX1_makeAlone_97 (lv_at hl 0 rfl) ?_
          refine g_aald (i := (54, (4 + i0), 0)) (ca := 5) ⟨rfl, rfl⟩ S X Z (cl_X8_counts (cl_ct hi0)) rfl dX1_makeAlone_99 h (fun v20 hv20 h => ?_)
          obtain ⟨M22, hc21, h⟩ := o1_e h
          refine c_v X Z (c_V (i := (40, i0, 0)) (As := [.int (1 : Int32), .int v12, .int a1, .ref (A (55, (4 + i0), v20))]) (rest := []) S X hN Z (cl_X1_log hi0) rfl rfl (t_X3_add l N D dA A hJ (cl_X1_log hi0) ⟨(cl_55 (cl_X8_counts (cl_ct hi0)) hv20), rfl⟩ hc21) (cwV 4 hts (cGV (cB 144 rfl) (cB 145 rfl) (cB 146 rfl) (cB 48 rfl) (cB 134 rfl)) rfl rfl rfl (by decide +kernel) ⟨Nat.le_of_ble_eq_true rfl, Nat.le_of_ble_eq_true rfl⟩) rfl hl.1 rfl (Nat.le_of_ble_eq_true rfl) dX1_makeAlone_100 ⟨Nat.zero_le _, Nat.zero_le _⟩) (fun H locs Z => ?_)
          refine lv_aload_n hx hb dX1_makeAlone_103 rfl (lv_at hl 1 rfl) ?_
          refine cr_X1_dirty (a := i0) S X Z hin_X1 hi0 hl_18 dX1_makeAlone_104 ?_
          refine lv_iload hx hb dX1_makeAlone_107 (lv_at hl 0 rfl) ?_
          refine lv_iconst (v := (1 : Int32)) hx hb dX1_makeAlone_109 (by decide) ?_
          refine g_zast (i := (33, i0, 0)) (n := 48) S X Z (cl_X1_dirty hi0) rfl dX1_makeAlone_110 h (fun M23 H locs Z h => ?_)
          refine lv_aload_n hx hb dX1_makeAlone_111 rfl (lv_at hl 1 rfl) ?_
          refine cr_X1_dirty (a := i0) S X Z hin_X1 hi0 hl_18 dX1_makeAlone_112 ?_
          refine lv_iload_n hx hb dX1_makeAlone_115 rfl (lv_at hl 2 rfl) ?_
          refine lv_iconst (v := (1 : Int32)) hx hb dX1_makeAlone_116 (by decide) ?_
          refine g_zast (i := (33, i0, 0)) (n := 48) S X Z (cl_X1_dirty hi0) rfl dX1_makeAlone_117 h (fun M24 H locs Z h => ?_)
          refine lv_iload hx hb dX1_makeAlone_118 (lv_at hl 0 rfl) ?_
          refine lv_i2l hx hb dX1_makeAlone_120 rfl ?_
          have hy := Option.some.inj h
          subst hy
          exact g_rl S Z hr hlocks dX1_makeAlone_121
        · have h := if_t c13 h
          refine lv_ldc2 hx hb hown hc_133 dX1_makeAlone_54 ?_
          have hy := Option.some.inj h
          subst hy
          exact g_rl S Z hr hlocks dX1_makeAlone_57
      · have h := if_t c9 h
        refine lv_ldc2 hx hb hown hc_135 dX1_makeAlone_32 ?_
        have hy := Option.some.inj h
        subst hy
        exact g_rl S Z hr hlocks dX1_makeAlone_35
    refine lv_if_eq (tgt := 23) hx hb dX1_makeAlone_16 (by decide) (fun c25 => ?_) (fun c25 => ?_)
    · have h := if_t c25 h
      refine lv_iconst (v := (1 : Int32)) hx hb dX1_makeAlone_23 (by decide) ?_
      exact hJ24 (1 : Int32) M _ _ _ Z (lv_sub hl [0, 1, 2, 3] rfl) h
    · have h := if_f c25 h
      refine lv_iconst (v := (2 : Int32)) hx hb dX1_makeAlone_19 (by decide) ?_
      refine lv_goto (tgt := 24) hx hb dX1_makeAlone_20 (by decide) ?_
      exact hJ24 (2 : Int32) M _ _ _ Z (lv_sub hl [0, 1, 2, 3] rfl) h
  · have h := if_f c3 h
    refine lv_ldc2 hx hb hown hc_133 dX1_makeAlone_10 ?_
    have hy := Option.some.inj h
    subst hy
    exact g_rl S Z hr hlocks dX1_makeAlone_13
