-- X10_walk (I)J: 69 instructions
theorem dX10_walk_0 : decode cX10_walk 0 = .ok (.iload_n 1, 1) := by decide +kernel
theorem dX10_walk_1 : decode cX10_walk 1 = .ok (.invokestatic 110, 3) := by decide +kernel
theorem dX10_walk_4 : decode cX10_walk 4 = .ok (.aload_n 0, 1) := by decide +kernel
theorem dX10_walk_5 : decode cX10_walk 5 = .ok (.iload_n 1, 1) := by decide +kernel
theorem dX10_walk_6 : decode cX10_walk 6 = .ok (.invokevirtual 123, 3) := by decide +kernel
theorem dX10_walk_9 : decode cX10_walk 9 = .ok (.astore_n 2, 1) := by decide +kernel
theorem dX10_walk_10 : decode cX10_walk 10 = .ok (.aload_n 0, 1) := by decide +kernel
theorem dX10_walk_11 : decode cX10_walk 11 = .ok (.aload_n 2, 1) := by decide +kernel
theorem dX10_walk_12 : decode cX10_walk 12 = .ok (.invokevirtual 144, 3) := by decide +kernel
theorem dX10_walk_15 : decode cX10_walk 15 = .ok (.ifCond .eq 7, 3) := by decide +kernel
theorem dX10_walk_18 : decode cX10_walk 18 = .ok (.ldc2_w 193, 3) := by decide +kernel
theorem dX10_walk_21 : decode cX10_walk 21 = .ok (.lreturn, 1) := by decide +kernel
theorem dX10_walk_22 : decode cX10_walk 22 = .ok (.bipush 9, 2) := by decide +kernel
theorem dX10_walk_24 : decode cX10_walk 24 = .ok (.istore_n 3, 1) := by decide +kernel
theorem dX10_walk_25 : decode cX10_walk 25 = .ok (.iload_n 3, 1) := by decide +kernel
theorem dX10_walk_26 : decode cX10_walk 26 = .ok (.ifCond .le 50, 3) := by decide +kernel
theorem dX10_walk_29 : decode cX10_walk 29 = .ok (.iconst 0, 1) := by decide +kernel
theorem dX10_walk_30 : decode cX10_walk 30 = .ok (.istore 4, 2) := by decide +kernel
theorem dX10_walk_32 : decode cX10_walk 32 = .ok (.iload 4, 2) := by decide +kernel
theorem dX10_walk_34 : decode cX10_walk 34 = .ok (.aload_n 0, 1) := by decide +kernel
theorem dX10_walk_35 : decode cX10_walk 35 = .ok (.getfield 25, 3) := by decide +kernel
theorem dX10_walk_38 : decode cX10_walk 38 = .ok (.getfield 208, 3) := by decide +kernel
theorem dX10_walk_41 : decode cX10_walk 41 = .ok (.if_icmp .gt 29, 3) := by decide +kernel
theorem dX10_walk_44 : decode cX10_walk 44 = .ok (.aload_n 2, 1) := by decide +kernel
theorem dX10_walk_45 : decode cX10_walk 45 = .ok (.getfield 120, 3) := by decide +kernel
theorem dX10_walk_48 : decode cX10_walk 48 = .ok (.iload 4, 2) := by decide +kernel
theorem dX10_walk_50 : decode cX10_walk 50 = .ok (.iaload, 1) := by decide +kernel
theorem dX10_walk_51 : decode cX10_walk 51 = .ok (.iload_n 3, 1) := by decide +kernel
theorem dX10_walk_52 : decode cX10_walk 52 = .ok (.if_icmp .ne 12, 3) := by decide +kernel
theorem dX10_walk_55 : decode cX10_walk 55 = .ok (.aload_n 0, 1) := by decide +kernel
theorem dX10_walk_56 : decode cX10_walk 56 = .ok (.aload_n 2, 1) := by decide +kernel
theorem dX10_walk_57 : decode cX10_walk 57 = .ok (.iload 4, 2) := by decide +kernel
theorem dX10_walk_59 : decode cX10_walk 59 = .ok (.iload_n 3, 1) := by decide +kernel
theorem dX10_walk_60 : decode cX10_walk 60 = .ok (.invokevirtual 176, 3) := by decide +kernel
theorem dX10_walk_63 : decode cX10_walk 63 = .ok (.pop2, 1) := by decide +kernel
theorem dX10_walk_64 : decode cX10_walk 64 = .ok (.iinc 4 1, 3) := by decide +kernel
theorem dX10_walk_67 : decode cX10_walk 67 = .ok (.goto (-35), 3) := by decide +kernel
theorem dX10_walk_70 : decode cX10_walk 70 = .ok (.iinc 3 (-1), 3) := by decide +kernel
theorem dX10_walk_73 : decode cX10_walk 73 = .ok (.goto (-48), 3) := by decide +kernel
theorem dX10_walk_76 : decode cX10_walk 76 = .ok (.iconst 0, 1) := by decide +kernel
theorem dX10_walk_77 : decode cX10_walk 77 = .ok (.istore_n 3, 1) := by decide +kernel
theorem dX10_walk_78 : decode cX10_walk 78 = .ok (.aload_n 0, 1) := by decide +kernel
theorem dX10_walk_79 : decode cX10_walk 79 = .ok (.getfield 34, 3) := by decide +kernel
theorem dX10_walk_82 : decode cX10_walk 82 = .ok (.iload_n 1, 1) := by decide +kernel
theorem dX10_walk_83 : decode cX10_walk 83 = .ok (.invokevirtual 190, 3) := by decide +kernel
theorem dX10_walk_86 : decode cX10_walk 86 = .ok (.istore 4, 2) := by decide +kernel
theorem dX10_walk_88 : decode cX10_walk 88 = .ok (.iconst 0, 1) := by decide +kernel
theorem dX10_walk_89 : decode cX10_walk 89 = .ok (.istore 5, 2) := by decide +kernel
theorem dX10_walk_91 : decode cX10_walk 91 = .ok (.iload 5, 2) := by decide +kernel
theorem dX10_walk_93 : decode cX10_walk 93 = .ok (.aload_n 0, 1) := by decide +kernel
theorem dX10_walk_94 : decode cX10_walk 94 = .ok (.getfield 25, 3) := by decide +kernel
theorem dX10_walk_97 : decode cX10_walk 97 = .ok (.getfield 208, 3) := by decide +kernel
theorem dX10_walk_100 : decode cX10_walk 100 = .ok (.if_icmp .gt 33, 3) := by decide +kernel
theorem dX10_walk_103 : decode cX10_walk 103 = .ok (.aload_n 2, 1) := by decide +kernel
theorem dX10_walk_104 : decode cX10_walk 104 = .ok (.getfield 120, 3) := by decide +kernel
theorem dX10_walk_107 : decode cX10_walk 107 = .ok (.iload 5, 2) := by decide +kernel
theorem dX10_walk_109 : decode cX10_walk 109 = .ok (.iaload, 1) := by decide +kernel
theorem dX10_walk_110 : decode cX10_walk 110 = .ok (.ifCond .le 17, 3) := by decide +kernel
theorem dX10_walk_113 : decode cX10_walk 113 = .ok (.aload_n 2, 1) := by decide +kernel
theorem dX10_walk_114 : decode cX10_walk 114 = .ok (.iload 5, 2) := by decide +kernel
theorem dX10_walk_116 : decode cX10_walk 116 = .ok (.iload 4, 2) := by decide +kernel
theorem dX10_walk_118 : decode cX10_walk 118 = .ok (.invokevirtual 211, 3) := by decide +kernel
theorem dX10_walk_121 : decode cX10_walk 121 = .ok (.ifCond .eq 6, 3) := by decide +kernel
theorem dX10_walk_124 : decode cX10_walk 124 = .ok (.iinc 3 1, 3) := by decide +kernel
theorem dX10_walk_127 : decode cX10_walk 127 = .ok (.iinc 5 1, 3) := by decide +kernel
theorem dX10_walk_130 : decode cX10_walk 130 = .ok (.goto (-39), 3) := by decide +kernel
theorem dX10_walk_133 : decode cX10_walk 133 = .ok (.iload_n 3, 1) := by decide +kernel
theorem dX10_walk_134 : decode cX10_walk 134 = .ok (.i2l, 1) := by decide +kernel
theorem dX10_walk_135 : decode cX10_walk 135 = .ok (.lreturn, 1) := by decide +kernel
abbrev wmX10_walk : List Cond := .code yX10_walk cX10_walk 6 (some .long) :: tBig
def f_X10_walk_L91 (N : Nat) (v4 : Nat) (v12 : Int32) : Nat → Int32 → Int32 → gM → Option (Nat × Int64 × gM)
  | 0, _, _, _ => none
  | n16 + 1, x13, x14, M15 => lt (M15 (1, 0, 0) 3) (fun v17 => (if v17 < x14 then some (0, x13.toInt64, M15) else rd M15 (31, v4, 0) 48 x14 (fun v19 => jn (fun (q : (Int32 × gM)) => match q with | (b20, M21) => lt (x14 + 1) (fun x22 => f_X10_walk_L91 N v4 v12 n16 b20 x22 M21)) (fun J127 => (if v19 ≤ 0 then J127 (x13, M15) else o1 (f_X1_isGood N M15 v4 x14 v12) (fun v25 => (if v25 = 0 then J127 (x13, M15) else lt (x13 + 1) (fun x27 => J127 (x27, M15)))))))))
def f_X10_walk_L32 (N : Nat) (a1 : Int32) (v4 : Nat) (x28 : Int32) (J70 : gM → Option (Nat × Int64 × gM)) (J76 : gM → Option (Nat × Int64 × gM)) : Nat → Int32 → gM → Option (Nat × Int64 × gM)
  | 0, _, _ => none
  | n36 + 1, x34, M35 => lt (M35 (1, 0, 0) 3) (fun v37 => (if v37 < x34 then J70 M35 else rd M35 (31, v4, 0) 48 x34 (fun v39 => jn (fun (M40 : gM) => lt (x34 + 1) (fun x41 => f_X10_walk_L32 N a1 v4 x28 J70 J76 n36 x41 M40)) (fun J64 => (if v39 = x28 then ob (f_X10_obtain N M35 v4 x34 x28) (fun v45 M44 => J64 M44) else J64 M35)))))
def f_X10_walk_L25 (N : Nat) (a1 : Int32) (v4 : Nat) (J76 : gM → Option (Nat × Int64 × gM)) : Nat → Int32 → gM → Option (Nat × Int64 × gM)
  | 0, _, _ => none
  | n30 + 1, x28, M29 => (if x28 ≤ 0 then J76 M29 else jn (fun (M32 : gM) => lt (x28 + (-1)) (fun x33 => f_X10_walk_L25 N a1 v4 J76 n30 x33 M32)) (fun J70 => f_X10_walk_L32 N a1 v4 x28 J70 J76 100 (0 : Int32) M29))
def f_X10_walk (N : Nat) (M : gM) (a1 : Int32) : Option (Nat × Int64 × gM) :=
  o1 (f_X10_checkClient N M a1) (fun k1 => (if k1 = 0 then ob (f_X10_startCall N M a1) (fun v4 M5 => gnl v4 4 (o1 (f_X10_isAlone N M5 v4) (fun v8 => (if v8 = 0 then jn (fun (M10 : gM) => o1 (f_X5_nearClient N M10 a1) (fun v12 => f_X10_walk_L91 N v4 v12 100 (0 : Int32) (0 : Int32) M10)) (fun J76 => f_X10_walk_L25 N a1 v4 J76 100 (9 : Int32) M5) else some (0, (-2199023255560 : Int64), M5))))) else some (k1, (0 : Int64), M)))
set_option maxHeartbeats 4000000 in
set_option maxRecDepth 100000 in
theorem t_X10_walk (l : Launch) (hst : l.stackTraces = false) (N : Nat) (D : va_G) (dA : Nat → ClassId) (A : gI → Nat) (hJ : gJ (cLive N) A) (tx : Nat → Nat) (sz : Nat) {M : gM} {a1 : Int32} {y : (Nat × Int64 × gM)} (h : f_X10_walk N M a1 = some y) : tMl l yX10_walk wmX10_walk ({ frames := 7, cells := 1, slots := 6, locals := 143 } : Room) N D dA A tx sz [.ref (A (0, 0, 0)), .int a1] M y 1 6 := by
  refine vx_ofW (cc := cX10_walk) (maxL := 6) (ret := (some .long)) (by decide) rfl ?_
  intro p e s m args below meth c s₁ B hml hout hv
  obtain ⟨rfl, hsz, hP, hK, hN, hT⟩ := hv
  subst hsz
  generalize hargs : ([.ref (A (0, 0, 0)), .int a1] : List Value).toArray = args at B ⊢
  have S : CallFix p m c cX10_walk 6 s args wmX10_walk RX10 := ⟨B.exec, B.bytes, hml, findClass_of_methodNamed B.named, atoms_spec (ws := wmX10_walk) B.pre⟩
  obtain ⟨hx, hb, -, hown, hts⟩ := id S
  have hr := B.returns
  have hlocks := B.notSynchronized
  have X : gX D vwCl dA (cLive N) A (cReg N A s.heap.size) s := ⟨hK, hJ, fun i hi => Or.inl ⟨i, hi, rfl⟩⟩
  have Z : tZ D N dA A s M s.heap [] := ⟨hP, va_S.rf⟩
  have hin_X0 : ∀ w ∈ wsX00, w ∈ wmX10_walk := tin cin_X0 (Or.inr trivial)
  have hin_X1 : ∀ w ∈ wsX10, w ∈ wmX10_walk := tin cin_X1 (Or.inr trivial)
  have hin_X10 : ∀ w ∈ wsX100, w ∈ wmX10_walk := tin cin_X10 (Or.inr trivial)
  have hl_25 := hts (.fieldLink RX10 25 "ReplicaFiles" "catalog" "LReplicaFiles$Catalog;") (tBc 532 rfl)
  have hl_34 := hts (.fieldLink RX10 34 "ReplicaFiles" "net" "LReplicaFiles$Net;") (tBc 535 rfl)
  have hl_120 := va_Nw.use (A := args) rfl (hN.1 ("ReplicaFiles", 120, "ReplicaFiles$Client", "priority", "[I", "ReplicaFiles") (by decide +kernel))
  have hl_208 := va_Nw.use (A := args) rfl (hN.1 ("ReplicaFiles", 208, "ReplicaFiles$Catalog", "made", "I", "ReplicaFiles") (by decide +kernel))
  have hc_193 := hts (.constantLong RX10 193 (-2199023255560)) (tBc 700 rfl)
  have hl := lv_entry ([.ref (A (0, 0, 0)), .int a1]) (n := 6) (Nat.le_of_ble_eq_true rfl)
  rw [← hargs, lg_entry_eq, hargs]
  generalize (lg_sl ([.ref (A (0, 0, 0)), .int a1]) ++ List.replicate (6 - (lg_sl ([.ref (A (0, 0, 0)), .int a1])).length) Slot.unset).toArray = ls at hl ⊢
  have hl : lv_has ls 6 [(0, .ref (A (0, 0, 0))), (1, .int a1)] := hl
  unfold f_X10_walk at h
  refine lv_iload_n hx hb dX10_walk_0 rfl (lv_at hl 1 rfl) ?_
  obtain ⟨k1, hc2, h⟩ := o1_e h
  refine t_chk X Z (vx_runS (As := [.int a1]) (rest := []) S (t_X10_checkClient l hst N D dA A hJ tx _ hc2) (va_cwS 1 hts (tTS (tB 591 rfl) (tB 592 rfl) (tB 107 rfl) (tB 585 rfl)) rfl rfl rfl (by decide +kernel) ⟨Nat.le_of_ble_eq_true rfl, Nat.le_of_ble_eq_true rfl⟩) ⟨tPc.blind, t_pre X hN hT Z _⟩ rfl rfl hl.1 rfl (lv_room (m := m) (pc := 1) (ls := ls) (rest := [.int a1]) (Nat.le_of_ble_eq_true rfl)) dX10_walk_1 ⟨Nat.le_of_ble_eq_true rfl, Nat.le_of_ble_eq_true rfl⟩) (fun hk3 ce q9 H locs Z hce hcv hcl => ?_) (fun hk3 H locs Z => ?_)
  · have h := if_f hk3 h
    have hy := Option.some.inj h
    subst hy
    exact t_out hk3 hout hlocks Z hce hcv hcl (Nat.le_of_ble_eq_true rfl) (Nat.le_of_ble_eq_true rfl)
  have h := if_t hk3 h
  refine lv_aload_n hx hb dX10_walk_4 rfl (lv_at hl 0 rfl) ?_
  refine lv_iload_n hx hb dX10_walk_5 rfl (lv_at hl 1 rfl) ?_
  obtain ⟨v4, M5, hc6, h⟩ := ob_e h
  obtain ⟨hv4, h⟩ := gnl_e h
  refine c_r X Z (c_V (i := (0, 0, 0)) (As := [.int a1]) (rest := []) S X hN Z (cl_one N 0 (by decide)) rfl rfl (t_X10_startCall l N D dA A hJ hc6) (cwV 1 hts (tGV (cB 640 rfl) (cB 641 rfl) (cB 642 rfl) (cB 107 rfl) (cB 597 rfl)) rfl rfl rfl (by decide +kernel) ⟨Nat.le_of_ble_eq_true rfl, Nat.le_of_ble_eq_true rfl⟩) rfl hl.1 rfl (Nat.le_of_ble_eq_true rfl) dX10_walk_6 ⟨Nat.le_of_ble_eq_true rfl, Nat.le_of_ble_eq_true rfl⟩) (fun H locs Z => ?_)
  refine lv_astore_n (lv' := [(2, .ref (A (30, v4, 0))), (0, .ref (A (0, 0, 0))), (1, .int a1)]) hx hb dX10_walk_9 rfl hl (by decide) rfl (fun ls hl => ?_)
  refine lv_aload_n hx hb dX10_walk_10 rfl (lv_at hl 1 rfl) ?_
  refine lv_aload_n hx hb dX10_walk_11 rfl (lv_at hl 0 rfl) ?_
  obtain ⟨v8, hc7, h⟩ := o1_e h
  refine c_i X Z (c_V (i := (0, 0, 0)) (As := [.ref (A (30, v4, 0))]) (rest := []) S X hN Z (cl_one N 0 (by decide)) rfl rfl (t_X10_isAlone l N D dA A hJ (cl_cli hv4) hc7) (cwV 1 hts (tGV (cB 612 rfl) (cB 613 rfl) (cB 614 rfl) (cB 107 rfl) (cB 605 rfl)) rfl rfl rfl (by decide +kernel) ⟨Nat.le_of_ble_eq_true rfl, Nat.le_of_ble_eq_true rfl⟩) rfl hl.1 rfl (Nat.le_of_ble_eq_true rfl) dX10_walk_12 ⟨Nat.le_of_ble_eq_true rfl, Nat.le_of_ble_eq_true rfl⟩) (fun H locs Z => ?_)
  refine lv_if_eq (tgt := 22) hx hb dX10_walk_15 (by decide) (fun c9 => ?_) (fun c9 => ?_)
  · have h := if_t c9 h
    refine lv_bipush (v := (9 : Int32)) hx hb dX10_walk_22 (by decide) ?_
    refine lv_istore_n (lv' := [(3, .int (9 : Int32)), (2, .ref (A (30, v4, 0))), (0, .ref (A (0, 0, 0))), (1, .int a1)]) hx hb dX10_walk_24 rfl hl (by decide) rfl (fun ls hl => ?_)
    obtain ⟨J76, eJ76, h⟩ := jn_e h
    have hJ76 : ∀ (M10 : gM) (H : Heap) (locs : List Loc) (ls : Array Slot), tZ D N dA A s M10 H locs → lv_has ls 6 [(0, .ref (A (0, 0, 0))), (1, .int a1), (2, .ref (A (30, v4, 0)))] → J76 M10 = some y → W p l e (headSpec wmX10_walk ({ frames := 7, cells := 1, slots := 6, locals := 143 } : Room)).room s m args below meth c H locs 1 6 (vx_MQ below (tQl N D dA A s.heap.size y) (tX N D dA A s.heap.size y.1 y.2.2) args s 1 6 (cReg N A s.heap.size)) (F0 m 76 ls []) := by
      intro M10 H locs ls Z hl h
      rw [eJ76] at h
      try dsimp only at h
      refine lv_iconst (v := (0 : Int32)) hx hb dX10_walk_76 (by decide) ?_
      refine lv_istore_n (lv' := [(3, .int (0 : Int32)), (0, .ref (A (0, 0, 0))), (1, .int a1), (2, .ref (A (30, v4, 0)))]) hx hb dX10_walk_77 rfl hl (by decide) rfl (fun ls hl => ?_)
      refine lv_aload_n hx hb dX10_walk_78 rfl (lv_at hl 1 rfl) ?_
      refine cr_X10_net S X Z hin_X10 (cl_one N 0 (by decide)) hl_34 dX10_walk_79 ?_
      refine lv_iload_n hx hb dX10_walk_82 rfl (lv_at hl 2 rfl) ?_
      obtain ⟨v12, hc11, h⟩ := o1_e h
      refine c_i X Z (c_V (i := (5, 0, 0)) (As := [.int a1]) (rest := []) S X hN Z (cl_one N 5 (by decide)) rfl rfl (t_X5_nearClient l N D dA A hJ  hc11) (cwV 1 hts (tGV (cB 606 rfl) (cB 607 rfl) (cB 608 rfl) (cB 485 rfl) (cB 492 rfl)) rfl rfl rfl (by decide +kernel) ⟨Nat.le_of_ble_eq_true rfl, Nat.le_of_ble_eq_true rfl⟩) rfl hl.1 rfl (Nat.le_of_ble_eq_true rfl) dX10_walk_83 ⟨Nat.le_of_ble_eq_true rfl, Nat.le_of_ble_eq_true rfl⟩) (fun H locs Z => ?_)
      refine lv_istore (lv' := [(4, .int v12), (3, .int (0 : Int32)), (0, .ref (A (0, 0, 0))), (1, .int a1), (2, .ref (A (30, v4, 0)))]) hx hb dX10_walk_86 hl (by decide) rfl (fun ls hl => ?_)
      refine lv_iconst (v := (0 : Int32)) hx hb dX10_walk_88 (by decide) ?_
      refine lv_istore (lv' := [(5, .int (0 : Int32)), (4, .int v12), (3, .int (0 : Int32)), (0, .ref (A (0, 0, 0))), (1, .int a1), (2, .ref (A (30, v4, 0)))]) hx hb dX10_walk_89 hl (by decide) rfl (fun ls hl => ?_)
      have hL91 : ∀ (n : Nat) (x13 : Int32) (x14 : Int32) (M15 : gM) (H : Heap) (locs : List Loc) (ls : Array Slot), tZ D N dA A s M15 H locs → lv_has ls 6 [(0, .ref (A (0, 0, 0))), (2, .ref (A (30, v4, 0))), (3, .int x13), (4, .int v12), (5, .int x14)] → f_X10_walk_L91 N v4 v12 n x13 x14 M15 = some y → W p l e (headSpec wmX10_walk ({ frames := 7, cells := 1, slots := 6, locals := 143 } : Room)).room s m args below meth c H locs 1 6 (vx_MQ below (tQl N D dA A s.heap.size y) (tX N D dA A s.heap.size y.1 y.2.2) args s 1 6 (cReg N A s.heap.size)) (F0 m 91 ls []) := by
        intro n
        induction n with
        | zero =>
          intro x13 x14 M15 H locs ls Z hl h
          rw [f_X10_walk_L91] at h
          cases h
        | succ n16 ih91 =>
          intro x13 x14 M15 H locs ls Z hl h
          rw [f_X10_walk_L91] at h
          refine lv_iload hx hb dX10_walk_91 (lv_at hl 4 rfl) ?_
          refine lv_aload_n hx hb dX10_walk_93 rfl (lv_at hl 0 rfl) ?_
          refine cr_X10_catalog S X Z hin_X10 (cl_one N 0 (by decide)) hl_25 dX10_walk_94 ?_
          refine cn_X0_made S X Z hin_X0 (cl_one N 1 (by decide)) hl_208 dX10_walk_97 h (fun v17 h => ?_)
          refine lv_icmp_gt (tgt := 133) hx hb dX10_walk_100 (by decide) (fun c18 => ?_) (fun c18 => ?_)
          · have h := if_t c18 h
            refine lv_iload_n hx hb dX10_walk_133 rfl (lv_at hl 2 rfl) ?_
            refine lv_i2l hx hb dX10_walk_134 rfl ?_
            have hy := Option.some.inj h
            subst hy
            exact t_rl S Z hr hlocks dX10_walk_135
          · have h := if_f c18 h
            refine lv_aload_n hx hb dX10_walk_103 rfl (lv_at hl 1 rfl) ?_
            refine cn_X1_priority (a := v4) S X Z hin_X1 (cl_cli hv4) hl_120 dX10_walk_104 ?_
            refine lv_iload hx hb dX10_walk_107 (lv_at hl 4 rfl) ?_
            refine g_iald (i := (31, v4, 0)) (n := 48) S X Z (cl_X1_priority (cl_cli hv4)) rfl dX10_walk_109 h (fun v19 h => ?_)
            obtain ⟨J127, eJ127, h⟩ := jn_e h
            have hJ127 : ∀ (b20 : Int32) (M21 : gM) (H : Heap) (locs : List Loc) (ls : Array Slot), tZ D N dA A s M21 H locs → lv_has ls 6 [(0, .ref (A (0, 0, 0))), (2, .ref (A (30, v4, 0))), (3, .int b20), (4, .int v12), (5, .int x14)] → J127 (b20, M21) = some y → W p l e (headSpec wmX10_walk ({ frames := 7, cells := 1, slots := 6, locals := 143 } : Room)).room s m args below meth c H locs 1 6 (vx_MQ below (tQl N D dA A s.heap.size y) (tX N D dA A s.heap.size y.1 y.2.2) args s 1 6 (cReg N A s.heap.size)) (F0 m 127 ls []) := by
              intro b20 M21 H locs ls Z hl h
              rw [eJ127] at h
              try dsimp only at h
              obtain ⟨x22, ex22, h⟩ := lt_e h
              refine lv_iinc (v := x22) (lv' := [(5, .int x22), (0, .ref (A (0, 0, 0))), (2, .ref (A (30, v4, 0))), (3, .int b20), (4, .int v12)]) hx hb dX10_walk_127 hl (k := 4) rfl (by rw [ex22]; rfl) (by decide) rfl (fun ls hl => ?_)
              refine lv_goto (tgt := 91) hx hb dX10_walk_130 (by decide) ?_
              exact ih91 b20 x22 M21 _ _ _ Z (lv_sub hl [1, 2, 3, 4, 0] rfl) h
            refine lv_if_le (tgt := 127) hx hb dX10_walk_110 (by decide) (fun c23 => ?_) (fun c23 => ?_)
            · have h := if_t c23 h
              exact hJ127 x13 M15 _ _ _ Z (lv_sub hl [0, 1, 2, 3, 4] rfl) h
            · have h := if_f c23 h
              refine lv_aload_n hx hb dX10_walk_113 rfl (lv_at hl 1 rfl) ?_
              refine lv_iload hx hb dX10_walk_114 (lv_at hl 4 rfl) ?_
              refine lv_iload hx hb dX10_walk_116 (lv_at hl 3 rfl) ?_
              obtain ⟨v25, hc24, h⟩ := o1_e h
              refine c_i X Z (c_V (i := (30, v4, 0)) (As := [.int x14, .int v12]) (rest := []) S X hN Z (cl_cli hv4) rfl rfl (t_X1_isGood l N D dA A hJ (cl_cli hv4) hc24) (cwV 2 hts (tGV (cB 615 rfl) (cB 616 rfl) (cB 617 rfl) (cB 64 rfl) (cB 65 rfl)) rfl rfl rfl (by decide +kernel) ⟨Nat.le_of_ble_eq_true rfl, Nat.le_of_ble_eq_true rfl⟩) rfl hl.1 rfl (Nat.le_of_ble_eq_true rfl) dX10_walk_118 ⟨Nat.le_of_ble_eq_true rfl, Nat.le_of_ble_eq_true rfl⟩) (fun H locs Z => ?_)
              refine lv_if_eq (tgt := 127) hx hb dX10_walk_121 (by decide) (fun c26 => ?_) (fun c26 => ?_)
              · have h := if_t c26 h
                exact hJ127 x13 M15 _ _ _ Z (lv_sub hl [0, 1, 2, 3, 4] rfl) h
              · have h := if_f c26 h
                obtain ⟨x27, ex27, h⟩ := lt_e h
                refine lv_iinc (v := x27) (lv' := [(3, .int x27), (0, .ref (A (0, 0, 0))), (2, .ref (A (30, v4, 0))), (4, .int v12), (5, .int x14)]) hx hb dX10_walk_124 hl (k := 2) rfl (by rw [ex27]; rfl) (by decide) rfl (fun ls hl => ?_)
                exact hJ127 x27 M15 _ _ _ Z (lv_sub hl [1, 2, 0, 3, 4] rfl) h
      exact hL91 100 (0 : Int32) (0 : Int32) M10 _ _ _ Z (lv_sub hl [3, 5, 2, 1, 0] rfl) h
    have hL25 : ∀ (n : Nat) (x28 : Int32) (M29 : gM) (H : Heap) (locs : List Loc) (ls : Array Slot), tZ D N dA A s M29 H locs → lv_has ls 6 [(0, .ref (A (0, 0, 0))), (1, .int a1), (2, .ref (A (30, v4, 0))), (3, .int x28)] → f_X10_walk_L25 N a1 v4 J76 n x28 M29 = some y → W p l e (headSpec wmX10_walk ({ frames := 7, cells := 1, slots := 6, locals := 143 } : Room)).room s m args below meth c H locs 1 6 (vx_MQ below (tQl N D dA A s.heap.size y) (tX N D dA A s.heap.size y.1 y.2.2) args s 1 6 (cReg N A s.heap.size)) (F0 m 25 ls []) := by
      intro n
      induction n with
      | zero =>
        intro x28 M29 H locs ls Z hl h
        rw [f_X10_walk_L25] at h
        cases h
      | succ n30 ih25 =>
        intro x28 M29 H locs ls Z hl h
        rw [f_X10_walk_L25] at h
        refine lv_iload_n hx hb dX10_walk_25 rfl (lv_at hl 3 rfl) ?_
        refine lv_if_le (tgt := 76) hx hb dX10_walk_26 (by decide) (fun c31 => ?_) (fun c31 => ?_)
        · have h := if_t c31 h
          exact hJ76 M29 _ _ _ Z (lv_sub hl [0, 1, 2] rfl) h
        · have h := if_f c31 h
          refine lv_iconst (v := (0 : Int32)) hx hb dX10_walk_29 (by decide) ?_
          refine lv_istore (lv' := [(4, .int (0 : Int32)), (0, .ref (A (0, 0, 0))), (1, .int a1), (2, .ref (A (30, v4, 0))), (3, .int x28)]) hx hb dX10_walk_30 hl (by decide) rfl (fun ls hl => ?_)
          obtain ⟨J70, eJ70, h⟩ := jn_e h
          have hJ70 : ∀ (M32 : gM) (H : Heap) (locs : List Loc) (ls : Array Slot), tZ D N dA A s M32 H locs → lv_has ls 6 [(0, .ref (A (0, 0, 0))), (1, .int a1), (2, .ref (A (30, v4, 0))), (3, .int x28)] → J70 M32 = some y → W p l e (headSpec wmX10_walk ({ frames := 7, cells := 1, slots := 6, locals := 143 } : Room)).room s m args below meth c H locs 1 6 (vx_MQ below (tQl N D dA A s.heap.size y) (tX N D dA A s.heap.size y.1 y.2.2) args s 1 6 (cReg N A s.heap.size)) (F0 m 70 ls []) := by
            intro M32 H locs ls Z hl h
            rw [eJ70] at h
            try dsimp only at h
            obtain ⟨x33, ex33, h⟩ := lt_e h
            refine lv_iinc (v := x33) (lv' := [(3, .int x33), (0, .ref (A (0, 0, 0))), (1, .int a1), (2, .ref (A (30, v4, 0)))]) hx hb dX10_walk_70 hl (k := 3) rfl (by rw [ex33]; rfl) (by decide) rfl (fun ls hl => ?_)
            refine lv_goto (tgt := 25) hx hb dX10_walk_73 (by decide) ?_
            exact ih25 x33 M32 _ _ _ Z (lv_sub hl [1, 2, 3, 0] rfl) h
          have hL32 : ∀ (n : Nat) (x34 : Int32) (M35 : gM) (H : Heap) (locs : List Loc) (ls : Array Slot), tZ D N dA A s M35 H locs → lv_has ls 6 [(0, .ref (A (0, 0, 0))), (1, .int a1), (2, .ref (A (30, v4, 0))), (3, .int x28), (4, .int x34)] → f_X10_walk_L32 N a1 v4 x28 J70 J76 n x34 M35 = some y → W p l e (headSpec wmX10_walk ({ frames := 7, cells := 1, slots := 6, locals := 143 } : Room)).room s m args below meth c H locs 1 6 (vx_MQ below (tQl N D dA A s.heap.size y) (tX N D dA A s.heap.size y.1 y.2.2) args s 1 6 (cReg N A s.heap.size)) (F0 m 32 ls []) := by
            intro n
            induction n with
            | zero =>
              intro x34 M35 H locs ls Z hl h
              rw [f_X10_walk_L32] at h
              cases h
            | succ n36 ih32 =>
              intro x34 M35 H locs ls Z hl h
              rw [f_X10_walk_L32] at h
              refine lv_iload hx hb dX10_walk_32 (lv_at hl 4 rfl) ?_
              refine lv_aload_n hx hb dX10_walk_34 rfl (lv_at hl 0 rfl) ?_
              refine cr_X10_catalog S X Z hin_X10 (cl_one N 0 (by decide)) hl_25 dX10_walk_35 ?_
              refine cn_X0_made S X Z hin_X0 (cl_one N 1 (by decide)) hl_208 dX10_walk_38 h (fun v37 h => ?_)
              refine lv_icmp_gt (tgt := 70) hx hb dX10_walk_41 (by decide) (fun c38 => ?_) (fun c38 => ?_)
              · have h := if_t c38 h
                exact hJ70 M35 _ _ _ Z (lv_sub hl [0, 1, 2, 3] rfl) h
              · have h := if_f c38 h
                refine lv_aload_n hx hb dX10_walk_44 rfl (lv_at hl 2 rfl) ?_
                refine cn_X1_priority (a := v4) S X Z hin_X1 (cl_cli hv4) hl_120 dX10_walk_45 ?_
                refine lv_iload hx hb dX10_walk_48 (lv_at hl 4 rfl) ?_
                refine g_iald (i := (31, v4, 0)) (n := 48) S X Z (cl_X1_priority (cl_cli hv4)) rfl dX10_walk_50 h (fun v39 h => ?_)
                refine lv_iload_n hx hb dX10_walk_51 rfl (lv_at hl 3 rfl) ?_
                obtain ⟨J64, eJ64, h⟩ := jn_e h
                have hJ64 : ∀ (M40 : gM) (H : Heap) (locs : List Loc) (ls : Array Slot), tZ D N dA A s M40 H locs → lv_has ls 6 [(0, .ref (A (0, 0, 0))), (1, .int a1), (2, .ref (A (30, v4, 0))), (3, .int x28), (4, .int x34)] → J64 M40 = some y → W p l e (headSpec wmX10_walk ({ frames := 7, cells := 1, slots := 6, locals := 143 } : Room)).room s m args below meth c H locs 1 6 (vx_MQ below (tQl N D dA A s.heap.size y) (tX N D dA A s.heap.size y.1 y.2.2) args s 1 6 (cReg N A s.heap.size)) (F0 m 64 ls []) := by
                  intro M40 H locs ls Z hl h
                  rw [eJ64] at h
                  try dsimp only at h
                  obtain ⟨x41, ex41, h⟩ := lt_e h
                  refine lv_iinc (v := x41) (lv' := [(4, .int x41), (0, .ref (A (0, 0, 0))), (1, .int a1), (2, .ref (A (30, v4, 0))), (3, .int x28)]) hx hb dX10_walk_64 hl (k := 4) rfl (by rw [ex41]; rfl) (by decide) rfl (fun ls hl => ?_)
                  refine lv_goto (tgt := 32) hx hb dX10_walk_67 (by decide) ?_
                  exact ih32 x41 M40 _ _ _ Z (lv_sub hl [1, 2, 3, 4, 0] rfl) h
                refine lv_icmp_ne (tgt := 64) hx hb dX10_walk_52 (by decide) (fun c42 => ?_) (fun c42 => ?_)
                · have h := if_f c42 h
                  exact hJ64 M35 _ _ _ Z (lv_sub hl [0, 1, 2, 3, 4] rfl) h
                · have h := if_t c42 h
                  refine lv_aload_n hx hb dX10_walk_55 rfl (lv_at hl 0 rfl) ?_
                  refine lv_aload_n hx hb dX10_walk_56 rfl (lv_at hl 2 rfl) ?_
                  refine lv_iload hx hb dX10_walk_57 (lv_at hl 4 rfl) ?_
                  refine lv_iload_n hx hb dX10_walk_59 rfl (lv_at hl 3 rfl) ?_
                  obtain ⟨v45, M44, hc43, h⟩ := ob_e h
                  refine c_l X Z (c_V (i := (0, 0, 0)) (As := [.ref (A (30, v4, 0)), .int x34, .int x28]) (rest := []) S X hN Z (cl_one N 0 (by decide)) rfl rfl (t_X10_obtain l N D dA A hJ (cl_cli hv4) hc43) (cwV 3 hts (tGV (cB 636 rfl) (cB 637 rfl) (cB 638 rfl) (cB 107 rfl) (cB 632 rfl)) rfl rfl rfl (by decide +kernel) ⟨Nat.le_of_ble_eq_true rfl, Nat.le_of_ble_eq_true rfl⟩) rfl hl.1 rfl (Nat.le_of_ble_eq_true rfl) dX10_walk_60 ⟨Nat.le_of_ble_eq_true rfl, Nat.le_of_ble_eq_true rfl⟩) (fun H locs Z => ?_)
                  refine lv_pop2_2 hx hb dX10_walk_63 rfl ?_
                  exact hJ64 M44 _ _ _ Z (lv_sub hl [0, 1, 2, 3, 4] rfl) h
          exact hL32 100 (0 : Int32) M29 _ _ _ Z (lv_sub hl [1, 2, 3, 4, 0] rfl) h
    exact hL25 100 (9 : Int32) M5 _ _ _ Z (lv_sub hl [2, 3, 1, 0] rfl) h
  · have h := if_f c9 h
    refine lv_ldc2 hx hb hown hc_193 dX10_walk_18 ?_
    have hy := Option.some.inj h
    subst hy
    exact t_rl S Z hr hlocks dX10_walk_21
-- X10_meet (I)J: 19 instructions
theorem dX10_meet_0 : decode cX10_meet 0 = .ok (.aload_n 0, 1) := by decide +kernel
theorem dX10_meet_1 : decode cX10_meet 1 = .ok (.iload_n 1, 1) := by decide +kernel
theorem dX10_meet_2 : decode cX10_meet 2 = .ok (.invokevirtual 85, 3) := by decide +kernel
theorem dX10_meet_5 : decode cX10_meet 5 = .ok (.aload_n 0, 1) := by decide +kernel
theorem dX10_meet_6 : decode cX10_meet 6 = .ok (.getfield 34, 3) := by decide +kernel
theorem dX10_meet_9 : decode cX10_meet 9 = .ok (.iload_n 1, 1) := by decide +kernel
theorem dX10_meet_10 : decode cX10_meet 10 = .ok (.invokevirtual 214, 3) := by decide +kernel
theorem dX10_meet_13 : decode cX10_meet 13 = .ok (.ifCond .ne 7, 3) := by decide +kernel
theorem dX10_meet_16 : decode cX10_meet 16 = .ok (.ldc2_w 174, 3) := by decide +kernel
theorem dX10_meet_19 : decode cX10_meet 19 = .ok (.lreturn, 1) := by decide +kernel
theorem dX10_meet_20 : decode cX10_meet 20 = .ok (.aload_n 0, 1) := by decide +kernel
theorem dX10_meet_21 : decode cX10_meet 21 = .ok (.getfield 81, 3) := by decide +kernel
theorem dX10_meet_24 : decode cX10_meet 24 = .ok (.aload_n 0, 1) := by decide +kernel
theorem dX10_meet_25 : decode cX10_meet 25 = .ok (.getfield 34, 3) := by decide +kernel
theorem dX10_meet_28 : decode cX10_meet 28 = .ok (.iload_n 1, 1) := by decide +kernel
theorem dX10_meet_29 : decode cX10_meet 29 = .ok (.invokevirtual 218, 3) := by decide +kernel
theorem dX10_meet_32 : decode cX10_meet 32 = .ok (.invokevirtual 221, 3) := by decide +kernel
theorem dX10_meet_35 : decode cX10_meet 35 = .ok (.i2l, 1) := by decide +kernel
theorem dX10_meet_36 : decode cX10_meet 36 = .ok (.lreturn, 1) := by decide +kernel
abbrev wmX10_meet : List Cond := .code yX10_meet cX10_meet 2 (some .long) :: tBig
def f_X10_meet (N : Nat) (M : gM) (a1 : Int32) : Option (Nat × Int64 × gM) :=
  o1 (f_X10_checkServer N M a1) (fun k1 => (if k1 = 0 then o1 (f_X5_isUp N M a1) (fun v5 => (if v5 = 0 then some (0, (-2199023255552 : Int64), M) else o1 (f_X5_nearServer N M a1) (fun v8 => ob (f_X4_hold N M v8) (fun v11 M10 => some (0, v11.toInt64, M10))))) else some (k1, (0 : Int64), M)))
set_option maxHeartbeats 4000000 in
set_option maxRecDepth 100000 in
theorem t_X10_meet (l : Launch) (hst : l.stackTraces = false) (N : Nat) (D : va_G) (dA : Nat → ClassId) (A : gI → Nat) (hJ : gJ (cLive N) A) (tx : Nat → Nat) (sz : Nat) {M : gM} {a1 : Int32} {y : (Nat × Int64 × gM)} (h : f_X10_meet N M a1 = some y) : tMl l yX10_meet wmX10_meet ({ frames := 7, cells := 1, slots := 6, locals := 158 } : Room) N D dA A tx sz [.ref (A (0, 0, 0)), .int a1] M y 1 6 := by
  refine vx_ofW (cc := cX10_meet) (maxL := 2) (ret := (some .long)) (by decide) rfl ?_
  intro p e s m args below meth c s₁ B hml hout hv
  obtain ⟨rfl, hsz, hP, hK, hN, hT⟩ := hv
  subst hsz
  generalize hargs : ([.ref (A (0, 0, 0)), .int a1] : List Value).toArray = args at B ⊢
  have S : CallFix p m c cX10_meet 2 s args wmX10_meet RX10 := ⟨B.exec, B.bytes, hml, findClass_of_methodNamed B.named, atoms_spec (ws := wmX10_meet) B.pre⟩
  obtain ⟨hx, hb, -, hown, hts⟩ := id S
  have hr := B.returns
  have hlocks := B.notSynchronized
  have X : gX D vwCl dA (cLive N) A (cReg N A s.heap.size) s := ⟨hK, hJ, fun i hi => Or.inl ⟨i, hi, rfl⟩⟩
  have Z : tZ D N dA A s M s.heap [] := ⟨hP, va_S.rf⟩
  have hin_X10 : ∀ w ∈ wsX100, w ∈ wmX10_meet := tin cin_X10 (Or.inr trivial)
  have hl_34 := hts (.fieldLink RX10 34 "ReplicaFiles" "net" "LReplicaFiles$Net;") (tBc 535 rfl)
  have hl_81 := hts (.fieldLink RX10 81 "ReplicaFiles" "meeting" "LReplicaFiles$Meeting;") (tBc 551 rfl)
  have hc_174 := hts (.constantLong RX10 174 (-2199023255552)) (tBc 602 rfl)
  have hl := lv_entry ([.ref (A (0, 0, 0)), .int a1]) (n := 2) (Nat.le_of_ble_eq_true rfl)
  rw [← hargs, lg_entry_eq, hargs]
  generalize (lg_sl ([.ref (A (0, 0, 0)), .int a1]) ++ List.replicate (2 - (lg_sl ([.ref (A (0, 0, 0)), .int a1])).length) Slot.unset).toArray = ls at hl ⊢
  have hl : lv_has ls 2 [(0, .ref (A (0, 0, 0))), (1, .int a1)] := hl
  unfold f_X10_meet at h
  refine lv_aload_n hx hb dX10_meet_0 rfl (lv_at hl 0 rfl) ?_
  refine lv_iload_n hx hb dX10_meet_1 rfl (lv_at hl 1 rfl) ?_
  obtain ⟨k1, hc2, h⟩ := o1_e h
  refine t_chk X Z (vx_runV (As := [.int a1]) (rest := []) (b := A (0, 0, 0)) S (t_X10_checkServer l hst N D dA A hJ tx _ hc2) (cwV 1 hts (tTV (tB 570 rfl) (tB 571 rfl) (tB 572 rfl) (tB 107 rfl) (tB 567 rfl)) rfl rfl rfl (by decide +kernel) ⟨Nat.le_of_ble_eq_true rfl, Nat.le_of_ble_eq_true rfl⟩) ⟨tPc.blind, g_recv X Z (cl_one N 0 (by decide)) rfl rfl, t_pre X hN hT Z _⟩ rfl rfl hl.1 rfl (lv_room (m := m) (pc := 2) (ls := ls) (rest := [.int a1, .ref (A (0, 0, 0))]) (Nat.le_of_ble_eq_true rfl)) dX10_meet_2 ⟨Nat.le_of_ble_eq_true rfl, Nat.le_of_ble_eq_true rfl⟩) (fun hk3 ce q9 H locs Z hce hcv hcl => ?_) (fun hk3 H locs Z => ?_)
  · have h := if_f hk3 h
    have hy := Option.some.inj h
    subst hy
    exact t_out hk3 hout hlocks Z hce hcv hcl (Nat.le_of_ble_eq_true rfl) (Nat.le_of_ble_eq_true rfl)
  have h := if_t hk3 h
  refine lv_aload_n hx hb dX10_meet_5 rfl (lv_at hl 0 rfl) ?_
  refine cr_X10_net S X Z hin_X10 (cl_one N 0 (by decide)) hl_34 dX10_meet_6 ?_
  refine lv_iload_n hx hb dX10_meet_9 rfl (lv_at hl 1 rfl) ?_
  obtain ⟨v5, hc4, h⟩ := o1_e h
  refine c_i X Z (c_V (i := (5, 0, 0)) (As := [.int a1]) (rest := []) S X hN Z (cl_one N 5 (by decide)) rfl rfl (t_X5_isUp l N D dA A hJ  hc4) (cwV 1 hts (tGV (cB 706 rfl) (cB 483 rfl) (cB 484 rfl) (cB 485 rfl) (cB 480 rfl)) rfl rfl rfl (by decide +kernel) ⟨Nat.le_of_ble_eq_true rfl, Nat.le_of_ble_eq_true rfl⟩) rfl hl.1 rfl (Nat.le_of_ble_eq_true rfl) dX10_meet_10 ⟨Nat.le_of_ble_eq_true rfl, Nat.le_of_ble_eq_true rfl⟩) (fun H locs Z => ?_)
  refine lv_if_ne (tgt := 20) hx hb dX10_meet_13 (by decide) (fun c6 => ?_) (fun c6 => ?_)
  · have h := if_f c6 h
    refine lv_aload_n hx hb dX10_meet_20 rfl (lv_at hl 0 rfl) ?_
    refine cr_X10_meeting S X Z hin_X10 (cl_one N 0 (by decide)) hl_81 dX10_meet_21 ?_
    refine lv_aload_n hx hb dX10_meet_24 rfl (lv_at hl 0 rfl) ?_
    refine cr_X10_net S X Z hin_X10 (cl_one N 0 (by decide)) hl_34 dX10_meet_25 ?_
    refine lv_iload_n hx hb dX10_meet_28 rfl (lv_at hl 1 rfl) ?_
    obtain ⟨v8, hc7, h⟩ := o1_e h
    refine c_i X Z (c_V (i := (5, 0, 0)) (As := [.int a1]) (rest := [.ref (A (13, 0, 0))]) S X hN Z (cl_one N 5 (by decide)) rfl rfl (t_X5_nearServer l N D dA A hJ  hc7) (cwV 1 hts (tGV (cB 707 rfl) (cB 708 rfl) (cB 709 rfl) (cB 485 rfl) (cB 491 rfl)) rfl rfl rfl (by decide +kernel) ⟨Nat.le_of_ble_eq_true rfl, Nat.le_of_ble_eq_true rfl⟩) rfl hl.1 rfl (Nat.le_of_ble_eq_true rfl) dX10_meet_29 ⟨Nat.le_of_ble_eq_true rfl, Nat.le_of_ble_eq_true rfl⟩) (fun H locs Z => ?_)
    obtain ⟨v11, M10, hc9, h⟩ := ob_e h
    refine c_i X Z (c_V (i := (13, 0, 0)) (As := [.int v8]) (rest := []) S X hN Z (cl_one N 13 (by decide)) rfl rfl (t_X4_hold l N D dA A hJ  hc9) (cwV 1 hts (tGV (cB 710 rfl) (cB 711 rfl) (cB 712 rfl) (cB 341 rfl) (cB 474 rfl)) rfl rfl rfl (by decide +kernel) ⟨Nat.le_of_ble_eq_true rfl, Nat.le_of_ble_eq_true rfl⟩) rfl hl.1 rfl (Nat.le_of_ble_eq_true rfl) dX10_meet_32 ⟨Nat.le_of_ble_eq_true rfl, Nat.le_of_ble_eq_true rfl⟩) (fun H locs Z => ?_)
    refine lv_i2l hx hb dX10_meet_35 rfl ?_
    have hy := Option.some.inj h
    subst hy
    exact t_rl S Z hr hlocks dX10_meet_36
  · have h := if_t c6 h
    refine lv_ldc2 hx hb hown hc_174 dX10_meet_16 ?_
    have hy := Option.some.inj h
    subst hy
    exact t_rl S Z hr hlocks dX10_meet_19
-- X10_repair (III)J: 59 instructions
theorem dX10_repair_0 : decode cX10_repair 0 = .ok (.iload_n 1, 1) := by decide +kernel
theorem dX10_repair_1 : decode cX10_repair 1 = .ok (.invokestatic 110, 3) := by decide +kernel
theorem dX10_repair_4 : decode cX10_repair 4 = .ok (.iload_n 2, 1) := by decide +kernel
theorem dX10_repair_5 : decode cX10_repair 5 = .ok (.invokestatic 113, 3) := by decide +kernel
theorem dX10_repair_8 : decode cX10_repair 8 = .ok (.aload_n 0, 1) := by decide +kernel
theorem dX10_repair_9 : decode cX10_repair 9 = .ok (.iload_n 2, 1) := by decide +kernel
theorem dX10_repair_10 : decode cX10_repair 10 = .ok (.iconst 0, 1) := by decide +kernel
theorem dX10_repair_11 : decode cX10_repair 11 = .ok (.invokevirtual 224, 3) := by decide +kernel
theorem dX10_repair_14 : decode cX10_repair 14 = .ok (.lstore 4, 2) := by decide +kernel
theorem dX10_repair_16 : decode cX10_repair 16 = .ok (.lload 4, 2) := by decide +kernel
theorem dX10_repair_18 : decode cX10_repair 18 = .ok (.lconst 0, 1) := by decide +kernel
theorem dX10_repair_19 : decode cX10_repair 19 = .ok (.lcmp, 1) := by decide +kernel
theorem dX10_repair_20 : decode cX10_repair 20 = .ok (.ifCond .eq 6, 3) := by decide +kernel
theorem dX10_repair_23 : decode cX10_repair 23 = .ok (.lload 4, 2) := by decide +kernel
theorem dX10_repair_25 : decode cX10_repair 25 = .ok (.lreturn, 1) := by decide +kernel
theorem dX10_repair_26 : decode cX10_repair 26 = .ok (.aload_n 0, 1) := by decide +kernel
theorem dX10_repair_27 : decode cX10_repair 27 = .ok (.aload_n 0, 1) := by decide +kernel
theorem dX10_repair_28 : decode cX10_repair 28 = .ok (.getfield 53, 3) := by decide +kernel
theorem dX10_repair_31 : decode cX10_repair 31 = .ok (.iload_n 1, 1) := by decide +kernel
theorem dX10_repair_32 : decode cX10_repair 32 = .ok (.aaload, 1) := by decide +kernel
theorem dX10_repair_33 : decode cX10_repair 33 = .ok (.invokevirtual 144, 3) := by decide +kernel
theorem dX10_repair_36 : decode cX10_repair 36 = .ok (.ifCond .eq 7, 3) := by decide +kernel
theorem dX10_repair_39 : decode cX10_repair 39 = .ok (.ldc2_w 193, 3) := by decide +kernel
theorem dX10_repair_42 : decode cX10_repair 42 = .ok (.lreturn, 1) := by decide +kernel
theorem dX10_repair_43 : decode cX10_repair 43 = .ok (.aload_n 0, 1) := by decide +kernel
theorem dX10_repair_44 : decode cX10_repair 44 = .ok (.getfield 34, 3) := by decide +kernel
theorem dX10_repair_47 : decode cX10_repair 47 = .ok (.iload_n 1, 1) := by decide +kernel
theorem dX10_repair_48 : decode cX10_repair 48 = .ok (.invokevirtual 190, 3) := by decide +kernel
theorem dX10_repair_51 : decode cX10_repair 51 = .ok (.istore 6, 2) := by decide +kernel
theorem dX10_repair_53 : decode cX10_repair 53 = .ok (.aload_n 0, 1) := by decide +kernel
theorem dX10_repair_54 : decode cX10_repair 54 = .ok (.getfield 65, 3) := by decide +kernel
theorem dX10_repair_57 : decode cX10_repair 57 = .ok (.iload 6, 2) := by decide +kernel
theorem dX10_repair_59 : decode cX10_repair 59 = .ok (.iload_n 2, 1) := by decide +kernel
theorem dX10_repair_60 : decode cX10_repair 60 = .ok (.invokevirtual 228, 3) := by decide +kernel
theorem dX10_repair_63 : decode cX10_repair 63 = .ok (.istore 7, 2) := by decide +kernel
theorem dX10_repair_65 : decode cX10_repair 65 = .ok (.iload 7, 2) := by decide +kernel
theorem dX10_repair_67 : decode cX10_repair 67 = .ok (.iconst (-1), 1) := by decide +kernel
theorem dX10_repair_68 : decode cX10_repair 68 = .ok (.if_icmp .eq 22, 3) := by decide +kernel
theorem dX10_repair_71 : decode cX10_repair 71 = .ok (.aload_n 0, 1) := by decide +kernel
theorem dX10_repair_72 : decode cX10_repair 72 = .ok (.getfield 44, 3) := by decide +kernel
theorem dX10_repair_75 : decode cX10_repair 75 = .ok (.iload 7, 2) := by decide +kernel
theorem dX10_repair_77 : decode cX10_repair 77 = .ok (.aaload, 1) := by decide +kernel
theorem dX10_repair_78 : decode cX10_repair 78 = .ok (.getfield 231, 3) := by decide +kernel
theorem dX10_repair_81 : decode cX10_repair 81 = .ok (.iload_n 2, 1) := by decide +kernel
theorem dX10_repair_82 : decode cX10_repair 82 = .ok (.aaload, 1) := by decide +kernel
theorem dX10_repair_83 : decode cX10_repair 83 = .ok (.iload_n 3, 1) := by decide +kernel
theorem dX10_repair_84 : decode cX10_repair 84 = .ok (.invokevirtual 235, 3) := by decide +kernel
theorem dX10_repair_87 : decode cX10_repair 87 = .ok (.ifCond .ne 7, 3) := by decide +kernel
theorem dX10_repair_90 : decode cX10_repair 90 = .ok (.ldc2_w 174, 3) := by decide +kernel
theorem dX10_repair_93 : decode cX10_repair 93 = .ok (.lreturn, 1) := by decide +kernel
theorem dX10_repair_94 : decode cX10_repair 94 = .ok (.aload_n 0, 1) := by decide +kernel
theorem dX10_repair_95 : decode cX10_repair 95 = .ok (.getfield 65, 3) := by decide +kernel
theorem dX10_repair_98 : decode cX10_repair 98 = .ok (.iload 6, 2) := by decide +kernel
theorem dX10_repair_100 : decode cX10_repair 100 = .ok (.iload_n 2, 1) := by decide +kernel
theorem dX10_repair_101 : decode cX10_repair 101 = .ok (.iload 7, 2) := by decide +kernel
theorem dX10_repair_103 : decode cX10_repair 103 = .ok (.iload_n 3, 1) := by decide +kernel
theorem dX10_repair_104 : decode cX10_repair 104 = .ok (.invokevirtual 240, 3) := by decide +kernel
theorem dX10_repair_107 : decode cX10_repair 107 = .ok (.i2l, 1) := by decide +kernel
theorem dX10_repair_108 : decode cX10_repair 108 = .ok (.lreturn, 1) := by decide +kernel
abbrev wmX10_repair : List Cond := .code yX10_repair cX10_repair 8 (some .long) :: tBig
def f_X10_repair (N : Nat) (M : gM) (a1 : Int32) (a2 : Int32) (a3 : Int32) : Option (Nat × Int64 × gM) :=
  o1 (f_X10_checkClient N M a1) (fun k1 => (if k1 = 0 then o1 (f_X10_checkObject N M a2) (fun k4 => (if k4 = 0 then o1 (f_X10_stopOfKind N M a2 (0 : Int32)) (fun v8 => (if (lg_cmp v8 (0 : Int64)) = 0 then ix a1 4 (fun v10 => o1 (f_X10_isAlone N M v10) (fun v12 => (if v12 = 0 then o1 (f_X5_nearClient N M a1) (fun v15 => o1 (f_X6_leastInConflict N M v15 a2) (fun v17 => (if v17 = (-1 : Int32) then some (0, (-2199023255552 : Int64), M) else ix v17 N (fun v19 => ix a2 48 (fun v20 => o1 (f_X9_has N M (48 * v19 + v20) a3) (fun v22 => (if v22 = 0 then some (0, (-2199023255552 : Int64), M) else ob (f_X6_settle N M v15 a2 v17 a3) (fun v26 M25 => some (0, v26.toInt64, M25))))))))) else some (0, (-2199023255560 : Int64), M)))) else some (0, v8, M))) else some (k4, (0 : Int64), M))) else some (k1, (0 : Int64), M)))
set_option maxHeartbeats 4000000 in
set_option maxRecDepth 100000 in
theorem t_X10_repair (l : Launch) (hst : l.stackTraces = false) (N : Nat) (D : va_G) (dA : Nat → ClassId) (A : gI → Nat) (hJ : gJ (cLive N) A) (tx : Nat → Nat) (sz : Nat) {M : gM} {a1 : Int32} {a2 : Int32} {a3 : Int32} {y : (Nat × Int64 × gM)} (h : f_X10_repair N M a1 a2 a3 = some y) : tMl l yX10_repair wmX10_repair ({ frames := 7, cells := 2, slots := 12, locals := 110 } : Room) N D dA A tx sz [.ref (A (0, 0, 0)), .int a1, .int a2, .int a3] M y 2 12 := by
  refine vx_ofW (cc := cX10_repair) (maxL := 8) (ret := (some .long)) (by decide) rfl ?_
  intro p e s m args below meth c s₁ B hml hout hv
  obtain ⟨rfl, hsz, hP, hK, hN, hT⟩ := hv
  subst hsz
  generalize hargs : ([.ref (A (0, 0, 0)), .int a1, .int a2, .int a3] : List Value).toArray = args at B ⊢
  have S : CallFix p m c cX10_repair 8 s args wmX10_repair RX10 := ⟨B.exec, B.bytes, hml, findClass_of_methodNamed B.named, atoms_spec (ws := wmX10_repair) B.pre⟩
  obtain ⟨hx, hb, -, hown, hts⟩ := id S
  have hr := B.returns
  have hlocks := B.notSynchronized
  have X : gX D vwCl dA (cLive N) A (cReg N A s.heap.size) s := ⟨hK, hJ, fun i hi => Or.inl ⟨i, hi, rfl⟩⟩
  have Z : tZ D N dA A s M s.heap [] := ⟨hP, va_S.rf⟩
  have hin_X10 : ∀ w ∈ wsX100, w ∈ wmX10_repair := tin cin_X10 (Or.inr trivial)
  have hin_X7 : ∀ w ∈ wsX70, w ∈ wmX10_repair := tin cin_X7 (Or.inr trivial)
  have hl_34 := hts (.fieldLink RX10 34 "ReplicaFiles" "net" "LReplicaFiles$Net;") (tBc 535 rfl)
  have hl_44 := hts (.fieldLink RX10 44 "ReplicaFiles" "servers" "[LReplicaFiles$Server;") (tBc 538 rfl)
  have hl_53 := hts (.fieldLink RX10 53 "ReplicaFiles" "clients" "[LReplicaFiles$Client;") (tBc 541 rfl)
  have hl_65 := hts (.fieldLink RX10 65 "ReplicaFiles" "replicas" "LReplicaFiles$Replicas;") (tBc 545 rfl)
  have hl_231 := va_Nw.use (A := args) rfl (hN.1 ("ReplicaFiles", 231, "ReplicaFiles$Server", "versions", "[LReplicaFiles$Versions;", "ReplicaFiles") (by decide +kernel))
  have hc_174 := hts (.constantLong RX10 174 (-2199023255552)) (tBc 602 rfl)
  have hc_193 := hts (.constantLong RX10 193 (-2199023255560)) (tBc 700 rfl)
  have hl := lv_entry ([.ref (A (0, 0, 0)), .int a1, .int a2, .int a3]) (n := 8) (Nat.le_of_ble_eq_true rfl)
  rw [← hargs, lg_entry_eq, hargs]
  generalize (lg_sl ([.ref (A (0, 0, 0)), .int a1, .int a2, .int a3]) ++ List.replicate (8 - (lg_sl ([.ref (A (0, 0, 0)), .int a1, .int a2, .int a3])).length) Slot.unset).toArray = ls at hl ⊢
  have hl : lv_has ls 8 [(0, .ref (A (0, 0, 0))), (1, .int a1), (2, .int a2), (3, .int a3)] := hl
  unfold f_X10_repair at h
  refine lv_iload_n hx hb dX10_repair_0 rfl (lv_at hl 1 rfl) ?_
  obtain ⟨k1, hc2, h⟩ := o1_e h
  refine t_chk X Z (vx_runS (As := [.int a1]) (rest := []) S (t_X10_checkClient l hst N D dA A hJ tx _ hc2) (va_cwS 1 hts (tTS (tB 591 rfl) (tB 592 rfl) (tB 107 rfl) (tB 585 rfl)) rfl rfl rfl (by decide +kernel) ⟨Nat.le_of_ble_eq_true rfl, Nat.le_of_ble_eq_true rfl⟩) ⟨tPc.blind, t_pre X hN hT Z _⟩ rfl rfl hl.1 rfl (lv_room (m := m) (pc := 1) (ls := ls) (rest := [.int a1]) (Nat.le_of_ble_eq_true rfl)) dX10_repair_1 ⟨Nat.le_of_ble_eq_true rfl, Nat.le_of_ble_eq_true rfl⟩) (fun hk3 ce q9 H locs Z hce hcv hcl => ?_) (fun hk3 H locs Z => ?_)
  · have h := if_f hk3 h
    have hy := Option.some.inj h
    subst hy
    exact t_out hk3 hout hlocks Z hce hcv hcl (Nat.le_of_ble_eq_true rfl) (Nat.le_of_ble_eq_true rfl)
  have h := if_t hk3 h
  refine lv_iload_n hx hb dX10_repair_4 rfl (lv_at hl 2 rfl) ?_
  obtain ⟨k4, hc5, h⟩ := o1_e h
  refine t_chk X Z (vx_runS (As := [.int a2]) (rest := []) S (t_X10_checkObject l hst N D dA A hJ tx _ hc5) (va_cwS 1 hts (tTS (tB 593 rfl) (tB 594 rfl) (tB 107 rfl) (tB 586 rfl)) rfl rfl rfl (by decide +kernel) ⟨Nat.le_of_ble_eq_true rfl, Nat.le_of_ble_eq_true rfl⟩) ⟨tPc.blind, t_pre X hN hT Z _⟩ rfl rfl hl.1 rfl (lv_room (m := m) (pc := 5) (ls := ls) (rest := [.int a2]) (Nat.le_of_ble_eq_true rfl)) dX10_repair_5 ⟨Nat.le_of_ble_eq_true rfl, Nat.le_of_ble_eq_true rfl⟩) (fun hk6 ce q9 H locs Z hce hcv hcl => ?_) (fun hk6 H locs Z => ?_)
  · have h := if_f hk6 h
    have hy := Option.some.inj h
    subst hy
    exact t_out hk6 hout hlocks Z hce hcv hcl (Nat.le_of_ble_eq_true rfl) (Nat.le_of_ble_eq_true rfl)
  have h := if_t hk6 h
  refine lv_aload_n hx hb dX10_repair_8 rfl (lv_at hl 0 rfl) ?_
  refine lv_iload_n hx hb dX10_repair_9 rfl (lv_at hl 2 rfl) ?_
  refine lv_iconst (v := (0 : Int32)) hx hb dX10_repair_10 (by decide) ?_
  obtain ⟨v8, hc7, h⟩ := o1_e h
  refine c_l X Z (c_V (i := (0, 0, 0)) (As := [.int a2, .int (0 : Int32)]) (rest := []) S X hN Z (cl_one N 0 (by decide)) rfl rfl (t_X10_stopOfKind l N D dA A hJ  hc7) (cwV 2 hts (tGV (cB 633 rfl) (cB 634 rfl) (cB 635 rfl) (cB 107 rfl) (cB 601 rfl)) rfl rfl rfl (by decide +kernel) ⟨Nat.le_of_ble_eq_true rfl, Nat.le_of_ble_eq_true rfl⟩) rfl hl.1 rfl (Nat.le_of_ble_eq_true rfl) dX10_repair_11 ⟨Nat.le_of_ble_eq_true rfl, Nat.le_of_ble_eq_true rfl⟩) (fun H locs Z => ?_)
  refine lv_lstore (lv' := [(4, .long v8), (0, .ref (A (0, 0, 0))), (1, .int a1), (2, .int a2), (3, .int a3)]) hx hb dX10_repair_14 hl (by decide) rfl (fun ls hl => ?_)
  refine lv_lload hx hb dX10_repair_16 (lv_at hl 0 rfl) ?_
  refine lv_lconst (v := (0 : Int64)) hx hb dX10_repair_18 (by decide) ?_
  refine W.lcmp hx hb dX10_repair_19 ?_
  refine lv_if_eq (tgt := 26) hx hb dX10_repair_20 (by decide) (fun c9 => ?_) (fun c9 => ?_)
  · have h := if_t c9 h
    refine lv_aload_n hx hb dX10_repair_26 rfl (lv_at hl 1 rfl) ?_
    refine lv_aload_n hx hb dX10_repair_27 rfl (lv_at hl 1 rfl) ?_
    refine cr_X10_clients S X Z hin_X10 (cl_one N 0 (by decide)) hl_53 dX10_repair_28 ?_
    refine lv_iload_n hx hb dX10_repair_31 rfl (lv_at hl 2 rfl) ?_
    refine g_aald (i := (8, 0, 0)) (ca := 3) ⟨rfl, rfl⟩ S X Z (cl_one N 8 (by decide)) rfl dX10_repair_32 h (fun v10 hv10 h => ?_)
    obtain ⟨v12, hc11, h⟩ := o1_e h
    refine c_i X Z (c_V (i := (0, 0, 0)) (As := [.ref (A (30, v10, 0))]) (rest := []) S X hN Z (cl_one N 0 (by decide)) rfl rfl (t_X10_isAlone l N D dA A hJ (cl_cli hv10) hc11) (cwV 1 hts (tGV (cB 612 rfl) (cB 613 rfl) (cB 614 rfl) (cB 107 rfl) (cB 605 rfl)) rfl rfl rfl (by decide +kernel) ⟨Nat.le_of_ble_eq_true rfl, Nat.le_of_ble_eq_true rfl⟩) rfl hl.1 rfl (Nat.le_of_ble_eq_true rfl) dX10_repair_33 ⟨Nat.le_of_ble_eq_true rfl, Nat.le_of_ble_eq_true rfl⟩) (fun H locs Z => ?_)
    refine lv_if_eq (tgt := 43) hx hb dX10_repair_36 (by decide) (fun c13 => ?_) (fun c13 => ?_)
    · have h := if_t c13 h
      refine lv_aload_n hx hb dX10_repair_43 rfl (lv_at hl 1 rfl) ?_
      refine cr_X10_net S X Z hin_X10 (cl_one N 0 (by decide)) hl_34 dX10_repair_44 ?_
      refine lv_iload_n hx hb dX10_repair_47 rfl (lv_at hl 2 rfl) ?_
      obtain ⟨v15, hc14, h⟩ := o1_e h
      refine c_i X Z (c_V (i := (5, 0, 0)) (As := [.int a1]) (rest := []) S X hN Z (cl_one N 5 (by decide)) rfl rfl (t_X5_nearClient l N D dA A hJ  hc14) (cwV 1 hts (tGV (cB 606 rfl) (cB 607 rfl) (cB 608 rfl) (cB 485 rfl) (cB 492 rfl)) rfl rfl rfl (by decide +kernel) ⟨Nat.le_of_ble_eq_true rfl, Nat.le_of_ble_eq_true rfl⟩) rfl hl.1 rfl (Nat.le_of_ble_eq_true rfl) dX10_repair_48 ⟨Nat.le_of_ble_eq_true rfl, Nat.le_of_ble_eq_true rfl⟩) (fun H locs Z => ?_)
      refine lv_istore (lv' := [(6, .int v15), (4, .long v8), (0, .ref (A (0, 0, 0))), (1, .int a1), (2, .int a2), (3, .int a3)]) hx hb dX10_repair_51 hl (by decide) rfl (fun ls hl => ?_)
      refine lv_aload_n hx hb dX10_repair_53 rfl (lv_at hl 2 rfl) ?_
      refine cr_X10_replicas S X Z hin_X10 (cl_one N 0 (by decide)) hl_65 dX10_repair_54 ?_
      refine lv_iload hx hb dX10_repair_57 (lv_at hl 0 rfl) ?_
      refine lv_iload_n hx hb dX10_repair_59 rfl (lv_at hl 4 rfl) ?_
      obtain ⟨v17, hc16, h⟩ := o1_e h
      refine c_i X Z (c_V (i := (10, 0, 0)) (As := [.int v15, .int a2]) (rest := []) S X hN Z (cl_one N 10 (by decide)) rfl rfl (t_X6_leastInConflict l N D dA A hJ  hc16) (cwV 2 hts (tGV (cB 714 rfl) (cB 715 rfl) (cB 716 rfl) (cB 203 rfl) (cB 501 rfl)) rfl rfl rfl (by decide +kernel) ⟨Nat.le_of_ble_eq_true rfl, Nat.le_of_ble_eq_true rfl⟩) rfl hl.1 rfl (Nat.le_of_ble_eq_true rfl) dX10_repair_60 ⟨Nat.le_of_ble_eq_true rfl, Nat.le_of_ble_eq_true rfl⟩) (fun H locs Z => ?_)
      refine lv_istore (lv' := [(7, .int v17), (6, .int v15), (4, .long v8), (0, .ref (A (0, 0, 0))), (1, .int a1), (2, .int a2), (3, .int a3)]) hx hb dX10_repair_63 hl (by decide) rfl (fun ls hl => ?_)
      refine lv_iload hx hb dX10_repair_65 (lv_at hl 0 rfl) ?_
      refine lv_iconst (v := (-1 : Int32)) hx hb dX10_repair_67 (by decide) ?_
      refine lv_icmp_eq (tgt := 90) hx hb dX10_repair_68 (by decide) (fun c18 => ?_) (fun c18 => ?_)
      · have h := if_t c18 h
        refine lv_ldc2 hx hb hown hc_174 dX10_repair_90 ?_
        have hy := Option.some.inj h
        subst hy
        exact t_rl S Z hr hlocks dX10_repair_93
      · have h := if_f c18 h
        refine lv_aload_n hx hb dX10_repair_71 rfl (lv_at hl 3 rfl) ?_
        refine cr_X10_servers S X Z hin_X10 (cl_one N 0 (by decide)) hl_44 dX10_repair_72 ?_
        refine lv_iload hx hb dX10_repair_75 (lv_at hl 0 rfl) ?_
        refine g_aald (i := (7, 0, 0)) (ca := 2) ⟨rfl, rfl⟩ S X Z (cl_one N 7 (by decide)) rfl dX10_repair_77 h (fun v19 hv19 h => ?_)
        refine cn_X7_versions (a := v19) S X Z hin_X7 (cl_srv hv19) hl_231 dX10_repair_78 ?_
        refine lv_iload_n hx hb dX10_repair_81 rfl (lv_at hl 5 rfl) ?_
        refine g_aald (i := (21, v19, 0)) (ca := 4) ⟨rfl, rfl⟩ S X Z (cl_X7_versions (cl_srv hv19)) rfl dX10_repair_82 h (fun v20 hv20 h => ?_)
        refine lv_iload_n hx hb dX10_repair_83 rfl (lv_at hl 6 rfl) ?_
        obtain ⟨v22, hc21, h⟩ := o1_e h
        refine c_i X Z (c_V (i := (60, (48 * v19 + v20), 0)) (As := [.int a3]) (rest := []) S X hN Z (cl_ver (cl_X7_versions (cl_srv hv19)) hv20) rfl rfl (t_X9_has l N D dA A hJ (cl_ver (cl_X7_versions (cl_srv hv19)) hv20) hc21) (cwV 1 hts (tGV (cB 717 rfl) (cB 432 rfl) (cB 433 rfl) (cB 191 rfl) (cB 428 rfl)) rfl rfl rfl (by decide +kernel) ⟨Nat.le_of_ble_eq_true rfl, Nat.le_of_ble_eq_true rfl⟩) rfl hl.1 rfl (Nat.le_of_ble_eq_true rfl) dX10_repair_84 ⟨Nat.le_of_ble_eq_true rfl, Nat.le_of_ble_eq_true rfl⟩) (fun H locs Z => ?_)
        refine lv_if_ne (tgt := 94) hx hb dX10_repair_87 (by decide) (fun c23 => ?_) (fun c23 => ?_)
        · have h := if_f c23 h
          refine lv_aload_n hx hb dX10_repair_94 rfl (lv_at hl 3 rfl) ?_
          refine cr_X10_replicas S X Z hin_X10 (cl_one N 0 (by decide)) hl_65 dX10_repair_95 ?_
          refine lv_iload hx hb dX10_repair_98 (lv_at hl 1 rfl) ?_
          refine lv_iload_n hx hb dX10_repair_100 rfl (lv_at hl 5 rfl) ?_
          refine lv_iload hx hb dX10_repair_101 (lv_at hl 0 rfl) ?_
          refine lv_iload_n hx hb dX10_repair_103 rfl (lv_at hl 6 rfl) ?_
          obtain ⟨v26, M25, hc24, h⟩ := ob_e h
          refine c_i X Z (c_V (i := (10, 0, 0)) (As := [.int v15, .int a2, .int v17, .int a3]) (rest := []) S X hN Z (cl_one N 10 (by decide)) rfl rfl (t_X6_settle l N D dA A hJ  hc24) (cwV 4 hts (tGV (cB 718 rfl) (cB 719 rfl) (cB 720 rfl) (cB 203 rfl) (cB 507 rfl)) rfl rfl rfl (by decide +kernel) ⟨Nat.le_of_ble_eq_true rfl, Nat.le_of_ble_eq_true rfl⟩) rfl hl.1 rfl (Nat.le_of_ble_eq_true rfl) dX10_repair_104 ⟨Nat.le_of_ble_eq_true rfl, Nat.le_of_ble_eq_true rfl⟩) (fun H locs Z => ?_)
          refine lv_i2l hx hb dX10_repair_107 rfl ?_
          have hy := Option.some.inj h
          subst hy
          exact t_rl S Z hr hlocks dX10_repair_108
        · have h := if_t c23 h
          refine lv_ldc2 hx hb hown hc_174 dX10_repair_90 ?_
          have hy := Option.some.inj h
          subst hy
          exact t_rl S Z hr hlocks dX10_repair_93
    · have h := if_f c13 h
      refine lv_ldc2 hx hb hown hc_193 dX10_repair_39 ?_
      have hy := Option.some.inj h
      subst hy
      exact t_rl S Z hr hlocks dX10_repair_42
  · have h := if_f c9 h
    refine lv_lload hx hb dX10_repair_23 (lv_at hl 0 rfl) ?_
    have hy := Option.some.inj h
    subst hy
    exact t_rl S Z hr hlocks dX10_repair_25
-- X10_copy (III)J: 55 instructions
theorem dX10_copy_0 : decode cX10_copy 0 = .ok (.aload_n 0, 1) := by decide +kernel
theorem dX10_copy_1 : decode cX10_copy 1 = .ok (.iload_n 1, 1) := by decide +kernel
theorem dX10_copy_2 : decode cX10_copy 2 = .ok (.invokevirtual 85, 3) := by decide +kernel
theorem dX10_copy_5 : decode cX10_copy 5 = .ok (.iload_n 2, 1) := by decide +kernel
theorem dX10_copy_6 : decode cX10_copy 6 = .ok (.invokestatic 113, 3) := by decide +kernel
theorem dX10_copy_9 : decode cX10_copy 9 = .ok (.iload_n 3, 1) := by decide +kernel
theorem dX10_copy_10 : decode cX10_copy 10 = .ok (.iconst 4, 1) := by decide +kernel
theorem dX10_copy_11 : decode cX10_copy 11 = .ok (.invokestatic 244, 3) := by decide +kernel
theorem dX10_copy_14 : decode cX10_copy 14 = .ok (.aload_n 0, 1) := by decide +kernel
theorem dX10_copy_15 : decode cX10_copy 15 = .ok (.getfield 44, 3) := by decide +kernel
theorem dX10_copy_18 : decode cX10_copy 18 = .ok (.iload_n 1, 1) := by decide +kernel
theorem dX10_copy_19 : decode cX10_copy 19 = .ok (.aaload, 1) := by decide +kernel
theorem dX10_copy_20 : decode cX10_copy 20 = .ok (.getfield 247, 3) := by decide +kernel
theorem dX10_copy_23 : decode cX10_copy 23 = .ok (.astore 4, 2) := by decide +kernel
theorem dX10_copy_25 : decode cX10_copy 25 = .ok (.aload 4, 2) := by decide +kernel
theorem dX10_copy_27 : decode cX10_copy 27 = .ok (.getfield 248, 3) := by decide +kernel
theorem dX10_copy_30 : decode cX10_copy 30 = .ok (.iload_n 2, 1) := by decide +kernel
theorem dX10_copy_31 : decode cX10_copy 31 = .ok (.baload, 1) := by decide +kernel
theorem dX10_copy_32 : decode cX10_copy 32 = .ok (.ifCond .ne 7, 3) := by decide +kernel
theorem dX10_copy_35 : decode cX10_copy 35 = .ok (.ldc2_w 174, 3) := by decide +kernel
theorem dX10_copy_38 : decode cX10_copy 38 = .ok (.lreturn, 1) := by decide +kernel
theorem dX10_copy_39 : decode cX10_copy 39 = .ok (.iload_n 3, 1) := by decide +kernel
theorem dX10_copy_40 : decode cX10_copy 40 = .ok (.tableswitch 74 0 3 #[32, 41, 50, 66], 32) := by decide +kernel
theorem dX10_copy_72 : decode cX10_copy 72 = .ok (.aload 4, 2) := by decide +kernel
theorem dX10_copy_74 : decode cX10_copy 74 = .ok (.getfield 141, 3) := by decide +kernel
theorem dX10_copy_77 : decode cX10_copy 77 = .ok (.iload_n 2, 1) := by decide +kernel
theorem dX10_copy_78 : decode cX10_copy 78 = .ok (.iaload, 1) := by decide +kernel
theorem dX10_copy_79 : decode cX10_copy 79 = .ok (.i2l, 1) := by decide +kernel
theorem dX10_copy_80 : decode cX10_copy 80 = .ok (.lreturn, 1) := by decide +kernel
theorem dX10_copy_81 : decode cX10_copy 81 = .ok (.aload 4, 2) := by decide +kernel
theorem dX10_copy_83 : decode cX10_copy 83 = .ok (.getfield 252, 3) := by decide +kernel
theorem dX10_copy_86 : decode cX10_copy 86 = .ok (.iload_n 2, 1) := by decide +kernel
theorem dX10_copy_87 : decode cX10_copy 87 = .ok (.iaload, 1) := by decide +kernel
theorem dX10_copy_88 : decode cX10_copy 88 = .ok (.i2l, 1) := by decide +kernel
theorem dX10_copy_89 : decode cX10_copy 89 = .ok (.lreturn, 1) := by decide +kernel
theorem dX10_copy_90 : decode cX10_copy 90 = .ok (.aload_n 0, 1) := by decide +kernel
theorem dX10_copy_91 : decode cX10_copy 91 = .ok (.getfield 44, 3) := by decide +kernel
theorem dX10_copy_94 : decode cX10_copy 94 = .ok (.iload_n 1, 1) := by decide +kernel
theorem dX10_copy_95 : decode cX10_copy 95 = .ok (.aaload, 1) := by decide +kernel
theorem dX10_copy_96 : decode cX10_copy 96 = .ok (.getfield 231, 3) := by decide +kernel
theorem dX10_copy_99 : decode cX10_copy 99 = .ok (.iload_n 2, 1) := by decide +kernel
theorem dX10_copy_100 : decode cX10_copy 100 = .ok (.aaload, 1) := by decide +kernel
theorem dX10_copy_101 : decode cX10_copy 101 = .ok (.getfield 255, 3) := by decide +kernel
theorem dX10_copy_104 : decode cX10_copy 104 = .ok (.i2l, 1) := by decide +kernel
theorem dX10_copy_105 : decode cX10_copy 105 = .ok (.lreturn, 1) := by decide +kernel
theorem dX10_copy_106 : decode cX10_copy 106 = .ok (.aload 4, 2) := by decide +kernel
theorem dX10_copy_108 : decode cX10_copy 108 = .ok (.iload_n 2, 1) := by decide +kernel
theorem dX10_copy_109 : decode cX10_copy 109 = .ok (.invokevirtual 256, 3) := by decide +kernel
theorem dX10_copy_112 : decode cX10_copy 112 = .ok (.i2l, 1) := by decide +kernel
theorem dX10_copy_113 : decode cX10_copy 113 = .ok (.lreturn, 1) := by decide +kernel
theorem dX10_copy_114 : decode cX10_copy 114 = .ok (.aload 4, 2) := by decide +kernel
theorem dX10_copy_116 : decode cX10_copy 116 = .ok (.iload_n 2, 1) := by decide +kernel
theorem dX10_copy_117 : decode cX10_copy 117 = .ok (.invokevirtual 180, 3) := by decide +kernel
theorem dX10_copy_120 : decode cX10_copy 120 = .ok (.i2l, 1) := by decide +kernel
theorem dX10_copy_121 : decode cX10_copy 121 = .ok (.lreturn, 1) := by decide +kernel
abbrev wmX10_copy : List Cond := .code yX10_copy cX10_copy 5 (some .long) :: tBig
def f_X10_copy (N : Nat) (M : gM) (a1 : Int32) (a2 : Int32) (a3 : Int32) : Option (Nat × Int64 × gM) :=
  o1 (f_X10_checkServer N M a1) (fun k1 => (if k1 = 0 then o1 (f_X10_checkObject N M a2) (fun k4 => (if k4 = 0 then o1 (f_X10_checkWhat N M a3 (4 : Int32)) (fun k7 => (if k7 = 0 then ix a1 N (fun v10 => rd M (51, v10, 0) 48 a2 (fun v11 => (if v11 = 0 then some (0, (-2199023255552 : Int64), M) else (if a3.toInt < 0 ∨ 3 < a3.toInt then o1 (f_X8_thereIn N M v10 a2) (fun v15 => some (0, v15.toInt64, M)) else (if a3 = 0 then rd M (52, v10, 0) 48 a2 (fun v17 => some (0, v17.toInt64, M)) else (if a3 = 1 then rd M (53, v10, 0) 48 a2 (fun v19 => some (0, v19.toInt64, M)) else (if a3 = 2 then ix a1 N (fun v21 => ix a2 48 (fun v22 => lt (M (60, (48 * v21 + v22), 0) 3) (fun v23 => some (0, v23.toInt64, M)))) else (if a3 = 3 then o1 (f_X8_entriesIn N M v10 a2) (fun v26 => some (0, v26.toInt64, M)) else none)))))))) else some (k7, (0 : Int64), M))) else some (k4, (0 : Int64), M))) else some (k1, (0 : Int64), M)))
set_option maxHeartbeats 4000000 in
set_option maxRecDepth 100000 in
theorem t_X10_copy (l : Launch) (hst : l.stackTraces = false) (N : Nat) (D : va_G) (dA : Nat → ClassId) (A : gI → Nat) (hJ : gJ (cLive N) A) (tx : Nat → Nat) (sz : Nat) {M : gM} {a1 : Int32} {a2 : Int32} {a3 : Int32} {y : (Nat × Int64 × gM)} (h : f_X10_copy N M a1 a2 a3 = some y) : tMl l yX10_copy wmX10_copy ({ frames := 7, cells := 3, slots := 18, locals := 111 } : Room) N D dA A tx sz [.ref (A (0, 0, 0)), .int a1, .int a2, .int a3] M y 3 18 := by
  refine vx_ofW (cc := cX10_copy) (maxL := 5) (ret := (some .long)) (by decide) rfl ?_
  intro p e s m args below meth c s₁ B hml hout hv
  obtain ⟨rfl, hsz, hP, hK, hN, hT⟩ := hv
  subst hsz
  generalize hargs : ([.ref (A (0, 0, 0)), .int a1, .int a2, .int a3] : List Value).toArray = args at B ⊢
  have S : CallFix p m c cX10_copy 5 s args wmX10_copy RX10 := ⟨B.exec, B.bytes, hml, findClass_of_methodNamed B.named, atoms_spec (ws := wmX10_copy) B.pre⟩
  obtain ⟨hx, hb, -, hown, hts⟩ := id S
  have hr := B.returns
  have hlocks := B.notSynchronized
  have X : gX D vwCl dA (cLive N) A (cReg N A s.heap.size) s := ⟨hK, hJ, fun i hi => Or.inl ⟨i, hi, rfl⟩⟩
  have Z : tZ D N dA A s M s.heap [] := ⟨hP, va_S.rf⟩
  have hin_X10 : ∀ w ∈ wsX100, w ∈ wmX10_copy := tin cin_X10 (Or.inr trivial)
  have hin_X7 : ∀ w ∈ wsX70, w ∈ wmX10_copy := tin cin_X7 (Or.inr trivial)
  have hin_X8 : ∀ w ∈ wsX80, w ∈ wmX10_copy := tin cin_X8 (Or.inr trivial)
  have hin_X9 : ∀ w ∈ wsX90, w ∈ wmX10_copy := tin cin_X9 (Or.inr trivial)
  have hl_44 := hts (.fieldLink RX10 44 "ReplicaFiles" "servers" "[LReplicaFiles$Server;") (tBc 538 rfl)
  have hl_141 := va_Nw.use (A := args) rfl (hN.1 ("ReplicaFiles", 141, "ReplicaFiles$Tree", "value", "[I", "ReplicaFiles") (by decide +kernel))
  have hl_231 := va_Nw.use (A := args) rfl (hN.1 ("ReplicaFiles", 231, "ReplicaFiles$Server", "versions", "[LReplicaFiles$Versions;", "ReplicaFiles") (by decide +kernel))
  have hl_247 := va_Nw.use (A := args) rfl (hN.1 ("ReplicaFiles", 247, "ReplicaFiles$Server", "tree", "LReplicaFiles$Tree;", "ReplicaFiles") (by decide +kernel))
  have hl_248 := va_Nw.use (A := args) rfl (hN.1 ("ReplicaFiles", 248, "ReplicaFiles$Tree", "held", "[Z", "ReplicaFiles") (by decide +kernel))
  have hl_252 := va_Nw.use (A := args) rfl (hN.1 ("ReplicaFiles", 252, "ReplicaFiles$Tree", "size", "[I", "ReplicaFiles") (by decide +kernel))
  have hl_255 := va_Nw.use (A := args) rfl (hN.1 ("ReplicaFiles", 255, "ReplicaFiles$Versions", "length", "I", "ReplicaFiles") (by decide +kernel))
  have hc_174 := hts (.constantLong RX10 174 (-2199023255552)) (tBc 602 rfl)
  have hl := lv_entry ([.ref (A (0, 0, 0)), .int a1, .int a2, .int a3]) (n := 5) (Nat.le_of_ble_eq_true rfl)
  rw [← hargs, lg_entry_eq, hargs]
  generalize (lg_sl ([.ref (A (0, 0, 0)), .int a1, .int a2, .int a3]) ++ List.replicate (5 - (lg_sl ([.ref (A (0, 0, 0)), .int a1, .int a2, .int a3])).length) Slot.unset).toArray = ls at hl ⊢
  have hl : lv_has ls 5 [(0, .ref (A (0, 0, 0))), (1, .int a1), (2, .int a2), (3, .int a3)] := hl
  unfold f_X10_copy at h
  refine lv_aload_n hx hb dX10_copy_0 rfl (lv_at hl 0 rfl) ?_
  refine lv_iload_n hx hb dX10_copy_1 rfl (lv_at hl 1 rfl) ?_
  obtain ⟨k1, hc2, h⟩ := o1_e h
  refine t_chk X Z (vx_runV (As := [.int a1]) (rest := []) (b := A (0, 0, 0)) S (t_X10_checkServer l hst N D dA A hJ tx _ hc2) (cwV 1 hts (tTV (tB 570 rfl) (tB 571 rfl) (tB 572 rfl) (tB 107 rfl) (tB 567 rfl)) rfl rfl rfl (by decide +kernel) ⟨Nat.le_of_ble_eq_true rfl, Nat.le_of_ble_eq_true rfl⟩) ⟨tPc.blind, g_recv X Z (cl_one N 0 (by decide)) rfl rfl, t_pre X hN hT Z _⟩ rfl rfl hl.1 rfl (lv_room (m := m) (pc := 2) (ls := ls) (rest := [.int a1, .ref (A (0, 0, 0))]) (Nat.le_of_ble_eq_true rfl)) dX10_copy_2 ⟨Nat.le_of_ble_eq_true rfl, Nat.le_of_ble_eq_true rfl⟩) (fun hk3 ce q9 H locs Z hce hcv hcl => ?_) (fun hk3 H locs Z => ?_)
  · have h := if_f hk3 h
    have hy := Option.some.inj h
    subst hy
    exact t_out hk3 hout hlocks Z hce hcv hcl (Nat.le_of_ble_eq_true rfl) (Nat.le_of_ble_eq_true rfl)
  have h := if_t hk3 h
  refine lv_iload_n hx hb dX10_copy_5 rfl (lv_at hl 2 rfl) ?_
  obtain ⟨k4, hc5, h⟩ := o1_e h
  refine t_chk X Z (vx_runS (As := [.int a2]) (rest := []) S (t_X10_checkObject l hst N D dA A hJ tx _ hc5) (va_cwS 1 hts (tTS (tB 593 rfl) (tB 594 rfl) (tB 107 rfl) (tB 586 rfl)) rfl rfl rfl (by decide +kernel) ⟨Nat.le_of_ble_eq_true rfl, Nat.le_of_ble_eq_true rfl⟩) ⟨tPc.blind, t_pre X hN hT Z _⟩ rfl rfl hl.1 rfl (lv_room (m := m) (pc := 6) (ls := ls) (rest := [.int a2]) (Nat.le_of_ble_eq_true rfl)) dX10_copy_6 ⟨Nat.le_of_ble_eq_true rfl, Nat.le_of_ble_eq_true rfl⟩) (fun hk6 ce q9 H locs Z hce hcv hcl => ?_) (fun hk6 H locs Z => ?_)
  · have h := if_f hk6 h
    have hy := Option.some.inj h
    subst hy
    exact t_out hk6 hout hlocks Z hce hcv hcl (Nat.le_of_ble_eq_true rfl) (Nat.le_of_ble_eq_true rfl)
  have h := if_t hk6 h
  refine lv_iload_n hx hb dX10_copy_9 rfl (lv_at hl 3 rfl) ?_
  refine lv_iconst (v := (4 : Int32)) hx hb dX10_copy_10 (by decide) ?_
  obtain ⟨k7, hc8, h⟩ := o1_e h
  refine t_chk X Z (vx_runS (As := [.int a3, .int (4 : Int32)]) (rest := []) S (t_X10_checkWhat l hst N D dA A hJ tx _ hc8) (va_cwS 2 hts (tTS (tB 723 rfl) (tB 724 rfl) (tB 107 rfl) (tB 722 rfl)) rfl rfl rfl (by decide +kernel) ⟨Nat.le_of_ble_eq_true rfl, Nat.le_of_ble_eq_true rfl⟩) ⟨tPc.blind, t_pre X hN hT Z _⟩ rfl rfl hl.1 rfl (lv_room (m := m) (pc := 11) (ls := ls) (rest := [.int (4 : Int32), .int a3]) (Nat.le_of_ble_eq_true rfl)) dX10_copy_11 ⟨Nat.le_of_ble_eq_true rfl, Nat.le_of_ble_eq_true rfl⟩) (fun hk9 ce q9 H locs Z hce hcv hcl => ?_) (fun hk9 H locs Z => ?_)
  · have h := if_f hk9 h
    have hy := Option.some.inj h
    subst hy
    exact t_out hk9 hout hlocks Z hce hcv hcl (Nat.le_of_ble_eq_true rfl) (Nat.le_of_ble_eq_true rfl)
  have h := if_t hk9 h
  refine lv_aload_n hx hb dX10_copy_14 rfl (lv_at hl 0 rfl) ?_
  refine cr_X10_servers S X Z hin_X10 (cl_one N 0 (by decide)) hl_44 dX10_copy_15 ?_
  refine lv_iload_n hx hb dX10_copy_18 rfl (lv_at hl 1 rfl) ?_
  refine g_aald (i := (7, 0, 0)) (ca := 2) ⟨rfl, rfl⟩ S X Z (cl_one N 7 (by decide)) rfl dX10_copy_19 h (fun v10 hv10 h => ?_)
  refine cn_X7_tree (a := v10) S X Z hin_X7 (cl_srv hv10) hl_247 dX10_copy_20 ?_
  refine lv_astore (lv' := [(4, .ref (A (50, v10, 0))), (0, .ref (A (0, 0, 0))), (1, .int a1), (2, .int a2), (3, .int a3)]) hx hb dX10_copy_23 hl (by decide) rfl (fun ls hl => ?_)
  refine lv_aload hx hb dX10_copy_25 (lv_at hl 0 rfl) ?_
  refine cn_X8_held (a := v10) S X Z hin_X8 (cl_st (cl_srv hv10)) hl_248 dX10_copy_27 ?_
  refine lv_iload_n hx hb dX10_copy_30 rfl (lv_at hl 3 rfl) ?_
  refine g_zald (i := (51, v10, 0)) (n := 48) S X Z (cl_X8_held (cl_st (cl_srv hv10))) rfl dX10_copy_31 h (fun v11 h => ?_)
  refine lv_if_ne (tgt := 39) hx hb dX10_copy_32 (by decide) (fun c12 => ?_) (fun c12 => ?_)
  · have h := if_f c12 h
    refine lv_iload_n hx hb dX10_copy_39 rfl (lv_at hl 4 rfl) ?_
    by_cases c13 : a3.toInt < 0 ∨ 3 < a3.toInt
    · have h := if_t c13 h
      refine lv_tableOut (tgt := 114) hx hb dX10_copy_40 c13 (by decide) ?_
      refine lv_aload hx hb dX10_copy_114 (lv_at hl 0 rfl) ?_
      refine lv_iload_n hx hb dX10_copy_116 rfl (lv_at hl 3 rfl) ?_
      obtain ⟨v15, hc14, h⟩ := o1_e h
      refine c_i X Z (c_V (i := (50, v10, 0)) (As := [.int a2]) (rest := []) S X hN Z (cl_st (cl_srv hv10)) rfl rfl (t_X8_thereIn l N D dA A hJ (cl_st (cl_srv hv10)) hc14) (cwV 1 hts (tGV (cB 692 rfl) (cB 295 rfl) (cB 296 rfl) (cB 44 rfl) (cB 269 rfl)) rfl rfl rfl (by decide +kernel) ⟨Nat.le_of_ble_eq_true rfl, Nat.le_of_ble_eq_true rfl⟩) rfl hl.1 rfl (Nat.le_of_ble_eq_true rfl) dX10_copy_117 ⟨Nat.le_of_ble_eq_true rfl, Nat.le_of_ble_eq_true rfl⟩) (fun H locs Z => ?_)
      refine lv_i2l hx hb dX10_copy_120 rfl ?_
      have hy := Option.some.inj h
      subst hy
      exact t_rl S Z hr hlocks dX10_copy_121
    · have h := if_f c13 h
      by_cases c16 : a3 = 0
      · have h := if_t c16 h
        refine lv_tableIn (off := 32) (tgt := 72) hx hb dX10_copy_40 (fun q => c13 (Or.inl q)) (fun q => c13 (Or.inr q)) (by rw [c16]; decide) (by decide) ?_
        refine lv_aload hx hb dX10_copy_72 (lv_at hl 0 rfl) ?_
        refine cn_X8_value (a := v10) S X Z hin_X8 (cl_st (cl_srv hv10)) hl_141 dX10_copy_74 ?_
        refine lv_iload_n hx hb dX10_copy_77 rfl (lv_at hl 3 rfl) ?_
        refine g_iald (i := (52, v10, 0)) (n := 48) S X Z (cl_X8_value (cl_st (cl_srv hv10))) rfl dX10_copy_78 h (fun v17 h => ?_)
        refine lv_i2l hx hb dX10_copy_79 rfl ?_
        have hy := Option.some.inj h
        subst hy
        exact t_rl S Z hr hlocks dX10_copy_80
      have h := if_f c16 h
      by_cases c18 : a3 = 1
      · have h := if_t c18 h
        refine lv_tableIn (off := 41) (tgt := 81) hx hb dX10_copy_40 (fun q => c13 (Or.inl q)) (fun q => c13 (Or.inr q)) (by rw [c18]; decide) (by decide) ?_
        refine lv_aload hx hb dX10_copy_81 (lv_at hl 0 rfl) ?_
        refine cn_X8_size (a := v10) S X Z hin_X8 (cl_st (cl_srv hv10)) hl_252 dX10_copy_83 ?_
        refine lv_iload_n hx hb dX10_copy_86 rfl (lv_at hl 3 rfl) ?_
        refine g_iald (i := (53, v10, 0)) (n := 48) S X Z (cl_X8_size (cl_st (cl_srv hv10))) rfl dX10_copy_87 h (fun v19 h => ?_)
        refine lv_i2l hx hb dX10_copy_88 rfl ?_
        have hy := Option.some.inj h
        subst hy
        exact t_rl S Z hr hlocks dX10_copy_89
      have h := if_f c18 h
      by_cases c20 : a3 = 2
      · have h := if_t c20 h
        refine lv_tableIn (off := 50) (tgt := 90) hx hb dX10_copy_40 (fun q => c13 (Or.inl q)) (fun q => c13 (Or.inr q)) (by rw [c20]; decide) (by decide) ?_
        refine lv_aload_n hx hb dX10_copy_90 rfl (lv_at hl 1 rfl) ?_
        refine cr_X10_servers S X Z hin_X10 (cl_one N 0 (by decide)) hl_44 dX10_copy_91 ?_
        refine lv_iload_n hx hb dX10_copy_94 rfl (lv_at hl 2 rfl) ?_
        refine g_aald (i := (7, 0, 0)) (ca := 2) ⟨rfl, rfl⟩ S X Z (cl_one N 7 (by decide)) rfl dX10_copy_95 h (fun v21 hv21 h => ?_)
        refine cn_X7_versions (a := v21) S X Z hin_X7 (cl_srv hv21) hl_231 dX10_copy_96 ?_
        refine lv_iload_n hx hb dX10_copy_99 rfl (lv_at hl 3 rfl) ?_
        refine g_aald (i := (21, v21, 0)) (ca := 4) ⟨rfl, rfl⟩ S X Z (cl_X7_versions (cl_srv hv21)) rfl dX10_copy_100 h (fun v22 hv22 h => ?_)
        refine cn_X9_length (a := (48 * v21 + v22)) S X Z hin_X9 (cl_ver (cl_X7_versions (cl_srv hv21)) hv22) hl_255 dX10_copy_101 h (fun v23 h => ?_)
        refine lv_i2l hx hb dX10_copy_104 rfl ?_
        have hy := Option.some.inj h
        subst hy
        exact t_rl S Z hr hlocks dX10_copy_105
      have h := if_f c20 h
      by_cases c24 : a3 = 3
      · have h := if_t c24 h
        refine lv_tableIn (off := 66) (tgt := 106) hx hb dX10_copy_40 (fun q => c13 (Or.inl q)) (fun q => c13 (Or.inr q)) (by rw [c24]; decide) (by decide) ?_
        refine lv_aload hx hb dX10_copy_106 (lv_at hl 0 rfl) ?_
        refine lv_iload_n hx hb dX10_copy_108 rfl (lv_at hl 3 rfl) ?_
        obtain ⟨v26, hc25, h⟩ := o1_e h
        refine c_i X Z (c_V (i := (50, v10, 0)) (As := [.int a2]) (rest := []) S X hN Z (cl_st (cl_srv hv10)) rfl rfl (t_X8_entriesIn l N D dA A hJ (cl_st (cl_srv hv10)) hc25) (cwV 1 hts (tGV (cB 725 rfl) (cB 726 rfl) (cB 727 rfl) (cB 44 rfl) (cB 518 rfl)) rfl rfl rfl (by decide +kernel) ⟨Nat.le_of_ble_eq_true rfl, Nat.le_of_ble_eq_true rfl⟩) rfl hl.1 rfl (Nat.le_of_ble_eq_true rfl) dX10_copy_109 ⟨Nat.le_of_ble_eq_true rfl, Nat.le_of_ble_eq_true rfl⟩) (fun H locs Z => ?_)
        refine lv_i2l hx hb dX10_copy_112 rfl ?_
        have hy := Option.some.inj h
        subst hy
        exact t_rl S Z hr hlocks dX10_copy_113
      have h := if_f c24 h
      cases h
  · have h := if_t c12 h
    refine lv_ldc2 hx hb hown hc_174 dX10_copy_35 ?_
    have hy := Option.some.inj h
    subst hy
    exact t_rl S Z hr hlocks dX10_copy_38
-- X10_vector (IIII)J: 57 instructions
theorem dX10_vector_0 : decode cX10_vector 0 = .ok (.aload_n 0, 1) := by decide +kernel
theorem dX10_vector_1 : decode cX10_vector 1 = .ok (.iload_n 1, 1) := by decide +kernel
theorem dX10_vector_2 : decode cX10_vector 2 = .ok (.invokevirtual 85, 3) := by decide +kernel
theorem dX10_vector_5 : decode cX10_vector 5 = .ok (.iload_n 2, 1) := by decide +kernel
theorem dX10_vector_6 : decode cX10_vector 6 = .ok (.invokestatic 113, 3) := by decide +kernel
theorem dX10_vector_9 : decode cX10_vector 9 = .ok (.iload 4, 2) := by decide +kernel
theorem dX10_vector_11 : decode cX10_vector 11 = .ok (.aload_n 0, 1) := by decide +kernel
theorem dX10_vector_12 : decode cX10_vector 12 = .ok (.getfield 18, 3) := by decide +kernel
theorem dX10_vector_15 : decode cX10_vector 15 = .ok (.iconst 4, 1) := by decide +kernel
theorem dX10_vector_16 : decode cX10_vector 16 = .ok (.iadd, 1) := by decide +kernel
theorem dX10_vector_17 : decode cX10_vector 17 = .ok (.iconst 1, 1) := by decide +kernel
theorem dX10_vector_18 : decode cX10_vector 18 = .ok (.isub, 1) := by decide +kernel
theorem dX10_vector_19 : decode cX10_vector 19 = .ok (.invokestatic 244, 3) := by decide +kernel
theorem dX10_vector_22 : decode cX10_vector 22 = .ok (.aload_n 0, 1) := by decide +kernel
theorem dX10_vector_23 : decode cX10_vector 23 = .ok (.getfield 44, 3) := by decide +kernel
theorem dX10_vector_26 : decode cX10_vector 26 = .ok (.iload_n 1, 1) := by decide +kernel
theorem dX10_vector_27 : decode cX10_vector 27 = .ok (.aaload, 1) := by decide +kernel
theorem dX10_vector_28 : decode cX10_vector 28 = .ok (.astore 5, 2) := by decide +kernel
theorem dX10_vector_30 : decode cX10_vector 30 = .ok (.iload_n 3, 1) := by decide +kernel
theorem dX10_vector_31 : decode cX10_vector 31 = .ok (.iconst (-1), 1) := by decide +kernel
theorem dX10_vector_32 : decode cX10_vector 32 = .ok (.if_icmp .ne 37, 3) := by decide +kernel
theorem dX10_vector_35 : decode cX10_vector 35 = .ok (.aload 5, 2) := by decide +kernel
theorem dX10_vector_37 : decode cX10_vector 37 = .ok (.getfield 247, 3) := by decide +kernel
theorem dX10_vector_40 : decode cX10_vector 40 = .ok (.getfield 248, 3) := by decide +kernel
theorem dX10_vector_43 : decode cX10_vector 43 = .ok (.iload_n 2, 1) := by decide +kernel
theorem dX10_vector_44 : decode cX10_vector 44 = .ok (.baload, 1) := by decide +kernel
theorem dX10_vector_45 : decode cX10_vector 45 = .ok (.ifCond .eq 20, 3) := by decide +kernel
theorem dX10_vector_48 : decode cX10_vector 48 = .ok (.aload 5, 2) := by decide +kernel
theorem dX10_vector_50 : decode cX10_vector 50 = .ok (.getfield 247, 3) := by decide +kernel
theorem dX10_vector_53 : decode cX10_vector 53 = .ok (.getfield 259, 3) := by decide +kernel
theorem dX10_vector_56 : decode cX10_vector 56 = .ok (.iload_n 2, 1) := by decide +kernel
theorem dX10_vector_57 : decode cX10_vector 57 = .ok (.aaload, 1) := by decide +kernel
theorem dX10_vector_58 : decode cX10_vector 58 = .ok (.iload 4, 2) := by decide +kernel
theorem dX10_vector_60 : decode cX10_vector 60 = .ok (.iaload, 1) := by decide +kernel
theorem dX10_vector_61 : decode cX10_vector 61 = .ok (.i2l, 1) := by decide +kernel
theorem dX10_vector_62 : decode cX10_vector 62 = .ok (.goto 6, 3) := by decide +kernel
theorem dX10_vector_65 : decode cX10_vector 65 = .ok (.ldc2_w 174, 3) := by decide +kernel
theorem dX10_vector_68 : decode cX10_vector 68 = .ok (.lreturn, 1) := by decide +kernel
theorem dX10_vector_69 : decode cX10_vector 69 = .ok (.aload 5, 2) := by decide +kernel
theorem dX10_vector_71 : decode cX10_vector 71 = .ok (.getfield 231, 3) := by decide +kernel
theorem dX10_vector_74 : decode cX10_vector 74 = .ok (.iload_n 2, 1) := by decide +kernel
theorem dX10_vector_75 : decode cX10_vector 75 = .ok (.aaload, 1) := by decide +kernel
theorem dX10_vector_76 : decode cX10_vector 76 = .ok (.astore 6, 2) := by decide +kernel
theorem dX10_vector_78 : decode cX10_vector 78 = .ok (.aload 6, 2) := by decide +kernel
theorem dX10_vector_80 : decode cX10_vector 80 = .ok (.iload_n 3, 1) := by decide +kernel
theorem dX10_vector_81 : decode cX10_vector 81 = .ok (.invokevirtual 235, 3) := by decide +kernel
theorem dX10_vector_84 : decode cX10_vector 84 = .ok (.ifCond .eq 17, 3) := by decide +kernel
theorem dX10_vector_87 : decode cX10_vector 87 = .ok (.aload 6, 2) := by decide +kernel
theorem dX10_vector_89 : decode cX10_vector 89 = .ok (.getfield 263, 3) := by decide +kernel
theorem dX10_vector_92 : decode cX10_vector 92 = .ok (.iload_n 3, 1) := by decide +kernel
theorem dX10_vector_93 : decode cX10_vector 93 = .ok (.aaload, 1) := by decide +kernel
theorem dX10_vector_94 : decode cX10_vector 94 = .ok (.iload 4, 2) := by decide +kernel
theorem dX10_vector_96 : decode cX10_vector 96 = .ok (.iaload, 1) := by decide +kernel
theorem dX10_vector_97 : decode cX10_vector 97 = .ok (.i2l, 1) := by decide +kernel
theorem dX10_vector_98 : decode cX10_vector 98 = .ok (.goto 6, 3) := by decide +kernel
theorem dX10_vector_101 : decode cX10_vector 101 = .ok (.ldc2_w 174, 3) := by decide +kernel
theorem dX10_vector_104 : decode cX10_vector 104 = .ok (.lreturn, 1) := by decide +kernel
abbrev wmX10_vector : List Cond := .code yX10_vector cX10_vector 7 (some .long) :: tBig
def f_X10_vector (N : Nat) (M : gM) (a1 : Int32) (a2 : Int32) (a3 : Int32) (a4 : Int32) : Option (Nat × Int64 × gM) :=
  o1 (f_X10_checkServer N M a1) (fun k1 => (if k1 = 0 then o1 (f_X10_checkObject N M a2) (fun k4 => (if k4 = 0 then lt (M (0, 0, 0) 0) (fun v7 => o1 (f_X10_checkWhat N M a4 ((v7 + (4 : Int32)) - (1 : Int32))) (fun k8 => (if k8 = 0 then ix a1 N (fun v11 => (if a3 = (-1 : Int32) then rd M (51, v11, 0) 48 a2 (fun v19 => (if v19 = 0 then some (0, (-2199023255552 : Int64), M) else ix a2 48 (fun v21 => rd M (55, v11, v21) (N + 4) a4 (fun v22 => some (0, v22.toInt64, M))))) else ix a2 48 (fun v13 => o1 (f_X9_has N M (48 * v11 + v13) a3) (fun v15 => (if v15 = 0 then some (0, (-2199023255552 : Int64), M) else ix a3 (cMost (48 * v11 + v13)) (fun v17 => rd M (64, (48 * v11 + v13), v17) (N + 4) a4 (fun v18 => some (0, v18.toInt64, M)))))))) else some (k8, (0 : Int64), M)))) else some (k4, (0 : Int64), M))) else some (k1, (0 : Int64), M)))
set_option maxHeartbeats 4000000 in
set_option maxRecDepth 100000 in
theorem t_X10_vector (l : Launch) (hst : l.stackTraces = false) (N : Nat) (D : va_G) (dA : Nat → ClassId) (A : gI → Nat) (hJ : gJ (cLive N) A) (tx : Nat → Nat) (sz : Nat) {M : gM} {a1 : Int32} {a2 : Int32} {a3 : Int32} {a4 : Int32} {y : (Nat × Int64 × gM)} (h : f_X10_vector N M a1 a2 a3 a4 = some y) : tMl l yX10_vector wmX10_vector ({ frames := 7, cells := 3, slots := 18, locals := 111 } : Room) N D dA A tx sz [.ref (A (0, 0, 0)), .int a1, .int a2, .int a3, .int a4] M y 3 18 := by
  refine vx_ofW (cc := cX10_vector) (maxL := 7) (ret := (some .long)) (by decide) rfl ?_
  intro p e s m args below meth c s₁ B hml hout hv
  obtain ⟨rfl, hsz, hP, hK, hN, hT⟩ := hv
  subst hsz
  generalize hargs : ([.ref (A (0, 0, 0)), .int a1, .int a2, .int a3, .int a4] : List Value).toArray = args at B ⊢
  have S : CallFix p m c cX10_vector 7 s args wmX10_vector RX10 := ⟨B.exec, B.bytes, hml, findClass_of_methodNamed B.named, atoms_spec (ws := wmX10_vector) B.pre⟩
  obtain ⟨hx, hb, -, hown, hts⟩ := id S
  have hr := B.returns
  have hlocks := B.notSynchronized
  have X : gX D vwCl dA (cLive N) A (cReg N A s.heap.size) s := ⟨hK, hJ, fun i hi => Or.inl ⟨i, hi, rfl⟩⟩
  have Z : tZ D N dA A s M s.heap [] := ⟨hP, va_S.rf⟩
  have hin_X10 : ∀ w ∈ wsX100, w ∈ wmX10_vector := tin cin_X10 (Or.inr trivial)
  have hin_X7 : ∀ w ∈ wsX70, w ∈ wmX10_vector := tin cin_X7 (Or.inr trivial)
  have hin_X8 : ∀ w ∈ wsX80, w ∈ wmX10_vector := tin cin_X8 (Or.inr trivial)
  have hin_X9 : ∀ w ∈ wsX90, w ∈ wmX10_vector := tin cin_X9 (Or.inr trivial)
  have hl_18 := hts (.fieldLink RX10 18 "ReplicaFiles" "serverCount" "I") (tBc 529 rfl)
  have hl_44 := hts (.fieldLink RX10 44 "ReplicaFiles" "servers" "[LReplicaFiles$Server;") (tBc 538 rfl)
  have hl_231 := va_Nw.use (A := args) rfl (hN.1 ("ReplicaFiles", 231, "ReplicaFiles$Server", "versions", "[LReplicaFiles$Versions;", "ReplicaFiles") (by decide +kernel))
  have hl_247 := va_Nw.use (A := args) rfl (hN.1 ("ReplicaFiles", 247, "ReplicaFiles$Server", "tree", "LReplicaFiles$Tree;", "ReplicaFiles") (by decide +kernel))
  have hl_248 := va_Nw.use (A := args) rfl (hN.1 ("ReplicaFiles", 248, "ReplicaFiles$Tree", "held", "[Z", "ReplicaFiles") (by decide +kernel))
  have hl_259 := va_Nw.use (A := args) rfl (hN.1 ("ReplicaFiles", 259, "ReplicaFiles$Tree", "counts", "[[I", "ReplicaFiles") (by decide +kernel))
  have hl_263 := va_Nw.use (A := args) rfl (hN.1 ("ReplicaFiles", 263, "ReplicaFiles$Versions", "counts", "[[I", "ReplicaFiles") (by decide +kernel))
  have hc_174 := hts (.constantLong RX10 174 (-2199023255552)) (tBc 602 rfl)
  have hl := lv_entry ([.ref (A (0, 0, 0)), .int a1, .int a2, .int a3, .int a4]) (n := 7) (Nat.le_of_ble_eq_true rfl)
  rw [← hargs, lg_entry_eq, hargs]
  generalize (lg_sl ([.ref (A (0, 0, 0)), .int a1, .int a2, .int a3, .int a4]) ++ List.replicate (7 - (lg_sl ([.ref (A (0, 0, 0)), .int a1, .int a2, .int a3, .int a4])).length) Slot.unset).toArray = ls at hl ⊢
  have hl : lv_has ls 7 [(0, .ref (A (0, 0, 0))), (1, .int a1), (2, .int a2), (3, .int a3), (4, .int a4)] := hl
  unfold f_X10_vector at h
  refine lv_aload_n hx hb dX10_vector_0 rfl (lv_at hl 0 rfl) ?_
  refine lv_iload_n hx hb dX10_vector_1 rfl (lv_at hl 1 rfl) ?_
  obtain ⟨k1, hc2, h⟩ := o1_e h
  refine t_chk X Z (vx_runV (As := [.int a1]) (rest := []) (b := A (0, 0, 0)) S (t_X10_checkServer l hst N D dA A hJ tx _ hc2) (cwV 1 hts (tTV (tB 570 rfl) (tB 571 rfl) (tB 572 rfl) (tB 107 rfl) (tB 567 rfl)) rfl rfl rfl (by decide +kernel) ⟨Nat.le_of_ble_eq_true rfl, Nat.le_of_ble_eq_true rfl⟩) ⟨tPc.blind, g_recv X Z (cl_one N 0 (by decide)) rfl rfl, t_pre X hN hT Z _⟩ rfl rfl hl.1 rfl (lv_room (m := m) (pc := 2) (ls := ls) (rest := [.int a1, .ref (A (0, 0, 0))]) (Nat.le_of_ble_eq_true rfl)) dX10_vector_2 ⟨Nat.le_of_ble_eq_true rfl, Nat.le_of_ble_eq_true rfl⟩) (fun hk3 ce q9 H locs Z hce hcv hcl => ?_) (fun hk3 H locs Z => ?_)
  · have h := if_f hk3 h
    have hy := Option.some.inj h
    subst hy
    exact t_out hk3 hout hlocks Z hce hcv hcl (Nat.le_of_ble_eq_true rfl) (Nat.le_of_ble_eq_true rfl)
  have h := if_t hk3 h
  refine lv_iload_n hx hb dX10_vector_5 rfl (lv_at hl 2 rfl) ?_
  obtain ⟨k4, hc5, h⟩ := o1_e h
  refine t_chk X Z (vx_runS (As := [.int a2]) (rest := []) S (t_X10_checkObject l hst N D dA A hJ tx _ hc5) (va_cwS 1 hts (tTS (tB 593 rfl) (tB 594 rfl) (tB 107 rfl) (tB 586 rfl)) rfl rfl rfl (by decide +kernel) ⟨Nat.le_of_ble_eq_true rfl, Nat.le_of_ble_eq_true rfl⟩) ⟨tPc.blind, t_pre X hN hT Z _⟩ rfl rfl hl.1 rfl (lv_room (m := m) (pc := 6) (ls := ls) (rest := [.int a2]) (Nat.le_of_ble_eq_true rfl)) dX10_vector_6 ⟨Nat.le_of_ble_eq_true rfl, Nat.le_of_ble_eq_true rfl⟩) (fun hk6 ce q9 H locs Z hce hcv hcl => ?_) (fun hk6 H locs Z => ?_)
  · have h := if_f hk6 h
    have hy := Option.some.inj h
    subst hy
    exact t_out hk6 hout hlocks Z hce hcv hcl (Nat.le_of_ble_eq_true rfl) (Nat.le_of_ble_eq_true rfl)
  have h := if_t hk6 h
  refine lv_iload hx hb dX10_vector_9 (lv_at hl 4 rfl) ?_
  refine lv_aload_n hx hb dX10_vector_11 rfl (lv_at hl 0 rfl) ?_
  refine cr_X10_serverCount S X Z hin_X10 (cl_one N 0 (by decide)) hl_18 dX10_vector_12 h (fun v7 h => ?_)
  refine lv_iconst (v := (4 : Int32)) hx hb dX10_vector_15 (by decide) ?_
  refine lv_iadd hx hb dX10_vector_16 ?_
  refine lv_iconst (v := (1 : Int32)) hx hb dX10_vector_17 (by decide) ?_
  refine lv_isub hx hb dX10_vector_18 ?_
  obtain ⟨k8, hc9, h⟩ := o1_e h
  refine t_chk X Z (vx_runS (As := [.int a4, .int ((v7 + (4 : Int32)) - (1 : Int32))]) (rest := []) S (t_X10_checkWhat l hst N D dA A hJ tx _ hc9) (va_cwS 2 hts (tTS (tB 723 rfl) (tB 724 rfl) (tB 107 rfl) (tB 722 rfl)) rfl rfl rfl (by decide +kernel) ⟨Nat.le_of_ble_eq_true rfl, Nat.le_of_ble_eq_true rfl⟩) ⟨tPc.blind, t_pre X hN hT Z _⟩ rfl rfl hl.1 rfl (lv_room (m := m) (pc := 19) (ls := ls) (rest := [.int ((v7 + (4 : Int32)) - (1 : Int32)), .int a4]) (Nat.le_of_ble_eq_true rfl)) dX10_vector_19 ⟨Nat.le_of_ble_eq_true rfl, Nat.le_of_ble_eq_true rfl⟩) (fun hk10 ce q9 H locs Z hce hcv hcl => ?_) (fun hk10 H locs Z => ?_)
  · have h := if_f hk10 h
    have hy := Option.some.inj h
    subst hy
    exact t_out hk10 hout hlocks Z hce hcv hcl (Nat.le_of_ble_eq_true rfl) (Nat.le_of_ble_eq_true rfl)
  have h := if_t hk10 h
  refine lv_aload_n hx hb dX10_vector_22 rfl (lv_at hl 0 rfl) ?_
  refine cr_X10_servers S X Z hin_X10 (cl_one N 0 (by decide)) hl_44 dX10_vector_23 ?_
  refine lv_iload_n hx hb dX10_vector_26 rfl (lv_at hl 1 rfl) ?_
  refine g_aald (i := (7, 0, 0)) (ca := 2) ⟨rfl, rfl⟩ S X Z (cl_one N 7 (by decide)) rfl dX10_vector_27 h (fun v11 hv11 h => ?_)
  refine lv_astore (lv' := [(5, .ref (A (20, v11, 0))), (0, .ref (A (0, 0, 0))), (1, .int a1), (2, .int a2), (3, .int a3), (4, .int a4)]) hx hb dX10_vector_28 hl (by decide) rfl (fun ls hl => ?_)
  refine lv_iload_n hx hb dX10_vector_30 rfl (lv_at hl 4 rfl) ?_
  refine lv_iconst (v := (-1 : Int32)) hx hb dX10_vector_31 (by decide) ?_
  refine lv_icmp_ne (tgt := 69) hx hb dX10_vector_32 (by decide) (fun c12 => ?_) (fun c12 => ?_)
  · have h := if_f c12 h
    refine lv_aload hx hb dX10_vector_69 (lv_at hl 0 rfl) ?_
    refine cn_X7_versions (a := v11) S X Z hin_X7 (cl_srv hv11) hl_231 dX10_vector_71 ?_
    refine lv_iload_n hx hb dX10_vector_74 rfl (lv_at hl 3 rfl) ?_
    refine g_aald (i := (21, v11, 0)) (ca := 4) ⟨rfl, rfl⟩ S X Z (cl_X7_versions (cl_srv hv11)) rfl dX10_vector_75 h (fun v13 hv13 h => ?_)
    refine lv_astore (lv' := [(6, .ref (A (60, (48 * v11 + v13), 0))), (5, .ref (A (20, v11, 0))), (0, .ref (A (0, 0, 0))), (1, .int a1), (2, .int a2), (3, .int a3), (4, .int a4)]) hx hb dX10_vector_76 hl (by decide) rfl (fun ls hl => ?_)
    refine lv_aload hx hb dX10_vector_78 (lv_at hl 0 rfl) ?_
    refine lv_iload_n hx hb dX10_vector_80 rfl (lv_at hl 5 rfl) ?_
    obtain ⟨v15, hc14, h⟩ := o1_e h
    refine c_i X Z (c_V (i := (60, (48 * v11 + v13), 0)) (As := [.int a3]) (rest := []) S X hN Z (cl_ver (cl_X7_versions (cl_srv hv11)) hv13) rfl rfl (t_X9_has l N D dA A hJ (cl_ver (cl_X7_versions (cl_srv hv11)) hv13) hc14) (cwV 1 hts (tGV (cB 717 rfl) (cB 432 rfl) (cB 433 rfl) (cB 191 rfl) (cB 428 rfl)) rfl rfl rfl (by decide +kernel) ⟨Nat.le_of_ble_eq_true rfl, Nat.le_of_ble_eq_true rfl⟩) rfl hl.1 rfl (Nat.le_of_ble_eq_true rfl) dX10_vector_81 ⟨Nat.le_of_ble_eq_true rfl, Nat.le_of_ble_eq_true rfl⟩) (fun H locs Z => ?_)
    refine lv_if_eq (tgt := 101) hx hb dX10_vector_84 (by decide) (fun c16 => ?_) (fun c16 => ?_)
    · have h := if_t c16 h
      refine lv_ldc2 hx hb hown hc_174 dX10_vector_101 ?_
      have hy := Option.some.inj h
      subst hy
      exact t_rl S Z hr hlocks dX10_vector_104
    · have h := if_f c16 h
      refine lv_aload hx hb dX10_vector_87 (lv_at hl 0 rfl) ?_
      refine cn_X9_counts (a := (48 * v11 + v13)) S X Z hin_X9 (cl_ver (cl_X7_versions (cl_srv hv11)) hv13) hl_263 dX10_vector_89 ?_
      refine lv_iload_n hx hb dX10_vector_92 rfl (lv_at hl 5 rfl) ?_
      refine g_aald (i := (63, (48 * v11 + v13), 0)) (ca := 5) ⟨rfl, rfl⟩ S X Z (cl_X9_counts (cl_ver (cl_X7_versions (cl_srv hv11)) hv13)) rfl dX10_vector_93 h (fun v17 hv17 h => ?_)
      refine lv_iload hx hb dX10_vector_94 (lv_at hl 6 rfl) ?_
      refine g_iald (i := (64, (48 * v11 + v13), v17)) (n := (N + 4)) S X Z (cl_64 (cl_X9_counts (cl_ver (cl_X7_versions (cl_srv hv11)) hv13)) hv17) rfl dX10_vector_96 h (fun v18 h => ?_)
      refine lv_i2l hx hb dX10_vector_97 rfl ?_
      refine lv_goto (tgt := 104) hx hb dX10_vector_98 (by decide) ?_
      have hy := Option.some.inj h
      subst hy
      exact t_rl S Z hr hlocks dX10_vector_104
  · have h := if_t c12 h
    refine lv_aload hx hb dX10_vector_35 (lv_at hl 0 rfl) ?_
    refine cn_X7_tree (a := v11) S X Z hin_X7 (cl_srv hv11) hl_247 dX10_vector_37 ?_
    refine cn_X8_held (a := v11) S X Z hin_X8 (cl_st (cl_srv hv11)) hl_248 dX10_vector_40 ?_
    refine lv_iload_n hx hb dX10_vector_43 rfl (lv_at hl 3 rfl) ?_
    refine g_zald (i := (51, v11, 0)) (n := 48) S X Z (cl_X8_held (cl_st (cl_srv hv11))) rfl dX10_vector_44 h (fun v19 h => ?_)
    refine lv_if_eq (tgt := 65) hx hb dX10_vector_45 (by decide) (fun c20 => ?_) (fun c20 => ?_)
    · have h := if_t c20 h
      refine lv_ldc2 hx hb hown hc_174 dX10_vector_65 ?_
      have hy := Option.some.inj h
      subst hy
      exact t_rl S Z hr hlocks dX10_vector_68
    · have h := if_f c20 h
      refine lv_aload hx hb dX10_vector_48 (lv_at hl 0 rfl) ?_
      refine cn_X7_tree (a := v11) S X Z hin_X7 (cl_srv hv11) hl_247 dX10_vector_50 ?_
      refine cn_X8_counts (a := v11) S X Z hin_X8 (cl_st (cl_srv hv11)) hl_259 dX10_vector_53 ?_
      refine lv_iload_n hx hb dX10_vector_56 rfl (lv_at hl 3 rfl) ?_
      refine g_aald (i := (54, v11, 0)) (ca := 5) ⟨rfl, rfl⟩ S X Z (cl_X8_counts (cl_st (cl_srv hv11))) rfl dX10_vector_57 h (fun v21 hv21 h => ?_)
      refine lv_iload hx hb dX10_vector_58 (lv_at hl 5 rfl) ?_
      refine g_iald (i := (55, v11, v21)) (n := (N + 4)) S X Z (cl_55 (cl_X8_counts (cl_st (cl_srv hv11))) hv21) rfl dX10_vector_60 h (fun v22 h => ?_)
      refine lv_i2l hx hb dX10_vector_61 rfl ?_
      refine lv_goto (tgt := 68) hx hb dX10_vector_62 (by decide) ?_
      have hy := Option.some.inj h
      subst hy
      exact t_rl S Z hr hlocks dX10_vector_68
-- X10_version (IIII)J: 36 instructions
theorem dX10_version_0 : decode cX10_version 0 = .ok (.aload_n 0, 1) := by decide +kernel
theorem dX10_version_1 : decode cX10_version 1 = .ok (.iload_n 1, 1) := by decide +kernel
theorem dX10_version_2 : decode cX10_version 2 = .ok (.invokevirtual 85, 3) := by decide +kernel
theorem dX10_version_5 : decode cX10_version 5 = .ok (.iload_n 2, 1) := by decide +kernel
theorem dX10_version_6 : decode cX10_version 6 = .ok (.invokestatic 113, 3) := by decide +kernel
theorem dX10_version_9 : decode cX10_version 9 = .ok (.iload 4, 2) := by decide +kernel
theorem dX10_version_11 : decode cX10_version 11 = .ok (.iconst 1, 1) := by decide +kernel
theorem dX10_version_12 : decode cX10_version 12 = .ok (.invokestatic 244, 3) := by decide +kernel
theorem dX10_version_15 : decode cX10_version 15 = .ok (.aload_n 0, 1) := by decide +kernel
theorem dX10_version_16 : decode cX10_version 16 = .ok (.getfield 44, 3) := by decide +kernel
theorem dX10_version_19 : decode cX10_version 19 = .ok (.iload_n 1, 1) := by decide +kernel
theorem dX10_version_20 : decode cX10_version 20 = .ok (.aaload, 1) := by decide +kernel
theorem dX10_version_21 : decode cX10_version 21 = .ok (.getfield 231, 3) := by decide +kernel
theorem dX10_version_24 : decode cX10_version 24 = .ok (.iload_n 2, 1) := by decide +kernel
theorem dX10_version_25 : decode cX10_version 25 = .ok (.aaload, 1) := by decide +kernel
theorem dX10_version_26 : decode cX10_version 26 = .ok (.astore 5, 2) := by decide +kernel
theorem dX10_version_28 : decode cX10_version 28 = .ok (.aload 5, 2) := by decide +kernel
theorem dX10_version_30 : decode cX10_version 30 = .ok (.iload_n 3, 1) := by decide +kernel
theorem dX10_version_31 : decode cX10_version 31 = .ok (.invokevirtual 235, 3) := by decide +kernel
theorem dX10_version_34 : decode cX10_version 34 = .ok (.ifCond .ne 7, 3) := by decide +kernel
theorem dX10_version_37 : decode cX10_version 37 = .ok (.ldc2_w 174, 3) := by decide +kernel
theorem dX10_version_40 : decode cX10_version 40 = .ok (.lreturn, 1) := by decide +kernel
theorem dX10_version_41 : decode cX10_version 41 = .ok (.iload 4, 2) := by decide +kernel
theorem dX10_version_43 : decode cX10_version 43 = .ok (.ifCond .ne 14, 3) := by decide +kernel
theorem dX10_version_46 : decode cX10_version 46 = .ok (.aload 5, 2) := by decide +kernel
theorem dX10_version_48 : decode cX10_version 48 = .ok (.getfield 264, 3) := by decide +kernel
theorem dX10_version_51 : decode cX10_version 51 = .ok (.iload_n 3, 1) := by decide +kernel
theorem dX10_version_52 : decode cX10_version 52 = .ok (.iaload, 1) := by decide +kernel
theorem dX10_version_53 : decode cX10_version 53 = .ok (.i2l, 1) := by decide +kernel
theorem dX10_version_54 : decode cX10_version 54 = .ok (.goto 11, 3) := by decide +kernel
theorem dX10_version_57 : decode cX10_version 57 = .ok (.aload 5, 2) := by decide +kernel
theorem dX10_version_59 : decode cX10_version 59 = .ok (.getfield 265, 3) := by decide +kernel
theorem dX10_version_62 : decode cX10_version 62 = .ok (.iload_n 3, 1) := by decide +kernel
theorem dX10_version_63 : decode cX10_version 63 = .ok (.iaload, 1) := by decide +kernel
theorem dX10_version_64 : decode cX10_version 64 = .ok (.i2l, 1) := by decide +kernel
theorem dX10_version_65 : decode cX10_version 65 = .ok (.lreturn, 1) := by decide +kernel
abbrev wmX10_version : List Cond := .code yX10_version cX10_version 6 (some .long) :: tBig
def f_X10_version (N : Nat) (M : gM) (a1 : Int32) (a2 : Int32) (a3 : Int32) (a4 : Int32) : Option (Nat × Int64 × gM) :=
  o1 (f_X10_checkServer N M a1) (fun k1 => (if k1 = 0 then o1 (f_X10_checkObject N M a2) (fun k4 => (if k4 = 0 then o1 (f_X10_checkWhat N M a4 (1 : Int32)) (fun k7 => (if k7 = 0 then ix a1 N (fun v10 => ix a2 48 (fun v11 => o1 (f_X9_has N M (48 * v10 + v11) a3) (fun v13 => (if v13 = 0 then some (0, (-2199023255552 : Int64), M) else (if a4 = 0 then rd M (61, (48 * v10 + v11), 0) (cMost (48 * v10 + v11)) a3 (fun v17 => some (0, v17.toInt64, M)) else rd M (62, (48 * v10 + v11), 0) (cMost (48 * v10 + v11)) a3 (fun v16 => some (0, v16.toInt64, M))))))) else some (k7, (0 : Int64), M))) else some (k4, (0 : Int64), M))) else some (k1, (0 : Int64), M)))
set_option maxHeartbeats 4000000 in
set_option maxRecDepth 100000 in
theorem t_X10_version (l : Launch) (hst : l.stackTraces = false) (N : Nat) (D : va_G) (dA : Nat → ClassId) (A : gI → Nat) (hJ : gJ (cLive N) A) (tx : Nat → Nat) (sz : Nat) {M : gM} {a1 : Int32} {a2 : Int32} {a3 : Int32} {a4 : Int32} {y : (Nat × Int64 × gM)} (h : f_X10_version N M a1 a2 a3 a4 = some y) : tMl l yX10_version wmX10_version ({ frames := 7, cells := 3, slots := 18, locals := 111 } : Room) N D dA A tx sz [.ref (A (0, 0, 0)), .int a1, .int a2, .int a3, .int a4] M y 3 18 := by
  refine vx_ofW (cc := cX10_version) (maxL := 6) (ret := (some .long)) (by decide) rfl ?_
  intro p e s m args below meth c s₁ B hml hout hv
  obtain ⟨rfl, hsz, hP, hK, hN, hT⟩ := hv
  subst hsz
  generalize hargs : ([.ref (A (0, 0, 0)), .int a1, .int a2, .int a3, .int a4] : List Value).toArray = args at B ⊢
  have S : CallFix p m c cX10_version 6 s args wmX10_version RX10 := ⟨B.exec, B.bytes, hml, findClass_of_methodNamed B.named, atoms_spec (ws := wmX10_version) B.pre⟩
  obtain ⟨hx, hb, -, hown, hts⟩ := id S
  have hr := B.returns
  have hlocks := B.notSynchronized
  have X : gX D vwCl dA (cLive N) A (cReg N A s.heap.size) s := ⟨hK, hJ, fun i hi => Or.inl ⟨i, hi, rfl⟩⟩
  have Z : tZ D N dA A s M s.heap [] := ⟨hP, va_S.rf⟩
  have hin_X10 : ∀ w ∈ wsX100, w ∈ wmX10_version := tin cin_X10 (Or.inr trivial)
  have hin_X7 : ∀ w ∈ wsX70, w ∈ wmX10_version := tin cin_X7 (Or.inr trivial)
  have hin_X9 : ∀ w ∈ wsX90, w ∈ wmX10_version := tin cin_X9 (Or.inr trivial)
  have hl_44 := hts (.fieldLink RX10 44 "ReplicaFiles" "servers" "[LReplicaFiles$Server;") (tBc 538 rfl)
  have hl_231 := va_Nw.use (A := args) rfl (hN.1 ("ReplicaFiles", 231, "ReplicaFiles$Server", "versions", "[LReplicaFiles$Versions;", "ReplicaFiles") (by decide +kernel))
  have hl_264 := va_Nw.use (A := args) rfl (hN.1 ("ReplicaFiles", 264, "ReplicaFiles$Versions", "value", "[I", "ReplicaFiles") (by decide +kernel))
  have hl_265 := va_Nw.use (A := args) rfl (hN.1 ("ReplicaFiles", 265, "ReplicaFiles$Versions", "size", "[I", "ReplicaFiles") (by decide +kernel))
  have hc_174 := hts (.constantLong RX10 174 (-2199023255552)) (tBc 602 rfl)
  have hl := lv_entry ([.ref (A (0, 0, 0)), .int a1, .int a2, .int a3, .int a4]) (n := 6) (Nat.le_of_ble_eq_true rfl)
  rw [← hargs, lg_entry_eq, hargs]
  generalize (lg_sl ([.ref (A (0, 0, 0)), .int a1, .int a2, .int a3, .int a4]) ++ List.replicate (6 - (lg_sl ([.ref (A (0, 0, 0)), .int a1, .int a2, .int a3, .int a4])).length) Slot.unset).toArray = ls at hl ⊢
  have hl : lv_has ls 6 [(0, .ref (A (0, 0, 0))), (1, .int a1), (2, .int a2), (3, .int a3), (4, .int a4)] := hl
  unfold f_X10_version at h
  refine lv_aload_n hx hb dX10_version_0 rfl (lv_at hl 0 rfl) ?_
  refine lv_iload_n hx hb dX10_version_1 rfl (lv_at hl 1 rfl) ?_
  obtain ⟨k1, hc2, h⟩ := o1_e h
  refine t_chk X Z (vx_runV (As := [.int a1]) (rest := []) (b := A (0, 0, 0)) S (t_X10_checkServer l hst N D dA A hJ tx _ hc2) (cwV 1 hts (tTV (tB 570 rfl) (tB 571 rfl) (tB 572 rfl) (tB 107 rfl) (tB 567 rfl)) rfl rfl rfl (by decide +kernel) ⟨Nat.le_of_ble_eq_true rfl, Nat.le_of_ble_eq_true rfl⟩) ⟨tPc.blind, g_recv X Z (cl_one N 0 (by decide)) rfl rfl, t_pre X hN hT Z _⟩ rfl rfl hl.1 rfl (lv_room (m := m) (pc := 2) (ls := ls) (rest := [.int a1, .ref (A (0, 0, 0))]) (Nat.le_of_ble_eq_true rfl)) dX10_version_2 ⟨Nat.le_of_ble_eq_true rfl, Nat.le_of_ble_eq_true rfl⟩) (fun hk3 ce q9 H locs Z hce hcv hcl => ?_) (fun hk3 H locs Z => ?_)
  · have h := if_f hk3 h
    have hy := Option.some.inj h
    subst hy
    exact t_out hk3 hout hlocks Z hce hcv hcl (Nat.le_of_ble_eq_true rfl) (Nat.le_of_ble_eq_true rfl)
  have h := if_t hk3 h
  refine lv_iload_n hx hb dX10_version_5 rfl (lv_at hl 2 rfl) ?_
  obtain ⟨k4, hc5, h⟩ := o1_e h
  refine t_chk X Z (vx_runS (As := [.int a2]) (rest := []) S (t_X10_checkObject l hst N D dA A hJ tx _ hc5) (va_cwS 1 hts (tTS (tB 593 rfl) (tB 594 rfl) (tB 107 rfl) (tB 586 rfl)) rfl rfl rfl (by decide +kernel) ⟨Nat.le_of_ble_eq_true rfl, Nat.le_of_ble_eq_true rfl⟩) ⟨tPc.blind, t_pre X hN hT Z _⟩ rfl rfl hl.1 rfl (lv_room (m := m) (pc := 6) (ls := ls) (rest := [.int a2]) (Nat.le_of_ble_eq_true rfl)) dX10_version_6 ⟨Nat.le_of_ble_eq_true rfl, Nat.le_of_ble_eq_true rfl⟩) (fun hk6 ce q9 H locs Z hce hcv hcl => ?_) (fun hk6 H locs Z => ?_)
  · have h := if_f hk6 h
    have hy := Option.some.inj h
    subst hy
    exact t_out hk6 hout hlocks Z hce hcv hcl (Nat.le_of_ble_eq_true rfl) (Nat.le_of_ble_eq_true rfl)
  have h := if_t hk6 h
  refine lv_iload hx hb dX10_version_9 (lv_at hl 4 rfl) ?_
  refine lv_iconst (v := (1 : Int32)) hx hb dX10_version_11 (by decide) ?_
  obtain ⟨k7, hc8, h⟩ := o1_e h
  refine t_chk X Z (vx_runS (As := [.int a4, .int (1 : Int32)]) (rest := []) S (t_X10_checkWhat l hst N D dA A hJ tx _ hc8) (va_cwS 2 hts (tTS (tB 723 rfl) (tB 724 rfl) (tB 107 rfl) (tB 722 rfl)) rfl rfl rfl (by decide +kernel) ⟨Nat.le_of_ble_eq_true rfl, Nat.le_of_ble_eq_true rfl⟩) ⟨tPc.blind, t_pre X hN hT Z _⟩ rfl rfl hl.1 rfl (lv_room (m := m) (pc := 12) (ls := ls) (rest := [.int (1 : Int32), .int a4]) (Nat.le_of_ble_eq_true rfl)) dX10_version_12 ⟨Nat.le_of_ble_eq_true rfl, Nat.le_of_ble_eq_true rfl⟩) (fun hk9 ce q9 H locs Z hce hcv hcl => ?_) (fun hk9 H locs Z => ?_)
  · have h := if_f hk9 h
    have hy := Option.some.inj h
    subst hy
    exact t_out hk9 hout hlocks Z hce hcv hcl (Nat.le_of_ble_eq_true rfl) (Nat.le_of_ble_eq_true rfl)
  have h := if_t hk9 h
  refine lv_aload_n hx hb dX10_version_15 rfl (lv_at hl 0 rfl) ?_
  refine cr_X10_servers S X Z hin_X10 (cl_one N 0 (by decide)) hl_44 dX10_version_16 ?_
  refine lv_iload_n hx hb dX10_version_19 rfl (lv_at hl 1 rfl) ?_
  refine g_aald (i := (7, 0, 0)) (ca := 2) ⟨rfl, rfl⟩ S X Z (cl_one N 7 (by decide)) rfl dX10_version_20 h (fun v10 hv10 h => ?_)
  refine cn_X7_versions (a := v10) S X Z hin_X7 (cl_srv hv10) hl_231 dX10_version_21 ?_
  refine lv_iload_n hx hb dX10_version_24 rfl (lv_at hl 2 rfl) ?_
  refine g_aald (i := (21, v10, 0)) (ca := 4) ⟨rfl, rfl⟩ S X Z (cl_X7_versions (cl_srv hv10)) rfl dX10_version_25 h (fun v11 hv11 h => ?_)
  refine lv_astore (lv' := [(5, .ref (A (60, (48 * v10 + v11), 0))), (0, .ref (A (0, 0, 0))), (1, .int a1), (2, .int a2), (3, .int a3), (4, .int a4)]) hx hb dX10_version_26 hl (by decide) rfl (fun ls hl => ?_)
  refine lv_aload hx hb dX10_version_28 (lv_at hl 0 rfl) ?_
  refine lv_iload_n hx hb dX10_version_30 rfl (lv_at hl 4 rfl) ?_
  obtain ⟨v13, hc12, h⟩ := o1_e h
  refine c_i X Z (c_V (i := (60, (48 * v10 + v11), 0)) (As := [.int a3]) (rest := []) S X hN Z (cl_ver (cl_X7_versions (cl_srv hv10)) hv11) rfl rfl (t_X9_has l N D dA A hJ (cl_ver (cl_X7_versions (cl_srv hv10)) hv11) hc12) (cwV 1 hts (tGV (cB 717 rfl) (cB 432 rfl) (cB 433 rfl) (cB 191 rfl) (cB 428 rfl)) rfl rfl rfl (by decide +kernel) ⟨Nat.le_of_ble_eq_true rfl, Nat.le_of_ble_eq_true rfl⟩) rfl hl.1 rfl (Nat.le_of_ble_eq_true rfl) dX10_version_31 ⟨Nat.le_of_ble_eq_true rfl, Nat.le_of_ble_eq_true rfl⟩) (fun H locs Z => ?_)
  refine lv_if_ne (tgt := 41) hx hb dX10_version_34 (by decide) (fun c14 => ?_) (fun c14 => ?_)
  · have h := if_f c14 h
    refine lv_iload hx hb dX10_version_41 (lv_at hl 5 rfl) ?_
    refine lv_if_ne (tgt := 57) hx hb dX10_version_43 (by decide) (fun c15 => ?_) (fun c15 => ?_)
    · have h := if_f c15 h
      refine lv_aload hx hb dX10_version_57 (lv_at hl 0 rfl) ?_
      refine cn_X9_size (a := (48 * v10 + v11)) S X Z hin_X9 (cl_ver (cl_X7_versions (cl_srv hv10)) hv11) hl_265 dX10_version_59 ?_
      refine lv_iload_n hx hb dX10_version_62 rfl (lv_at hl 4 rfl) ?_
      refine g_iald (i := (62, (48 * v10 + v11), 0)) (n := (cMost (48 * v10 + v11))) S X Z (cl_X9_size (cl_ver (cl_X7_versions (cl_srv hv10)) hv11)) rfl dX10_version_63 h (fun v16 h => ?_)
      refine lv_i2l hx hb dX10_version_64 rfl ?_
      have hy := Option.some.inj h
      subst hy
      exact t_rl S Z hr hlocks dX10_version_65
    · have h := if_t c15 h
      refine lv_aload hx hb dX10_version_46 (lv_at hl 0 rfl) ?_
      refine cn_X9_value (a := (48 * v10 + v11)) S X Z hin_X9 (cl_ver (cl_X7_versions (cl_srv hv10)) hv11) hl_264 dX10_version_48 ?_
      refine lv_iload_n hx hb dX10_version_51 rfl (lv_at hl 4 rfl) ?_
      refine g_iald (i := (61, (48 * v10 + v11), 0)) (n := (cMost (48 * v10 + v11))) S X Z (cl_X9_value (cl_ver (cl_X7_versions (cl_srv hv10)) hv11)) rfl dX10_version_52 h (fun v17 h => ?_)
      refine lv_i2l hx hb dX10_version_53 rfl ?_
      refine lv_goto (tgt := 65) hx hb dX10_version_54 (by decide) ?_
      have hy := Option.some.inj h
      subst hy
      exact t_rl S Z hr hlocks dX10_version_65
  · have h := if_t c14 h
    refine lv_ldc2 hx hb hown hc_174 dX10_version_37 ?_
    have hy := Option.some.inj h
    subst hy
    exact t_rl S Z hr hlocks dX10_version_40
-- X10_entry (IIII)J: 46 instructions
theorem dX10_entry_0 : decode cX10_entry 0 = .ok (.aload_n 0, 1) := by decide +kernel
theorem dX10_entry_1 : decode cX10_entry 1 = .ok (.iload_n 1, 1) := by decide +kernel
theorem dX10_entry_2 : decode cX10_entry 2 = .ok (.invokevirtual 85, 3) := by decide +kernel
theorem dX10_entry_5 : decode cX10_entry 5 = .ok (.iload_n 2, 1) := by decide +kernel
theorem dX10_entry_6 : decode cX10_entry 6 = .ok (.invokestatic 113, 3) := by decide +kernel
theorem dX10_entry_9 : decode cX10_entry 9 = .ok (.iload 4, 2) := by decide +kernel
theorem dX10_entry_11 : decode cX10_entry 11 = .ok (.iconst 2, 1) := by decide +kernel
theorem dX10_entry_12 : decode cX10_entry 12 = .ok (.invokestatic 244, 3) := by decide +kernel
theorem dX10_entry_15 : decode cX10_entry 15 = .ok (.aload_n 0, 1) := by decide +kernel
theorem dX10_entry_16 : decode cX10_entry 16 = .ok (.getfield 44, 3) := by decide +kernel
theorem dX10_entry_19 : decode cX10_entry 19 = .ok (.iload_n 1, 1) := by decide +kernel
theorem dX10_entry_20 : decode cX10_entry 20 = .ok (.aaload, 1) := by decide +kernel
theorem dX10_entry_21 : decode cX10_entry 21 = .ok (.getfield 247, 3) := by decide +kernel
theorem dX10_entry_24 : decode cX10_entry 24 = .ok (.astore 5, 2) := by decide +kernel
theorem dX10_entry_26 : decode cX10_entry 26 = .ok (.aload 5, 2) := by decide +kernel
theorem dX10_entry_28 : decode cX10_entry 28 = .ok (.iload_n 2, 1) := by decide +kernel
theorem dX10_entry_29 : decode cX10_entry 29 = .ok (.iload_n 3, 1) := by decide +kernel
theorem dX10_entry_30 : decode cX10_entry 30 = .ok (.invokevirtual 266, 3) := by decide +kernel
theorem dX10_entry_33 : decode cX10_entry 33 = .ok (.istore 6, 2) := by decide +kernel
theorem dX10_entry_35 : decode cX10_entry 35 = .ok (.iload 6, 2) := by decide +kernel
theorem dX10_entry_37 : decode cX10_entry 37 = .ok (.iconst (-1), 1) := by decide +kernel
theorem dX10_entry_38 : decode cX10_entry 38 = .ok (.if_icmp .ne 7, 3) := by decide +kernel
theorem dX10_entry_41 : decode cX10_entry 41 = .ok (.ldc2_w 174, 3) := by decide +kernel
theorem dX10_entry_44 : decode cX10_entry 44 = .ok (.lreturn, 1) := by decide +kernel
theorem dX10_entry_45 : decode cX10_entry 45 = .ok (.iload 4, 2) := by decide +kernel
theorem dX10_entry_47 : decode cX10_entry 47 = .ok (.lookupswitch 41 #[(0, 25), (1, 29)], 25) := by decide +kernel
theorem dX10_entry_72 : decode cX10_entry 72 = .ok (.iload 6, 2) := by decide +kernel
theorem dX10_entry_74 : decode cX10_entry 74 = .ok (.i2l, 1) := by decide +kernel
theorem dX10_entry_75 : decode cX10_entry 75 = .ok (.lreturn, 1) := by decide +kernel
theorem dX10_entry_76 : decode cX10_entry 76 = .ok (.aload_n 0, 1) := by decide +kernel
theorem dX10_entry_77 : decode cX10_entry 77 = .ok (.getfield 25, 3) := by decide +kernel
theorem dX10_entry_80 : decode cX10_entry 80 = .ok (.getfield 269, 3) := by decide +kernel
theorem dX10_entry_83 : decode cX10_entry 83 = .ok (.iload 6, 2) := by decide +kernel
theorem dX10_entry_85 : decode cX10_entry 85 = .ok (.iaload, 1) := by decide +kernel
theorem dX10_entry_86 : decode cX10_entry 86 = .ok (.i2l, 1) := by decide +kernel
theorem dX10_entry_87 : decode cX10_entry 87 = .ok (.lreturn, 1) := by decide +kernel
theorem dX10_entry_88 : decode cX10_entry 88 = .ok (.aload 5, 2) := by decide +kernel
theorem dX10_entry_90 : decode cX10_entry 90 = .ok (.getfield 272, 3) := by decide +kernel
theorem dX10_entry_93 : decode cX10_entry 93 = .ok (.iload 6, 2) := by decide +kernel
theorem dX10_entry_95 : decode cX10_entry 95 = .ok (.iaload, 1) := by decide +kernel
theorem dX10_entry_96 : decode cX10_entry 96 = .ok (.iconst 2, 1) := by decide +kernel
theorem dX10_entry_97 : decode cX10_entry 97 = .ok (.if_icmp .ne 7, 3) := by decide +kernel
theorem dX10_entry_100 : decode cX10_entry 100 = .ok (.lconst 1, 1) := by decide +kernel
theorem dX10_entry_101 : decode cX10_entry 101 = .ok (.goto 4, 3) := by decide +kernel
theorem dX10_entry_104 : decode cX10_entry 104 = .ok (.lconst 0, 1) := by decide +kernel
theorem dX10_entry_105 : decode cX10_entry 105 = .ok (.lreturn, 1) := by decide +kernel
abbrev wmX10_entry : List Cond := .code yX10_entry cX10_entry 7 (some .long) :: tBig
def f_X10_entry (N : Nat) (M : gM) (a1 : Int32) (a2 : Int32) (a3 : Int32) (a4 : Int32) : Option (Nat × Int64 × gM) :=
  o1 (f_X10_checkServer N M a1) (fun k1 => (if k1 = 0 then o1 (f_X10_checkObject N M a2) (fun k4 => (if k4 = 0 then o1 (f_X10_checkWhat N M a4 (2 : Int32)) (fun k7 => (if k7 = 0 then ix a1 N (fun v10 => o1 (f_X8_entryAt N M v10 a2 a3) (fun v12 => (if v12 = (-1 : Int32) then some (0, (-2199023255552 : Int64), M) else (if a4 = 0 then some (0, v12.toInt64, M) else (if a4 = 1 then rd M (3, 0, 0) 48 v12 (fun v16 => some (0, v16.toInt64, M)) else rd M (56, v10, 0) 48 v12 (fun v17 => (if v17 = (2 : Int32) then some (0, (1 : Int64), M) else some (0, (0 : Int64), M)))))))) else some (k7, (0 : Int64), M))) else some (k4, (0 : Int64), M))) else some (k1, (0 : Int64), M)))
set_option maxHeartbeats 4000000 in
set_option maxRecDepth 100000 in
theorem t_X10_entry (l : Launch) (hst : l.stackTraces = false) (N : Nat) (D : va_G) (dA : Nat → ClassId) (A : gI → Nat) (hJ : gJ (cLive N) A) (tx : Nat → Nat) (sz : Nat) {M : gM} {a1 : Int32} {a2 : Int32} {a3 : Int32} {a4 : Int32} {y : (Nat × Int64 × gM)} (h : f_X10_entry N M a1 a2 a3 a4 = some y) : tMl l yX10_entry wmX10_entry ({ frames := 7, cells := 3, slots := 18, locals := 111 } : Room) N D dA A tx sz [.ref (A (0, 0, 0)), .int a1, .int a2, .int a3, .int a4] M y 3 18 := by
  refine vx_ofW (cc := cX10_entry) (maxL := 7) (ret := (some .long)) (by decide) rfl ?_
  intro p e s m args below meth c s₁ B hml hout hv
  obtain ⟨rfl, hsz, hP, hK, hN, hT⟩ := hv
  subst hsz
  generalize hargs : ([.ref (A (0, 0, 0)), .int a1, .int a2, .int a3, .int a4] : List Value).toArray = args at B ⊢
  have S : CallFix p m c cX10_entry 7 s args wmX10_entry RX10 := ⟨B.exec, B.bytes, hml, findClass_of_methodNamed B.named, atoms_spec (ws := wmX10_entry) B.pre⟩
  obtain ⟨hx, hb, -, hown, hts⟩ := id S
  have hr := B.returns
  have hlocks := B.notSynchronized
  have X : gX D vwCl dA (cLive N) A (cReg N A s.heap.size) s := ⟨hK, hJ, fun i hi => Or.inl ⟨i, hi, rfl⟩⟩
  have Z : tZ D N dA A s M s.heap [] := ⟨hP, va_S.rf⟩
  have hin_X0 : ∀ w ∈ wsX00, w ∈ wmX10_entry := tin cin_X0 (Or.inr trivial)
  have hin_X10 : ∀ w ∈ wsX100, w ∈ wmX10_entry := tin cin_X10 (Or.inr trivial)
  have hin_X7 : ∀ w ∈ wsX70, w ∈ wmX10_entry := tin cin_X7 (Or.inr trivial)
  have hin_X8 : ∀ w ∈ wsX80, w ∈ wmX10_entry := tin cin_X8 (Or.inr trivial)
  have hl_25 := hts (.fieldLink RX10 25 "ReplicaFiles" "catalog" "LReplicaFiles$Catalog;") (tBc 532 rfl)
  have hl_44 := hts (.fieldLink RX10 44 "ReplicaFiles" "servers" "[LReplicaFiles$Server;") (tBc 538 rfl)
  have hl_247 := va_Nw.use (A := args) rfl (hN.1 ("ReplicaFiles", 247, "ReplicaFiles$Server", "tree", "LReplicaFiles$Tree;", "ReplicaFiles") (by decide +kernel))
  have hl_269 := va_Nw.use (A := args) rfl (hN.1 ("ReplicaFiles", 269, "ReplicaFiles$Catalog", "name", "[I", "ReplicaFiles") (by decide +kernel))
  have hl_272 := va_Nw.use (A := args) rfl (hN.1 ("ReplicaFiles", 272, "ReplicaFiles$Tree", "state", "[I", "ReplicaFiles") (by decide +kernel))
  have hc_174 := hts (.constantLong RX10 174 (-2199023255552)) (tBc 602 rfl)
  have hl := lv_entry ([.ref (A (0, 0, 0)), .int a1, .int a2, .int a3, .int a4]) (n := 7) (Nat.le_of_ble_eq_true rfl)
  rw [← hargs, lg_entry_eq, hargs]
  generalize (lg_sl ([.ref (A (0, 0, 0)), .int a1, .int a2, .int a3, .int a4]) ++ List.replicate (7 - (lg_sl ([.ref (A (0, 0, 0)), .int a1, .int a2, .int a3, .int a4])).length) Slot.unset).toArray = ls at hl ⊢
  have hl : lv_has ls 7 [(0, .ref (A (0, 0, 0))), (1, .int a1), (2, .int a2), (3, .int a3), (4, .int a4)] := hl
  unfold f_X10_entry at h
  refine lv_aload_n hx hb dX10_entry_0 rfl (lv_at hl 0 rfl) ?_
  refine lv_iload_n hx hb dX10_entry_1 rfl (lv_at hl 1 rfl) ?_
  obtain ⟨k1, hc2, h⟩ := o1_e h
  refine t_chk X Z (vx_runV (As := [.int a1]) (rest := []) (b := A (0, 0, 0)) S (t_X10_checkServer l hst N D dA A hJ tx _ hc2) (cwV 1 hts (tTV (tB 570 rfl) (tB 571 rfl) (tB 572 rfl) (tB 107 rfl) (tB 567 rfl)) rfl rfl rfl (by decide +kernel) ⟨Nat.le_of_ble_eq_true rfl, Nat.le_of_ble_eq_true rfl⟩) ⟨tPc.blind, g_recv X Z (cl_one N 0 (by decide)) rfl rfl, t_pre X hN hT Z _⟩ rfl rfl hl.1 rfl (lv_room (m := m) (pc := 2) (ls := ls) (rest := [.int a1, .ref (A (0, 0, 0))]) (Nat.le_of_ble_eq_true rfl)) dX10_entry_2 ⟨Nat.le_of_ble_eq_true rfl, Nat.le_of_ble_eq_true rfl⟩) (fun hk3 ce q9 H locs Z hce hcv hcl => ?_) (fun hk3 H locs Z => ?_)
  · have h := if_f hk3 h
    have hy := Option.some.inj h
    subst hy
    exact t_out hk3 hout hlocks Z hce hcv hcl (Nat.le_of_ble_eq_true rfl) (Nat.le_of_ble_eq_true rfl)
  have h := if_t hk3 h
  refine lv_iload_n hx hb dX10_entry_5 rfl (lv_at hl 2 rfl) ?_
  obtain ⟨k4, hc5, h⟩ := o1_e h
  refine t_chk X Z (vx_runS (As := [.int a2]) (rest := []) S (t_X10_checkObject l hst N D dA A hJ tx _ hc5) (va_cwS 1 hts (tTS (tB 593 rfl) (tB 594 rfl) (tB 107 rfl) (tB 586 rfl)) rfl rfl rfl (by decide +kernel) ⟨Nat.le_of_ble_eq_true rfl, Nat.le_of_ble_eq_true rfl⟩) ⟨tPc.blind, t_pre X hN hT Z _⟩ rfl rfl hl.1 rfl (lv_room (m := m) (pc := 6) (ls := ls) (rest := [.int a2]) (Nat.le_of_ble_eq_true rfl)) dX10_entry_6 ⟨Nat.le_of_ble_eq_true rfl, Nat.le_of_ble_eq_true rfl⟩) (fun hk6 ce q9 H locs Z hce hcv hcl => ?_) (fun hk6 H locs Z => ?_)
  · have h := if_f hk6 h
    have hy := Option.some.inj h
    subst hy
    exact t_out hk6 hout hlocks Z hce hcv hcl (Nat.le_of_ble_eq_true rfl) (Nat.le_of_ble_eq_true rfl)
  have h := if_t hk6 h
  refine lv_iload hx hb dX10_entry_9 (lv_at hl 4 rfl) ?_
  refine lv_iconst (v := (2 : Int32)) hx hb dX10_entry_11 (by decide) ?_
  obtain ⟨k7, hc8, h⟩ := o1_e h
  refine t_chk X Z (vx_runS (As := [.int a4, .int (2 : Int32)]) (rest := []) S (t_X10_checkWhat l hst N D dA A hJ tx _ hc8) (va_cwS 2 hts (tTS (tB 723 rfl) (tB 724 rfl) (tB 107 rfl) (tB 722 rfl)) rfl rfl rfl (by decide +kernel) ⟨Nat.le_of_ble_eq_true rfl, Nat.le_of_ble_eq_true rfl⟩) ⟨tPc.blind, t_pre X hN hT Z _⟩ rfl rfl hl.1 rfl (lv_room (m := m) (pc := 12) (ls := ls) (rest := [.int (2 : Int32), .int a4]) (Nat.le_of_ble_eq_true rfl)) dX10_entry_12 ⟨Nat.le_of_ble_eq_true rfl, Nat.le_of_ble_eq_true rfl⟩) (fun hk9 ce q9 H locs Z hce hcv hcl => ?_) (fun hk9 H locs Z => ?_)
  · have h := if_f hk9 h
    have hy := Option.some.inj h
    subst hy
    exact t_out hk9 hout hlocks Z hce hcv hcl (Nat.le_of_ble_eq_true rfl) (Nat.le_of_ble_eq_true rfl)
  have h := if_t hk9 h
  refine lv_aload_n hx hb dX10_entry_15 rfl (lv_at hl 0 rfl) ?_
  refine cr_X10_servers S X Z hin_X10 (cl_one N 0 (by decide)) hl_44 dX10_entry_16 ?_
  refine lv_iload_n hx hb dX10_entry_19 rfl (lv_at hl 1 rfl) ?_
  refine g_aald (i := (7, 0, 0)) (ca := 2) ⟨rfl, rfl⟩ S X Z (cl_one N 7 (by decide)) rfl dX10_entry_20 h (fun v10 hv10 h => ?_)
  refine cn_X7_tree (a := v10) S X Z hin_X7 (cl_srv hv10) hl_247 dX10_entry_21 ?_
  refine lv_astore (lv' := [(5, .ref (A (50, v10, 0))), (0, .ref (A (0, 0, 0))), (1, .int a1), (2, .int a2), (3, .int a3), (4, .int a4)]) hx hb dX10_entry_24 hl (by decide) rfl (fun ls hl => ?_)
  refine lv_aload hx hb dX10_entry_26 (lv_at hl 0 rfl) ?_
  refine lv_iload_n hx hb dX10_entry_28 rfl (lv_at hl 3 rfl) ?_
  refine lv_iload_n hx hb dX10_entry_29 rfl (lv_at hl 4 rfl) ?_
  obtain ⟨v12, hc11, h⟩ := o1_e h
  refine c_i X Z (c_V (i := (50, v10, 0)) (As := [.int a2, .int a3]) (rest := []) S X hN Z (cl_st (cl_srv hv10)) rfl rfl (t_X8_entryAt l N D dA A hJ (cl_st (cl_srv hv10)) hc11) (cwV 2 hts (tGV (cB 731 rfl) (cB 732 rfl) (cB 733 rfl) (cB 44 rfl) (cB 522 rfl)) rfl rfl rfl (by decide +kernel) ⟨Nat.le_of_ble_eq_true rfl, Nat.le_of_ble_eq_true rfl⟩) rfl hl.1 rfl (Nat.le_of_ble_eq_true rfl) dX10_entry_30 ⟨Nat.le_of_ble_eq_true rfl, Nat.le_of_ble_eq_true rfl⟩) (fun H locs Z => ?_)
  refine lv_istore (lv' := [(6, .int v12), (5, .ref (A (50, v10, 0))), (0, .ref (A (0, 0, 0))), (1, .int a1), (2, .int a2), (3, .int a3), (4, .int a4)]) hx hb dX10_entry_33 hl (by decide) rfl (fun ls hl => ?_)
  refine lv_iload hx hb dX10_entry_35 (lv_at hl 0 rfl) ?_
  refine lv_iconst (v := (-1 : Int32)) hx hb dX10_entry_37 (by decide) ?_
  refine lv_icmp_ne (tgt := 45) hx hb dX10_entry_38 (by decide) (fun c13 => ?_) (fun c13 => ?_)
  · have h := if_f c13 h
    refine lv_iload hx hb dX10_entry_45 (lv_at hl 6 rfl) ?_
    by_cases c14 : a4 = 0
    · have h := if_t c14 h
      refine lv_lookup (off := 25) (tgt := 72) hx hb dX10_entry_47 (by decide) (by rw [c14]; decide) (by decide) ?_
      refine lv_iload hx hb dX10_entry_72 (lv_at hl 0 rfl) ?_
      refine lv_i2l hx hb dX10_entry_74 rfl ?_
      have hy := Option.some.inj h
      subst hy
      exact t_rl S Z hr hlocks dX10_entry_75
    have h := if_f c14 h
    by_cases c15 : a4 = 1
    · have h := if_t c15 h
      refine lv_lookup (off := 29) (tgt := 76) hx hb dX10_entry_47 (by decide) (by rw [c15]; decide) (by decide) ?_
      refine lv_aload_n hx hb dX10_entry_76 rfl (lv_at hl 2 rfl) ?_
      refine cr_X10_catalog S X Z hin_X10 (cl_one N 0 (by decide)) hl_25 dX10_entry_77 ?_
      refine cn_X0_name S X Z hin_X0 (cl_one N 1 (by decide)) hl_269 dX10_entry_80 ?_
      refine lv_iload hx hb dX10_entry_83 (lv_at hl 0 rfl) ?_
      refine g_iald (i := (3, 0, 0)) (n := 48) S X Z (cl_one N 3 (by decide)) rfl dX10_entry_85 h (fun v16 h => ?_)
      refine lv_i2l hx hb dX10_entry_86 rfl ?_
      have hy := Option.some.inj h
      subst hy
      exact t_rl S Z hr hlocks dX10_entry_87
    have h := if_f c15 h
    refine lv_lookup (off := 41) (tgt := 88) hx hb dX10_entry_47 (by decide) (by rw [lv_osw (k := 0) c14 (by decide)]; rw [lv_osw (k := 1) c15 (by decide)]; rfl) (by decide) ?_
    refine lv_aload hx hb dX10_entry_88 (lv_at hl 1 rfl) ?_
    refine cn_X8_state (a := v10) S X Z hin_X8 (cl_st (cl_srv hv10)) hl_272 dX10_entry_90 ?_
    refine lv_iload hx hb dX10_entry_93 (lv_at hl 0 rfl) ?_
    refine g_iald (i := (56, v10, 0)) (n := 48) S X Z (cl_X8_state (cl_st (cl_srv hv10))) rfl dX10_entry_95 h (fun v17 h => ?_)
    refine lv_iconst (v := (2 : Int32)) hx hb dX10_entry_96 (by decide) ?_
    refine lv_icmp_ne (tgt := 104) hx hb dX10_entry_97 (by decide) (fun c18 => ?_) (fun c18 => ?_)
    · have h := if_f c18 h
      refine lv_lconst (v := (0 : Int64)) hx hb dX10_entry_104 (by decide) ?_
      have hy := Option.some.inj h
      subst hy
      exact t_rl S Z hr hlocks dX10_entry_105
    · have h := if_t c18 h
      refine lv_lconst (v := (1 : Int64)) hx hb dX10_entry_100 (by decide) ?_
      refine lv_goto (tgt := 105) hx hb dX10_entry_101 (by decide) ?_
      have hy := Option.some.inj h
      subst hy
      exact t_rl S Z hr hlocks dX10_entry_105
  · have h := if_t c13 h
    refine lv_ldc2 hx hb hown hc_174 dX10_entry_41 ?_
    have hy := Option.some.inj h
    subst hy
    exact t_rl S Z hr hlocks dX10_entry_44
-- X10_cached (III)J: 75 instructions
theorem dX10_cached_0 : decode cX10_cached 0 = .ok (.iload_n 1, 1) := by decide +kernel
theorem dX10_cached_1 : decode cX10_cached 1 = .ok (.invokestatic 110, 3) := by decide +kernel
theorem dX10_cached_4 : decode cX10_cached 4 = .ok (.iload_n 2, 1) := by decide +kernel
theorem dX10_cached_5 : decode cX10_cached 5 = .ok (.invokestatic 113, 3) := by decide +kernel
theorem dX10_cached_8 : decode cX10_cached 8 = .ok (.iload_n 3, 1) := by decide +kernel
theorem dX10_cached_9 : decode cX10_cached 9 = .ok (.iconst 4, 1) := by decide +kernel
theorem dX10_cached_10 : decode cX10_cached 10 = .ok (.invokestatic 244, 3) := by decide +kernel
theorem dX10_cached_13 : decode cX10_cached 13 = .ok (.aload_n 0, 1) := by decide +kernel
theorem dX10_cached_14 : decode cX10_cached 14 = .ok (.getfield 53, 3) := by decide +kernel
theorem dX10_cached_17 : decode cX10_cached 17 = .ok (.iload_n 1, 1) := by decide +kernel
theorem dX10_cached_18 : decode cX10_cached 18 = .ok (.aaload, 1) := by decide +kernel
theorem dX10_cached_19 : decode cX10_cached 19 = .ok (.astore 4, 2) := by decide +kernel
theorem dX10_cached_21 : decode cX10_cached 21 = .ok (.aload 4, 2) := by decide +kernel
theorem dX10_cached_23 : decode cX10_cached 23 = .ok (.getfield 131, 3) := by decide +kernel
theorem dX10_cached_26 : decode cX10_cached 26 = .ok (.getfield 248, 3) := by decide +kernel
theorem dX10_cached_29 : decode cX10_cached 29 = .ok (.iload_n 2, 1) := by decide +kernel
theorem dX10_cached_30 : decode cX10_cached 30 = .ok (.baload, 1) := by decide +kernel
theorem dX10_cached_31 : decode cX10_cached 31 = .ok (.ifCond .ne 7, 3) := by decide +kernel
theorem dX10_cached_34 : decode cX10_cached 34 = .ok (.ldc2_w 174, 3) := by decide +kernel
theorem dX10_cached_37 : decode cX10_cached 37 = .ok (.lreturn, 1) := by decide +kernel
theorem dX10_cached_38 : decode cX10_cached 38 = .ok (.iload_n 3, 1) := by decide +kernel
theorem dX10_cached_39 : decode cX10_cached 39 = .ok (.tableswitch 103 0 3 #[29, 66, 78, 87], 29) := by decide +kernel
theorem dX10_cached_68 : decode cX10_cached 68 = .ok (.aload_n 0, 1) := by decide +kernel
theorem dX10_cached_69 : decode cX10_cached 69 = .ok (.getfield 25, 3) := by decide +kernel
theorem dX10_cached_72 : decode cX10_cached 72 = .ok (.getfield 275, 3) := by decide +kernel
theorem dX10_cached_75 : decode cX10_cached 75 = .ok (.iload_n 2, 1) := by decide +kernel
theorem dX10_cached_76 : decode cX10_cached 76 = .ok (.baload, 1) := by decide +kernel
theorem dX10_cached_77 : decode cX10_cached 77 = .ok (.ifCond .eq 16, 3) := by decide +kernel
theorem dX10_cached_80 : decode cX10_cached 80 = .ok (.aload 4, 2) := by decide +kernel
theorem dX10_cached_82 : decode cX10_cached 82 = .ok (.getfield 131, 3) := by decide +kernel
theorem dX10_cached_85 : decode cX10_cached 85 = .ok (.iload_n 2, 1) := by decide +kernel
theorem dX10_cached_86 : decode cX10_cached 86 = .ok (.invokevirtual 180, 3) := by decide +kernel
theorem dX10_cached_89 : decode cX10_cached 89 = .ok (.i2l, 1) := by decide +kernel
theorem dX10_cached_90 : decode cX10_cached 90 = .ok (.goto 14, 3) := by decide +kernel
theorem dX10_cached_93 : decode cX10_cached 93 = .ok (.aload 4, 2) := by decide +kernel
theorem dX10_cached_95 : decode cX10_cached 95 = .ok (.getfield 131, 3) := by decide +kernel
theorem dX10_cached_98 : decode cX10_cached 98 = .ok (.getfield 141, 3) := by decide +kernel
theorem dX10_cached_101 : decode cX10_cached 101 = .ok (.iload_n 2, 1) := by decide +kernel
theorem dX10_cached_102 : decode cX10_cached 102 = .ok (.iaload, 1) := by decide +kernel
theorem dX10_cached_103 : decode cX10_cached 103 = .ok (.i2l, 1) := by decide +kernel
theorem dX10_cached_104 : decode cX10_cached 104 = .ok (.lreturn, 1) := by decide +kernel
theorem dX10_cached_105 : decode cX10_cached 105 = .ok (.aload 4, 2) := by decide +kernel
theorem dX10_cached_107 : decode cX10_cached 107 = .ok (.getfield 131, 3) := by decide +kernel
theorem dX10_cached_110 : decode cX10_cached 110 = .ok (.getfield 252, 3) := by decide +kernel
theorem dX10_cached_113 : decode cX10_cached 113 = .ok (.iload_n 2, 1) := by decide +kernel
theorem dX10_cached_114 : decode cX10_cached 114 = .ok (.iaload, 1) := by decide +kernel
theorem dX10_cached_115 : decode cX10_cached 115 = .ok (.i2l, 1) := by decide +kernel
theorem dX10_cached_116 : decode cX10_cached 116 = .ok (.lreturn, 1) := by decide +kernel
theorem dX10_cached_117 : decode cX10_cached 117 = .ok (.aload 4, 2) := by decide +kernel
theorem dX10_cached_119 : decode cX10_cached 119 = .ok (.getfield 278, 3) := by decide +kernel
theorem dX10_cached_122 : decode cX10_cached 122 = .ok (.iload_n 2, 1) := by decide +kernel
theorem dX10_cached_123 : decode cX10_cached 123 = .ok (.iaload, 1) := by decide +kernel
theorem dX10_cached_124 : decode cX10_cached 124 = .ok (.i2l, 1) := by decide +kernel
theorem dX10_cached_125 : decode cX10_cached 125 = .ok (.lreturn, 1) := by decide +kernel
theorem dX10_cached_126 : decode cX10_cached 126 = .ok (.aload 4, 2) := by decide +kernel
theorem dX10_cached_128 : decode cX10_cached 128 = .ok (.getfield 281, 3) := by decide +kernel
theorem dX10_cached_131 : decode cX10_cached 131 = .ok (.iload_n 2, 1) := by decide +kernel
theorem dX10_cached_132 : decode cX10_cached 132 = .ok (.baload, 1) := by decide +kernel
theorem dX10_cached_133 : decode cX10_cached 133 = .ok (.ifCond .eq 7, 3) := by decide +kernel
theorem dX10_cached_136 : decode cX10_cached 136 = .ok (.lconst 1, 1) := by decide +kernel
theorem dX10_cached_137 : decode cX10_cached 137 = .ok (.goto 4, 3) := by decide +kernel
theorem dX10_cached_140 : decode cX10_cached 140 = .ok (.lconst 0, 1) := by decide +kernel
theorem dX10_cached_141 : decode cX10_cached 141 = .ok (.lreturn, 1) := by decide +kernel
theorem dX10_cached_142 : decode cX10_cached 142 = .ok (.aload 4, 2) := by decide +kernel
theorem dX10_cached_144 : decode cX10_cached 144 = .ok (.iload_n 2, 1) := by decide +kernel
theorem dX10_cached_145 : decode cX10_cached 145 = .ok (.aload_n 0, 1) := by decide +kernel
theorem dX10_cached_146 : decode cX10_cached 146 = .ok (.getfield 34, 3) := by decide +kernel
theorem dX10_cached_149 : decode cX10_cached 149 = .ok (.iload_n 1, 1) := by decide +kernel
theorem dX10_cached_150 : decode cX10_cached 150 = .ok (.invokevirtual 190, 3) := by decide +kernel
theorem dX10_cached_153 : decode cX10_cached 153 = .ok (.invokevirtual 211, 3) := by decide +kernel
theorem dX10_cached_156 : decode cX10_cached 156 = .ok (.ifCond .eq 7, 3) := by decide +kernel
theorem dX10_cached_159 : decode cX10_cached 159 = .ok (.lconst 1, 1) := by decide +kernel
theorem dX10_cached_160 : decode cX10_cached 160 = .ok (.goto 4, 3) := by decide +kernel
theorem dX10_cached_163 : decode cX10_cached 163 = .ok (.lconst 0, 1) := by decide +kernel
theorem dX10_cached_164 : decode cX10_cached 164 = .ok (.lreturn, 1) := by decide +kernel
abbrev wmX10_cached : List Cond := .code yX10_cached cX10_cached 5 (some .long) :: tBig
def f_X10_cached (N : Nat) (M : gM) (a1 : Int32) (a2 : Int32) (a3 : Int32) : Option (Nat × Int64 × gM) :=
  o1 (f_X10_checkClient N M a1) (fun k1 => (if k1 = 0 then o1 (f_X10_checkObject N M a2) (fun k4 => (if k4 = 0 then o1 (f_X10_checkWhat N M a3 (4 : Int32)) (fun k7 => (if k7 = 0 then ix a1 4 (fun v10 => rd M (51, (4 + v10), 0) 48 a2 (fun v11 => (if v11 = 0 then some (0, (-2199023255552 : Int64), M) else (if a3.toInt < 0 ∨ 3 < a3.toInt then o1 (f_X5_nearClient N M a1) (fun v15 => o1 (f_X1_isGood N M v10 a2 v15) (fun v17 => (if v17 = 0 then some (0, (0 : Int64), M) else some (0, (1 : Int64), M)))) else (if a3 = 0 then rd M (4, 0, 0) 48 a2 (fun v20 => (if v20 = 0 then rd M (52, (4 + v10), 0) 48 a2 (fun v22 => some (0, v22.toInt64, M)) else o1 (f_X8_thereIn N M (4 + v10) a2) (fun v24 => some (0, v24.toInt64, M)))) else (if a3 = 1 then rd M (53, (4 + v10), 0) 48 a2 (fun v26 => some (0, v26.toInt64, M)) else (if a3 = 2 then rd M (32, v10, 0) 48 a2 (fun v28 => some (0, v28.toInt64, M)) else (if a3 = 3 then rd M (33, v10, 0) 48 a2 (fun v30 => (if v30 = 0 then some (0, (0 : Int64), M) else some (0, (1 : Int64), M))) else none)))))))) else some (k7, (0 : Int64), M))) else some (k4, (0 : Int64), M))) else some (k1, (0 : Int64), M)))
set_option maxHeartbeats 4000000 in
set_option maxRecDepth 100000 in
theorem t_X10_cached (l : Launch) (hst : l.stackTraces = false) (N : Nat) (D : va_G) (dA : Nat → ClassId) (A : gI → Nat) (hJ : gJ (cLive N) A) (tx : Nat → Nat) (sz : Nat) {M : gM} {a1 : Int32} {a2 : Int32} {a3 : Int32} {y : (Nat × Int64 × gM)} (h : f_X10_cached N M a1 a2 a3 = some y) : tMl l yX10_cached wmX10_cached ({ frames := 7, cells := 3, slots := 18, locals := 111 } : Room) N D dA A tx sz [.ref (A (0, 0, 0)), .int a1, .int a2, .int a3] M y 3 18 := by
  refine vx_ofW (cc := cX10_cached) (maxL := 5) (ret := (some .long)) (by decide) rfl ?_
  intro p e s m args below meth c s₁ B hml hout hv
  obtain ⟨rfl, hsz, hP, hK, hN, hT⟩ := hv
  subst hsz
  generalize hargs : ([.ref (A (0, 0, 0)), .int a1, .int a2, .int a3] : List Value).toArray = args at B ⊢
  have S : CallFix p m c cX10_cached 5 s args wmX10_cached RX10 := ⟨B.exec, B.bytes, hml, findClass_of_methodNamed B.named, atoms_spec (ws := wmX10_cached) B.pre⟩
  obtain ⟨hx, hb, -, hown, hts⟩ := id S
  have hr := B.returns
  have hlocks := B.notSynchronized
  have X : gX D vwCl dA (cLive N) A (cReg N A s.heap.size) s := ⟨hK, hJ, fun i hi => Or.inl ⟨i, hi, rfl⟩⟩
  have Z : tZ D N dA A s M s.heap [] := ⟨hP, va_S.rf⟩
  have hin_X0 : ∀ w ∈ wsX00, w ∈ wmX10_cached := tin cin_X0 (Or.inr trivial)
  have hin_X1 : ∀ w ∈ wsX10, w ∈ wmX10_cached := tin cin_X1 (Or.inr trivial)
  have hin_X10 : ∀ w ∈ wsX100, w ∈ wmX10_cached := tin cin_X10 (Or.inr trivial)
  have hin_X8 : ∀ w ∈ wsX80, w ∈ wmX10_cached := tin cin_X8 (Or.inr trivial)
  have hl_25 := hts (.fieldLink RX10 25 "ReplicaFiles" "catalog" "LReplicaFiles$Catalog;") (tBc 532 rfl)
  have hl_34 := hts (.fieldLink RX10 34 "ReplicaFiles" "net" "LReplicaFiles$Net;") (tBc 535 rfl)
  have hl_53 := hts (.fieldLink RX10 53 "ReplicaFiles" "clients" "[LReplicaFiles$Client;") (tBc 541 rfl)
  have hl_131 := va_Nw.use (A := args) rfl (hN.1 ("ReplicaFiles", 131, "ReplicaFiles$Client", "tree", "LReplicaFiles$Tree;", "ReplicaFiles") (by decide +kernel))
  have hl_141 := va_Nw.use (A := args) rfl (hN.1 ("ReplicaFiles", 141, "ReplicaFiles$Tree", "value", "[I", "ReplicaFiles") (by decide +kernel))
  have hl_248 := va_Nw.use (A := args) rfl (hN.1 ("ReplicaFiles", 248, "ReplicaFiles$Tree", "held", "[Z", "ReplicaFiles") (by decide +kernel))
  have hl_252 := va_Nw.use (A := args) rfl (hN.1 ("ReplicaFiles", 252, "ReplicaFiles$Tree", "size", "[I", "ReplicaFiles") (by decide +kernel))
  have hl_275 := va_Nw.use (A := args) rfl (hN.1 ("ReplicaFiles", 275, "ReplicaFiles$Catalog", "isDirectory", "[Z", "ReplicaFiles") (by decide +kernel))
  have hl_278 := va_Nw.use (A := args) rfl (hN.1 ("ReplicaFiles", 278, "ReplicaFiles$Client", "promised", "[I", "ReplicaFiles") (by decide +kernel))
  have hl_281 := va_Nw.use (A := args) rfl (hN.1 ("ReplicaFiles", 281, "ReplicaFiles$Client", "dirty", "[Z", "ReplicaFiles") (by decide +kernel))
  have hc_174 := hts (.constantLong RX10 174 (-2199023255552)) (tBc 602 rfl)
  have hl := lv_entry ([.ref (A (0, 0, 0)), .int a1, .int a2, .int a3]) (n := 5) (Nat.le_of_ble_eq_true rfl)
  rw [← hargs, lg_entry_eq, hargs]
  generalize (lg_sl ([.ref (A (0, 0, 0)), .int a1, .int a2, .int a3]) ++ List.replicate (5 - (lg_sl ([.ref (A (0, 0, 0)), .int a1, .int a2, .int a3])).length) Slot.unset).toArray = ls at hl ⊢
  have hl : lv_has ls 5 [(0, .ref (A (0, 0, 0))), (1, .int a1), (2, .int a2), (3, .int a3)] := hl
  unfold f_X10_cached at h
  refine lv_iload_n hx hb dX10_cached_0 rfl (lv_at hl 1 rfl) ?_
  obtain ⟨k1, hc2, h⟩ := o1_e h
  refine t_chk X Z (vx_runS (As := [.int a1]) (rest := []) S (t_X10_checkClient l hst N D dA A hJ tx _ hc2) (va_cwS 1 hts (tTS (tB 591 rfl) (tB 592 rfl) (tB 107 rfl) (tB 585 rfl)) rfl rfl rfl (by decide +kernel) ⟨Nat.le_of_ble_eq_true rfl, Nat.le_of_ble_eq_true rfl⟩) ⟨tPc.blind, t_pre X hN hT Z _⟩ rfl rfl hl.1 rfl (lv_room (m := m) (pc := 1) (ls := ls) (rest := [.int a1]) (Nat.le_of_ble_eq_true rfl)) dX10_cached_1 ⟨Nat.le_of_ble_eq_true rfl, Nat.le_of_ble_eq_true rfl⟩) (fun hk3 ce q9 H locs Z hce hcv hcl => ?_) (fun hk3 H locs Z => ?_)
  · have h := if_f hk3 h
    have hy := Option.some.inj h
    subst hy
    exact t_out hk3 hout hlocks Z hce hcv hcl (Nat.le_of_ble_eq_true rfl) (Nat.le_of_ble_eq_true rfl)
  have h := if_t hk3 h
  refine lv_iload_n hx hb dX10_cached_4 rfl (lv_at hl 2 rfl) ?_
  obtain ⟨k4, hc5, h⟩ := o1_e h
  refine t_chk X Z (vx_runS (As := [.int a2]) (rest := []) S (t_X10_checkObject l hst N D dA A hJ tx _ hc5) (va_cwS 1 hts (tTS (tB 593 rfl) (tB 594 rfl) (tB 107 rfl) (tB 586 rfl)) rfl rfl rfl (by decide +kernel) ⟨Nat.le_of_ble_eq_true rfl, Nat.le_of_ble_eq_true rfl⟩) ⟨tPc.blind, t_pre X hN hT Z _⟩ rfl rfl hl.1 rfl (lv_room (m := m) (pc := 5) (ls := ls) (rest := [.int a2]) (Nat.le_of_ble_eq_true rfl)) dX10_cached_5 ⟨Nat.le_of_ble_eq_true rfl, Nat.le_of_ble_eq_true rfl⟩) (fun hk6 ce q9 H locs Z hce hcv hcl => ?_) (fun hk6 H locs Z => ?_)
  · have h := if_f hk6 h
    have hy := Option.some.inj h
    subst hy
    exact t_out hk6 hout hlocks Z hce hcv hcl (Nat.le_of_ble_eq_true rfl) (Nat.le_of_ble_eq_true rfl)
  have h := if_t hk6 h
  refine lv_iload_n hx hb dX10_cached_8 rfl (lv_at hl 3 rfl) ?_
  refine lv_iconst (v := (4 : Int32)) hx hb dX10_cached_9 (by decide) ?_
  obtain ⟨k7, hc8, h⟩ := o1_e h
  refine t_chk X Z (vx_runS (As := [.int a3, .int (4 : Int32)]) (rest := []) S (t_X10_checkWhat l hst N D dA A hJ tx _ hc8) (va_cwS 2 hts (tTS (tB 723 rfl) (tB 724 rfl) (tB 107 rfl) (tB 722 rfl)) rfl rfl rfl (by decide +kernel) ⟨Nat.le_of_ble_eq_true rfl, Nat.le_of_ble_eq_true rfl⟩) ⟨tPc.blind, t_pre X hN hT Z _⟩ rfl rfl hl.1 rfl (lv_room (m := m) (pc := 10) (ls := ls) (rest := [.int (4 : Int32), .int a3]) (Nat.le_of_ble_eq_true rfl)) dX10_cached_10 ⟨Nat.le_of_ble_eq_true rfl, Nat.le_of_ble_eq_true rfl⟩) (fun hk9 ce q9 H locs Z hce hcv hcl => ?_) (fun hk9 H locs Z => ?_)
  · have h := if_f hk9 h
    have hy := Option.some.inj h
    subst hy
    exact t_out hk9 hout hlocks Z hce hcv hcl (Nat.le_of_ble_eq_true rfl) (Nat.le_of_ble_eq_true rfl)
  have h := if_t hk9 h
  refine lv_aload_n hx hb dX10_cached_13 rfl (lv_at hl 0 rfl) ?_
  refine cr_X10_clients S X Z hin_X10 (cl_one N 0 (by decide)) hl_53 dX10_cached_14 ?_
  refine lv_iload_n hx hb dX10_cached_17 rfl (lv_at hl 1 rfl) ?_
  refine g_aald (i := (8, 0, 0)) (ca := 3) ⟨rfl, rfl⟩ S X Z (cl_one N 8 (by decide)) rfl dX10_cached_18 h (fun v10 hv10 h => ?_)
  refine lv_astore (lv' := [(4, .ref (A (30, v10, 0))), (0, .ref (A (0, 0, 0))), (1, .int a1), (2, .int a2), (3, .int a3)]) hx hb dX10_cached_19 hl (by decide) rfl (fun ls hl => ?_)
  refine lv_aload hx hb dX10_cached_21 (lv_at hl 0 rfl) ?_
  refine cn_X1_tree (a := v10) S X Z hin_X1 (cl_cli hv10) hl_131 dX10_cached_23 ?_
  refine cn_X8_held (a := (4 + v10)) S X Z hin_X8 (cl_ct (cl_cli hv10)) hl_248 dX10_cached_26 ?_
  refine lv_iload_n hx hb dX10_cached_29 rfl (lv_at hl 3 rfl) ?_
  refine g_zald (i := (51, (4 + v10), 0)) (n := 48) S X Z (cl_X8_held (cl_ct (cl_cli hv10))) rfl dX10_cached_30 h (fun v11 h => ?_)
  refine lv_if_ne (tgt := 38) hx hb dX10_cached_31 (by decide) (fun c12 => ?_) (fun c12 => ?_)
  · have h := if_f c12 h
    refine lv_iload_n hx hb dX10_cached_38 rfl (lv_at hl 4 rfl) ?_
    by_cases c13 : a3.toInt < 0 ∨ 3 < a3.toInt
    · have h := if_t c13 h
      refine lv_tableOut (tgt := 142) hx hb dX10_cached_39 c13 (by decide) ?_
      refine lv_aload hx hb dX10_cached_142 (lv_at hl 0 rfl) ?_
      refine lv_iload_n hx hb dX10_cached_144 rfl (lv_at hl 3 rfl) ?_
      refine lv_aload_n hx hb dX10_cached_145 rfl (lv_at hl 1 rfl) ?_
      refine cr_X10_net S X Z hin_X10 (cl_one N 0 (by decide)) hl_34 dX10_cached_146 ?_
      refine lv_iload_n hx hb dX10_cached_149 rfl (lv_at hl 2 rfl) ?_
      obtain ⟨v15, hc14, h⟩ := o1_e h
      refine c_i X Z (c_V (i := (5, 0, 0)) (As := [.int a1]) (rest := [.int a2, .ref (A (30, v10, 0))]) S X hN Z (cl_one N 5 (by decide)) rfl rfl (t_X5_nearClient l N D dA A hJ  hc14) (cwV 1 hts (tGV (cB 606 rfl) (cB 607 rfl) (cB 608 rfl) (cB 485 rfl) (cB 492 rfl)) rfl rfl rfl (by decide +kernel) ⟨Nat.le_of_ble_eq_true rfl, Nat.le_of_ble_eq_true rfl⟩) rfl hl.1 rfl (Nat.le_of_ble_eq_true rfl) dX10_cached_150 ⟨Nat.le_of_ble_eq_true rfl, Nat.le_of_ble_eq_true rfl⟩) (fun H locs Z => ?_)
      obtain ⟨v17, hc16, h⟩ := o1_e h
      refine c_i X Z (c_V (i := (30, v10, 0)) (As := [.int a2, .int v15]) (rest := []) S X hN Z (cl_cli hv10) rfl rfl (t_X1_isGood l N D dA A hJ (cl_cli hv10) hc16) (cwV 2 hts (tGV (cB 615 rfl) (cB 616 rfl) (cB 617 rfl) (cB 64 rfl) (cB 65 rfl)) rfl rfl rfl (by decide +kernel) ⟨Nat.le_of_ble_eq_true rfl, Nat.le_of_ble_eq_true rfl⟩) rfl hl.1 rfl (Nat.le_of_ble_eq_true rfl) dX10_cached_153 ⟨Nat.le_of_ble_eq_true rfl, Nat.le_of_ble_eq_true rfl⟩) (fun H locs Z => ?_)
      refine lv_if_eq (tgt := 163) hx hb dX10_cached_156 (by decide) (fun c18 => ?_) (fun c18 => ?_)
      · have h := if_t c18 h
        refine lv_lconst (v := (0 : Int64)) hx hb dX10_cached_163 (by decide) ?_
        have hy := Option.some.inj h
        subst hy
        exact t_rl S Z hr hlocks dX10_cached_164
      · have h := if_f c18 h
        refine lv_lconst (v := (1 : Int64)) hx hb dX10_cached_159 (by decide) ?_
        refine lv_goto (tgt := 164) hx hb dX10_cached_160 (by decide) ?_
        have hy := Option.some.inj h
        subst hy
        exact t_rl S Z hr hlocks dX10_cached_164
    · have h := if_f c13 h
      by_cases c19 : a3 = 0
      · have h := if_t c19 h
        refine lv_tableIn (off := 29) (tgt := 68) hx hb dX10_cached_39 (fun q => c13 (Or.inl q)) (fun q => c13 (Or.inr q)) (by rw [c19]; decide) (by decide) ?_
        refine lv_aload_n hx hb dX10_cached_68 rfl (lv_at hl 1 rfl) ?_
        refine cr_X10_catalog S X Z hin_X10 (cl_one N 0 (by decide)) hl_25 dX10_cached_69 ?_
        refine cn_X0_isDirectory S X Z hin_X0 (cl_one N 1 (by decide)) hl_275 dX10_cached_72 ?_
        refine lv_iload_n hx hb dX10_cached_75 rfl (lv_at hl 3 rfl) ?_
        refine g_zald (i := (4, 0, 0)) (n := 48) S X Z (cl_one N 4 (by decide)) rfl dX10_cached_76 h (fun v20 h => ?_)
        refine lv_if_eq (tgt := 93) hx hb dX10_cached_77 (by decide) (fun c21 => ?_) (fun c21 => ?_)
        · have h := if_t c21 h
          refine lv_aload hx hb dX10_cached_93 (lv_at hl 0 rfl) ?_
          refine cn_X1_tree (a := v10) S X Z hin_X1 (cl_cli hv10) hl_131 dX10_cached_95 ?_
          refine cn_X8_value (a := (4 + v10)) S X Z hin_X8 (cl_ct (cl_cli hv10)) hl_141 dX10_cached_98 ?_
          refine lv_iload_n hx hb dX10_cached_101 rfl (lv_at hl 3 rfl) ?_
          refine g_iald (i := (52, (4 + v10), 0)) (n := 48) S X Z (cl_X8_value (cl_ct (cl_cli hv10))) rfl dX10_cached_102 h (fun v22 h => ?_)
          refine lv_i2l hx hb dX10_cached_103 rfl ?_
          have hy := Option.some.inj h
          subst hy
          exact t_rl S Z hr hlocks dX10_cached_104
        · have h := if_f c21 h
          refine lv_aload hx hb dX10_cached_80 (lv_at hl 0 rfl) ?_
          refine cn_X1_tree (a := v10) S X Z hin_X1 (cl_cli hv10) hl_131 dX10_cached_82 ?_
          refine lv_iload_n hx hb dX10_cached_85 rfl (lv_at hl 3 rfl) ?_
          obtain ⟨v24, hc23, h⟩ := o1_e h
          refine c_i X Z (c_V (i := (50, (4 + v10), 0)) (As := [.int a2]) (rest := []) S X hN Z (cl_ct (cl_cli hv10)) rfl rfl (t_X8_thereIn l N D dA A hJ (cl_ct (cl_cli hv10)) hc23) (cwV 1 hts (tGV (cB 692 rfl) (cB 295 rfl) (cB 296 rfl) (cB 44 rfl) (cB 269 rfl)) rfl rfl rfl (by decide +kernel) ⟨Nat.le_of_ble_eq_true rfl, Nat.le_of_ble_eq_true rfl⟩) rfl hl.1 rfl (Nat.le_of_ble_eq_true rfl) dX10_cached_86 ⟨Nat.le_of_ble_eq_true rfl, Nat.le_of_ble_eq_true rfl⟩) (fun H locs Z => ?_)
          refine lv_i2l hx hb dX10_cached_89 rfl ?_
          refine lv_goto (tgt := 104) hx hb dX10_cached_90 (by decide) ?_
          have hy := Option.some.inj h
          subst hy
          exact t_rl S Z hr hlocks dX10_cached_104
      have h := if_f c19 h
      by_cases c25 : a3 = 1
      · have h := if_t c25 h
        refine lv_tableIn (off := 66) (tgt := 105) hx hb dX10_cached_39 (fun q => c13 (Or.inl q)) (fun q => c13 (Or.inr q)) (by rw [c25]; decide) (by decide) ?_
        refine lv_aload hx hb dX10_cached_105 (lv_at hl 0 rfl) ?_
        refine cn_X1_tree (a := v10) S X Z hin_X1 (cl_cli hv10) hl_131 dX10_cached_107 ?_
        refine cn_X8_size (a := (4 + v10)) S X Z hin_X8 (cl_ct (cl_cli hv10)) hl_252 dX10_cached_110 ?_
        refine lv_iload_n hx hb dX10_cached_113 rfl (lv_at hl 3 rfl) ?_
        refine g_iald (i := (53, (4 + v10), 0)) (n := 48) S X Z (cl_X8_size (cl_ct (cl_cli hv10))) rfl dX10_cached_114 h (fun v26 h => ?_)
        refine lv_i2l hx hb dX10_cached_115 rfl ?_
        have hy := Option.some.inj h
        subst hy
        exact t_rl S Z hr hlocks dX10_cached_116
      have h := if_f c25 h
      by_cases c27 : a3 = 2
      · have h := if_t c27 h
        refine lv_tableIn (off := 78) (tgt := 117) hx hb dX10_cached_39 (fun q => c13 (Or.inl q)) (fun q => c13 (Or.inr q)) (by rw [c27]; decide) (by decide) ?_
        refine lv_aload hx hb dX10_cached_117 (lv_at hl 0 rfl) ?_
        refine cn_X1_promised (a := v10) S X Z hin_X1 (cl_cli hv10) hl_278 dX10_cached_119 ?_
        refine lv_iload_n hx hb dX10_cached_122 rfl (lv_at hl 3 rfl) ?_
        refine g_iald (i := (32, v10, 0)) (n := 48) S X Z (cl_X1_promised (cl_cli hv10)) rfl dX10_cached_123 h (fun v28 h => ?_)
        refine lv_i2l hx hb dX10_cached_124 rfl ?_
        have hy := Option.some.inj h
        subst hy
        exact t_rl S Z hr hlocks dX10_cached_125
      have h := if_f c27 h
      by_cases c29 : a3 = 3
      · have h := if_t c29 h
        refine lv_tableIn (off := 87) (tgt := 126) hx hb dX10_cached_39 (fun q => c13 (Or.inl q)) (fun q => c13 (Or.inr q)) (by rw [c29]; decide) (by decide) ?_
        refine lv_aload hx hb dX10_cached_126 (lv_at hl 0 rfl) ?_
        refine cn_X1_dirty (a := v10) S X Z hin_X1 (cl_cli hv10) hl_281 dX10_cached_128 ?_
        refine lv_iload_n hx hb dX10_cached_131 rfl (lv_at hl 3 rfl) ?_
        refine g_zald (i := (33, v10, 0)) (n := 48) S X Z (cl_X1_dirty (cl_cli hv10)) rfl dX10_cached_132 h (fun v30 h => ?_)
        refine lv_if_eq (tgt := 140) hx hb dX10_cached_133 (by decide) (fun c31 => ?_) (fun c31 => ?_)
        · have h := if_t c31 h
          refine lv_lconst (v := (0 : Int64)) hx hb dX10_cached_140 (by decide) ?_
          have hy := Option.some.inj h
          subst hy
          exact t_rl S Z hr hlocks dX10_cached_141
        · have h := if_f c31 h
          refine lv_lconst (v := (1 : Int64)) hx hb dX10_cached_136 (by decide) ?_
          refine lv_goto (tgt := 141) hx hb dX10_cached_137 (by decide) ?_
          have hy := Option.some.inj h
          subst hy
          exact t_rl S Z hr hlocks dX10_cached_141
      have h := if_f c29 h
      cases h
  · have h := if_t c12 h
    refine lv_ldc2 hx hb hown hc_174 dX10_cached_34 ?_
    have hy := Option.some.inj h
    subst hy
    exact t_rl S Z hr hlocks dX10_cached_37
