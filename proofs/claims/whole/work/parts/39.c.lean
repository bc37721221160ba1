-- X5_turnEnd (IIZ)V: 26 instructions
theorem dX5_turnEnd_0 : decode cX5_turnEnd 0 = .ok (.aload_n 0, 1) := by decide +kernel
theorem dX5_turnEnd_1 : decode cX5_turnEnd 1 = .ok (.getfield 15, 3) := by decide +kernel
theorem dX5_turnEnd_4 : decode cX5_turnEnd 4 = .ok (.iload_n 1, 1) := by decide +kernel
theorem dX5_turnEnd_5 : decode cX5_turnEnd 5 = .ok (.iload_n 3, 1) := by decide +kernel
theorem dX5_turnEnd_6 : decode cX5_turnEnd 6 = .ok (.ifCond .eq 18, 3) := by decide +kernel
theorem dX5_turnEnd_9 : decode cX5_turnEnd 9 = .ok (.aload_n 0, 1) := by decide +kernel
theorem dX5_turnEnd_10 : decode cX5_turnEnd 10 = .ok (.getfield 15, 3) := by decide +kernel
theorem dX5_turnEnd_13 : decode cX5_turnEnd 13 = .ok (.iload_n 1, 1) := by decide +kernel
theorem dX5_turnEnd_14 : decode cX5_turnEnd 14 = .ok (.iaload, 1) := by decide +kernel
theorem dX5_turnEnd_15 : decode cX5_turnEnd 15 = .ok (.iconst 1, 1) := by decide +kernel
theorem dX5_turnEnd_16 : decode cX5_turnEnd 16 = .ok (.iload_n 2, 1) := by decide +kernel
theorem dX5_turnEnd_17 : decode cX5_turnEnd 17 = .ok (.ishl, 1) := by decide +kernel
theorem dX5_turnEnd_18 : decode cX5_turnEnd 18 = .ok (.iconst (-1), 1) := by decide +kernel
theorem dX5_turnEnd_19 : decode cX5_turnEnd 19 = .ok (.ixor, 1) := by decide +kernel
theorem dX5_turnEnd_20 : decode cX5_turnEnd 20 = .ok (.iand, 1) := by decide +kernel
theorem dX5_turnEnd_21 : decode cX5_turnEnd 21 = .ok (.goto 13, 3) := by decide +kernel
theorem dX5_turnEnd_24 : decode cX5_turnEnd 24 = .ok (.aload_n 0, 1) := by decide +kernel
theorem dX5_turnEnd_25 : decode cX5_turnEnd 25 = .ok (.getfield 15, 3) := by decide +kernel
theorem dX5_turnEnd_28 : decode cX5_turnEnd 28 = .ok (.iload_n 1, 1) := by decide +kernel
theorem dX5_turnEnd_29 : decode cX5_turnEnd 29 = .ok (.iaload, 1) := by decide +kernel
theorem dX5_turnEnd_30 : decode cX5_turnEnd 30 = .ok (.iconst 1, 1) := by decide +kernel
theorem dX5_turnEnd_31 : decode cX5_turnEnd 31 = .ok (.iload_n 2, 1) := by decide +kernel
theorem dX5_turnEnd_32 : decode cX5_turnEnd 32 = .ok (.ishl, 1) := by decide +kernel
theorem dX5_turnEnd_33 : decode cX5_turnEnd 33 = .ok (.ior, 1) := by decide +kernel
theorem dX5_turnEnd_34 : decode cX5_turnEnd 34 = .ok (.iastore, 1) := by decide +kernel
theorem dX5_turnEnd_35 : decode cX5_turnEnd 35 = .ok (.return_, 1) := by decide +kernel
abbrev wmX5_turnEnd : List Cond := .code yX5_turnEnd cX5_turnEnd 4 none :: cBig
def f_X5_turnEnd (N : Nat) (M : gM) (a1 : Int32) (a2 : Int32) (a3 : Int32) : Option gM :=
  jn (fun (q : (Int32 × gM)) => match q with | (b1, M2) => wr M2 (6, 0, 0) N a1 b1 (fun M3 => some M3)) (fun J34 => (if a3 = 0 then rd M (6, 0, 0) N a1 (fun v5 => J34 ((v5 ||| ((1 : Int32) <<< (a2 &&& 31))), M)) else rd M (6, 0, 0) N a1 (fun v6 => J34 ((v6 &&& (((1 : Int32) <<< (a2 &&& 31)) ^^^ (-1 : Int32))), M))))
set_option maxHeartbeats 4000000 in
set_option maxRecDepth 100000 in
theorem t_X5_turnEnd (l : Launch) (N : Nat) (D : va_G) (dA : Nat → ClassId) (A : gI → Nat) (hJ : gJ (cLive N) A) {M : gM} {a1 : Int32} {a2 : Int32} {a3 : Int32}  {y : gM} (h : f_X5_turnEnd N M a1 a2 a3 = some y) : cMv l yX5_turnEnd wmX5_turnEnd ({ frames := 0, cells := 0, slots := 0, locals := 0 } : Room) N D dA A [.ref (A (5, 0, 0)), .int a1, .int a2, .int a3] M y := by
  refine Met.ofW (cc := cX5_turnEnd) (maxL := 4) (ret := none) (by decide) rfl ?_
  intro p e s m args below meth c s₁ B hml hv
  obtain ⟨rfl, hP, hK, hN⟩ := hv
  generalize hargs : ([.ref (A (5, 0, 0)), .int a1, .int a2, .int a3] : List Value).toArray = args at B ⊢
  have S : CallFix p m c cX5_turnEnd 4 s args wmX5_turnEnd RX5 := ⟨B.exec, B.bytes, hml, findClass_of_methodNamed B.named, atoms_spec (ws := wmX5_turnEnd) B.pre⟩
  obtain ⟨hx, hb, -, hown, hts⟩ := id S
  have hr := B.returns
  have hlocks := B.notSynchronized
  have X : gX D vwCl dA (cLive N) A (gA (cLive N) A) s := ⟨hK, hJ, fun i hi => ⟨i, hi, rfl⟩⟩
  have Z : gZ D (cLay N) dA (cLive N) A (gA (cLive N) A) s.heap M s.heap [] := ⟨hP, va_S.rf⟩
  have hin_X5 : ∀ w ∈ wsX50, w ∈ wmX5_turnEnd := cin_X5
  have hl_15 := hts (.fieldLink RX5 15 "ReplicaFiles$Net" "broken" "[I") (cBc 478 rfl)
  have hl := lv_entry ([.ref (A (5, 0, 0)), .int a1, .int a2, .int a3]) (n := 4) (Nat.le_of_ble_eq_true rfl)
  rw [← hargs, lg_entry_eq, hargs]
  generalize (lg_sl ([.ref (A (5, 0, 0)), .int a1, .int a2, .int a3]) ++ List.replicate (4 - (lg_sl ([.ref (A (5, 0, 0)), .int a1, .int a2, .int a3])).length) Slot.unset).toArray = ls at hl ⊢
  have hl : lv_has ls 4 [(0, .ref (A (5, 0, 0))), (1, .int a1), (2, .int a2), (3, .int a3)] := hl
  unfold f_X5_turnEnd at h
  refine lv_aload_n hx hb dX5_turnEnd_0 rfl (lv_at hl 0 rfl) ?_
  refine cr_X5_broken S X Z hin_X5 (cl_one N 5 (by decide)) hl_15 dX5_turnEnd_1 ?_
  refine lv_iload_n hx hb dX5_turnEnd_4 rfl (lv_at hl 1 rfl) ?_
  refine lv_iload_n hx hb dX5_turnEnd_5 rfl (lv_at hl 3 rfl) ?_
  obtain ⟨J34, eJ34, h⟩ := jn_e h
  have hJ34 : ∀ (b1 : Int32) (M2 : gM) (H : Heap) (locs : List Loc) (ls : Array Slot), gZ D (cLay N) dA (cLive N) A (gA (cLive N) A) s.heap M2 H locs → lv_has ls 4 [] → J34 (b1, M2) = some y → W p l e (headSpec wmX5_turnEnd ({ frames := 0, cells := 0, slots := 0, locals := 0 } : Room)).room s m args below meth c H locs 0 0 (MQ below (cQv N D dA A y) args s 0 0 (gA (cLive N) A)) (F0 m 34 ls [.int b1, .int a1, .ref (A (6, 0, 0))]) := by
    intro b1 M2 H locs ls Z hl h
    rw [eJ34] at h
    try dsimp only at h
    refine g_iast (i := (6, 0, 0)) (n := N) S X Z (cl_one N 6 (by decide)) rfl dX5_turnEnd_34 h (fun M3 H locs Z h => ?_)
    have hy := Option.some.inj h
    subst hy
    exact g_rv S Z hr hlocks dX5_turnEnd_35
  refine lv_if_eq (tgt := 24) hx hb dX5_turnEnd_6 (by decide) (fun c4 => ?_) (fun c4 => ?_)
  · have h := if_t c4 h
    refine lv_aload_n hx hb dX5_turnEnd_24 rfl (lv_at hl 0 rfl) ?_
    refine cr_X5_broken S X Z hin_X5 (cl_one N 5 (by decide)) hl_15 dX5_turnEnd_25 ?_
    refine lv_iload_n hx hb dX5_turnEnd_28 rfl (lv_at hl 1 rfl) ?_
    refine g_iald (i := (6, 0, 0)) (n := N) S X Z (cl_one N 6 (by decide)) rfl dX5_turnEnd_29 h (fun v5 h => ?_)
    refine lv_iconst (v := (1 : Int32)) hx hb dX5_turnEnd_30 (by decide) ?_
    refine lv_iload_n hx hb dX5_turnEnd_31 rfl (lv_at hl 2 rfl) ?_
    refine lv_ishl hx hb dX5_turnEnd_32 ?_
    refine lv_ior hx hb dX5_turnEnd_33 ?_
    exact hJ34 (v5 ||| ((1 : Int32) <<< (a2 &&& 31))) M _ _ _ Z (lv_sub hl [] rfl) h
  · have h := if_f c4 h
    refine lv_aload_n hx hb dX5_turnEnd_9 rfl (lv_at hl 0 rfl) ?_
    refine cr_X5_broken S X Z hin_X5 (cl_one N 5 (by decide)) hl_15 dX5_turnEnd_10 ?_
    refine lv_iload_n hx hb dX5_turnEnd_13 rfl (lv_at hl 1 rfl) ?_
    refine g_iald (i := (6, 0, 0)) (n := N) S X Z (cl_one N 6 (by decide)) rfl dX5_turnEnd_14 h (fun v6 h => ?_)
    refine lv_iconst (v := (1 : Int32)) hx hb dX5_turnEnd_15 (by decide) ?_
    refine lv_iload_n hx hb dX5_turnEnd_16 rfl (lv_at hl 2 rfl) ?_
    refine lv_ishl hx hb dX5_turnEnd_17 ?_
    refine lv_iconst (v := (-1 : Int32)) hx hb dX5_turnEnd_18 (by decide) ?_
    refine lv_ixor hx hb dX5_turnEnd_19 ?_
    refine lv_iand hx hb dX5_turnEnd_20 ?_
    refine lv_goto (tgt := 34) hx hb dX5_turnEnd_21 (by decide) ?_
    exact hJ34 (v6 &&& (((1 : Int32) <<< (a2 &&& 31)) ^^^ (-1 : Int32))) M _ _ _ Z (lv_sub hl [] rfl) h
-- X5_turnLink (IIZ)Z: 28 instructions
theorem dX5_turnLink_0 : decode cX5_turnLink 0 = .ok (.aload_n 0, 1) := by decide +kernel
theorem dX5_turnLink_1 : decode cX5_turnLink 1 = .ok (.getfield 15, 3) := by decide +kernel
theorem dX5_turnLink_4 : decode cX5_turnLink 4 = .ok (.iload_n 1, 1) := by decide +kernel
theorem dX5_turnLink_5 : decode cX5_turnLink 5 = .ok (.iaload, 1) := by decide +kernel
theorem dX5_turnLink_6 : decode cX5_turnLink 6 = .ok (.iload_n 2, 1) := by decide +kernel
theorem dX5_turnLink_7 : decode cX5_turnLink 7 = .ok (.invokestatic 22, 3) := by decide +kernel
theorem dX5_turnLink_10 : decode cX5_turnLink 10 = .ok (.iload_n 3, 1) := by decide +kernel
theorem dX5_turnLink_11 : decode cX5_turnLink 11 = .ok (.if_icmp .ne 7, 3) := by decide +kernel
theorem dX5_turnLink_14 : decode cX5_turnLink 14 = .ok (.iconst 1, 1) := by decide +kernel
theorem dX5_turnLink_15 : decode cX5_turnLink 15 = .ok (.goto 4, 3) := by decide +kernel
theorem dX5_turnLink_18 : decode cX5_turnLink 18 = .ok (.iconst 0, 1) := by decide +kernel
theorem dX5_turnLink_19 : decode cX5_turnLink 19 = .ok (.istore 4, 2) := by decide +kernel
theorem dX5_turnLink_21 : decode cX5_turnLink 21 = .ok (.aload_n 0, 1) := by decide +kernel
theorem dX5_turnLink_22 : decode cX5_turnLink 22 = .ok (.iload_n 1, 1) := by decide +kernel
theorem dX5_turnLink_23 : decode cX5_turnLink 23 = .ok (.iload_n 2, 1) := by decide +kernel
theorem dX5_turnLink_24 : decode cX5_turnLink 24 = .ok (.iload_n 3, 1) := by decide +kernel
theorem dX5_turnLink_25 : decode cX5_turnLink 25 = .ok (.invokevirtual 30, 3) := by decide +kernel
theorem dX5_turnLink_28 : decode cX5_turnLink 28 = .ok (.iload_n 2, 1) := by decide +kernel
theorem dX5_turnLink_29 : decode cX5_turnLink 29 = .ok (.aload_n 0, 1) := by decide +kernel
theorem dX5_turnLink_30 : decode cX5_turnLink 30 = .ok (.getfield 9, 3) := by decide +kernel
theorem dX5_turnLink_33 : decode cX5_turnLink 33 = .ok (.if_icmp .ge 10, 3) := by decide +kernel
theorem dX5_turnLink_36 : decode cX5_turnLink 36 = .ok (.aload_n 0, 1) := by decide +kernel
theorem dX5_turnLink_37 : decode cX5_turnLink 37 = .ok (.iload_n 2, 1) := by decide +kernel
theorem dX5_turnLink_38 : decode cX5_turnLink 38 = .ok (.iload_n 1, 1) := by decide +kernel
theorem dX5_turnLink_39 : decode cX5_turnLink 39 = .ok (.iload_n 3, 1) := by decide +kernel
theorem dX5_turnLink_40 : decode cX5_turnLink 40 = .ok (.invokevirtual 30, 3) := by decide +kernel
theorem dX5_turnLink_43 : decode cX5_turnLink 43 = .ok (.iload 4, 2) := by decide +kernel
theorem dX5_turnLink_45 : decode cX5_turnLink 45 = .ok (.ireturn, 1) := by decide +kernel
abbrev wmX5_turnLink : List Cond := .code yX5_turnLink cX5_turnLink 5 (some .boolean) :: cBig
def f_X5_turnLink (N : Nat) (M : gM) (a1 : Int32) (a2 : Int32) (a3 : Int32) : Option (Int32 × gM) :=
  rd M (6, 0, 0) N a1 (fun v1 => o1 (f_X10_isIn N M v1 a2) (fun v3 => jn (fun (q : (Int32 × gM)) => match q with | (b4, M5) => o1 (f_X5_turnEnd N M5 a1 a2 a3) (fun M7 => lt (M7 (5, 0, 0) 0) (fun v8 => (if v8 ≤ a2 then gz b4 (some (b4, M7)) else o1 (f_X5_turnEnd N M7 a2 a1 a3) (fun M12 => gz b4 (some (b4, M12))))))) (fun J19 => (if v3 = a3 then J19 ((1 : Int32), M) else J19 ((0 : Int32), M)))))
set_option maxHeartbeats 4000000 in
set_option maxRecDepth 100000 in
theorem t_X5_turnLink (l : Launch) (N : Nat) (D : va_G) (dA : Nat → ClassId) (A : gI → Nat) (hJ : gJ (cLive N) A) {M : gM} {a1 : Int32} {a2 : Int32} {a3 : Int32}  {y : (Int32 × gM)} (h : f_X5_turnLink N M a1 a2 a3 = some y) : cMi l yX5_turnLink wmX5_turnLink ({ frames := 1, cells := 0, slots := 0, locals := 23 } : Room) N D dA A [.ref (A (5, 0, 0)), .int a1, .int a2, .int a3] M y.1 y.2 := by
  refine Met.ofW (cc := cX5_turnLink) (maxL := 5) (ret := (some .boolean)) (by decide) rfl ?_
  intro p e s m args below meth c s₁ B hml hv
  obtain ⟨rfl, hP, hK, hN⟩ := hv
  generalize hargs : ([.ref (A (5, 0, 0)), .int a1, .int a2, .int a3] : List Value).toArray = args at B ⊢
  have S : CallFix p m c cX5_turnLink 5 s args wmX5_turnLink RX5 := ⟨B.exec, B.bytes, hml, findClass_of_methodNamed B.named, atoms_spec (ws := wmX5_turnLink) B.pre⟩
  obtain ⟨hx, hb, -, hown, hts⟩ := id S
  have hr := B.returns
  have hlocks := B.notSynchronized
  have X : gX D vwCl dA (cLive N) A (gA (cLive N) A) s := ⟨hK, hJ, fun i hi => ⟨i, hi, rfl⟩⟩
  have Z : gZ D (cLay N) dA (cLive N) A (gA (cLive N) A) s.heap M s.heap [] := ⟨hP, va_S.rf⟩
  have hin_X5 : ∀ w ∈ wsX50, w ∈ wmX5_turnLink := cin_X5
  have hl_9 := hts (.fieldLink RX5 9 "ReplicaFiles$Net" "serverCount" "I") (cBc 477 rfl)
  have hl_15 := hts (.fieldLink RX5 15 "ReplicaFiles$Net" "broken" "[I") (cBc 478 rfl)
  have hl := lv_entry ([.ref (A (5, 0, 0)), .int a1, .int a2, .int a3]) (n := 5) (Nat.le_of_ble_eq_true rfl)
  rw [← hargs, lg_entry_eq, hargs]
  generalize (lg_sl ([.ref (A (5, 0, 0)), .int a1, .int a2, .int a3]) ++ List.replicate (5 - (lg_sl ([.ref (A (5, 0, 0)), .int a1, .int a2, .int a3])).length) Slot.unset).toArray = ls at hl ⊢
  have hl : lv_has ls 5 [(0, .ref (A (5, 0, 0))), (1, .int a1), (2, .int a2), (3, .int a3)] := hl
  unfold f_X5_turnLink at h
  refine lv_aload_n hx hb dX5_turnLink_0 rfl (lv_at hl 0 rfl) ?_
  refine cr_X5_broken S X Z hin_X5 (cl_one N 5 (by decide)) hl_15 dX5_turnLink_1 ?_
  refine lv_iload_n hx hb dX5_turnLink_4 rfl (lv_at hl 1 rfl) ?_
  refine g_iald (i := (6, 0, 0)) (n := N) S X Z (cl_one N 6 (by decide)) rfl dX5_turnLink_5 h (fun v1 h => ?_)
  refine lv_iload_n hx hb dX5_turnLink_6 rfl (lv_at hl 2 rfl) ?_
  obtain ⟨v3, hc2, h⟩ := o1_e h
  refine c_i X Z (c_SN (As := [.int v1, .int a2]) (rest := []) S X hN Z (t_X10_isIn l N D dA A hJ  hc2) ⟨va_cnB 2 hts (cG (cB 175 rfl)) rfl rfl rfl (hN.2 ("ReplicaFiles$Net", 22, yX10_isIn, "ReplicaFiles") (by decide +kernel)) (hts (.initialized RX10) (cBc 107 rfl)) (by decide +kernel) ⟨Nat.le_of_ble_eq_true rfl, Nat.le_of_ble_eq_true rfl⟩, hts (.static yX10_isIn) (cBc 178 rfl), trivial⟩ rfl hl.1 rfl (Nat.le_of_ble_eq_true rfl) dX5_turnLink_7 ⟨Nat.zero_le _, Nat.zero_le _⟩) (fun H locs Z => ?_)
  refine lv_iload_n hx hb dX5_turnLink_10 rfl (lv_at hl 3 rfl) ?_
  obtain ⟨J19, eJ19, h⟩ := jn_e h
  have hJ19 : ∀ (b4 : Int32) (M5 : gM) (H : Heap) (locs : List Loc) (ls : Array Slot), gZ D (cLay N) dA (cLive N) A (gA (cLive N) A) s.heap M5 H locs → lv_has ls 5 [(0, .ref (A (5, 0, 0))), (1, .int a1), (2, .int a2), (3, .int a3)] → J19 (b4, M5) = some y → W p l e (headSpec wmX5_turnLink ({ frames := 1, cells := 0, slots := 0, locals := 23 } : Room)).room s m args below meth c H locs 0 0 (MQ below (cQi N D dA A y) args s 0 0 (gA (cLive N) A)) (F0 m 19 ls [.int b4]) := by
    intro b4 M5 H locs ls Z hl h
    rw [eJ19] at h
    try dsimp only at h
    refine lv_istore (lv' := [(4, .int b4), (0, .ref (A (5, 0, 0))), (1, .int a1), (2, .int a2), (3, .int a3)]) hx hb dX5_turnLink_19 hl (by decide) rfl (fun ls hl => ?_)
    refine lv_aload_n hx hb dX5_turnLink_21 rfl (lv_at hl 1 rfl) ?_
    refine lv_iload_n hx hb dX5_turnLink_22 rfl (lv_at hl 2 rfl) ?_
    refine lv_iload_n hx hb dX5_turnLink_23 rfl (lv_at hl 3 rfl) ?_
    refine lv_iload_n hx hb dX5_turnLink_24 rfl (lv_at hl 4 rfl) ?_
    obtain ⟨M7, hc6, h⟩ := o1_e h
    refine c_v X Z (c_V (i := (5, 0, 0)) (As := [.int a1, .int a2, .int a3]) (rest := []) S X hN Z (cl_one N 5 (by decide)) rfl rfl (t_X5_turnEnd l N D dA A hJ  hc6) (cwV 3 hts (cGV (cB 488 rfl) (cB 489 rfl) (cB 490 rfl) (cB 485 rfl) (cB 486 rfl)) rfl rfl rfl (by decide +kernel) ⟨Nat.le_of_ble_eq_true rfl, Nat.le_of_ble_eq_true rfl⟩) rfl hl.1 rfl (Nat.le_of_ble_eq_true rfl) dX5_turnLink_25 ⟨Nat.zero_le _, Nat.zero_le _⟩) (fun H locs Z => ?_)
    refine lv_iload_n hx hb dX5_turnLink_28 rfl (lv_at hl 3 rfl) ?_
    refine lv_aload_n hx hb dX5_turnLink_29 rfl (lv_at hl 1 rfl) ?_
    refine cr_X5_serverCount S X Z hin_X5 (cl_one N 5 (by decide)) hl_9 dX5_turnLink_30 h (fun v8 h => ?_)
    refine lv_icmp_ge (tgt := 43) hx hb dX5_turnLink_33 (by decide) (fun c9 => ?_) (fun c9 => ?_)
    · have h := if_t c9 h
      refine lv_iload hx hb dX5_turnLink_43 (lv_at hl 0 rfl) ?_
      obtain ⟨z10, h⟩ := gz_e h
      have hy := Option.some.inj h
      subst hy
      exact g_rz (z10) S Z hr hlocks dX5_turnLink_45
    · have h := if_f c9 h
      refine lv_aload_n hx hb dX5_turnLink_36 rfl (lv_at hl 1 rfl) ?_
      refine lv_iload_n hx hb dX5_turnLink_37 rfl (lv_at hl 3 rfl) ?_
      refine lv_iload_n hx hb dX5_turnLink_38 rfl (lv_at hl 2 rfl) ?_
      refine lv_iload_n hx hb dX5_turnLink_39 rfl (lv_at hl 4 rfl) ?_
      obtain ⟨M12, hc11, h⟩ := o1_e h
      refine c_v X Z (c_V (i := (5, 0, 0)) (As := [.int a2, .int a1, .int a3]) (rest := []) S X hN Z (cl_one N 5 (by decide)) rfl rfl (t_X5_turnEnd l N D dA A hJ  hc11) (cwV 3 hts (cGV (cB 488 rfl) (cB 489 rfl) (cB 490 rfl) (cB 485 rfl) (cB 486 rfl)) rfl rfl rfl (by decide +kernel) ⟨Nat.le_of_ble_eq_true rfl, Nat.le_of_ble_eq_true rfl⟩) rfl hl.1 rfl (Nat.le_of_ble_eq_true rfl) dX5_turnLink_40 ⟨Nat.zero_le _, Nat.zero_le _⟩) (fun H locs Z => ?_)
      refine lv_iload hx hb dX5_turnLink_43 (lv_at hl 0 rfl) ?_
      obtain ⟨z13, h⟩ := gz_e h
      have hy := Option.some.inj h
      subst hy
      exact g_rz (z13) S Z hr hlocks dX5_turnLink_45
  refine lv_icmp_ne (tgt := 18) hx hb dX5_turnLink_11 (by decide) (fun c14 => ?_) (fun c14 => ?_)
  · have h := if_f c14 h
    refine lv_iconst (v := (0 : Int32)) hx hb dX5_turnLink_18 (by decide) ?_
    exact hJ19 (0 : Int32) M _ _ _ Z (lv_sub hl [0, 1, 2, 3] rfl) h
  · have h := if_t c14 h
    refine lv_iconst (v := (1 : Int32)) hx hb dX5_turnLink_14 (by decide) ?_
    refine lv_goto (tgt := 19) hx hb dX5_turnLink_15 (by decide) ?_
    exact hJ19 (1 : Int32) M _ _ _ Z (lv_sub hl [0, 1, 2, 3] rfl) h
-- X5_nearServer (I)I: 16 instructions
theorem dX5_nearServer_0 : decode cX5_nearServer 0 = .ok (.aload_n 0, 1) := by decide +kernel
theorem dX5_nearServer_1 : decode cX5_nearServer 1 = .ok (.iload_n 1, 1) := by decide +kernel
theorem dX5_nearServer_2 : decode cX5_nearServer 2 = .ok (.invokevirtual 26, 3) := by decide +kernel
theorem dX5_nearServer_5 : decode cX5_nearServer 5 = .ok (.ifCond .eq 19, 3) := by decide +kernel
theorem dX5_nearServer_8 : decode cX5_nearServer 8 = .ok (.aload_n 0, 1) := by decide +kernel
theorem dX5_nearServer_9 : decode cX5_nearServer 9 = .ok (.getfield 19, 3) := by decide +kernel
theorem dX5_nearServer_12 : decode cX5_nearServer 12 = .ok (.aload_n 0, 1) := by decide +kernel
theorem dX5_nearServer_13 : decode cX5_nearServer 13 = .ok (.getfield 15, 3) := by decide +kernel
theorem dX5_nearServer_16 : decode cX5_nearServer 16 = .ok (.iload_n 1, 1) := by decide +kernel
theorem dX5_nearServer_17 : decode cX5_nearServer 17 = .ok (.iaload, 1) := by decide +kernel
theorem dX5_nearServer_18 : decode cX5_nearServer 18 = .ok (.iconst (-1), 1) := by decide +kernel
theorem dX5_nearServer_19 : decode cX5_nearServer 19 = .ok (.ixor, 1) := by decide +kernel
theorem dX5_nearServer_20 : decode cX5_nearServer 20 = .ok (.iand, 1) := by decide +kernel
theorem dX5_nearServer_21 : decode cX5_nearServer 21 = .ok (.goto 4, 3) := by decide +kernel
theorem dX5_nearServer_24 : decode cX5_nearServer 24 = .ok (.iconst 0, 1) := by decide +kernel
theorem dX5_nearServer_25 : decode cX5_nearServer 25 = .ok (.ireturn, 1) := by decide +kernel
abbrev wmX5_nearServer : List Cond := .code yX5_nearServer cX5_nearServer 2 (some .int) :: cBig
def f_X5_nearServer (N : Nat) (M : gM) (a1 : Int32) : Option Int32 :=
  o1 (f_X5_isUp N M a1) (fun v2 => (if v2 = 0 then some (0 : Int32) else lt (M (5, 0, 0) 2) (fun v4 => rd M (6, 0, 0) N a1 (fun v5 => some (v4 &&& (v5 ^^^ (-1 : Int32)))))))
set_option maxHeartbeats 4000000 in
set_option maxRecDepth 100000 in
theorem t_X5_nearServer (l : Launch) (N : Nat) (D : va_G) (dA : Nat → ClassId) (A : gI → Nat) (hJ : gJ (cLive N) A) {M : gM} {a1 : Int32}  {y : Int32} (h : f_X5_nearServer N M a1 = some y) : cMi l yX5_nearServer wmX5_nearServer ({ frames := 2, cells := 0, slots := 0, locals := 42 } : Room) N D dA A [.ref (A (5, 0, 0)), .int a1] M y M := by
  refine Met.ofW (cc := cX5_nearServer) (maxL := 2) (ret := (some .int)) (by decide) rfl ?_
  intro p e s m args below meth c s₁ B hml hv
  obtain ⟨rfl, hP, hK, hN⟩ := hv
  generalize hargs : ([.ref (A (5, 0, 0)), .int a1] : List Value).toArray = args at B ⊢
  have S : CallFix p m c cX5_nearServer 2 s args wmX5_nearServer RX5 := ⟨B.exec, B.bytes, hml, findClass_of_methodNamed B.named, atoms_spec (ws := wmX5_nearServer) B.pre⟩
  obtain ⟨hx, hb, -, hown, hts⟩ := id S
  have hr := B.returns
  have hlocks := B.notSynchronized
  have X : gX D vwCl dA (cLive N) A (gA (cLive N) A) s := ⟨hK, hJ, fun i hi => ⟨i, hi, rfl⟩⟩
  have Z : gZ D (cLay N) dA (cLive N) A (gA (cLive N) A) s.heap M s.heap [] := ⟨hP, va_S.rf⟩
  have hin_X5 : ∀ w ∈ wsX50, w ∈ wmX5_nearServer := cin_X5
  have hl_15 := hts (.fieldLink RX5 15 "ReplicaFiles$Net" "broken" "[I") (cBc 478 rfl)
  have hl_19 := hts (.fieldLink RX5 19 "ReplicaFiles$Net" "up" "I") (cBc 479 rfl)
  have hl := lv_entry ([.ref (A (5, 0, 0)), .int a1]) (n := 2) (Nat.le_of_ble_eq_true rfl)
  rw [← hargs, lg_entry_eq, hargs]
  generalize (lg_sl ([.ref (A (5, 0, 0)), .int a1]) ++ List.replicate (2 - (lg_sl ([.ref (A (5, 0, 0)), .int a1])).length) Slot.unset).toArray = ls at hl ⊢
  have hl : lv_has ls 2 [(0, .ref (A (5, 0, 0))), (1, .int a1)] := hl
  unfold f_X5_nearServer at h
  refine lv_aload_n hx hb dX5_nearServer_0 rfl (lv_at hl 0 rfl) ?_
  refine lv_iload_n hx hb dX5_nearServer_1 rfl (lv_at hl 1 rfl) ?_
  obtain ⟨v2, hc1, h⟩ := o1_e h
  refine c_i X Z (c_V (i := (5, 0, 0)) (As := [.int a1]) (rest := []) S X hN Z (cl_one N 5 (by decide)) rfl rfl (t_X5_isUp l N D dA A hJ  hc1) (cwV 1 hts (cGV (cB 482 rfl) (cB 483 rfl) (cB 484 rfl) (cB 485 rfl) (cB 480 rfl)) rfl rfl rfl (by decide +kernel) ⟨Nat.le_of_ble_eq_true rfl, Nat.le_of_ble_eq_true rfl⟩) rfl hl.1 rfl (Nat.le_of_ble_eq_true rfl) dX5_nearServer_2 ⟨Nat.zero_le _, Nat.zero_le _⟩) (fun H locs Z => ?_)
  refine lv_if_eq (tgt := 24) hx hb dX5_nearServer_5 (by decide) (fun c3 => ?_) (fun c3 => ?_)
  · have h := if_t c3 h
    refine lv_iconst (v := (0 : Int32)) hx hb dX5_nearServer_24 (by decide) ?_
    have hy := Option.some.inj h
    subst hy
    exact g_ri S Z hr hlocks dX5_nearServer_25
  · have h := if_f c3 h
    refine lv_aload_n hx hb dX5_nearServer_8 rfl (lv_at hl 0 rfl) ?_
    refine cr_X5_up S X Z hin_X5 (cl_one N 5 (by decide)) hl_19 dX5_nearServer_9 h (fun v4 h => ?_)
    refine lv_aload_n hx hb dX5_nearServer_12 rfl (lv_at hl 0 rfl) ?_
    refine cr_X5_broken S X Z hin_X5 (cl_one N 5 (by decide)) hl_15 dX5_nearServer_13 ?_
    refine lv_iload_n hx hb dX5_nearServer_16 rfl (lv_at hl 1 rfl) ?_
    refine g_iald (i := (6, 0, 0)) (n := N) S X Z (cl_one N 6 (by decide)) rfl dX5_nearServer_17 h (fun v5 h => ?_)
    refine lv_iconst (v := (-1 : Int32)) hx hb dX5_nearServer_18 (by decide) ?_
    refine lv_ixor hx hb dX5_nearServer_19 ?_
    refine lv_iand hx hb dX5_nearServer_20 ?_
    refine lv_goto (tgt := 25) hx hb dX5_nearServer_21 (by decide) ?_
    have hy := Option.some.inj h
    subst hy
    exact g_ri S Z hr hlocks dX5_nearServer_25
-- X5_nearClient (I)I: 31 instructions
theorem dX5_nearClient_0 : decode cX5_nearClient 0 = .ok (.iconst 0, 1) := by decide +kernel
theorem dX5_nearClient_1 : decode cX5_nearClient 1 = .ok (.istore_n 2, 1) := by decide +kernel
theorem dX5_nearClient_2 : decode cX5_nearClient 2 = .ok (.iconst 0, 1) := by decide +kernel
theorem dX5_nearClient_3 : decode cX5_nearClient 3 = .ok (.istore_n 3, 1) := by decide +kernel
theorem dX5_nearClient_4 : decode cX5_nearClient 4 = .ok (.iload_n 3, 1) := by decide +kernel
theorem dX5_nearClient_5 : decode cX5_nearClient 5 = .ok (.aload_n 0, 1) := by decide +kernel
theorem dX5_nearClient_6 : decode cX5_nearClient 6 = .ok (.getfield 9, 3) := by decide +kernel
theorem dX5_nearClient_9 : decode cX5_nearClient 9 = .ok (.if_icmp .ge 38, 3) := by decide +kernel
theorem dX5_nearClient_12 : decode cX5_nearClient 12 = .ok (.aload_n 0, 1) := by decide +kernel
theorem dX5_nearClient_13 : decode cX5_nearClient 13 = .ok (.iload_n 3, 1) := by decide +kernel
theorem dX5_nearClient_14 : decode cX5_nearClient 14 = .ok (.invokevirtual 26, 3) := by decide +kernel
theorem dX5_nearClient_17 : decode cX5_nearClient 17 = .ok (.ifCond .eq 24, 3) := by decide +kernel
theorem dX5_nearClient_20 : decode cX5_nearClient 20 = .ok (.aload_n 0, 1) := by decide +kernel
theorem dX5_nearClient_21 : decode cX5_nearClient 21 = .ok (.getfield 15, 3) := by decide +kernel
theorem dX5_nearClient_24 : decode cX5_nearClient 24 = .ok (.iload_n 3, 1) := by decide +kernel
theorem dX5_nearClient_25 : decode cX5_nearClient 25 = .ok (.iaload, 1) := by decide +kernel
theorem dX5_nearClient_26 : decode cX5_nearClient 26 = .ok (.iconst 4, 1) := by decide +kernel
theorem dX5_nearClient_27 : decode cX5_nearClient 27 = .ok (.iload_n 1, 1) := by decide +kernel
theorem dX5_nearClient_28 : decode cX5_nearClient 28 = .ok (.iadd, 1) := by decide +kernel
theorem dX5_nearClient_29 : decode cX5_nearClient 29 = .ok (.invokestatic 22, 3) := by decide +kernel
theorem dX5_nearClient_32 : decode cX5_nearClient 32 = .ok (.ifCond .ne 9, 3) := by decide +kernel
theorem dX5_nearClient_35 : decode cX5_nearClient 35 = .ok (.iload_n 2, 1) := by decide +kernel
theorem dX5_nearClient_36 : decode cX5_nearClient 36 = .ok (.iconst 1, 1) := by decide +kernel
theorem dX5_nearClient_37 : decode cX5_nearClient 37 = .ok (.iload_n 3, 1) := by decide +kernel
theorem dX5_nearClient_38 : decode cX5_nearClient 38 = .ok (.ishl, 1) := by decide +kernel
theorem dX5_nearClient_39 : decode cX5_nearClient 39 = .ok (.ior, 1) := by decide +kernel
theorem dX5_nearClient_40 : decode cX5_nearClient 40 = .ok (.istore_n 2, 1) := by decide +kernel
theorem dX5_nearClient_41 : decode cX5_nearClient 41 = .ok (.iinc 3 1, 3) := by decide +kernel
theorem dX5_nearClient_44 : decode cX5_nearClient 44 = .ok (.goto (-40), 3) := by decide +kernel
theorem dX5_nearClient_47 : decode cX5_nearClient 47 = .ok (.iload_n 2, 1) := by decide +kernel
theorem dX5_nearClient_48 : decode cX5_nearClient 48 = .ok (.ireturn, 1) := by decide +kernel
abbrev wmX5_nearClient : List Cond := .code yX5_nearClient cX5_nearClient 4 (some .int) :: cBig
def f_X5_nearClient_L4 (N : Nat) (M3 : gM) (a1 : Int32) : Nat → Int32 → Int32 → Option Int32
  | 0, _, _ => none
  | n4 + 1, x1, x2 => lt (M3 (5, 0, 0) 0) (fun v5 => (if v5 ≤ x2 then some x1 else o1 (f_X5_isUp N M3 x2) (fun v8 => jn (fun (b9 : Int32) => lt (x2 + 1) (fun x10 => f_X5_nearClient_L4 N M3 a1 n4 b9 x10)) (fun J41 => (if v8 = 0 then J41 x1 else rd M3 (6, 0, 0) N x2 (fun v12 => o1 (f_X10_isIn N M3 v12 ((4 : Int32) + a1)) (fun v14 => (if v14 = 0 then lt ((x1 ||| ((1 : Int32) <<< (x2 &&& 31)))) (fun x16 => J41 x16) else J41 x1))))))))
def f_X5_nearClient (N : Nat) (M : gM) (a1 : Int32) : Option Int32 :=
  f_X5_nearClient_L4 N M a1 100 (0 : Int32) (0 : Int32)
set_option maxHeartbeats 4000000 in
set_option maxRecDepth 100000 in
theorem t_X5_nearClient (l : Launch) (N : Nat) (D : va_G) (dA : Nat → ClassId) (A : gI → Nat) (hJ : gJ (cLive N) A) {M : gM} {a1 : Int32}  {y : Int32} (h : f_X5_nearClient N M a1 = some y) : cMi l yX5_nearClient wmX5_nearClient ({ frames := 2, cells := 0, slots := 0, locals := 42 } : Room) N D dA A [.ref (A (5, 0, 0)), .int a1] M y M := by
  refine Met.ofW (cc := cX5_nearClient) (maxL := 4) (ret := (some .int)) (by decide) rfl ?_
  intro p e s m args below meth c s₁ B hml hv
  obtain ⟨rfl, hP, hK, hN⟩ := hv
  generalize hargs : ([.ref (A (5, 0, 0)), .int a1] : List Value).toArray = args at B ⊢
  have S : CallFix p m c cX5_nearClient 4 s args wmX5_nearClient RX5 := ⟨B.exec, B.bytes, hml, findClass_of_methodNamed B.named, atoms_spec (ws := wmX5_nearClient) B.pre⟩
  obtain ⟨hx, hb, -, hown, hts⟩ := id S
  have hr := B.returns
  have hlocks := B.notSynchronized
  have X : gX D vwCl dA (cLive N) A (gA (cLive N) A) s := ⟨hK, hJ, fun i hi => ⟨i, hi, rfl⟩⟩
  have Z : gZ D (cLay N) dA (cLive N) A (gA (cLive N) A) s.heap M s.heap [] := ⟨hP, va_S.rf⟩
  have hin_X5 : ∀ w ∈ wsX50, w ∈ wmX5_nearClient := cin_X5
  have hl_9 := hts (.fieldLink RX5 9 "ReplicaFiles$Net" "serverCount" "I") (cBc 477 rfl)
  have hl_15 := hts (.fieldLink RX5 15 "ReplicaFiles$Net" "broken" "[I") (cBc 478 rfl)
  have hl := lv_entry ([.ref (A (5, 0, 0)), .int a1]) (n := 4) (Nat.le_of_ble_eq_true rfl)
  rw [← hargs, lg_entry_eq, hargs]
  generalize (lg_sl ([.ref (A (5, 0, 0)), .int a1]) ++ List.replicate (4 - (lg_sl ([.ref (A (5, 0, 0)), .int a1])).length) Slot.unset).toArray = ls at hl ⊢
  have hl : lv_has ls 4 [(0, .ref (A (5, 0, 0))), (1, .int a1)] := hl
  unfold f_X5_nearClient at h
  refine lv_iconst (v := (0 : Int32)) hx hb dX5_nearClient_0 (by decide) ?_
  refine lv_istore_n (lv' := [(2, .int (0 : Int32)), (0, .ref (A (5, 0, 0))), (1, .int a1)]) hx hb dX5_nearClient_1 rfl hl (by decide) rfl (fun ls hl => ?_)
  refine lv_iconst (v := (0 : Int32)) hx hb dX5_nearClient_2 (by decide) ?_
  refine lv_istore_n (lv' := [(3, .int (0 : Int32)), (2, .int (0 : Int32)), (0, .ref (A (5, 0, 0))), (1, .int a1)]) hx hb dX5_nearClient_3 rfl hl (by decide) rfl (fun ls hl => ?_)
  have hL4 : ∀ (n : Nat) (x1 : Int32) (x2 : Int32) (H : Heap) (locs : List Loc) (ls : Array Slot), gZ D (cLay N) dA (cLive N) A (gA (cLive N) A) s.heap M H locs → lv_has ls 4 [(0, .ref (A (5, 0, 0))), (1, .int a1), (2, .int x1), (3, .int x2)] → f_X5_nearClient_L4 N M a1 n x1 x2 = some y → W p l e (headSpec wmX5_nearClient ({ frames := 2, cells := 0, slots := 0, locals := 42 } : Room)).room s m args below meth c H locs 0 0 (MQ below (cQi N D dA A (y, M)) args s 0 0 (gA (cLive N) A)) (F0 m 4 ls []) := by
    intro n
    induction n with
    | zero =>
      intro x1 x2 H locs ls Z hl h
      rw [f_X5_nearClient_L4] at h
      cases h
    | succ n4 ih4 =>
      intro x1 x2 H locs ls Z hl h
      rw [f_X5_nearClient_L4] at h
      refine lv_iload_n hx hb dX5_nearClient_4 rfl (lv_at hl 3 rfl) ?_
      refine lv_aload_n hx hb dX5_nearClient_5 rfl (lv_at hl 0 rfl) ?_
      refine cr_X5_serverCount S X Z hin_X5 (cl_one N 5 (by decide)) hl_9 dX5_nearClient_6 h (fun v5 h => ?_)
      refine lv_icmp_ge (tgt := 47) hx hb dX5_nearClient_9 (by decide) (fun c6 => ?_) (fun c6 => ?_)
      · have h := if_t c6 h
        refine lv_iload_n hx hb dX5_nearClient_47 rfl (lv_at hl 2 rfl) ?_
        have hy := Option.some.inj h
        subst hy
        exact g_ri S Z hr hlocks dX5_nearClient_48
      · have h := if_f c6 h
        refine lv_aload_n hx hb dX5_nearClient_12 rfl (lv_at hl 0 rfl) ?_
        refine lv_iload_n hx hb dX5_nearClient_13 rfl (lv_at hl 3 rfl) ?_
        obtain ⟨v8, hc7, h⟩ := o1_e h
        refine c_i X Z (c_V (i := (5, 0, 0)) (As := [.int x2]) (rest := []) S X hN Z (cl_one N 5 (by decide)) rfl rfl (t_X5_isUp l N D dA A hJ  hc7) (cwV 1 hts (cGV (cB 482 rfl) (cB 483 rfl) (cB 484 rfl) (cB 485 rfl) (cB 480 rfl)) rfl rfl rfl (by decide +kernel) ⟨Nat.le_of_ble_eq_true rfl, Nat.le_of_ble_eq_true rfl⟩) rfl hl.1 rfl (Nat.le_of_ble_eq_true rfl) dX5_nearClient_14 ⟨Nat.zero_le _, Nat.zero_le _⟩) (fun H locs Z => ?_)
        obtain ⟨J41, eJ41, h⟩ := jn_e h
        have hJ41 : ∀ (b9 : Int32) (H : Heap) (locs : List Loc) (ls : Array Slot), gZ D (cLay N) dA (cLive N) A (gA (cLive N) A) s.heap M H locs → lv_has ls 4 [(0, .ref (A (5, 0, 0))), (1, .int a1), (2, .int b9), (3, .int x2)] → J41 b9 = some y → W p l e (headSpec wmX5_nearClient ({ frames := 2, cells := 0, slots := 0, locals := 42 } : Room)).room s m args below meth c H locs 0 0 (MQ below (cQi N D dA A (y, M)) args s 0 0 (gA (cLive N) A)) (F0 m 41 ls []) := by
          intro b9 H locs ls Z hl h
          rw [eJ41] at h
          try dsimp only at h
          obtain ⟨x10, ex10, h⟩ := lt_e h
          refine lv_iinc (v := x10) (lv' := [(3, .int x10), (0, .ref (A (5, 0, 0))), (1, .int a1), (2, .int b9)]) hx hb dX5_nearClient_41 hl (k := 3) rfl (by rw [ex10]; rfl) (by decide) rfl (fun ls hl => ?_)
          refine lv_goto (tgt := 4) hx hb dX5_nearClient_44 (by decide) ?_
          exact ih4 b9 x10 _ _ _ Z (lv_sub hl [1, 2, 3, 0] rfl) h
        refine lv_if_eq (tgt := 41) hx hb dX5_nearClient_17 (by decide) (fun c11 => ?_) (fun c11 => ?_)
        · have h := if_t c11 h
          exact hJ41 x1 _ _ _ Z (lv_sub hl [0, 1, 2, 3] rfl) h
        · have h := if_f c11 h
          refine lv_aload_n hx hb dX5_nearClient_20 rfl (lv_at hl 0 rfl) ?_
          refine cr_X5_broken S X Z hin_X5 (cl_one N 5 (by decide)) hl_15 dX5_nearClient_21 ?_
          refine lv_iload_n hx hb dX5_nearClient_24 rfl (lv_at hl 3 rfl) ?_
          refine g_iald (i := (6, 0, 0)) (n := N) S X Z (cl_one N 6 (by decide)) rfl dX5_nearClient_25 h (fun v12 h => ?_)
          refine lv_iconst (v := (4 : Int32)) hx hb dX5_nearClient_26 (by decide) ?_
          refine lv_iload_n hx hb dX5_nearClient_27 rfl (lv_at hl 1 rfl) ?_
          refine lv_iadd hx hb dX5_nearClient_28 ?_
          obtain ⟨v14, hc13, h⟩ := o1_e h
          refine c_i X Z (c_SN (As := [.int v12, .int ((4 : Int32) + a1)]) (rest := []) S X hN Z (t_X10_isIn l N D dA A hJ  hc13) ⟨va_cnB 2 hts (cG (cB 175 rfl)) rfl rfl rfl (hN.2 ("ReplicaFiles$Net", 22, yX10_isIn, "ReplicaFiles") (by decide +kernel)) (hts (.initialized RX10) (cBc 107 rfl)) (by decide +kernel) ⟨Nat.le_of_ble_eq_true rfl, Nat.le_of_ble_eq_true rfl⟩, hts (.static yX10_isIn) (cBc 178 rfl), trivial⟩ rfl hl.1 rfl (Nat.le_of_ble_eq_true rfl) dX5_nearClient_29 ⟨Nat.zero_le _, Nat.zero_le _⟩) (fun H locs Z => ?_)
          refine lv_if_ne (tgt := 41) hx hb dX5_nearClient_32 (by decide) (fun c15 => ?_) (fun c15 => ?_)
          · have h := if_f c15 h
            exact hJ41 x1 _ _ _ Z (lv_sub hl [0, 1, 2, 3] rfl) h
          · have h := if_t c15 h
            refine lv_iload_n hx hb dX5_nearClient_35 rfl (lv_at hl 2 rfl) ?_
            refine lv_iconst (v := (1 : Int32)) hx hb dX5_nearClient_36 (by decide) ?_
            refine lv_iload_n hx hb dX5_nearClient_37 rfl (lv_at hl 3 rfl) ?_
            refine lv_ishl hx hb dX5_nearClient_38 ?_
            refine lv_ior hx hb dX5_nearClient_39 ?_
            refine g_topi h (fun x16 h => ?_)
            refine lv_istore_n (lv' := [(2, .int x16), (0, .ref (A (5, 0, 0))), (1, .int a1), (3, .int x2)]) hx hb dX5_nearClient_40 rfl hl (by decide) rfl (fun ls hl => ?_)
            exact hJ41 x16 _ _ _ Z (lv_sub hl [1, 2, 0, 3] rfl) h
  exact hL4 100 (0 : Int32) (0 : Int32) _ _ _ Z (lv_sub hl [2, 3, 1, 0] rfl) h
-- X6_isGreatest (II[I)Z: 28 instructions
theorem dX6_isGreatest_0 : decode cX6_isGreatest 0 = .ok (.iconst 0, 1) := by decide +kernel
theorem dX6_isGreatest_1 : decode cX6_isGreatest 1 = .ok (.istore 4, 2) := by decide +kernel
theorem dX6_isGreatest_3 : decode cX6_isGreatest 3 = .ok (.iload 4, 2) := by decide +kernel
theorem dX6_isGreatest_5 : decode cX6_isGreatest 5 = .ok (.aload_n 0, 1) := by decide +kernel
theorem dX6_isGreatest_6 : decode cX6_isGreatest 6 = .ok (.getfield 15, 3) := by decide +kernel
theorem dX6_isGreatest_9 : decode cX6_isGreatest 9 = .ok (.arraylength, 1) := by decide +kernel
theorem dX6_isGreatest_10 : decode cX6_isGreatest 10 = .ok (.if_icmp .ge 42, 3) := by decide +kernel
theorem dX6_isGreatest_13 : decode cX6_isGreatest 13 = .ok (.iload_n 1, 1) := by decide +kernel
theorem dX6_isGreatest_14 : decode cX6_isGreatest 14 = .ok (.iload 4, 2) := by decide +kernel
theorem dX6_isGreatest_16 : decode cX6_isGreatest 16 = .ok (.invokestatic 27, 3) := by decide +kernel
theorem dX6_isGreatest_19 : decode cX6_isGreatest 19 = .ok (.ifCond .eq 27, 3) := by decide +kernel
theorem dX6_isGreatest_22 : decode cX6_isGreatest 22 = .ok (.aload_n 0, 1) := by decide +kernel
theorem dX6_isGreatest_23 : decode cX6_isGreatest 23 = .ok (.getfield 15, 3) := by decide +kernel
theorem dX6_isGreatest_26 : decode cX6_isGreatest 26 = .ok (.iload 4, 2) := by decide +kernel
theorem dX6_isGreatest_28 : decode cX6_isGreatest 28 = .ok (.aaload, 1) := by decide +kernel
theorem dX6_isGreatest_29 : decode cX6_isGreatest 29 = .ok (.getfield 31, 3) := by decide +kernel
theorem dX6_isGreatest_32 : decode cX6_isGreatest 32 = .ok (.getfield 47, 3) := by decide +kernel
theorem dX6_isGreatest_35 : decode cX6_isGreatest 35 = .ok (.iload_n 2, 1) := by decide +kernel
theorem dX6_isGreatest_36 : decode cX6_isGreatest 36 = .ok (.aaload, 1) := by decide +kernel
theorem dX6_isGreatest_37 : decode cX6_isGreatest 37 = .ok (.aload_n 3, 1) := by decide +kernel
theorem dX6_isGreatest_38 : decode cX6_isGreatest 38 = .ok (.invokestatic 67, 3) := by decide +kernel
theorem dX6_isGreatest_41 : decode cX6_isGreatest 41 = .ok (.ifCond .ne 5, 3) := by decide +kernel
theorem dX6_isGreatest_44 : decode cX6_isGreatest 44 = .ok (.iconst 0, 1) := by decide +kernel
theorem dX6_isGreatest_45 : decode cX6_isGreatest 45 = .ok (.ireturn, 1) := by decide +kernel
theorem dX6_isGreatest_46 : decode cX6_isGreatest 46 = .ok (.iinc 4 1, 3) := by decide +kernel
theorem dX6_isGreatest_49 : decode cX6_isGreatest 49 = .ok (.goto (-46), 3) := by decide +kernel
theorem dX6_isGreatest_52 : decode cX6_isGreatest 52 = .ok (.iconst 1, 1) := by decide +kernel
theorem dX6_isGreatest_53 : decode cX6_isGreatest 53 = .ok (.ireturn, 1) := by decide +kernel
abbrev wmX6_isGreatest : List Cond := .code yX6_isGreatest cX6_isGreatest 5 (some .boolean) :: cBig
def f_X6_isGreatest_L3 (N : Nat) (M2 : gM) (a1 : Int32) (a2 : Int32) (a3 : gI) : Nat → Int32 → Option Int32
  | 0, _ => none
  | n3 + 1, x1 => (if (nI N) ≤ x1 then some (1 : Int32) else o1 (f_X10_isIn N M2 a1 x1) (fun v6 => jn (fun (_ : Unit) => lt (x1 + 1) (fun x7 => f_X6_isGreatest_L3 N M2 a1 a2 a3 n3 x7)) (fun J46 => (if v6 = 0 then J46 () else ix x1 N (fun v9 => ix a2 48 (fun v10 => o1 (f_X10_isAtMost N M2 (55, v9, v10) a3) (fun v12 => (if v12 = 0 then some (0 : Int32) else J46 ()))))))))
def f_X6_isGreatest (N : Nat) (M : gM) (a1 : Int32) (a2 : Int32) (a3 : gI) : Option Int32 :=
  f_X6_isGreatest_L3 N M a1 a2 a3 100 (0 : Int32)
set_option maxHeartbeats 4000000 in
set_option maxRecDepth 100000 in
theorem t_X6_isGreatest (l : Launch) (N : Nat) (D : va_G) (dA : Nat → ClassId) (A : gI → Nat) (hJ : gJ (cLive N) A) {M : gM} {a1 : Int32} {a2 : Int32} {a3 : gI} (ha3 : cArr N a3) {y : Int32} (h : f_X6_isGreatest N M a1 a2 a3 = some y) : cMi l yX6_isGreatest wmX6_isGreatest ({ frames := 1, cells := 0, slots := 0, locals := 22 } : Room) N D dA A [.ref (A (10, 0, 0)), .int a1, .int a2, .ref (A a3)] M y M := by
  refine Met.ofW (cc := cX6_isGreatest) (maxL := 5) (ret := (some .boolean)) (by decide) rfl ?_
  intro p e s m args below meth c s₁ B hml hv
  obtain ⟨rfl, hP, hK, hN⟩ := hv
  generalize hargs : ([.ref (A (10, 0, 0)), .int a1, .int a2, .ref (A a3)] : List Value).toArray = args at B ⊢
  have S : CallFix p m c cX6_isGreatest 5 s args wmX6_isGreatest RX6 := ⟨B.exec, B.bytes, hml, findClass_of_methodNamed B.named, atoms_spec (ws := wmX6_isGreatest) B.pre⟩
  obtain ⟨hx, hb, -, hown, hts⟩ := id S
  have hr := B.returns
  have hlocks := B.notSynchronized
  have X : gX D vwCl dA (cLive N) A (gA (cLive N) A) s := ⟨hK, hJ, fun i hi => ⟨i, hi, rfl⟩⟩
  have Z : gZ D (cLay N) dA (cLive N) A (gA (cLive N) A) s.heap M s.heap [] := ⟨hP, va_S.rf⟩
  have hin_X6 : ∀ w ∈ wsX60, w ∈ wmX6_isGreatest := cin_X6
  have hin_X7 : ∀ w ∈ wsX70, w ∈ wmX6_isGreatest := cin_X7
  have hin_X8 : ∀ w ∈ wsX80, w ∈ wmX6_isGreatest := cin_X8
  have hl_15 := hts (.fieldLink RX6 15 "ReplicaFiles$Replicas" "servers" "[LReplicaFiles$Server;") (cBc 177 rfl)
  have hl_31 := va_Nw.use (A := args) rfl (hN.1 ("ReplicaFiles$Replicas", 31, "ReplicaFiles$Server", "tree", "LReplicaFiles$Tree;", "ReplicaFiles") (by decide +kernel))
  have hl_47 := va_Nw.use (A := args) rfl (hN.1 ("ReplicaFiles$Replicas", 47, "ReplicaFiles$Tree", "counts", "[[I", "ReplicaFiles") (by decide +kernel))
  have hl := lv_entry ([.ref (A (10, 0, 0)), .int a1, .int a2, .ref (A a3)]) (n := 5) (Nat.le_of_ble_eq_true rfl)
  rw [← hargs, lg_entry_eq, hargs]
  generalize (lg_sl ([.ref (A (10, 0, 0)), .int a1, .int a2, .ref (A a3)]) ++ List.replicate (5 - (lg_sl ([.ref (A (10, 0, 0)), .int a1, .int a2, .ref (A a3)])).length) Slot.unset).toArray = ls at hl ⊢
  have hl : lv_has ls 5 [(0, .ref (A (10, 0, 0))), (1, .int a1), (2, .int a2), (3, .ref (A a3))] := hl
  unfold f_X6_isGreatest at h
  refine lv_iconst (v := (0 : Int32)) hx hb dX6_isGreatest_0 (by decide) ?_
  refine lv_istore (lv' := [(4, .int (0 : Int32)), (0, .ref (A (10, 0, 0))), (1, .int a1), (2, .int a2), (3, .ref (A a3))]) hx hb dX6_isGreatest_1 hl (by decide) rfl (fun ls hl => ?_)
  have hL3 : ∀ (n : Nat) (x1 : Int32) (H : Heap) (locs : List Loc) (ls : Array Slot), gZ D (cLay N) dA (cLive N) A (gA (cLive N) A) s.heap M H locs → lv_has ls 5 [(0, .ref (A (10, 0, 0))), (1, .int a1), (2, .int a2), (3, .ref (A a3)), (4, .int x1)] → f_X6_isGreatest_L3 N M a1 a2 a3 n x1 = some y → W p l e (headSpec wmX6_isGreatest ({ frames := 1, cells := 0, slots := 0, locals := 22 } : Room)).room s m args below meth c H locs 0 0 (MQ below (cQi N D dA A (y, M)) args s 0 0 (gA (cLive N) A)) (F0 m 3 ls []) := by
    intro n
    induction n with
    | zero =>
      intro x1 H locs ls Z hl h
      rw [f_X6_isGreatest_L3] at h
      cases h
    | succ n3 ih3 =>
      intro x1 H locs ls Z hl h
      rw [f_X6_isGreatest_L3] at h
      refine lv_iload hx hb dX6_isGreatest_3 (lv_at hl 4 rfl) ?_
      refine lv_aload_n hx hb dX6_isGreatest_5 rfl (lv_at hl 0 rfl) ?_
      refine cr_X6_servers S X Z hin_X6 (cl_one N 10 (by decide)) hl_15 dX6_isGreatest_6 ?_
      refine g_alR (i := (7, 0, 0)) (ca := 2) rfl S X Z (cl_one N 7 (by decide)) rfl dX6_isGreatest_9 ?_
      refine lv_icmp_ge (tgt := 52) hx hb dX6_isGreatest_10 (by decide) (fun c4 => ?_) (fun c4 => ?_)
      · have h := if_t c4 h
        refine lv_iconst (v := (1 : Int32)) hx hb dX6_isGreatest_52 (by decide) ?_
        have hy := Option.some.inj h
        subst hy
        exact g_rz (Or.inr rfl) S Z hr hlocks dX6_isGreatest_53
      · have h := if_f c4 h
        refine lv_iload_n hx hb dX6_isGreatest_13 rfl (lv_at hl 1 rfl) ?_
        refine lv_iload hx hb dX6_isGreatest_14 (lv_at hl 4 rfl) ?_
        obtain ⟨v6, hc5, h⟩ := o1_e h
        refine c_i X Z (c_SN (As := [.int a1, .int x1]) (rest := []) S X hN Z (t_X10_isIn l N D dA A hJ  hc5) ⟨va_cnB 2 hts (cG (cB 175 rfl)) rfl rfl rfl (hN.2 ("ReplicaFiles$Replicas", 27, yX10_isIn, "ReplicaFiles") (by decide +kernel)) (hts (.initialized RX10) (cBc 107 rfl)) (by decide +kernel) ⟨Nat.le_of_ble_eq_true rfl, Nat.le_of_ble_eq_true rfl⟩, hts (.static yX10_isIn) (cBc 178 rfl), trivial⟩ rfl hl.1 rfl (Nat.le_of_ble_eq_true rfl) dX6_isGreatest_16 ⟨Nat.zero_le _, Nat.zero_le _⟩) (fun H locs Z => ?_)
        obtain ⟨J46, eJ46, h⟩ := jn_e h
        have hJ46 : ∀  (H : Heap) (locs : List Loc) (ls : Array Slot), gZ D (cLay N) dA (cLive N) A (gA (cLive N) A) s.heap M H locs → lv_has ls 5 [(0, .ref (A (10, 0, 0))), (1, .int a1), (2, .int a2), (3, .ref (A a3)), (4, .int x1)] → J46 () = some y → W p l e (headSpec wmX6_isGreatest ({ frames := 1, cells := 0, slots := 0, locals := 22 } : Room)).room s m args below meth c H locs 0 0 (MQ below (cQi N D dA A (y, M)) args s 0 0 (gA (cLive N) A)) (F0 m 46 ls []) := by
          intro  H locs ls Z hl h
          rw [eJ46] at h
          try dsimp only at h
          obtain ⟨x7, ex7, h⟩ := lt_e h
          refine lv_iinc (v := x7) (lv' := [(4, .int x7), (0, .ref (A (10, 0, 0))), (1, .int a1), (2, .int a2), (3, .ref (A a3))]) hx hb dX6_isGreatest_46 hl (k := 4) rfl (by rw [ex7]; rfl) (by decide) rfl (fun ls hl => ?_)
          refine lv_goto (tgt := 3) hx hb dX6_isGreatest_49 (by decide) ?_
          exact ih3 x7 _ _ _ Z (lv_sub hl [1, 2, 3, 4, 0] rfl) h
        refine lv_if_eq (tgt := 46) hx hb dX6_isGreatest_19 (by decide) (fun c8 => ?_) (fun c8 => ?_)
        · have h := if_t c8 h
          exact hJ46  _ _ _ Z (lv_sub hl [0, 1, 2, 3, 4] rfl) h
        · have h := if_f c8 h
          refine lv_aload_n hx hb dX6_isGreatest_22 rfl (lv_at hl 0 rfl) ?_
          refine cr_X6_servers S X Z hin_X6 (cl_one N 10 (by decide)) hl_15 dX6_isGreatest_23 ?_
          refine lv_iload hx hb dX6_isGreatest_26 (lv_at hl 4 rfl) ?_
          refine g_aald (i := (7, 0, 0)) (ca := 2) ⟨rfl, rfl⟩ S X Z (cl_one N 7 (by decide)) rfl dX6_isGreatest_28 h (fun v9 hv9 h => ?_)
          refine cn_X7_tree (a := v9) S X Z hin_X7 (cl_srv hv9) hl_31 dX6_isGreatest_29 ?_
          refine cn_X8_counts (a := v9) S X Z hin_X8 (cl_st (cl_srv hv9)) hl_47 dX6_isGreatest_32 ?_
          refine lv_iload_n hx hb dX6_isGreatest_35 rfl (lv_at hl 2 rfl) ?_
          refine g_aald (i := (54, v9, 0)) (ca := 5) ⟨rfl, rfl⟩ S X Z (cl_X8_counts (cl_st (cl_srv hv9))) rfl dX6_isGreatest_36 h (fun v10 hv10 h => ?_)
          refine lv_aload_n hx hb dX6_isGreatest_37 rfl (lv_at hl 3 rfl) ?_
          obtain ⟨v12, hc11, h⟩ := o1_e h
          refine c_i X Z (c_SN (As := [.ref (A (55, v9, v10)), .ref (A a3)]) (rest := []) S X hN Z (t_X10_isAtMost l N D dA A hJ ⟨(cl_55 (cl_X8_counts (cl_st (cl_srv hv9))) hv10), rfl⟩ ha3 hc11) ⟨va_cnB 2 hts (cG (cB 264 rfl)) rfl rfl rfl (hN.2 ("ReplicaFiles$Replicas", 67, yX10_isAtMost, "ReplicaFiles") (by decide +kernel)) (hts (.initialized RX10) (cBc 107 rfl)) (by decide +kernel) ⟨Nat.le_of_ble_eq_true rfl, Nat.le_of_ble_eq_true rfl⟩, hts (.static yX10_isAtMost) (cBc 282 rfl), trivial⟩ rfl hl.1 rfl (Nat.le_of_ble_eq_true rfl) dX6_isGreatest_38 ⟨Nat.zero_le _, Nat.zero_le _⟩) (fun H locs Z => ?_)
          refine lv_if_ne (tgt := 46) hx hb dX6_isGreatest_41 (by decide) (fun c13 => ?_) (fun c13 => ?_)
          · have h := if_f c13 h
            exact hJ46  _ _ _ Z (lv_sub hl [0, 1, 2, 3, 4] rfl) h
          · have h := if_t c13 h
            refine lv_iconst (v := (0 : Int32)) hx hb dX6_isGreatest_44 (by decide) ?_
            have hy := Option.some.inj h
            subst hy
            exact g_rz (Or.inl rfl) S Z hr hlocks dX6_isGreatest_45
  exact hL3 100 (0 : Int32) _ _ _ Z (lv_sub hl [1, 2, 3, 4, 0] rfl) h
-- X6_leastGreatest (II)I: 35 instructions
theorem dX6_leastGreatest_0 : decode cX6_leastGreatest 0 = .ok (.aload_n 0, 1) := by decide +kernel
theorem dX6_leastGreatest_1 : decode cX6_leastGreatest 1 = .ok (.iload_n 1, 1) := by decide +kernel
theorem dX6_leastGreatest_2 : decode cX6_leastGreatest 2 = .ok (.iload_n 2, 1) := by decide +kernel
theorem dX6_leastGreatest_3 : decode cX6_leastGreatest 3 = .ok (.invokevirtual 43, 3) := by decide +kernel
theorem dX6_leastGreatest_6 : decode cX6_leastGreatest 6 = .ok (.istore_n 3, 1) := by decide +kernel
theorem dX6_leastGreatest_7 : decode cX6_leastGreatest 7 = .ok (.iconst 0, 1) := by decide +kernel
theorem dX6_leastGreatest_8 : decode cX6_leastGreatest 8 = .ok (.istore 4, 2) := by decide +kernel
theorem dX6_leastGreatest_10 : decode cX6_leastGreatest 10 = .ok (.iload 4, 2) := by decide +kernel
theorem dX6_leastGreatest_12 : decode cX6_leastGreatest 12 = .ok (.aload_n 0, 1) := by decide +kernel
theorem dX6_leastGreatest_13 : decode cX6_leastGreatest 13 = .ok (.getfield 15, 3) := by decide +kernel
theorem dX6_leastGreatest_16 : decode cX6_leastGreatest 16 = .ok (.arraylength, 1) := by decide +kernel
theorem dX6_leastGreatest_17 : decode cX6_leastGreatest 17 = .ok (.if_icmp .ge 45, 3) := by decide +kernel
theorem dX6_leastGreatest_20 : decode cX6_leastGreatest 20 = .ok (.iload_n 3, 1) := by decide +kernel
theorem dX6_leastGreatest_21 : decode cX6_leastGreatest 21 = .ok (.iload 4, 2) := by decide +kernel
theorem dX6_leastGreatest_23 : decode cX6_leastGreatest 23 = .ok (.invokestatic 27, 3) := by decide +kernel
theorem dX6_leastGreatest_26 : decode cX6_leastGreatest 26 = .ok (.ifCond .eq 30, 3) := by decide +kernel
theorem dX6_leastGreatest_29 : decode cX6_leastGreatest 29 = .ok (.aload_n 0, 1) := by decide +kernel
theorem dX6_leastGreatest_30 : decode cX6_leastGreatest 30 = .ok (.iload_n 3, 1) := by decide +kernel
theorem dX6_leastGreatest_31 : decode cX6_leastGreatest 31 = .ok (.iload_n 2, 1) := by decide +kernel
theorem dX6_leastGreatest_32 : decode cX6_leastGreatest 32 = .ok (.aload_n 0, 1) := by decide +kernel
theorem dX6_leastGreatest_33 : decode cX6_leastGreatest 33 = .ok (.getfield 15, 3) := by decide +kernel
theorem dX6_leastGreatest_36 : decode cX6_leastGreatest 36 = .ok (.iload 4, 2) := by decide +kernel
theorem dX6_leastGreatest_38 : decode cX6_leastGreatest 38 = .ok (.aaload, 1) := by decide +kernel
theorem dX6_leastGreatest_39 : decode cX6_leastGreatest 39 = .ok (.getfield 31, 3) := by decide +kernel
theorem dX6_leastGreatest_42 : decode cX6_leastGreatest 42 = .ok (.getfield 47, 3) := by decide +kernel
theorem dX6_leastGreatest_45 : decode cX6_leastGreatest 45 = .ok (.iload_n 2, 1) := by decide +kernel
theorem dX6_leastGreatest_46 : decode cX6_leastGreatest 46 = .ok (.aaload, 1) := by decide +kernel
theorem dX6_leastGreatest_47 : decode cX6_leastGreatest 47 = .ok (.invokevirtual 63, 3) := by decide +kernel
theorem dX6_leastGreatest_50 : decode cX6_leastGreatest 50 = .ok (.ifCond .eq 6, 3) := by decide +kernel
theorem dX6_leastGreatest_53 : decode cX6_leastGreatest 53 = .ok (.iload 4, 2) := by decide +kernel
theorem dX6_leastGreatest_55 : decode cX6_leastGreatest 55 = .ok (.ireturn, 1) := by decide +kernel
theorem dX6_leastGreatest_56 : decode cX6_leastGreatest 56 = .ok (.iinc 4 1, 3) := by decide +kernel
theorem dX6_leastGreatest_59 : decode cX6_leastGreatest 59 = .ok (.goto (-49), 3) := by decide +kernel
theorem dX6_leastGreatest_62 : decode cX6_leastGreatest 62 = .ok (.iconst (-1), 1) := by decide +kernel
theorem dX6_leastGreatest_63 : decode cX6_leastGreatest 63 = .ok (.ireturn, 1) := by decide +kernel
abbrev wmX6_leastGreatest : List Cond := .code yX6_leastGreatest cX6_leastGreatest 5 (some .int) :: cBig
def f_X6_leastGreatest_L10 (N : Nat) (M4 : gM) (a2 : Int32) (v2 : Int32) : Nat → Int32 → Option Int32
  | 0, _ => none
  | n5 + 1, x3 => (if (nI N) ≤ x3 then some (-1 : Int32) else o1 (f_X10_isIn N M4 v2 x3) (fun v8 => jn (fun (_ : Unit) => lt (x3 + 1) (fun x9 => f_X6_leastGreatest_L10 N M4 a2 v2 n5 x9)) (fun J56 => (if v8 = 0 then J56 () else ix x3 N (fun v11 => ix a2 48 (fun v12 => o1 (f_X6_isGreatest N M4 v2 a2 (55, v11, v12)) (fun v14 => (if v14 = 0 then J56 () else some x3))))))))
def f_X6_leastGreatest (N : Nat) (M : gM) (a1 : Int32) (a2 : Int32) : Option Int32 :=
  o1 (f_X6_holders N M a1 a2) (fun v2 => f_X6_leastGreatest_L10 N M a2 v2 100 (0 : Int32))
set_option maxHeartbeats 4000000 in
set_option maxRecDepth 100000 in
theorem t_X6_leastGreatest (l : Launch) (N : Nat) (D : va_G) (dA : Nat → ClassId) (A : gI → Nat) (hJ : gJ (cLive N) A) {M : gM} {a1 : Int32} {a2 : Int32}  {y : Int32} (h : f_X6_leastGreatest N M a1 a2 = some y) : cMi l yX6_leastGreatest wmX6_leastGreatest ({ frames := 2, cells := 0, slots := 0, locals := 46 } : Room) N D dA A [.ref (A (10, 0, 0)), .int a1, .int a2] M y M := by
  refine Met.ofW (cc := cX6_leastGreatest) (maxL := 5) (ret := (some .int)) (by decide) rfl ?_
  intro p e s m args below meth c s₁ B hml hv
  obtain ⟨rfl, hP, hK, hN⟩ := hv
  generalize hargs : ([.ref (A (10, 0, 0)), .int a1, .int a2] : List Value).toArray = args at B ⊢
  have S : CallFix p m c cX6_leastGreatest 5 s args wmX6_leastGreatest RX6 := ⟨B.exec, B.bytes, hml, findClass_of_methodNamed B.named, atoms_spec (ws := wmX6_leastGreatest) B.pre⟩
  obtain ⟨hx, hb, -, hown, hts⟩ := id S
  have hr := B.returns
  have hlocks := B.notSynchronized
  have X : gX D vwCl dA (cLive N) A (gA (cLive N) A) s := ⟨hK, hJ, fun i hi => ⟨i, hi, rfl⟩⟩
  have Z : gZ D (cLay N) dA (cLive N) A (gA (cLive N) A) s.heap M s.heap [] := ⟨hP, va_S.rf⟩
  have hin_X6 : ∀ w ∈ wsX60, w ∈ wmX6_leastGreatest := cin_X6
  have hin_X7 : ∀ w ∈ wsX70, w ∈ wmX6_leastGreatest := cin_X7
  have hin_X8 : ∀ w ∈ wsX80, w ∈ wmX6_leastGreatest := cin_X8
  have hl_15 := hts (.fieldLink RX6 15 "ReplicaFiles$Replicas" "servers" "[LReplicaFiles$Server;") (cBc 177 rfl)
  have hl_31 := va_Nw.use (A := args) rfl (hN.1 ("ReplicaFiles$Replicas", 31, "ReplicaFiles$Server", "tree", "LReplicaFiles$Tree;", "ReplicaFiles") (by decide +kernel))
  have hl_47 := va_Nw.use (A := args) rfl (hN.1 ("ReplicaFiles$Replicas", 47, "ReplicaFiles$Tree", "counts", "[[I", "ReplicaFiles") (by decide +kernel))
  have hl := lv_entry ([.ref (A (10, 0, 0)), .int a1, .int a2]) (n := 5) (Nat.le_of_ble_eq_true rfl)
  rw [← hargs, lg_entry_eq, hargs]
  generalize (lg_sl ([.ref (A (10, 0, 0)), .int a1, .int a2]) ++ List.replicate (5 - (lg_sl ([.ref (A (10, 0, 0)), .int a1, .int a2])).length) Slot.unset).toArray = ls at hl ⊢
  have hl : lv_has ls 5 [(0, .ref (A (10, 0, 0))), (1, .int a1), (2, .int a2)] := hl
  unfold f_X6_leastGreatest at h
  refine lv_aload_n hx hb dX6_leastGreatest_0 rfl (lv_at hl 0 rfl) ?_
  refine lv_iload_n hx hb dX6_leastGreatest_1 rfl (lv_at hl 1 rfl) ?_
  refine lv_iload_n hx hb dX6_leastGreatest_2 rfl (lv_at hl 2 rfl) ?_
  obtain ⟨v2, hc1, h⟩ := o1_e h
  refine c_i X Z (c_V (i := (10, 0, 0)) (As := [.int a1, .int a2]) (rest := []) S X hN Z (cl_one N 10 (by decide)) rfl rfl (t_X6_holders l N D dA A hJ  hc1) (cwV 2 hts (cGV (cB 224 rfl) (cB 225 rfl) (cB 226 rfl) (cB 203 rfl) (cB 222 rfl)) rfl rfl rfl (by decide +kernel) ⟨Nat.le_of_ble_eq_true rfl, Nat.le_of_ble_eq_true rfl⟩) rfl hl.1 rfl (Nat.le_of_ble_eq_true rfl) dX6_leastGreatest_3 ⟨Nat.zero_le _, Nat.zero_le _⟩) (fun H locs Z => ?_)
  refine lv_istore_n (lv' := [(3, .int v2), (0, .ref (A (10, 0, 0))), (1, .int a1), (2, .int a2)]) hx hb dX6_leastGreatest_6 rfl hl (by decide) rfl (fun ls hl => ?_)
  refine lv_iconst (v := (0 : Int32)) hx hb dX6_leastGreatest_7 (by decide) ?_
  refine lv_istore (lv' := [(4, .int (0 : Int32)), (3, .int v2), (0, .ref (A (10, 0, 0))), (1, .int a1), (2, .int a2)]) hx hb dX6_leastGreatest_8 hl (by decide) rfl (fun ls hl => ?_)
  have hL10 : ∀ (n : Nat) (x3 : Int32) (H : Heap) (locs : List Loc) (ls : Array Slot), gZ D (cLay N) dA (cLive N) A (gA (cLive N) A) s.heap M H locs → lv_has ls 5 [(0, .ref (A (10, 0, 0))), (2, .int a2), (3, .int v2), (4, .int x3)] → f_X6_leastGreatest_L10 N M a2 v2 n x3 = some y → W p l e (headSpec wmX6_leastGreatest ({ frames := 2, cells := 0, slots := 0, locals := 46 } : Room)).room s m args below meth c H locs 0 0 (MQ below (cQi N D dA A (y, M)) args s 0 0 (gA (cLive N) A)) (F0 m 10 ls []) := by
    intro n
    induction n with
    | zero =>
      intro x3 H locs ls Z hl h
      rw [f_X6_leastGreatest_L10] at h
      cases h
    | succ n5 ih10 =>
      intro x3 H locs ls Z hl h
      rw [f_X6_leastGreatest_L10] at h
      refine lv_iload hx hb dX6_leastGreatest_10 (lv_at hl 3 rfl) ?_
      refine lv_aload_n hx hb dX6_leastGreatest_12 rfl (lv_at hl 0 rfl) ?_
      refine cr_X6_servers S X Z hin_X6 (cl_one N 10 (by decide)) hl_15 dX6_leastGreatest_13 ?_
      refine g_alR (i := (7, 0, 0)) (ca := 2) rfl S X Z (cl_one N 7 (by decide)) rfl dX6_leastGreatest_16 ?_
      refine lv_icmp_ge (tgt := 62) hx hb dX6_leastGreatest_17 (by decide) (fun c6 => ?_) (fun c6 => ?_)
      · have h := if_t c6 h
        refine lv_iconst (v := (-1 : Int32)) hx hb dX6_leastGreatest_62 (by decide) ?_
        have hy := Option.some.inj h
        subst hy
        exact g_ri S Z hr hlocks dX6_leastGreatest_63
      · have h := if_f c6 h
        refine lv_iload_n hx hb dX6_leastGreatest_20 rfl (lv_at hl 2 rfl) ?_
        refine lv_iload hx hb dX6_leastGreatest_21 (lv_at hl 3 rfl) ?_
        obtain ⟨v8, hc7, h⟩ := o1_e h
        refine c_i X Z (c_SN (As := [.int v2, .int x3]) (rest := []) S X hN Z (t_X10_isIn l N D dA A hJ  hc7) ⟨va_cnB 2 hts (cG (cB 175 rfl)) rfl rfl rfl (hN.2 ("ReplicaFiles$Replicas", 27, yX10_isIn, "ReplicaFiles") (by decide +kernel)) (hts (.initialized RX10) (cBc 107 rfl)) (by decide +kernel) ⟨Nat.le_of_ble_eq_true rfl, Nat.le_of_ble_eq_true rfl⟩, hts (.static yX10_isIn) (cBc 178 rfl), trivial⟩ rfl hl.1 rfl (Nat.le_of_ble_eq_true rfl) dX6_leastGreatest_23 ⟨Nat.zero_le _, Nat.zero_le _⟩) (fun H locs Z => ?_)
        obtain ⟨J56, eJ56, h⟩ := jn_e h
        have hJ56 : ∀  (H : Heap) (locs : List Loc) (ls : Array Slot), gZ D (cLay N) dA (cLive N) A (gA (cLive N) A) s.heap M H locs → lv_has ls 5 [(0, .ref (A (10, 0, 0))), (2, .int a2), (3, .int v2), (4, .int x3)] → J56 () = some y → W p l e (headSpec wmX6_leastGreatest ({ frames := 2, cells := 0, slots := 0, locals := 46 } : Room)).room s m args below meth c H locs 0 0 (MQ below (cQi N D dA A (y, M)) args s 0 0 (gA (cLive N) A)) (F0 m 56 ls []) := by
          intro  H locs ls Z hl h
          rw [eJ56] at h
          try dsimp only at h
          obtain ⟨x9, ex9, h⟩ := lt_e h
          refine lv_iinc (v := x9) (lv' := [(4, .int x9), (0, .ref (A (10, 0, 0))), (2, .int a2), (3, .int v2)]) hx hb dX6_leastGreatest_56 hl (k := 3) rfl (by rw [ex9]; rfl) (by decide) rfl (fun ls hl => ?_)
          refine lv_goto (tgt := 10) hx hb dX6_leastGreatest_59 (by decide) ?_
          exact ih10 x9 _ _ _ Z (lv_sub hl [1, 2, 3, 0] rfl) h
        refine lv_if_eq (tgt := 56) hx hb dX6_leastGreatest_26 (by decide) (fun c10 => ?_) (fun c10 => ?_)
        · have h := if_t c10 h
          exact hJ56  _ _ _ Z (lv_sub hl [0, 1, 2, 3] rfl) h
        · have h := if_f c10 h
          refine lv_aload_n hx hb dX6_leastGreatest_29 rfl (lv_at hl 0 rfl) ?_
          refine lv_iload_n hx hb dX6_leastGreatest_30 rfl (lv_at hl 2 rfl) ?_
          refine lv_iload_n hx hb dX6_leastGreatest_31 rfl (lv_at hl 1 rfl) ?_
          refine lv_aload_n hx hb dX6_leastGreatest_32 rfl (lv_at hl 0 rfl) ?_
          refine cr_X6_servers S X Z hin_X6 (cl_one N 10 (by decide)) hl_15 dX6_leastGreatest_33 ?_
          refine lv_iload hx hb dX6_leastGreatest_36 (lv_at hl 3 rfl) ?_
          refine g_aald (i := (7, 0, 0)) (ca := 2) ⟨rfl, rfl⟩ S X Z (cl_one N 7 (by decide)) rfl dX6_leastGreatest_38 h (fun v11 hv11 h => ?_)
          refine cn_X7_tree (a := v11) S X Z hin_X7 (cl_srv hv11) hl_31 dX6_leastGreatest_39 ?_
          refine cn_X8_counts (a := v11) S X Z hin_X8 (cl_st (cl_srv hv11)) hl_47 dX6_leastGreatest_42 ?_
          refine lv_iload_n hx hb dX6_leastGreatest_45 rfl (lv_at hl 1 rfl) ?_
          refine g_aald (i := (54, v11, 0)) (ca := 5) ⟨rfl, rfl⟩ S X Z (cl_X8_counts (cl_st (cl_srv hv11))) rfl dX6_leastGreatest_46 h (fun v12 hv12 h => ?_)
          obtain ⟨v14, hc13, h⟩ := o1_e h
          refine c_i X Z (c_V (i := (10, 0, 0)) (As := [.int v2, .int a2, .ref (A (55, v11, v12))]) (rest := []) S X hN Z (cl_one N 10 (by decide)) rfl rfl (t_X6_isGreatest l N D dA A hJ ⟨(cl_55 (cl_X8_counts (cl_st (cl_srv hv11))) hv12), rfl⟩ hc13) (cwV 3 hts (cGV (cB 498 rfl) (cB 499 rfl) (cB 500 rfl) (cB 203 rfl) (cB 496 rfl)) rfl rfl rfl (by decide +kernel) ⟨Nat.le_of_ble_eq_true rfl, Nat.le_of_ble_eq_true rfl⟩) rfl hl.1 rfl (Nat.le_of_ble_eq_true rfl) dX6_leastGreatest_47 ⟨Nat.zero_le _, Nat.zero_le _⟩) (fun H locs Z => ?_)
          refine lv_if_eq (tgt := 56) hx hb dX6_leastGreatest_50 (by decide) (fun c15 => ?_) (fun c15 => ?_)
          · have h := if_t c15 h
            exact hJ56  _ _ _ Z (lv_sub hl [0, 1, 2, 3] rfl) h
          · have h := if_f c15 h
            refine lv_iload hx hb dX6_leastGreatest_53 (lv_at hl 3 rfl) ?_
            have hy := Option.some.inj h
            subst hy
            exact g_ri S Z hr hlocks dX6_leastGreatest_55
  exact hL10 100 (0 : Int32) _ _ _ Z (lv_sub hl [2, 4, 1, 0] rfl) h
-- X6_leastInConflict (II)I: 24 instructions
theorem dX6_leastInConflict_0 : decode cX6_leastInConflict 0 = .ok (.iconst 0, 1) := by decide +kernel
theorem dX6_leastInConflict_1 : decode cX6_leastInConflict 1 = .ok (.istore_n 3, 1) := by decide +kernel
theorem dX6_leastInConflict_2 : decode cX6_leastInConflict 2 = .ok (.iload_n 3, 1) := by decide +kernel
theorem dX6_leastInConflict_3 : decode cX6_leastInConflict 3 = .ok (.aload_n 0, 1) := by decide +kernel
theorem dX6_leastInConflict_4 : decode cX6_leastInConflict 4 = .ok (.getfield 15, 3) := by decide +kernel
theorem dX6_leastInConflict_7 : decode cX6_leastInConflict 7 = .ok (.arraylength, 1) := by decide +kernel
theorem dX6_leastInConflict_8 : decode cX6_leastInConflict 8 = .ok (.if_icmp .ge 32, 3) := by decide +kernel
theorem dX6_leastInConflict_11 : decode cX6_leastInConflict 11 = .ok (.iload_n 1, 1) := by decide +kernel
theorem dX6_leastInConflict_12 : decode cX6_leastInConflict 12 = .ok (.iload_n 3, 1) := by decide +kernel
theorem dX6_leastInConflict_13 : decode cX6_leastInConflict 13 = .ok (.invokestatic 27, 3) := by decide +kernel
theorem dX6_leastInConflict_16 : decode cX6_leastInConflict 16 = .ok (.ifCond .eq 18, 3) := by decide +kernel
theorem dX6_leastInConflict_19 : decode cX6_leastInConflict 19 = .ok (.aload_n 0, 1) := by decide +kernel
theorem dX6_leastInConflict_20 : decode cX6_leastInConflict 20 = .ok (.getfield 15, 3) := by decide +kernel
theorem dX6_leastInConflict_23 : decode cX6_leastInConflict 23 = .ok (.iload_n 3, 1) := by decide +kernel
theorem dX6_leastInConflict_24 : decode cX6_leastInConflict 24 = .ok (.aaload, 1) := by decide +kernel
theorem dX6_leastInConflict_25 : decode cX6_leastInConflict 25 = .ok (.iload_n 2, 1) := by decide +kernel
theorem dX6_leastInConflict_26 : decode cX6_leastInConflict 26 = .ok (.invokevirtual 59, 3) := by decide +kernel
theorem dX6_leastInConflict_29 : decode cX6_leastInConflict 29 = .ok (.ifCond .eq 5, 3) := by decide +kernel
theorem dX6_leastInConflict_32 : decode cX6_leastInConflict 32 = .ok (.iload_n 3, 1) := by decide +kernel
theorem dX6_leastInConflict_33 : decode cX6_leastInConflict 33 = .ok (.ireturn, 1) := by decide +kernel
theorem dX6_leastInConflict_34 : decode cX6_leastInConflict 34 = .ok (.iinc 3 1, 3) := by decide +kernel
theorem dX6_leastInConflict_37 : decode cX6_leastInConflict 37 = .ok (.goto (-35), 3) := by decide +kernel
theorem dX6_leastInConflict_40 : decode cX6_leastInConflict 40 = .ok (.iconst (-1), 1) := by decide +kernel
theorem dX6_leastInConflict_41 : decode cX6_leastInConflict 41 = .ok (.ireturn, 1) := by decide +kernel
abbrev wmX6_leastInConflict : List Cond := .code yX6_leastInConflict cX6_leastInConflict 4 (some .int) :: cBig
def f_X6_leastInConflict_L2 (N : Nat) (M2 : gM) (a1 : Int32) (a2 : Int32) : Nat → Int32 → Option Int32
  | 0, _ => none
  | n3 + 1, x1 => (if (nI N) ≤ x1 then some (-1 : Int32) else o1 (f_X10_isIn N M2 a1 x1) (fun v6 => jn (fun (_ : Unit) => lt (x1 + 1) (fun x7 => f_X6_leastInConflict_L2 N M2 a1 a2 n3 x7)) (fun J34 => (if v6 = 0 then J34 () else ix x1 N (fun v9 => o1 (f_X7_isInConflict N M2 v9 a2) (fun v11 => (if v11 = 0 then J34 () else some x1)))))))
def f_X6_leastInConflict (N : Nat) (M : gM) (a1 : Int32) (a2 : Int32) : Option Int32 :=
  f_X6_leastInConflict_L2 N M a1 a2 100 (0 : Int32)
set_option maxHeartbeats 4000000 in
set_option maxRecDepth 100000 in
theorem t_X6_leastInConflict (l : Launch) (N : Nat) (D : va_G) (dA : Nat → ClassId) (A : gI → Nat) (hJ : gJ (cLive N) A) {M : gM} {a1 : Int32} {a2 : Int32}  {y : Int32} (h : f_X6_leastInConflict N M a1 a2 = some y) : cMi l yX6_leastInConflict wmX6_leastInConflict ({ frames := 1, cells := 0, slots := 0, locals := 21 } : Room) N D dA A [.ref (A (10, 0, 0)), .int a1, .int a2] M y M := by
  refine Met.ofW (cc := cX6_leastInConflict) (maxL := 4) (ret := (some .int)) (by decide) rfl ?_
  intro p e s m args below meth c s₁ B hml hv
  obtain ⟨rfl, hP, hK, hN⟩ := hv
  generalize hargs : ([.ref (A (10, 0, 0)), .int a1, .int a2] : List Value).toArray = args at B ⊢
  have S : CallFix p m c cX6_leastInConflict 4 s args wmX6_leastInConflict RX6 := ⟨B.exec, B.bytes, hml, findClass_of_methodNamed B.named, atoms_spec (ws := wmX6_leastInConflict) B.pre⟩
  obtain ⟨hx, hb, -, hown, hts⟩ := id S
  have hr := B.returns
  have hlocks := B.notSynchronized
  have X : gX D vwCl dA (cLive N) A (gA (cLive N) A) s := ⟨hK, hJ, fun i hi => ⟨i, hi, rfl⟩⟩
  have Z : gZ D (cLay N) dA (cLive N) A (gA (cLive N) A) s.heap M s.heap [] := ⟨hP, va_S.rf⟩
  have hin_X6 : ∀ w ∈ wsX60, w ∈ wmX6_leastInConflict := cin_X6
  have hl_15 := hts (.fieldLink RX6 15 "ReplicaFiles$Replicas" "servers" "[LReplicaFiles$Server;") (cBc 177 rfl)
  have hl := lv_entry ([.ref (A (10, 0, 0)), .int a1, .int a2]) (n := 4) (Nat.le_of_ble_eq_true rfl)
  rw [← hargs, lg_entry_eq, hargs]
  generalize (lg_sl ([.ref (A (10, 0, 0)), .int a1, .int a2]) ++ List.replicate (4 - (lg_sl ([.ref (A (10, 0, 0)), .int a1, .int a2])).length) Slot.unset).toArray = ls at hl ⊢
  have hl : lv_has ls 4 [(0, .ref (A (10, 0, 0))), (1, .int a1), (2, .int a2)] := hl
  unfold f_X6_leastInConflict at h
  refine lv_iconst (v := (0 : Int32)) hx hb dX6_leastInConflict_0 (by decide) ?_
  refine lv_istore_n (lv' := [(3, .int (0 : Int32)), (0, .ref (A (10, 0, 0))), (1, .int a1), (2, .int a2)]) hx hb dX6_leastInConflict_1 rfl hl (by decide) rfl (fun ls hl => ?_)
  have hL2 : ∀ (n : Nat) (x1 : Int32) (H : Heap) (locs : List Loc) (ls : Array Slot), gZ D (cLay N) dA (cLive N) A (gA (cLive N) A) s.heap M H locs → lv_has ls 4 [(0, .ref (A (10, 0, 0))), (1, .int a1), (2, .int a2), (3, .int x1)] → f_X6_leastInConflict_L2 N M a1 a2 n x1 = some y → W p l e (headSpec wmX6_leastInConflict ({ frames := 1, cells := 0, slots := 0, locals := 21 } : Room)).room s m args below meth c H locs 0 0 (MQ below (cQi N D dA A (y, M)) args s 0 0 (gA (cLive N) A)) (F0 m 2 ls []) := by
    intro n
    induction n with
    | zero =>
      intro x1 H locs ls Z hl h
      rw [f_X6_leastInConflict_L2] at h
      cases h
    | succ n3 ih2 =>
      intro x1 H locs ls Z hl h
      rw [f_X6_leastInConflict_L2] at h
      refine lv_iload_n hx hb dX6_leastInConflict_2 rfl (lv_at hl 3 rfl) ?_
      refine lv_aload_n hx hb dX6_leastInConflict_3 rfl (lv_at hl 0 rfl) ?_
      refine cr_X6_servers S X Z hin_X6 (cl_one N 10 (by decide)) hl_15 dX6_leastInConflict_4 ?_
      refine g_alR (i := (7, 0, 0)) (ca := 2) rfl S X Z (cl_one N 7 (by decide)) rfl dX6_leastInConflict_7 ?_
      refine lv_icmp_ge (tgt := 40) hx hb dX6_leastInConflict_8 (by decide) (fun c4 => ?_) (fun c4 => ?_)
      · have h := if_t c4 h
        refine lv_iconst (v := (-1 : Int32)) hx hb dX6_leastInConflict_40 (by decide) ?_
        have hy := Option.some.inj h
        subst hy
        exact g_ri S Z hr hlocks dX6_leastInConflict_41
      · have h := if_f c4 h
        refine lv_iload_n hx hb dX6_leastInConflict_11 rfl (lv_at hl 1 rfl) ?_
        refine lv_iload_n hx hb dX6_leastInConflict_12 rfl (lv_at hl 3 rfl) ?_
        obtain ⟨v6, hc5, h⟩ := o1_e h
        refine c_i X Z (c_SN (As := [.int a1, .int x1]) (rest := []) S X hN Z (t_X10_isIn l N D dA A hJ  hc5) ⟨va_cnB 2 hts (cG (cB 175 rfl)) rfl rfl rfl (hN.2 ("ReplicaFiles$Replicas", 27, yX10_isIn, "ReplicaFiles") (by decide +kernel)) (hts (.initialized RX10) (cBc 107 rfl)) (by decide +kernel) ⟨Nat.le_of_ble_eq_true rfl, Nat.le_of_ble_eq_true rfl⟩, hts (.static yX10_isIn) (cBc 178 rfl), trivial⟩ rfl hl.1 rfl (Nat.le_of_ble_eq_true rfl) dX6_leastInConflict_13 ⟨Nat.zero_le _, Nat.zero_le _⟩) (fun H locs Z => ?_)
        obtain ⟨J34, eJ34, h⟩ := jn_e h
        have hJ34 : ∀  (H : Heap) (locs : List Loc) (ls : Array Slot), gZ D (cLay N) dA (cLive N) A (gA (cLive N) A) s.heap M H locs → lv_has ls 4 [(0, .ref (A (10, 0, 0))), (1, .int a1), (2, .int a2), (3, .int x1)] → J34 () = some y → W p l e (headSpec wmX6_leastInConflict ({ frames := 1, cells := 0, slots := 0, locals := 21 } : Room)).room s m args below meth c H locs 0 0 (MQ below (cQi N D dA A (y, M)) args s 0 0 (gA (cLive N) A)) (F0 m 34 ls []) := by
          intro  H locs ls Z hl h
          rw [eJ34] at h
          try dsimp only at h
          obtain ⟨x7, ex7, h⟩ := lt_e h
          refine lv_iinc (v := x7) (lv' := [(3, .int x7), (0, .ref (A (10, 0, 0))), (1, .int a1), (2, .int a2)]) hx hb dX6_leastInConflict_34 hl (k := 3) rfl (by rw [ex7]; rfl) (by decide) rfl (fun ls hl => ?_)
          refine lv_goto (tgt := 2) hx hb dX6_leastInConflict_37 (by decide) ?_
          exact ih2 x7 _ _ _ Z (lv_sub hl [1, 2, 3, 0] rfl) h
        refine lv_if_eq (tgt := 34) hx hb dX6_leastInConflict_16 (by decide) (fun c8 => ?_) (fun c8 => ?_)
        · have h := if_t c8 h
          exact hJ34  _ _ _ Z (lv_sub hl [0, 1, 2, 3] rfl) h
        · have h := if_f c8 h
          refine lv_aload_n hx hb dX6_leastInConflict_19 rfl (lv_at hl 0 rfl) ?_
          refine cr_X6_servers S X Z hin_X6 (cl_one N 10 (by decide)) hl_15 dX6_leastInConflict_20 ?_
          refine lv_iload_n hx hb dX6_leastInConflict_23 rfl (lv_at hl 3 rfl) ?_
          refine g_aald (i := (7, 0, 0)) (ca := 2) ⟨rfl, rfl⟩ S X Z (cl_one N 7 (by decide)) rfl dX6_leastInConflict_24 h (fun v9 hv9 h => ?_)
          refine lv_iload_n hx hb dX6_leastInConflict_25 rfl (lv_at hl 2 rfl) ?_
          obtain ⟨v11, hc10, h⟩ := o1_e h
          refine c_i X Z (c_V (i := (20, v9, 0)) (As := [.int a2]) (rest := []) S X hN Z (cl_srv hv9) rfl rfl (t_X7_isInConflict l N D dA A hJ (cl_srv hv9) hc10) (cwV 1 hts (cGV (cB 232 rfl) (cB 233 rfl) (cB 234 rfl) (cB 235 rfl) (cB 179 rfl)) rfl rfl rfl (by decide +kernel) ⟨Nat.le_of_ble_eq_true rfl, Nat.le_of_ble_eq_true rfl⟩) rfl hl.1 rfl (Nat.le_of_ble_eq_true rfl) dX6_leastInConflict_26 ⟨Nat.zero_le _, Nat.zero_le _⟩) (fun H locs Z => ?_)
          refine lv_if_eq (tgt := 34) hx hb dX6_leastInConflict_29 (by decide) (fun c12 => ?_) (fun c12 => ?_)
          · have h := if_t c12 h
            exact hJ34  _ _ _ Z (lv_sub hl [0, 1, 2, 3] rfl) h
          · have h := if_f c12 h
            refine lv_iload_n hx hb dX6_leastInConflict_32 rfl (lv_at hl 3 rfl) ?_
            have hy := Option.some.inj h
            subst hy
            exact g_ri S Z hr hlocks dX6_leastInConflict_33
  exact hL2 100 (0 : Int32) _ _ _ Z (lv_sub hl [1, 2, 3, 0] rfl) h
-- X6_endPromisesToOthers (LReplicaFiles$Client;II)V: 27 instructions
theorem dX6_endPromisesToOthers_0 : decode cX6_endPromisesToOthers 0 = .ok (.iconst 0, 1) := by decide +kernel
theorem dX6_endPromisesToOthers_1 : decode cX6_endPromisesToOthers 1 = .ok (.istore 4, 2) := by decide +kernel
theorem dX6_endPromisesToOthers_3 : decode cX6_endPromisesToOthers 3 = .ok (.iload 4, 2) := by decide +kernel
theorem dX6_endPromisesToOthers_5 : decode cX6_endPromisesToOthers 5 = .ok (.aload_n 0, 1) := by decide +kernel
theorem dX6_endPromisesToOthers_6 : decode cX6_endPromisesToOthers 6 = .ok (.getfield 19, 3) := by decide +kernel
theorem dX6_endPromisesToOthers_9 : decode cX6_endPromisesToOthers 9 = .ok (.arraylength, 1) := by decide +kernel
theorem dX6_endPromisesToOthers_10 : decode cX6_endPromisesToOthers 10 = .ok (.if_icmp .ge 36, 3) := by decide +kernel
theorem dX6_endPromisesToOthers_13 : decode cX6_endPromisesToOthers 13 = .ok (.iload 4, 2) := by decide +kernel
theorem dX6_endPromisesToOthers_15 : decode cX6_endPromisesToOthers 15 = .ok (.aload_n 1, 1) := by decide +kernel
theorem dX6_endPromisesToOthers_16 : decode cX6_endPromisesToOthers 16 = .ok (.getfield 115, 3) := by decide +kernel
theorem dX6_endPromisesToOthers_19 : decode cX6_endPromisesToOthers 19 = .ok (.if_icmp .eq 21, 3) := by decide +kernel
theorem dX6_endPromisesToOthers_22 : decode cX6_endPromisesToOthers 22 = .ok (.aload_n 0, 1) := by decide +kernel
theorem dX6_endPromisesToOthers_23 : decode cX6_endPromisesToOthers 23 = .ok (.getfield 19, 3) := by decide +kernel
theorem dX6_endPromisesToOthers_26 : decode cX6_endPromisesToOthers 26 = .ok (.iload 4, 2) := by decide +kernel
theorem dX6_endPromisesToOthers_28 : decode cX6_endPromisesToOthers 28 = .ok (.aaload, 1) := by decide +kernel
theorem dX6_endPromisesToOthers_29 : decode cX6_endPromisesToOthers 29 = .ok (.getfield 110, 3) := by decide +kernel
theorem dX6_endPromisesToOthers_32 : decode cX6_endPromisesToOthers 32 = .ok (.iload_n 3, 1) := by decide +kernel
theorem dX6_endPromisesToOthers_33 : decode cX6_endPromisesToOthers 33 = .ok (.dup2, 1) := by decide +kernel
theorem dX6_endPromisesToOthers_34 : decode cX6_endPromisesToOthers 34 = .ok (.iaload, 1) := by decide +kernel
theorem dX6_endPromisesToOthers_35 : decode cX6_endPromisesToOthers 35 = .ok (.iload_n 2, 1) := by decide +kernel
theorem dX6_endPromisesToOthers_36 : decode cX6_endPromisesToOthers 36 = .ok (.iconst (-1), 1) := by decide +kernel
theorem dX6_endPromisesToOthers_37 : decode cX6_endPromisesToOthers 37 = .ok (.ixor, 1) := by decide +kernel
theorem dX6_endPromisesToOthers_38 : decode cX6_endPromisesToOthers 38 = .ok (.iand, 1) := by decide +kernel
theorem dX6_endPromisesToOthers_39 : decode cX6_endPromisesToOthers 39 = .ok (.iastore, 1) := by decide +kernel
theorem dX6_endPromisesToOthers_40 : decode cX6_endPromisesToOthers 40 = .ok (.iinc 4 1, 3) := by decide +kernel
theorem dX6_endPromisesToOthers_43 : decode cX6_endPromisesToOthers 43 = .ok (.goto (-40), 3) := by decide +kernel
theorem dX6_endPromisesToOthers_46 : decode cX6_endPromisesToOthers 46 = .ok (.return_, 1) := by decide +kernel
abbrev wmX6_endPromisesToOthers : List Cond := .code yX6_endPromisesToOthers cX6_endPromisesToOthers 5 none :: cBig
def f_X6_endPromisesToOthers_L3 (N : Nat) (i1 : Nat) (a2 : Int32) (a3 : Int32) : Nat → Int32 → gM → Option gM
  | 0, _, _ => none
  | n3 + 1, x1, M2 => (if (nI 4) ≤ x1 then some M2 else lt (M2 (30, i1, 0) 0) (fun v5 => jn (fun (M6 : gM) => lt (x1 + 1) (fun x7 => f_X6_endPromisesToOthers_L3 N i1 a2 a3 n3 x7 M6)) (fun J40 => (if x1 = v5 then J40 M2 else ix x1 4 (fun v9 => rd M2 (32, v9, 0) 48 a3 (fun v10 => wr M2 (32, v9, 0) 48 a3 (v10 &&& (a2 ^^^ (-1 : Int32))) (fun M11 => J40 M11)))))))
def f_X6_endPromisesToOthers (N : Nat) (M : gM) (i1 : Nat) (a2 : Int32) (a3 : Int32) : Option gM :=
  f_X6_endPromisesToOthers_L3 N i1 a2 a3 100 (0 : Int32) M
set_option maxHeartbeats 4000000 in
set_option maxRecDepth 100000 in
theorem t_X6_endPromisesToOthers (l : Launch) (N : Nat) (D : va_G) (dA : Nat → ClassId) (A : gI → Nat) (hJ : gJ (cLive N) A) {M : gM} {i1 : Nat} {a2 : Int32} {a3 : Int32} (hi1 : cLive N (30, i1, 0)) {y : gM} (h : f_X6_endPromisesToOthers N M i1 a2 a3 = some y) : cMv l yX6_endPromisesToOthers wmX6_endPromisesToOthers ({ frames := 0, cells := 0, slots := 0, locals := 0 } : Room) N D dA A [.ref (A (10, 0, 0)), .ref (A (30, i1, 0)), .int a2, .int a3] M y := by
  refine Met.ofW (cc := cX6_endPromisesToOthers) (maxL := 5) (ret := none) (by decide) rfl ?_
  intro p e s m args below meth c s₁ B hml hv
  obtain ⟨rfl, hP, hK, hN⟩ := hv
  generalize hargs : ([.ref (A (10, 0, 0)), .ref (A (30, i1, 0)), .int a2, .int a3] : List Value).toArray = args at B ⊢
  have S : CallFix p m c cX6_endPromisesToOthers 5 s args wmX6_endPromisesToOthers RX6 := ⟨B.exec, B.bytes, hml, findClass_of_methodNamed B.named, atoms_spec (ws := wmX6_endPromisesToOthers) B.pre⟩
  obtain ⟨hx, hb, -, hown, hts⟩ := id S
  have hr := B.returns
  have hlocks := B.notSynchronized
  have X : gX D vwCl dA (cLive N) A (gA (cLive N) A) s := ⟨hK, hJ, fun i hi => ⟨i, hi, rfl⟩⟩
  have Z : gZ D (cLay N) dA (cLive N) A (gA (cLive N) A) s.heap M s.heap [] := ⟨hP, va_S.rf⟩
  have hin_X1 : ∀ w ∈ wsX10, w ∈ wmX6_endPromisesToOthers := cin_X1
  have hin_X6 : ∀ w ∈ wsX60, w ∈ wmX6_endPromisesToOthers := cin_X6
  have hl_19 := hts (.fieldLink RX6 19 "ReplicaFiles$Replicas" "clients" "[LReplicaFiles$Client;") (cBc 208 rfl)
  have hl_110 := va_Nw.use (A := args) rfl (hN.1 ("ReplicaFiles$Replicas", 110, "ReplicaFiles$Client", "promised", "[I", "ReplicaFiles") (by decide +kernel))
  have hl_115 := va_Nw.use (A := args) rfl (hN.1 ("ReplicaFiles$Replicas", 115, "ReplicaFiles$Client", "number", "I", "ReplicaFiles") (by decide +kernel))
  have hl := lv_entry ([.ref (A (10, 0, 0)), .ref (A (30, i1, 0)), .int a2, .int a3]) (n := 5) (Nat.le_of_ble_eq_true rfl)
  rw [← hargs, lg_entry_eq, hargs]
  generalize (lg_sl ([.ref (A (10, 0, 0)), .ref (A (30, i1, 0)), .int a2, .int a3]) ++ List.replicate (5 - (lg_sl ([.ref (A (10, 0, 0)), .ref (A (30, i1, 0)), .int a2, .int a3])).length) Slot.unset).toArray = ls at hl ⊢
  have hl : lv_has ls 5 [(0, .ref (A (10, 0, 0))), (1, .ref (A (30, i1, 0))), (2, .int a2), (3, .int a3)] := hl
  unfold f_X6_endPromisesToOthers at h
  refine lv_iconst (v := (0 : Int32)) hx hb dX6_endPromisesToOthers_0 (by decide) ?_
  refine lv_istore (lv' := [(4, .int (0 : Int32)), (0, .ref (A (10, 0, 0))), (1, .ref (A (30, i1, 0))), (2, .int a2), (3, .int a3)]) hx hb dX6_endPromisesToOthers_1 hl (by decide) rfl (fun ls hl => ?_)
  have hL3 : ∀ (n : Nat) (x1 : Int32) (M2 : gM) (H : Heap) (locs : List Loc) (ls : Array Slot), gZ D (cLay N) dA (cLive N) A (gA (cLive N) A) s.heap M2 H locs → lv_has ls 5 [(0, .ref (A (10, 0, 0))), (1, .ref (A (30, i1, 0))), (2, .int a2), (3, .int a3), (4, .int x1)] → f_X6_endPromisesToOthers_L3 N i1 a2 a3 n x1 M2 = some y → W p l e (headSpec wmX6_endPromisesToOthers ({ frames := 0, cells := 0, slots := 0, locals := 0 } : Room)).room s m args below meth c H locs 0 0 (MQ below (cQv N D dA A y) args s 0 0 (gA (cLive N) A)) (F0 m 3 ls []) := by
    intro n
    induction n with
    | zero =>
      intro x1 M2 H locs ls Z hl h
      rw [f_X6_endPromisesToOthers_L3] at h
      cases h
    | succ n3 ih3 =>
      intro x1 M2 H locs ls Z hl h
      rw [f_X6_endPromisesToOthers_L3] at h
      refine lv_iload hx hb dX6_endPromisesToOthers_3 (lv_at hl 4 rfl) ?_
      refine lv_aload_n hx hb dX6_endPromisesToOthers_5 rfl (lv_at hl 0 rfl) ?_
      refine cr_X6_clients S X Z hin_X6 (cl_one N 10 (by decide)) hl_19 dX6_endPromisesToOthers_6 ?_
      refine g_alR (i := (8, 0, 0)) (ca := 3) rfl S X Z (cl_one N 8 (by decide)) rfl dX6_endPromisesToOthers_9 ?_
      refine lv_icmp_ge (tgt := 46) hx hb dX6_endPromisesToOthers_10 (by decide) (fun c4 => ?_) (fun c4 => ?_)
      · have h := if_t c4 h
        have hy := Option.some.inj h
        subst hy
        exact g_rv S Z hr hlocks dX6_endPromisesToOthers_46
      · have h := if_f c4 h
        refine lv_iload hx hb dX6_endPromisesToOthers_13 (lv_at hl 4 rfl) ?_
        refine lv_aload_n hx hb dX6_endPromisesToOthers_15 rfl (lv_at hl 1 rfl) ?_
        refine cn_X1_number (a := i1) S X Z hin_X1 hi1 hl_115 dX6_endPromisesToOthers_16 h (fun v5 h => ?_)
        obtain ⟨J40, eJ40, h⟩ := jn_e h
        have hJ40 : ∀ (M6 : gM) (H : Heap) (locs : List Loc) (ls : Array Slot), gZ D (cLay N) dA (cLive N) A (gA (cLive N) A) s.heap M6 H locs → lv_has ls 5 [(0, .ref (A (10, 0, 0))), (1, .ref (A (30, i1, 0))), (2, .int a2), (3, .int a3), (4, .int x1)] → J40 M6 = some y → W p l e (headSpec wmX6_endPromisesToOthers ({ frames := 0, cells := 0, slots := 0, locals := 0 } : Room)).room s m args below meth c H locs 0 0 (MQ below (cQv N D dA A y) args s 0 0 (gA (cLive N) A)) (F0 m 40 ls []) := by
          intro M6 H locs ls Z hl h
          rw [eJ40] at h
          try dsimp only at h
          obtain ⟨x7, ex7, h⟩ := lt_e h
          refine lv_iinc (v := x7) (lv' := [(4, .int x7), (0, .ref (A (10, 0, 0))), (1, .ref (A (30, i1, 0))), (2, .int a2), (3, .int a3)]) hx hb dX6_endPromisesToOthers_40 hl (k := 4) rfl (by rw [ex7]; rfl) (by decide) rfl (fun ls hl => ?_)
          refine lv_goto (tgt := 3) hx hb dX6_endPromisesToOthers_43 (by decide) ?_
          exact ih3 x7 M6 _ _ _ Z (lv_sub hl [1, 2, 3, 4, 0] rfl) h
        refine lv_icmp_eq (tgt := 40) hx hb dX6_endPromisesToOthers_19 (by decide) (fun c8 => ?_) (fun c8 => ?_)
        · have h := if_t c8 h
          exact hJ40 M2 _ _ _ Z (lv_sub hl [0, 1, 2, 3, 4] rfl) h
        · have h := if_f c8 h
          refine lv_aload_n hx hb dX6_endPromisesToOthers_22 rfl (lv_at hl 0 rfl) ?_
          refine cr_X6_clients S X Z hin_X6 (cl_one N 10 (by decide)) hl_19 dX6_endPromisesToOthers_23 ?_
          refine lv_iload hx hb dX6_endPromisesToOthers_26 (lv_at hl 4 rfl) ?_
          refine g_aald (i := (8, 0, 0)) (ca := 3) ⟨rfl, rfl⟩ S X Z (cl_one N 8 (by decide)) rfl dX6_endPromisesToOthers_28 h (fun v9 hv9 h => ?_)
          refine cn_X1_promised (a := v9) S X Z hin_X1 (cl_cli hv9) hl_110 dX6_endPromisesToOthers_29 ?_
          refine lv_iload_n hx hb dX6_endPromisesToOthers_32 rfl (lv_at hl 3 rfl) ?_
          refine lv_dup2_11 hx hb dX6_endPromisesToOthers_33 rfl rfl ?_
          refine g_iald (i := (32, v9, 0)) (n := 48) S X Z (cl_X1_promised (cl_cli hv9)) rfl dX6_endPromisesToOthers_34 h (fun v10 h => ?_)
          refine lv_iload_n hx hb dX6_endPromisesToOthers_35 rfl (lv_at hl 2 rfl) ?_
          refine lv_iconst (v := (-1 : Int32)) hx hb dX6_endPromisesToOthers_36 (by decide) ?_
          refine lv_ixor hx hb dX6_endPromisesToOthers_37 ?_
          refine lv_iand hx hb dX6_endPromisesToOthers_38 ?_
          refine g_iast (i := (32, v9, 0)) (n := 48) S X Z (cl_X1_promised (cl_cli hv9)) rfl dX6_endPromisesToOthers_39 h (fun M11 H locs Z h => ?_)
          exact hJ40 M11 _ _ _ Z (lv_sub hl [0, 1, 2, 3, 4] rfl) h
  exact hL3 100 (0 : Int32) M _ _ _ Z (lv_sub hl [1, 2, 3, 4, 0] rfl) h
-- X6_settle (IIII)I: 73 instructions
theorem dX6_settle_0 : decode cX6_settle 0 = .ok (.aload_n 0, 1) := by decide +kernel
theorem dX6_settle_1 : decode cX6_settle 1 = .ok (.getfield 15, 3) := by decide +kernel
theorem dX6_settle_4 : decode cX6_settle 4 = .ok (.iload_n 3, 1) := by decide +kernel
theorem dX6_settle_5 : decode cX6_settle 5 = .ok (.aaload, 1) := by decide +kernel
theorem dX6_settle_6 : decode cX6_settle 6 = .ok (.getfield 119, 3) := by decide +kernel
theorem dX6_settle_9 : decode cX6_settle 9 = .ok (.iload_n 2, 1) := by decide +kernel
theorem dX6_settle_10 : decode cX6_settle 10 = .ok (.aaload, 1) := by decide +kernel
theorem dX6_settle_11 : decode cX6_settle 11 = .ok (.astore 5, 2) := by decide +kernel
theorem dX6_settle_13 : decode cX6_settle 13 = .ok (.aload 5, 2) := by decide +kernel
theorem dX6_settle_15 : decode cX6_settle 15 = .ok (.getfield 123, 3) := by decide +kernel
theorem dX6_settle_18 : decode cX6_settle 18 = .ok (.iload 4, 2) := by decide +kernel
theorem dX6_settle_20 : decode cX6_settle 20 = .ok (.iaload, 1) := by decide +kernel
theorem dX6_settle_21 : decode cX6_settle 21 = .ok (.istore 6, 2) := by decide +kernel
theorem dX6_settle_23 : decode cX6_settle 23 = .ok (.aload 5, 2) := by decide +kernel
theorem dX6_settle_25 : decode cX6_settle 25 = .ok (.getfield 128, 3) := by decide +kernel
theorem dX6_settle_28 : decode cX6_settle 28 = .ok (.iload 4, 2) := by decide +kernel
theorem dX6_settle_30 : decode cX6_settle 30 = .ok (.iaload, 1) := by decide +kernel
theorem dX6_settle_31 : decode cX6_settle 31 = .ok (.istore 7, 2) := by decide +kernel
theorem dX6_settle_33 : decode cX6_settle 33 = .ok (.aload_n 0, 1) := by decide +kernel
theorem dX6_settle_34 : decode cX6_settle 34 = .ok (.iload_n 1, 1) := by decide +kernel
theorem dX6_settle_35 : decode cX6_settle 35 = .ok (.iload_n 2, 1) := by decide +kernel
theorem dX6_settle_36 : decode cX6_settle 36 = .ok (.aload_n 0, 1) := by decide +kernel
theorem dX6_settle_37 : decode cX6_settle 37 = .ok (.getfield 15, 3) := by decide +kernel
theorem dX6_settle_40 : decode cX6_settle 40 = .ok (.iload_n 3, 1) := by decide +kernel
theorem dX6_settle_41 : decode cX6_settle 41 = .ok (.aaload, 1) := by decide +kernel
theorem dX6_settle_42 : decode cX6_settle 42 = .ok (.getfield 31, 3) := by decide +kernel
theorem dX6_settle_45 : decode cX6_settle 45 = .ok (.getfield 47, 3) := by decide +kernel
theorem dX6_settle_48 : decode cX6_settle 48 = .ok (.iload_n 2, 1) := by decide +kernel
theorem dX6_settle_49 : decode cX6_settle 49 = .ok (.aaload, 1) := by decide +kernel
theorem dX6_settle_50 : decode cX6_settle 50 = .ok (.invokevirtual 55, 3) := by decide +kernel
theorem dX6_settle_53 : decode cX6_settle 53 = .ok (.istore 8, 2) := by decide +kernel
theorem dX6_settle_55 : decode cX6_settle 55 = .ok (.iconst 0, 1) := by decide +kernel
theorem dX6_settle_56 : decode cX6_settle 56 = .ok (.istore 9, 2) := by decide +kernel
theorem dX6_settle_58 : decode cX6_settle 58 = .ok (.iload 9, 2) := by decide +kernel
theorem dX6_settle_60 : decode cX6_settle 60 = .ok (.aload_n 0, 1) := by decide +kernel
theorem dX6_settle_61 : decode cX6_settle 61 = .ok (.getfield 15, 3) := by decide +kernel
theorem dX6_settle_64 : decode cX6_settle 64 = .ok (.arraylength, 1) := by decide +kernel
theorem dX6_settle_65 : decode cX6_settle 65 = .ok (.if_icmp .ge 52, 3) := by decide +kernel
theorem dX6_settle_68 : decode cX6_settle 68 = .ok (.iload 8, 2) := by decide +kernel
theorem dX6_settle_70 : decode cX6_settle 70 = .ok (.iload 9, 2) := by decide +kernel
theorem dX6_settle_72 : decode cX6_settle 72 = .ok (.invokestatic 27, 3) := by decide +kernel
theorem dX6_settle_75 : decode cX6_settle 75 = .ok (.ifCond .eq 36, 3) := by decide +kernel
theorem dX6_settle_78 : decode cX6_settle 78 = .ok (.aload_n 0, 1) := by decide +kernel
theorem dX6_settle_79 : decode cX6_settle 79 = .ok (.getfield 15, 3) := by decide +kernel
theorem dX6_settle_82 : decode cX6_settle 82 = .ok (.iload 9, 2) := by decide +kernel
theorem dX6_settle_84 : decode cX6_settle 84 = .ok (.aaload, 1) := by decide +kernel
theorem dX6_settle_85 : decode cX6_settle 85 = .ok (.getfield 31, 3) := by decide +kernel
theorem dX6_settle_88 : decode cX6_settle 88 = .ok (.iload_n 2, 1) := by decide +kernel
theorem dX6_settle_89 : decode cX6_settle 89 = .ok (.iload 6, 2) := by decide +kernel
theorem dX6_settle_91 : decode cX6_settle 91 = .ok (.iload 7, 2) := by decide +kernel
theorem dX6_settle_93 : decode cX6_settle 93 = .ok (.invokevirtual 70, 3) := by decide +kernel
theorem dX6_settle_96 : decode cX6_settle 96 = .ok (.aload_n 0, 1) := by decide +kernel
theorem dX6_settle_97 : decode cX6_settle 97 = .ok (.getfield 15, 3) := by decide +kernel
theorem dX6_settle_100 : decode cX6_settle 100 = .ok (.iload 9, 2) := by decide +kernel
theorem dX6_settle_102 : decode cX6_settle 102 = .ok (.aaload, 1) := by decide +kernel
theorem dX6_settle_103 : decode cX6_settle 103 = .ok (.getfield 119, 3) := by decide +kernel
theorem dX6_settle_106 : decode cX6_settle 106 = .ok (.iload_n 2, 1) := by decide +kernel
theorem dX6_settle_107 : decode cX6_settle 107 = .ok (.aaload, 1) := by decide +kernel
theorem dX6_settle_108 : decode cX6_settle 108 = .ok (.invokevirtual 131, 3) := by decide +kernel
theorem dX6_settle_111 : decode cX6_settle 111 = .ok (.iinc 9 1, 3) := by decide +kernel
theorem dX6_settle_114 : decode cX6_settle 114 = .ok (.goto (-56), 3) := by decide +kernel
theorem dX6_settle_117 : decode cX6_settle 117 = .ok (.aload_n 0, 1) := by decide +kernel
theorem dX6_settle_118 : decode cX6_settle 118 = .ok (.iload 8, 2) := by decide +kernel
theorem dX6_settle_120 : decode cX6_settle 120 = .ok (.iload_n 2, 1) := by decide +kernel
theorem dX6_settle_121 : decode cX6_settle 121 = .ok (.invokevirtual 134, 3) := by decide +kernel
theorem dX6_settle_124 : decode cX6_settle 124 = .ok (.pop, 1) := by decide +kernel
theorem dX6_settle_125 : decode cX6_settle 125 = .ok (.aload_n 0, 1) := by decide +kernel
theorem dX6_settle_126 : decode cX6_settle 126 = .ok (.iload 8, 2) := by decide +kernel
theorem dX6_settle_128 : decode cX6_settle 128 = .ok (.iload_n 2, 1) := by decide +kernel
theorem dX6_settle_129 : decode cX6_settle 129 = .ok (.invokevirtual 137, 3) := by decide +kernel
theorem dX6_settle_132 : decode cX6_settle 132 = .ok (.iload 8, 2) := by decide +kernel
theorem dX6_settle_134 : decode cX6_settle 134 = .ok (.invokestatic 140, 3) := by decide +kernel
theorem dX6_settle_137 : decode cX6_settle 137 = .ok (.ireturn, 1) := by decide +kernel
abbrev wmX6_settle : List Cond := .code yX6_settle cX6_settle 10 (some .int) :: cBig
def f_X6_settle_L58 (N : Nat) (a2 : Int32) (v3 : Int32) (v4 : Int32) (v8 : Int32) (J117 : gM → Option (Int32 × gM)) : Nat → Int32 → gM → Option (Int32 × gM)
  | 0, _, _ => none
  | n19 + 1, x17, M18 => (if (nI N) ≤ x17 then J117 M18 else o1 (f_X10_isIn N M18 v8 x17) (fun v22 => jn (fun (M23 : gM) => lt (x17 + 1) (fun x24 => f_X6_settle_L58 N a2 v3 v4 v8 J117 n19 x24 M23)) (fun J111 => (if v22 = 0 then J111 M18 else ix x17 N (fun v26 => o1 (f_X8_setFile N M18 v26 a2 v3 v4) (fun M28 => ix x17 N (fun v29 => ix a2 48 (fun v30 => o1 (f_X9_clear N M28 (48 * v29 + v30)) (fun M32 => J111 M32)))))))))
def f_X6_settle (N : Nat) (M : gM) (a1 : Int32) (a2 : Int32) (a3 : Int32) (a4 : Int32) : Option (Int32 × gM) :=
  ix a3 N (fun v1 => ix a2 48 (fun v2 => rd M (61, (48 * v1 + v2), 0) (cMost (48 * v1 + v2)) a4 (fun v3 => rd M (62, (48 * v1 + v2), 0) (cMost (48 * v1 + v2)) a4 (fun v4 => ix a3 N (fun v5 => ix a2 48 (fun v6 => o1 (f_X6_holdersWith N M a1 a2 (55, v5, v6)) (fun v8 => jn (fun (M9 : gM) => ob (f_X6_countAct N M9 v8 a2) (fun v12 M11 => o1 (f_X6_endPromises N M11 v8 a2) (fun M14 => o1 (f_J6_bitCount_0f7a4 N M14 v8) (fun v16 => some (v16, M14))))) (fun J117 => f_X6_settle_L58 N a2 v3 v4 v8 J117 100 (0 : Int32) M))))))))
set_option maxHeartbeats 4000000 in
set_option maxRecDepth 100000 in
theorem t_X6_settle (l : Launch) (N : Nat) (D : va_G) (dA : Nat → ClassId) (A : gI → Nat) (hJ : gJ (cLive N) A) {M : gM} {a1 : Int32} {a2 : Int32} {a3 : Int32} {a4 : Int32}  {y : (Int32 × gM)} (h : f_X6_settle N M a1 a2 a3 a4 = some y) : cMi l yX6_settle wmX6_settle ({ frames := 3, cells := 0, slots := 0, locals := 70 } : Room) N D dA A [.ref (A (10, 0, 0)), .int a1, .int a2, .int a3, .int a4] M y.1 y.2 := by
  refine Met.ofW (cc := cX6_settle) (maxL := 10) (ret := (some .int)) (by decide) rfl ?_
  intro p e s m args below meth c s₁ B hml hv
  obtain ⟨rfl, hP, hK, hN⟩ := hv
  generalize hargs : ([.ref (A (10, 0, 0)), .int a1, .int a2, .int a3, .int a4] : List Value).toArray = args at B ⊢
  have S : CallFix p m c cX6_settle 10 s args wmX6_settle RX6 := ⟨B.exec, B.bytes, hml, findClass_of_methodNamed B.named, atoms_spec (ws := wmX6_settle) B.pre⟩
  obtain ⟨hx, hb, -, hown, hts⟩ := id S
  have hr := B.returns
  have hlocks := B.notSynchronized
  have X : gX D vwCl dA (cLive N) A (gA (cLive N) A) s := ⟨hK, hJ, fun i hi => ⟨i, hi, rfl⟩⟩
  have Z : gZ D (cLay N) dA (cLive N) A (gA (cLive N) A) s.heap M s.heap [] := ⟨hP, va_S.rf⟩
  have hin_X6 : ∀ w ∈ wsX60, w ∈ wmX6_settle := cin_X6
  have hin_X7 : ∀ w ∈ wsX70, w ∈ wmX6_settle := cin_X7
  have hin_X8 : ∀ w ∈ wsX80, w ∈ wmX6_settle := cin_X8
  have hin_X9 : ∀ w ∈ wsX90, w ∈ wmX6_settle := cin_X9
  have hl_15 := hts (.fieldLink RX6 15 "ReplicaFiles$Replicas" "servers" "[LReplicaFiles$Server;") (cBc 177 rfl)
  have hl_31 := va_Nw.use (A := args) rfl (hN.1 ("ReplicaFiles$Replicas", 31, "ReplicaFiles$Server", "tree", "LReplicaFiles$Tree;", "ReplicaFiles") (by decide +kernel))
  have hl_47 := va_Nw.use (A := args) rfl (hN.1 ("ReplicaFiles$Replicas", 47, "ReplicaFiles$Tree", "counts", "[[I", "ReplicaFiles") (by decide +kernel))
  have hl_119 := va_Nw.use (A := args) rfl (hN.1 ("ReplicaFiles$Replicas", 119, "ReplicaFiles$Server", "versions", "[LReplicaFiles$Versions;", "ReplicaFiles") (by decide +kernel))
  have hl_123 := va_Nw.use (A := args) rfl (hN.1 ("ReplicaFiles$Replicas", 123, "ReplicaFiles$Versions", "value", "[I", "ReplicaFiles") (by decide +kernel))
  have hl_128 := va_Nw.use (A := args) rfl (hN.1 ("ReplicaFiles$Replicas", 128, "ReplicaFiles$Versions", "size", "[I", "ReplicaFiles") (by decide +kernel))
  have hl := lv_entry ([.ref (A (10, 0, 0)), .int a1, .int a2, .int a3, .int a4]) (n := 10) (Nat.le_of_ble_eq_true rfl)
  rw [← hargs, lg_entry_eq, hargs]
  generalize (lg_sl ([.ref (A (10, 0, 0)), .int a1, .int a2, .int a3, .int a4]) ++ List.replicate (10 - (lg_sl ([.ref (A (10, 0, 0)), .int a1, .int a2, .int a3, .int a4])).length) Slot.unset).toArray = ls at hl ⊢
  have hl : lv_has ls 10 [(0, .ref (A (10, 0, 0))), (1, .int a1), (2, .int a2), (3, .int a3), (4, .int a4)] := hl
  unfold f_X6_settle at h
  refine lv_aload_n hx hb dX6_settle_0 rfl (lv_at hl 0 rfl) ?_
  refine cr_X6_servers S X Z hin_X6 (cl_one N 10 (by decide)) hl_15 dX6_settle_1 ?_
  refine lv_iload_n hx hb dX6_settle_4 rfl (lv_at hl 3 rfl) ?_
  refine g_aald (i := (7, 0, 0)) (ca := 2) ⟨rfl, rfl⟩ S X Z (cl_one N 7 (by decide)) rfl dX6_settle_5 h (fun v1 hv1 h => ?_)
  refine cn_X7_versions (a := v1) S X Z hin_X7 (cl_srv hv1) hl_119 dX6_settle_6 ?_
  refine lv_iload_n hx hb dX6_settle_9 rfl (lv_at hl 2 rfl) ?_
  refine g_aald (i := (21, v1, 0)) (ca := 4) ⟨rfl, rfl⟩ S X Z (cl_X7_versions (cl_srv hv1)) rfl dX6_settle_10 h (fun v2 hv2 h => ?_)
  refine lv_astore (lv' := [(5, .ref (A (60, (48 * v1 + v2), 0))), (0, .ref (A (10, 0, 0))), (1, .int a1), (2, .int a2), (3, .int a3), (4, .int a4)]) hx hb dX6_settle_11 hl (by decide) rfl (fun ls hl => ?_)
  refine lv_aload hx hb dX6_settle_13 (lv_at hl 0 rfl) ?_
  refine cn_X9_value (a := (48 * v1 + v2)) S X Z hin_X9 (cl_ver (cl_X7_versions (cl_srv hv1)) hv2) hl_123 dX6_settle_15 ?_
  refine lv_iload hx hb dX6_settle_18 (lv_at hl 5 rfl) ?_
  refine g_iald (i := (61, (48 * v1 + v2), 0)) (n := (cMost (48 * v1 + v2))) S X Z (cl_X9_value (cl_ver (cl_X7_versions (cl_srv hv1)) hv2)) rfl dX6_settle_20 h (fun v3 h => ?_)
  refine lv_istore (lv' := [(6, .int v3), (5, .ref (A (60, (48 * v1 + v2), 0))), (0, .ref (A (10, 0, 0))), (1, .int a1), (2, .int a2), (3, .int a3), (4, .int a4)]) hx hb dX6_settle_21 hl (by decide) rfl (fun ls hl => ?_)
  refine lv_aload hx hb dX6_settle_23 (lv_at hl 1 rfl) ?_
  refine cn_X9_size (a := (48 * v1 + v2)) S X Z hin_X9 (cl_ver (cl_X7_versions (cl_srv hv1)) hv2) hl_128 dX6_settle_25 ?_
  refine lv_iload hx hb dX6_settle_28 (lv_at hl 6 rfl) ?_
  refine g_iald (i := (62, (48 * v1 + v2), 0)) (n := (cMost (48 * v1 + v2))) S X Z (cl_X9_size (cl_ver (cl_X7_versions (cl_srv hv1)) hv2)) rfl dX6_settle_30 h (fun v4 h => ?_)
  refine lv_istore (lv' := [(7, .int v4), (6, .int v3), (5, .ref (A (60, (48 * v1 + v2), 0))), (0, .ref (A (10, 0, 0))), (1, .int a1), (2, .int a2), (3, .int a3), (4, .int a4)]) hx hb dX6_settle_31 hl (by decide) rfl (fun ls hl => ?_)
  refine lv_aload_n hx hb dX6_settle_33 rfl (lv_at hl 3 rfl) ?_
  refine lv_iload_n hx hb dX6_settle_34 rfl (lv_at hl 4 rfl) ?_
  refine lv_iload_n hx hb dX6_settle_35 rfl (lv_at hl 5 rfl) ?_
  refine lv_aload_n hx hb dX6_settle_36 rfl (lv_at hl 3 rfl) ?_
  refine cr_X6_servers S X Z hin_X6 (cl_one N 10 (by decide)) hl_15 dX6_settle_37 ?_
  refine lv_iload_n hx hb dX6_settle_40 rfl (lv_at hl 6 rfl) ?_
  refine g_aald (i := (7, 0, 0)) (ca := 2) ⟨rfl, rfl⟩ S X Z (cl_one N 7 (by decide)) rfl dX6_settle_41 h (fun v5 hv5 h => ?_)
  refine cn_X7_tree (a := v5) S X Z hin_X7 (cl_srv hv5) hl_31 dX6_settle_42 ?_
  refine cn_X8_counts (a := v5) S X Z hin_X8 (cl_st (cl_srv hv5)) hl_47 dX6_settle_45 ?_
  refine lv_iload_n hx hb dX6_settle_48 rfl (lv_at hl 5 rfl) ?_
  refine g_aald (i := (54, v5, 0)) (ca := 5) ⟨rfl, rfl⟩ S X Z (cl_X8_counts (cl_st (cl_srv hv5))) rfl dX6_settle_49 h (fun v6 hv6 h => ?_)
  obtain ⟨v8, hc7, h⟩ := o1_e h
  refine c_i X Z (c_V (i := (10, 0, 0)) (As := [.int a1, .int a2, .ref (A (55, v5, v6))]) (rest := []) S X hN Z (cl_one N 10 (by decide)) rfl rfl (t_X6_holdersWith l N D dA A hJ ⟨(cl_55 (cl_X8_counts (cl_st (cl_srv hv5))) hv6), rfl⟩ hc7) (cwV 3 hts (cGV (cB 229 rfl) (cB 230 rfl) (cB 231 rfl) (cB 203 rfl) (cB 223 rfl)) rfl rfl rfl (by decide +kernel) ⟨Nat.le_of_ble_eq_true rfl, Nat.le_of_ble_eq_true rfl⟩) rfl hl.1 rfl (Nat.le_of_ble_eq_true rfl) dX6_settle_50 ⟨Nat.zero_le _, Nat.zero_le _⟩) (fun H locs Z => ?_)
  refine lv_istore (lv' := [(8, .int v8), (7, .int v4), (6, .int v3), (5, .ref (A (60, (48 * v1 + v2), 0))), (0, .ref (A (10, 0, 0))), (1, .int a1), (2, .int a2), (3, .int a3), (4, .int a4)]) hx hb dX6_settle_53 hl (by decide) rfl (fun ls hl => ?_)
  refine lv_iconst (v := (0 : Int32)) hx hb dX6_settle_55 (by decide) ?_
  refine lv_istore (lv' := [(9, .int (0 : Int32)), (8, .int v8), (7, .int v4), (6, .int v3), (5, .ref (A (60, (48 * v1 + v2), 0))), (0, .ref (A (10, 0, 0))), (1, .int a1), (2, .int a2), (3, .int a3), (4, .int a4)]) hx hb dX6_settle_56 hl (by decide) rfl (fun ls hl => ?_)
  obtain ⟨J117, eJ117, h⟩ := jn_e h
  have hJ117 : ∀ (M9 : gM) (H : Heap) (locs : List Loc) (ls : Array Slot), gZ D (cLay N) dA (cLive N) A (gA (cLive N) A) s.heap M9 H locs → lv_has ls 10 [(0, .ref (A (10, 0, 0))), (2, .int a2), (8, .int v8)] → J117 M9 = some y → W p l e (headSpec wmX6_settle ({ frames := 3, cells := 0, slots := 0, locals := 70 } : Room)).room s m args below meth c H locs 0 0 (MQ below (cQi N D dA A y) args s 0 0 (gA (cLive N) A)) (F0 m 117 ls []) := by
    intro M9 H locs ls Z hl h
    rw [eJ117] at h
    try dsimp only at h
    refine lv_aload_n hx hb dX6_settle_117 rfl (lv_at hl 0 rfl) ?_
    refine lv_iload hx hb dX6_settle_118 (lv_at hl 2 rfl) ?_
    refine lv_iload_n hx hb dX6_settle_120 rfl (lv_at hl 1 rfl) ?_
    obtain ⟨v12, M11, hc10, h⟩ := ob_e h
    refine c_i X Z (c_V (i := (10, 0, 0)) (As := [.int v8, .int a2]) (rest := []) S X hN Z (cl_one N 10 (by decide)) rfl rfl (t_X6_countAct l N D dA A hJ  hc10) (cwV 2 hts (cGV (cB 504 rfl) (cB 253 rfl) (cB 254 rfl) (cB 203 rfl) (cB 239 rfl)) rfl rfl rfl (by decide +kernel) ⟨Nat.le_of_ble_eq_true rfl, Nat.le_of_ble_eq_true rfl⟩) rfl hl.1 rfl (Nat.le_of_ble_eq_true rfl) dX6_settle_121 ⟨Nat.zero_le _, Nat.zero_le _⟩) (fun H locs Z => ?_)
    refine lv_pop hx hb dX6_settle_124 rfl ?_
    refine lv_aload_n hx hb dX6_settle_125 rfl (lv_at hl 0 rfl) ?_
    refine lv_iload hx hb dX6_settle_126 (lv_at hl 2 rfl) ?_
    refine lv_iload_n hx hb dX6_settle_128 rfl (lv_at hl 1 rfl) ?_
    obtain ⟨M14, hc13, h⟩ := o1_e h
    refine c_v X Z (c_V (i := (10, 0, 0)) (As := [.int v8, .int a2]) (rest := []) S X hN Z (cl_one N 10 (by decide)) rfl rfl (t_X6_endPromises l N D dA A hJ  hc13) (cwV 2 hts (cGV (cB 505 rfl) (cB 219 rfl) (cB 220 rfl) (cB 203 rfl) (cB 207 rfl)) rfl rfl rfl (by decide +kernel) ⟨Nat.le_of_ble_eq_true rfl, Nat.le_of_ble_eq_true rfl⟩) rfl hl.1 rfl (Nat.le_of_ble_eq_true rfl) dX6_settle_129 ⟨Nat.zero_le _, Nat.zero_le _⟩) (fun H locs Z => ?_)
    refine lv_iload hx hb dX6_settle_132 (lv_at hl 2 rfl) ?_
    obtain ⟨v16, hc15, h⟩ := o1_e h
    refine c_i X Z (c_S (As := [.int v8]) (rest := []) S X hN Z (t_J6_bitCount_0f7a4 l N D dA A hJ  hc15) (va_cwS 1 hts (cGS (cB 506 rfl) (cB 353 rfl) (cB 354 rfl) (cB 346 rfl)) rfl rfl rfl (by decide +kernel) ⟨Nat.le_of_ble_eq_true rfl, Nat.le_of_ble_eq_true rfl⟩) rfl hl.1 rfl (Nat.le_of_ble_eq_true rfl) dX6_settle_134 ⟨Nat.zero_le _, Nat.zero_le _⟩) (fun H locs Z => ?_)
    have hy := Option.some.inj h
    subst hy
    exact g_ri S Z hr hlocks dX6_settle_137
  have hL58 : ∀ (n : Nat) (x17 : Int32) (M18 : gM) (H : Heap) (locs : List Loc) (ls : Array Slot), gZ D (cLay N) dA (cLive N) A (gA (cLive N) A) s.heap M18 H locs → lv_has ls 10 [(0, .ref (A (10, 0, 0))), (2, .int a2), (6, .int v3), (7, .int v4), (8, .int v8), (9, .int x17)] → f_X6_settle_L58 N a2 v3 v4 v8 J117 n x17 M18 = some y → W p l e (headSpec wmX6_settle ({ frames := 3, cells := 0, slots := 0, locals := 70 } : Room)).room s m args below meth c H locs 0 0 (MQ below (cQi N D dA A y) args s 0 0 (gA (cLive N) A)) (F0 m 58 ls []) := by
    intro n
    induction n with
    | zero =>
      intro x17 M18 H locs ls Z hl h
      rw [f_X6_settle_L58] at h
      cases h
    | succ n19 ih58 =>
      intro x17 M18 H locs ls Z hl h
      rw [f_X6_settle_L58] at h
      refine lv_iload hx hb dX6_settle_58 (lv_at hl 5 rfl) ?_
      refine lv_aload_n hx hb dX6_settle_60 rfl (lv_at hl 0 rfl) ?_
      refine cr_X6_servers S X Z hin_X6 (cl_one N 10 (by decide)) hl_15 dX6_settle_61 ?_
      refine g_alR (i := (7, 0, 0)) (ca := 2) rfl S X Z (cl_one N 7 (by decide)) rfl dX6_settle_64 ?_
      refine lv_icmp_ge (tgt := 117) hx hb dX6_settle_65 (by decide) (fun c20 => ?_) (fun c20 => ?_)
      · have h := if_t c20 h
        exact hJ117 M18 _ _ _ Z (lv_sub hl [0, 1, 4] rfl) h
      · have h := if_f c20 h
        refine lv_iload hx hb dX6_settle_68 (lv_at hl 4 rfl) ?_
        refine lv_iload hx hb dX6_settle_70 (lv_at hl 5 rfl) ?_
        obtain ⟨v22, hc21, h⟩ := o1_e h
        refine c_i X Z (c_SN (As := [.int v8, .int x17]) (rest := []) S X hN Z (t_X10_isIn l N D dA A hJ  hc21) ⟨va_cnB 2 hts (cG (cB 175 rfl)) rfl rfl rfl (hN.2 ("ReplicaFiles$Replicas", 27, yX10_isIn, "ReplicaFiles") (by decide +kernel)) (hts (.initialized RX10) (cBc 107 rfl)) (by decide +kernel) ⟨Nat.le_of_ble_eq_true rfl, Nat.le_of_ble_eq_true rfl⟩, hts (.static yX10_isIn) (cBc 178 rfl), trivial⟩ rfl hl.1 rfl (Nat.le_of_ble_eq_true rfl) dX6_settle_72 ⟨Nat.zero_le _, Nat.zero_le _⟩) (fun H locs Z => ?_)
        obtain ⟨J111, eJ111, h⟩ := jn_e h
        have hJ111 : ∀ (M23 : gM) (H : Heap) (locs : List Loc) (ls : Array Slot), gZ D (cLay N) dA (cLive N) A (gA (cLive N) A) s.heap M23 H locs → lv_has ls 10 [(0, .ref (A (10, 0, 0))), (2, .int a2), (6, .int v3), (7, .int v4), (8, .int v8), (9, .int x17)] → J111 M23 = some y → W p l e (headSpec wmX6_settle ({ frames := 3, cells := 0, slots := 0, locals := 70 } : Room)).room s m args below meth c H locs 0 0 (MQ below (cQi N D dA A y) args s 0 0 (gA (cLive N) A)) (F0 m 111 ls []) := by
          intro M23 H locs ls Z hl h
          rw [eJ111] at h
          try dsimp only at h
          obtain ⟨x24, ex24, h⟩ := lt_e h
          refine lv_iinc (v := x24) (lv' := [(9, .int x24), (0, .ref (A (10, 0, 0))), (2, .int a2), (6, .int v3), (7, .int v4), (8, .int v8)]) hx hb dX6_settle_111 hl (k := 5) rfl (by rw [ex24]; rfl) (by decide) rfl (fun ls hl => ?_)
          refine lv_goto (tgt := 58) hx hb dX6_settle_114 (by decide) ?_
          exact ih58 x24 M23 _ _ _ Z (lv_sub hl [1, 2, 3, 4, 5, 0] rfl) h
        refine lv_if_eq (tgt := 111) hx hb dX6_settle_75 (by decide) (fun c25 => ?_) (fun c25 => ?_)
        · have h := if_t c25 h
          exact hJ111 M18 _ _ _ Z (lv_sub hl [0, 1, 2, 3, 4, 5] rfl) h
        · have h := if_f c25 h
          refine lv_aload_n hx hb dX6_settle_78 rfl (lv_at hl 0 rfl) ?_
          refine cr_X6_servers S X Z hin_X6 (cl_one N 10 (by decide)) hl_15 dX6_settle_79 ?_
          refine lv_iload hx hb dX6_settle_82 (lv_at hl 5 rfl) ?_
          refine g_aald (i := (7, 0, 0)) (ca := 2) ⟨rfl, rfl⟩ S X Z (cl_one N 7 (by decide)) rfl dX6_settle_84 h (fun v26 hv26 h => ?_)
          refine cn_X7_tree (a := v26) S X Z hin_X7 (cl_srv hv26) hl_31 dX6_settle_85 ?_
          refine lv_iload_n hx hb dX6_settle_88 rfl (lv_at hl 1 rfl) ?_
          refine lv_iload hx hb dX6_settle_89 (lv_at hl 2 rfl) ?_
          refine lv_iload hx hb dX6_settle_91 (lv_at hl 3 rfl) ?_
          obtain ⟨M28, hc27, h⟩ := o1_e h
          refine c_v X Z (c_V (i := (50, v26, 0)) (As := [.int a2, .int v3, .int v4]) (rest := []) S X hN Z (cl_st (cl_srv hv26)) rfl rfl (t_X8_setFile l N D dA A hJ (cl_st (cl_srv hv26)) hc27) (cwV 3 hts (cGV (cB 238 rfl) (cB 71 rfl) (cB 72 rfl) (cB 44 rfl) (cB 67 rfl)) rfl rfl rfl (by decide +kernel) ⟨Nat.le_of_ble_eq_true rfl, Nat.le_of_ble_eq_true rfl⟩) rfl hl.1 rfl (Nat.le_of_ble_eq_true rfl) dX6_settle_93 ⟨Nat.zero_le _, Nat.zero_le _⟩) (fun H locs Z => ?_)
          refine lv_aload_n hx hb dX6_settle_96 rfl (lv_at hl 0 rfl) ?_
          refine cr_X6_servers S X Z hin_X6 (cl_one N 10 (by decide)) hl_15 dX6_settle_97 ?_
          refine lv_iload hx hb dX6_settle_100 (lv_at hl 5 rfl) ?_
          refine g_aald (i := (7, 0, 0)) (ca := 2) ⟨rfl, rfl⟩ S X Z (cl_one N 7 (by decide)) rfl dX6_settle_102 h (fun v29 hv29 h => ?_)
          refine cn_X7_versions (a := v29) S X Z hin_X7 (cl_srv hv29) hl_119 dX6_settle_103 ?_
          refine lv_iload_n hx hb dX6_settle_106 rfl (lv_at hl 1 rfl) ?_
          refine g_aald (i := (21, v29, 0)) (ca := 4) ⟨rfl, rfl⟩ S X Z (cl_X7_versions (cl_srv hv29)) rfl dX6_settle_107 h (fun v30 hv30 h => ?_)
          obtain ⟨M32, hc31, h⟩ := o1_e h
          refine c_v X Z (c_V (i := (60, (48 * v29 + v30), 0)) (As := []) (rest := []) S X hN Z (cl_ver (cl_X7_versions (cl_srv hv29)) hv30) rfl rfl (t_X9_clear l N D dA A hJ (cl_ver (cl_X7_versions (cl_srv hv29)) hv30) hc31) (cwV 0 hts (cGV (cB 503 rfl) (cB 278 rfl) (cB 279 rfl) (cB 191 rfl) (cB 274 rfl)) rfl rfl rfl (by decide +kernel) ⟨Nat.le_of_ble_eq_true rfl, Nat.le_of_ble_eq_true rfl⟩) rfl hl.1 rfl (Nat.le_of_ble_eq_true rfl) dX6_settle_108 ⟨Nat.zero_le _, Nat.zero_le _⟩) (fun H locs Z => ?_)
          exact hJ111 M32 _ _ _ Z (lv_sub hl [0, 1, 2, 3, 4, 5] rfl) h
  exact hL58 100 (0 : Int32) M _ _ _ Z (lv_sub hl [5, 7, 3, 2, 1, 0] rfl) h
-- X6_allAlike (I)Z: 18 instructions
theorem dX6_allAlike_0 : decode cX6_allAlike 0 = .ok (.iconst 0, 1) := by decide +kernel
theorem dX6_allAlike_1 : decode cX6_allAlike 1 = .ok (.istore_n 2, 1) := by decide +kernel
theorem dX6_allAlike_2 : decode cX6_allAlike 2 = .ok (.iload_n 2, 1) := by decide +kernel
theorem dX6_allAlike_3 : decode cX6_allAlike 3 = .ok (.aload_n 0, 1) := by decide +kernel
theorem dX6_allAlike_4 : decode cX6_allAlike 4 = .ok (.getfield 9, 3) := by decide +kernel
theorem dX6_allAlike_7 : decode cX6_allAlike 7 = .ok (.getfield 153, 3) := by decide +kernel
theorem dX6_allAlike_10 : decode cX6_allAlike 10 = .ok (.if_icmp .gt 20, 3) := by decide +kernel
theorem dX6_allAlike_13 : decode cX6_allAlike 13 = .ok (.aload_n 0, 1) := by decide +kernel
theorem dX6_allAlike_14 : decode cX6_allAlike 14 = .ok (.iload_n 1, 1) := by decide +kernel
theorem dX6_allAlike_15 : decode cX6_allAlike 15 = .ok (.iload_n 2, 1) := by decide +kernel
theorem dX6_allAlike_16 : decode cX6_allAlike 16 = .ok (.invokevirtual 158, 3) := by decide +kernel
theorem dX6_allAlike_19 : decode cX6_allAlike 19 = .ok (.ifCond .ne 5, 3) := by decide +kernel
theorem dX6_allAlike_22 : decode cX6_allAlike 22 = .ok (.iconst 0, 1) := by decide +kernel
theorem dX6_allAlike_23 : decode cX6_allAlike 23 = .ok (.ireturn, 1) := by decide +kernel
theorem dX6_allAlike_24 : decode cX6_allAlike 24 = .ok (.iinc 2 1, 3) := by decide +kernel
theorem dX6_allAlike_27 : decode cX6_allAlike 27 = .ok (.goto (-25), 3) := by decide +kernel
theorem dX6_allAlike_30 : decode cX6_allAlike 30 = .ok (.iconst 1, 1) := by decide +kernel
theorem dX6_allAlike_31 : decode cX6_allAlike 31 = .ok (.ireturn, 1) := by decide +kernel
abbrev wmX6_allAlike : List Cond := .code yX6_allAlike cX6_allAlike 3 (some .boolean) :: cBig
def f_X6_allAlike_L2 (N : Nat) (M2 : gM) (a1 : Int32) : Nat → Int32 → Option Int32
  | 0, _ => none
  | n3 + 1, x1 => lt (M2 (1, 0, 0) 3) (fun v4 => (if v4 < x1 then some (1 : Int32) else o1 (f_X6_areAlike N M2 a1 x1) (fun v7 => (if v7 = 0 then some (0 : Int32) else lt (x1 + 1) (fun x9 => f_X6_allAlike_L2 N M2 a1 n3 x9)))))
def f_X6_allAlike (N : Nat) (M : gM) (a1 : Int32) : Option Int32 :=
  f_X6_allAlike_L2 N M a1 100 (0 : Int32)
set_option maxHeartbeats 4000000 in
set_option maxRecDepth 100000 in
theorem t_X6_allAlike (l : Launch) (N : Nat) (D : va_G) (dA : Nat → ClassId) (A : gI → Nat) (hJ : gJ (cLive N) A) {M : gM} {a1 : Int32}  {y : Int32} (h : f_X6_allAlike N M a1 = some y) : cMi l yX6_allAlike wmX6_allAlike ({ frames := 5, cells := 0, slots := 0, locals := 114 } : Room) N D dA A [.ref (A (10, 0, 0)), .int a1] M y M := by
  refine Met.ofW (cc := cX6_allAlike) (maxL := 3) (ret := (some .boolean)) (by decide) rfl ?_
  intro p e s m args below meth c s₁ B hml hv
  obtain ⟨rfl, hP, hK, hN⟩ := hv
  generalize hargs : ([.ref (A (10, 0, 0)), .int a1] : List Value).toArray = args at B ⊢
  have S : CallFix p m c cX6_allAlike 3 s args wmX6_allAlike RX6 := ⟨B.exec, B.bytes, hml, findClass_of_methodNamed B.named, atoms_spec (ws := wmX6_allAlike) B.pre⟩
  obtain ⟨hx, hb, -, hown, hts⟩ := id S
  have hr := B.returns
  have hlocks := B.notSynchronized
  have X : gX D vwCl dA (cLive N) A (gA (cLive N) A) s := ⟨hK, hJ, fun i hi => ⟨i, hi, rfl⟩⟩
  have Z : gZ D (cLay N) dA (cLive N) A (gA (cLive N) A) s.heap M s.heap [] := ⟨hP, va_S.rf⟩
  have hin_X0 : ∀ w ∈ wsX00, w ∈ wmX6_allAlike := cin_X0
  have hin_X6 : ∀ w ∈ wsX60, w ∈ wmX6_allAlike := cin_X6
  have hl_9 := hts (.fieldLink RX6 9 "ReplicaFiles$Replicas" "catalog" "LReplicaFiles$Catalog;") (cBc 495 rfl)
  have hl_153 := va_Nw.use (A := args) rfl (hN.1 ("ReplicaFiles$Replicas", 153, "ReplicaFiles$Catalog", "made", "I", "ReplicaFiles") (by decide +kernel))
  have hl := lv_entry ([.ref (A (10, 0, 0)), .int a1]) (n := 3) (Nat.le_of_ble_eq_true rfl)
  rw [← hargs, lg_entry_eq, hargs]
  generalize (lg_sl ([.ref (A (10, 0, 0)), .int a1]) ++ List.replicate (3 - (lg_sl ([.ref (A (10, 0, 0)), .int a1])).length) Slot.unset).toArray = ls at hl ⊢
  have hl : lv_has ls 3 [(0, .ref (A (10, 0, 0))), (1, .int a1)] := hl
  unfold f_X6_allAlike at h
  refine lv_iconst (v := (0 : Int32)) hx hb dX6_allAlike_0 (by decide) ?_
  refine lv_istore_n (lv' := [(2, .int (0 : Int32)), (0, .ref (A (10, 0, 0))), (1, .int a1)]) hx hb dX6_allAlike_1 rfl hl (by decide) rfl (fun ls hl => ?_)
  have hL2 : ∀ (n : Nat) (x1 : Int32) (H : Heap) (locs : List Loc) (ls : Array Slot), gZ D (cLay N) dA (cLive N) A (gA (cLive N) A) s.heap M H locs → lv_has ls 3 [(0, .ref (A (10, 0, 0))), (1, .int a1), (2, .int x1)] → f_X6_allAlike_L2 N M a1 n x1 = some y → W p l e (headSpec wmX6_allAlike ({ frames := 5, cells := 0, slots := 0, locals := 114 } : Room)).room s m args below meth c H locs 0 0 (MQ below (cQi N D dA A (y, M)) args s 0 0 (gA (cLive N) A)) (F0 m 2 ls []) := by
    intro n
    induction n with
    | zero =>
      intro x1 H locs ls Z hl h
      rw [f_X6_allAlike_L2] at h
      cases h
    | succ n3 ih2 =>
      intro x1 H locs ls Z hl h
      rw [f_X6_allAlike_L2] at h
      refine lv_iload_n hx hb dX6_allAlike_2 rfl (lv_at hl 2 rfl) ?_
      refine lv_aload_n hx hb dX6_allAlike_3 rfl (lv_at hl 0 rfl) ?_
      refine cr_X6_catalog S X Z hin_X6 (cl_one N 10 (by decide)) hl_9 dX6_allAlike_4 ?_
      refine cn_X0_made S X Z hin_X0 (cl_one N 1 (by decide)) hl_153 dX6_allAlike_7 h (fun v4 h => ?_)
      refine lv_icmp_gt (tgt := 30) hx hb dX6_allAlike_10 (by decide) (fun c5 => ?_) (fun c5 => ?_)
      · have h := if_t c5 h
        refine lv_iconst (v := (1 : Int32)) hx hb dX6_allAlike_30 (by decide) ?_
        have hy := Option.some.inj h
        subst hy
        exact g_rz (Or.inr rfl) S Z hr hlocks dX6_allAlike_31
      · have h := if_f c5 h
        refine lv_aload_n hx hb dX6_allAlike_13 rfl (lv_at hl 0 rfl) ?_
        refine lv_iload_n hx hb dX6_allAlike_14 rfl (lv_at hl 1 rfl) ?_
        refine lv_iload_n hx hb dX6_allAlike_15 rfl (lv_at hl 2 rfl) ?_
        obtain ⟨v7, hc6, h⟩ := o1_e h
        refine c_i X Z (c_V (i := (10, 0, 0)) (As := [.int a1, .int x1]) (rest := []) S X hN Z (cl_one N 10 (by decide)) rfl rfl (t_X6_areAlike l N D dA A hJ  hc6) (cwV 2 hts (cGV (cB 508 rfl) (cB 400 rfl) (cB 401 rfl) (cB 203 rfl) (cB 393 rfl)) rfl rfl rfl (by decide +kernel) ⟨Nat.le_of_ble_eq_true rfl, Nat.le_of_ble_eq_true rfl⟩) rfl hl.1 rfl (Nat.le_of_ble_eq_true rfl) dX6_allAlike_16 ⟨Nat.zero_le _, Nat.zero_le _⟩) (fun H locs Z => ?_)
        refine lv_if_ne (tgt := 24) hx hb dX6_allAlike_19 (by decide) (fun c8 => ?_) (fun c8 => ?_)
        · have h := if_f c8 h
          obtain ⟨x9, ex9, h⟩ := lt_e h
          refine lv_iinc (v := x9) (lv' := [(2, .int x9), (0, .ref (A (10, 0, 0))), (1, .int a1)]) hx hb dX6_allAlike_24 hl (k := 2) rfl (by rw [ex9]; rfl) (by decide) rfl (fun ls hl => ?_)
          refine lv_goto (tgt := 2) hx hb dX6_allAlike_27 (by decide) ?_
          exact ih2 x9 _ _ _ Z (lv_sub hl [1, 2, 0] rfl) h
        · have h := if_t c8 h
          refine lv_iconst (v := (0 : Int32)) hx hb dX6_allAlike_22 (by decide) ?_
          have hy := Option.some.inj h
          subst hy
          exact g_rz (Or.inl rfl) S Z hr hlocks dX6_allAlike_23
  exact hL2 100 (0 : Int32) _ _ _ Z (lv_sub hl [1, 2, 0] rfl) h
-- X8_isEntryOf (II)Z: 16 instructions
theorem dX8_isEntryOf_0 : decode cX8_isEntryOf 0 = .ok (.aload_n 0, 1) := by decide +kernel
theorem dX8_isEntryOf_1 : decode cX8_isEntryOf 1 = .ok (.getfield 25, 3) := by decide +kernel
theorem dX8_isEntryOf_4 : decode cX8_isEntryOf 4 = .ok (.getfield 57, 3) := by decide +kernel
theorem dX8_isEntryOf_7 : decode cX8_isEntryOf 7 = .ok (.iload_n 2, 1) := by decide +kernel
theorem dX8_isEntryOf_8 : decode cX8_isEntryOf 8 = .ok (.iaload, 1) := by decide +kernel
theorem dX8_isEntryOf_9 : decode cX8_isEntryOf 9 = .ok (.iload_n 1, 1) := by decide +kernel
theorem dX8_isEntryOf_10 : decode cX8_isEntryOf 10 = .ok (.if_icmp .ne 16, 3) := by decide +kernel
theorem dX8_isEntryOf_13 : decode cX8_isEntryOf 13 = .ok (.aload_n 0, 1) := by decide +kernel
theorem dX8_isEntryOf_14 : decode cX8_isEntryOf 14 = .ok (.getfield 22, 3) := by decide +kernel
theorem dX8_isEntryOf_17 : decode cX8_isEntryOf 17 = .ok (.iload_n 2, 1) := by decide +kernel
theorem dX8_isEntryOf_18 : decode cX8_isEntryOf 18 = .ok (.iaload, 1) := by decide +kernel
theorem dX8_isEntryOf_19 : decode cX8_isEntryOf 19 = .ok (.ifCond .eq 7, 3) := by decide +kernel
theorem dX8_isEntryOf_22 : decode cX8_isEntryOf 22 = .ok (.iconst 1, 1) := by decide +kernel
theorem dX8_isEntryOf_23 : decode cX8_isEntryOf 23 = .ok (.goto 4, 3) := by decide +kernel
theorem dX8_isEntryOf_26 : decode cX8_isEntryOf 26 = .ok (.iconst 0, 1) := by decide +kernel
theorem dX8_isEntryOf_27 : decode cX8_isEntryOf 27 = .ok (.ireturn, 1) := by decide +kernel
abbrev wmX8_isEntryOf : List Cond := .code yX8_isEntryOf cX8_isEntryOf 3 (some .boolean) :: cBig
def f_X8_isEntryOf (N : Nat) (M : gM) (i0 : Nat) (a1 : Int32) (a2 : Int32) : Option Int32 :=
  rd M (2, 0, 0) 48 a2 (fun v1 => (if v1 = a1 then rd M (56, i0, 0) 48 a2 (fun v3 => (if v3 = 0 then some (0 : Int32) else some (1 : Int32))) else some (0 : Int32)))
set_option maxHeartbeats 4000000 in
set_option maxRecDepth 100000 in
theorem t_X8_isEntryOf (l : Launch) (N : Nat) (D : va_G) (dA : Nat → ClassId) (A : gI → Nat) (hJ : gJ (cLive N) A) {M : gM} {i0 : Nat} {a1 : Int32} {a2 : Int32} (hi0 : cLive N (50, i0, 0)) {y : Int32} (h : f_X8_isEntryOf N M i0 a1 a2 = some y) : cMi l yX8_isEntryOf wmX8_isEntryOf ({ frames := 0, cells := 0, slots := 0, locals := 0 } : Room) N D dA A [.ref (A (50, i0, 0)), .int a1, .int a2] M y M := by
  refine Met.ofW (cc := cX8_isEntryOf) (maxL := 3) (ret := (some .boolean)) (by decide) rfl ?_
  intro p e s m args below meth c s₁ B hml hv
  obtain ⟨rfl, hP, hK, hN⟩ := hv
  generalize hargs : ([.ref (A (50, i0, 0)), .int a1, .int a2] : List Value).toArray = args at B ⊢
  have S : CallFix p m c cX8_isEntryOf 3 s args wmX8_isEntryOf RX8 := ⟨B.exec, B.bytes, hml, findClass_of_methodNamed B.named, atoms_spec (ws := wmX8_isEntryOf) B.pre⟩
  obtain ⟨hx, hb, -, hown, hts⟩ := id S
  have hr := B.returns
  have hlocks := B.notSynchronized
  have X : gX D vwCl dA (cLive N) A (gA (cLive N) A) s := ⟨hK, hJ, fun i hi => ⟨i, hi, rfl⟩⟩
  have Z : gZ D (cLay N) dA (cLive N) A (gA (cLive N) A) s.heap M s.heap [] := ⟨hP, va_S.rf⟩
  have hin_X0 : ∀ w ∈ wsX00, w ∈ wmX8_isEntryOf := cin_X0
  have hin_X8 : ∀ w ∈ wsX80, w ∈ wmX8_isEntryOf := cin_X8
  have hl_22 := hts (.fieldLink RX8 22 "ReplicaFiles$Tree" "state" "[I") (cBc 22 rfl)
  have hl_25 := hts (.fieldLink RX8 25 "ReplicaFiles$Tree" "catalog" "LReplicaFiles$Catalog;") (cBc 23 rfl)
  have hl_57 := va_Nw.use (A := args) rfl (hN.1 ("ReplicaFiles$Tree", 57, "ReplicaFiles$Catalog", "parent", "[I", "ReplicaFiles") (by decide +kernel))
  have hl := lv_entry ([.ref (A (50, i0, 0)), .int a1, .int a2]) (n := 3) (Nat.le_of_ble_eq_true rfl)
  rw [← hargs, lg_entry_eq, hargs]
  generalize (lg_sl ([.ref (A (50, i0, 0)), .int a1, .int a2]) ++ List.replicate (3 - (lg_sl ([.ref (A (50, i0, 0)), .int a1, .int a2])).length) Slot.unset).toArray = ls at hl ⊢
  have hl : lv_has ls 3 [(0, .ref (A (50, i0, 0))), (1, .int a1), (2, .int a2)] := hl
  unfold f_X8_isEntryOf at h
  refine lv_aload_n hx hb dX8_isEntryOf_0 rfl (lv_at hl 0 rfl) ?_
  refine cr_X8_catalog (a := i0) S X Z hin_X8 hi0 hl_25 dX8_isEntryOf_1 ?_
  refine cn_X0_parent S X Z hin_X0 (cl_one N 1 (by decide)) hl_57 dX8_isEntryOf_4 ?_
  refine lv_iload_n hx hb dX8_isEntryOf_7 rfl (lv_at hl 2 rfl) ?_
  refine g_iald (i := (2, 0, 0)) (n := 48) S X Z (cl_one N 2 (by decide)) rfl dX8_isEntryOf_8 h (fun v1 h => ?_)
  refine lv_iload_n hx hb dX8_isEntryOf_9 rfl (lv_at hl 1 rfl) ?_
  refine lv_icmp_ne (tgt := 26) hx hb dX8_isEntryOf_10 (by decide) (fun c2 => ?_) (fun c2 => ?_)
  · have h := if_f c2 h
    refine lv_iconst (v := (0 : Int32)) hx hb dX8_isEntryOf_26 (by decide) ?_
    have hy := Option.some.inj h
    subst hy
    exact g_rz (Or.inl rfl) S Z hr hlocks dX8_isEntryOf_27
  · have h := if_t c2 h
    refine lv_aload_n hx hb dX8_isEntryOf_13 rfl (lv_at hl 0 rfl) ?_
    refine cr_X8_state (a := i0) S X Z hin_X8 hi0 hl_22 dX8_isEntryOf_14 ?_
    refine lv_iload_n hx hb dX8_isEntryOf_17 rfl (lv_at hl 2 rfl) ?_
    refine g_iald (i := (56, i0, 0)) (n := 48) S X Z (cl_X8_state hi0) rfl dX8_isEntryOf_18 h (fun v3 h => ?_)
    refine lv_if_eq (tgt := 26) hx hb dX8_isEntryOf_19 (by decide) (fun c4 => ?_) (fun c4 => ?_)
    · have h := if_t c4 h
      refine lv_iconst (v := (0 : Int32)) hx hb dX8_isEntryOf_26 (by decide) ?_
      have hy := Option.some.inj h
      subst hy
      exact g_rz (Or.inl rfl) S Z hr hlocks dX8_isEntryOf_27
    · have h := if_f c4 h
      refine lv_iconst (v := (1 : Int32)) hx hb dX8_isEntryOf_22 (by decide) ?_
      refine lv_goto (tgt := 27) hx hb dX8_isEntryOf_23 (by decide) ?_
      have hy := Option.some.inj h
      subst hy
      exact g_rz (Or.inr rfl) S Z hr hlocks dX8_isEntryOf_27
-- X8_entriesIn (I)I: 21 instructions
theorem dX8_entriesIn_0 : decode cX8_entriesIn 0 = .ok (.iconst 0, 1) := by decide +kernel
theorem dX8_entriesIn_1 : decode cX8_entriesIn 1 = .ok (.istore_n 2, 1) := by decide +kernel
theorem dX8_entriesIn_2 : decode cX8_entriesIn 2 = .ok (.iload_n 1, 1) := by decide +kernel
theorem dX8_entriesIn_3 : decode cX8_entriesIn 3 = .ok (.iconst 1, 1) := by decide +kernel
theorem dX8_entriesIn_4 : decode cX8_entriesIn 4 = .ok (.iadd, 1) := by decide +kernel
theorem dX8_entriesIn_5 : decode cX8_entriesIn 5 = .ok (.istore_n 3, 1) := by decide +kernel
theorem dX8_entriesIn_6 : decode cX8_entriesIn 6 = .ok (.iload_n 3, 1) := by decide +kernel
theorem dX8_entriesIn_7 : decode cX8_entriesIn 7 = .ok (.aload_n 0, 1) := by decide +kernel
theorem dX8_entriesIn_8 : decode cX8_entriesIn 8 = .ok (.getfield 25, 3) := by decide +kernel
theorem dX8_entriesIn_11 : decode cX8_entriesIn 11 = .ok (.getfield 51, 3) := by decide +kernel
theorem dX8_entriesIn_14 : decode cX8_entriesIn 14 = .ok (.if_icmp .gt 21, 3) := by decide +kernel
theorem dX8_entriesIn_17 : decode cX8_entriesIn 17 = .ok (.aload_n 0, 1) := by decide +kernel
theorem dX8_entriesIn_18 : decode cX8_entriesIn 18 = .ok (.iload_n 1, 1) := by decide +kernel
theorem dX8_entriesIn_19 : decode cX8_entriesIn 19 = .ok (.iload_n 3, 1) := by decide +kernel
theorem dX8_entriesIn_20 : decode cX8_entriesIn 20 = .ok (.invokevirtual 64, 3) := by decide +kernel
theorem dX8_entriesIn_23 : decode cX8_entriesIn 23 = .ok (.ifCond .eq 6, 3) := by decide +kernel
theorem dX8_entriesIn_26 : decode cX8_entriesIn 26 = .ok (.iinc 2 1, 3) := by decide +kernel
theorem dX8_entriesIn_29 : decode cX8_entriesIn 29 = .ok (.iinc 3 1, 3) := by decide +kernel
theorem dX8_entriesIn_32 : decode cX8_entriesIn 32 = .ok (.goto (-26), 3) := by decide +kernel
theorem dX8_entriesIn_35 : decode cX8_entriesIn 35 = .ok (.iload_n 2, 1) := by decide +kernel
theorem dX8_entriesIn_36 : decode cX8_entriesIn 36 = .ok (.ireturn, 1) := by decide +kernel
abbrev wmX8_entriesIn : List Cond := .code yX8_entriesIn cX8_entriesIn 4 (some .int) :: cBig
def f_X8_entriesIn_L6 (N : Nat) (M4 : gM) (i0 : Nat) (a1 : Int32) : Nat → Int32 → Int32 → Option Int32
  | 0, _, _ => none
  | n5 + 1, x2, x3 => lt (M4 (1, 0, 0) 3) (fun v6 => (if v6 < x3 then some x2 else o1 (f_X8_isEntryOf N M4 i0 a1 x3) (fun v9 => jn (fun (b10 : Int32) => lt (x3 + 1) (fun x11 => f_X8_entriesIn_L6 N M4 i0 a1 n5 b10 x11)) (fun J29 => (if v9 = 0 then J29 x2 else lt (x2 + 1) (fun x13 => J29 x13))))))
def f_X8_entriesIn (N : Nat) (M : gM) (i0 : Nat) (a1 : Int32) : Option Int32 :=
  lt ((a1 + (1 : Int32))) (fun x1 => f_X8_entriesIn_L6 N M i0 a1 100 (0 : Int32) x1)
set_option maxHeartbeats 4000000 in
set_option maxRecDepth 100000 in
theorem t_X8_entriesIn (l : Launch) (N : Nat) (D : va_G) (dA : Nat → ClassId) (A : gI → Nat) (hJ : gJ (cLive N) A) {M : gM} {i0 : Nat} {a1 : Int32} (hi0 : cLive N (50, i0, 0)) {y : Int32} (h : f_X8_entriesIn N M i0 a1 = some y) : cMi l yX8_entriesIn wmX8_entriesIn ({ frames := 1, cells := 0, slots := 0, locals := 22 } : Room) N D dA A [.ref (A (50, i0, 0)), .int a1] M y M := by
  refine Met.ofW (cc := cX8_entriesIn) (maxL := 4) (ret := (some .int)) (by decide) rfl ?_
  intro p e s m args below meth c s₁ B hml hv
  obtain ⟨rfl, hP, hK, hN⟩ := hv
  generalize hargs : ([.ref (A (50, i0, 0)), .int a1] : List Value).toArray = args at B ⊢
  have S : CallFix p m c cX8_entriesIn 4 s args wmX8_entriesIn RX8 := ⟨B.exec, B.bytes, hml, findClass_of_methodNamed B.named, atoms_spec (ws := wmX8_entriesIn) B.pre⟩
  obtain ⟨hx, hb, -, hown, hts⟩ := id S
  have hr := B.returns
  have hlocks := B.notSynchronized
  have X : gX D vwCl dA (cLive N) A (gA (cLive N) A) s := ⟨hK, hJ, fun i hi => ⟨i, hi, rfl⟩⟩
  have Z : gZ D (cLay N) dA (cLive N) A (gA (cLive N) A) s.heap M s.heap [] := ⟨hP, va_S.rf⟩
  have hin_X0 : ∀ w ∈ wsX00, w ∈ wmX8_entriesIn := cin_X0
  have hin_X8 : ∀ w ∈ wsX80, w ∈ wmX8_entriesIn := cin_X8
  have hl_25 := hts (.fieldLink RX8 25 "ReplicaFiles$Tree" "catalog" "LReplicaFiles$Catalog;") (cBc 23 rfl)
  have hl_51 := va_Nw.use (A := args) rfl (hN.1 ("ReplicaFiles$Tree", 51, "ReplicaFiles$Catalog", "made", "I", "ReplicaFiles") (by decide +kernel))
  have hl := lv_entry ([.ref (A (50, i0, 0)), .int a1]) (n := 4) (Nat.le_of_ble_eq_true rfl)
  rw [← hargs, lg_entry_eq, hargs]
  generalize (lg_sl ([.ref (A (50, i0, 0)), .int a1]) ++ List.replicate (4 - (lg_sl ([.ref (A (50, i0, 0)), .int a1])).length) Slot.unset).toArray = ls at hl ⊢
  have hl : lv_has ls 4 [(0, .ref (A (50, i0, 0))), (1, .int a1)] := hl
  unfold f_X8_entriesIn at h
  refine lv_iconst (v := (0 : Int32)) hx hb dX8_entriesIn_0 (by decide) ?_
  refine lv_istore_n (lv' := [(2, .int (0 : Int32)), (0, .ref (A (50, i0, 0))), (1, .int a1)]) hx hb dX8_entriesIn_1 rfl hl (by decide) rfl (fun ls hl => ?_)
  refine lv_iload_n hx hb dX8_entriesIn_2 rfl (lv_at hl 2 rfl) ?_
  refine lv_iconst (v := (1 : Int32)) hx hb dX8_entriesIn_3 (by decide) ?_
  refine lv_iadd hx hb dX8_entriesIn_4 ?_
  refine g_topi h (fun x1 h => ?_)
  refine lv_istore_n (lv' := [(3, .int x1), (2, .int (0 : Int32)), (0, .ref (A (50, i0, 0))), (1, .int a1)]) hx hb dX8_entriesIn_5 rfl hl (by decide) rfl (fun ls hl => ?_)
  have hL6 : ∀ (n : Nat) (x2 : Int32) (x3 : Int32) (H : Heap) (locs : List Loc) (ls : Array Slot), gZ D (cLay N) dA (cLive N) A (gA (cLive N) A) s.heap M H locs → lv_has ls 4 [(0, .ref (A (50, i0, 0))), (1, .int a1), (2, .int x2), (3, .int x3)] → f_X8_entriesIn_L6 N M i0 a1 n x2 x3 = some y → W p l e (headSpec wmX8_entriesIn ({ frames := 1, cells := 0, slots := 0, locals := 22 } : Room)).room s m args below meth c H locs 0 0 (MQ below (cQi N D dA A (y, M)) args s 0 0 (gA (cLive N) A)) (F0 m 6 ls []) := by
    intro n
    induction n with
    | zero =>
      intro x2 x3 H locs ls Z hl h
      rw [f_X8_entriesIn_L6] at h
      cases h
    | succ n5 ih6 =>
      intro x2 x3 H locs ls Z hl h
      rw [f_X8_entriesIn_L6] at h
      refine lv_iload_n hx hb dX8_entriesIn_6 rfl (lv_at hl 3 rfl) ?_
      refine lv_aload_n hx hb dX8_entriesIn_7 rfl (lv_at hl 0 rfl) ?_
      refine cr_X8_catalog (a := i0) S X Z hin_X8 hi0 hl_25 dX8_entriesIn_8 ?_
      refine cn_X0_made S X Z hin_X0 (cl_one N 1 (by decide)) hl_51 dX8_entriesIn_11 h (fun v6 h => ?_)
      refine lv_icmp_gt (tgt := 35) hx hb dX8_entriesIn_14 (by decide) (fun c7 => ?_) (fun c7 => ?_)
      · have h := if_t c7 h
        refine lv_iload_n hx hb dX8_entriesIn_35 rfl (lv_at hl 2 rfl) ?_
        have hy := Option.some.inj h
        subst hy
        exact g_ri S Z hr hlocks dX8_entriesIn_36
      · have h := if_f c7 h
        refine lv_aload_n hx hb dX8_entriesIn_17 rfl (lv_at hl 0 rfl) ?_
        refine lv_iload_n hx hb dX8_entriesIn_18 rfl (lv_at hl 1 rfl) ?_
        refine lv_iload_n hx hb dX8_entriesIn_19 rfl (lv_at hl 3 rfl) ?_
        obtain ⟨v9, hc8, h⟩ := o1_e h
        refine c_i X Z (c_V (i := (50, i0, 0)) (As := [.int a1, .int x3]) (rest := []) S X hN Z hi0 rfl rfl (t_X8_isEntryOf l N D dA A hJ hi0 hc8) (cwV 2 hts (cGV (cB 519 rfl) (cB 520 rfl) (cB 521 rfl) (cB 44 rfl) (cB 517 rfl)) rfl rfl rfl (by decide +kernel) ⟨Nat.le_of_ble_eq_true rfl, Nat.le_of_ble_eq_true rfl⟩) rfl hl.1 rfl (Nat.le_of_ble_eq_true rfl) dX8_entriesIn_20 ⟨Nat.zero_le _, Nat.zero_le _⟩) (fun H locs Z => ?_)
        obtain ⟨J29, eJ29, h⟩ := jn_e h
        have hJ29 : ∀ (b10 : Int32) (H : Heap) (locs : List Loc) (ls : Array Slot), gZ D (cLay N) dA (cLive N) A (gA (cLive N) A) s.heap M H locs → lv_has ls 4 [(0, .ref (A (50, i0, 0))), (1, .int a1), (2, .int b10), (3, .int x3)] → J29 b10 = some y → W p l e (headSpec wmX8_entriesIn ({ frames := 1, cells := 0, slots := 0, locals := 22 } : Room)).room s m args below meth c H locs 0 0 (MQ below (cQi N D dA A (y, M)) args s 0 0 (gA (cLive N) A)) (F0 m 29 ls []) := by
          intro b10 H locs ls Z hl h
          rw [eJ29] at h
          try dsimp only at h
          obtain ⟨x11, ex11, h⟩ := lt_e h
          refine lv_iinc (v := x11) (lv' := [(3, .int x11), (0, .ref (A (50, i0, 0))), (1, .int a1), (2, .int b10)]) hx hb dX8_entriesIn_29 hl (k := 3) rfl (by rw [ex11]; rfl) (by decide) rfl (fun ls hl => ?_)
          refine lv_goto (tgt := 6) hx hb dX8_entriesIn_32 (by decide) ?_
          exact ih6 b10 x11 _ _ _ Z (lv_sub hl [1, 2, 3, 0] rfl) h
        refine lv_if_eq (tgt := 29) hx hb dX8_entriesIn_23 (by decide) (fun c12 => ?_) (fun c12 => ?_)
        · have h := if_t c12 h
          exact hJ29 x2 _ _ _ Z (lv_sub hl [0, 1, 2, 3] rfl) h
        · have h := if_f c12 h
          obtain ⟨x13, ex13, h⟩ := lt_e h
          refine lv_iinc (v := x13) (lv' := [(2, .int x13), (0, .ref (A (50, i0, 0))), (1, .int a1), (3, .int x3)]) hx hb dX8_entriesIn_26 hl (k := 2) rfl (by rw [ex13]; rfl) (by decide) rfl (fun ls hl => ?_)
          exact hJ29 x13 _ _ _ Z (lv_sub hl [1, 2, 0, 3] rfl) h
  exact hL6 100 (0 : Int32) x1 _ _ _ Z (lv_sub hl [2, 3, 1, 0] rfl) h
-- X8_entryAt (II)I: 26 instructions
theorem dX8_entryAt_0 : decode cX8_entryAt 0 = .ok (.iconst 0, 1) := by decide +kernel
theorem dX8_entryAt_1 : decode cX8_entryAt 1 = .ok (.istore_n 3, 1) := by decide +kernel
theorem dX8_entryAt_2 : decode cX8_entryAt 2 = .ok (.iload_n 1, 1) := by decide +kernel
theorem dX8_entryAt_3 : decode cX8_entryAt 3 = .ok (.iconst 1, 1) := by decide +kernel
theorem dX8_entryAt_4 : decode cX8_entryAt 4 = .ok (.iadd, 1) := by decide +kernel
theorem dX8_entryAt_5 : decode cX8_entryAt 5 = .ok (.istore 4, 2) := by decide +kernel
theorem dX8_entryAt_7 : decode cX8_entryAt 7 = .ok (.iload 4, 2) := by decide +kernel
theorem dX8_entryAt_9 : decode cX8_entryAt 9 = .ok (.aload_n 0, 1) := by decide +kernel
theorem dX8_entryAt_10 : decode cX8_entryAt 10 = .ok (.getfield 25, 3) := by decide +kernel
theorem dX8_entryAt_13 : decode cX8_entryAt 13 = .ok (.getfield 51, 3) := by decide +kernel
theorem dX8_entryAt_16 : decode cX8_entryAt 16 = .ok (.if_icmp .gt 30, 3) := by decide +kernel
theorem dX8_entryAt_19 : decode cX8_entryAt 19 = .ok (.aload_n 0, 1) := by decide +kernel
theorem dX8_entryAt_20 : decode cX8_entryAt 20 = .ok (.iload_n 1, 1) := by decide +kernel
theorem dX8_entryAt_21 : decode cX8_entryAt 21 = .ok (.iload 4, 2) := by decide +kernel
theorem dX8_entryAt_23 : decode cX8_entryAt 23 = .ok (.invokevirtual 64, 3) := by decide +kernel
theorem dX8_entryAt_26 : decode cX8_entryAt 26 = .ok (.ifCond .eq 14, 3) := by decide +kernel
theorem dX8_entryAt_29 : decode cX8_entryAt 29 = .ok (.iload_n 3, 1) := by decide +kernel
theorem dX8_entryAt_30 : decode cX8_entryAt 30 = .ok (.iload_n 2, 1) := by decide +kernel
theorem dX8_entryAt_31 : decode cX8_entryAt 31 = .ok (.if_icmp .ne 6, 3) := by decide +kernel
theorem dX8_entryAt_34 : decode cX8_entryAt 34 = .ok (.iload 4, 2) := by decide +kernel
theorem dX8_entryAt_36 : decode cX8_entryAt 36 = .ok (.ireturn, 1) := by decide +kernel
theorem dX8_entryAt_37 : decode cX8_entryAt 37 = .ok (.iinc 3 1, 3) := by decide +kernel
theorem dX8_entryAt_40 : decode cX8_entryAt 40 = .ok (.iinc 4 1, 3) := by decide +kernel
theorem dX8_entryAt_43 : decode cX8_entryAt 43 = .ok (.goto (-36), 3) := by decide +kernel
theorem dX8_entryAt_46 : decode cX8_entryAt 46 = .ok (.iconst (-1), 1) := by decide +kernel
theorem dX8_entryAt_47 : decode cX8_entryAt 47 = .ok (.ireturn, 1) := by decide +kernel
abbrev wmX8_entryAt : List Cond := .code yX8_entryAt cX8_entryAt 5 (some .int) :: cBig
def f_X8_entryAt_L7 (N : Nat) (M4 : gM) (i0 : Nat) (a1 : Int32) (a2 : Int32) : Nat → Int32 → Int32 → Option Int32
  | 0, _, _ => none
  | n5 + 1, x2, x3 => lt (M4 (1, 0, 0) 3) (fun v6 => (if v6 < x3 then some (-1 : Int32) else o1 (f_X8_isEntryOf N M4 i0 a1 x3) (fun v9 => jn (fun (b10 : Int32) => lt (x3 + 1) (fun x11 => f_X8_entryAt_L7 N M4 i0 a1 a2 n5 b10 x11)) (fun J40 => (if v9 = 0 then J40 x2 else (if x2 = a2 then some x3 else lt (x2 + 1) (fun x14 => J40 x14)))))))
def f_X8_entryAt (N : Nat) (M : gM) (i0 : Nat) (a1 : Int32) (a2 : Int32) : Option Int32 :=
  lt ((a1 + (1 : Int32))) (fun x1 => f_X8_entryAt_L7 N M i0 a1 a2 100 (0 : Int32) x1)
set_option maxHeartbeats 4000000 in
set_option maxRecDepth 100000 in
theorem t_X8_entryAt (l : Launch) (N : Nat) (D : va_G) (dA : Nat → ClassId) (A : gI → Nat) (hJ : gJ (cLive N) A) {M : gM} {i0 : Nat} {a1 : Int32} {a2 : Int32} (hi0 : cLive N (50, i0, 0)) {y : Int32} (h : f_X8_entryAt N M i0 a1 a2 = some y) : cMi l yX8_entryAt wmX8_entryAt ({ frames := 1, cells := 0, slots := 0, locals := 22 } : Room) N D dA A [.ref (A (50, i0, 0)), .int a1, .int a2] M y M := by
  refine Met.ofW (cc := cX8_entryAt) (maxL := 5) (ret := (some .int)) (by decide) rfl ?_
  intro p e s m args below meth c s₁ B hml hv
  obtain ⟨rfl, hP, hK, hN⟩ := hv
  generalize hargs : ([.ref (A (50, i0, 0)), .int a1, .int a2] : List Value).toArray = args at B ⊢
  have S : CallFix p m c cX8_entryAt 5 s args wmX8_entryAt RX8 := ⟨B.exec, B.bytes, hml, findClass_of_methodNamed B.named, atoms_spec (ws := wmX8_entryAt) B.pre⟩
  obtain ⟨hx, hb, -, hown, hts⟩ := id S
  have hr := B.returns
  have hlocks := B.notSynchronized
  have X : gX D vwCl dA (cLive N) A (gA (cLive N) A) s := ⟨hK, hJ, fun i hi => ⟨i, hi, rfl⟩⟩
  have Z : gZ D (cLay N) dA (cLive N) A (gA (cLive N) A) s.heap M s.heap [] := ⟨hP, va_S.rf⟩
  have hin_X0 : ∀ w ∈ wsX00, w ∈ wmX8_entryAt := cin_X0
  have hin_X8 : ∀ w ∈ wsX80, w ∈ wmX8_entryAt := cin_X8
  have hl_25 := hts (.fieldLink RX8 25 "ReplicaFiles$Tree" "catalog" "LReplicaFiles$Catalog;") (cBc 23 rfl)
  have hl_51 := va_Nw.use (A := args) rfl (hN.1 ("ReplicaFiles$Tree", 51, "ReplicaFiles$Catalog", "made", "I", "ReplicaFiles") (by decide +kernel))
  have hl := lv_entry ([.ref (A (50, i0, 0)), .int a1, .int a2]) (n := 5) (Nat.le_of_ble_eq_true rfl)
  rw [← hargs, lg_entry_eq, hargs]
  generalize (lg_sl ([.ref (A (50, i0, 0)), .int a1, .int a2]) ++ List.replicate (5 - (lg_sl ([.ref (A (50, i0, 0)), .int a1, .int a2])).length) Slot.unset).toArray = ls at hl ⊢
  have hl : lv_has ls 5 [(0, .ref (A (50, i0, 0))), (1, .int a1), (2, .int a2)] := hl
  unfold f_X8_entryAt at h
  refine lv_iconst (v := (0 : Int32)) hx hb dX8_entryAt_0 (by decide) ?_
  refine lv_istore_n (lv' := [(3, .int (0 : Int32)), (0, .ref (A (50, i0, 0))), (1, .int a1), (2, .int a2)]) hx hb dX8_entryAt_1 rfl hl (by decide) rfl (fun ls hl => ?_)
  refine lv_iload_n hx hb dX8_entryAt_2 rfl (lv_at hl 2 rfl) ?_
  refine lv_iconst (v := (1 : Int32)) hx hb dX8_entryAt_3 (by decide) ?_
  refine lv_iadd hx hb dX8_entryAt_4 ?_
  refine g_topi h (fun x1 h => ?_)
  refine lv_istore (lv' := [(4, .int x1), (3, .int (0 : Int32)), (0, .ref (A (50, i0, 0))), (1, .int a1), (2, .int a2)]) hx hb dX8_entryAt_5 hl (by decide) rfl (fun ls hl => ?_)
  have hL7 : ∀ (n : Nat) (x2 : Int32) (x3 : Int32) (H : Heap) (locs : List Loc) (ls : Array Slot), gZ D (cLay N) dA (cLive N) A (gA (cLive N) A) s.heap M H locs → lv_has ls 5 [(0, .ref (A (50, i0, 0))), (1, .int a1), (2, .int a2), (3, .int x2), (4, .int x3)] → f_X8_entryAt_L7 N M i0 a1 a2 n x2 x3 = some y → W p l e (headSpec wmX8_entryAt ({ frames := 1, cells := 0, slots := 0, locals := 22 } : Room)).room s m args below meth c H locs 0 0 (MQ below (cQi N D dA A (y, M)) args s 0 0 (gA (cLive N) A)) (F0 m 7 ls []) := by
    intro n
    induction n with
    | zero =>
      intro x2 x3 H locs ls Z hl h
      rw [f_X8_entryAt_L7] at h
      cases h
    | succ n5 ih7 =>
      intro x2 x3 H locs ls Z hl h
      rw [f_X8_entryAt_L7] at h
      refine lv_iload hx hb dX8_entryAt_7 (lv_at hl 4 rfl) ?_
      refine lv_aload_n hx hb dX8_entryAt_9 rfl (lv_at hl 0 rfl) ?_
      refine cr_X8_catalog (a := i0) S X Z hin_X8 hi0 hl_25 dX8_entryAt_10 ?_
      refine cn_X0_made S X Z hin_X0 (cl_one N 1 (by decide)) hl_51 dX8_entryAt_13 h (fun v6 h => ?_)
      refine lv_icmp_gt (tgt := 46) hx hb dX8_entryAt_16 (by decide) (fun c7 => ?_) (fun c7 => ?_)
      · have h := if_t c7 h
        refine lv_iconst (v := (-1 : Int32)) hx hb dX8_entryAt_46 (by decide) ?_
        have hy := Option.some.inj h
        subst hy
        exact g_ri S Z hr hlocks dX8_entryAt_47
      · have h := if_f c7 h
        refine lv_aload_n hx hb dX8_entryAt_19 rfl (lv_at hl 0 rfl) ?_
        refine lv_iload_n hx hb dX8_entryAt_20 rfl (lv_at hl 1 rfl) ?_
        refine lv_iload hx hb dX8_entryAt_21 (lv_at hl 4 rfl) ?_
        obtain ⟨v9, hc8, h⟩ := o1_e h
        refine c_i X Z (c_V (i := (50, i0, 0)) (As := [.int a1, .int x3]) (rest := []) S X hN Z hi0 rfl rfl (t_X8_isEntryOf l N D dA A hJ hi0 hc8) (cwV 2 hts (cGV (cB 519 rfl) (cB 520 rfl) (cB 521 rfl) (cB 44 rfl) (cB 517 rfl)) rfl rfl rfl (by decide +kernel) ⟨Nat.le_of_ble_eq_true rfl, Nat.le_of_ble_eq_true rfl⟩) rfl hl.1 rfl (Nat.le_of_ble_eq_true rfl) dX8_entryAt_23 ⟨Nat.zero_le _, Nat.zero_le _⟩) (fun H locs Z => ?_)
        obtain ⟨J40, eJ40, h⟩ := jn_e h
        have hJ40 : ∀ (b10 : Int32) (H : Heap) (locs : List Loc) (ls : Array Slot), gZ D (cLay N) dA (cLive N) A (gA (cLive N) A) s.heap M H locs → lv_has ls 5 [(0, .ref (A (50, i0, 0))), (1, .int a1), (2, .int a2), (3, .int b10), (4, .int x3)] → J40 b10 = some y → W p l e (headSpec wmX8_entryAt ({ frames := 1, cells := 0, slots := 0, locals := 22 } : Room)).room s m args below meth c H locs 0 0 (MQ below (cQi N D dA A (y, M)) args s 0 0 (gA (cLive N) A)) (F0 m 40 ls []) := by
          intro b10 H locs ls Z hl h
          rw [eJ40] at h
          try dsimp only at h
          obtain ⟨x11, ex11, h⟩ := lt_e h
          refine lv_iinc (v := x11) (lv' := [(4, .int x11), (0, .ref (A (50, i0, 0))), (1, .int a1), (2, .int a2), (3, .int b10)]) hx hb dX8_entryAt_40 hl (k := 4) rfl (by rw [ex11]; rfl) (by decide) rfl (fun ls hl => ?_)
          refine lv_goto (tgt := 7) hx hb dX8_entryAt_43 (by decide) ?_
          exact ih7 b10 x11 _ _ _ Z (lv_sub hl [1, 2, 3, 4, 0] rfl) h
        refine lv_if_eq (tgt := 40) hx hb dX8_entryAt_26 (by decide) (fun c12 => ?_) (fun c12 => ?_)
        · have h := if_t c12 h
          exact hJ40 x2 _ _ _ Z (lv_sub hl [0, 1, 2, 3, 4] rfl) h
        · have h := if_f c12 h
          refine lv_iload_n hx hb dX8_entryAt_29 rfl (lv_at hl 3 rfl) ?_
          refine lv_iload_n hx hb dX8_entryAt_30 rfl (lv_at hl 2 rfl) ?_
          refine lv_icmp_ne (tgt := 37) hx hb dX8_entryAt_31 (by decide) (fun c13 => ?_) (fun c13 => ?_)
          · have h := if_f c13 h
            obtain ⟨x14, ex14, h⟩ := lt_e h
            refine lv_iinc (v := x14) (lv' := [(3, .int x14), (0, .ref (A (50, i0, 0))), (1, .int a1), (2, .int a2), (4, .int x3)]) hx hb dX8_entryAt_37 hl (k := 3) rfl (by rw [ex14]; rfl) (by decide) rfl (fun ls hl => ?_)
            exact hJ40 x14 _ _ _ Z (lv_sub hl [1, 2, 3, 0, 4] rfl) h
          · have h := if_t c13 h
            refine lv_iload hx hb dX8_entryAt_34 (lv_at hl 4 rfl) ?_
            have hy := Option.some.inj h
            subst hy
            exact g_ri S Z hr hlocks dX8_entryAt_36
  exact hL7 100 (0 : Int32) x1 _ _ _ Z (lv_sub hl [2, 3, 4, 1, 0] rfl) h
-- X8_leastNamed (II)J: 28 instructions
theorem dX8_leastNamed_0 : decode cX8_leastNamed 0 = .ok (.iload_n 1, 1) := by decide +kernel
theorem dX8_leastNamed_1 : decode cX8_leastNamed 1 = .ok (.iconst 1, 1) := by decide +kernel
theorem dX8_leastNamed_2 : decode cX8_leastNamed 2 = .ok (.iadd, 1) := by decide +kernel
theorem dX8_leastNamed_3 : decode cX8_leastNamed 3 = .ok (.istore_n 3, 1) := by decide +kernel
theorem dX8_leastNamed_4 : decode cX8_leastNamed 4 = .ok (.iload_n 3, 1) := by decide +kernel
theorem dX8_leastNamed_5 : decode cX8_leastNamed 5 = .ok (.aload_n 0, 1) := by decide +kernel
theorem dX8_leastNamed_6 : decode cX8_leastNamed 6 = .ok (.getfield 25, 3) := by decide +kernel
theorem dX8_leastNamed_9 : decode cX8_leastNamed 9 = .ok (.getfield 51, 3) := by decide +kernel
theorem dX8_leastNamed_12 : decode cX8_leastNamed 12 = .ok (.if_icmp .gt 34, 3) := by decide +kernel
theorem dX8_leastNamed_15 : decode cX8_leastNamed 15 = .ok (.aload_n 0, 1) := by decide +kernel
theorem dX8_leastNamed_16 : decode cX8_leastNamed 16 = .ok (.iload_n 1, 1) := by decide +kernel
theorem dX8_leastNamed_17 : decode cX8_leastNamed 17 = .ok (.iload_n 3, 1) := by decide +kernel
theorem dX8_leastNamed_18 : decode cX8_leastNamed 18 = .ok (.invokevirtual 68, 3) := by decide +kernel
theorem dX8_leastNamed_21 : decode cX8_leastNamed 21 = .ok (.ifCond .eq 19, 3) := by decide +kernel
theorem dX8_leastNamed_24 : decode cX8_leastNamed 24 = .ok (.aload_n 0, 1) := by decide +kernel
theorem dX8_leastNamed_25 : decode cX8_leastNamed 25 = .ok (.getfield 25, 3) := by decide +kernel
theorem dX8_leastNamed_28 : decode cX8_leastNamed 28 = .ok (.getfield 71, 3) := by decide +kernel
theorem dX8_leastNamed_31 : decode cX8_leastNamed 31 = .ok (.iload_n 3, 1) := by decide +kernel
theorem dX8_leastNamed_32 : decode cX8_leastNamed 32 = .ok (.iaload, 1) := by decide +kernel
theorem dX8_leastNamed_33 : decode cX8_leastNamed 33 = .ok (.iload_n 2, 1) := by decide +kernel
theorem dX8_leastNamed_34 : decode cX8_leastNamed 34 = .ok (.if_icmp .ne 6, 3) := by decide +kernel
theorem dX8_leastNamed_37 : decode cX8_leastNamed 37 = .ok (.iload_n 3, 1) := by decide +kernel
theorem dX8_leastNamed_38 : decode cX8_leastNamed 38 = .ok (.i2l, 1) := by decide +kernel
theorem dX8_leastNamed_39 : decode cX8_leastNamed 39 = .ok (.lreturn, 1) := by decide +kernel
theorem dX8_leastNamed_40 : decode cX8_leastNamed 40 = .ok (.iinc 3 1, 3) := by decide +kernel
theorem dX8_leastNamed_43 : decode cX8_leastNamed 43 = .ok (.goto (-39), 3) := by decide +kernel
theorem dX8_leastNamed_46 : decode cX8_leastNamed 46 = .ok (.ldc2_w 74, 3) := by decide +kernel
theorem dX8_leastNamed_49 : decode cX8_leastNamed 49 = .ok (.lreturn, 1) := by decide +kernel
abbrev wmX8_leastNamed : List Cond := .code yX8_leastNamed cX8_leastNamed 4 (some .long) :: cBig
def f_X8_leastNamed_L4 (N : Nat) (M3 : gM) (i0 : Nat) (a1 : Int32) (a2 : Int32) : Nat → Int32 → Option Int64
  | 0, _ => none
  | n4 + 1, x2 => lt (M3 (1, 0, 0) 3) (fun v5 => (if v5 < x2 then some (-2199023255552 : Int64) else o1 (f_X8_isThereIn N M3 i0 a1 x2) (fun v8 => jn (fun (_ : Unit) => lt (x2 + 1) (fun x9 => f_X8_leastNamed_L4 N M3 i0 a1 a2 n4 x9)) (fun J40 => (if v8 = 0 then J40 () else rd M3 (3, 0, 0) 48 x2 (fun v11 => (if v11 = a2 then some x2.toInt64 else J40 ())))))))
def f_X8_leastNamed (N : Nat) (M : gM) (i0 : Nat) (a1 : Int32) (a2 : Int32) : Option Int64 :=
  lt ((a1 + (1 : Int32))) (fun x1 => f_X8_leastNamed_L4 N M i0 a1 a2 100 x1)
set_option maxHeartbeats 4000000 in
set_option maxRecDepth 100000 in
theorem t_X8_leastNamed (l : Launch) (N : Nat) (D : va_G) (dA : Nat → ClassId) (A : gI → Nat) (hJ : gJ (cLive N) A) {M : gM} {i0 : Nat} {a1 : Int32} {a2 : Int32} (hi0 : cLive N (50, i0, 0)) {y : Int64} (h : f_X8_leastNamed N M i0 a1 a2 = some y) : cMl l yX8_leastNamed wmX8_leastNamed ({ frames := 2, cells := 0, slots := 0, locals := 43 } : Room) N D dA A [.ref (A (50, i0, 0)), .int a1, .int a2] M y M := by
  refine Met.ofW (cc := cX8_leastNamed) (maxL := 4) (ret := (some .long)) (by decide) rfl ?_
  intro p e s m args below meth c s₁ B hml hv
  obtain ⟨rfl, hP, hK, hN⟩ := hv
  generalize hargs : ([.ref (A (50, i0, 0)), .int a1, .int a2] : List Value).toArray = args at B ⊢
  have S : CallFix p m c cX8_leastNamed 4 s args wmX8_leastNamed RX8 := ⟨B.exec, B.bytes, hml, findClass_of_methodNamed B.named, atoms_spec (ws := wmX8_leastNamed) B.pre⟩
  obtain ⟨hx, hb, -, hown, hts⟩ := id S
  have hr := B.returns
  have hlocks := B.notSynchronized
  have X : gX D vwCl dA (cLive N) A (gA (cLive N) A) s := ⟨hK, hJ, fun i hi => ⟨i, hi, rfl⟩⟩
  have Z : gZ D (cLay N) dA (cLive N) A (gA (cLive N) A) s.heap M s.heap [] := ⟨hP, va_S.rf⟩
  have hin_X0 : ∀ w ∈ wsX00, w ∈ wmX8_leastNamed := cin_X0
  have hin_X8 : ∀ w ∈ wsX80, w ∈ wmX8_leastNamed := cin_X8
  have hl_25 := hts (.fieldLink RX8 25 "ReplicaFiles$Tree" "catalog" "LReplicaFiles$Catalog;") (cBc 23 rfl)
  have hl_51 := va_Nw.use (A := args) rfl (hN.1 ("ReplicaFiles$Tree", 51, "ReplicaFiles$Catalog", "made", "I", "ReplicaFiles") (by decide +kernel))
  have hl_71 := va_Nw.use (A := args) rfl (hN.1 ("ReplicaFiles$Tree", 71, "ReplicaFiles$Catalog", "name", "[I", "ReplicaFiles") (by decide +kernel))
  have hc_74 := hts (.constantLong RX8 74 (-2199023255552)) (cBc 524 rfl)
  have hl := lv_entry ([.ref (A (50, i0, 0)), .int a1, .int a2]) (n := 4) (Nat.le_of_ble_eq_true rfl)
  rw [← hargs, lg_entry_eq, hargs]
  generalize (lg_sl ([.ref (A (50, i0, 0)), .int a1, .int a2]) ++ List.replicate (4 - (lg_sl ([.ref (A (50, i0, 0)), .int a1, .int a2])).length) Slot.unset).toArray = ls at hl ⊢
  have hl : lv_has ls 4 [(0, .ref (A (50, i0, 0))), (1, .int a1), (2, .int a2)] := hl
  unfold f_X8_leastNamed at h
  refine lv_iload_n hx hb dX8_leastNamed_0 rfl (lv_at hl 1 rfl) ?_
  refine lv_iconst (v := (1 : Int32)) hx hb dX8_leastNamed_1 (by decide) ?_
  refine lv_iadd hx hb dX8_leastNamed_2 ?_
  refine g_topi h (fun x1 h => ?_)
  refine lv_istore_n (lv' := [(3, .int x1), (0, .ref (A (50, i0, 0))), (1, .int a1), (2, .int a2)]) hx hb dX8_leastNamed_3 rfl hl (by decide) rfl (fun ls hl => ?_)
  have hL4 : ∀ (n : Nat) (x2 : Int32) (H : Heap) (locs : List Loc) (ls : Array Slot), gZ D (cLay N) dA (cLive N) A (gA (cLive N) A) s.heap M H locs → lv_has ls 4 [(0, .ref (A (50, i0, 0))), (1, .int a1), (2, .int a2), (3, .int x2)] → f_X8_leastNamed_L4 N M i0 a1 a2 n x2 = some y → W p l e (headSpec wmX8_leastNamed ({ frames := 2, cells := 0, slots := 0, locals := 43 } : Room)).room s m args below meth c H locs 0 0 (MQ below (cQl N D dA A (y, M)) args s 0 0 (gA (cLive N) A)) (F0 m 4 ls []) := by
    intro n
    induction n with
    | zero =>
      intro x2 H locs ls Z hl h
      rw [f_X8_leastNamed_L4] at h
      cases h
    | succ n4 ih4 =>
      intro x2 H locs ls Z hl h
      rw [f_X8_leastNamed_L4] at h
      refine lv_iload_n hx hb dX8_leastNamed_4 rfl (lv_at hl 3 rfl) ?_
      refine lv_aload_n hx hb dX8_leastNamed_5 rfl (lv_at hl 0 rfl) ?_
      refine cr_X8_catalog (a := i0) S X Z hin_X8 hi0 hl_25 dX8_leastNamed_6 ?_
      refine cn_X0_made S X Z hin_X0 (cl_one N 1 (by decide)) hl_51 dX8_leastNamed_9 h (fun v5 h => ?_)
      refine lv_icmp_gt (tgt := 46) hx hb dX8_leastNamed_12 (by decide) (fun c6 => ?_) (fun c6 => ?_)
      · have h := if_t c6 h
        refine lv_ldc2 hx hb hown hc_74 dX8_leastNamed_46 ?_
        have hy := Option.some.inj h
        subst hy
        exact g_rl S Z hr hlocks dX8_leastNamed_49
      · have h := if_f c6 h
        refine lv_aload_n hx hb dX8_leastNamed_15 rfl (lv_at hl 0 rfl) ?_
        refine lv_iload_n hx hb dX8_leastNamed_16 rfl (lv_at hl 1 rfl) ?_
        refine lv_iload_n hx hb dX8_leastNamed_17 rfl (lv_at hl 3 rfl) ?_
        obtain ⟨v8, hc7, h⟩ := o1_e h
        refine c_i X Z (c_V (i := (50, i0, 0)) (As := [.int a1, .int x2]) (rest := []) S X hN Z hi0 rfl rfl (t_X8_isThereIn l N D dA A hJ hi0 hc7) (cwV 2 hts (cGV (cB 270 rfl) (cB 271 rfl) (cB 272 rfl) (cB 44 rfl) (cB 265 rfl)) rfl rfl rfl (by decide +kernel) ⟨Nat.le_of_ble_eq_true rfl, Nat.le_of_ble_eq_true rfl⟩) rfl hl.1 rfl (Nat.le_of_ble_eq_true rfl) dX8_leastNamed_18 ⟨Nat.zero_le _, Nat.zero_le _⟩) (fun H locs Z => ?_)
        obtain ⟨J40, eJ40, h⟩ := jn_e h
        have hJ40 : ∀  (H : Heap) (locs : List Loc) (ls : Array Slot), gZ D (cLay N) dA (cLive N) A (gA (cLive N) A) s.heap M H locs → lv_has ls 4 [(0, .ref (A (50, i0, 0))), (1, .int a1), (2, .int a2), (3, .int x2)] → J40 () = some y → W p l e (headSpec wmX8_leastNamed ({ frames := 2, cells := 0, slots := 0, locals := 43 } : Room)).room s m args below meth c H locs 0 0 (MQ below (cQl N D dA A (y, M)) args s 0 0 (gA (cLive N) A)) (F0 m 40 ls []) := by
          intro  H locs ls Z hl h
          rw [eJ40] at h
          try dsimp only at h
          obtain ⟨x9, ex9, h⟩ := lt_e h
          refine lv_iinc (v := x9) (lv' := [(3, .int x9), (0, .ref (A (50, i0, 0))), (1, .int a1), (2, .int a2)]) hx hb dX8_leastNamed_40 hl (k := 3) rfl (by rw [ex9]; rfl) (by decide) rfl (fun ls hl => ?_)
          refine lv_goto (tgt := 4) hx hb dX8_leastNamed_43 (by decide) ?_
          exact ih4 x9 _ _ _ Z (lv_sub hl [1, 2, 3, 0] rfl) h
        refine lv_if_eq (tgt := 40) hx hb dX8_leastNamed_21 (by decide) (fun c10 => ?_) (fun c10 => ?_)
        · have h := if_t c10 h
          exact hJ40  _ _ _ Z (lv_sub hl [0, 1, 2, 3] rfl) h
        · have h := if_f c10 h
          refine lv_aload_n hx hb dX8_leastNamed_24 rfl (lv_at hl 0 rfl) ?_
          refine cr_X8_catalog (a := i0) S X Z hin_X8 hi0 hl_25 dX8_leastNamed_25 ?_
          refine cn_X0_name S X Z hin_X0 (cl_one N 1 (by decide)) hl_71 dX8_leastNamed_28 ?_
          refine lv_iload_n hx hb dX8_leastNamed_31 rfl (lv_at hl 3 rfl) ?_
          refine g_iald (i := (3, 0, 0)) (n := 48) S X Z (cl_one N 3 (by decide)) rfl dX8_leastNamed_32 h (fun v11 h => ?_)
          refine lv_iload_n hx hb dX8_leastNamed_33 rfl (lv_at hl 2 rfl) ?_
          refine lv_icmp_ne (tgt := 40) hx hb dX8_leastNamed_34 (by decide) (fun c12 => ?_) (fun c12 => ?_)
          · have h := if_f c12 h
            exact hJ40  _ _ _ Z (lv_sub hl [0, 1, 2, 3] rfl) h
          · have h := if_t c12 h
            refine lv_iload_n hx hb dX8_leastNamed_37 rfl (lv_at hl 3 rfl) ?_
            refine lv_i2l hx hb dX8_leastNamed_38 rfl ?_
            have hy := Option.some.inj h
            subst hy
            exact g_rl S Z hr hlocks dX8_leastNamed_39
  exact hL4 100 x1 _ _ _ Z (lv_sub hl [1, 2, 3, 0] rfl) h
-- X10_startCall (I)LReplicaFiles$Client;: 10 instructions
theorem dX10_startCall_0 : decode cX10_startCall 0 = .ok (.aload_n 0, 1) := by decide +kernel
theorem dX10_startCall_1 : decode cX10_startCall 1 = .ok (.getfield 53, 3) := by decide +kernel
theorem dX10_startCall_4 : decode cX10_startCall 4 = .ok (.iload_n 1, 1) := by decide +kernel
theorem dX10_startCall_5 : decode cX10_startCall 5 = .ok (.aaload, 1) := by decide +kernel
theorem dX10_startCall_6 : decode cX10_startCall 6 = .ok (.invokevirtual 312, 3) := by decide +kernel
theorem dX10_startCall_9 : decode cX10_startCall 9 = .ok (.aload_n 0, 1) := by decide +kernel
theorem dX10_startCall_10 : decode cX10_startCall 10 = .ok (.getfield 53, 3) := by decide +kernel
theorem dX10_startCall_13 : decode cX10_startCall 13 = .ok (.iload_n 1, 1) := by decide +kernel
theorem dX10_startCall_14 : decode cX10_startCall 14 = .ok (.aaload, 1) := by decide +kernel
theorem dX10_startCall_15 : decode cX10_startCall 15 = .ok (.areturn, 1) := by decide +kernel
abbrev wmX10_startCall : List Cond := .code yX10_startCall cX10_startCall 2 (some (.object "ReplicaFiles$Client")) :: cBig
def f_X10_startCall (N : Nat) (M : gM) (a1 : Int32) : Option (Nat × gM) :=
  ix a1 4 (fun v1 => o1 (f_X1_startCall N M v1) (fun M3 => ix a1 4 (fun v4 => some (v4, M3))))
set_option maxHeartbeats 4000000 in
set_option maxRecDepth 100000 in
theorem t_X10_startCall (l : Launch) (N : Nat) (D : va_G) (dA : Nat → ClassId) (A : gI → Nat) (hJ : gJ (cLive N) A) {M : gM} {a1 : Int32}  {y : (Nat × gM)} (h : f_X10_startCall N M a1 = some y) : cMr l yX10_startCall wmX10_startCall ({ frames := 1, cells := 0, slots := 0, locals := 20 } : Room) N D dA A [.ref (A (0, 0, 0)), .int a1] M y.1 y.2 := by
  refine Met.ofW (cc := cX10_startCall) (maxL := 2) (ret := (some (.object "ReplicaFiles$Client"))) (by decide) rfl ?_
  intro p e s m args below meth c s₁ B hml hv
  obtain ⟨rfl, hP, hK, hN⟩ := hv
  generalize hargs : ([.ref (A (0, 0, 0)), .int a1] : List Value).toArray = args at B ⊢
  have S : CallFix p m c cX10_startCall 2 s args wmX10_startCall RX10 := ⟨B.exec, B.bytes, hml, findClass_of_methodNamed B.named, atoms_spec (ws := wmX10_startCall) B.pre⟩
  obtain ⟨hx, hb, -, hown, hts⟩ := id S
  have hr := B.returns
  have hlocks := B.notSynchronized
  have X : gX D vwCl dA (cLive N) A (gA (cLive N) A) s := ⟨hK, hJ, fun i hi => ⟨i, hi, rfl⟩⟩
  have Z : gZ D (cLay N) dA (cLive N) A (gA (cLive N) A) s.heap M s.heap [] := ⟨hP, va_S.rf⟩
  have hin_X10 : ∀ w ∈ wsX100, w ∈ wmX10_startCall := cin_X10
  have hl_53 := hts (.fieldLink RX10 53 "ReplicaFiles" "clients" "[LReplicaFiles$Client;") (cBc 541 rfl)
  have hl := lv_entry ([.ref (A (0, 0, 0)), .int a1]) (n := 2) (Nat.le_of_ble_eq_true rfl)
  rw [← hargs, lg_entry_eq, hargs]
  generalize (lg_sl ([.ref (A (0, 0, 0)), .int a1]) ++ List.replicate (2 - (lg_sl ([.ref (A (0, 0, 0)), .int a1])).length) Slot.unset).toArray = ls at hl ⊢
  have hl : lv_has ls 2 [(0, .ref (A (0, 0, 0))), (1, .int a1)] := hl
  unfold f_X10_startCall at h
  refine lv_aload_n hx hb dX10_startCall_0 rfl (lv_at hl 0 rfl) ?_
  refine cr_X10_clients S X Z hin_X10 (cl_one N 0 (by decide)) hl_53 dX10_startCall_1 ?_
  refine lv_iload_n hx hb dX10_startCall_4 rfl (lv_at hl 1 rfl) ?_
  refine g_aald (i := (8, 0, 0)) (ca := 3) ⟨rfl, rfl⟩ S X Z (cl_one N 8 (by decide)) rfl dX10_startCall_5 h (fun v1 hv1 h => ?_)
  obtain ⟨M3, hc2, h⟩ := o1_e h
  refine c_v X Z (c_V (i := (30, v1, 0)) (As := []) (rest := []) S X hN Z (cl_cli hv1) rfl rfl (t_X1_startCall l N D dA A hJ (cl_cli hv1) hc2) (cwV 0 hts (cGV (cB 598 rfl) (cB 599 rfl) (cB 600 rfl) (cB 64 rfl) (cB 55 rfl)) rfl rfl rfl (by decide +kernel) ⟨Nat.le_of_ble_eq_true rfl, Nat.le_of_ble_eq_true rfl⟩) rfl hl.1 rfl (Nat.le_of_ble_eq_true rfl) dX10_startCall_6 ⟨Nat.zero_le _, Nat.zero_le _⟩) (fun H locs Z => ?_)
  refine lv_aload_n hx hb dX10_startCall_9 rfl (lv_at hl 0 rfl) ?_
  refine cr_X10_clients S X Z hin_X10 (cl_one N 0 (by decide)) hl_53 dX10_startCall_10 ?_
  refine lv_iload_n hx hb dX10_startCall_13 rfl (lv_at hl 1 rfl) ?_
  refine g_aald (i := (8, 0, 0)) (ca := 3) ⟨rfl, rfl⟩ S X Z (cl_one N 8 (by decide)) rfl dX10_startCall_14 h (fun v4 hv4 h => ?_)
  have hy := Option.some.inj h
  subst hy
  exact c_rr S Z hr hlocks dX10_startCall_15
-- X10_isAlone (LReplicaFiles$Client;)Z: 14 instructions
theorem dX10_isAlone_0 : decode cX10_isAlone 0 = .ok (.aload_n 1, 1) := by decide +kernel
theorem dX10_isAlone_1 : decode cX10_isAlone 1 = .ok (.getfield 195, 3) := by decide +kernel
theorem dX10_isAlone_4 : decode cX10_isAlone 4 = .ok (.getfield 199, 3) := by decide +kernel
theorem dX10_isAlone_7 : decode cX10_isAlone 7 = .ok (.ifCond .gt 17, 3) := by decide +kernel
theorem dX10_isAlone_10 : decode cX10_isAlone 10 = .ok (.aload_n 0, 1) := by decide +kernel
theorem dX10_isAlone_11 : decode cX10_isAlone 11 = .ok (.getfield 34, 3) := by decide +kernel
theorem dX10_isAlone_14 : decode cX10_isAlone 14 = .ok (.aload_n 1, 1) := by decide +kernel
theorem dX10_isAlone_15 : decode cX10_isAlone 15 = .ok (.getfield 314, 3) := by decide +kernel
theorem dX10_isAlone_18 : decode cX10_isAlone 18 = .ok (.invokevirtual 190, 3) := by decide +kernel
theorem dX10_isAlone_21 : decode cX10_isAlone 21 = .ok (.ifCond .ne 7, 3) := by decide +kernel
theorem dX10_isAlone_24 : decode cX10_isAlone 24 = .ok (.iconst 1, 1) := by decide +kernel
theorem dX10_isAlone_25 : decode cX10_isAlone 25 = .ok (.goto 4, 3) := by decide +kernel
theorem dX10_isAlone_28 : decode cX10_isAlone 28 = .ok (.iconst 0, 1) := by decide +kernel
theorem dX10_isAlone_29 : decode cX10_isAlone 29 = .ok (.ireturn, 1) := by decide +kernel
abbrev wmX10_isAlone : List Cond := .code yX10_isAlone cX10_isAlone 2 (some .boolean) :: cBig
def f_X10_isAlone (N : Nat) (M : gM) (i1 : Nat) : Option Int32 :=
  lt (M (40, i1, 0) 4) (fun v1 => (if 0 < v1 then some (1 : Int32) else lt (M (30, i1, 0) 0) (fun v3 => o1 (f_X5_nearClient N M v3) (fun v5 => (if v5 = 0 then some (1 : Int32) else some (0 : Int32))))))
set_option maxHeartbeats 4000000 in
set_option maxRecDepth 100000 in
theorem t_X10_isAlone (l : Launch) (N : Nat) (D : va_G) (dA : Nat → ClassId) (A : gI → Nat) (hJ : gJ (cLive N) A) {M : gM} {i1 : Nat} (hi1 : cLive N (30, i1, 0)) {y : Int32} (h : f_X10_isAlone N M i1 = some y) : cMi l yX10_isAlone wmX10_isAlone ({ frames := 3, cells := 0, slots := 0, locals := 65 } : Room) N D dA A [.ref (A (0, 0, 0)), .ref (A (30, i1, 0))] M y M := by
  refine Met.ofW (cc := cX10_isAlone) (maxL := 2) (ret := (some .boolean)) (by decide) rfl ?_
  intro p e s m args below meth c s₁ B hml hv
  obtain ⟨rfl, hP, hK, hN⟩ := hv
  generalize hargs : ([.ref (A (0, 0, 0)), .ref (A (30, i1, 0))] : List Value).toArray = args at B ⊢
  have S : CallFix p m c cX10_isAlone 2 s args wmX10_isAlone RX10 := ⟨B.exec, B.bytes, hml, findClass_of_methodNamed B.named, atoms_spec (ws := wmX10_isAlone) B.pre⟩
  obtain ⟨hx, hb, -, hown, hts⟩ := id S
  have hr := B.returns
  have hlocks := B.notSynchronized
  have X : gX D vwCl dA (cLive N) A (gA (cLive N) A) s := ⟨hK, hJ, fun i hi => ⟨i, hi, rfl⟩⟩
  have Z : gZ D (cLay N) dA (cLive N) A (gA (cLive N) A) s.heap M s.heap [] := ⟨hP, va_S.rf⟩
  have hin_X1 : ∀ w ∈ wsX10, w ∈ wmX10_isAlone := cin_X1
  have hin_X10 : ∀ w ∈ wsX100, w ∈ wmX10_isAlone := cin_X10
  have hin_X3 : ∀ w ∈ wsX30, w ∈ wmX10_isAlone := cin_X3
  have hl_34 := hts (.fieldLink RX10 34 "ReplicaFiles" "net" "LReplicaFiles$Net;") (cBc 535 rfl)
  have hl_195 := va_Nw.use (A := args) rfl (hN.1 ("ReplicaFiles", 195, "ReplicaFiles$Client", "log", "LReplicaFiles$Log;", "ReplicaFiles") (by decide +kernel))
  have hl_199 := va_Nw.use (A := args) rfl (hN.1 ("ReplicaFiles", 199, "ReplicaFiles$Log", "length", "I", "ReplicaFiles") (by decide +kernel))
  have hl_314 := va_Nw.use (A := args) rfl (hN.1 ("ReplicaFiles", 314, "ReplicaFiles$Client", "number", "I", "ReplicaFiles") (by decide +kernel))
  have hl := lv_entry ([.ref (A (0, 0, 0)), .ref (A (30, i1, 0))]) (n := 2) (Nat.le_of_ble_eq_true rfl)
  rw [← hargs, lg_entry_eq, hargs]
  generalize (lg_sl ([.ref (A (0, 0, 0)), .ref (A (30, i1, 0))]) ++ List.replicate (2 - (lg_sl ([.ref (A (0, 0, 0)), .ref (A (30, i1, 0))])).length) Slot.unset).toArray = ls at hl ⊢
  have hl : lv_has ls 2 [(0, .ref (A (0, 0, 0))), (1, .ref (A (30, i1, 0)))] := hl
  unfold f_X10_isAlone at h
  refine lv_aload_n hx hb dX10_isAlone_0 rfl (lv_at hl 1 rfl) ?_
  refine cn_X1_log (a := i1) S X Z hin_X1 hi1 hl_195 dX10_isAlone_1 ?_
  refine cn_X3_length (a := i1) S X Z hin_X3 (cl_X1_log hi1) hl_199 dX10_isAlone_4 h (fun v1 h => ?_)
  refine lv_if_gt (tgt := 24) hx hb dX10_isAlone_7 (by decide) (fun c2 => ?_) (fun c2 => ?_)
  · have h := if_t c2 h
    refine lv_iconst (v := (1 : Int32)) hx hb dX10_isAlone_24 (by decide) ?_
    refine lv_goto (tgt := 29) hx hb dX10_isAlone_25 (by decide) ?_
    have hy := Option.some.inj h
    subst hy
    exact g_rz (Or.inr rfl) S Z hr hlocks dX10_isAlone_29
  · have h := if_f c2 h
    refine lv_aload_n hx hb dX10_isAlone_10 rfl (lv_at hl 0 rfl) ?_
    refine cr_X10_net S X Z hin_X10 (cl_one N 0 (by decide)) hl_34 dX10_isAlone_11 ?_
    refine lv_aload_n hx hb dX10_isAlone_14 rfl (lv_at hl 1 rfl) ?_
    refine cn_X1_number (a := i1) S X Z hin_X1 hi1 hl_314 dX10_isAlone_15 h (fun v3 h => ?_)
    obtain ⟨v5, hc4, h⟩ := o1_e h
    refine c_i X Z (c_V (i := (5, 0, 0)) (As := [.int v3]) (rest := []) S X hN Z (cl_one N 5 (by decide)) rfl rfl (t_X5_nearClient l N D dA A hJ  hc4) (cwV 1 hts (cGV (cB 606 rfl) (cB 607 rfl) (cB 608 rfl) (cB 485 rfl) (cB 492 rfl)) rfl rfl rfl (by decide +kernel) ⟨Nat.le_of_ble_eq_true rfl, Nat.le_of_ble_eq_true rfl⟩) rfl hl.1 rfl (Nat.le_of_ble_eq_true rfl) dX10_isAlone_18 ⟨Nat.zero_le _, Nat.zero_le _⟩) (fun H locs Z => ?_)
    refine lv_if_ne (tgt := 28) hx hb dX10_isAlone_21 (by decide) (fun c6 => ?_) (fun c6 => ?_)
    · have h := if_f c6 h
      refine lv_iconst (v := (0 : Int32)) hx hb dX10_isAlone_28 (by decide) ?_
      have hy := Option.some.inj h
      subst hy
      exact g_rz (Or.inl rfl) S Z hr hlocks dX10_isAlone_29
    · have h := if_t c6 h
      refine lv_iconst (v := (1 : Int32)) hx hb dX10_isAlone_24 (by decide) ?_
      refine lv_goto (tgt := 29) hx hb dX10_isAlone_25 (by decide) ?_
      have hy := Option.some.inj h
      subst hy
      exact g_rz (Or.inr rfl) S Z hr hlocks dX10_isAlone_29
-- X10_stopOfKind (IZ)J: 18 instructions
theorem dX10_stopOfKind_0 : decode cX10_stopOfKind 0 = .ok (.aload_n 0, 1) := by decide +kernel
theorem dX10_stopOfKind_1 : decode cX10_stopOfKind 1 = .ok (.getfield 25, 3) := by decide +kernel
theorem dX10_stopOfKind_4 : decode cX10_stopOfKind 4 = .ok (.iload_n 1, 1) := by decide +kernel
theorem dX10_stopOfKind_5 : decode cX10_stopOfKind 5 = .ok (.invokevirtual 317, 3) := by decide +kernel
theorem dX10_stopOfKind_8 : decode cX10_stopOfKind 8 = .ok (.ifCond .ne 7, 3) := by decide +kernel
theorem dX10_stopOfKind_11 : decode cX10_stopOfKind 11 = .ok (.ldc2_w 174, 3) := by decide +kernel
theorem dX10_stopOfKind_14 : decode cX10_stopOfKind 14 = .ok (.lreturn, 1) := by decide +kernel
theorem dX10_stopOfKind_15 : decode cX10_stopOfKind 15 = .ok (.aload_n 0, 1) := by decide +kernel
theorem dX10_stopOfKind_16 : decode cX10_stopOfKind 16 = .ok (.getfield 25, 3) := by decide +kernel
theorem dX10_stopOfKind_19 : decode cX10_stopOfKind 19 = .ok (.getfield 275, 3) := by decide +kernel
theorem dX10_stopOfKind_22 : decode cX10_stopOfKind 22 = .ok (.iload_n 1, 1) := by decide +kernel
theorem dX10_stopOfKind_23 : decode cX10_stopOfKind 23 = .ok (.baload, 1) := by decide +kernel
theorem dX10_stopOfKind_24 : decode cX10_stopOfKind 24 = .ok (.iload_n 2, 1) := by decide +kernel
theorem dX10_stopOfKind_25 : decode cX10_stopOfKind 25 = .ok (.if_icmp .ne 7, 3) := by decide +kernel
theorem dX10_stopOfKind_28 : decode cX10_stopOfKind 28 = .ok (.lconst 0, 1) := by decide +kernel
theorem dX10_stopOfKind_29 : decode cX10_stopOfKind 29 = .ok (.goto 6, 3) := by decide +kernel
theorem dX10_stopOfKind_32 : decode cX10_stopOfKind 32 = .ok (.ldc2_w 320, 3) := by decide +kernel
theorem dX10_stopOfKind_35 : decode cX10_stopOfKind 35 = .ok (.lreturn, 1) := by decide +kernel
abbrev wmX10_stopOfKind : List Cond := .code yX10_stopOfKind cX10_stopOfKind 3 (some .long) :: cBig
def f_X10_stopOfKind (N : Nat) (M : gM) (a1 : Int32) (a2 : Int32) : Option Int64 :=
  o1 (f_X0_isMade N M a1) (fun v2 => (if v2 = 0 then some (-2199023255552 : Int64) else rd M (4, 0, 0) 48 a1 (fun v4 => (if v4 = a2 then some (0 : Int64) else some (-2199023255559 : Int64)))))
set_option maxHeartbeats 4000000 in
set_option maxRecDepth 100000 in
theorem t_X10_stopOfKind (l : Launch) (N : Nat) (D : va_G) (dA : Nat → ClassId) (A : gI → Nat) (hJ : gJ (cLive N) A) {M : gM} {a1 : Int32} {a2 : Int32}  {y : Int64} (h : f_X10_stopOfKind N M a1 a2 = some y) : cMl l yX10_stopOfKind wmX10_stopOfKind ({ frames := 1, cells := 0, slots := 0, locals := 21 } : Room) N D dA A [.ref (A (0, 0, 0)), .int a1, .int a2] M y M := by
  refine Met.ofW (cc := cX10_stopOfKind) (maxL := 3) (ret := (some .long)) (by decide) rfl ?_
  intro p e s m args below meth c s₁ B hml hv
  obtain ⟨rfl, hP, hK, hN⟩ := hv
  generalize hargs : ([.ref (A (0, 0, 0)), .int a1, .int a2] : List Value).toArray = args at B ⊢
  have S : CallFix p m c cX10_stopOfKind 3 s args wmX10_stopOfKind RX10 := ⟨B.exec, B.bytes, hml, findClass_of_methodNamed B.named, atoms_spec (ws := wmX10_stopOfKind) B.pre⟩
  obtain ⟨hx, hb, -, hown, hts⟩ := id S
  have hr := B.returns
  have hlocks := B.notSynchronized
  have X : gX D vwCl dA (cLive N) A (gA (cLive N) A) s := ⟨hK, hJ, fun i hi => ⟨i, hi, rfl⟩⟩
  have Z : gZ D (cLay N) dA (cLive N) A (gA (cLive N) A) s.heap M s.heap [] := ⟨hP, va_S.rf⟩
  have hin_X0 : ∀ w ∈ wsX00, w ∈ wmX10_stopOfKind := cin_X0
  have hin_X10 : ∀ w ∈ wsX100, w ∈ wmX10_stopOfKind := cin_X10
  have hl_25 := hts (.fieldLink RX10 25 "ReplicaFiles" "catalog" "LReplicaFiles$Catalog;") (cBc 532 rfl)
  have hl_275 := va_Nw.use (A := args) rfl (hN.1 ("ReplicaFiles", 275, "ReplicaFiles$Catalog", "isDirectory", "[Z", "ReplicaFiles") (by decide +kernel))
  have hc_174 := hts (.constantLong RX10 174 (-2199023255552)) (cBc 602 rfl)
  have hc_320 := hts (.constantLong RX10 320 (-2199023255559)) (cBc 603 rfl)
  have hl := lv_entry ([.ref (A (0, 0, 0)), .int a1, .int a2]) (n := 3) (Nat.le_of_ble_eq_true rfl)
  rw [← hargs, lg_entry_eq, hargs]
  generalize (lg_sl ([.ref (A (0, 0, 0)), .int a1, .int a2]) ++ List.replicate (3 - (lg_sl ([.ref (A (0, 0, 0)), .int a1, .int a2])).length) Slot.unset).toArray = ls at hl ⊢
  have hl : lv_has ls 3 [(0, .ref (A (0, 0, 0))), (1, .int a1), (2, .int a2)] := hl
  unfold f_X10_stopOfKind at h
  refine lv_aload_n hx hb dX10_stopOfKind_0 rfl (lv_at hl 0 rfl) ?_
  refine cr_X10_catalog S X Z hin_X10 (cl_one N 0 (by decide)) hl_25 dX10_stopOfKind_1 ?_
  refine lv_iload_n hx hb dX10_stopOfKind_4 rfl (lv_at hl 1 rfl) ?_
  obtain ⟨v2, hc1, h⟩ := o1_e h
  refine c_i X Z (c_V (i := (1, 0, 0)) (As := [.int a1]) (rest := []) S X hN Z (cl_one N 1 (by decide)) rfl rfl (t_X0_isMade l N D dA A hJ  hc1) (cwV 1 hts (cGV (cB 604 rfl) (cB 267 rfl) (cB 268 rfl) (cB 16 rfl) (cB 9 rfl)) rfl rfl rfl (by decide +kernel) ⟨Nat.le_of_ble_eq_true rfl, Nat.le_of_ble_eq_true rfl⟩) rfl hl.1 rfl (Nat.le_of_ble_eq_true rfl) dX10_stopOfKind_5 ⟨Nat.zero_le _, Nat.zero_le _⟩) (fun H locs Z => ?_)
  refine lv_if_ne (tgt := 15) hx hb dX10_stopOfKind_8 (by decide) (fun c3 => ?_) (fun c3 => ?_)
  · have h := if_f c3 h
    refine lv_aload_n hx hb dX10_stopOfKind_15 rfl (lv_at hl 0 rfl) ?_
    refine cr_X10_catalog S X Z hin_X10 (cl_one N 0 (by decide)) hl_25 dX10_stopOfKind_16 ?_
    refine cn_X0_isDirectory S X Z hin_X0 (cl_one N 1 (by decide)) hl_275 dX10_stopOfKind_19 ?_
    refine lv_iload_n hx hb dX10_stopOfKind_22 rfl (lv_at hl 1 rfl) ?_
    refine g_zald (i := (4, 0, 0)) (n := 48) S X Z (cl_one N 4 (by decide)) rfl dX10_stopOfKind_23 h (fun v4 h => ?_)
    refine lv_iload_n hx hb dX10_stopOfKind_24 rfl (lv_at hl 2 rfl) ?_
    refine lv_icmp_ne (tgt := 32) hx hb dX10_stopOfKind_25 (by decide) (fun c5 => ?_) (fun c5 => ?_)
    · have h := if_f c5 h
      refine lv_ldc2 hx hb hown hc_320 dX10_stopOfKind_32 ?_
      have hy := Option.some.inj h
      subst hy
      exact g_rl S Z hr hlocks dX10_stopOfKind_35
    · have h := if_t c5 h
      refine lv_lconst (v := (0 : Int64)) hx hb dX10_stopOfKind_28 (by decide) ?_
      refine lv_goto (tgt := 35) hx hb dX10_stopOfKind_29 (by decide) ?_
      have hy := Option.some.inj h
      subst hy
      exact g_rl S Z hr hlocks dX10_stopOfKind_35
  · have h := if_t c3 h
    refine lv_ldc2 hx hb hown hc_174 dX10_stopOfKind_11 ?_
    have hy := Option.some.inj h
    subst hy
    exact g_rl S Z hr hlocks dX10_stopOfKind_14
