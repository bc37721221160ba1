-- X0_isMade (I)Z: 8 instructions
theorem dX0_isMade_0 : decode cX0_isMade 0 = .ok (.iload_n 1, 1) := by decide +kernel
theorem dX0_isMade_1 : decode cX0_isMade 1 = .ok (.aload_n 0, 1) := by decide +kernel
theorem dX0_isMade_2 : decode cX0_isMade 2 = .ok (.getfield 22, 3) := by decide +kernel
theorem dX0_isMade_5 : decode cX0_isMade 5 = .ok (.if_icmp .gt 7, 3) := by decide +kernel
theorem dX0_isMade_8 : decode cX0_isMade 8 = .ok (.iconst 1, 1) := by decide +kernel
theorem dX0_isMade_9 : decode cX0_isMade 9 = .ok (.goto 4, 3) := by decide +kernel
theorem dX0_isMade_12 : decode cX0_isMade 12 = .ok (.iconst 0, 1) := by decide +kernel
theorem dX0_isMade_13 : decode cX0_isMade 13 = .ok (.ireturn, 1) := by decide +kernel
abbrev wmX0_isMade : List Cond := .code yX0_isMade cX0_isMade 2 (some .boolean) :: cBig
def f_X0_isMade (N : Nat) (M : gM) (a1 : Int32) : Option Int32 :=
  lt (M (1, 0, 0) 3) (fun v1 => (if v1 < a1 then some (0 : Int32) else some (1 : Int32)))
set_option maxHeartbeats 4000000 in
set_option maxRecDepth 100000 in
theorem t_X0_isMade (l : Launch) (N : Nat) (D : va_G) (dA : Nat → ClassId) (A : gI → Nat) (hJ : gJ (cLive N) A) {M : gM} {a1 : Int32}  {y : Int32} (h : f_X0_isMade N M a1 = some y) : cMi l yX0_isMade wmX0_isMade ({ frames := 0, cells := 0, slots := 0, locals := 0 } : Room) N D dA A [.ref (A (1, 0, 0)), .int a1] M y M := by
  refine Met.ofW (cc := cX0_isMade) (maxL := 2) (ret := (some .boolean)) (by decide) rfl ?_
  intro p e s m args below meth c s₁ B hml hv
  obtain ⟨rfl, hP, hK, hN⟩ := hv
  generalize hargs : ([.ref (A (1, 0, 0)), .int a1] : List Value).toArray = args at B ⊢
  have S : CallFix p m c cX0_isMade 2 s args wmX0_isMade RX0 := ⟨B.exec, B.bytes, hml, findClass_of_methodNamed B.named, atoms_spec (ws := wmX0_isMade) B.pre⟩
  obtain ⟨hx, hb, -, hown, hts⟩ := id S
  have hr := B.returns
  have hlocks := B.notSynchronized
  have X : gX D vwCl dA (cLive N) A (gA (cLive N) A) s := ⟨hK, hJ, fun i hi => ⟨i, hi, rfl⟩⟩
  have Z : gZ D (cLay N) dA (cLive N) A (gA (cLive N) A) s.heap M s.heap [] := ⟨hP, va_S.rf⟩
  have hin_X0 : ∀ w ∈ wsX00, w ∈ wmX0_isMade := cin_X0
  have hl_22 := hts (.fieldLink RX0 22 "ReplicaFiles$Catalog" "made" "I") (cBc 10 rfl)
  have hl := lv_entry ([.ref (A (1, 0, 0)), .int a1]) (n := 2) (Nat.le_of_ble_eq_true rfl)
  rw [← hargs, lg_entry_eq, hargs]
  generalize (lg_sl ([.ref (A (1, 0, 0)), .int a1]) ++ List.replicate (2 - (lg_sl ([.ref (A (1, 0, 0)), .int a1])).length) Slot.unset).toArray = ls at hl ⊢
  have hl : lv_has ls 2 [(0, .ref (A (1, 0, 0))), (1, .int a1)] := hl
  unfold f_X0_isMade at h
  refine lv_iload_n hx hb dX0_isMade_0 rfl (lv_at hl 1 rfl) ?_
  refine lv_aload_n hx hb dX0_isMade_1 rfl (lv_at hl 0 rfl) ?_
  refine cr_X0_made S X Z hin_X0 (cl_one N 1 (by decide)) hl_22 dX0_isMade_2 h (fun v1 h => ?_)
  refine lv_icmp_gt (tgt := 12) hx hb dX0_isMade_5 (by decide) (fun c2 => ?_) (fun c2 => ?_)
  · have h := if_t c2 h
    refine lv_iconst (v := (0 : Int32)) hx hb dX0_isMade_12 (by decide) ?_
    have hy := Option.some.inj h
    subst hy
    exact g_rz (Or.inl rfl) S Z hr hlocks dX0_isMade_13
  · have h := if_f c2 h
    refine lv_iconst (v := (1 : Int32)) hx hb dX0_isMade_8 (by decide) ?_
    refine lv_goto (tgt := 13) hx hb dX0_isMade_9 (by decide) ?_
    have hy := Option.some.inj h
    subst hy
    exact g_rz (Or.inr rfl) S Z hr hlocks dX0_isMade_13
-- X0_isFull ()Z: 8 instructions
theorem dX0_isFull_0 : decode cX0_isFull 0 = .ok (.aload_n 0, 1) := by decide +kernel
theorem dX0_isFull_1 : decode cX0_isFull 1 = .ok (.getfield 22, 3) := by decide +kernel
theorem dX0_isFull_4 : decode cX0_isFull 4 = .ok (.bipush 47, 2) := by decide +kernel
theorem dX0_isFull_6 : decode cX0_isFull 6 = .ok (.if_icmp .lt 7, 3) := by decide +kernel
theorem dX0_isFull_9 : decode cX0_isFull 9 = .ok (.iconst 1, 1) := by decide +kernel
theorem dX0_isFull_10 : decode cX0_isFull 10 = .ok (.goto 4, 3) := by decide +kernel
theorem dX0_isFull_13 : decode cX0_isFull 13 = .ok (.iconst 0, 1) := by decide +kernel
theorem dX0_isFull_14 : decode cX0_isFull 14 = .ok (.ireturn, 1) := by decide +kernel
abbrev wmX0_isFull : List Cond := .code yX0_isFull cX0_isFull 1 (some .boolean) :: cBig
def f_X0_isFull (N : Nat) (M : gM)  : Option Int32 :=
  lt (M (1, 0, 0) 3) (fun v1 => (if v1 < (47 : Int32) then some (0 : Int32) else some (1 : Int32)))
set_option maxHeartbeats 4000000 in
set_option maxRecDepth 100000 in
theorem t_X0_isFull (l : Launch) (N : Nat) (D : va_G) (dA : Nat → ClassId) (A : gI → Nat) (hJ : gJ (cLive N) A) {M : gM}   {y : Int32} (h : f_X0_isFull N M = some y) : cMi l yX0_isFull wmX0_isFull ({ frames := 0, cells := 0, slots := 0, locals := 0 } : Room) N D dA A [.ref (A (1, 0, 0))] M y M := by
  refine Met.ofW (cc := cX0_isFull) (maxL := 1) (ret := (some .boolean)) (by decide) rfl ?_
  intro p e s m args below meth c s₁ B hml hv
  obtain ⟨rfl, hP, hK, hN⟩ := hv
  generalize hargs : ([.ref (A (1, 0, 0))] : List Value).toArray = args at B ⊢
  have S : CallFix p m c cX0_isFull 1 s args wmX0_isFull RX0 := ⟨B.exec, B.bytes, hml, findClass_of_methodNamed B.named, atoms_spec (ws := wmX0_isFull) B.pre⟩
  obtain ⟨hx, hb, -, hown, hts⟩ := id S
  have hr := B.returns
  have hlocks := B.notSynchronized
  have X : gX D vwCl dA (cLive N) A (gA (cLive N) A) s := ⟨hK, hJ, fun i hi => ⟨i, hi, rfl⟩⟩
  have Z : gZ D (cLay N) dA (cLive N) A (gA (cLive N) A) s.heap M s.heap [] := ⟨hP, va_S.rf⟩
  have hin_X0 : ∀ w ∈ wsX00, w ∈ wmX0_isFull := cin_X0
  have hl_22 := hts (.fieldLink RX0 22 "ReplicaFiles$Catalog" "made" "I") (cBc 10 rfl)
  have hl := lv_entry ([.ref (A (1, 0, 0))]) (n := 1) (Nat.le_of_ble_eq_true rfl)
  rw [← hargs, lg_entry_eq, hargs]
  generalize (lg_sl ([.ref (A (1, 0, 0))]) ++ List.replicate (1 - (lg_sl ([.ref (A (1, 0, 0))])).length) Slot.unset).toArray = ls at hl ⊢
  have hl : lv_has ls 1 [(0, .ref (A (1, 0, 0)))] := hl
  unfold f_X0_isFull at h
  refine lv_aload_n hx hb dX0_isFull_0 rfl (lv_at hl 0 rfl) ?_
  refine cr_X0_made S X Z hin_X0 (cl_one N 1 (by decide)) hl_22 dX0_isFull_1 h (fun v1 h => ?_)
  refine lv_bipush (v := (47 : Int32)) hx hb dX0_isFull_4 (by decide) ?_
  refine lv_icmp_lt (tgt := 13) hx hb dX0_isFull_6 (by decide) (fun c2 => ?_) (fun c2 => ?_)
  · have h := if_t c2 h
    refine lv_iconst (v := (0 : Int32)) hx hb dX0_isFull_13 (by decide) ?_
    have hy := Option.some.inj h
    subst hy
    exact g_rz (Or.inl rfl) S Z hr hlocks dX0_isFull_14
  · have h := if_f c2 h
    refine lv_iconst (v := (1 : Int32)) hx hb dX0_isFull_9 (by decide) ?_
    refine lv_goto (tgt := 14) hx hb dX0_isFull_10 (by decide) ?_
    have hy := Option.some.inj h
    subst hy
    exact g_rz (Or.inr rfl) S Z hr hlocks dX0_isFull_14
-- X0_enter (IIZ)I: 32 instructions
theorem dX0_enter_0 : decode cX0_enter 0 = .ok (.aload_n 0, 1) := by decide +kernel
theorem dX0_enter_1 : decode cX0_enter 1 = .ok (.invokevirtual 26, 3) := by decide +kernel
theorem dX0_enter_4 : decode cX0_enter 4 = .ok (.ifCond .eq 5, 3) := by decide +kernel
theorem dX0_enter_7 : decode cX0_enter 7 = .ok (.iconst (-1), 1) := by decide +kernel
theorem dX0_enter_8 : decode cX0_enter 8 = .ok (.ireturn, 1) := by decide +kernel
theorem dX0_enter_9 : decode cX0_enter 9 = .ok (.aload_n 0, 1) := by decide +kernel
theorem dX0_enter_10 : decode cX0_enter 10 = .ok (.dup, 1) := by decide +kernel
theorem dX0_enter_11 : decode cX0_enter 11 = .ok (.getfield 22, 3) := by decide +kernel
theorem dX0_enter_14 : decode cX0_enter 14 = .ok (.iconst 1, 1) := by decide +kernel
theorem dX0_enter_15 : decode cX0_enter 15 = .ok (.iadd, 1) := by decide +kernel
theorem dX0_enter_16 : decode cX0_enter 16 = .ok (.putfield 22, 3) := by decide +kernel
theorem dX0_enter_19 : decode cX0_enter 19 = .ok (.aload_n 0, 1) := by decide +kernel
theorem dX0_enter_20 : decode cX0_enter 20 = .ok (.getfield 9, 3) := by decide +kernel
theorem dX0_enter_23 : decode cX0_enter 23 = .ok (.aload_n 0, 1) := by decide +kernel
theorem dX0_enter_24 : decode cX0_enter 24 = .ok (.getfield 22, 3) := by decide +kernel
theorem dX0_enter_27 : decode cX0_enter 27 = .ok (.iload_n 1, 1) := by decide +kernel
theorem dX0_enter_28 : decode cX0_enter 28 = .ok (.iastore, 1) := by decide +kernel
theorem dX0_enter_29 : decode cX0_enter 29 = .ok (.aload_n 0, 1) := by decide +kernel
theorem dX0_enter_30 : decode cX0_enter 30 = .ok (.getfield 15, 3) := by decide +kernel
theorem dX0_enter_33 : decode cX0_enter 33 = .ok (.aload_n 0, 1) := by decide +kernel
theorem dX0_enter_34 : decode cX0_enter 34 = .ok (.getfield 22, 3) := by decide +kernel
theorem dX0_enter_37 : decode cX0_enter 37 = .ok (.iload_n 2, 1) := by decide +kernel
theorem dX0_enter_38 : decode cX0_enter 38 = .ok (.iastore, 1) := by decide +kernel
theorem dX0_enter_39 : decode cX0_enter 39 = .ok (.aload_n 0, 1) := by decide +kernel
theorem dX0_enter_40 : decode cX0_enter 40 = .ok (.getfield 18, 3) := by decide +kernel
theorem dX0_enter_43 : decode cX0_enter 43 = .ok (.aload_n 0, 1) := by decide +kernel
theorem dX0_enter_44 : decode cX0_enter 44 = .ok (.getfield 22, 3) := by decide +kernel
theorem dX0_enter_47 : decode cX0_enter 47 = .ok (.iload_n 3, 1) := by decide +kernel
theorem dX0_enter_48 : decode cX0_enter 48 = .ok (.bastore, 1) := by decide +kernel
theorem dX0_enter_49 : decode cX0_enter 49 = .ok (.aload_n 0, 1) := by decide +kernel
theorem dX0_enter_50 : decode cX0_enter 50 = .ok (.getfield 22, 3) := by decide +kernel
theorem dX0_enter_53 : decode cX0_enter 53 = .ok (.ireturn, 1) := by decide +kernel
abbrev wmX0_enter : List Cond := .code yX0_enter cX0_enter 4 (some .int) :: cBig
def f_X0_enter (N : Nat) (M : gM) (a1 : Int32) (a2 : Int32) (a3 : Int32) : Option (Int32 × gM) :=
  o1 (f_X0_isFull N M ) (fun v2 => (if v2 = 0 then lt (M (1, 0, 0) 3) (fun v4 => lt (gset M (1, 0, 0) 3 (v4 + (1 : Int32))) (fun M5 => lt (M5 (1, 0, 0) 3) (fun v6 => wr M5 (2, 0, 0) 48 v6 a1 (fun M7 => lt (M7 (1, 0, 0) 3) (fun v8 => wr M7 (3, 0, 0) 48 v8 a2 (fun M9 => lt (M9 (1, 0, 0) 3) (fun v10 => wz M9 (4, 0, 0) 48 v10 a3 (fun M11 => lt (M11 (1, 0, 0) 3) (fun v12 => some (v12, M11)))))))))) else some ((-1 : Int32), M)))
set_option maxHeartbeats 4000000 in
set_option maxRecDepth 100000 in
theorem t_X0_enter (l : Launch) (N : Nat) (D : va_G) (dA : Nat → ClassId) (A : gI → Nat) (hJ : gJ (cLive N) A) {M : gM} {a1 : Int32} {a2 : Int32} {a3 : Int32}  {y : (Int32 × gM)} (h : f_X0_enter N M a1 a2 a3 = some y) : cMi l yX0_enter wmX0_enter ({ frames := 1, cells := 0, slots := 0, locals := 20 } : Room) N D dA A [.ref (A (1, 0, 0)), .int a1, .int a2, .int a3] M y.1 y.2 := by
  refine Met.ofW (cc := cX0_enter) (maxL := 4) (ret := (some .int)) (by decide) rfl ?_
  intro p e s m args below meth c s₁ B hml hv
  obtain ⟨rfl, hP, hK, hN⟩ := hv
  generalize hargs : ([.ref (A (1, 0, 0)), .int a1, .int a2, .int a3] : List Value).toArray = args at B ⊢
  have S : CallFix p m c cX0_enter 4 s args wmX0_enter RX0 := ⟨B.exec, B.bytes, hml, findClass_of_methodNamed B.named, atoms_spec (ws := wmX0_enter) B.pre⟩
  obtain ⟨hx, hb, -, hown, hts⟩ := id S
  have hr := B.returns
  have hlocks := B.notSynchronized
  have X : gX D vwCl dA (cLive N) A (gA (cLive N) A) s := ⟨hK, hJ, fun i hi => ⟨i, hi, rfl⟩⟩
  have Z : gZ D (cLay N) dA (cLive N) A (gA (cLive N) A) s.heap M s.heap [] := ⟨hP, va_S.rf⟩
  have hin_X0 : ∀ w ∈ wsX00, w ∈ wmX0_enter := cin_X0
  have hl_9 := hts (.fieldLink RX0 9 "ReplicaFiles$Catalog" "parent" "[I") (cBc 5 rfl)
  have hl_15 := hts (.fieldLink RX0 15 "ReplicaFiles$Catalog" "name" "[I") (cBc 6 rfl)
  have hl_18 := hts (.fieldLink RX0 18 "ReplicaFiles$Catalog" "isDirectory" "[Z") (cBc 8 rfl)
  have hl_22 := hts (.fieldLink RX0 22 "ReplicaFiles$Catalog" "made" "I") (cBc 10 rfl)
  have hl := lv_entry ([.ref (A (1, 0, 0)), .int a1, .int a2, .int a3]) (n := 4) (Nat.le_of_ble_eq_true rfl)
  rw [← hargs, lg_entry_eq, hargs]
  generalize (lg_sl ([.ref (A (1, 0, 0)), .int a1, .int a2, .int a3]) ++ List.replicate (4 - (lg_sl ([.ref (A (1, 0, 0)), .int a1, .int a2, .int a3])).length) Slot.unset).toArray = ls at hl ⊢
  have hl : lv_has ls 4 [(0, .ref (A (1, 0, 0))), (1, .int a1), (2, .int a2), (3, .int a3)] := hl
  unfold f_X0_enter at h
  refine lv_aload_n hx hb dX0_enter_0 rfl (lv_at hl 0 rfl) ?_
  obtain ⟨v2, hc1, h⟩ := o1_e h
  refine c_i X Z (c_V (i := (1, 0, 0)) (As := []) (rest := []) S X hN Z (cl_one N 1 (by decide)) rfl rfl (t_X0_isFull l N D dA A hJ  hc1) (cwV 0 hts (cGV (cB 13 rfl) (cB 14 rfl) (cB 15 rfl) (cB 16 rfl) (cB 11 rfl)) rfl rfl rfl (by decide +kernel) ⟨Nat.le_of_ble_eq_true rfl, Nat.le_of_ble_eq_true rfl⟩) rfl hl.1 rfl (Nat.le_of_ble_eq_true rfl) dX0_enter_1 ⟨Nat.zero_le _, Nat.zero_le _⟩) (fun H locs Z => ?_)
  refine lv_if_eq (tgt := 9) hx hb dX0_enter_4 (by decide) (fun c3 => ?_) (fun c3 => ?_)
  · have h := if_t c3 h
    refine lv_aload_n hx hb dX0_enter_9 rfl (lv_at hl 0 rfl) ?_
    refine lv_dup hx hb dX0_enter_10 rfl ?_
    refine cr_X0_made S X Z hin_X0 (cl_one N 1 (by decide)) hl_22 dX0_enter_11 h (fun v4 h => ?_)
    refine lv_iconst (v := (1 : Int32)) hx hb dX0_enter_14 (by decide) ?_
    refine lv_iadd hx hb dX0_enter_15 ?_
    refine cp_X0_made S X Z hin_X0 (cl_one N 1 (by decide)) hl_22 dX0_enter_16 h (fun M5 H locs Z h => ?_)
    refine lv_aload_n hx hb dX0_enter_19 rfl (lv_at hl 0 rfl) ?_
    refine cr_X0_parent S X Z hin_X0 (cl_one N 1 (by decide)) hl_9 dX0_enter_20 ?_
    refine lv_aload_n hx hb dX0_enter_23 rfl (lv_at hl 0 rfl) ?_
    refine cr_X0_made S X Z hin_X0 (cl_one N 1 (by decide)) hl_22 dX0_enter_24 h (fun v6 h => ?_)
    refine lv_iload_n hx hb dX0_enter_27 rfl (lv_at hl 1 rfl) ?_
    refine g_iast (i := (2, 0, 0)) (n := 48) S X Z (cl_one N 2 (by decide)) rfl dX0_enter_28 h (fun M7 H locs Z h => ?_)
    refine lv_aload_n hx hb dX0_enter_29 rfl (lv_at hl 0 rfl) ?_
    refine cr_X0_name S X Z hin_X0 (cl_one N 1 (by decide)) hl_15 dX0_enter_30 ?_
    refine lv_aload_n hx hb dX0_enter_33 rfl (lv_at hl 0 rfl) ?_
    refine cr_X0_made S X Z hin_X0 (cl_one N 1 (by decide)) hl_22 dX0_enter_34 h (fun v8 h => ?_)
    refine lv_iload_n hx hb dX0_enter_37 rfl (lv_at hl 2 rfl) ?_
    refine g_iast (i := (3, 0, 0)) (n := 48) S X Z (cl_one N 3 (by decide)) rfl dX0_enter_38 h (fun M9 H locs Z h => ?_)
    refine lv_aload_n hx hb dX0_enter_39 rfl (lv_at hl 0 rfl) ?_
    refine cr_X0_isDirectory S X Z hin_X0 (cl_one N 1 (by decide)) hl_18 dX0_enter_40 ?_
    refine lv_aload_n hx hb dX0_enter_43 rfl (lv_at hl 0 rfl) ?_
    refine cr_X0_made S X Z hin_X0 (cl_one N 1 (by decide)) hl_22 dX0_enter_44 h (fun v10 h => ?_)
    refine lv_iload_n hx hb dX0_enter_47 rfl (lv_at hl 3 rfl) ?_
    refine g_zast (i := (4, 0, 0)) (n := 48) S X Z (cl_one N 4 (by decide)) rfl dX0_enter_48 h (fun M11 H locs Z h => ?_)
    refine lv_aload_n hx hb dX0_enter_49 rfl (lv_at hl 0 rfl) ?_
    refine cr_X0_made S X Z hin_X0 (cl_one N 1 (by decide)) hl_22 dX0_enter_50 h (fun v12 h => ?_)
    have hy := Option.some.inj h
    subst hy
    exact g_ri S Z hr hlocks dX0_enter_53
  · have h := if_f c3 h
    refine lv_iconst (v := (-1 : Int32)) hx hb dX0_enter_7 (by decide) ?_
    have hy := Option.some.inj h
    subst hy
    exact g_ri S Z hr hlocks dX0_enter_8
-- X1_startCall ()V: 5 instructions
theorem dX1_startCall_0 : decode cX1_startCall 0 = .ok (.aload_n 0, 1) := by decide +kernel
theorem dX1_startCall_1 : decode cX1_startCall 1 = .ok (.aload_n 0, 1) := by decide +kernel
theorem dX1_startCall_2 : decode cX1_startCall 2 = .ok (.getfield 54, 3) := by decide +kernel
theorem dX1_startCall_5 : decode cX1_startCall 5 = .ok (.putfield 57, 3) := by decide +kernel
theorem dX1_startCall_8 : decode cX1_startCall 8 = .ok (.return_, 1) := by decide +kernel
abbrev wmX1_startCall : List Cond := .code yX1_startCall cX1_startCall 1 none :: cBig
def f_X1_startCall (N : Nat) (M : gM) (i0 : Nat) : Option gM :=
  lt (M (30, i0, 0) 9) (fun v1 => lt (gset M (30, i0, 0) 10 v1) (fun M2 => some M2))
set_option maxHeartbeats 4000000 in
set_option maxRecDepth 100000 in
theorem t_X1_startCall (l : Launch) (N : Nat) (D : va_G) (dA : Nat → ClassId) (A : gI → Nat) (hJ : gJ (cLive N) A) {M : gM} {i0 : Nat} (hi0 : cLive N (30, i0, 0)) {y : gM} (h : f_X1_startCall N M i0 = some y) : cMv l yX1_startCall wmX1_startCall ({ frames := 0, cells := 0, slots := 0, locals := 0 } : Room) N D dA A [.ref (A (30, i0, 0))] M y := by
  refine Met.ofW (cc := cX1_startCall) (maxL := 1) (ret := none) (by decide) rfl ?_
  intro p e s m args below meth c s₁ B hml hv
  obtain ⟨rfl, hP, hK, hN⟩ := hv
  generalize hargs : ([.ref (A (30, i0, 0))] : List Value).toArray = args at B ⊢
  have S : CallFix p m c cX1_startCall 1 s args wmX1_startCall RX1 := ⟨B.exec, B.bytes, hml, findClass_of_methodNamed B.named, atoms_spec (ws := wmX1_startCall) B.pre⟩
  obtain ⟨hx, hb, -, hown, hts⟩ := id S
  have hr := B.returns
  have hlocks := B.notSynchronized
  have X : gX D vwCl dA (cLive N) A (gA (cLive N) A) s := ⟨hK, hJ, fun i hi => ⟨i, hi, rfl⟩⟩
  have Z : gZ D (cLay N) dA (cLive N) A (gA (cLive N) A) s.heap M s.heap [] := ⟨hP, va_S.rf⟩
  have hin_X1 : ∀ w ∈ wsX10, w ∈ wmX1_startCall := cin_X1
  have hl_54 := hts (.fieldLink RX1 54 "ReplicaFiles$Client" "uses" "I") (cBc 56 rfl)
  have hl_57 := hts (.fieldLink RX1 57 "ReplicaFiles$Client" "usesBeforeCall" "I") (cBc 57 rfl)
  have hl := lv_entry ([.ref (A (30, i0, 0))]) (n := 1) (Nat.le_of_ble_eq_true rfl)
  rw [← hargs, lg_entry_eq, hargs]
  generalize (lg_sl ([.ref (A (30, i0, 0))]) ++ List.replicate (1 - (lg_sl ([.ref (A (30, i0, 0))])).length) Slot.unset).toArray = ls at hl ⊢
  have hl : lv_has ls 1 [(0, .ref (A (30, i0, 0)))] := hl
  unfold f_X1_startCall at h
  refine lv_aload_n hx hb dX1_startCall_0 rfl (lv_at hl 0 rfl) ?_
  refine lv_aload_n hx hb dX1_startCall_1 rfl (lv_at hl 0 rfl) ?_
  refine cr_X1_uses (a := i0) S X Z hin_X1 hi0 hl_54 dX1_startCall_2 h (fun v1 h => ?_)
  refine cp_X1_usesBeforeCall (a := i0) S X Z hin_X1 hi0 hl_57 dX1_startCall_5 h (fun M2 H locs Z h => ?_)
  have hy := Option.some.inj h
  subst hy
  exact g_rv S Z hr hlocks dX1_startCall_8
-- X1_use (I)V: 13 instructions
theorem dX1_use_0 : decode cX1_use 0 = .ok (.aload_n 0, 1) := by decide +kernel
theorem dX1_use_1 : decode cX1_use 1 = .ok (.dup, 1) := by decide +kernel
theorem dX1_use_2 : decode cX1_use 2 = .ok (.getfield 54, 3) := by decide +kernel
theorem dX1_use_5 : decode cX1_use 5 = .ok (.iconst 1, 1) := by decide +kernel
theorem dX1_use_6 : decode cX1_use 6 = .ok (.iadd, 1) := by decide +kernel
theorem dX1_use_7 : decode cX1_use 7 = .ok (.putfield 54, 3) := by decide +kernel
theorem dX1_use_10 : decode cX1_use 10 = .ok (.aload_n 0, 1) := by decide +kernel
theorem dX1_use_11 : decode cX1_use 11 = .ok (.getfield 22, 3) := by decide +kernel
theorem dX1_use_14 : decode cX1_use 14 = .ok (.iload_n 1, 1) := by decide +kernel
theorem dX1_use_15 : decode cX1_use 15 = .ok (.aload_n 0, 1) := by decide +kernel
theorem dX1_use_16 : decode cX1_use 16 = .ok (.getfield 54, 3) := by decide +kernel
theorem dX1_use_19 : decode cX1_use 19 = .ok (.iastore, 1) := by decide +kernel
theorem dX1_use_20 : decode cX1_use 20 = .ok (.return_, 1) := by decide +kernel
abbrev wmX1_use : List Cond := .code yX1_use cX1_use 2 none :: cBig
def f_X1_use (N : Nat) (M : gM) (i0 : Nat) (a1 : Int32) : Option gM :=
  lt (M (30, i0, 0) 9) (fun v1 => lt (gset M (30, i0, 0) 9 (v1 + (1 : Int32))) (fun M2 => lt (M2 (30, i0, 0) 9) (fun v3 => wr M2 (34, i0, 0) 48 a1 v3 (fun M4 => some M4))))
set_option maxHeartbeats 4000000 in
set_option maxRecDepth 100000 in
theorem t_X1_use (l : Launch) (N : Nat) (D : va_G) (dA : Nat → ClassId) (A : gI → Nat) (hJ : gJ (cLive N) A) {M : gM} {i0 : Nat} {a1 : Int32} (hi0 : cLive N (30, i0, 0)) {y : gM} (h : f_X1_use N M i0 a1 = some y) : cMv l yX1_use wmX1_use ({ frames := 0, cells := 0, slots := 0, locals := 0 } : Room) N D dA A [.ref (A (30, i0, 0)), .int a1] M y := by
  refine Met.ofW (cc := cX1_use) (maxL := 2) (ret := none) (by decide) rfl ?_
  intro p e s m args below meth c s₁ B hml hv
  obtain ⟨rfl, hP, hK, hN⟩ := hv
  generalize hargs : ([.ref (A (30, i0, 0)), .int a1] : List Value).toArray = args at B ⊢
  have S : CallFix p m c cX1_use 2 s args wmX1_use RX1 := ⟨B.exec, B.bytes, hml, findClass_of_methodNamed B.named, atoms_spec (ws := wmX1_use) B.pre⟩
  obtain ⟨hx, hb, -, hown, hts⟩ := id S
  have hr := B.returns
  have hlocks := B.notSynchronized
  have X : gX D vwCl dA (cLive N) A (gA (cLive N) A) s := ⟨hK, hJ, fun i hi => ⟨i, hi, rfl⟩⟩
  have Z : gZ D (cLay N) dA (cLive N) A (gA (cLive N) A) s.heap M s.heap [] := ⟨hP, va_S.rf⟩
  have hin_X1 : ∀ w ∈ wsX10, w ∈ wmX1_use := cin_X1
  have hl_22 := hts (.fieldLink RX1 22 "ReplicaFiles$Client" "used" "[I") (cBc 38 rfl)
  have hl_54 := hts (.fieldLink RX1 54 "ReplicaFiles$Client" "uses" "I") (cBc 56 rfl)
  have hl := lv_entry ([.ref (A (30, i0, 0)), .int a1]) (n := 2) (Nat.le_of_ble_eq_true rfl)
  rw [← hargs, lg_entry_eq, hargs]
  generalize (lg_sl ([.ref (A (30, i0, 0)), .int a1]) ++ List.replicate (2 - (lg_sl ([.ref (A (30, i0, 0)), .int a1])).length) Slot.unset).toArray = ls at hl ⊢
  have hl : lv_has ls 2 [(0, .ref (A (30, i0, 0))), (1, .int a1)] := hl
  unfold f_X1_use at h
  refine lv_aload_n hx hb dX1_use_0 rfl (lv_at hl 0 rfl) ?_
  refine lv_dup hx hb dX1_use_1 rfl ?_
  refine cr_X1_uses (a := i0) S X Z hin_X1 hi0 hl_54 dX1_use_2 h (fun v1 h => ?_)
  refine lv_iconst (v := (1 : Int32)) hx hb dX1_use_5 (by decide) ?_
  refine lv_iadd hx hb dX1_use_6 ?_
  refine cp_X1_uses (a := i0) S X Z hin_X1 hi0 hl_54 dX1_use_7 h (fun M2 H locs Z h => ?_)
  refine lv_aload_n hx hb dX1_use_10 rfl (lv_at hl 0 rfl) ?_
  refine cr_X1_used (a := i0) S X Z hin_X1 hi0 hl_22 dX1_use_11 ?_
  refine lv_iload_n hx hb dX1_use_14 rfl (lv_at hl 1 rfl) ?_
  refine lv_aload_n hx hb dX1_use_15 rfl (lv_at hl 0 rfl) ?_
  refine cr_X1_uses (a := i0) S X Z hin_X1 hi0 hl_54 dX1_use_16 h (fun v3 h => ?_)
  refine g_iast (i := (34, i0, 0)) (n := 48) S X Z (cl_X1_used hi0) rfl dX1_use_19 h (fun M4 H locs Z h => ?_)
  have hy := Option.some.inj h
  subst hy
  exact g_rv S Z hr hlocks dX1_use_20
-- X1_useOwn (I)J: 13 instructions
theorem dX1_useOwn_0 : decode cX1_useOwn 0 = .ok (.aload_n 0, 1) := by decide +kernel
theorem dX1_useOwn_1 : decode cX1_useOwn 1 = .ok (.getfield 41, 3) := by decide +kernel
theorem dX1_useOwn_4 : decode cX1_useOwn 4 = .ok (.getfield 60, 3) := by decide +kernel
theorem dX1_useOwn_7 : decode cX1_useOwn 7 = .ok (.iload_n 1, 1) := by decide +kernel
theorem dX1_useOwn_8 : decode cX1_useOwn 8 = .ok (.baload, 1) := by decide +kernel
theorem dX1_useOwn_9 : decode cX1_useOwn 9 = .ok (.ifCond .ne 7, 3) := by decide +kernel
theorem dX1_useOwn_12 : decode cX1_useOwn 12 = .ok (.ldc2_w 63, 3) := by decide +kernel
theorem dX1_useOwn_15 : decode cX1_useOwn 15 = .ok (.lreturn, 1) := by decide +kernel
theorem dX1_useOwn_16 : decode cX1_useOwn 16 = .ok (.aload_n 0, 1) := by decide +kernel
theorem dX1_useOwn_17 : decode cX1_useOwn 17 = .ok (.iload_n 1, 1) := by decide +kernel
theorem dX1_useOwn_18 : decode cX1_useOwn 18 = .ok (.invokevirtual 65, 3) := by decide +kernel
theorem dX1_useOwn_21 : decode cX1_useOwn 21 = .ok (.lconst 0, 1) := by decide +kernel
theorem dX1_useOwn_22 : decode cX1_useOwn 22 = .ok (.lreturn, 1) := by decide +kernel
abbrev wmX1_useOwn : List Cond := .code yX1_useOwn cX1_useOwn 2 (some .long) :: cBig
def f_X1_useOwn (N : Nat) (M : gM) (i0 : Nat) (a1 : Int32) : Option (Int64 × gM) :=
  rd M (51, (4 + i0), 0) 48 a1 (fun v1 => (if v1 = 0 then some ((-2199023255553 : Int64), M) else o1 (f_X1_use N M i0 a1) (fun M4 => some ((0 : Int64), M4))))
set_option maxHeartbeats 4000000 in
set_option maxRecDepth 100000 in
theorem t_X1_useOwn (l : Launch) (N : Nat) (D : va_G) (dA : Nat → ClassId) (A : gI → Nat) (hJ : gJ (cLive N) A) {M : gM} {i0 : Nat} {a1 : Int32} (hi0 : cLive N (30, i0, 0)) {y : (Int64 × gM)} (h : f_X1_useOwn N M i0 a1 = some y) : cMl l yX1_useOwn wmX1_useOwn ({ frames := 1, cells := 0, slots := 0, locals := 21 } : Room) N D dA A [.ref (A (30, i0, 0)), .int a1] M y.1 y.2 := by
  refine Met.ofW (cc := cX1_useOwn) (maxL := 2) (ret := (some .long)) (by decide) rfl ?_
  intro p e s m args below meth c s₁ B hml hv
  obtain ⟨rfl, hP, hK, hN⟩ := hv
  generalize hargs : ([.ref (A (30, i0, 0)), .int a1] : List Value).toArray = args at B ⊢
  have S : CallFix p m c cX1_useOwn 2 s args wmX1_useOwn RX1 := ⟨B.exec, B.bytes, hml, findClass_of_methodNamed B.named, atoms_spec (ws := wmX1_useOwn) B.pre⟩
  obtain ⟨hx, hb, -, hown, hts⟩ := id S
  have hr := B.returns
  have hlocks := B.notSynchronized
  have X : gX D vwCl dA (cLive N) A (gA (cLive N) A) s := ⟨hK, hJ, fun i hi => ⟨i, hi, rfl⟩⟩
  have Z : gZ D (cLay N) dA (cLive N) A (gA (cLive N) A) s.heap M s.heap [] := ⟨hP, va_S.rf⟩
  have hin_X1 : ∀ w ∈ wsX10, w ∈ wmX1_useOwn := cin_X1
  have hin_X8 : ∀ w ∈ wsX80, w ∈ wmX1_useOwn := cin_X8
  have hl_41 := hts (.fieldLink RX1 41 "ReplicaFiles$Client" "tree" "LReplicaFiles$Tree;") (cBc 45 rfl)
  have hl_60 := va_Nw.use (A := args) rfl (hN.1 ("ReplicaFiles$Client", 60, "ReplicaFiles$Tree", "held", "[Z", "ReplicaFiles") (by decide +kernel))
  have hc_63 := hts (.constantLong RX1 63 (-2199023255553)) (cBc 60 rfl)
  have hl := lv_entry ([.ref (A (30, i0, 0)), .int a1]) (n := 2) (Nat.le_of_ble_eq_true rfl)
  rw [← hargs, lg_entry_eq, hargs]
  generalize (lg_sl ([.ref (A (30, i0, 0)), .int a1]) ++ List.replicate (2 - (lg_sl ([.ref (A (30, i0, 0)), .int a1])).length) Slot.unset).toArray = ls at hl ⊢
  have hl : lv_has ls 2 [(0, .ref (A (30, i0, 0))), (1, .int a1)] := hl
  unfold f_X1_useOwn at h
  refine lv_aload_n hx hb dX1_useOwn_0 rfl (lv_at hl 0 rfl) ?_
  refine cr_X1_tree (a := i0) S X Z hin_X1 hi0 hl_41 dX1_useOwn_1 ?_
  refine cn_X8_held (a := (4 + i0)) S X Z hin_X8 (cl_ct hi0) hl_60 dX1_useOwn_4 ?_
  refine lv_iload_n hx hb dX1_useOwn_7 rfl (lv_at hl 1 rfl) ?_
  refine g_zald (i := (51, (4 + i0), 0)) (n := 48) S X Z (cl_X8_held (cl_ct hi0)) rfl dX1_useOwn_8 h (fun v1 h => ?_)
  refine lv_if_ne (tgt := 16) hx hb dX1_useOwn_9 (by decide) (fun c2 => ?_) (fun c2 => ?_)
  · have h := if_f c2 h
    refine lv_aload_n hx hb dX1_useOwn_16 rfl (lv_at hl 0 rfl) ?_
    refine lv_iload_n hx hb dX1_useOwn_17 rfl (lv_at hl 1 rfl) ?_
    obtain ⟨M4, hc3, h⟩ := o1_e h
    refine c_v X Z (c_V (i := (30, i0, 0)) (As := [.int a1]) (rest := []) S X hN Z hi0 rfl rfl (t_X1_use l N D dA A hJ hi0 hc3) (cwV 1 hts (cGV (cB 61 rfl) (cB 62 rfl) (cB 63 rfl) (cB 64 rfl) (cB 58 rfl)) rfl rfl rfl (by decide +kernel) ⟨Nat.le_of_ble_eq_true rfl, Nat.le_of_ble_eq_true rfl⟩) rfl hl.1 rfl (Nat.le_of_ble_eq_true rfl) dX1_useOwn_18 ⟨Nat.zero_le _, Nat.zero_le _⟩) (fun H locs Z => ?_)
    refine lv_lconst (v := (0 : Int64)) hx hb dX1_useOwn_21 (by decide) ?_
    have hy := Option.some.inj h
    subst hy
    exact g_rl S Z hr hlocks dX1_useOwn_22
  · have h := if_t c2 h
    refine lv_ldc2 hx hb hown hc_63 dX1_useOwn_12 ?_
    have hy := Option.some.inj h
    subst hy
    exact g_rl S Z hr hlocks dX1_useOwn_15
-- X1_isGood (II)Z: 21 instructions
theorem dX1_isGood_0 : decode cX1_isGood 0 = .ok (.aload_n 0, 1) := by decide +kernel
theorem dX1_isGood_1 : decode cX1_isGood 1 = .ok (.getfield 41, 3) := by decide +kernel
theorem dX1_isGood_4 : decode cX1_isGood 4 = .ok (.getfield 60, 3) := by decide +kernel
theorem dX1_isGood_7 : decode cX1_isGood 7 = .ok (.iload_n 1, 1) := by decide +kernel
theorem dX1_isGood_8 : decode cX1_isGood 8 = .ok (.baload, 1) := by decide +kernel
theorem dX1_isGood_9 : decode cX1_isGood 9 = .ok (.ifCond .eq 24, 3) := by decide +kernel
theorem dX1_isGood_12 : decode cX1_isGood 12 = .ok (.iload_n 2, 1) := by decide +kernel
theorem dX1_isGood_13 : decode cX1_isGood 13 = .ok (.ifCond .eq 20, 3) := by decide +kernel
theorem dX1_isGood_16 : decode cX1_isGood 16 = .ok (.iload_n 2, 1) := by decide +kernel
theorem dX1_isGood_17 : decode cX1_isGood 17 = .ok (.aload_n 0, 1) := by decide +kernel
theorem dX1_isGood_18 : decode cX1_isGood 18 = .ok (.getfield 15, 3) := by decide +kernel
theorem dX1_isGood_21 : decode cX1_isGood 21 = .ok (.iload_n 1, 1) := by decide +kernel
theorem dX1_isGood_22 : decode cX1_isGood 22 = .ok (.iaload, 1) := by decide +kernel
theorem dX1_isGood_23 : decode cX1_isGood 23 = .ok (.iconst (-1), 1) := by decide +kernel
theorem dX1_isGood_24 : decode cX1_isGood 24 = .ok (.ixor, 1) := by decide +kernel
theorem dX1_isGood_25 : decode cX1_isGood 25 = .ok (.iand, 1) := by decide +kernel
theorem dX1_isGood_26 : decode cX1_isGood 26 = .ok (.ifCond .ne 7, 3) := by decide +kernel
theorem dX1_isGood_29 : decode cX1_isGood 29 = .ok (.iconst 1, 1) := by decide +kernel
theorem dX1_isGood_30 : decode cX1_isGood 30 = .ok (.goto 4, 3) := by decide +kernel
theorem dX1_isGood_33 : decode cX1_isGood 33 = .ok (.iconst 0, 1) := by decide +kernel
theorem dX1_isGood_34 : decode cX1_isGood 34 = .ok (.ireturn, 1) := by decide +kernel
abbrev wmX1_isGood : List Cond := .code yX1_isGood cX1_isGood 3 (some .boolean) :: cBig
def f_X1_isGood (N : Nat) (M : gM) (i0 : Nat) (a1 : Int32) (a2 : Int32) : Option Int32 :=
  rd M (51, (4 + i0), 0) 48 a1 (fun v1 => (if v1 = 0 then some (0 : Int32) else (if a2 = 0 then some (0 : Int32) else rd M (32, i0, 0) 48 a1 (fun v4 => (if (a2 &&& (v4 ^^^ (-1 : Int32))) = 0 then some (1 : Int32) else some (0 : Int32))))))
set_option maxHeartbeats 4000000 in
set_option maxRecDepth 100000 in
theorem t_X1_isGood (l : Launch) (N : Nat) (D : va_G) (dA : Nat → ClassId) (A : gI → Nat) (hJ : gJ (cLive N) A) {M : gM} {i0 : Nat} {a1 : Int32} {a2 : Int32} (hi0 : cLive N (30, i0, 0)) {y : Int32} (h : f_X1_isGood N M i0 a1 a2 = some y) : cMi l yX1_isGood wmX1_isGood ({ frames := 0, cells := 0, slots := 0, locals := 0 } : Room) N D dA A [.ref (A (30, i0, 0)), .int a1, .int a2] M y M := by
  refine Met.ofW (cc := cX1_isGood) (maxL := 3) (ret := (some .boolean)) (by decide) rfl ?_
  intro p e s m args below meth c s₁ B hml hv
  obtain ⟨rfl, hP, hK, hN⟩ := hv
  generalize hargs : ([.ref (A (30, i0, 0)), .int a1, .int a2] : List Value).toArray = args at B ⊢
  have S : CallFix p m c cX1_isGood 3 s args wmX1_isGood RX1 := ⟨B.exec, B.bytes, hml, findClass_of_methodNamed B.named, atoms_spec (ws := wmX1_isGood) B.pre⟩
  obtain ⟨hx, hb, -, hown, hts⟩ := id S
  have hr := B.returns
  have hlocks := B.notSynchronized
  have X : gX D vwCl dA (cLive N) A (gA (cLive N) A) s := ⟨hK, hJ, fun i hi => ⟨i, hi, rfl⟩⟩
  have Z : gZ D (cLay N) dA (cLive N) A (gA (cLive N) A) s.heap M s.heap [] := ⟨hP, va_S.rf⟩
  have hin_X1 : ∀ w ∈ wsX10, w ∈ wmX1_isGood := cin_X1
  have hin_X8 : ∀ w ∈ wsX80, w ∈ wmX1_isGood := cin_X8
  have hl_15 := hts (.fieldLink RX1 15 "ReplicaFiles$Client" "promised" "[I") (cBc 36 rfl)
  have hl_41 := hts (.fieldLink RX1 41 "ReplicaFiles$Client" "tree" "LReplicaFiles$Tree;") (cBc 45 rfl)
  have hl_60 := va_Nw.use (A := args) rfl (hN.1 ("ReplicaFiles$Client", 60, "ReplicaFiles$Tree", "held", "[Z", "ReplicaFiles") (by decide +kernel))
  have hl := lv_entry ([.ref (A (30, i0, 0)), .int a1, .int a2]) (n := 3) (Nat.le_of_ble_eq_true rfl)
  rw [← hargs, lg_entry_eq, hargs]
  generalize (lg_sl ([.ref (A (30, i0, 0)), .int a1, .int a2]) ++ List.replicate (3 - (lg_sl ([.ref (A (30, i0, 0)), .int a1, .int a2])).length) Slot.unset).toArray = ls at hl ⊢
  have hl : lv_has ls 3 [(0, .ref (A (30, i0, 0))), (1, .int a1), (2, .int a2)] := hl
  unfold f_X1_isGood at h
  refine lv_aload_n hx hb dX1_isGood_0 rfl (lv_at hl 0 rfl) ?_
  refine cr_X1_tree (a := i0) S X Z hin_X1 hi0 hl_41 dX1_isGood_1 ?_
  refine cn_X8_held (a := (4 + i0)) S X Z hin_X8 (cl_ct hi0) hl_60 dX1_isGood_4 ?_
  refine lv_iload_n hx hb dX1_isGood_7 rfl (lv_at hl 1 rfl) ?_
  refine g_zald (i := (51, (4 + i0), 0)) (n := 48) S X Z (cl_X8_held (cl_ct hi0)) rfl dX1_isGood_8 h (fun v1 h => ?_)
  refine lv_if_eq (tgt := 33) hx hb dX1_isGood_9 (by decide) (fun c2 => ?_) (fun c2 => ?_)
  · have h := if_t c2 h
    refine lv_iconst (v := (0 : Int32)) hx hb dX1_isGood_33 (by decide) ?_
    have hy := Option.some.inj h
    subst hy
    exact g_rz (Or.inl rfl) S Z hr hlocks dX1_isGood_34
  · have h := if_f c2 h
    refine lv_iload_n hx hb dX1_isGood_12 rfl (lv_at hl 2 rfl) ?_
    refine lv_if_eq (tgt := 33) hx hb dX1_isGood_13 (by decide) (fun c3 => ?_) (fun c3 => ?_)
    · have h := if_t c3 h
      refine lv_iconst (v := (0 : Int32)) hx hb dX1_isGood_33 (by decide) ?_
      have hy := Option.some.inj h
      subst hy
      exact g_rz (Or.inl rfl) S Z hr hlocks dX1_isGood_34
    · have h := if_f c3 h
      refine lv_iload_n hx hb dX1_isGood_16 rfl (lv_at hl 2 rfl) ?_
      refine lv_aload_n hx hb dX1_isGood_17 rfl (lv_at hl 0 rfl) ?_
      refine cr_X1_promised (a := i0) S X Z hin_X1 hi0 hl_15 dX1_isGood_18 ?_
      refine lv_iload_n hx hb dX1_isGood_21 rfl (lv_at hl 1 rfl) ?_
      refine g_iald (i := (32, i0, 0)) (n := 48) S X Z (cl_X1_promised hi0) rfl dX1_isGood_22 h (fun v4 h => ?_)
      refine lv_iconst (v := (-1 : Int32)) hx hb dX1_isGood_23 (by decide) ?_
      refine lv_ixor hx hb dX1_isGood_24 ?_
      refine lv_iand hx hb dX1_isGood_25 ?_
      refine lv_if_ne (tgt := 33) hx hb dX1_isGood_26 (by decide) (fun c5 => ?_) (fun c5 => ?_)
      · have h := if_f c5 h
        refine lv_iconst (v := (0 : Int32)) hx hb dX1_isGood_33 (by decide) ?_
        have hy := Option.some.inj h
        subst hy
        exact g_rz (Or.inl rfl) S Z hr hlocks dX1_isGood_34
      · have h := if_t c5 h
        refine lv_iconst (v := (1 : Int32)) hx hb dX1_isGood_29 (by decide) ?_
        refine lv_goto (tgt := 34) hx hb dX1_isGood_30 (by decide) ?_
        have hy := Option.some.inj h
        subst hy
        exact g_rz (Or.inr rfl) S Z hr hlocks dX1_isGood_34
-- X1_forgetPromisesOf (I)V: 20 instructions
theorem dX1_forgetPromisesOf_0 : decode cX1_forgetPromisesOf 0 = .ok (.iconst 0, 1) := by decide +kernel
theorem dX1_forgetPromisesOf_1 : decode cX1_forgetPromisesOf 1 = .ok (.istore_n 2, 1) := by decide +kernel
theorem dX1_forgetPromisesOf_2 : decode cX1_forgetPromisesOf 2 = .ok (.iload_n 2, 1) := by decide +kernel
theorem dX1_forgetPromisesOf_3 : decode cX1_forgetPromisesOf 3 = .ok (.bipush 48, 2) := by decide +kernel
theorem dX1_forgetPromisesOf_5 : decode cX1_forgetPromisesOf 5 = .ok (.if_icmp .ge 23, 3) := by decide +kernel
theorem dX1_forgetPromisesOf_8 : decode cX1_forgetPromisesOf 8 = .ok (.aload_n 0, 1) := by decide +kernel
theorem dX1_forgetPromisesOf_9 : decode cX1_forgetPromisesOf 9 = .ok (.getfield 15, 3) := by decide +kernel
theorem dX1_forgetPromisesOf_12 : decode cX1_forgetPromisesOf 12 = .ok (.iload_n 2, 1) := by decide +kernel
theorem dX1_forgetPromisesOf_13 : decode cX1_forgetPromisesOf 13 = .ok (.dup2, 1) := by decide +kernel
theorem dX1_forgetPromisesOf_14 : decode cX1_forgetPromisesOf 14 = .ok (.iaload, 1) := by decide +kernel
theorem dX1_forgetPromisesOf_15 : decode cX1_forgetPromisesOf 15 = .ok (.iconst 1, 1) := by decide +kernel
theorem dX1_forgetPromisesOf_16 : decode cX1_forgetPromisesOf 16 = .ok (.iload_n 1, 1) := by decide +kernel
theorem dX1_forgetPromisesOf_17 : decode cX1_forgetPromisesOf 17 = .ok (.ishl, 1) := by decide +kernel
theorem dX1_forgetPromisesOf_18 : decode cX1_forgetPromisesOf 18 = .ok (.iconst (-1), 1) := by decide +kernel
theorem dX1_forgetPromisesOf_19 : decode cX1_forgetPromisesOf 19 = .ok (.ixor, 1) := by decide +kernel
theorem dX1_forgetPromisesOf_20 : decode cX1_forgetPromisesOf 20 = .ok (.iand, 1) := by decide +kernel
theorem dX1_forgetPromisesOf_21 : decode cX1_forgetPromisesOf 21 = .ok (.iastore, 1) := by decide +kernel
theorem dX1_forgetPromisesOf_22 : decode cX1_forgetPromisesOf 22 = .ok (.iinc 2 1, 3) := by decide +kernel
theorem dX1_forgetPromisesOf_25 : decode cX1_forgetPromisesOf 25 = .ok (.goto (-23), 3) := by decide +kernel
theorem dX1_forgetPromisesOf_28 : decode cX1_forgetPromisesOf 28 = .ok (.return_, 1) := by decide +kernel
abbrev wmX1_forgetPromisesOf : List Cond := .code yX1_forgetPromisesOf cX1_forgetPromisesOf 3 none :: cBig
def f_X1_forgetPromisesOf_L2 (N : Nat) (i0 : Nat) (a1 : Int32) : Nat → Int32 → gM → Option gM
  | 0, _, _ => none
  | n3 + 1, x1, M2 => (if (48 : Int32) ≤ x1 then some M2 else rd M2 (32, i0, 0) 48 x1 (fun v5 => wr M2 (32, i0, 0) 48 x1 (v5 &&& (((1 : Int32) <<< (a1 &&& 31)) ^^^ (-1 : Int32))) (fun M6 => lt (x1 + 1) (fun x7 => f_X1_forgetPromisesOf_L2 N i0 a1 n3 x7 M6))))
def f_X1_forgetPromisesOf (N : Nat) (M : gM) (i0 : Nat) (a1 : Int32) : Option gM :=
  f_X1_forgetPromisesOf_L2 N i0 a1 100 (0 : Int32) M
set_option maxHeartbeats 4000000 in
set_option maxRecDepth 100000 in
theorem t_X1_forgetPromisesOf (l : Launch) (N : Nat) (D : va_G) (dA : Nat → ClassId) (A : gI → Nat) (hJ : gJ (cLive N) A) {M : gM} {i0 : Nat} {a1 : Int32} (hi0 : cLive N (30, i0, 0)) {y : gM} (h : f_X1_forgetPromisesOf N M i0 a1 = some y) : cMv l yX1_forgetPromisesOf wmX1_forgetPromisesOf ({ frames := 0, cells := 0, slots := 0, locals := 0 } : Room) N D dA A [.ref (A (30, i0, 0)), .int a1] M y := by
  refine Met.ofW (cc := cX1_forgetPromisesOf) (maxL := 3) (ret := none) (by decide) rfl ?_
  intro p e s m args below meth c s₁ B hml hv
  obtain ⟨rfl, hP, hK, hN⟩ := hv
  generalize hargs : ([.ref (A (30, i0, 0)), .int a1] : List Value).toArray = args at B ⊢
  have S : CallFix p m c cX1_forgetPromisesOf 3 s args wmX1_forgetPromisesOf RX1 := ⟨B.exec, B.bytes, hml, findClass_of_methodNamed B.named, atoms_spec (ws := wmX1_forgetPromisesOf) B.pre⟩
  obtain ⟨hx, hb, -, hown, hts⟩ := id S
  have hr := B.returns
  have hlocks := B.notSynchronized
  have X : gX D vwCl dA (cLive N) A (gA (cLive N) A) s := ⟨hK, hJ, fun i hi => ⟨i, hi, rfl⟩⟩
  have Z : gZ D (cLay N) dA (cLive N) A (gA (cLive N) A) s.heap M s.heap [] := ⟨hP, va_S.rf⟩
  have hin_X1 : ∀ w ∈ wsX10, w ∈ wmX1_forgetPromisesOf := cin_X1
  have hl_15 := hts (.fieldLink RX1 15 "ReplicaFiles$Client" "promised" "[I") (cBc 36 rfl)
  have hl := lv_entry ([.ref (A (30, i0, 0)), .int a1]) (n := 3) (Nat.le_of_ble_eq_true rfl)
  rw [← hargs, lg_entry_eq, hargs]
  generalize (lg_sl ([.ref (A (30, i0, 0)), .int a1]) ++ List.replicate (3 - (lg_sl ([.ref (A (30, i0, 0)), .int a1])).length) Slot.unset).toArray = ls at hl ⊢
  have hl : lv_has ls 3 [(0, .ref (A (30, i0, 0))), (1, .int a1)] := hl
  unfold f_X1_forgetPromisesOf at h
  refine lv_iconst (v := (0 : Int32)) hx hb dX1_forgetPromisesOf_0 (by decide) ?_
  refine lv_istore_n (lv' := [(2, .int (0 : Int32)), (0, .ref (A (30, i0, 0))), (1, .int a1)]) hx hb dX1_forgetPromisesOf_1 rfl hl (by decide) rfl (fun ls hl => ?_)
  have hL2 : ∀ (n : Nat) (x1 : Int32) (M2 : gM) (H : Heap) (locs : List Loc) (ls : Array Slot), gZ D (cLay N) dA (cLive N) A (gA (cLive N) A) s.heap M2 H locs → lv_has ls 3 [(0, .ref (A (30, i0, 0))), (1, .int a1), (2, .int x1)] → f_X1_forgetPromisesOf_L2 N i0 a1 n x1 M2 = some y → W p l e (headSpec wmX1_forgetPromisesOf ({ frames := 0, cells := 0, slots := 0, locals := 0 } : Room)).room s m args below meth c H locs 0 0 (MQ below (cQv N D dA A y) args s 0 0 (gA (cLive N) A)) (F0 m 2 ls []) := by
    intro n
    induction n with
    | zero =>
      intro x1 M2 H locs ls Z hl h
      rw [f_X1_forgetPromisesOf_L2] at h
      cases h
    | succ n3 ih2 =>
      intro x1 M2 H locs ls Z hl h
      rw [f_X1_forgetPromisesOf_L2] at h
      refine lv_iload_n hx hb dX1_forgetPromisesOf_2 rfl (lv_at hl 2 rfl) ?_
      refine lv_bipush (v := (48 : Int32)) hx hb dX1_forgetPromisesOf_3 (by decide) ?_
      refine lv_icmp_ge (tgt := 28) hx hb dX1_forgetPromisesOf_5 (by decide) (fun c4 => ?_) (fun c4 => ?_)
      · have h := if_t c4 h
        have hy := Option.some.inj h
        subst hy
        exact g_rv S Z hr hlocks dX1_forgetPromisesOf_28
      · have h := if_f c4 h
        refine lv_aload_n hx hb dX1_forgetPromisesOf_8 rfl (lv_at hl 0 rfl) ?_
        refine cr_X1_promised (a := i0) S X Z hin_X1 hi0 hl_15 dX1_forgetPromisesOf_9 ?_
        refine lv_iload_n hx hb dX1_forgetPromisesOf_12 rfl (lv_at hl 2 rfl) ?_
        refine lv_dup2_11 hx hb dX1_forgetPromisesOf_13 rfl rfl ?_
        refine g_iald (i := (32, i0, 0)) (n := 48) S X Z (cl_X1_promised hi0) rfl dX1_forgetPromisesOf_14 h (fun v5 h => ?_)
        refine lv_iconst (v := (1 : Int32)) hx hb dX1_forgetPromisesOf_15 (by decide) ?_
        refine lv_iload_n hx hb dX1_forgetPromisesOf_16 rfl (lv_at hl 1 rfl) ?_
        refine lv_ishl hx hb dX1_forgetPromisesOf_17 ?_
        refine lv_iconst (v := (-1 : Int32)) hx hb dX1_forgetPromisesOf_18 (by decide) ?_
        refine lv_ixor hx hb dX1_forgetPromisesOf_19 ?_
        refine lv_iand hx hb dX1_forgetPromisesOf_20 ?_
        refine g_iast (i := (32, i0, 0)) (n := 48) S X Z (cl_X1_promised hi0) rfl dX1_forgetPromisesOf_21 h (fun M6 H locs Z h => ?_)
        obtain ⟨x7, ex7, h⟩ := lt_e h
        refine lv_iinc (v := x7) (lv' := [(2, .int x7), (0, .ref (A (30, i0, 0))), (1, .int a1)]) hx hb dX1_forgetPromisesOf_22 hl (k := 2) rfl (by rw [ex7]; rfl) (by decide) rfl (fun ls hl => ?_)
        refine lv_goto (tgt := 2) hx hb dX1_forgetPromisesOf_25 (by decide) ?_
        exact ih2 x7 M6 _ _ _ Z (lv_sub hl [1, 2, 0] rfl) h
  exact hL2 100 (0 : Int32) M _ _ _ Z (lv_sub hl [1, 2, 0] rfl) h
-- X8_setFile (III)V: 11 instructions
theorem dX8_setFile_0 : decode cX8_setFile 0 = .ok (.aload_n 0, 1) := by decide +kernel
theorem dX8_setFile_1 : decode cX8_setFile 1 = .ok (.getfield 15, 3) := by decide +kernel
theorem dX8_setFile_4 : decode cX8_setFile 4 = .ok (.iload_n 1, 1) := by decide +kernel
theorem dX8_setFile_5 : decode cX8_setFile 5 = .ok (.iload_n 2, 1) := by decide +kernel
theorem dX8_setFile_6 : decode cX8_setFile 6 = .ok (.iastore, 1) := by decide +kernel
theorem dX8_setFile_7 : decode cX8_setFile 7 = .ok (.aload_n 0, 1) := by decide +kernel
theorem dX8_setFile_8 : decode cX8_setFile 8 = .ok (.getfield 19, 3) := by decide +kernel
theorem dX8_setFile_11 : decode cX8_setFile 11 = .ok (.iload_n 1, 1) := by decide +kernel
theorem dX8_setFile_12 : decode cX8_setFile 12 = .ok (.iload_n 3, 1) := by decide +kernel
theorem dX8_setFile_13 : decode cX8_setFile 13 = .ok (.iastore, 1) := by decide +kernel
theorem dX8_setFile_14 : decode cX8_setFile 14 = .ok (.return_, 1) := by decide +kernel
abbrev wmX8_setFile : List Cond := .code yX8_setFile cX8_setFile 4 none :: cBig
def f_X8_setFile (N : Nat) (M : gM) (i0 : Nat) (a1 : Int32) (a2 : Int32) (a3 : Int32) : Option gM :=
  wr M (52, i0, 0) 48 a1 a2 (fun M1 => wr M1 (53, i0, 0) 48 a1 a3 (fun M2 => some M2))
set_option maxHeartbeats 4000000 in
set_option maxRecDepth 100000 in
theorem t_X8_setFile (l : Launch) (N : Nat) (D : va_G) (dA : Nat → ClassId) (A : gI → Nat) (hJ : gJ (cLive N) A) {M : gM} {i0 : Nat} {a1 : Int32} {a2 : Int32} {a3 : Int32} (hi0 : cLive N (50, i0, 0)) {y : gM} (h : f_X8_setFile N M i0 a1 a2 a3 = some y) : cMv l yX8_setFile wmX8_setFile ({ frames := 0, cells := 0, slots := 0, locals := 0 } : Room) N D dA A [.ref (A (50, i0, 0)), .int a1, .int a2, .int a3] M y := by
  refine Met.ofW (cc := cX8_setFile) (maxL := 4) (ret := none) (by decide) rfl ?_
  intro p e s m args below meth c s₁ B hml hv
  obtain ⟨rfl, hP, hK, hN⟩ := hv
  generalize hargs : ([.ref (A (50, i0, 0)), .int a1, .int a2, .int a3] : List Value).toArray = args at B ⊢
  have S : CallFix p m c cX8_setFile 4 s args wmX8_setFile RX8 := ⟨B.exec, B.bytes, hml, findClass_of_methodNamed B.named, atoms_spec (ws := wmX8_setFile) B.pre⟩
  obtain ⟨hx, hb, -, hown, hts⟩ := id S
  have hr := B.returns
  have hlocks := B.notSynchronized
  have X : gX D vwCl dA (cLive N) A (gA (cLive N) A) s := ⟨hK, hJ, fun i hi => ⟨i, hi, rfl⟩⟩
  have Z : gZ D (cLay N) dA (cLive N) A (gA (cLive N) A) s.heap M s.heap [] := ⟨hP, va_S.rf⟩
  have hin_X8 : ∀ w ∈ wsX80, w ∈ wmX8_setFile := cin_X8
  have hl_15 := hts (.fieldLink RX8 15 "ReplicaFiles$Tree" "value" "[I") (cBc 20 rfl)
  have hl_19 := hts (.fieldLink RX8 19 "ReplicaFiles$Tree" "size" "[I") (cBc 21 rfl)
  have hl := lv_entry ([.ref (A (50, i0, 0)), .int a1, .int a2, .int a3]) (n := 4) (Nat.le_of_ble_eq_true rfl)
  rw [← hargs, lg_entry_eq, hargs]
  generalize (lg_sl ([.ref (A (50, i0, 0)), .int a1, .int a2, .int a3]) ++ List.replicate (4 - (lg_sl ([.ref (A (50, i0, 0)), .int a1, .int a2, .int a3])).length) Slot.unset).toArray = ls at hl ⊢
  have hl : lv_has ls 4 [(0, .ref (A (50, i0, 0))), (1, .int a1), (2, .int a2), (3, .int a3)] := hl
  unfold f_X8_setFile at h
  refine lv_aload_n hx hb dX8_setFile_0 rfl (lv_at hl 0 rfl) ?_
  refine cr_X8_value (a := i0) S X Z hin_X8 hi0 hl_15 dX8_setFile_1 ?_
  refine lv_iload_n hx hb dX8_setFile_4 rfl (lv_at hl 1 rfl) ?_
  refine lv_iload_n hx hb dX8_setFile_5 rfl (lv_at hl 2 rfl) ?_
  refine g_iast (i := (52, i0, 0)) (n := 48) S X Z (cl_X8_value hi0) rfl dX8_setFile_6 h (fun M1 H locs Z h => ?_)
  refine lv_aload_n hx hb dX8_setFile_7 rfl (lv_at hl 0 rfl) ?_
  refine cr_X8_size (a := i0) S X Z hin_X8 hi0 hl_19 dX8_setFile_8 ?_
  refine lv_iload_n hx hb dX8_setFile_11 rfl (lv_at hl 1 rfl) ?_
  refine lv_iload_n hx hb dX8_setFile_12 rfl (lv_at hl 3 rfl) ?_
  refine g_iast (i := (53, i0, 0)) (n := 48) S X Z (cl_X8_size hi0) rfl dX8_setFile_13 h (fun M2 H locs Z h => ?_)
  have hy := Option.some.inj h
  subst hy
  exact g_rv S Z hr hlocks dX8_setFile_14
-- J7_fill_53178 ([II)V: 15 instructions
theorem dJ7_fill_53178_0 : decode cJ7_fill_53178 0 = .ok (.iconst 0, 1) := by decide +kernel
theorem dJ7_fill_53178_1 : decode cJ7_fill_53178 1 = .ok (.istore_n 2, 1) := by decide +kernel
theorem dJ7_fill_53178_2 : decode cJ7_fill_53178 2 = .ok (.aload_n 0, 1) := by decide +kernel
theorem dJ7_fill_53178_3 : decode cJ7_fill_53178 3 = .ok (.arraylength, 1) := by decide +kernel
theorem dJ7_fill_53178_4 : decode cJ7_fill_53178 4 = .ok (.istore_n 3, 1) := by decide +kernel
theorem dJ7_fill_53178_5 : decode cJ7_fill_53178 5 = .ok (.iload_n 2, 1) := by decide +kernel
theorem dJ7_fill_53178_6 : decode cJ7_fill_53178 6 = .ok (.iload_n 3, 1) := by decide +kernel
theorem dJ7_fill_53178_7 : decode cJ7_fill_53178 7 = .ok (.if_icmp .ge 13, 3) := by decide +kernel
theorem dJ7_fill_53178_10 : decode cJ7_fill_53178 10 = .ok (.aload_n 0, 1) := by decide +kernel
theorem dJ7_fill_53178_11 : decode cJ7_fill_53178 11 = .ok (.iload_n 2, 1) := by decide +kernel
theorem dJ7_fill_53178_12 : decode cJ7_fill_53178 12 = .ok (.iload_n 1, 1) := by decide +kernel
theorem dJ7_fill_53178_13 : decode cJ7_fill_53178 13 = .ok (.iastore, 1) := by decide +kernel
theorem dJ7_fill_53178_14 : decode cJ7_fill_53178 14 = .ok (.iinc 2 1, 3) := by decide +kernel
theorem dJ7_fill_53178_17 : decode cJ7_fill_53178 17 = .ok (.goto (-12), 3) := by decide +kernel
theorem dJ7_fill_53178_20 : decode cJ7_fill_53178 20 = .ok (.return_, 1) := by decide +kernel
abbrev wmJ7_fill_53178 : List Cond := .code yJ7_fill_53178 cJ7_fill_53178 4 none :: cBig
def f_J7_fill_53178_L5 (N : Nat) (a0 : gI) (a1 : Int32) (x1 : Int32) : Nat → Int32 → gM → Option gM
  | 0, _, _ => none
  | n4 + 1, x2, M3 => (if x1 ≤ x2 then some M3 else wr M3 a0 (cN N a0) x2 a1 (fun M6 => lt (x2 + 1) (fun x7 => f_J7_fill_53178_L5 N a0 a1 x1 n4 x7 M6)))
def f_J7_fill_53178 (N : Nat) (M : gM) (a0 : gI) (a1 : Int32) : Option gM :=
  lt ((nI (cN N a0))) (fun x1 => f_J7_fill_53178_L5 N a0 a1 x1 100 (0 : Int32) M)
set_option maxHeartbeats 4000000 in
set_option maxRecDepth 100000 in
theorem t_J7_fill_53178 (l : Launch) (N : Nat) (D : va_G) (dA : Nat → ClassId) (A : gI → Nat) (hJ : gJ (cLive N) A) {M : gM} {a0 : gI} {a1 : Int32} (ha0 : cArr N a0) {y : gM} (h : f_J7_fill_53178 N M a0 a1 = some y) : cMv l yJ7_fill_53178 wmJ7_fill_53178 ({ frames := 0, cells := 0, slots := 0, locals := 0 } : Room) N D dA A [.ref (A a0), .int a1] M y := by
  refine Met.ofW (cc := cJ7_fill_53178) (maxL := 4) (ret := none) (by decide) rfl ?_
  intro p e s m args below meth c s₁ B hml hv
  obtain ⟨rfl, hP, hK, hN⟩ := hv
  generalize hargs : ([.ref (A a0), .int a1] : List Value).toArray = args at B ⊢
  have S : CallFix p m c cJ7_fill_53178 4 s args wmJ7_fill_53178 RJ7 := ⟨B.exec, B.bytes, hml, findClass_of_methodNamed B.named, atoms_spec (ws := wmJ7_fill_53178) B.pre⟩
  obtain ⟨hx, hb, -, hown, hts⟩ := id S
  have hr := B.returns
  have hlocks := B.notSynchronized
  have X : gX D vwCl dA (cLive N) A (gA (cLive N) A) s := ⟨hK, hJ, fun i hi => ⟨i, hi, rfl⟩⟩
  have Z : gZ D (cLay N) dA (cLive N) A (gA (cLive N) A) s.heap M s.heap [] := ⟨hP, va_S.rf⟩
  have hl := lv_entry ([.ref (A a0), .int a1]) (n := 4) (Nat.le_of_ble_eq_true rfl)
  rw [← hargs, lg_entry_eq, hargs]
  generalize (lg_sl ([.ref (A a0), .int a1]) ++ List.replicate (4 - (lg_sl ([.ref (A a0), .int a1])).length) Slot.unset).toArray = ls at hl ⊢
  have hl : lv_has ls 4 [(0, .ref (A a0)), (1, .int a1)] := hl
  unfold f_J7_fill_53178 at h
  refine lv_iconst (v := (0 : Int32)) hx hb dJ7_fill_53178_0 (by decide) ?_
  refine lv_istore_n (lv' := [(2, .int (0 : Int32)), (0, .ref (A a0)), (1, .int a1)]) hx hb dJ7_fill_53178_1 rfl hl (by decide) rfl (fun ls hl => ?_)
  refine lv_aload_n hx hb dJ7_fill_53178_2 rfl (lv_at hl 1 rfl) ?_
  refine g_alI (ca := 0) rfl S X Z ha0.1 ha0.2 dJ7_fill_53178_3 ?_
  refine g_topi h (fun x1 h => ?_)
  refine lv_istore_n (lv' := [(3, .int x1), (2, .int (0 : Int32)), (0, .ref (A a0)), (1, .int a1)]) hx hb dJ7_fill_53178_4 rfl hl (by decide) rfl (fun ls hl => ?_)
  have hL5 : ∀ (n : Nat) (x2 : Int32) (M3 : gM) (H : Heap) (locs : List Loc) (ls : Array Slot), gZ D (cLay N) dA (cLive N) A (gA (cLive N) A) s.heap M3 H locs → lv_has ls 4 [(0, .ref (A a0)), (1, .int a1), (2, .int x2), (3, .int x1)] → f_J7_fill_53178_L5 N a0 a1 x1 n x2 M3 = some y → W p l e (headSpec wmJ7_fill_53178 ({ frames := 0, cells := 0, slots := 0, locals := 0 } : Room)).room s m args below meth c H locs 0 0 (MQ below (cQv N D dA A y) args s 0 0 (gA (cLive N) A)) (F0 m 5 ls []) := by
    intro n
    induction n with
    | zero =>
      intro x2 M3 H locs ls Z hl h
      rw [f_J7_fill_53178_L5] at h
      cases h
    | succ n4 ih5 =>
      intro x2 M3 H locs ls Z hl h
      rw [f_J7_fill_53178_L5] at h
      refine lv_iload_n hx hb dJ7_fill_53178_5 rfl (lv_at hl 2 rfl) ?_
      refine lv_iload_n hx hb dJ7_fill_53178_6 rfl (lv_at hl 3 rfl) ?_
      refine lv_icmp_ge (tgt := 20) hx hb dJ7_fill_53178_7 (by decide) (fun c5 => ?_) (fun c5 => ?_)
      · have h := if_t c5 h
        have hy := Option.some.inj h
        subst hy
        exact g_rv S Z hr hlocks dJ7_fill_53178_20
      · have h := if_f c5 h
        refine lv_aload_n hx hb dJ7_fill_53178_10 rfl (lv_at hl 0 rfl) ?_
        refine lv_iload_n hx hb dJ7_fill_53178_11 rfl (lv_at hl 2 rfl) ?_
        refine lv_iload_n hx hb dJ7_fill_53178_12 rfl (lv_at hl 1 rfl) ?_
        refine g_iast (i := a0) (n := (cN N a0)) S X Z ha0.1 ha0.2 dJ7_fill_53178_13 h (fun M6 H locs Z h => ?_)
        obtain ⟨x7, ex7, h⟩ := lt_e h
        refine lv_iinc (v := x7) (lv' := [(2, .int x7), (0, .ref (A a0)), (1, .int a1), (3, .int x1)]) hx hb dJ7_fill_53178_14 hl (k := 2) rfl (by rw [ex7]; rfl) (by decide) rfl (fun ls hl => ?_)
        refine lv_goto (tgt := 5) hx hb dJ7_fill_53178_17 (by decide) ?_
        exact ih5 x7 M6 _ _ _ Z (lv_sub hl [1, 2, 0, 3] rfl) h
  exact hL5 100 (0 : Int32) M _ _ _ Z (lv_sub hl [2, 3, 1, 0] rfl) h
-- X8_drop (I)V: 46 instructions
theorem dX8_drop_0 : decode cX8_drop 0 = .ok (.aload_n 0, 1) := by decide +kernel
theorem dX8_drop_1 : decode cX8_drop 1 = .ok (.getfield 9, 3) := by decide +kernel
theorem dX8_drop_4 : decode cX8_drop 4 = .ok (.iload_n 1, 1) := by decide +kernel
theorem dX8_drop_5 : decode cX8_drop 5 = .ok (.iconst 0, 1) := by decide +kernel
theorem dX8_drop_6 : decode cX8_drop 6 = .ok (.bastore, 1) := by decide +kernel
theorem dX8_drop_7 : decode cX8_drop 7 = .ok (.aload_n 0, 1) := by decide +kernel
theorem dX8_drop_8 : decode cX8_drop 8 = .ok (.iload_n 1, 1) := by decide +kernel
theorem dX8_drop_9 : decode cX8_drop 9 = .ok (.iconst 0, 1) := by decide +kernel
theorem dX8_drop_10 : decode cX8_drop 10 = .ok (.iconst 0, 1) := by decide +kernel
theorem dX8_drop_11 : decode cX8_drop 11 = .ok (.invokevirtual 37, 3) := by decide +kernel
theorem dX8_drop_14 : decode cX8_drop 14 = .ok (.aload_n 0, 1) := by decide +kernel
theorem dX8_drop_15 : decode cX8_drop 15 = .ok (.getfield 31, 3) := by decide +kernel
theorem dX8_drop_18 : decode cX8_drop 18 = .ok (.iload_n 1, 1) := by decide +kernel
theorem dX8_drop_19 : decode cX8_drop 19 = .ok (.aaload, 1) := by decide +kernel
theorem dX8_drop_20 : decode cX8_drop 20 = .ok (.iconst 0, 1) := by decide +kernel
theorem dX8_drop_21 : decode cX8_drop 21 = .ok (.invokestatic 41, 3) := by decide +kernel
theorem dX8_drop_24 : decode cX8_drop 24 = .ok (.iload_n 1, 1) := by decide +kernel
theorem dX8_drop_25 : decode cX8_drop 25 = .ok (.iconst 1, 1) := by decide +kernel
theorem dX8_drop_26 : decode cX8_drop 26 = .ok (.iadd, 1) := by decide +kernel
theorem dX8_drop_27 : decode cX8_drop 27 = .ok (.istore_n 2, 1) := by decide +kernel
theorem dX8_drop_28 : decode cX8_drop 28 = .ok (.iload_n 2, 1) := by decide +kernel
theorem dX8_drop_29 : decode cX8_drop 29 = .ok (.aload_n 0, 1) := by decide +kernel
theorem dX8_drop_30 : decode cX8_drop 30 = .ok (.getfield 25, 3) := by decide +kernel
theorem dX8_drop_33 : decode cX8_drop 33 = .ok (.getfield 51, 3) := by decide +kernel
theorem dX8_drop_36 : decode cX8_drop 36 = .ok (.if_icmp .gt 39, 3) := by decide +kernel
theorem dX8_drop_39 : decode cX8_drop 39 = .ok (.aload_n 0, 1) := by decide +kernel
theorem dX8_drop_40 : decode cX8_drop 40 = .ok (.getfield 25, 3) := by decide +kernel
theorem dX8_drop_43 : decode cX8_drop 43 = .ok (.getfield 57, 3) := by decide +kernel
theorem dX8_drop_46 : decode cX8_drop 46 = .ok (.iload_n 2, 1) := by decide +kernel
theorem dX8_drop_47 : decode cX8_drop 47 = .ok (.iaload, 1) := by decide +kernel
theorem dX8_drop_48 : decode cX8_drop 48 = .ok (.iload_n 1, 1) := by decide +kernel
theorem dX8_drop_49 : decode cX8_drop 49 = .ok (.if_icmp .ne 20, 3) := by decide +kernel
theorem dX8_drop_52 : decode cX8_drop 52 = .ok (.aload_n 0, 1) := by decide +kernel
theorem dX8_drop_53 : decode cX8_drop 53 = .ok (.getfield 22, 3) := by decide +kernel
theorem dX8_drop_56 : decode cX8_drop 56 = .ok (.iload_n 2, 1) := by decide +kernel
theorem dX8_drop_57 : decode cX8_drop 57 = .ok (.iconst 0, 1) := by decide +kernel
theorem dX8_drop_58 : decode cX8_drop 58 = .ok (.iastore, 1) := by decide +kernel
theorem dX8_drop_59 : decode cX8_drop 59 = .ok (.aload_n 0, 1) := by decide +kernel
theorem dX8_drop_60 : decode cX8_drop 60 = .ok (.getfield 34, 3) := by decide +kernel
theorem dX8_drop_63 : decode cX8_drop 63 = .ok (.iload_n 2, 1) := by decide +kernel
theorem dX8_drop_64 : decode cX8_drop 64 = .ok (.aaload, 1) := by decide +kernel
theorem dX8_drop_65 : decode cX8_drop 65 = .ok (.iconst 0, 1) := by decide +kernel
theorem dX8_drop_66 : decode cX8_drop 66 = .ok (.invokestatic 41, 3) := by decide +kernel
theorem dX8_drop_69 : decode cX8_drop 69 = .ok (.iinc 2 1, 3) := by decide +kernel
theorem dX8_drop_72 : decode cX8_drop 72 = .ok (.goto (-44), 3) := by decide +kernel
theorem dX8_drop_75 : decode cX8_drop 75 = .ok (.return_, 1) := by decide +kernel
abbrev wmX8_drop : List Cond := .code yX8_drop cX8_drop 3 none :: cBig
def f_X8_drop_L28 (N : Nat) (i0 : Nat) (a1 : Int32) : Nat → Int32 → gM → Option gM
  | 0, _, _ => none
  | n10 + 1, x8, M9 => lt (M9 (1, 0, 0) 3) (fun v11 => (if v11 < x8 then some M9 else rd M9 (2, 0, 0) 48 x8 (fun v13 => jn (fun (M14 : gM) => lt (x8 + 1) (fun x15 => f_X8_drop_L28 N i0 a1 n10 x15 M14)) (fun J69 => (if v13 = a1 then wr M9 (56, i0, 0) 48 x8 (0 : Int32) (fun M17 => ix x8 48 (fun v18 => o1 (f_J7_fill_53178 N M17 (58, i0, v18) (0 : Int32)) (fun M20 => J69 M20))) else J69 M9)))))
def f_X8_drop (N : Nat) (M : gM) (i0 : Nat) (a1 : Int32) : Option gM :=
  wz M (51, i0, 0) 48 a1 (0 : Int32) (fun M1 => o1 (f_X8_setFile N M1 i0 a1 (0 : Int32) (0 : Int32)) (fun M3 => ix a1 48 (fun v4 => o1 (f_J7_fill_53178 N M3 (55, i0, v4) (0 : Int32)) (fun M6 => lt ((a1 + (1 : Int32))) (fun x7 => f_X8_drop_L28 N i0 a1 100 x7 M6)))))
set_option maxHeartbeats 4000000 in
set_option maxRecDepth 100000 in
theorem t_X8_drop (l : Launch) (N : Nat) (D : va_G) (dA : Nat → ClassId) (A : gI → Nat) (hJ : gJ (cLive N) A) {M : gM} {i0 : Nat} {a1 : Int32} (hi0 : cLive N (50, i0, 0)) {y : gM} (h : f_X8_drop N M i0 a1 = some y) : cMv l yX8_drop wmX8_drop ({ frames := 1, cells := 0, slots := 0, locals := 23 } : Room) N D dA A [.ref (A (50, i0, 0)), .int a1] M y := by
  refine Met.ofW (cc := cX8_drop) (maxL := 3) (ret := none) (by decide) rfl ?_
  intro p e s m args below meth c s₁ B hml hv
  obtain ⟨rfl, hP, hK, hN⟩ := hv
  generalize hargs : ([.ref (A (50, i0, 0)), .int a1] : List Value).toArray = args at B ⊢
  have S : CallFix p m c cX8_drop 3 s args wmX8_drop RX8 := ⟨B.exec, B.bytes, hml, findClass_of_methodNamed B.named, atoms_spec (ws := wmX8_drop) B.pre⟩
  obtain ⟨hx, hb, -, hown, hts⟩ := id S
  have hr := B.returns
  have hlocks := B.notSynchronized
  have X : gX D vwCl dA (cLive N) A (gA (cLive N) A) s := ⟨hK, hJ, fun i hi => ⟨i, hi, rfl⟩⟩
  have Z : gZ D (cLay N) dA (cLive N) A (gA (cLive N) A) s.heap M s.heap [] := ⟨hP, va_S.rf⟩
  have hin_X0 : ∀ w ∈ wsX00, w ∈ wmX8_drop := cin_X0
  have hin_X8 : ∀ w ∈ wsX80, w ∈ wmX8_drop := cin_X8
  have hl_9 := hts (.fieldLink RX8 9 "ReplicaFiles$Tree" "held" "[Z") (cBc 19 rfl)
  have hl_22 := hts (.fieldLink RX8 22 "ReplicaFiles$Tree" "state" "[I") (cBc 22 rfl)
  have hl_25 := hts (.fieldLink RX8 25 "ReplicaFiles$Tree" "catalog" "LReplicaFiles$Catalog;") (cBc 23 rfl)
  have hl_31 := hts (.fieldLink RX8 31 "ReplicaFiles$Tree" "counts" "[[I") (cBc 25 rfl)
  have hl_34 := hts (.fieldLink RX8 34 "ReplicaFiles$Tree" "goneCounts" "[[I") (cBc 26 rfl)
  have hl_51 := va_Nw.use (A := args) rfl (hN.1 ("ReplicaFiles$Tree", 51, "ReplicaFiles$Catalog", "made", "I", "ReplicaFiles") (by decide +kernel))
  have hl_57 := va_Nw.use (A := args) rfl (hN.1 ("ReplicaFiles$Tree", 57, "ReplicaFiles$Catalog", "parent", "[I", "ReplicaFiles") (by decide +kernel))
  have hl := lv_entry ([.ref (A (50, i0, 0)), .int a1]) (n := 3) (Nat.le_of_ble_eq_true rfl)
  rw [← hargs, lg_entry_eq, hargs]
  generalize (lg_sl ([.ref (A (50, i0, 0)), .int a1]) ++ List.replicate (3 - (lg_sl ([.ref (A (50, i0, 0)), .int a1])).length) Slot.unset).toArray = ls at hl ⊢
  have hl : lv_has ls 3 [(0, .ref (A (50, i0, 0))), (1, .int a1)] := hl
  unfold f_X8_drop at h
  refine lv_aload_n hx hb dX8_drop_0 rfl (lv_at hl 0 rfl) ?_
  refine cr_X8_held (a := i0) S X Z hin_X8 hi0 hl_9 dX8_drop_1 ?_
  refine lv_iload_n hx hb dX8_drop_4 rfl (lv_at hl 1 rfl) ?_
  refine lv_iconst (v := (0 : Int32)) hx hb dX8_drop_5 (by decide) ?_
  refine g_zast (i := (51, i0, 0)) (n := 48) S X Z (cl_X8_held hi0) rfl dX8_drop_6 h (fun M1 H locs Z h => ?_)
  refine lv_aload_n hx hb dX8_drop_7 rfl (lv_at hl 0 rfl) ?_
  refine lv_iload_n hx hb dX8_drop_8 rfl (lv_at hl 1 rfl) ?_
  refine lv_iconst (v := (0 : Int32)) hx hb dX8_drop_9 (by decide) ?_
  refine lv_iconst (v := (0 : Int32)) hx hb dX8_drop_10 (by decide) ?_
  obtain ⟨M3, hc2, h⟩ := o1_e h
  refine c_v X Z (c_V (i := (50, i0, 0)) (As := [.int a1, .int (0 : Int32), .int (0 : Int32)]) (rest := []) S X hN Z hi0 rfl rfl (t_X8_setFile l N D dA A hJ hi0 hc2) (cwV 3 hts (cGV (cB 70 rfl) (cB 71 rfl) (cB 72 rfl) (cB 44 rfl) (cB 67 rfl)) rfl rfl rfl (by decide +kernel) ⟨Nat.le_of_ble_eq_true rfl, Nat.le_of_ble_eq_true rfl⟩) rfl hl.1 rfl (Nat.le_of_ble_eq_true rfl) dX8_drop_11 ⟨Nat.zero_le _, Nat.zero_le _⟩) (fun H locs Z => ?_)
  refine lv_aload_n hx hb dX8_drop_14 rfl (lv_at hl 0 rfl) ?_
  refine cr_X8_counts (a := i0) S X Z hin_X8 hi0 hl_31 dX8_drop_15 ?_
  refine lv_iload_n hx hb dX8_drop_18 rfl (lv_at hl 1 rfl) ?_
  refine g_aald (i := (54, i0, 0)) (ca := 5) ⟨rfl, rfl⟩ S X Z (cl_X8_counts hi0) rfl dX8_drop_19 h (fun v4 hv4 h => ?_)
  refine lv_iconst (v := (0 : Int32)) hx hb dX8_drop_20 (by decide) ?_
  obtain ⟨M6, hc5, h⟩ := o1_e h
  refine c_v X Z (c_S (As := [.ref (A (55, i0, v4)), .int (0 : Int32)]) (rest := []) S X hN Z (t_J7_fill_53178 l N D dA A hJ ⟨(cl_55 (cl_X8_counts hi0) hv4), rfl⟩ hc5) (va_cwS 2 hts (cGS (cB 73 rfl) (cB 74 rfl) (cB 75 rfl) (cB 68 rfl)) rfl rfl rfl (by decide +kernel) ⟨Nat.le_of_ble_eq_true rfl, Nat.le_of_ble_eq_true rfl⟩) rfl hl.1 rfl (Nat.le_of_ble_eq_true rfl) dX8_drop_21 ⟨Nat.zero_le _, Nat.zero_le _⟩) (fun H locs Z => ?_)
  refine lv_iload_n hx hb dX8_drop_24 rfl (lv_at hl 1 rfl) ?_
  refine lv_iconst (v := (1 : Int32)) hx hb dX8_drop_25 (by decide) ?_
  refine lv_iadd hx hb dX8_drop_26 ?_
  refine g_topi h (fun x7 h => ?_)
  refine lv_istore_n (lv' := [(2, .int x7), (0, .ref (A (50, i0, 0))), (1, .int a1)]) hx hb dX8_drop_27 rfl hl (by decide) rfl (fun ls hl => ?_)
  have hL28 : ∀ (n : Nat) (x8 : Int32) (M9 : gM) (H : Heap) (locs : List Loc) (ls : Array Slot), gZ D (cLay N) dA (cLive N) A (gA (cLive N) A) s.heap M9 H locs → lv_has ls 3 [(0, .ref (A (50, i0, 0))), (1, .int a1), (2, .int x8)] → f_X8_drop_L28 N i0 a1 n x8 M9 = some y → W p l e (headSpec wmX8_drop ({ frames := 1, cells := 0, slots := 0, locals := 23 } : Room)).room s m args below meth c H locs 0 0 (MQ below (cQv N D dA A y) args s 0 0 (gA (cLive N) A)) (F0 m 28 ls []) := by
    intro n
    induction n with
    | zero =>
      intro x8 M9 H locs ls Z hl h
      rw [f_X8_drop_L28] at h
      cases h
    | succ n10 ih28 =>
      intro x8 M9 H locs ls Z hl h
      rw [f_X8_drop_L28] at h
      refine lv_iload_n hx hb dX8_drop_28 rfl (lv_at hl 2 rfl) ?_
      refine lv_aload_n hx hb dX8_drop_29 rfl (lv_at hl 0 rfl) ?_
      refine cr_X8_catalog (a := i0) S X Z hin_X8 hi0 hl_25 dX8_drop_30 ?_
      refine cn_X0_made S X Z hin_X0 (cl_one N 1 (by decide)) hl_51 dX8_drop_33 h (fun v11 h => ?_)
      refine lv_icmp_gt (tgt := 75) hx hb dX8_drop_36 (by decide) (fun c12 => ?_) (fun c12 => ?_)
      · have h := if_t c12 h
        have hy := Option.some.inj h
        subst hy
        exact g_rv S Z hr hlocks dX8_drop_75
      · have h := if_f c12 h
        refine lv_aload_n hx hb dX8_drop_39 rfl (lv_at hl 0 rfl) ?_
        refine cr_X8_catalog (a := i0) S X Z hin_X8 hi0 hl_25 dX8_drop_40 ?_
        refine cn_X0_parent S X Z hin_X0 (cl_one N 1 (by decide)) hl_57 dX8_drop_43 ?_
        refine lv_iload_n hx hb dX8_drop_46 rfl (lv_at hl 2 rfl) ?_
        refine g_iald (i := (2, 0, 0)) (n := 48) S X Z (cl_one N 2 (by decide)) rfl dX8_drop_47 h (fun v13 h => ?_)
        refine lv_iload_n hx hb dX8_drop_48 rfl (lv_at hl 1 rfl) ?_
        obtain ⟨J69, eJ69, h⟩ := jn_e h
        have hJ69 : ∀ (M14 : gM) (H : Heap) (locs : List Loc) (ls : Array Slot), gZ D (cLay N) dA (cLive N) A (gA (cLive N) A) s.heap M14 H locs → lv_has ls 3 [(0, .ref (A (50, i0, 0))), (1, .int a1), (2, .int x8)] → J69 M14 = some y → W p l e (headSpec wmX8_drop ({ frames := 1, cells := 0, slots := 0, locals := 23 } : Room)).room s m args below meth c H locs 0 0 (MQ below (cQv N D dA A y) args s 0 0 (gA (cLive N) A)) (F0 m 69 ls []) := by
          intro M14 H locs ls Z hl h
          rw [eJ69] at h
          try dsimp only at h
          obtain ⟨x15, ex15, h⟩ := lt_e h
          refine lv_iinc (v := x15) (lv' := [(2, .int x15), (0, .ref (A (50, i0, 0))), (1, .int a1)]) hx hb dX8_drop_69 hl (k := 2) rfl (by rw [ex15]; rfl) (by decide) rfl (fun ls hl => ?_)
          refine lv_goto (tgt := 28) hx hb dX8_drop_72 (by decide) ?_
          exact ih28 x15 M14 _ _ _ Z (lv_sub hl [1, 2, 0] rfl) h
        refine lv_icmp_ne (tgt := 69) hx hb dX8_drop_49 (by decide) (fun c16 => ?_) (fun c16 => ?_)
        · have h := if_f c16 h
          exact hJ69 M9 _ _ _ Z (lv_sub hl [0, 1, 2] rfl) h
        · have h := if_t c16 h
          refine lv_aload_n hx hb dX8_drop_52 rfl (lv_at hl 0 rfl) ?_
          refine cr_X8_state (a := i0) S X Z hin_X8 hi0 hl_22 dX8_drop_53 ?_
          refine lv_iload_n hx hb dX8_drop_56 rfl (lv_at hl 2 rfl) ?_
          refine lv_iconst (v := (0 : Int32)) hx hb dX8_drop_57 (by decide) ?_
          refine g_iast (i := (56, i0, 0)) (n := 48) S X Z (cl_X8_state hi0) rfl dX8_drop_58 h (fun M17 H locs Z h => ?_)
          refine lv_aload_n hx hb dX8_drop_59 rfl (lv_at hl 0 rfl) ?_
          refine cr_X8_goneCounts (a := i0) S X Z hin_X8 hi0 hl_34 dX8_drop_60 ?_
          refine lv_iload_n hx hb dX8_drop_63 rfl (lv_at hl 2 rfl) ?_
          refine g_aald (i := (57, i0, 0)) (ca := 5) ⟨rfl, rfl⟩ S X Z (cl_X8_goneCounts hi0) rfl dX8_drop_64 h (fun v18 hv18 h => ?_)
          refine lv_iconst (v := (0 : Int32)) hx hb dX8_drop_65 (by decide) ?_
          obtain ⟨M20, hc19, h⟩ := o1_e h
          refine c_v X Z (c_S (As := [.ref (A (58, i0, v18)), .int (0 : Int32)]) (rest := []) S X hN Z (t_J7_fill_53178 l N D dA A hJ ⟨(cl_58 (cl_X8_goneCounts hi0) hv18), rfl⟩ hc19) (va_cwS 2 hts (cGS (cB 73 rfl) (cB 74 rfl) (cB 75 rfl) (cB 68 rfl)) rfl rfl rfl (by decide +kernel) ⟨Nat.le_of_ble_eq_true rfl, Nat.le_of_ble_eq_true rfl⟩) rfl hl.1 rfl (Nat.le_of_ble_eq_true rfl) dX8_drop_66 ⟨Nat.zero_le _, Nat.zero_le _⟩) (fun H locs Z => ?_)
          exact hJ69 M20 _ _ _ Z (lv_sub hl [0, 1, 2] rfl) h
  exact hL28 100 x7 M6 _ _ _ Z (lv_sub hl [1, 2, 0] rfl) h
-- X1_drop (I)V: 15 instructions
theorem dX1_drop_0 : decode cX1_drop 0 = .ok (.aload_n 0, 1) := by decide +kernel
theorem dX1_drop_1 : decode cX1_drop 1 = .ok (.getfield 41, 3) := by decide +kernel
theorem dX1_drop_4 : decode cX1_drop 4 = .ok (.iload_n 1, 1) := by decide +kernel
theorem dX1_drop_5 : decode cX1_drop 5 = .ok (.invokevirtual 68, 3) := by decide +kernel
theorem dX1_drop_8 : decode cX1_drop 8 = .ok (.aload_n 0, 1) := by decide +kernel
theorem dX1_drop_9 : decode cX1_drop 9 = .ok (.getfield 15, 3) := by decide +kernel
theorem dX1_drop_12 : decode cX1_drop 12 = .ok (.iload_n 1, 1) := by decide +kernel
theorem dX1_drop_13 : decode cX1_drop 13 = .ok (.iconst 0, 1) := by decide +kernel
theorem dX1_drop_14 : decode cX1_drop 14 = .ok (.iastore, 1) := by decide +kernel
theorem dX1_drop_15 : decode cX1_drop 15 = .ok (.aload_n 0, 1) := by decide +kernel
theorem dX1_drop_16 : decode cX1_drop 16 = .ok (.getfield 18, 3) := by decide +kernel
theorem dX1_drop_19 : decode cX1_drop 19 = .ok (.iload_n 1, 1) := by decide +kernel
theorem dX1_drop_20 : decode cX1_drop 20 = .ok (.iconst 0, 1) := by decide +kernel
theorem dX1_drop_21 : decode cX1_drop 21 = .ok (.bastore, 1) := by decide +kernel
theorem dX1_drop_22 : decode cX1_drop 22 = .ok (.return_, 1) := by decide +kernel
abbrev wmX1_drop : List Cond := .code yX1_drop cX1_drop 2 none :: cBig
def f_X1_drop (N : Nat) (M : gM) (i0 : Nat) (a1 : Int32) : Option gM :=
  o1 (f_X8_drop N M (4 + i0) a1) (fun M2 => wr M2 (32, i0, 0) 48 a1 (0 : Int32) (fun M3 => wz M3 (33, i0, 0) 48 a1 (0 : Int32) (fun M4 => some M4)))
set_option maxHeartbeats 4000000 in
set_option maxRecDepth 100000 in
theorem t_X1_drop (l : Launch) (N : Nat) (D : va_G) (dA : Nat → ClassId) (A : gI → Nat) (hJ : gJ (cLive N) A) {M : gM} {i0 : Nat} {a1 : Int32} (hi0 : cLive N (30, i0, 0)) {y : gM} (h : f_X1_drop N M i0 a1 = some y) : cMv l yX1_drop wmX1_drop ({ frames := 2, cells := 0, slots := 0, locals := 45 } : Room) N D dA A [.ref (A (30, i0, 0)), .int a1] M y := by
  refine Met.ofW (cc := cX1_drop) (maxL := 2) (ret := none) (by decide) rfl ?_
  intro p e s m args below meth c s₁ B hml hv
  obtain ⟨rfl, hP, hK, hN⟩ := hv
  generalize hargs : ([.ref (A (30, i0, 0)), .int a1] : List Value).toArray = args at B ⊢
  have S : CallFix p m c cX1_drop 2 s args wmX1_drop RX1 := ⟨B.exec, B.bytes, hml, findClass_of_methodNamed B.named, atoms_spec (ws := wmX1_drop) B.pre⟩
  obtain ⟨hx, hb, -, hown, hts⟩ := id S
  have hr := B.returns
  have hlocks := B.notSynchronized
  have X : gX D vwCl dA (cLive N) A (gA (cLive N) A) s := ⟨hK, hJ, fun i hi => ⟨i, hi, rfl⟩⟩
  have Z : gZ D (cLay N) dA (cLive N) A (gA (cLive N) A) s.heap M s.heap [] := ⟨hP, va_S.rf⟩
  have hin_X1 : ∀ w ∈ wsX10, w ∈ wmX1_drop := cin_X1
  have hl_15 := hts (.fieldLink RX1 15 "ReplicaFiles$Client" "promised" "[I") (cBc 36 rfl)
  have hl_18 := hts (.fieldLink RX1 18 "ReplicaFiles$Client" "dirty" "[Z") (cBc 37 rfl)
  have hl_41 := hts (.fieldLink RX1 41 "ReplicaFiles$Client" "tree" "LReplicaFiles$Tree;") (cBc 45 rfl)
  have hl := lv_entry ([.ref (A (30, i0, 0)), .int a1]) (n := 2) (Nat.le_of_ble_eq_true rfl)
  rw [← hargs, lg_entry_eq, hargs]
  generalize (lg_sl ([.ref (A (30, i0, 0)), .int a1]) ++ List.replicate (2 - (lg_sl ([.ref (A (30, i0, 0)), .int a1])).length) Slot.unset).toArray = ls at hl ⊢
  have hl : lv_has ls 2 [(0, .ref (A (30, i0, 0))), (1, .int a1)] := hl
  unfold f_X1_drop at h
  refine lv_aload_n hx hb dX1_drop_0 rfl (lv_at hl 0 rfl) ?_
  refine cr_X1_tree (a := i0) S X Z hin_X1 hi0 hl_41 dX1_drop_1 ?_
  refine lv_iload_n hx hb dX1_drop_4 rfl (lv_at hl 1 rfl) ?_
  obtain ⟨M2, hc1, h⟩ := o1_e h
  refine c_v X Z (c_V (i := (50, (4 + i0), 0)) (As := [.int a1]) (rest := []) S X hN Z (cl_ct hi0) rfl rfl (t_X8_drop l N D dA A hJ (cl_ct hi0) hc1) (cwV 1 hts (cGV (cB 77 rfl) (cB 78 rfl) (cB 79 rfl) (cB 44 rfl) (cB 69 rfl)) rfl rfl rfl (by decide +kernel) ⟨Nat.le_of_ble_eq_true rfl, Nat.le_of_ble_eq_true rfl⟩) rfl hl.1 rfl (Nat.le_of_ble_eq_true rfl) dX1_drop_5 ⟨Nat.zero_le _, Nat.zero_le _⟩) (fun H locs Z => ?_)
  refine lv_aload_n hx hb dX1_drop_8 rfl (lv_at hl 0 rfl) ?_
  refine cr_X1_promised (a := i0) S X Z hin_X1 hi0 hl_15 dX1_drop_9 ?_
  refine lv_iload_n hx hb dX1_drop_12 rfl (lv_at hl 1 rfl) ?_
  refine lv_iconst (v := (0 : Int32)) hx hb dX1_drop_13 (by decide) ?_
  refine g_iast (i := (32, i0, 0)) (n := 48) S X Z (cl_X1_promised hi0) rfl dX1_drop_14 h (fun M3 H locs Z h => ?_)
  refine lv_aload_n hx hb dX1_drop_15 rfl (lv_at hl 0 rfl) ?_
  refine cr_X1_dirty (a := i0) S X Z hin_X1 hi0 hl_18 dX1_drop_16 ?_
  refine lv_iload_n hx hb dX1_drop_19 rfl (lv_at hl 1 rfl) ?_
  refine lv_iconst (v := (0 : Int32)) hx hb dX1_drop_20 (by decide) ?_
  refine g_zast (i := (33, i0, 0)) (n := 48) S X Z (cl_X1_dirty hi0) rfl dX1_drop_21 h (fun M4 H locs Z h => ?_)
  have hy := Option.some.inj h
  subst hy
  exact g_rv S Z hr hlocks dX1_drop_22
-- X1_fullWeight (II)I: 12 instructions
theorem dX1_fullWeight_0 : decode cX1_fullWeight 0 = .ok (.aload_n 0, 1) := by decide +kernel
theorem dX1_fullWeight_1 : decode cX1_fullWeight 1 = .ok (.getfield 29, 3) := by decide +kernel
theorem dX1_fullWeight_4 : decode cX1_fullWeight 4 = .ok (.getfield 78, 3) := by decide +kernel
theorem dX1_fullWeight_7 : decode cX1_fullWeight 7 = .ok (.iload_n 1, 1) := by decide +kernel
theorem dX1_fullWeight_8 : decode cX1_fullWeight 8 = .ok (.baload, 1) := by decide +kernel
theorem dX1_fullWeight_9 : decode cX1_fullWeight 9 = .ok (.ifCond .eq 7, 3) := by decide +kernel
theorem dX1_fullWeight_12 : decode cX1_fullWeight 12 = .ok (.iconst 2, 1) := by decide +kernel
theorem dX1_fullWeight_13 : decode cX1_fullWeight 13 = .ok (.goto 6, 3) := by decide +kernel
theorem dX1_fullWeight_16 : decode cX1_fullWeight 16 = .ok (.iconst 1, 1) := by decide +kernel
theorem dX1_fullWeight_17 : decode cX1_fullWeight 17 = .ok (.iload_n 2, 1) := by decide +kernel
theorem dX1_fullWeight_18 : decode cX1_fullWeight 18 = .ok (.iadd, 1) := by decide +kernel
theorem dX1_fullWeight_19 : decode cX1_fullWeight 19 = .ok (.ireturn, 1) := by decide +kernel
abbrev wmX1_fullWeight : List Cond := .code yX1_fullWeight cX1_fullWeight 3 (some .int) :: cBig
def f_X1_fullWeight (N : Nat) (M : gM) (i0 : Nat) (a1 : Int32) (a2 : Int32) : Option Int32 :=
  rd M (4, 0, 0) 48 a1 (fun v1 => (if v1 = 0 then some ((1 : Int32) + a2) else some (2 : Int32)))
set_option maxHeartbeats 4000000 in
set_option maxRecDepth 100000 in
theorem t_X1_fullWeight (l : Launch) (N : Nat) (D : va_G) (dA : Nat → ClassId) (A : gI → Nat) (hJ : gJ (cLive N) A) {M : gM} {i0 : Nat} {a1 : Int32} {a2 : Int32} (hi0 : cLive N (30, i0, 0)) {y : Int32} (h : f_X1_fullWeight N M i0 a1 a2 = some y) : cMi l yX1_fullWeight wmX1_fullWeight ({ frames := 0, cells := 0, slots := 0, locals := 0 } : Room) N D dA A [.ref (A (30, i0, 0)), .int a1, .int a2] M y M := by
  refine Met.ofW (cc := cX1_fullWeight) (maxL := 3) (ret := (some .int)) (by decide) rfl ?_
  intro p e s m args below meth c s₁ B hml hv
  obtain ⟨rfl, hP, hK, hN⟩ := hv
  generalize hargs : ([.ref (A (30, i0, 0)), .int a1, .int a2] : List Value).toArray = args at B ⊢
  have S : CallFix p m c cX1_fullWeight 3 s args wmX1_fullWeight RX1 := ⟨B.exec, B.bytes, hml, findClass_of_methodNamed B.named, atoms_spec (ws := wmX1_fullWeight) B.pre⟩
  obtain ⟨hx, hb, -, hown, hts⟩ := id S
  have hr := B.returns
  have hlocks := B.notSynchronized
  have X : gX D vwCl dA (cLive N) A (gA (cLive N) A) s := ⟨hK, hJ, fun i hi => ⟨i, hi, rfl⟩⟩
  have Z : gZ D (cLay N) dA (cLive N) A (gA (cLive N) A) s.heap M s.heap [] := ⟨hP, va_S.rf⟩
  have hin_X0 : ∀ w ∈ wsX00, w ∈ wmX1_fullWeight := cin_X0
  have hin_X1 : ∀ w ∈ wsX10, w ∈ wmX1_fullWeight := cin_X1
  have hl_29 := hts (.fieldLink RX1 29 "ReplicaFiles$Client" "catalog" "LReplicaFiles$Catalog;") (cBc 40 rfl)
  have hl_78 := va_Nw.use (A := args) rfl (hN.1 ("ReplicaFiles$Client", 78, "ReplicaFiles$Catalog", "isDirectory", "[Z", "ReplicaFiles") (by decide +kernel))
  have hl := lv_entry ([.ref (A (30, i0, 0)), .int a1, .int a2]) (n := 3) (Nat.le_of_ble_eq_true rfl)
  rw [← hargs, lg_entry_eq, hargs]
  generalize (lg_sl ([.ref (A (30, i0, 0)), .int a1, .int a2]) ++ List.replicate (3 - (lg_sl ([.ref (A (30, i0, 0)), .int a1, .int a2])).length) Slot.unset).toArray = ls at hl ⊢
  have hl : lv_has ls 3 [(0, .ref (A (30, i0, 0))), (1, .int a1), (2, .int a2)] := hl
  unfold f_X1_fullWeight at h
  refine lv_aload_n hx hb dX1_fullWeight_0 rfl (lv_at hl 0 rfl) ?_
  refine cr_X1_catalog (a := i0) S X Z hin_X1 hi0 hl_29 dX1_fullWeight_1 ?_
  refine cn_X0_isDirectory S X Z hin_X0 (cl_one N 1 (by decide)) hl_78 dX1_fullWeight_4 ?_
  refine lv_iload_n hx hb dX1_fullWeight_7 rfl (lv_at hl 1 rfl) ?_
  refine g_zald (i := (4, 0, 0)) (n := 48) S X Z (cl_one N 4 (by decide)) rfl dX1_fullWeight_8 h (fun v1 h => ?_)
  refine lv_if_eq (tgt := 16) hx hb dX1_fullWeight_9 (by decide) (fun c2 => ?_) (fun c2 => ?_)
  · have h := if_t c2 h
    refine lv_iconst (v := (1 : Int32)) hx hb dX1_fullWeight_16 (by decide) ?_
    refine lv_iload_n hx hb dX1_fullWeight_17 rfl (lv_at hl 2 rfl) ?_
    refine lv_iadd hx hb dX1_fullWeight_18 ?_
    have hy := Option.some.inj h
    subst hy
    exact g_ri S Z hr hlocks dX1_fullWeight_19
  · have h := if_f c2 h
    refine lv_iconst (v := (2 : Int32)) hx hb dX1_fullWeight_12 (by decide) ?_
    refine lv_goto (tgt := 19) hx hb dX1_fullWeight_13 (by decide) ?_
    have hy := Option.some.inj h
    subst hy
    exact g_ri S Z hr hlocks dX1_fullWeight_19
-- X1_weightOf (I)I: 17 instructions
theorem dX1_weightOf_0 : decode cX1_weightOf 0 = .ok (.aload_n 0, 1) := by decide +kernel
theorem dX1_weightOf_1 : decode cX1_weightOf 1 = .ok (.getfield 41, 3) := by decide +kernel
theorem dX1_weightOf_4 : decode cX1_weightOf 4 = .ok (.getfield 60, 3) := by decide +kernel
theorem dX1_weightOf_7 : decode cX1_weightOf 7 = .ok (.iload_n 1, 1) := by decide +kernel
theorem dX1_weightOf_8 : decode cX1_weightOf 8 = .ok (.baload, 1) := by decide +kernel
theorem dX1_weightOf_9 : decode cX1_weightOf 9 = .ok (.ifCond .ne 5, 3) := by decide +kernel
theorem dX1_weightOf_12 : decode cX1_weightOf 12 = .ok (.iconst 0, 1) := by decide +kernel
theorem dX1_weightOf_13 : decode cX1_weightOf 13 = .ok (.ireturn, 1) := by decide +kernel
theorem dX1_weightOf_14 : decode cX1_weightOf 14 = .ok (.aload_n 0, 1) := by decide +kernel
theorem dX1_weightOf_15 : decode cX1_weightOf 15 = .ok (.iload_n 1, 1) := by decide +kernel
theorem dX1_weightOf_16 : decode cX1_weightOf 16 = .ok (.aload_n 0, 1) := by decide +kernel
theorem dX1_weightOf_17 : decode cX1_weightOf 17 = .ok (.getfield 41, 3) := by decide +kernel
theorem dX1_weightOf_20 : decode cX1_weightOf 20 = .ok (.getfield 71, 3) := by decide +kernel
theorem dX1_weightOf_23 : decode cX1_weightOf 23 = .ok (.iload_n 1, 1) := by decide +kernel
theorem dX1_weightOf_24 : decode cX1_weightOf 24 = .ok (.iaload, 1) := by decide +kernel
theorem dX1_weightOf_25 : decode cX1_weightOf 25 = .ok (.invokevirtual 74, 3) := by decide +kernel
theorem dX1_weightOf_28 : decode cX1_weightOf 28 = .ok (.ireturn, 1) := by decide +kernel
abbrev wmX1_weightOf : List Cond := .code yX1_weightOf cX1_weightOf 2 (some .int) :: cBig
def f_X1_weightOf (N : Nat) (M : gM) (i0 : Nat) (a1 : Int32) : Option Int32 :=
  rd M (51, (4 + i0), 0) 48 a1 (fun v1 => (if v1 = 0 then some (0 : Int32) else rd M (53, (4 + i0), 0) 48 a1 (fun v3 => o1 (f_X1_fullWeight N M i0 a1 v3) (fun v5 => some v5))))
set_option maxHeartbeats 4000000 in
set_option maxRecDepth 100000 in
theorem t_X1_weightOf (l : Launch) (N : Nat) (D : va_G) (dA : Nat → ClassId) (A : gI → Nat) (hJ : gJ (cLive N) A) {M : gM} {i0 : Nat} {a1 : Int32} (hi0 : cLive N (30, i0, 0)) {y : Int32} (h : f_X1_weightOf N M i0 a1 = some y) : cMi l yX1_weightOf wmX1_weightOf ({ frames := 1, cells := 0, slots := 0, locals := 22 } : Room) N D dA A [.ref (A (30, i0, 0)), .int a1] M y M := by
  refine Met.ofW (cc := cX1_weightOf) (maxL := 2) (ret := (some .int)) (by decide) rfl ?_
  intro p e s m args below meth c s₁ B hml hv
  obtain ⟨rfl, hP, hK, hN⟩ := hv
  generalize hargs : ([.ref (A (30, i0, 0)), .int a1] : List Value).toArray = args at B ⊢
  have S : CallFix p m c cX1_weightOf 2 s args wmX1_weightOf RX1 := ⟨B.exec, B.bytes, hml, findClass_of_methodNamed B.named, atoms_spec (ws := wmX1_weightOf) B.pre⟩
  obtain ⟨hx, hb, -, hown, hts⟩ := id S
  have hr := B.returns
  have hlocks := B.notSynchronized
  have X : gX D vwCl dA (cLive N) A (gA (cLive N) A) s := ⟨hK, hJ, fun i hi => ⟨i, hi, rfl⟩⟩
  have Z : gZ D (cLay N) dA (cLive N) A (gA (cLive N) A) s.heap M s.heap [] := ⟨hP, va_S.rf⟩
  have hin_X1 : ∀ w ∈ wsX10, w ∈ wmX1_weightOf := cin_X1
  have hin_X8 : ∀ w ∈ wsX80, w ∈ wmX1_weightOf := cin_X8
  have hl_41 := hts (.fieldLink RX1 41 "ReplicaFiles$Client" "tree" "LReplicaFiles$Tree;") (cBc 45 rfl)
  have hl_60 := va_Nw.use (A := args) rfl (hN.1 ("ReplicaFiles$Client", 60, "ReplicaFiles$Tree", "held", "[Z", "ReplicaFiles") (by decide +kernel))
  have hl_71 := va_Nw.use (A := args) rfl (hN.1 ("ReplicaFiles$Client", 71, "ReplicaFiles$Tree", "size", "[I", "ReplicaFiles") (by decide +kernel))
  have hl := lv_entry ([.ref (A (30, i0, 0)), .int a1]) (n := 2) (Nat.le_of_ble_eq_true rfl)
  rw [← hargs, lg_entry_eq, hargs]
  generalize (lg_sl ([.ref (A (30, i0, 0)), .int a1]) ++ List.replicate (2 - (lg_sl ([.ref (A (30, i0, 0)), .int a1])).length) Slot.unset).toArray = ls at hl ⊢
  have hl : lv_has ls 2 [(0, .ref (A (30, i0, 0))), (1, .int a1)] := hl
  unfold f_X1_weightOf at h
  refine lv_aload_n hx hb dX1_weightOf_0 rfl (lv_at hl 0 rfl) ?_
  refine cr_X1_tree (a := i0) S X Z hin_X1 hi0 hl_41 dX1_weightOf_1 ?_
  refine cn_X8_held (a := (4 + i0)) S X Z hin_X8 (cl_ct hi0) hl_60 dX1_weightOf_4 ?_
  refine lv_iload_n hx hb dX1_weightOf_7 rfl (lv_at hl 1 rfl) ?_
  refine g_zald (i := (51, (4 + i0), 0)) (n := 48) S X Z (cl_X8_held (cl_ct hi0)) rfl dX1_weightOf_8 h (fun v1 h => ?_)
  refine lv_if_ne (tgt := 14) hx hb dX1_weightOf_9 (by decide) (fun c2 => ?_) (fun c2 => ?_)
  · have h := if_f c2 h
    refine lv_aload_n hx hb dX1_weightOf_14 rfl (lv_at hl 0 rfl) ?_
    refine lv_iload_n hx hb dX1_weightOf_15 rfl (lv_at hl 1 rfl) ?_
    refine lv_aload_n hx hb dX1_weightOf_16 rfl (lv_at hl 0 rfl) ?_
    refine cr_X1_tree (a := i0) S X Z hin_X1 hi0 hl_41 dX1_weightOf_17 ?_
    refine cn_X8_size (a := (4 + i0)) S X Z hin_X8 (cl_ct hi0) hl_71 dX1_weightOf_20 ?_
    refine lv_iload_n hx hb dX1_weightOf_23 rfl (lv_at hl 1 rfl) ?_
    refine g_iald (i := (53, (4 + i0), 0)) (n := 48) S X Z (cl_X8_size (cl_ct hi0)) rfl dX1_weightOf_24 h (fun v3 h => ?_)
    obtain ⟨v5, hc4, h⟩ := o1_e h
    refine c_i X Z (c_V (i := (30, i0, 0)) (As := [.int a1, .int v3]) (rest := []) S X hN Z hi0 rfl rfl (t_X1_fullWeight l N D dA A hJ hi0 hc4) (cwV 2 hts (cGV (cB 82 rfl) (cB 83 rfl) (cB 84 rfl) (cB 64 rfl) (cB 80 rfl)) rfl rfl rfl (by decide +kernel) ⟨Nat.le_of_ble_eq_true rfl, Nat.le_of_ble_eq_true rfl⟩) rfl hl.1 rfl (Nat.le_of_ble_eq_true rfl) dX1_weightOf_25 ⟨Nat.zero_le _, Nat.zero_le _⟩) (fun H locs Z => ?_)
    have hy := Option.some.inj h
    subst hy
    exact g_ri S Z hr hlocks dX1_weightOf_28
  · have h := if_t c2 h
    refine lv_iconst (v := (0 : Int32)) hx hb dX1_weightOf_12 (by decide) ?_
    have hy := Option.some.inj h
    subst hy
    exact g_ri S Z hr hlocks dX1_weightOf_13
-- X1_mayGo (II)Z: 28 instructions
theorem dX1_mayGo_0 : decode cX1_mayGo 0 = .ok (.aload_n 0, 1) := by decide +kernel
theorem dX1_mayGo_1 : decode cX1_mayGo 1 = .ok (.getfield 41, 3) := by decide +kernel
theorem dX1_mayGo_4 : decode cX1_mayGo 4 = .ok (.getfield 60, 3) := by decide +kernel
theorem dX1_mayGo_7 : decode cX1_mayGo 7 = .ok (.iload_n 1, 1) := by decide +kernel
theorem dX1_mayGo_8 : decode cX1_mayGo 8 = .ok (.baload, 1) := by decide +kernel
theorem dX1_mayGo_9 : decode cX1_mayGo 9 = .ok (.ifCond .eq 39, 3) := by decide +kernel
theorem dX1_mayGo_12 : decode cX1_mayGo 12 = .ok (.aload_n 0, 1) := by decide +kernel
theorem dX1_mayGo_13 : decode cX1_mayGo 13 = .ok (.getfield 18, 3) := by decide +kernel
theorem dX1_mayGo_16 : decode cX1_mayGo 16 = .ok (.iload_n 1, 1) := by decide +kernel
theorem dX1_mayGo_17 : decode cX1_mayGo 17 = .ok (.baload, 1) := by decide +kernel
theorem dX1_mayGo_18 : decode cX1_mayGo 18 = .ok (.ifCond .ne 30, 3) := by decide +kernel
theorem dX1_mayGo_21 : decode cX1_mayGo 21 = .ok (.aload_n 0, 1) := by decide +kernel
theorem dX1_mayGo_22 : decode cX1_mayGo 22 = .ok (.getfield 22, 3) := by decide +kernel
theorem dX1_mayGo_25 : decode cX1_mayGo 25 = .ok (.iload_n 1, 1) := by decide +kernel
theorem dX1_mayGo_26 : decode cX1_mayGo 26 = .ok (.iaload, 1) := by decide +kernel
theorem dX1_mayGo_27 : decode cX1_mayGo 27 = .ok (.aload_n 0, 1) := by decide +kernel
theorem dX1_mayGo_28 : decode cX1_mayGo 28 = .ok (.getfield 57, 3) := by decide +kernel
theorem dX1_mayGo_31 : decode cX1_mayGo 31 = .ok (.if_icmp .gt 17, 3) := by decide +kernel
theorem dX1_mayGo_34 : decode cX1_mayGo 34 = .ok (.aload_n 0, 1) := by decide +kernel
theorem dX1_mayGo_35 : decode cX1_mayGo 35 = .ok (.getfield 9, 3) := by decide +kernel
theorem dX1_mayGo_38 : decode cX1_mayGo 38 = .ok (.iload_n 1, 1) := by decide +kernel
theorem dX1_mayGo_39 : decode cX1_mayGo 39 = .ok (.iaload, 1) := by decide +kernel
theorem dX1_mayGo_40 : decode cX1_mayGo 40 = .ok (.iload_n 2, 1) := by decide +kernel
theorem dX1_mayGo_41 : decode cX1_mayGo 41 = .ok (.if_icmp .ge 7, 3) := by decide +kernel
theorem dX1_mayGo_44 : decode cX1_mayGo 44 = .ok (.iconst 1, 1) := by decide +kernel
theorem dX1_mayGo_45 : decode cX1_mayGo 45 = .ok (.goto 4, 3) := by decide +kernel
theorem dX1_mayGo_48 : decode cX1_mayGo 48 = .ok (.iconst 0, 1) := by decide +kernel
theorem dX1_mayGo_49 : decode cX1_mayGo 49 = .ok (.ireturn, 1) := by decide +kernel
abbrev wmX1_mayGo : List Cond := .code yX1_mayGo cX1_mayGo 3 (some .boolean) :: cBig
def f_X1_mayGo (N : Nat) (M : gM) (i0 : Nat) (a1 : Int32) (a2 : Int32) : Option Int32 :=
  rd M (51, (4 + i0), 0) 48 a1 (fun v1 => (if v1 = 0 then some (0 : Int32) else rd M (33, i0, 0) 48 a1 (fun v3 => (if v3 = 0 then rd M (34, i0, 0) 48 a1 (fun v5 => lt (M (30, i0, 0) 10) (fun v6 => (if v6 < v5 then some (0 : Int32) else rd M (31, i0, 0) 48 a1 (fun v8 => (if a2 ≤ v8 then some (0 : Int32) else some (1 : Int32)))))) else some (0 : Int32)))))
set_option maxHeartbeats 4000000 in
set_option maxRecDepth 100000 in
theorem t_X1_mayGo (l : Launch) (N : Nat) (D : va_G) (dA : Nat → ClassId) (A : gI → Nat) (hJ : gJ (cLive N) A) {M : gM} {i0 : Nat} {a1 : Int32} {a2 : Int32} (hi0 : cLive N (30, i0, 0)) {y : Int32} (h : f_X1_mayGo N M i0 a1 a2 = some y) : cMi l yX1_mayGo wmX1_mayGo ({ frames := 0, cells := 0, slots := 0, locals := 0 } : Room) N D dA A [.ref (A (30, i0, 0)), .int a1, .int a2] M y M := by
  refine Met.ofW (cc := cX1_mayGo) (maxL := 3) (ret := (some .boolean)) (by decide) rfl ?_
  intro p e s m args below meth c s₁ B hml hv
  obtain ⟨rfl, hP, hK, hN⟩ := hv
  generalize hargs : ([.ref (A (30, i0, 0)), .int a1, .int a2] : List Value).toArray = args at B ⊢
  have S : CallFix p m c cX1_mayGo 3 s args wmX1_mayGo RX1 := ⟨B.exec, B.bytes, hml, findClass_of_methodNamed B.named, atoms_spec (ws := wmX1_mayGo) B.pre⟩
  obtain ⟨hx, hb, -, hown, hts⟩ := id S
  have hr := B.returns
  have hlocks := B.notSynchronized
  have X : gX D vwCl dA (cLive N) A (gA (cLive N) A) s := ⟨hK, hJ, fun i hi => ⟨i, hi, rfl⟩⟩
  have Z : gZ D (cLay N) dA (cLive N) A (gA (cLive N) A) s.heap M s.heap [] := ⟨hP, va_S.rf⟩
  have hin_X1 : ∀ w ∈ wsX10, w ∈ wmX1_mayGo := cin_X1
  have hin_X8 : ∀ w ∈ wsX80, w ∈ wmX1_mayGo := cin_X8
  have hl_9 := hts (.fieldLink RX1 9 "ReplicaFiles$Client" "priority" "[I") (cBc 35 rfl)
  have hl_18 := hts (.fieldLink RX1 18 "ReplicaFiles$Client" "dirty" "[Z") (cBc 37 rfl)
  have hl_22 := hts (.fieldLink RX1 22 "ReplicaFiles$Client" "used" "[I") (cBc 38 rfl)
  have hl_41 := hts (.fieldLink RX1 41 "ReplicaFiles$Client" "tree" "LReplicaFiles$Tree;") (cBc 45 rfl)
  have hl_57 := hts (.fieldLink RX1 57 "ReplicaFiles$Client" "usesBeforeCall" "I") (cBc 57 rfl)
  have hl_60 := va_Nw.use (A := args) rfl (hN.1 ("ReplicaFiles$Client", 60, "ReplicaFiles$Tree", "held", "[Z", "ReplicaFiles") (by decide +kernel))
  have hl := lv_entry ([.ref (A (30, i0, 0)), .int a1, .int a2]) (n := 3) (Nat.le_of_ble_eq_true rfl)
  rw [← hargs, lg_entry_eq, hargs]
  generalize (lg_sl ([.ref (A (30, i0, 0)), .int a1, .int a2]) ++ List.replicate (3 - (lg_sl ([.ref (A (30, i0, 0)), .int a1, .int a2])).length) Slot.unset).toArray = ls at hl ⊢
  have hl : lv_has ls 3 [(0, .ref (A (30, i0, 0))), (1, .int a1), (2, .int a2)] := hl
  unfold f_X1_mayGo at h
  refine lv_aload_n hx hb dX1_mayGo_0 rfl (lv_at hl 0 rfl) ?_
  refine cr_X1_tree (a := i0) S X Z hin_X1 hi0 hl_41 dX1_mayGo_1 ?_
  refine cn_X8_held (a := (4 + i0)) S X Z hin_X8 (cl_ct hi0) hl_60 dX1_mayGo_4 ?_
  refine lv_iload_n hx hb dX1_mayGo_7 rfl (lv_at hl 1 rfl) ?_
  refine g_zald (i := (51, (4 + i0), 0)) (n := 48) S X Z (cl_X8_held (cl_ct hi0)) rfl dX1_mayGo_8 h (fun v1 h => ?_)
  refine lv_if_eq (tgt := 48) hx hb dX1_mayGo_9 (by decide) (fun c2 => ?_) (fun c2 => ?_)
  · have h := if_t c2 h
    refine lv_iconst (v := (0 : Int32)) hx hb dX1_mayGo_48 (by decide) ?_
    have hy := Option.some.inj h
    subst hy
    exact g_rz (Or.inl rfl) S Z hr hlocks dX1_mayGo_49
  · have h := if_f c2 h
    refine lv_aload_n hx hb dX1_mayGo_12 rfl (lv_at hl 0 rfl) ?_
    refine cr_X1_dirty (a := i0) S X Z hin_X1 hi0 hl_18 dX1_mayGo_13 ?_
    refine lv_iload_n hx hb dX1_mayGo_16 rfl (lv_at hl 1 rfl) ?_
    refine g_zald (i := (33, i0, 0)) (n := 48) S X Z (cl_X1_dirty hi0) rfl dX1_mayGo_17 h (fun v3 h => ?_)
    refine lv_if_ne (tgt := 48) hx hb dX1_mayGo_18 (by decide) (fun c4 => ?_) (fun c4 => ?_)
    · have h := if_f c4 h
      refine lv_iconst (v := (0 : Int32)) hx hb dX1_mayGo_48 (by decide) ?_
      have hy := Option.some.inj h
      subst hy
      exact g_rz (Or.inl rfl) S Z hr hlocks dX1_mayGo_49
    · have h := if_t c4 h
      refine lv_aload_n hx hb dX1_mayGo_21 rfl (lv_at hl 0 rfl) ?_
      refine cr_X1_used (a := i0) S X Z hin_X1 hi0 hl_22 dX1_mayGo_22 ?_
      refine lv_iload_n hx hb dX1_mayGo_25 rfl (lv_at hl 1 rfl) ?_
      refine g_iald (i := (34, i0, 0)) (n := 48) S X Z (cl_X1_used hi0) rfl dX1_mayGo_26 h (fun v5 h => ?_)
      refine lv_aload_n hx hb dX1_mayGo_27 rfl (lv_at hl 0 rfl) ?_
      refine cr_X1_usesBeforeCall (a := i0) S X Z hin_X1 hi0 hl_57 dX1_mayGo_28 h (fun v6 h => ?_)
      refine lv_icmp_gt (tgt := 48) hx hb dX1_mayGo_31 (by decide) (fun c7 => ?_) (fun c7 => ?_)
      · have h := if_t c7 h
        refine lv_iconst (v := (0 : Int32)) hx hb dX1_mayGo_48 (by decide) ?_
        have hy := Option.some.inj h
        subst hy
        exact g_rz (Or.inl rfl) S Z hr hlocks dX1_mayGo_49
      · have h := if_f c7 h
        refine lv_aload_n hx hb dX1_mayGo_34 rfl (lv_at hl 0 rfl) ?_
        refine cr_X1_priority (a := i0) S X Z hin_X1 hi0 hl_9 dX1_mayGo_35 ?_
        refine lv_iload_n hx hb dX1_mayGo_38 rfl (lv_at hl 1 rfl) ?_
        refine g_iald (i := (31, i0, 0)) (n := 48) S X Z (cl_X1_priority hi0) rfl dX1_mayGo_39 h (fun v8 h => ?_)
        refine lv_iload_n hx hb dX1_mayGo_40 rfl (lv_at hl 2 rfl) ?_
        refine lv_icmp_ge (tgt := 48) hx hb dX1_mayGo_41 (by decide) (fun c9 => ?_) (fun c9 => ?_)
        · have h := if_t c9 h
          refine lv_iconst (v := (0 : Int32)) hx hb dX1_mayGo_48 (by decide) ?_
          have hy := Option.some.inj h
          subst hy
          exact g_rz (Or.inl rfl) S Z hr hlocks dX1_mayGo_49
        · have h := if_f c9 h
          refine lv_iconst (v := (1 : Int32)) hx hb dX1_mayGo_44 (by decide) ?_
          refine lv_goto (tgt := 49) hx hb dX1_mayGo_45 (by decide) ?_
          have hy := Option.some.inj h
          subst hy
          exact g_rz (Or.inr rfl) S Z hr hlocks dX1_mayGo_49
-- X1_goesBefore (II)Z: 35 instructions
theorem dX1_goesBefore_0 : decode cX1_goesBefore 0 = .ok (.aload_n 0, 1) := by decide +kernel
theorem dX1_goesBefore_1 : decode cX1_goesBefore 1 = .ok (.getfield 9, 3) := by decide +kernel
theorem dX1_goesBefore_4 : decode cX1_goesBefore 4 = .ok (.iload_n 1, 1) := by decide +kernel
theorem dX1_goesBefore_5 : decode cX1_goesBefore 5 = .ok (.iaload, 1) := by decide +kernel
theorem dX1_goesBefore_6 : decode cX1_goesBefore 6 = .ok (.aload_n 0, 1) := by decide +kernel
theorem dX1_goesBefore_7 : decode cX1_goesBefore 7 = .ok (.getfield 9, 3) := by decide +kernel
theorem dX1_goesBefore_10 : decode cX1_goesBefore 10 = .ok (.iload_n 2, 1) := by decide +kernel
theorem dX1_goesBefore_11 : decode cX1_goesBefore 11 = .ok (.iaload, 1) := by decide +kernel
theorem dX1_goesBefore_12 : decode cX1_goesBefore 12 = .ok (.if_icmp .eq 24, 3) := by decide +kernel
theorem dX1_goesBefore_15 : decode cX1_goesBefore 15 = .ok (.aload_n 0, 1) := by decide +kernel
theorem dX1_goesBefore_16 : decode cX1_goesBefore 16 = .ok (.getfield 9, 3) := by decide +kernel
theorem dX1_goesBefore_19 : decode cX1_goesBefore 19 = .ok (.iload_n 1, 1) := by decide +kernel
theorem dX1_goesBefore_20 : decode cX1_goesBefore 20 = .ok (.iaload, 1) := by decide +kernel
theorem dX1_goesBefore_21 : decode cX1_goesBefore 21 = .ok (.aload_n 0, 1) := by decide +kernel
theorem dX1_goesBefore_22 : decode cX1_goesBefore 22 = .ok (.getfield 9, 3) := by decide +kernel
theorem dX1_goesBefore_25 : decode cX1_goesBefore 25 = .ok (.iload_n 2, 1) := by decide +kernel
theorem dX1_goesBefore_26 : decode cX1_goesBefore 26 = .ok (.iaload, 1) := by decide +kernel
theorem dX1_goesBefore_27 : decode cX1_goesBefore 27 = .ok (.if_icmp .ge 7, 3) := by decide +kernel
theorem dX1_goesBefore_30 : decode cX1_goesBefore 30 = .ok (.iconst 1, 1) := by decide +kernel
theorem dX1_goesBefore_31 : decode cX1_goesBefore 31 = .ok (.goto 4, 3) := by decide +kernel
theorem dX1_goesBefore_34 : decode cX1_goesBefore 34 = .ok (.iconst 0, 1) := by decide +kernel
theorem dX1_goesBefore_35 : decode cX1_goesBefore 35 = .ok (.ireturn, 1) := by decide +kernel
theorem dX1_goesBefore_36 : decode cX1_goesBefore 36 = .ok (.aload_n 0, 1) := by decide +kernel
theorem dX1_goesBefore_37 : decode cX1_goesBefore 37 = .ok (.getfield 22, 3) := by decide +kernel
theorem dX1_goesBefore_40 : decode cX1_goesBefore 40 = .ok (.iload_n 1, 1) := by decide +kernel
theorem dX1_goesBefore_41 : decode cX1_goesBefore 41 = .ok (.iaload, 1) := by decide +kernel
theorem dX1_goesBefore_42 : decode cX1_goesBefore 42 = .ok (.aload_n 0, 1) := by decide +kernel
theorem dX1_goesBefore_43 : decode cX1_goesBefore 43 = .ok (.getfield 22, 3) := by decide +kernel
theorem dX1_goesBefore_46 : decode cX1_goesBefore 46 = .ok (.iload_n 2, 1) := by decide +kernel
theorem dX1_goesBefore_47 : decode cX1_goesBefore 47 = .ok (.iaload, 1) := by decide +kernel
theorem dX1_goesBefore_48 : decode cX1_goesBefore 48 = .ok (.if_icmp .ge 7, 3) := by decide +kernel
theorem dX1_goesBefore_51 : decode cX1_goesBefore 51 = .ok (.iconst 1, 1) := by decide +kernel
theorem dX1_goesBefore_52 : decode cX1_goesBefore 52 = .ok (.goto 4, 3) := by decide +kernel
theorem dX1_goesBefore_55 : decode cX1_goesBefore 55 = .ok (.iconst 0, 1) := by decide +kernel
theorem dX1_goesBefore_56 : decode cX1_goesBefore 56 = .ok (.ireturn, 1) := by decide +kernel
abbrev wmX1_goesBefore : List Cond := .code yX1_goesBefore cX1_goesBefore 3 (some .boolean) :: cBig
def f_X1_goesBefore (N : Nat) (M : gM) (i0 : Nat) (a1 : Int32) (a2 : Int32) : Option Int32 :=
  rd M (31, i0, 0) 48 a1 (fun v1 => rd M (31, i0, 0) 48 a2 (fun v2 => (if v1 = v2 then rd M (34, i0, 0) 48 a1 (fun v4 => rd M (34, i0, 0) 48 a2 (fun v5 => (if v5 ≤ v4 then some (0 : Int32) else some (1 : Int32)))) else rd M (31, i0, 0) 48 a1 (fun v7 => rd M (31, i0, 0) 48 a2 (fun v8 => (if v8 ≤ v7 then some (0 : Int32) else some (1 : Int32)))))))
set_option maxHeartbeats 4000000 in
set_option maxRecDepth 100000 in
theorem t_X1_goesBefore (l : Launch) (N : Nat) (D : va_G) (dA : Nat → ClassId) (A : gI → Nat) (hJ : gJ (cLive N) A) {M : gM} {i0 : Nat} {a1 : Int32} {a2 : Int32} (hi0 : cLive N (30, i0, 0)) {y : Int32} (h : f_X1_goesBefore N M i0 a1 a2 = some y) : cMi l yX1_goesBefore wmX1_goesBefore ({ frames := 0, cells := 0, slots := 0, locals := 0 } : Room) N D dA A [.ref (A (30, i0, 0)), .int a1, .int a2] M y M := by
  refine Met.ofW (cc := cX1_goesBefore) (maxL := 3) (ret := (some .boolean)) (by decide) rfl ?_
  intro p e s m args below meth c s₁ B hml hv
  obtain ⟨rfl, hP, hK, hN⟩ := hv
  generalize hargs : ([.ref (A (30, i0, 0)), .int a1, .int a2] : List Value).toArray = args at B ⊢
  have S : CallFix p m c cX1_goesBefore 3 s args wmX1_goesBefore RX1 := ⟨B.exec, B.bytes, hml, findClass_of_methodNamed B.named, atoms_spec (ws := wmX1_goesBefore) B.pre⟩
  obtain ⟨hx, hb, -, hown, hts⟩ := id S
  have hr := B.returns
  have hlocks := B.notSynchronized
  have X : gX D vwCl dA (cLive N) A (gA (cLive N) A) s := ⟨hK, hJ, fun i hi => ⟨i, hi, rfl⟩⟩
  have Z : gZ D (cLay N) dA (cLive N) A (gA (cLive N) A) s.heap M s.heap [] := ⟨hP, va_S.rf⟩
  have hin_X1 : ∀ w ∈ wsX10, w ∈ wmX1_goesBefore := cin_X1
  have hl_9 := hts (.fieldLink RX1 9 "ReplicaFiles$Client" "priority" "[I") (cBc 35 rfl)
  have hl_22 := hts (.fieldLink RX1 22 "ReplicaFiles$Client" "used" "[I") (cBc 38 rfl)
  have hl := lv_entry ([.ref (A (30, i0, 0)), .int a1, .int a2]) (n := 3) (Nat.le_of_ble_eq_true rfl)
  rw [← hargs, lg_entry_eq, hargs]
  generalize (lg_sl ([.ref (A (30, i0, 0)), .int a1, .int a2]) ++ List.replicate (3 - (lg_sl ([.ref (A (30, i0, 0)), .int a1, .int a2])).length) Slot.unset).toArray = ls at hl ⊢
  have hl : lv_has ls 3 [(0, .ref (A (30, i0, 0))), (1, .int a1), (2, .int a2)] := hl
  unfold f_X1_goesBefore at h
  refine lv_aload_n hx hb dX1_goesBefore_0 rfl (lv_at hl 0 rfl) ?_
  refine cr_X1_priority (a := i0) S X Z hin_X1 hi0 hl_9 dX1_goesBefore_1 ?_
  refine lv_iload_n hx hb dX1_goesBefore_4 rfl (lv_at hl 1 rfl) ?_
  refine g_iald (i := (31, i0, 0)) (n := 48) S X Z (cl_X1_priority hi0) rfl dX1_goesBefore_5 h (fun v1 h => ?_)
  refine lv_aload_n hx hb dX1_goesBefore_6 rfl (lv_at hl 0 rfl) ?_
  refine cr_X1_priority (a := i0) S X Z hin_X1 hi0 hl_9 dX1_goesBefore_7 ?_
  refine lv_iload_n hx hb dX1_goesBefore_10 rfl (lv_at hl 2 rfl) ?_
  refine g_iald (i := (31, i0, 0)) (n := 48) S X Z (cl_X1_priority hi0) rfl dX1_goesBefore_11 h (fun v2 h => ?_)
  refine lv_icmp_eq (tgt := 36) hx hb dX1_goesBefore_12 (by decide) (fun c3 => ?_) (fun c3 => ?_)
  · have h := if_t c3 h
    refine lv_aload_n hx hb dX1_goesBefore_36 rfl (lv_at hl 0 rfl) ?_
    refine cr_X1_used (a := i0) S X Z hin_X1 hi0 hl_22 dX1_goesBefore_37 ?_
    refine lv_iload_n hx hb dX1_goesBefore_40 rfl (lv_at hl 1 rfl) ?_
    refine g_iald (i := (34, i0, 0)) (n := 48) S X Z (cl_X1_used hi0) rfl dX1_goesBefore_41 h (fun v4 h => ?_)
    refine lv_aload_n hx hb dX1_goesBefore_42 rfl (lv_at hl 0 rfl) ?_
    refine cr_X1_used (a := i0) S X Z hin_X1 hi0 hl_22 dX1_goesBefore_43 ?_
    refine lv_iload_n hx hb dX1_goesBefore_46 rfl (lv_at hl 2 rfl) ?_
    refine g_iald (i := (34, i0, 0)) (n := 48) S X Z (cl_X1_used hi0) rfl dX1_goesBefore_47 h (fun v5 h => ?_)
    refine lv_icmp_ge (tgt := 55) hx hb dX1_goesBefore_48 (by decide) (fun c6 => ?_) (fun c6 => ?_)
    · have h := if_t c6 h
      refine lv_iconst (v := (0 : Int32)) hx hb dX1_goesBefore_55 (by decide) ?_
      have hy := Option.some.inj h
      subst hy
      exact g_rz (Or.inl rfl) S Z hr hlocks dX1_goesBefore_56
    · have h := if_f c6 h
      refine lv_iconst (v := (1 : Int32)) hx hb dX1_goesBefore_51 (by decide) ?_
      refine lv_goto (tgt := 56) hx hb dX1_goesBefore_52 (by decide) ?_
      have hy := Option.some.inj h
      subst hy
      exact g_rz (Or.inr rfl) S Z hr hlocks dX1_goesBefore_56
  · have h := if_f c3 h
    refine lv_aload_n hx hb dX1_goesBefore_15 rfl (lv_at hl 0 rfl) ?_
    refine cr_X1_priority (a := i0) S X Z hin_X1 hi0 hl_9 dX1_goesBefore_16 ?_
    refine lv_iload_n hx hb dX1_goesBefore_19 rfl (lv_at hl 1 rfl) ?_
    refine g_iald (i := (31, i0, 0)) (n := 48) S X Z (cl_X1_priority hi0) rfl dX1_goesBefore_20 h (fun v7 h => ?_)
    refine lv_aload_n hx hb dX1_goesBefore_21 rfl (lv_at hl 0 rfl) ?_
    refine cr_X1_priority (a := i0) S X Z hin_X1 hi0 hl_9 dX1_goesBefore_22 ?_
    refine lv_iload_n hx hb dX1_goesBefore_25 rfl (lv_at hl 2 rfl) ?_
    refine g_iald (i := (31, i0, 0)) (n := 48) S X Z (cl_X1_priority hi0) rfl dX1_goesBefore_26 h (fun v8 h => ?_)
    refine lv_icmp_ge (tgt := 34) hx hb dX1_goesBefore_27 (by decide) (fun c9 => ?_) (fun c9 => ?_)
    · have h := if_t c9 h
      refine lv_iconst (v := (0 : Int32)) hx hb dX1_goesBefore_34 (by decide) ?_
      have hy := Option.some.inj h
      subst hy
      exact g_rz (Or.inl rfl) S Z hr hlocks dX1_goesBefore_35
    · have h := if_f c9 h
      refine lv_iconst (v := (1 : Int32)) hx hb dX1_goesBefore_30 (by decide) ?_
      refine lv_goto (tgt := 35) hx hb dX1_goesBefore_31 (by decide) ?_
      have hy := Option.some.inj h
      subst hy
      exact g_rz (Or.inr rfl) S Z hr hlocks dX1_goesBefore_35
-- X1_nextToGo (I)I: 28 instructions
theorem dX1_nextToGo_0 : decode cX1_nextToGo 0 = .ok (.iconst (-1), 1) := by decide +kernel
theorem dX1_nextToGo_1 : decode cX1_nextToGo 1 = .ok (.istore_n 2, 1) := by decide +kernel
theorem dX1_nextToGo_2 : decode cX1_nextToGo 2 = .ok (.iconst 0, 1) := by decide +kernel
theorem dX1_nextToGo_3 : decode cX1_nextToGo 3 = .ok (.istore_n 3, 1) := by decide +kernel
theorem dX1_nextToGo_4 : decode cX1_nextToGo 4 = .ok (.iload_n 3, 1) := by decide +kernel
theorem dX1_nextToGo_5 : decode cX1_nextToGo 5 = .ok (.aload_n 0, 1) := by decide +kernel
theorem dX1_nextToGo_6 : decode cX1_nextToGo 6 = .ok (.getfield 29, 3) := by decide +kernel
theorem dX1_nextToGo_9 : decode cX1_nextToGo 9 = .ok (.getfield 83, 3) := by decide +kernel
theorem dX1_nextToGo_12 : decode cX1_nextToGo 12 = .ok (.if_icmp .gt 34, 3) := by decide +kernel
theorem dX1_nextToGo_15 : decode cX1_nextToGo 15 = .ok (.aload_n 0, 1) := by decide +kernel
theorem dX1_nextToGo_16 : decode cX1_nextToGo 16 = .ok (.iload_n 3, 1) := by decide +kernel
theorem dX1_nextToGo_17 : decode cX1_nextToGo 17 = .ok (.iload_n 1, 1) := by decide +kernel
theorem dX1_nextToGo_18 : decode cX1_nextToGo 18 = .ok (.invokevirtual 90, 3) := by decide +kernel
theorem dX1_nextToGo_21 : decode cX1_nextToGo 21 = .ok (.ifCond .eq 19, 3) := by decide +kernel
theorem dX1_nextToGo_24 : decode cX1_nextToGo 24 = .ok (.iload_n 2, 1) := by decide +kernel
theorem dX1_nextToGo_25 : decode cX1_nextToGo 25 = .ok (.iconst (-1), 1) := by decide +kernel
theorem dX1_nextToGo_26 : decode cX1_nextToGo 26 = .ok (.if_icmp .eq 12, 3) := by decide +kernel
theorem dX1_nextToGo_29 : decode cX1_nextToGo 29 = .ok (.aload_n 0, 1) := by decide +kernel
theorem dX1_nextToGo_30 : decode cX1_nextToGo 30 = .ok (.iload_n 3, 1) := by decide +kernel
theorem dX1_nextToGo_31 : decode cX1_nextToGo 31 = .ok (.iload_n 2, 1) := by decide +kernel
theorem dX1_nextToGo_32 : decode cX1_nextToGo 32 = .ok (.invokevirtual 98, 3) := by decide +kernel
theorem dX1_nextToGo_35 : decode cX1_nextToGo 35 = .ok (.ifCond .eq 5, 3) := by decide +kernel
theorem dX1_nextToGo_38 : decode cX1_nextToGo 38 = .ok (.iload_n 3, 1) := by decide +kernel
theorem dX1_nextToGo_39 : decode cX1_nextToGo 39 = .ok (.istore_n 2, 1) := by decide +kernel
theorem dX1_nextToGo_40 : decode cX1_nextToGo 40 = .ok (.iinc 3 1, 3) := by decide +kernel
theorem dX1_nextToGo_43 : decode cX1_nextToGo 43 = .ok (.goto (-39), 3) := by decide +kernel
theorem dX1_nextToGo_46 : decode cX1_nextToGo 46 = .ok (.iload_n 2, 1) := by decide +kernel
theorem dX1_nextToGo_47 : decode cX1_nextToGo 47 = .ok (.ireturn, 1) := by decide +kernel
abbrev wmX1_nextToGo : List Cond := .code yX1_nextToGo cX1_nextToGo 4 (some .int) :: cBig
def f_X1_nextToGo_L4 (N : Nat) (M3 : gM) (i0 : Nat) (a1 : Int32) : Nat → Int32 → Int32 → Option Int32
  | 0, _, _ => none
  | n4 + 1, x1, x2 => lt (M3 (1, 0, 0) 3) (fun v5 => (if v5 < x2 then some x1 else o1 (f_X1_mayGo N M3 i0 x2 a1) (fun v8 => jn (fun (b9 : Int32) => lt (x2 + 1) (fun x10 => f_X1_nextToGo_L4 N M3 i0 a1 n4 b9 x10)) (fun J40 => (if v8 = 0 then J40 x1 else jn (fun (_ : Unit) => J40 x2) (fun J38 => (if x1 = (-1 : Int32) then J38 () else o1 (f_X1_goesBefore N M3 i0 x2 x1) (fun v14 => (if v14 = 0 then J40 x1 else J38 ())))))))))
def f_X1_nextToGo (N : Nat) (M : gM) (i0 : Nat) (a1 : Int32) : Option Int32 :=
  f_X1_nextToGo_L4 N M i0 a1 100 (-1 : Int32) (0 : Int32)
set_option maxHeartbeats 4000000 in
set_option maxRecDepth 100000 in
theorem t_X1_nextToGo (l : Launch) (N : Nat) (D : va_G) (dA : Nat → ClassId) (A : gI → Nat) (hJ : gJ (cLive N) A) {M : gM} {i0 : Nat} {a1 : Int32} (hi0 : cLive N (30, i0, 0)) {y : Int32} (h : f_X1_nextToGo N M i0 a1 = some y) : cMi l yX1_nextToGo wmX1_nextToGo ({ frames := 1, cells := 0, slots := 0, locals := 22 } : Room) N D dA A [.ref (A (30, i0, 0)), .int a1] M y M := by
  refine Met.ofW (cc := cX1_nextToGo) (maxL := 4) (ret := (some .int)) (by decide) rfl ?_
  intro p e s m args below meth c s₁ B hml hv
  obtain ⟨rfl, hP, hK, hN⟩ := hv
  generalize hargs : ([.ref (A (30, i0, 0)), .int a1] : List Value).toArray = args at B ⊢
  have S : CallFix p m c cX1_nextToGo 4 s args wmX1_nextToGo RX1 := ⟨B.exec, B.bytes, hml, findClass_of_methodNamed B.named, atoms_spec (ws := wmX1_nextToGo) B.pre⟩
  obtain ⟨hx, hb, -, hown, hts⟩ := id S
  have hr := B.returns
  have hlocks := B.notSynchronized
  have X : gX D vwCl dA (cLive N) A (gA (cLive N) A) s := ⟨hK, hJ, fun i hi => ⟨i, hi, rfl⟩⟩
  have Z : gZ D (cLay N) dA (cLive N) A (gA (cLive N) A) s.heap M s.heap [] := ⟨hP, va_S.rf⟩
  have hin_X0 : ∀ w ∈ wsX00, w ∈ wmX1_nextToGo := cin_X0
  have hin_X1 : ∀ w ∈ wsX10, w ∈ wmX1_nextToGo := cin_X1
  have hl_29 := hts (.fieldLink RX1 29 "ReplicaFiles$Client" "catalog" "LReplicaFiles$Catalog;") (cBc 40 rfl)
  have hl_83 := va_Nw.use (A := args) rfl (hN.1 ("ReplicaFiles$Client", 83, "ReplicaFiles$Catalog", "made", "I", "ReplicaFiles") (by decide +kernel))
  have hl := lv_entry ([.ref (A (30, i0, 0)), .int a1]) (n := 4) (Nat.le_of_ble_eq_true rfl)
  rw [← hargs, lg_entry_eq, hargs]
  generalize (lg_sl ([.ref (A (30, i0, 0)), .int a1]) ++ List.replicate (4 - (lg_sl ([.ref (A (30, i0, 0)), .int a1])).length) Slot.unset).toArray = ls at hl ⊢
  have hl : lv_has ls 4 [(0, .ref (A (30, i0, 0))), (1, .int a1)] := hl
  unfold f_X1_nextToGo at h
  refine lv_iconst (v := (-1 : Int32)) hx hb dX1_nextToGo_0 (by decide) ?_
  refine lv_istore_n (lv' := [(2, .int (-1 : Int32)), (0, .ref (A (30, i0, 0))), (1, .int a1)]) hx hb dX1_nextToGo_1 rfl hl (by decide) rfl (fun ls hl => ?_)
  refine lv_iconst (v := (0 : Int32)) hx hb dX1_nextToGo_2 (by decide) ?_
  refine lv_istore_n (lv' := [(3, .int (0 : Int32)), (2, .int (-1 : Int32)), (0, .ref (A (30, i0, 0))), (1, .int a1)]) hx hb dX1_nextToGo_3 rfl hl (by decide) rfl (fun ls hl => ?_)
  have hL4 : ∀ (n : Nat) (x1 : Int32) (x2 : Int32) (H : Heap) (locs : List Loc) (ls : Array Slot), gZ D (cLay N) dA (cLive N) A (gA (cLive N) A) s.heap M H locs → lv_has ls 4 [(0, .ref (A (30, i0, 0))), (1, .int a1), (2, .int x1), (3, .int x2)] → f_X1_nextToGo_L4 N M i0 a1 n x1 x2 = some y → W p l e (headSpec wmX1_nextToGo ({ frames := 1, cells := 0, slots := 0, locals := 22 } : Room)).room s m args below meth c H locs 0 0 (MQ below (cQi N D dA A (y, M)) args s 0 0 (gA (cLive N) A)) (F0 m 4 ls []) := by
    intro n
    induction n with
    | zero =>
      intro x1 x2 H locs ls Z hl h
      rw [f_X1_nextToGo_L4] at h
      cases h
    | succ n4 ih4 =>
      intro x1 x2 H locs ls Z hl h
      rw [f_X1_nextToGo_L4] at h
      refine lv_iload_n hx hb dX1_nextToGo_4 rfl (lv_at hl 3 rfl) ?_
      refine lv_aload_n hx hb dX1_nextToGo_5 rfl (lv_at hl 0 rfl) ?_
      refine cr_X1_catalog (a := i0) S X Z hin_X1 hi0 hl_29 dX1_nextToGo_6 ?_
      refine cn_X0_made S X Z hin_X0 (cl_one N 1 (by decide)) hl_83 dX1_nextToGo_9 h (fun v5 h => ?_)
      refine lv_icmp_gt (tgt := 46) hx hb dX1_nextToGo_12 (by decide) (fun c6 => ?_) (fun c6 => ?_)
      · have h := if_t c6 h
        refine lv_iload_n hx hb dX1_nextToGo_46 rfl (lv_at hl 2 rfl) ?_
        have hy := Option.some.inj h
        subst hy
        exact g_ri S Z hr hlocks dX1_nextToGo_47
      · have h := if_f c6 h
        refine lv_aload_n hx hb dX1_nextToGo_15 rfl (lv_at hl 0 rfl) ?_
        refine lv_iload_n hx hb dX1_nextToGo_16 rfl (lv_at hl 3 rfl) ?_
        refine lv_iload_n hx hb dX1_nextToGo_17 rfl (lv_at hl 1 rfl) ?_
        obtain ⟨v8, hc7, h⟩ := o1_e h
        refine c_i X Z (c_V (i := (30, i0, 0)) (As := [.int x2, .int a1]) (rest := []) S X hN Z hi0 rfl rfl (t_X1_mayGo l N D dA A hJ hi0 hc7) (cwV 2 hts (cGV (cB 88 rfl) (cB 89 rfl) (cB 90 rfl) (cB 64 rfl) (cB 85 rfl)) rfl rfl rfl (by decide +kernel) ⟨Nat.le_of_ble_eq_true rfl, Nat.le_of_ble_eq_true rfl⟩) rfl hl.1 rfl (Nat.le_of_ble_eq_true rfl) dX1_nextToGo_18 ⟨Nat.zero_le _, Nat.zero_le _⟩) (fun H locs Z => ?_)
        obtain ⟨J40, eJ40, h⟩ := jn_e h
        have hJ40 : ∀ (b9 : Int32) (H : Heap) (locs : List Loc) (ls : Array Slot), gZ D (cLay N) dA (cLive N) A (gA (cLive N) A) s.heap M H locs → lv_has ls 4 [(0, .ref (A (30, i0, 0))), (1, .int a1), (2, .int b9), (3, .int x2)] → J40 b9 = some y → W p l e (headSpec wmX1_nextToGo ({ frames := 1, cells := 0, slots := 0, locals := 22 } : Room)).room s m args below meth c H locs 0 0 (MQ below (cQi N D dA A (y, M)) args s 0 0 (gA (cLive N) A)) (F0 m 40 ls []) := by
          intro b9 H locs ls Z hl h
          rw [eJ40] at h
          try dsimp only at h
          obtain ⟨x10, ex10, h⟩ := lt_e h
          refine lv_iinc (v := x10) (lv' := [(3, .int x10), (0, .ref (A (30, i0, 0))), (1, .int a1), (2, .int b9)]) hx hb dX1_nextToGo_40 hl (k := 3) rfl (by rw [ex10]; rfl) (by decide) rfl (fun ls hl => ?_)
          refine lv_goto (tgt := 4) hx hb dX1_nextToGo_43 (by decide) ?_
          exact ih4 b9 x10 _ _ _ Z (lv_sub hl [1, 2, 3, 0] rfl) h
        refine lv_if_eq (tgt := 40) hx hb dX1_nextToGo_21 (by decide) (fun c11 => ?_) (fun c11 => ?_)
        · have h := if_t c11 h
          exact hJ40 x1 _ _ _ Z (lv_sub hl [0, 1, 2, 3] rfl) h
        · have h := if_f c11 h
          refine lv_iload_n hx hb dX1_nextToGo_24 rfl (lv_at hl 2 rfl) ?_
          refine lv_iconst (v := (-1 : Int32)) hx hb dX1_nextToGo_25 (by decide) ?_
          obtain ⟨J38, eJ38, h⟩ := jn_e h
          have hJ38 : ∀  (H : Heap) (locs : List Loc) (ls : Array Slot), gZ D (cLay N) dA (cLive N) A (gA (cLive N) A) s.heap M H locs → lv_has ls 4 [(0, .ref (A (30, i0, 0))), (1, .int a1), (3, .int x2)] → J38 () = some y → W p l e (headSpec wmX1_nextToGo ({ frames := 1, cells := 0, slots := 0, locals := 22 } : Room)).room s m args below meth c H locs 0 0 (MQ below (cQi N D dA A (y, M)) args s 0 0 (gA (cLive N) A)) (F0 m 38 ls []) := by
            intro  H locs ls Z hl h
            rw [eJ38] at h
            try dsimp only at h
            refine lv_iload_n hx hb dX1_nextToGo_38 rfl (lv_at hl 2 rfl) ?_
            refine lv_istore_n (lv' := [(2, .int x2), (0, .ref (A (30, i0, 0))), (1, .int a1), (3, .int x2)]) hx hb dX1_nextToGo_39 rfl hl (by decide) rfl (fun ls hl => ?_)
            exact hJ40 x2 _ _ _ Z (lv_sub hl [1, 2, 0, 3] rfl) h
          refine lv_icmp_eq (tgt := 38) hx hb dX1_nextToGo_26 (by decide) (fun c12 => ?_) (fun c12 => ?_)
          · have h := if_t c12 h
            exact hJ38  _ _ _ Z (lv_sub hl [0, 1, 3] rfl) h
          · have h := if_f c12 h
            refine lv_aload_n hx hb dX1_nextToGo_29 rfl (lv_at hl 0 rfl) ?_
            refine lv_iload_n hx hb dX1_nextToGo_30 rfl (lv_at hl 3 rfl) ?_
            refine lv_iload_n hx hb dX1_nextToGo_31 rfl (lv_at hl 2 rfl) ?_
            obtain ⟨v14, hc13, h⟩ := o1_e h
            refine c_i X Z (c_V (i := (30, i0, 0)) (As := [.int x2, .int x1]) (rest := []) S X hN Z hi0 rfl rfl (t_X1_goesBefore l N D dA A hJ hi0 hc13) (cwV 2 hts (cGV (cB 91 rfl) (cB 92 rfl) (cB 93 rfl) (cB 64 rfl) (cB 86 rfl)) rfl rfl rfl (by decide +kernel) ⟨Nat.le_of_ble_eq_true rfl, Nat.le_of_ble_eq_true rfl⟩) rfl hl.1 rfl (Nat.le_of_ble_eq_true rfl) dX1_nextToGo_32 ⟨Nat.zero_le _, Nat.zero_le _⟩) (fun H locs Z => ?_)
            refine lv_if_eq (tgt := 40) hx hb dX1_nextToGo_35 (by decide) (fun c15 => ?_) (fun c15 => ?_)
            · have h := if_t c15 h
              exact hJ40 x1 _ _ _ Z (lv_sub hl [0, 1, 2, 3] rfl) h
            · have h := if_f c15 h
              exact hJ38  _ _ _ Z (lv_sub hl [0, 1, 3] rfl) h
  exact hL4 100 (-1 : Int32) (0 : Int32) _ _ _ Z (lv_sub hl [2, 3, 1, 0] rfl) h
-- X1_makeRoom (II)Z: 79 instructions
theorem dX1_makeRoom_0 : decode cX1_makeRoom 0 = .ok (.iload_n 1, 1) := by decide +kernel
theorem dX1_makeRoom_1 : decode cX1_makeRoom 1 = .ok (.ifCond .gt 5, 3) := by decide +kernel
theorem dX1_makeRoom_4 : decode cX1_makeRoom 4 = .ok (.iconst 1, 1) := by decide +kernel
theorem dX1_makeRoom_5 : decode cX1_makeRoom 5 = .ok (.ireturn, 1) := by decide +kernel
theorem dX1_makeRoom_6 : decode cX1_makeRoom 6 = .ok (.bipush 24, 2) := by decide +kernel
theorem dX1_makeRoom_8 : decode cX1_makeRoom 8 = .ok (.istore_n 3, 1) := by decide +kernel
theorem dX1_makeRoom_9 : decode cX1_makeRoom 9 = .ok (.bipush 24, 2) := by decide +kernel
theorem dX1_makeRoom_11 : decode cX1_makeRoom 11 = .ok (.istore 4, 2) := by decide +kernel
theorem dX1_makeRoom_13 : decode cX1_makeRoom 13 = .ok (.iconst 0, 1) := by decide +kernel
theorem dX1_makeRoom_14 : decode cX1_makeRoom 14 = .ok (.istore 5, 2) := by decide +kernel
theorem dX1_makeRoom_16 : decode cX1_makeRoom 16 = .ok (.iload 5, 2) := by decide +kernel
theorem dX1_makeRoom_18 : decode cX1_makeRoom 18 = .ok (.aload_n 0, 1) := by decide +kernel
theorem dX1_makeRoom_19 : decode cX1_makeRoom 19 = .ok (.getfield 29, 3) := by decide +kernel
theorem dX1_makeRoom_22 : decode cX1_makeRoom 22 = .ok (.getfield 83, 3) := by decide +kernel
theorem dX1_makeRoom_25 : decode cX1_makeRoom 25 = .ok (.if_icmp .gt 43, 3) := by decide +kernel
theorem dX1_makeRoom_28 : decode cX1_makeRoom 28 = .ok (.iload_n 3, 1) := by decide +kernel
theorem dX1_makeRoom_29 : decode cX1_makeRoom 29 = .ok (.aload_n 0, 1) := by decide +kernel
theorem dX1_makeRoom_30 : decode cX1_makeRoom 30 = .ok (.iload 5, 2) := by decide +kernel
theorem dX1_makeRoom_32 : decode cX1_makeRoom 32 = .ok (.invokevirtual 86, 3) := by decide +kernel
theorem dX1_makeRoom_35 : decode cX1_makeRoom 35 = .ok (.isub, 1) := by decide +kernel
theorem dX1_makeRoom_36 : decode cX1_makeRoom 36 = .ok (.istore_n 3, 1) := by decide +kernel
theorem dX1_makeRoom_37 : decode cX1_makeRoom 37 = .ok (.iload 4, 2) := by decide +kernel
theorem dX1_makeRoom_39 : decode cX1_makeRoom 39 = .ok (.aload_n 0, 1) := by decide +kernel
theorem dX1_makeRoom_40 : decode cX1_makeRoom 40 = .ok (.iload 5, 2) := by decide +kernel
theorem dX1_makeRoom_42 : decode cX1_makeRoom 42 = .ok (.iload_n 2, 1) := by decide +kernel
theorem dX1_makeRoom_43 : decode cX1_makeRoom 43 = .ok (.invokevirtual 90, 3) := by decide +kernel
theorem dX1_makeRoom_46 : decode cX1_makeRoom 46 = .ok (.ifCond .eq 7, 3) := by decide +kernel
theorem dX1_makeRoom_49 : decode cX1_makeRoom 49 = .ok (.iconst 0, 1) := by decide +kernel
theorem dX1_makeRoom_50 : decode cX1_makeRoom 50 = .ok (.goto 9, 3) := by decide +kernel
theorem dX1_makeRoom_53 : decode cX1_makeRoom 53 = .ok (.aload_n 0, 1) := by decide +kernel
theorem dX1_makeRoom_54 : decode cX1_makeRoom 54 = .ok (.iload 5, 2) := by decide +kernel
theorem dX1_makeRoom_56 : decode cX1_makeRoom 56 = .ok (.invokevirtual 86, 3) := by decide +kernel
theorem dX1_makeRoom_59 : decode cX1_makeRoom 59 = .ok (.isub, 1) := by decide +kernel
theorem dX1_makeRoom_60 : decode cX1_makeRoom 60 = .ok (.istore 4, 2) := by decide +kernel
theorem dX1_makeRoom_62 : decode cX1_makeRoom 62 = .ok (.iinc 5 1, 3) := by decide +kernel
theorem dX1_makeRoom_65 : decode cX1_makeRoom 65 = .ok (.goto (-49), 3) := by decide +kernel
theorem dX1_makeRoom_68 : decode cX1_makeRoom 68 = .ok (.iload 4, 2) := by decide +kernel
theorem dX1_makeRoom_70 : decode cX1_makeRoom 70 = .ok (.iload_n 1, 1) := by decide +kernel
theorem dX1_makeRoom_71 : decode cX1_makeRoom 71 = .ok (.if_icmp .ge 5, 3) := by decide +kernel
theorem dX1_makeRoom_74 : decode cX1_makeRoom 74 = .ok (.iconst 0, 1) := by decide +kernel
theorem dX1_makeRoom_75 : decode cX1_makeRoom 75 = .ok (.ireturn, 1) := by decide +kernel
theorem dX1_makeRoom_76 : decode cX1_makeRoom 76 = .ok (.iconst 0, 1) := by decide +kernel
theorem dX1_makeRoom_77 : decode cX1_makeRoom 77 = .ok (.istore 5, 2) := by decide +kernel
theorem dX1_makeRoom_79 : decode cX1_makeRoom 79 = .ok (.iload 5, 2) := by decide +kernel
theorem dX1_makeRoom_81 : decode cX1_makeRoom 81 = .ok (.bipush 48, 2) := by decide +kernel
theorem dX1_makeRoom_83 : decode cX1_makeRoom 83 = .ok (.if_icmp .ge 55, 3) := by decide +kernel
theorem dX1_makeRoom_86 : decode cX1_makeRoom 86 = .ok (.iload_n 3, 1) := by decide +kernel
theorem dX1_makeRoom_87 : decode cX1_makeRoom 87 = .ok (.iload_n 1, 1) := by decide +kernel
theorem dX1_makeRoom_88 : decode cX1_makeRoom 88 = .ok (.if_icmp .ge 50, 3) := by decide +kernel
theorem dX1_makeRoom_91 : decode cX1_makeRoom 91 = .ok (.aload_n 0, 1) := by decide +kernel
theorem dX1_makeRoom_92 : decode cX1_makeRoom 92 = .ok (.iload_n 2, 1) := by decide +kernel
theorem dX1_makeRoom_93 : decode cX1_makeRoom 93 = .ok (.invokevirtual 94, 3) := by decide +kernel
theorem dX1_makeRoom_96 : decode cX1_makeRoom 96 = .ok (.istore 6, 2) := by decide +kernel
theorem dX1_makeRoom_98 : decode cX1_makeRoom 98 = .ok (.iload 6, 2) := by decide +kernel
theorem dX1_makeRoom_100 : decode cX1_makeRoom 100 = .ok (.iconst (-1), 1) := by decide +kernel
theorem dX1_makeRoom_101 : decode cX1_makeRoom 101 = .ok (.if_icmp .ne 5, 3) := by decide +kernel
theorem dX1_makeRoom_104 : decode cX1_makeRoom 104 = .ok (.iconst 0, 1) := by decide +kernel
theorem dX1_makeRoom_105 : decode cX1_makeRoom 105 = .ok (.ireturn, 1) := by decide +kernel
theorem dX1_makeRoom_106 : decode cX1_makeRoom 106 = .ok (.iload_n 3, 1) := by decide +kernel
theorem dX1_makeRoom_107 : decode cX1_makeRoom 107 = .ok (.aload_n 0, 1) := by decide +kernel
theorem dX1_makeRoom_108 : decode cX1_makeRoom 108 = .ok (.iload 6, 2) := by decide +kernel
theorem dX1_makeRoom_110 : decode cX1_makeRoom 110 = .ok (.invokevirtual 86, 3) := by decide +kernel
theorem dX1_makeRoom_113 : decode cX1_makeRoom 113 = .ok (.iadd, 1) := by decide +kernel
theorem dX1_makeRoom_114 : decode cX1_makeRoom 114 = .ok (.istore_n 3, 1) := by decide +kernel
theorem dX1_makeRoom_115 : decode cX1_makeRoom 115 = .ok (.aload_n 0, 1) := by decide +kernel
theorem dX1_makeRoom_116 : decode cX1_makeRoom 116 = .ok (.iload 6, 2) := by decide +kernel
theorem dX1_makeRoom_118 : decode cX1_makeRoom 118 = .ok (.invokevirtual 97, 3) := by decide +kernel
theorem dX1_makeRoom_121 : decode cX1_makeRoom 121 = .ok (.aload_n 0, 1) := by decide +kernel
theorem dX1_makeRoom_122 : decode cX1_makeRoom 122 = .ok (.getfield 33, 3) := by decide +kernel
theorem dX1_makeRoom_125 : decode cX1_makeRoom 125 = .ok (.bipush 6, 2) := by decide +kernel
theorem dX1_makeRoom_127 : decode cX1_makeRoom 127 = .ok (.dup2, 1) := by decide +kernel
theorem dX1_makeRoom_128 : decode cX1_makeRoom 128 = .ok (.iaload, 1) := by decide +kernel
theorem dX1_makeRoom_129 : decode cX1_makeRoom 129 = .ok (.iconst 1, 1) := by decide +kernel
theorem dX1_makeRoom_130 : decode cX1_makeRoom 130 = .ok (.iadd, 1) := by decide +kernel
theorem dX1_makeRoom_131 : decode cX1_makeRoom 131 = .ok (.iastore, 1) := by decide +kernel
theorem dX1_makeRoom_132 : decode cX1_makeRoom 132 = .ok (.iinc 5 1, 3) := by decide +kernel
theorem dX1_makeRoom_135 : decode cX1_makeRoom 135 = .ok (.goto (-56), 3) := by decide +kernel
theorem dX1_makeRoom_138 : decode cX1_makeRoom 138 = .ok (.iconst 1, 1) := by decide +kernel
theorem dX1_makeRoom_139 : decode cX1_makeRoom 139 = .ok (.ireturn, 1) := by decide +kernel
abbrev wmX1_makeRoom : List Cond := .code yX1_makeRoom cX1_makeRoom 7 (some .boolean) :: cBig
def f_X1_makeRoom_L79 (N : Nat) (i0 : Nat) (a1 : Int32) (a2 : Int32) : Nat → Int32 → Int32 → gM → Option (Int32 × gM)
  | 0, _, _, _ => none
  | n9 + 1, x6, x7, M8 => (if (48 : Int32) ≤ x7 then some ((1 : Int32), M8) else (if a1 ≤ x6 then some ((1 : Int32), M8) else o1 (f_X1_nextToGo N M8 i0 a2) (fun v13 => (if v13 = (-1 : Int32) then some ((0 : Int32), M8) else o1 (f_X1_weightOf N M8 i0 v13) (fun v16 => lt ((x6 + v16)) (fun x17 => o1 (f_X1_drop N M8 i0 v13) (fun M19 => rd M19 (9, 0, 0) 8 (6 : Int32) (fun v20 => wr M19 (9, 0, 0) 8 (6 : Int32) (v20 + (1 : Int32)) (fun M21 => lt (x7 + 1) (fun x22 => f_X1_makeRoom_L79 N i0 a1 a2 n9 x17 x22 M21))))))))))
def f_X1_makeRoom_L16 (N : Nat) (i0 : Nat) (a1 : Int32) (a2 : Int32) (J68 : (Int32 × Int32 × gM) → Option (Int32 × gM)) : Nat → Int32 → Int32 → Int32 → gM → Option (Int32 × gM)
  | 0, _, _, _, _ => none
  | n27 + 1, x23, x24, x25, M26 => lt (M26 (1, 0, 0) 3) (fun v28 => (if v28 < x25 then J68 (x23, x24, M26) else o1 (f_X1_weightOf N M26 i0 x25) (fun v31 => lt ((x23 - v31)) (fun x32 => o1 (f_X1_mayGo N M26 i0 x25 a2) (fun v34 => jn (fun (q : (Int32 × gM)) => match q with | (b35, M36) => lt ((x24 - b35)) (fun x37 => lt (x25 + 1) (fun x38 => f_X1_makeRoom_L16 N i0 a1 a2 J68 n27 x32 x37 x38 M36))) (fun J59 => (if v34 = 0 then o1 (f_X1_weightOf N M26 i0 x25) (fun v41 => J59 (v41, M26)) else J59 ((0 : Int32), M26))))))))
def f_X1_makeRoom (N : Nat) (M : gM) (i0 : Nat) (a1 : Int32) (a2 : Int32) : Option (Int32 × gM) :=
  (if 0 < a1 then jn (fun (q : (Int32 × Int32 × gM)) => match q with | (b2, b3, M4) => (if a1 ≤ b3 then f_X1_makeRoom_L79 N i0 a1 a2 100 b2 (0 : Int32) M4 else some ((0 : Int32), M4))) (fun J68 => f_X1_makeRoom_L16 N i0 a1 a2 J68 100 (24 : Int32) (24 : Int32) (0 : Int32) M) else some ((1 : Int32), M))
set_option maxHeartbeats 4000000 in
set_option maxRecDepth 100000 in
theorem t_X1_makeRoom (l : Launch) (N : Nat) (D : va_G) (dA : Nat → ClassId) (A : gI → Nat) (hJ : gJ (cLive N) A) {M : gM} {i0 : Nat} {a1 : Int32} {a2 : Int32} (hi0 : cLive N (30, i0, 0)) {y : (Int32 × gM)} (h : f_X1_makeRoom N M i0 a1 a2 = some y) : cMi l yX1_makeRoom wmX1_makeRoom ({ frames := 3, cells := 0, slots := 0, locals := 66 } : Room) N D dA A [.ref (A (30, i0, 0)), .int a1, .int a2] M y.1 y.2 := by
  refine Met.ofW (cc := cX1_makeRoom) (maxL := 7) (ret := (some .boolean)) (by decide) rfl ?_
  intro p e s m args below meth c s₁ B hml hv
  obtain ⟨rfl, hP, hK, hN⟩ := hv
  generalize hargs : ([.ref (A (30, i0, 0)), .int a1, .int a2] : List Value).toArray = args at B ⊢
  have S : CallFix p m c cX1_makeRoom 7 s args wmX1_makeRoom RX1 := ⟨B.exec, B.bytes, hml, findClass_of_methodNamed B.named, atoms_spec (ws := wmX1_makeRoom) B.pre⟩
  obtain ⟨hx, hb, -, hown, hts⟩ := id S
  have hr := B.returns
  have hlocks := B.notSynchronized
  have X : gX D vwCl dA (cLive N) A (gA (cLive N) A) s := ⟨hK, hJ, fun i hi => ⟨i, hi, rfl⟩⟩
  have Z : gZ D (cLay N) dA (cLive N) A (gA (cLive N) A) s.heap M s.heap [] := ⟨hP, va_S.rf⟩
  have hin_X0 : ∀ w ∈ wsX00, w ∈ wmX1_makeRoom := cin_X0
  have hin_X1 : ∀ w ∈ wsX10, w ∈ wmX1_makeRoom := cin_X1
  have hl_29 := hts (.fieldLink RX1 29 "ReplicaFiles$Client" "catalog" "LReplicaFiles$Catalog;") (cBc 40 rfl)
  have hl_33 := hts (.fieldLink RX1 33 "ReplicaFiles$Client" "tallies" "[I") (cBc 41 rfl)
  have hl_83 := va_Nw.use (A := args) rfl (hN.1 ("ReplicaFiles$Client", 83, "ReplicaFiles$Catalog", "made", "I", "ReplicaFiles") (by decide +kernel))
  have hl := lv_entry ([.ref (A (30, i0, 0)), .int a1, .int a2]) (n := 7) (Nat.le_of_ble_eq_true rfl)
  rw [← hargs, lg_entry_eq, hargs]
  generalize (lg_sl ([.ref (A (30, i0, 0)), .int a1, .int a2]) ++ List.replicate (7 - (lg_sl ([.ref (A (30, i0, 0)), .int a1, .int a2])).length) Slot.unset).toArray = ls at hl ⊢
  have hl : lv_has ls 7 [(0, .ref (A (30, i0, 0))), (1, .int a1), (2, .int a2)] := hl
  unfold f_X1_makeRoom at h
  refine lv_iload_n hx hb dX1_makeRoom_0 rfl (lv_at hl 1 rfl) ?_
  refine lv_if_gt (tgt := 6) hx hb dX1_makeRoom_1 (by decide) (fun c1 => ?_) (fun c1 => ?_)
  · have h := if_t c1 h
    refine lv_bipush (v := (24 : Int32)) hx hb dX1_makeRoom_6 (by decide) ?_
    refine lv_istore_n (lv' := [(3, .int (24 : Int32)), (0, .ref (A (30, i0, 0))), (1, .int a1), (2, .int a2)]) hx hb dX1_makeRoom_8 rfl hl (by decide) rfl (fun ls hl => ?_)
    refine lv_bipush (v := (24 : Int32)) hx hb dX1_makeRoom_9 (by decide) ?_
    refine lv_istore (lv' := [(4, .int (24 : Int32)), (3, .int (24 : Int32)), (0, .ref (A (30, i0, 0))), (1, .int a1), (2, .int a2)]) hx hb dX1_makeRoom_11 hl (by decide) rfl (fun ls hl => ?_)
    refine lv_iconst (v := (0 : Int32)) hx hb dX1_makeRoom_13 (by decide) ?_
    refine lv_istore (lv' := [(5, .int (0 : Int32)), (4, .int (24 : Int32)), (3, .int (24 : Int32)), (0, .ref (A (30, i0, 0))), (1, .int a1), (2, .int a2)]) hx hb dX1_makeRoom_14 hl (by decide) rfl (fun ls hl => ?_)
    obtain ⟨J68, eJ68, h⟩ := jn_e h
    have hJ68 : ∀ (b2 : Int32) (b3 : Int32) (M4 : gM) (H : Heap) (locs : List Loc) (ls : Array Slot), gZ D (cLay N) dA (cLive N) A (gA (cLive N) A) s.heap M4 H locs → lv_has ls 7 [(0, .ref (A (30, i0, 0))), (1, .int a1), (2, .int a2), (3, .int b2), (4, .int b3)] → J68 (b2, b3, M4) = some y → W p l e (headSpec wmX1_makeRoom ({ frames := 3, cells := 0, slots := 0, locals := 66 } : Room)).room s m args below meth c H locs 0 0 (MQ below (cQi N D dA A y) args s 0 0 (gA (cLive N) A)) (F0 m 68 ls []) := by
      intro b2 b3 M4 H locs ls Z hl h
      rw [eJ68] at h
      try dsimp only at h
      refine lv_iload hx hb dX1_makeRoom_68 (lv_at hl 4 rfl) ?_
      refine lv_iload_n hx hb dX1_makeRoom_70 rfl (lv_at hl 1 rfl) ?_
      refine lv_icmp_ge (tgt := 76) hx hb dX1_makeRoom_71 (by decide) (fun c5 => ?_) (fun c5 => ?_)
      · have h := if_t c5 h
        refine lv_iconst (v := (0 : Int32)) hx hb dX1_makeRoom_76 (by decide) ?_
        refine lv_istore (lv' := [(5, .int (0 : Int32)), (0, .ref (A (30, i0, 0))), (1, .int a1), (2, .int a2), (3, .int b2), (4, .int b3)]) hx hb dX1_makeRoom_77 hl (by decide) rfl (fun ls hl => ?_)
        have hL79 : ∀ (n : Nat) (x6 : Int32) (x7 : Int32) (M8 : gM) (H : Heap) (locs : List Loc) (ls : Array Slot), gZ D (cLay N) dA (cLive N) A (gA (cLive N) A) s.heap M8 H locs → lv_has ls 7 [(0, .ref (A (30, i0, 0))), (1, .int a1), (2, .int a2), (3, .int x6), (5, .int x7)] → f_X1_makeRoom_L79 N i0 a1 a2 n x6 x7 M8 = some y → W p l e (headSpec wmX1_makeRoom ({ frames := 3, cells := 0, slots := 0, locals := 66 } : Room)).room s m args below meth c H locs 0 0 (MQ below (cQi N D dA A y) args s 0 0 (gA (cLive N) A)) (F0 m 79 ls []) := by
          intro n
          induction n with
          | zero =>
            intro x6 x7 M8 H locs ls Z hl h
            rw [f_X1_makeRoom_L79] at h
            cases h
          | succ n9 ih79 =>
            intro x6 x7 M8 H locs ls Z hl h
            rw [f_X1_makeRoom_L79] at h
            refine lv_iload hx hb dX1_makeRoom_79 (lv_at hl 4 rfl) ?_
            refine lv_bipush (v := (48 : Int32)) hx hb dX1_makeRoom_81 (by decide) ?_
            refine lv_icmp_ge (tgt := 138) hx hb dX1_makeRoom_83 (by decide) (fun c10 => ?_) (fun c10 => ?_)
            · have h := if_t c10 h
              refine lv_iconst (v := (1 : Int32)) hx hb dX1_makeRoom_138 (by decide) ?_
              have hy := Option.some.inj h
              subst hy
              exact g_rz (Or.inr rfl) S Z hr hlocks dX1_makeRoom_139
            · have h := if_f c10 h
              refine lv_iload_n hx hb dX1_makeRoom_86 rfl (lv_at hl 3 rfl) ?_
              refine lv_iload_n hx hb dX1_makeRoom_87 rfl (lv_at hl 1 rfl) ?_
              refine lv_icmp_ge (tgt := 138) hx hb dX1_makeRoom_88 (by decide) (fun c11 => ?_) (fun c11 => ?_)
              · have h := if_t c11 h
                refine lv_iconst (v := (1 : Int32)) hx hb dX1_makeRoom_138 (by decide) ?_
                have hy := Option.some.inj h
                subst hy
                exact g_rz (Or.inr rfl) S Z hr hlocks dX1_makeRoom_139
              · have h := if_f c11 h
                refine lv_aload_n hx hb dX1_makeRoom_91 rfl (lv_at hl 0 rfl) ?_
                refine lv_iload_n hx hb dX1_makeRoom_92 rfl (lv_at hl 2 rfl) ?_
                obtain ⟨v13, hc12, h⟩ := o1_e h
                refine c_i X Z (c_V (i := (30, i0, 0)) (As := [.int a2]) (rest := []) S X hN Z hi0 rfl rfl (t_X1_nextToGo l N D dA A hJ hi0 hc12) (cwV 1 hts (cGV (cB 97 rfl) (cB 98 rfl) (cB 99 rfl) (cB 64 rfl) (cB 87 rfl)) rfl rfl rfl (by decide +kernel) ⟨Nat.le_of_ble_eq_true rfl, Nat.le_of_ble_eq_true rfl⟩) rfl hl.1 rfl (Nat.le_of_ble_eq_true rfl) dX1_makeRoom_93 ⟨Nat.zero_le _, Nat.zero_le _⟩) (fun H locs Z => ?_)
                refine lv_istore (lv' := [(6, .int v13), (0, .ref (A (30, i0, 0))), (1, .int a1), (2, .int a2), (3, .int x6), (5, .int x7)]) hx hb dX1_makeRoom_96 hl (by decide) rfl (fun ls hl => ?_)
                refine lv_iload hx hb dX1_makeRoom_98 (lv_at hl 0 rfl) ?_
                refine lv_iconst (v := (-1 : Int32)) hx hb dX1_makeRoom_100 (by decide) ?_
                refine lv_icmp_ne (tgt := 106) hx hb dX1_makeRoom_101 (by decide) (fun c14 => ?_) (fun c14 => ?_)
                · have h := if_f c14 h
                  refine lv_iload_n hx hb dX1_makeRoom_106 rfl (lv_at hl 4 rfl) ?_
                  refine lv_aload_n hx hb dX1_makeRoom_107 rfl (lv_at hl 1 rfl) ?_
                  refine lv_iload hx hb dX1_makeRoom_108 (lv_at hl 0 rfl) ?_
                  obtain ⟨v16, hc15, h⟩ := o1_e h
                  refine c_i X Z (c_V (i := (30, i0, 0)) (As := [.int v13]) (rest := [.int x6]) S X hN Z hi0 rfl rfl (t_X1_weightOf l N D dA A hJ hi0 hc15) (cwV 1 hts (cGV (cB 94 rfl) (cB 95 rfl) (cB 96 rfl) (cB 64 rfl) (cB 81 rfl)) rfl rfl rfl (by decide +kernel) ⟨Nat.le_of_ble_eq_true rfl, Nat.le_of_ble_eq_true rfl⟩) rfl hl.1 rfl (Nat.le_of_ble_eq_true rfl) dX1_makeRoom_110 ⟨Nat.zero_le _, Nat.zero_le _⟩) (fun H locs Z => ?_)
                  refine lv_iadd hx hb dX1_makeRoom_113 ?_
                  refine g_topi h (fun x17 h => ?_)
                  refine lv_istore_n (lv' := [(3, .int x17), (6, .int v13), (0, .ref (A (30, i0, 0))), (1, .int a1), (2, .int a2), (5, .int x7)]) hx hb dX1_makeRoom_114 rfl hl (by decide) rfl (fun ls hl => ?_)
                  refine lv_aload_n hx hb dX1_makeRoom_115 rfl (lv_at hl 2 rfl) ?_
                  refine lv_iload hx hb dX1_makeRoom_116 (lv_at hl 1 rfl) ?_
                  obtain ⟨M19, hc18, h⟩ := o1_e h
                  refine c_v X Z (c_V (i := (30, i0, 0)) (As := [.int v13]) (rest := []) S X hN Z hi0 rfl rfl (t_X1_drop l N D dA A hJ hi0 hc18) (cwV 1 hts (cGV (cB 100 rfl) (cB 101 rfl) (cB 102 rfl) (cB 64 rfl) (cB 76 rfl)) rfl rfl rfl (by decide +kernel) ⟨Nat.le_of_ble_eq_true rfl, Nat.le_of_ble_eq_true rfl⟩) rfl hl.1 rfl (Nat.le_of_ble_eq_true rfl) dX1_makeRoom_118 ⟨Nat.zero_le _, Nat.zero_le _⟩) (fun H locs Z => ?_)
                  refine lv_aload_n hx hb dX1_makeRoom_121 rfl (lv_at hl 2 rfl) ?_
                  refine cr_X1_tallies (a := i0) S X Z hin_X1 hi0 hl_33 dX1_makeRoom_122 ?_
                  refine lv_bipush (v := (6 : Int32)) hx hb dX1_makeRoom_125 (by decide) ?_
                  refine lv_dup2_11 hx hb dX1_makeRoom_127 rfl rfl ?_
                  refine g_iald (i := (9, 0, 0)) (n := 8) S X Z (cl_one N 9 (by decide)) rfl dX1_makeRoom_128 h (fun v20 h => ?_)
                  refine lv_iconst (v := (1 : Int32)) hx hb dX1_makeRoom_129 (by decide) ?_
                  refine lv_iadd hx hb dX1_makeRoom_130 ?_
                  refine g_iast (i := (9, 0, 0)) (n := 8) S X Z (cl_one N 9 (by decide)) rfl dX1_makeRoom_131 h (fun M21 H locs Z h => ?_)
                  obtain ⟨x22, ex22, h⟩ := lt_e h
                  refine lv_iinc (v := x22) (lv' := [(5, .int x22), (3, .int x17), (6, .int v13), (0, .ref (A (30, i0, 0))), (1, .int a1), (2, .int a2)]) hx hb dX1_makeRoom_132 hl (k := 5) rfl (by rw [ex22]; rfl) (by decide) rfl (fun ls hl => ?_)
                  refine lv_goto (tgt := 79) hx hb dX1_makeRoom_135 (by decide) ?_
                  exact ih79 x17 x22 M21 _ _ _ Z (lv_sub hl [3, 4, 5, 1, 0] rfl) h
                · have h := if_t c14 h
                  refine lv_iconst (v := (0 : Int32)) hx hb dX1_makeRoom_104 (by decide) ?_
                  have hy := Option.some.inj h
                  subst hy
                  exact g_rz (Or.inl rfl) S Z hr hlocks dX1_makeRoom_105
        exact hL79 100 b2 (0 : Int32) M4 _ _ _ Z (lv_sub hl [1, 2, 3, 4, 0] rfl) h
      · have h := if_f c5 h
        refine lv_iconst (v := (0 : Int32)) hx hb dX1_makeRoom_74 (by decide) ?_
        have hy := Option.some.inj h
        subst hy
        exact g_rz (Or.inl rfl) S Z hr hlocks dX1_makeRoom_75
    have hL16 : ∀ (n : Nat) (x23 : Int32) (x24 : Int32) (x25 : Int32) (M26 : gM) (H : Heap) (locs : List Loc) (ls : Array Slot), gZ D (cLay N) dA (cLive N) A (gA (cLive N) A) s.heap M26 H locs → lv_has ls 7 [(0, .ref (A (30, i0, 0))), (1, .int a1), (2, .int a2), (3, .int x23), (4, .int x24), (5, .int x25)] → f_X1_makeRoom_L16 N i0 a1 a2 J68 n x23 x24 x25 M26 = some y → W p l e (headSpec wmX1_makeRoom ({ frames := 3, cells := 0, slots := 0, locals := 66 } : Room)).room s m args below meth c H locs 0 0 (MQ below (cQi N D dA A y) args s 0 0 (gA (cLive N) A)) (F0 m 16 ls []) := by
      intro n
      induction n with
      | zero =>
        intro x23 x24 x25 M26 H locs ls Z hl h
        rw [f_X1_makeRoom_L16] at h
        cases h
      | succ n27 ih16 =>
        intro x23 x24 x25 M26 H locs ls Z hl h
        rw [f_X1_makeRoom_L16] at h
        refine lv_iload hx hb dX1_makeRoom_16 (lv_at hl 5 rfl) ?_
        refine lv_aload_n hx hb dX1_makeRoom_18 rfl (lv_at hl 0 rfl) ?_
        refine cr_X1_catalog (a := i0) S X Z hin_X1 hi0 hl_29 dX1_makeRoom_19 ?_
        refine cn_X0_made S X Z hin_X0 (cl_one N 1 (by decide)) hl_83 dX1_makeRoom_22 h (fun v28 h => ?_)
        refine lv_icmp_gt (tgt := 68) hx hb dX1_makeRoom_25 (by decide) (fun c29 => ?_) (fun c29 => ?_)
        · have h := if_t c29 h
          exact hJ68 x23 x24 M26 _ _ _ Z (lv_sub hl [0, 1, 2, 3, 4] rfl) h
        · have h := if_f c29 h
          refine lv_iload_n hx hb dX1_makeRoom_28 rfl (lv_at hl 3 rfl) ?_
          refine lv_aload_n hx hb dX1_makeRoom_29 rfl (lv_at hl 0 rfl) ?_
          refine lv_iload hx hb dX1_makeRoom_30 (lv_at hl 5 rfl) ?_
          obtain ⟨v31, hc30, h⟩ := o1_e h
          refine c_i X Z (c_V (i := (30, i0, 0)) (As := [.int x25]) (rest := [.int x23]) S X hN Z hi0 rfl rfl (t_X1_weightOf l N D dA A hJ hi0 hc30) (cwV 1 hts (cGV (cB 94 rfl) (cB 95 rfl) (cB 96 rfl) (cB 64 rfl) (cB 81 rfl)) rfl rfl rfl (by decide +kernel) ⟨Nat.le_of_ble_eq_true rfl, Nat.le_of_ble_eq_true rfl⟩) rfl hl.1 rfl (Nat.le_of_ble_eq_true rfl) dX1_makeRoom_32 ⟨Nat.zero_le _, Nat.zero_le _⟩) (fun H locs Z => ?_)
          refine lv_isub hx hb dX1_makeRoom_35 ?_
          refine g_topi h (fun x32 h => ?_)
          refine lv_istore_n (lv' := [(3, .int x32), (0, .ref (A (30, i0, 0))), (1, .int a1), (2, .int a2), (4, .int x24), (5, .int x25)]) hx hb dX1_makeRoom_36 rfl hl (by decide) rfl (fun ls hl => ?_)
          refine lv_iload hx hb dX1_makeRoom_37 (lv_at hl 4 rfl) ?_
          refine lv_aload_n hx hb dX1_makeRoom_39 rfl (lv_at hl 1 rfl) ?_
          refine lv_iload hx hb dX1_makeRoom_40 (lv_at hl 5 rfl) ?_
          refine lv_iload_n hx hb dX1_makeRoom_42 rfl (lv_at hl 3 rfl) ?_
          obtain ⟨v34, hc33, h⟩ := o1_e h
          refine c_i X Z (c_V (i := (30, i0, 0)) (As := [.int x25, .int a2]) (rest := [.int x24]) S X hN Z hi0 rfl rfl (t_X1_mayGo l N D dA A hJ hi0 hc33) (cwV 2 hts (cGV (cB 88 rfl) (cB 89 rfl) (cB 90 rfl) (cB 64 rfl) (cB 85 rfl)) rfl rfl rfl (by decide +kernel) ⟨Nat.le_of_ble_eq_true rfl, Nat.le_of_ble_eq_true rfl⟩) rfl hl.1 rfl (Nat.le_of_ble_eq_true rfl) dX1_makeRoom_43 ⟨Nat.zero_le _, Nat.zero_le _⟩) (fun H locs Z => ?_)
          obtain ⟨J59, eJ59, h⟩ := jn_e h
          have hJ59 : ∀ (b35 : Int32) (M36 : gM) (H : Heap) (locs : List Loc) (ls : Array Slot), gZ D (cLay N) dA (cLive N) A (gA (cLive N) A) s.heap M36 H locs → lv_has ls 7 [(0, .ref (A (30, i0, 0))), (1, .int a1), (2, .int a2), (3, .int x32), (5, .int x25)] → J59 (b35, M36) = some y → W p l e (headSpec wmX1_makeRoom ({ frames := 3, cells := 0, slots := 0, locals := 66 } : Room)).room s m args below meth c H locs 0 0 (MQ below (cQi N D dA A y) args s 0 0 (gA (cLive N) A)) (F0 m 59 ls [.int b35, .int x24]) := by
            intro b35 M36 H locs ls Z hl h
            rw [eJ59] at h
            try dsimp only at h
            refine lv_isub hx hb dX1_makeRoom_59 ?_
            refine g_topi h (fun x37 h => ?_)
            refine lv_istore (lv' := [(4, .int x37), (0, .ref (A (30, i0, 0))), (1, .int a1), (2, .int a2), (3, .int x32), (5, .int x25)]) hx hb dX1_makeRoom_60 hl (by decide) rfl (fun ls hl => ?_)
            obtain ⟨x38, ex38, h⟩ := lt_e h
            refine lv_iinc (v := x38) (lv' := [(5, .int x38), (4, .int x37), (0, .ref (A (30, i0, 0))), (1, .int a1), (2, .int a2), (3, .int x32)]) hx hb dX1_makeRoom_62 hl (k := 5) rfl (by rw [ex38]; rfl) (by decide) rfl (fun ls hl => ?_)
            refine lv_goto (tgt := 16) hx hb dX1_makeRoom_65 (by decide) ?_
            exact ih16 x32 x37 x38 M36 _ _ _ Z (lv_sub hl [2, 3, 4, 5, 1, 0] rfl) h
          refine lv_if_eq (tgt := 53) hx hb dX1_makeRoom_46 (by decide) (fun c39 => ?_) (fun c39 => ?_)
          · have h := if_t c39 h
            refine lv_aload_n hx hb dX1_makeRoom_53 rfl (lv_at hl 1 rfl) ?_
            refine lv_iload hx hb dX1_makeRoom_54 (lv_at hl 5 rfl) ?_
            obtain ⟨v41, hc40, h⟩ := o1_e h
            refine c_i X Z (c_V (i := (30, i0, 0)) (As := [.int x25]) (rest := [.int x24]) S X hN Z hi0 rfl rfl (t_X1_weightOf l N D dA A hJ hi0 hc40) (cwV 1 hts (cGV (cB 94 rfl) (cB 95 rfl) (cB 96 rfl) (cB 64 rfl) (cB 81 rfl)) rfl rfl rfl (by decide +kernel) ⟨Nat.le_of_ble_eq_true rfl, Nat.le_of_ble_eq_true rfl⟩) rfl hl.1 rfl (Nat.le_of_ble_eq_true rfl) dX1_makeRoom_56 ⟨Nat.zero_le _, Nat.zero_le _⟩) (fun H locs Z => ?_)
            exact hJ59 v41 M26 _ _ _ Z (lv_sub hl [1, 2, 3, 0, 5] rfl) h
          · have h := if_f c39 h
            refine lv_iconst (v := (0 : Int32)) hx hb dX1_makeRoom_49 (by decide) ?_
            refine lv_goto (tgt := 59) hx hb dX1_makeRoom_50 (by decide) ?_
            exact hJ59 (0 : Int32) M26 _ _ _ Z (lv_sub hl [1, 2, 3, 0, 5] rfl) h
    exact hL16 100 (24 : Int32) (24 : Int32) (0 : Int32) M _ _ _ Z (lv_sub hl [3, 4, 5, 2, 1, 0] rfl) h
  · have h := if_f c1 h
    refine lv_iconst (v := (1 : Int32)) hx hb dX1_makeRoom_4 (by decide) ?_
    have hy := Option.some.inj h
    subst hy
    exact g_rz (Or.inr rfl) S Z hr hlocks dX1_makeRoom_5
-- X10_assign ([I[I)V: 19 instructions
theorem dX10_assign_0 : decode cX10_assign 0 = .ok (.iconst 0, 1) := by decide +kernel
theorem dX10_assign_1 : decode cX10_assign 1 = .ok (.istore_n 2, 1) := by decide +kernel
theorem dX10_assign_2 : decode cX10_assign 2 = .ok (.iload_n 2, 1) := by decide +kernel
theorem dX10_assign_3 : decode cX10_assign 3 = .ok (.aload_n 0, 1) := by decide +kernel
theorem dX10_assign_4 : decode cX10_assign 4 = .ok (.arraylength, 1) := by decide +kernel
theorem dX10_assign_5 : decode cX10_assign 5 = .ok (.if_icmp .ge 21, 3) := by decide +kernel
theorem dX10_assign_8 : decode cX10_assign 8 = .ok (.iload_n 2, 1) := by decide +kernel
theorem dX10_assign_9 : decode cX10_assign 9 = .ok (.aload_n 1, 1) := by decide +kernel
theorem dX10_assign_10 : decode cX10_assign 10 = .ok (.arraylength, 1) := by decide +kernel
theorem dX10_assign_11 : decode cX10_assign 11 = .ok (.if_icmp .ge 15, 3) := by decide +kernel
theorem dX10_assign_14 : decode cX10_assign 14 = .ok (.aload_n 0, 1) := by decide +kernel
theorem dX10_assign_15 : decode cX10_assign 15 = .ok (.iload_n 2, 1) := by decide +kernel
theorem dX10_assign_16 : decode cX10_assign 16 = .ok (.aload_n 1, 1) := by decide +kernel
theorem dX10_assign_17 : decode cX10_assign 17 = .ok (.iload_n 2, 1) := by decide +kernel
theorem dX10_assign_18 : decode cX10_assign 18 = .ok (.iaload, 1) := by decide +kernel
theorem dX10_assign_19 : decode cX10_assign 19 = .ok (.iastore, 1) := by decide +kernel
theorem dX10_assign_20 : decode cX10_assign 20 = .ok (.iinc 2 1, 3) := by decide +kernel
theorem dX10_assign_23 : decode cX10_assign 23 = .ok (.goto (-21), 3) := by decide +kernel
theorem dX10_assign_26 : decode cX10_assign 26 = .ok (.return_, 1) := by decide +kernel
abbrev wmX10_assign : List Cond := .code yX10_assign cX10_assign 3 none :: cBig
def f_X10_assign_L2 (N : Nat) (a0 : gI) (a1 : gI) : Nat → Int32 → gM → Option gM
  | 0, _, _ => none
  | n3 + 1, x1, M2 => (if (nI (cN N a0)) ≤ x1 then some M2 else (if (nI (cN N a1)) ≤ x1 then some M2 else rd M2 a1 (cN N a1) x1 (fun v6 => wr M2 a0 (cN N a0) x1 v6 (fun M7 => lt (x1 + 1) (fun x8 => f_X10_assign_L2 N a0 a1 n3 x8 M7)))))
def f_X10_assign (N : Nat) (M : gM) (a0 : gI) (a1 : gI) : Option gM :=
  f_X10_assign_L2 N a0 a1 100 (0 : Int32) M
set_option maxHeartbeats 4000000 in
set_option maxRecDepth 100000 in
theorem t_X10_assign (l : Launch) (N : Nat) (D : va_G) (dA : Nat → ClassId) (A : gI → Nat) (hJ : gJ (cLive N) A) {M : gM} {a0 : gI} {a1 : gI} (ha0 : cArr N a0) (ha1 : cArr N a1) {y : gM} (h : f_X10_assign N M a0 a1 = some y) : cMv l yX10_assign wmX10_assign ({ frames := 0, cells := 0, slots := 0, locals := 0 } : Room) N D dA A [.ref (A a0), .ref (A a1)] M y := by
  refine Met.ofW (cc := cX10_assign) (maxL := 3) (ret := none) (by decide) rfl ?_
  intro p e s m args below meth c s₁ B hml hv
  obtain ⟨rfl, hP, hK, hN⟩ := hv
  generalize hargs : ([.ref (A a0), .ref (A a1)] : List Value).toArray = args at B ⊢
  have S : CallFix p m c cX10_assign 3 s args wmX10_assign RX10 := ⟨B.exec, B.bytes, hml, findClass_of_methodNamed B.named, atoms_spec (ws := wmX10_assign) B.pre⟩
  obtain ⟨hx, hb, -, hown, hts⟩ := id S
  have hr := B.returns
  have hlocks := B.notSynchronized
  have X : gX D vwCl dA (cLive N) A (gA (cLive N) A) s := ⟨hK, hJ, fun i hi => ⟨i, hi, rfl⟩⟩
  have Z : gZ D (cLay N) dA (cLive N) A (gA (cLive N) A) s.heap M s.heap [] := ⟨hP, va_S.rf⟩
  have hl := lv_entry ([.ref (A a0), .ref (A a1)]) (n := 3) (Nat.le_of_ble_eq_true rfl)
  rw [← hargs, lg_entry_eq, hargs]
  generalize (lg_sl ([.ref (A a0), .ref (A a1)]) ++ List.replicate (3 - (lg_sl ([.ref (A a0), .ref (A a1)])).length) Slot.unset).toArray = ls at hl ⊢
  have hl : lv_has ls 3 [(0, .ref (A a0)), (1, .ref (A a1))] := hl
  unfold f_X10_assign at h
  refine lv_iconst (v := (0 : Int32)) hx hb dX10_assign_0 (by decide) ?_
  refine lv_istore_n (lv' := [(2, .int (0 : Int32)), (0, .ref (A a0)), (1, .ref (A a1))]) hx hb dX10_assign_1 rfl hl (by decide) rfl (fun ls hl => ?_)
  have hL2 : ∀ (n : Nat) (x1 : Int32) (M2 : gM) (H : Heap) (locs : List Loc) (ls : Array Slot), gZ D (cLay N) dA (cLive N) A (gA (cLive N) A) s.heap M2 H locs → lv_has ls 3 [(0, .ref (A a0)), (1, .ref (A a1)), (2, .int x1)] → f_X10_assign_L2 N a0 a1 n x1 M2 = some y → W p l e (headSpec wmX10_assign ({ frames := 0, cells := 0, slots := 0, locals := 0 } : Room)).room s m args below meth c H locs 0 0 (MQ below (cQv N D dA A y) args s 0 0 (gA (cLive N) A)) (F0 m 2 ls []) := by
    intro n
    induction n with
    | zero =>
      intro x1 M2 H locs ls Z hl h
      rw [f_X10_assign_L2] at h
      cases h
    | succ n3 ih2 =>
      intro x1 M2 H locs ls Z hl h
      rw [f_X10_assign_L2] at h
      refine lv_iload_n hx hb dX10_assign_2 rfl (lv_at hl 2 rfl) ?_
      refine lv_aload_n hx hb dX10_assign_3 rfl (lv_at hl 0 rfl) ?_
      refine g_alI (ca := 0) rfl S X Z ha0.1 ha0.2 dX10_assign_4 ?_
      refine lv_icmp_ge (tgt := 26) hx hb dX10_assign_5 (by decide) (fun c4 => ?_) (fun c4 => ?_)
      · have h := if_t c4 h
        have hy := Option.some.inj h
        subst hy
        exact g_rv S Z hr hlocks dX10_assign_26
      · have h := if_f c4 h
        refine lv_iload_n hx hb dX10_assign_8 rfl (lv_at hl 2 rfl) ?_
        refine lv_aload_n hx hb dX10_assign_9 rfl (lv_at hl 1 rfl) ?_
        refine g_alI (ca := 0) rfl S X Z ha1.1 ha1.2 dX10_assign_10 ?_
        refine lv_icmp_ge (tgt := 26) hx hb dX10_assign_11 (by decide) (fun c5 => ?_) (fun c5 => ?_)
        · have h := if_t c5 h
          have hy := Option.some.inj h
          subst hy
          exact g_rv S Z hr hlocks dX10_assign_26
        · have h := if_f c5 h
          refine lv_aload_n hx hb dX10_assign_14 rfl (lv_at hl 0 rfl) ?_
          refine lv_iload_n hx hb dX10_assign_15 rfl (lv_at hl 2 rfl) ?_
          refine lv_aload_n hx hb dX10_assign_16 rfl (lv_at hl 1 rfl) ?_
          refine lv_iload_n hx hb dX10_assign_17 rfl (lv_at hl 2 rfl) ?_
          refine g_iald (i := a1) (n := (cN N a1)) S X Z ha1.1 ha1.2 dX10_assign_18 h (fun v6 h => ?_)
          refine g_iast (i := a0) (n := (cN N a0)) S X Z ha0.1 ha0.2 dX10_assign_19 h (fun M7 H locs Z h => ?_)
          obtain ⟨x8, ex8, h⟩ := lt_e h
          refine lv_iinc (v := x8) (lv' := [(2, .int x8), (0, .ref (A a0)), (1, .ref (A a1))]) hx hb dX10_assign_20 hl (k := 2) rfl (by rw [ex8]; rfl) (by decide) rfl (fun ls hl => ?_)
          refine lv_goto (tgt := 2) hx hb dX10_assign_23 (by decide) ?_
          exact ih2 x8 M7 _ _ _ Z (lv_sub hl [1, 2, 0] rfl) h
  exact hL2 100 (0 : Int32) M _ _ _ Z (lv_sub hl [1, 2, 0] rfl) h
