-- X9_isLike (LReplicaFiles$Versions;)Z: 35 instructions
theorem dX9_isLike_0 : decode cX9_isLike 0 = .ok (.aload_n 0, 1) := by decide +kernel
theorem dX9_isLike_1 : decode cX9_isLike 1 = .ok (.getfield 21, 3) := by decide +kernel
theorem dX9_isLike_4 : decode cX9_isLike 4 = .ok (.aload_n 1, 1) := by decide +kernel
theorem dX9_isLike_5 : decode cX9_isLike 5 = .ok (.getfield 21, 3) := by decide +kernel
theorem dX9_isLike_8 : decode cX9_isLike 8 = .ok (.if_icmp .eq 5, 3) := by decide +kernel
theorem dX9_isLike_11 : decode cX9_isLike 11 = .ok (.iconst 0, 1) := by decide +kernel
theorem dX9_isLike_12 : decode cX9_isLike 12 = .ok (.ireturn, 1) := by decide +kernel
theorem dX9_isLike_13 : decode cX9_isLike 13 = .ok (.iconst 0, 1) := by decide +kernel
theorem dX9_isLike_14 : decode cX9_isLike 14 = .ok (.istore_n 2, 1) := by decide +kernel
theorem dX9_isLike_15 : decode cX9_isLike 15 = .ok (.iload_n 2, 1) := by decide +kernel
theorem dX9_isLike_16 : decode cX9_isLike 16 = .ok (.aload_n 0, 1) := by decide +kernel
theorem dX9_isLike_17 : decode cX9_isLike 17 = .ok (.getfield 21, 3) := by decide +kernel
theorem dX9_isLike_20 : decode cX9_isLike 20 = .ok (.if_icmp .ge 37, 3) := by decide +kernel
theorem dX9_isLike_23 : decode cX9_isLike 23 = .ok (.aload_n 0, 1) := by decide +kernel
theorem dX9_isLike_24 : decode cX9_isLike 24 = .ok (.iload_n 2, 1) := by decide +kernel
theorem dX9_isLike_25 : decode cX9_isLike 25 = .ok (.aload_n 1, 1) := by decide +kernel
theorem dX9_isLike_26 : decode cX9_isLike 26 = .ok (.getfield 7, 3) := by decide +kernel
theorem dX9_isLike_29 : decode cX9_isLike 29 = .ok (.iload_n 2, 1) := by decide +kernel
theorem dX9_isLike_30 : decode cX9_isLike 30 = .ok (.iaload, 1) := by decide +kernel
theorem dX9_isLike_31 : decode cX9_isLike 31 = .ok (.aload_n 1, 1) := by decide +kernel
theorem dX9_isLike_32 : decode cX9_isLike 32 = .ok (.getfield 13, 3) := by decide +kernel
theorem dX9_isLike_35 : decode cX9_isLike 35 = .ok (.iload_n 2, 1) := by decide +kernel
theorem dX9_isLike_36 : decode cX9_isLike 36 = .ok (.iaload, 1) := by decide +kernel
theorem dX9_isLike_37 : decode cX9_isLike 37 = .ok (.aload_n 1, 1) := by decide +kernel
theorem dX9_isLike_38 : decode cX9_isLike 38 = .ok (.getfield 18, 3) := by decide +kernel
theorem dX9_isLike_41 : decode cX9_isLike 41 = .ok (.iload_n 2, 1) := by decide +kernel
theorem dX9_isLike_42 : decode cX9_isLike 42 = .ok (.aaload, 1) := by decide +kernel
theorem dX9_isLike_43 : decode cX9_isLike 43 = .ok (.invokevirtual 35, 3) := by decide +kernel
theorem dX9_isLike_46 : decode cX9_isLike 46 = .ok (.ifCond .ne 5, 3) := by decide +kernel
theorem dX9_isLike_49 : decode cX9_isLike 49 = .ok (.iconst 0, 1) := by decide +kernel
theorem dX9_isLike_50 : decode cX9_isLike 50 = .ok (.ireturn, 1) := by decide +kernel
theorem dX9_isLike_51 : decode cX9_isLike 51 = .ok (.iinc 2 1, 3) := by decide +kernel
theorem dX9_isLike_54 : decode cX9_isLike 54 = .ok (.goto (-39), 3) := by decide +kernel
theorem dX9_isLike_57 : decode cX9_isLike 57 = .ok (.iconst 1, 1) := by decide +kernel
theorem dX9_isLike_58 : decode cX9_isLike 58 = .ok (.ireturn, 1) := by decide +kernel
abbrev wmX9_isLike : List Cond := .code yX9_isLike cX9_isLike 3 (some .boolean) :: cBig
def f_X9_isLike_L15 (N : Nat) (M5 : gM) (i0 : Nat) (i1 : Nat) : Nat → Int32 → Option Int32
  | 0, _ => none
  | n6 + 1, x4 => lt (M5 (60, i0, 0) 3) (fun v7 => (if v7 ≤ x4 then some (1 : Int32) else rd M5 (61, i1, 0) (cMost i1) x4 (fun v9 => rd M5 (62, i1, 0) (cMost i1) x4 (fun v10 => ix x4 (cMost i1) (fun v11 => o1 (f_X9_isAt N M5 i0 x4 v9 v10 (64, i1, v11)) (fun v13 => (if v13 = 0 then some (0 : Int32) else lt (x4 + 1) (fun x15 => f_X9_isLike_L15 N M5 i0 i1 n6 x15))))))))
def f_X9_isLike (N : Nat) (M : gM) (i0 : Nat) (i1 : Nat) : Option Int32 :=
  lt (M (60, i0, 0) 3) (fun v1 => lt (M (60, i1, 0) 3) (fun v2 => (if v1 = v2 then f_X9_isLike_L15 N M i0 i1 100 (0 : Int32) else some (0 : Int32))))
set_option maxHeartbeats 4000000 in
set_option maxRecDepth 100000 in
theorem t_X9_isLike (l : Launch) (N : Nat) (D : va_G) (dA : Nat → ClassId) (A : gI → Nat) (hJ : gJ (cLive N) A) {M : gM} {i0 : Nat} {i1 : Nat} (hi0 : cLive N (60, i0, 0)) (hi1 : cLive N (60, i1, 0)) {y : Int32} (h : f_X9_isLike N M i0 i1 = some y) : cMi l yX9_isLike wmX9_isLike ({ frames := 2, cells := 0, slots := 0, locals := 46 } : Room) N D dA A [.ref (A (60, i0, 0)), .ref (A (60, i1, 0))] M y M := by
  refine Met.ofW (cc := cX9_isLike) (maxL := 3) (ret := (some .boolean)) (by decide) rfl ?_
  intro p e s m args below meth c s₁ B hml hv
  obtain ⟨rfl, hP, hK, hN⟩ := hv
  generalize hargs : ([.ref (A (60, i0, 0)), .ref (A (60, i1, 0))] : List Value).toArray = args at B ⊢
  have S : CallFix p m c cX9_isLike 3 s args wmX9_isLike RX9 := ⟨B.exec, B.bytes, hml, findClass_of_methodNamed B.named, atoms_spec (ws := wmX9_isLike) B.pre⟩
  obtain ⟨hx, hb, -, hown, hts⟩ := id S
  have hr := B.returns
  have hlocks := B.notSynchronized
  have X : gX D vwCl dA (cLive N) A (gA (cLive N) A) s := ⟨hK, hJ, fun i hi => ⟨i, hi, rfl⟩⟩
  have Z : gZ D (cLay N) dA (cLive N) A (gA (cLive N) A) s.heap M s.heap [] := ⟨hP, va_S.rf⟩
  have hin_X9 : ∀ w ∈ wsX90, w ∈ wmX9_isLike := cin_X9
  have hl_7 := hts (.fieldLink RX9 7 "ReplicaFiles$Versions" "value" "[I") (cBc 184 rfl)
  have hl_13 := hts (.fieldLink RX9 13 "ReplicaFiles$Versions" "size" "[I") (cBc 186 rfl)
  have hl_18 := hts (.fieldLink RX9 18 "ReplicaFiles$Versions" "counts" "[[I") (cBc 187 rfl)
  have hl_21 := hts (.fieldLink RX9 21 "ReplicaFiles$Versions" "length" "I") (cBc 183 rfl)
  have hl := lv_entry ([.ref (A (60, i0, 0)), .ref (A (60, i1, 0))]) (n := 3) (Nat.le_of_ble_eq_true rfl)
  rw [← hargs, lg_entry_eq, hargs]
  generalize (lg_sl ([.ref (A (60, i0, 0)), .ref (A (60, i1, 0))]) ++ List.replicate (3 - (lg_sl ([.ref (A (60, i0, 0)), .ref (A (60, i1, 0))])).length) Slot.unset).toArray = ls at hl ⊢
  have hl : lv_has ls 3 [(0, .ref (A (60, i0, 0))), (1, .ref (A (60, i1, 0)))] := hl
  unfold f_X9_isLike at h
  refine lv_aload_n hx hb dX9_isLike_0 rfl (lv_at hl 0 rfl) ?_
  refine cr_X9_length (a := i0) S X Z hin_X9 hi0 hl_21 dX9_isLike_1 h (fun v1 h => ?_)
  refine lv_aload_n hx hb dX9_isLike_4 rfl (lv_at hl 1 rfl) ?_
  refine cr_X9_length (a := i1) S X Z hin_X9 hi1 hl_21 dX9_isLike_5 h (fun v2 h => ?_)
  refine lv_icmp_eq (tgt := 13) hx hb dX9_isLike_8 (by decide) (fun c3 => ?_) (fun c3 => ?_)
  · have h := if_t c3 h
    refine lv_iconst (v := (0 : Int32)) hx hb dX9_isLike_13 (by decide) ?_
    refine lv_istore_n (lv' := [(2, .int (0 : Int32)), (0, .ref (A (60, i0, 0))), (1, .ref (A (60, i1, 0)))]) hx hb dX9_isLike_14 rfl hl (by decide) rfl (fun ls hl => ?_)
    have hL15 : ∀ (n : Nat) (x4 : Int32) (H : Heap) (locs : List Loc) (ls : Array Slot), gZ D (cLay N) dA (cLive N) A (gA (cLive N) A) s.heap M H locs → lv_has ls 3 [(0, .ref (A (60, i0, 0))), (1, .ref (A (60, i1, 0))), (2, .int x4)] → f_X9_isLike_L15 N M i0 i1 n x4 = some y → W p l e (headSpec wmX9_isLike ({ frames := 2, cells := 0, slots := 0, locals := 46 } : Room)).room s m args below meth c H locs 0 0 (MQ below (cQi N D dA A (y, M)) args s 0 0 (gA (cLive N) A)) (F0 m 15 ls []) := by
      intro n
      induction n with
      | zero =>
        intro x4 H locs ls Z hl h
        rw [f_X9_isLike_L15] at h
        cases h
      | succ n6 ih15 =>
        intro x4 H locs ls Z hl h
        rw [f_X9_isLike_L15] at h
        refine lv_iload_n hx hb dX9_isLike_15 rfl (lv_at hl 2 rfl) ?_
        refine lv_aload_n hx hb dX9_isLike_16 rfl (lv_at hl 0 rfl) ?_
        refine cr_X9_length (a := i0) S X Z hin_X9 hi0 hl_21 dX9_isLike_17 h (fun v7 h => ?_)
        refine lv_icmp_ge (tgt := 57) hx hb dX9_isLike_20 (by decide) (fun c8 => ?_) (fun c8 => ?_)
        · have h := if_t c8 h
          refine lv_iconst (v := (1 : Int32)) hx hb dX9_isLike_57 (by decide) ?_
          have hy := Option.some.inj h
          subst hy
          exact g_rz (Or.inr rfl) S Z hr hlocks dX9_isLike_58
        · have h := if_f c8 h
          refine lv_aload_n hx hb dX9_isLike_23 rfl (lv_at hl 0 rfl) ?_
          refine lv_iload_n hx hb dX9_isLike_24 rfl (lv_at hl 2 rfl) ?_
          refine lv_aload_n hx hb dX9_isLike_25 rfl (lv_at hl 1 rfl) ?_
          refine cr_X9_value (a := i1) S X Z hin_X9 hi1 hl_7 dX9_isLike_26 ?_
          refine lv_iload_n hx hb dX9_isLike_29 rfl (lv_at hl 2 rfl) ?_
          refine g_iald (i := (61, i1, 0)) (n := (cMost i1)) S X Z (cl_X9_value hi1) rfl dX9_isLike_30 h (fun v9 h => ?_)
          refine lv_aload_n hx hb dX9_isLike_31 rfl (lv_at hl 1 rfl) ?_
          refine cr_X9_size (a := i1) S X Z hin_X9 hi1 hl_13 dX9_isLike_32 ?_
          refine lv_iload_n hx hb dX9_isLike_35 rfl (lv_at hl 2 rfl) ?_
          refine g_iald (i := (62, i1, 0)) (n := (cMost i1)) S X Z (cl_X9_size hi1) rfl dX9_isLike_36 h (fun v10 h => ?_)
          refine lv_aload_n hx hb dX9_isLike_37 rfl (lv_at hl 1 rfl) ?_
          refine cr_X9_counts (a := i1) S X Z hin_X9 hi1 hl_18 dX9_isLike_38 ?_
          refine lv_iload_n hx hb dX9_isLike_41 rfl (lv_at hl 2 rfl) ?_
          refine g_aald (i := (63, i1, 0)) (ca := 5) ⟨rfl, rfl⟩ S X Z (cl_X9_counts hi1) rfl dX9_isLike_42 h (fun v11 hv11 h => ?_)
          obtain ⟨v13, hc12, h⟩ := o1_e h
          refine c_i X Z (c_V (i := (60, i0, 0)) (As := [.int x4, .int v9, .int v10, .ref (A (64, i1, v11))]) (rest := []) S X hN Z hi0 rfl rfl (t_X9_isAt l N D dA A hJ hi0 ⟨(cl_64 (cl_X9_counts hi1) hv11), rfl⟩ hc12) (cwV 4 hts (cGV (cB 379 rfl) (cB 380 rfl) (cB 381 rfl) (cB 191 rfl) (cB 377 rfl)) rfl rfl rfl (by decide +kernel) ⟨Nat.le_of_ble_eq_true rfl, Nat.le_of_ble_eq_true rfl⟩) rfl hl.1 rfl (Nat.le_of_ble_eq_true rfl) dX9_isLike_43 ⟨Nat.zero_le _, Nat.zero_le _⟩) (fun H locs Z => ?_)
          refine lv_if_ne (tgt := 51) hx hb dX9_isLike_46 (by decide) (fun c14 => ?_) (fun c14 => ?_)
          · have h := if_f c14 h
            obtain ⟨x15, ex15, h⟩ := lt_e h
            refine lv_iinc (v := x15) (lv' := [(2, .int x15), (0, .ref (A (60, i0, 0))), (1, .ref (A (60, i1, 0)))]) hx hb dX9_isLike_51 hl (k := 2) rfl (by rw [ex15]; rfl) (by decide) rfl (fun ls hl => ?_)
            refine lv_goto (tgt := 15) hx hb dX9_isLike_54 (by decide) ?_
            exact ih15 x15 _ _ _ Z (lv_sub hl [1, 2, 0] rfl) h
          · have h := if_t c14 h
            refine lv_iconst (v := (0 : Int32)) hx hb dX9_isLike_49 (by decide) ?_
            have hy := Option.some.inj h
            subst hy
            exact g_rz (Or.inl rfl) S Z hr hlocks dX9_isLike_50
    exact hL15 100 (0 : Int32) _ _ _ Z (lv_sub hl [1, 2, 0] rfl) h
  · have h := if_f c3 h
    refine lv_iconst (v := (0 : Int32)) hx hb dX9_isLike_11 (by decide) ?_
    have hy := Option.some.inj h
    subst hy
    exact g_rz (Or.inl rfl) S Z hr hlocks dX9_isLike_12
-- X7_isCopyLike (LReplicaFiles$Server;I)Z: 21 instructions
theorem dX7_isCopyLike_0 : decode cX7_isCopyLike 0 = .ok (.aload_n 0, 1) := by decide +kernel
theorem dX7_isCopyLike_1 : decode cX7_isCopyLike 1 = .ok (.getfield 26, 3) := by decide +kernel
theorem dX7_isCopyLike_4 : decode cX7_isCopyLike 4 = .ok (.aload_n 1, 1) := by decide +kernel
theorem dX7_isCopyLike_5 : decode cX7_isCopyLike 5 = .ok (.getfield 26, 3) := by decide +kernel
theorem dX7_isCopyLike_8 : decode cX7_isCopyLike 8 = .ok (.iload_n 2, 1) := by decide +kernel
theorem dX7_isCopyLike_9 : decode cX7_isCopyLike 9 = .ok (.invokevirtual 83, 3) := by decide +kernel
theorem dX7_isCopyLike_12 : decode cX7_isCopyLike 12 = .ok (.ifCond .eq 25, 3) := by decide +kernel
theorem dX7_isCopyLike_15 : decode cX7_isCopyLike 15 = .ok (.aload_n 0, 1) := by decide +kernel
theorem dX7_isCopyLike_16 : decode cX7_isCopyLike 16 = .ok (.getfield 11, 3) := by decide +kernel
theorem dX7_isCopyLike_19 : decode cX7_isCopyLike 19 = .ok (.iload_n 2, 1) := by decide +kernel
theorem dX7_isCopyLike_20 : decode cX7_isCopyLike 20 = .ok (.aaload, 1) := by decide +kernel
theorem dX7_isCopyLike_21 : decode cX7_isCopyLike 21 = .ok (.aload_n 1, 1) := by decide +kernel
theorem dX7_isCopyLike_22 : decode cX7_isCopyLike 22 = .ok (.getfield 11, 3) := by decide +kernel
theorem dX7_isCopyLike_25 : decode cX7_isCopyLike 25 = .ok (.iload_n 2, 1) := by decide +kernel
theorem dX7_isCopyLike_26 : decode cX7_isCopyLike 26 = .ok (.aaload, 1) := by decide +kernel
theorem dX7_isCopyLike_27 : decode cX7_isCopyLike 27 = .ok (.invokevirtual 87, 3) := by decide +kernel
theorem dX7_isCopyLike_30 : decode cX7_isCopyLike 30 = .ok (.ifCond .eq 7, 3) := by decide +kernel
theorem dX7_isCopyLike_33 : decode cX7_isCopyLike 33 = .ok (.iconst 1, 1) := by decide +kernel
theorem dX7_isCopyLike_34 : decode cX7_isCopyLike 34 = .ok (.goto 4, 3) := by decide +kernel
theorem dX7_isCopyLike_37 : decode cX7_isCopyLike 37 = .ok (.iconst 0, 1) := by decide +kernel
theorem dX7_isCopyLike_38 : decode cX7_isCopyLike 38 = .ok (.ireturn, 1) := by decide +kernel
abbrev wmX7_isCopyLike : List Cond := .code yX7_isCopyLike cX7_isCopyLike 3 (some .boolean) :: cBig
def f_X7_isCopyLike (N : Nat) (M : gM) (i0 : Nat) (i1 : Nat) (a2 : Int32) : Option Int32 :=
  o1 (f_X8_isCopyLike N M i0 i1 a2) (fun v2 => (if v2 = 0 then some (0 : Int32) else ix a2 48 (fun v4 => ix a2 48 (fun v5 => o1 (f_X9_isLike N M (48 * i0 + v4) (48 * i1 + v5)) (fun v7 => (if v7 = 0 then some (0 : Int32) else some (1 : Int32)))))))
set_option maxHeartbeats 4000000 in
set_option maxRecDepth 100000 in
theorem t_X7_isCopyLike (l : Launch) (N : Nat) (D : va_G) (dA : Nat → ClassId) (A : gI → Nat) (hJ : gJ (cLive N) A) {M : gM} {i0 : Nat} {i1 : Nat} {a2 : Int32} (hi0 : cLive N (20, i0, 0)) (hi1 : cLive N (20, i1, 0)) {y : Int32} (h : f_X7_isCopyLike N M i0 i1 a2 = some y) : cMi l yX7_isCopyLike wmX7_isCopyLike ({ frames := 3, cells := 0, slots := 0, locals := 68 } : Room) N D dA A [.ref (A (20, i0, 0)), .ref (A (20, i1, 0)), .int a2] M y M := by
  refine Met.ofW (cc := cX7_isCopyLike) (maxL := 3) (ret := (some .boolean)) (by decide) rfl ?_
  intro p e s m args below meth c s₁ B hml hv
  obtain ⟨rfl, hP, hK, hN⟩ := hv
  generalize hargs : ([.ref (A (20, i0, 0)), .ref (A (20, i1, 0)), .int a2] : List Value).toArray = args at B ⊢
  have S : CallFix p m c cX7_isCopyLike 3 s args wmX7_isCopyLike RX7 := ⟨B.exec, B.bytes, hml, findClass_of_methodNamed B.named, atoms_spec (ws := wmX7_isCopyLike) B.pre⟩
  obtain ⟨hx, hb, -, hown, hts⟩ := id S
  have hr := B.returns
  have hlocks := B.notSynchronized
  have X : gX D vwCl dA (cLive N) A (gA (cLive N) A) s := ⟨hK, hJ, fun i hi => ⟨i, hi, rfl⟩⟩
  have Z : gZ D (cLay N) dA (cLive N) A (gA (cLive N) A) s.heap M s.heap [] := ⟨hP, va_S.rf⟩
  have hin_X7 : ∀ w ∈ wsX70, w ∈ wmX7_isCopyLike := cin_X7
  have hl_11 := hts (.fieldLink RX7 11 "ReplicaFiles$Server" "versions" "[LReplicaFiles$Versions;") (cBc 180 rfl)
  have hl_26 := hts (.fieldLink RX7 26 "ReplicaFiles$Server" "tree" "LReplicaFiles$Tree;") (cBc 275 rfl)
  have hl := lv_entry ([.ref (A (20, i0, 0)), .ref (A (20, i1, 0)), .int a2]) (n := 3) (Nat.le_of_ble_eq_true rfl)
  rw [← hargs, lg_entry_eq, hargs]
  generalize (lg_sl ([.ref (A (20, i0, 0)), .ref (A (20, i1, 0)), .int a2]) ++ List.replicate (3 - (lg_sl ([.ref (A (20, i0, 0)), .ref (A (20, i1, 0)), .int a2])).length) Slot.unset).toArray = ls at hl ⊢
  have hl : lv_has ls 3 [(0, .ref (A (20, i0, 0))), (1, .ref (A (20, i1, 0))), (2, .int a2)] := hl
  unfold f_X7_isCopyLike at h
  refine lv_aload_n hx hb dX7_isCopyLike_0 rfl (lv_at hl 0 rfl) ?_
  refine cr_X7_tree (a := i0) S X Z hin_X7 hi0 hl_26 dX7_isCopyLike_1 ?_
  refine lv_aload_n hx hb dX7_isCopyLike_4 rfl (lv_at hl 1 rfl) ?_
  refine cr_X7_tree (a := i1) S X Z hin_X7 hi1 hl_26 dX7_isCopyLike_5 ?_
  refine lv_iload_n hx hb dX7_isCopyLike_8 rfl (lv_at hl 2 rfl) ?_
  obtain ⟨v2, hc1, h⟩ := o1_e h
  refine c_i X Z (c_V (i := (50, i0, 0)) (As := [.ref (A (50, i1, 0)), .int a2]) (rest := []) S X hN Z (cl_st hi0) rfl rfl (t_X8_isCopyLike l N D dA A hJ (cl_st hi0) (cl_st hi1) hc1) (cwV 2 hts (cGV (cB 382 rfl) (cB 383 rfl) (cB 384 rfl) (cB 44 rfl) (cB 376 rfl)) rfl rfl rfl (by decide +kernel) ⟨Nat.le_of_ble_eq_true rfl, Nat.le_of_ble_eq_true rfl⟩) rfl hl.1 rfl (Nat.le_of_ble_eq_true rfl) dX7_isCopyLike_9 ⟨Nat.zero_le _, Nat.zero_le _⟩) (fun H locs Z => ?_)
  refine lv_if_eq (tgt := 37) hx hb dX7_isCopyLike_12 (by decide) (fun c3 => ?_) (fun c3 => ?_)
  · have h := if_t c3 h
    refine lv_iconst (v := (0 : Int32)) hx hb dX7_isCopyLike_37 (by decide) ?_
    have hy := Option.some.inj h
    subst hy
    exact g_rz (Or.inl rfl) S Z hr hlocks dX7_isCopyLike_38
  · have h := if_f c3 h
    refine lv_aload_n hx hb dX7_isCopyLike_15 rfl (lv_at hl 0 rfl) ?_
    refine cr_X7_versions (a := i0) S X Z hin_X7 hi0 hl_11 dX7_isCopyLike_16 ?_
    refine lv_iload_n hx hb dX7_isCopyLike_19 rfl (lv_at hl 2 rfl) ?_
    refine g_aald (i := (21, i0, 0)) (ca := 4) ⟨rfl, rfl⟩ S X Z (cl_X7_versions hi0) rfl dX7_isCopyLike_20 h (fun v4 hv4 h => ?_)
    refine lv_aload_n hx hb dX7_isCopyLike_21 rfl (lv_at hl 1 rfl) ?_
    refine cr_X7_versions (a := i1) S X Z hin_X7 hi1 hl_11 dX7_isCopyLike_22 ?_
    refine lv_iload_n hx hb dX7_isCopyLike_25 rfl (lv_at hl 2 rfl) ?_
    refine g_aald (i := (21, i1, 0)) (ca := 4) ⟨rfl, rfl⟩ S X Z (cl_X7_versions hi1) rfl dX7_isCopyLike_26 h (fun v5 hv5 h => ?_)
    obtain ⟨v7, hc6, h⟩ := o1_e h
    refine c_i X Z (c_V (i := (60, (48 * i0 + v4), 0)) (As := [.ref (A (60, (48 * i1 + v5), 0))]) (rest := []) S X hN Z (cl_ver (cl_X7_versions hi0) hv4) rfl rfl (t_X9_isLike l N D dA A hJ (cl_ver (cl_X7_versions hi0) hv4) (cl_ver (cl_X7_versions hi1) hv5) hc6) (cwV 1 hts (cGV (cB 385 rfl) (cB 386 rfl) (cB 387 rfl) (cB 191 rfl) (cB 378 rfl)) rfl rfl rfl (by decide +kernel) ⟨Nat.le_of_ble_eq_true rfl, Nat.le_of_ble_eq_true rfl⟩) rfl hl.1 rfl (Nat.le_of_ble_eq_true rfl) dX7_isCopyLike_27 ⟨Nat.zero_le _, Nat.zero_le _⟩) (fun H locs Z => ?_)
    refine lv_if_eq (tgt := 37) hx hb dX7_isCopyLike_30 (by decide) (fun c8 => ?_) (fun c8 => ?_)
    · have h := if_t c8 h
      refine lv_iconst (v := (0 : Int32)) hx hb dX7_isCopyLike_37 (by decide) ?_
      have hy := Option.some.inj h
      subst hy
      exact g_rz (Or.inl rfl) S Z hr hlocks dX7_isCopyLike_38
    · have h := if_f c8 h
      refine lv_iconst (v := (1 : Int32)) hx hb dX7_isCopyLike_33 (by decide) ?_
      refine lv_goto (tgt := 38) hx hb dX7_isCopyLike_34 (by decide) ?_
      have hy := Option.some.inj h
      subst hy
      exact g_rz (Or.inr rfl) S Z hr hlocks dX7_isCopyLike_38
-- X6_areAlike (II)Z: 32 instructions
theorem dX6_areAlike_0 : decode cX6_areAlike 0 = .ok (.aload_n 0, 1) := by decide +kernel
theorem dX6_areAlike_1 : decode cX6_areAlike 1 = .ok (.getfield 15, 3) := by decide +kernel
theorem dX6_areAlike_4 : decode cX6_areAlike 4 = .ok (.aload_n 0, 1) := by decide +kernel
theorem dX6_areAlike_5 : decode cX6_areAlike 5 = .ok (.iload_n 1, 1) := by decide +kernel
theorem dX6_areAlike_6 : decode cX6_areAlike 6 = .ok (.invokevirtual 146, 3) := by decide +kernel
theorem dX6_areAlike_9 : decode cX6_areAlike 9 = .ok (.aaload, 1) := by decide +kernel
theorem dX6_areAlike_10 : decode cX6_areAlike 10 = .ok (.astore_n 3, 1) := by decide +kernel
theorem dX6_areAlike_11 : decode cX6_areAlike 11 = .ok (.iconst 0, 1) := by decide +kernel
theorem dX6_areAlike_12 : decode cX6_areAlike 12 = .ok (.istore 4, 2) := by decide +kernel
theorem dX6_areAlike_14 : decode cX6_areAlike 14 = .ok (.iload 4, 2) := by decide +kernel
theorem dX6_areAlike_16 : decode cX6_areAlike 16 = .ok (.aload_n 0, 1) := by decide +kernel
theorem dX6_areAlike_17 : decode cX6_areAlike 17 = .ok (.getfield 15, 3) := by decide +kernel
theorem dX6_areAlike_20 : decode cX6_areAlike 20 = .ok (.arraylength, 1) := by decide +kernel
theorem dX6_areAlike_21 : decode cX6_areAlike 21 = .ok (.if_icmp .ge 35, 3) := by decide +kernel
theorem dX6_areAlike_24 : decode cX6_areAlike 24 = .ok (.iload_n 1, 1) := by decide +kernel
theorem dX6_areAlike_25 : decode cX6_areAlike 25 = .ok (.iload 4, 2) := by decide +kernel
theorem dX6_areAlike_27 : decode cX6_areAlike 27 = .ok (.invokestatic 27, 3) := by decide +kernel
theorem dX6_areAlike_30 : decode cX6_areAlike 30 = .ok (.ifCond .eq 20, 3) := by decide +kernel
theorem dX6_areAlike_33 : decode cX6_areAlike 33 = .ok (.aload_n 0, 1) := by decide +kernel
theorem dX6_areAlike_34 : decode cX6_areAlike 34 = .ok (.getfield 15, 3) := by decide +kernel
theorem dX6_areAlike_37 : decode cX6_areAlike 37 = .ok (.iload 4, 2) := by decide +kernel
theorem dX6_areAlike_39 : decode cX6_areAlike 39 = .ok (.aaload, 1) := by decide +kernel
theorem dX6_areAlike_40 : decode cX6_areAlike 40 = .ok (.aload_n 3, 1) := by decide +kernel
theorem dX6_areAlike_41 : decode cX6_areAlike 41 = .ok (.iload_n 2, 1) := by decide +kernel
theorem dX6_areAlike_42 : decode cX6_areAlike 42 = .ok (.invokevirtual 149, 3) := by decide +kernel
theorem dX6_areAlike_45 : decode cX6_areAlike 45 = .ok (.ifCond .ne 5, 3) := by decide +kernel
theorem dX6_areAlike_48 : decode cX6_areAlike 48 = .ok (.iconst 0, 1) := by decide +kernel
theorem dX6_areAlike_49 : decode cX6_areAlike 49 = .ok (.ireturn, 1) := by decide +kernel
theorem dX6_areAlike_50 : decode cX6_areAlike 50 = .ok (.iinc 4 1, 3) := by decide +kernel
theorem dX6_areAlike_53 : decode cX6_areAlike 53 = .ok (.goto (-39), 3) := by decide +kernel
theorem dX6_areAlike_56 : decode cX6_areAlike 56 = .ok (.iconst 1, 1) := by decide +kernel
theorem dX6_areAlike_57 : decode cX6_areAlike 57 = .ok (.ireturn, 1) := by decide +kernel
abbrev wmX6_areAlike : List Cond := .code yX6_areAlike cX6_areAlike 5 (some .boolean) :: cBig
def f_X6_areAlike_L14 (N : Nat) (M5 : gM) (a1 : Int32) (a2 : Int32) (v3 : Nat) : Nat → Int32 → Option Int32
  | 0, _ => none
  | n6 + 1, x4 => (if (nI N) ≤ x4 then some (1 : Int32) else o1 (f_X10_isIn N M5 a1 x4) (fun v9 => jn (fun (_ : Unit) => lt (x4 + 1) (fun x10 => f_X6_areAlike_L14 N M5 a1 a2 v3 n6 x10)) (fun J50 => (if v9 = 0 then J50 () else ix x4 N (fun v12 => o1 (f_X7_isCopyLike N M5 v12 v3 a2) (fun v14 => (if v14 = 0 then some (0 : Int32) else J50 ())))))))
def f_X6_areAlike (N : Nat) (M : gM) (a1 : Int32) (a2 : Int32) : Option Int32 :=
  o1 (f_X6_leastOf N M a1) (fun v2 => ix v2 N (fun v3 => f_X6_areAlike_L14 N M a1 a2 v3 100 (0 : Int32)))
set_option maxHeartbeats 4000000 in
set_option maxRecDepth 100000 in
theorem t_X6_areAlike (l : Launch) (N : Nat) (D : va_G) (dA : Nat → ClassId) (A : gI → Nat) (hJ : gJ (cLive N) A) {M : gM} {a1 : Int32} {a2 : Int32}  {y : Int32} (h : f_X6_areAlike N M a1 a2 = some y) : cMi l yX6_areAlike wmX6_areAlike ({ frames := 4, cells := 0, slots := 0, locals := 90 } : Room) N D dA A [.ref (A (10, 0, 0)), .int a1, .int a2] M y M := by
  refine Met.ofW (cc := cX6_areAlike) (maxL := 5) (ret := (some .boolean)) (by decide) rfl ?_
  intro p e s m args below meth c s₁ B hml hv
  obtain ⟨rfl, hP, hK, hN⟩ := hv
  generalize hargs : ([.ref (A (10, 0, 0)), .int a1, .int a2] : List Value).toArray = args at B ⊢
  have S : CallFix p m c cX6_areAlike 5 s args wmX6_areAlike RX6 := ⟨B.exec, B.bytes, hml, findClass_of_methodNamed B.named, atoms_spec (ws := wmX6_areAlike) B.pre⟩
  obtain ⟨hx, hb, -, hown, hts⟩ := id S
  have hr := B.returns
  have hlocks := B.notSynchronized
  have X : gX D vwCl dA (cLive N) A (gA (cLive N) A) s := ⟨hK, hJ, fun i hi => ⟨i, hi, rfl⟩⟩
  have Z : gZ D (cLay N) dA (cLive N) A (gA (cLive N) A) s.heap M s.heap [] := ⟨hP, va_S.rf⟩
  have hin_X6 : ∀ w ∈ wsX60, w ∈ wmX6_areAlike := cin_X6
  have hl_15 := hts (.fieldLink RX6 15 "ReplicaFiles$Replicas" "servers" "[LReplicaFiles$Server;") (cBc 177 rfl)
  have hl := lv_entry ([.ref (A (10, 0, 0)), .int a1, .int a2]) (n := 5) (Nat.le_of_ble_eq_true rfl)
  rw [← hargs, lg_entry_eq, hargs]
  generalize (lg_sl ([.ref (A (10, 0, 0)), .int a1, .int a2]) ++ List.replicate (5 - (lg_sl ([.ref (A (10, 0, 0)), .int a1, .int a2])).length) Slot.unset).toArray = ls at hl ⊢
  have hl : lv_has ls 5 [(0, .ref (A (10, 0, 0))), (1, .int a1), (2, .int a2)] := hl
  unfold f_X6_areAlike at h
  refine lv_aload_n hx hb dX6_areAlike_0 rfl (lv_at hl 0 rfl) ?_
  refine cr_X6_servers S X Z hin_X6 (cl_one N 10 (by decide)) hl_15 dX6_areAlike_1 ?_
  refine lv_aload_n hx hb dX6_areAlike_4 rfl (lv_at hl 0 rfl) ?_
  refine lv_iload_n hx hb dX6_areAlike_5 rfl (lv_at hl 1 rfl) ?_
  obtain ⟨v2, hc1, h⟩ := o1_e h
  refine c_i X Z (c_V (i := (10, 0, 0)) (As := [.int a1]) (rest := [.ref (A (7, 0, 0))]) S X hN Z (cl_one N 10 (by decide)) rfl rfl (t_X6_leastOf l N D dA A hJ  hc1) (cwV 1 hts (cGV (cB 389 rfl) (cB 302 rfl) (cB 303 rfl) (cB 203 rfl) (cB 176 rfl)) rfl rfl rfl (by decide +kernel) ⟨Nat.le_of_ble_eq_true rfl, Nat.le_of_ble_eq_true rfl⟩) rfl hl.1 rfl (Nat.le_of_ble_eq_true rfl) dX6_areAlike_6 ⟨Nat.zero_le _, Nat.zero_le _⟩) (fun H locs Z => ?_)
  refine g_aald (i := (7, 0, 0)) (ca := 2) ⟨rfl, rfl⟩ S X Z (cl_one N 7 (by decide)) rfl dX6_areAlike_9 h (fun v3 hv3 h => ?_)
  refine lv_astore_n (lv' := [(3, .ref (A (20, v3, 0))), (0, .ref (A (10, 0, 0))), (1, .int a1), (2, .int a2)]) hx hb dX6_areAlike_10 rfl hl (by decide) rfl (fun ls hl => ?_)
  refine lv_iconst (v := (0 : Int32)) hx hb dX6_areAlike_11 (by decide) ?_
  refine lv_istore (lv' := [(4, .int (0 : Int32)), (3, .ref (A (20, v3, 0))), (0, .ref (A (10, 0, 0))), (1, .int a1), (2, .int a2)]) hx hb dX6_areAlike_12 hl (by decide) rfl (fun ls hl => ?_)
  have hL14 : ∀ (n : Nat) (x4 : Int32) (H : Heap) (locs : List Loc) (ls : Array Slot), gZ D (cLay N) dA (cLive N) A (gA (cLive N) A) s.heap M H locs → lv_has ls 5 [(0, .ref (A (10, 0, 0))), (1, .int a1), (2, .int a2), (3, .ref (A (20, v3, 0))), (4, .int x4)] → f_X6_areAlike_L14 N M a1 a2 v3 n x4 = some y → W p l e (headSpec wmX6_areAlike ({ frames := 4, cells := 0, slots := 0, locals := 90 } : Room)).room s m args below meth c H locs 0 0 (MQ below (cQi N D dA A (y, M)) args s 0 0 (gA (cLive N) A)) (F0 m 14 ls []) := by
    intro n
    induction n with
    | zero =>
      intro x4 H locs ls Z hl h
      rw [f_X6_areAlike_L14] at h
      cases h
    | succ n6 ih14 =>
      intro x4 H locs ls Z hl h
      rw [f_X6_areAlike_L14] at h
      refine lv_iload hx hb dX6_areAlike_14 (lv_at hl 4 rfl) ?_
      refine lv_aload_n hx hb dX6_areAlike_16 rfl (lv_at hl 0 rfl) ?_
      refine cr_X6_servers S X Z hin_X6 (cl_one N 10 (by decide)) hl_15 dX6_areAlike_17 ?_
      refine g_alR (i := (7, 0, 0)) (ca := 2) rfl S X Z (cl_one N 7 (by decide)) rfl dX6_areAlike_20 ?_
      refine lv_icmp_ge (tgt := 56) hx hb dX6_areAlike_21 (by decide) (fun c7 => ?_) (fun c7 => ?_)
      · have h := if_t c7 h
        refine lv_iconst (v := (1 : Int32)) hx hb dX6_areAlike_56 (by decide) ?_
        have hy := Option.some.inj h
        subst hy
        exact g_rz (Or.inr rfl) S Z hr hlocks dX6_areAlike_57
      · have h := if_f c7 h
        refine lv_iload_n hx hb dX6_areAlike_24 rfl (lv_at hl 1 rfl) ?_
        refine lv_iload hx hb dX6_areAlike_25 (lv_at hl 4 rfl) ?_
        obtain ⟨v9, hc8, h⟩ := o1_e h
        refine c_i X Z (c_SN (As := [.int a1, .int x4]) (rest := []) S X hN Z (t_X10_isIn l N D dA A hJ  hc8) ⟨va_cnB 2 hts (cG (cB 175 rfl)) rfl rfl rfl (hN.2 ("ReplicaFiles$Replicas", 27, yX10_isIn, "ReplicaFiles") (by decide +kernel)) (hts (.initialized RX10) (cBc 107 rfl)) (by decide +kernel) ⟨Nat.le_of_ble_eq_true rfl, Nat.le_of_ble_eq_true rfl⟩, hts (.static yX10_isIn) (cBc 178 rfl), trivial⟩ rfl hl.1 rfl (Nat.le_of_ble_eq_true rfl) dX6_areAlike_27 ⟨Nat.zero_le _, Nat.zero_le _⟩) (fun H locs Z => ?_)
        obtain ⟨J50, eJ50, h⟩ := jn_e h
        have hJ50 : ∀  (H : Heap) (locs : List Loc) (ls : Array Slot), gZ D (cLay N) dA (cLive N) A (gA (cLive N) A) s.heap M H locs → lv_has ls 5 [(0, .ref (A (10, 0, 0))), (1, .int a1), (2, .int a2), (3, .ref (A (20, v3, 0))), (4, .int x4)] → J50 () = some y → W p l e (headSpec wmX6_areAlike ({ frames := 4, cells := 0, slots := 0, locals := 90 } : Room)).room s m args below meth c H locs 0 0 (MQ below (cQi N D dA A (y, M)) args s 0 0 (gA (cLive N) A)) (F0 m 50 ls []) := by
          intro  H locs ls Z hl h
          rw [eJ50] at h
          try dsimp only at h
          obtain ⟨x10, ex10, h⟩ := lt_e h
          refine lv_iinc (v := x10) (lv' := [(4, .int x10), (0, .ref (A (10, 0, 0))), (1, .int a1), (2, .int a2), (3, .ref (A (20, v3, 0)))]) hx hb dX6_areAlike_50 hl (k := 4) rfl (by rw [ex10]; rfl) (by decide) rfl (fun ls hl => ?_)
          refine lv_goto (tgt := 14) hx hb dX6_areAlike_53 (by decide) ?_
          exact ih14 x10 _ _ _ Z (lv_sub hl [1, 2, 3, 4, 0] rfl) h
        refine lv_if_eq (tgt := 50) hx hb dX6_areAlike_30 (by decide) (fun c11 => ?_) (fun c11 => ?_)
        · have h := if_t c11 h
          exact hJ50  _ _ _ Z (lv_sub hl [0, 1, 2, 3, 4] rfl) h
        · have h := if_f c11 h
          refine lv_aload_n hx hb dX6_areAlike_33 rfl (lv_at hl 0 rfl) ?_
          refine cr_X6_servers S X Z hin_X6 (cl_one N 10 (by decide)) hl_15 dX6_areAlike_34 ?_
          refine lv_iload hx hb dX6_areAlike_37 (lv_at hl 4 rfl) ?_
          refine g_aald (i := (7, 0, 0)) (ca := 2) ⟨rfl, rfl⟩ S X Z (cl_one N 7 (by decide)) rfl dX6_areAlike_39 h (fun v12 hv12 h => ?_)
          refine lv_aload_n hx hb dX6_areAlike_40 rfl (lv_at hl 3 rfl) ?_
          refine lv_iload_n hx hb dX6_areAlike_41 rfl (lv_at hl 2 rfl) ?_
          obtain ⟨v14, hc13, h⟩ := o1_e h
          refine c_i X Z (c_V (i := (20, v12, 0)) (As := [.ref (A (20, v3, 0)), .int a2]) (rest := []) S X hN Z (cl_srv hv12) rfl rfl (t_X7_isCopyLike l N D dA A hJ (cl_srv hv12) (cl_srv hv3) hc13) (cwV 2 hts (cGV (cB 390 rfl) (cB 391 rfl) (cB 392 rfl) (cB 235 rfl) (cB 388 rfl)) rfl rfl rfl (by decide +kernel) ⟨Nat.le_of_ble_eq_true rfl, Nat.le_of_ble_eq_true rfl⟩) rfl hl.1 rfl (Nat.le_of_ble_eq_true rfl) dX6_areAlike_42 ⟨Nat.zero_le _, Nat.zero_le _⟩) (fun H locs Z => ?_)
          refine lv_if_ne (tgt := 50) hx hb dX6_areAlike_45 (by decide) (fun c15 => ?_) (fun c15 => ?_)
          · have h := if_f c15 h
            exact hJ50  _ _ _ Z (lv_sub hl [0, 1, 2, 3, 4] rfl) h
          · have h := if_t c15 h
            refine lv_iconst (v := (0 : Int32)) hx hb dX6_areAlike_48 (by decide) ?_
            have hy := Option.some.inj h
            subst hy
            exact g_rz (Or.inl rfl) S Z hr hlocks dX6_areAlike_49
  exact hL14 100 (0 : Int32) _ _ _ Z (lv_sub hl [2, 3, 4, 1, 0] rfl) h
-- X4_joinEntry (I)V: 39 instructions
theorem dX4_joinEntry_0 : decode cX4_joinEntry 0 = .ok (.aload_n 0, 1) := by decide +kernel
theorem dX4_joinEntry_1 : decode cX4_joinEntry 1 = .ok (.iload_n 1, 1) := by decide +kernel
theorem dX4_joinEntry_2 : decode cX4_joinEntry 2 = .ok (.invokevirtual 98, 3) := by decide +kernel
theorem dX4_joinEntry_5 : decode cX4_joinEntry 5 = .ok (.istore_n 2, 1) := by decide +kernel
theorem dX4_joinEntry_6 : decode cX4_joinEntry 6 = .ok (.iconst 0, 1) := by decide +kernel
theorem dX4_joinEntry_7 : decode cX4_joinEntry 7 = .ok (.istore_n 3, 1) := by decide +kernel
theorem dX4_joinEntry_8 : decode cX4_joinEntry 8 = .ok (.iload_n 3, 1) := by decide +kernel
theorem dX4_joinEntry_9 : decode cX4_joinEntry 9 = .ok (.aload_n 0, 1) := by decide +kernel
theorem dX4_joinEntry_10 : decode cX4_joinEntry 10 = .ok (.getfield 30, 3) := by decide +kernel
theorem dX4_joinEntry_13 : decode cX4_joinEntry 13 = .ok (.arraylength, 1) := by decide +kernel
theorem dX4_joinEntry_14 : decode cX4_joinEntry 14 = .ok (.if_icmp .ge 56, 3) := by decide +kernel
theorem dX4_joinEntry_17 : decode cX4_joinEntry 17 = .ok (.aload_n 0, 1) := by decide +kernel
theorem dX4_joinEntry_18 : decode cX4_joinEntry 18 = .ok (.getfield 44, 3) := by decide +kernel
theorem dX4_joinEntry_21 : decode cX4_joinEntry 21 = .ok (.iload_n 3, 1) := by decide +kernel
theorem dX4_joinEntry_22 : decode cX4_joinEntry 22 = .ok (.invokestatic 113, 3) := by decide +kernel
theorem dX4_joinEntry_25 : decode cX4_joinEntry 25 = .ok (.ifCond .eq 39, 3) := by decide +kernel
theorem dX4_joinEntry_28 : decode cX4_joinEntry 28 = .ok (.aload_n 0, 1) := by decide +kernel
theorem dX4_joinEntry_29 : decode cX4_joinEntry 29 = .ok (.getfield 30, 3) := by decide +kernel
theorem dX4_joinEntry_32 : decode cX4_joinEntry 32 = .ok (.iload_n 3, 1) := by decide +kernel
theorem dX4_joinEntry_33 : decode cX4_joinEntry 33 = .ok (.aaload, 1) := by decide +kernel
theorem dX4_joinEntry_34 : decode cX4_joinEntry 34 = .ok (.getfield 74, 3) := by decide +kernel
theorem dX4_joinEntry_37 : decode cX4_joinEntry 37 = .ok (.getfield 80, 3) := by decide +kernel
theorem dX4_joinEntry_40 : decode cX4_joinEntry 40 = .ok (.iload_n 1, 1) := by decide +kernel
theorem dX4_joinEntry_41 : decode cX4_joinEntry 41 = .ok (.iload_n 2, 1) := by decide +kernel
theorem dX4_joinEntry_42 : decode cX4_joinEntry 42 = .ok (.iastore, 1) := by decide +kernel
theorem dX4_joinEntry_43 : decode cX4_joinEntry 43 = .ok (.aload_n 0, 1) := by decide +kernel
theorem dX4_joinEntry_44 : decode cX4_joinEntry 44 = .ok (.getfield 30, 3) := by decide +kernel
theorem dX4_joinEntry_47 : decode cX4_joinEntry 47 = .ok (.iload_n 3, 1) := by decide +kernel
theorem dX4_joinEntry_48 : decode cX4_joinEntry 48 = .ok (.aaload, 1) := by decide +kernel
theorem dX4_joinEntry_49 : decode cX4_joinEntry 49 = .ok (.getfield 74, 3) := by decide +kernel
theorem dX4_joinEntry_52 : decode cX4_joinEntry 52 = .ok (.getfield 122, 3) := by decide +kernel
theorem dX4_joinEntry_55 : decode cX4_joinEntry 55 = .ok (.iload_n 1, 1) := by decide +kernel
theorem dX4_joinEntry_56 : decode cX4_joinEntry 56 = .ok (.aaload, 1) := by decide +kernel
theorem dX4_joinEntry_57 : decode cX4_joinEntry 57 = .ok (.aload_n 0, 1) := by decide +kernel
theorem dX4_joinEntry_58 : decode cX4_joinEntry 58 = .ok (.getfield 40, 3) := by decide +kernel
theorem dX4_joinEntry_61 : decode cX4_joinEntry 61 = .ok (.invokestatic 180, 3) := by decide +kernel
theorem dX4_joinEntry_64 : decode cX4_joinEntry 64 = .ok (.iinc 3 1, 3) := by decide +kernel
theorem dX4_joinEntry_67 : decode cX4_joinEntry 67 = .ok (.goto (-59), 3) := by decide +kernel
theorem dX4_joinEntry_70 : decode cX4_joinEntry 70 = .ok (.return_, 1) := by decide +kernel
abbrev wmX4_joinEntry : List Cond := .code yX4_joinEntry cX4_joinEntry 4 none :: cBig
def f_X4_joinEntry_L8 (N : Nat) (a1 : Int32) (v3 : Int32) : Nat → Int32 → gM → Option gM
  | 0, _, _ => none
  | n6 + 1, x4, M5 => (if (nI N) ≤ x4 then some M5 else lt (M5 (13, 0, 0) 6) (fun v8 => o1 (f_X10_isIn N M5 v8 x4) (fun v10 => jn (fun (M11 : gM) => lt (x4 + 1) (fun x12 => f_X4_joinEntry_L8 N a1 v3 n6 x12 M11)) (fun J64 => (if v10 = 0 then J64 M5 else ix x4 N (fun v14 => wr M5 (56, v14, 0) 48 a1 v3 (fun M15 => ix x4 N (fun v16 => ix a1 48 (fun v17 => o1 (f_X10_assign N M15 (58, v16, v17) (14, 0, 0)) (fun M19 => J64 M19))))))))))
def f_X4_joinEntry (N : Nat) (M : gM) (a1 : Int32) : Option gM :=
  ob (f_X4_joinedState N M a1) (fun v3 M2 => f_X4_joinEntry_L8 N a1 v3 100 (0 : Int32) M2)
set_option maxHeartbeats 4000000 in
set_option maxRecDepth 100000 in
theorem t_X4_joinEntry (l : Launch) (N : Nat) (D : va_G) (dA : Nat → ClassId) (A : gI → Nat) (hJ : gJ (cLive N) A) {M : gM} {a1 : Int32}  {y : gM} (h : f_X4_joinEntry N M a1 = some y) : cMv l yX4_joinEntry wmX4_joinEntry ({ frames := 3, cells := 0, slots := 0, locals := 66 } : Room) N D dA A [.ref (A (13, 0, 0)), .int a1] M y := by
  refine Met.ofW (cc := cX4_joinEntry) (maxL := 4) (ret := none) (by decide) rfl ?_
  intro p e s m args below meth c s₁ B hml hv
  obtain ⟨rfl, hP, hK, hN⟩ := hv
  generalize hargs : ([.ref (A (13, 0, 0)), .int a1] : List Value).toArray = args at B ⊢
  have S : CallFix p m c cX4_joinEntry 4 s args wmX4_joinEntry RX4 := ⟨B.exec, B.bytes, hml, findClass_of_methodNamed B.named, atoms_spec (ws := wmX4_joinEntry) B.pre⟩
  obtain ⟨hx, hb, -, hown, hts⟩ := id S
  have hr := B.returns
  have hlocks := B.notSynchronized
  have X : gX D vwCl dA (cLive N) A (gA (cLive N) A) s := ⟨hK, hJ, fun i hi => ⟨i, hi, rfl⟩⟩
  have Z : gZ D (cLay N) dA (cLive N) A (gA (cLive N) A) s.heap M s.heap [] := ⟨hP, va_S.rf⟩
  have hin_X4 : ∀ w ∈ wsX40, w ∈ wmX4_joinEntry := cin_X4
  have hin_X7 : ∀ w ∈ wsX70, w ∈ wmX4_joinEntry := cin_X7
  have hin_X8 : ∀ w ∈ wsX80, w ∈ wmX4_joinEntry := cin_X8
  have hl_30 := hts (.fieldLink RX4 30 "ReplicaFiles$Meeting" "servers" "[LReplicaFiles$Server;") (cBc 325 rfl)
  have hl_40 := hts (.fieldLink RX4 40 "ReplicaFiles$Meeting" "greater" "[I") (cBc 329 rfl)
  have hl_44 := hts (.fieldLink RX4 44 "ReplicaFiles$Meeting" "group" "I") (cBc 333 rfl)
  have hl_74 := va_Nw.use (A := args) rfl (hN.1 ("ReplicaFiles$Meeting", 74, "ReplicaFiles$Server", "tree", "LReplicaFiles$Tree;", "ReplicaFiles") (by decide +kernel))
  have hl_80 := va_Nw.use (A := args) rfl (hN.1 ("ReplicaFiles$Meeting", 80, "ReplicaFiles$Tree", "state", "[I", "ReplicaFiles") (by decide +kernel))
  have hl_122 := va_Nw.use (A := args) rfl (hN.1 ("ReplicaFiles$Meeting", 122, "ReplicaFiles$Tree", "goneCounts", "[[I", "ReplicaFiles") (by decide +kernel))
  have hl := lv_entry ([.ref (A (13, 0, 0)), .int a1]) (n := 4) (Nat.le_of_ble_eq_true rfl)
  rw [← hargs, lg_entry_eq, hargs]
  generalize (lg_sl ([.ref (A (13, 0, 0)), .int a1]) ++ List.replicate (4 - (lg_sl ([.ref (A (13, 0, 0)), .int a1])).length) Slot.unset).toArray = ls at hl ⊢
  have hl : lv_has ls 4 [(0, .ref (A (13, 0, 0))), (1, .int a1)] := hl
  unfold f_X4_joinEntry at h
  refine lv_aload_n hx hb dX4_joinEntry_0 rfl (lv_at hl 0 rfl) ?_
  refine lv_iload_n hx hb dX4_joinEntry_1 rfl (lv_at hl 1 rfl) ?_
  obtain ⟨v3, M2, hc1, h⟩ := ob_e h
  refine c_i X Z (c_V (i := (13, 0, 0)) (As := [.int a1]) (rest := []) S X hN Z (cl_one N 13 (by decide)) rfl rfl (t_X4_joinedState l N D dA A hJ  hc1) (cwV 1 hts (cGV (cB 338 rfl) (cB 339 rfl) (cB 340 rfl) (cB 341 rfl) (cB 332 rfl)) rfl rfl rfl (by decide +kernel) ⟨Nat.le_of_ble_eq_true rfl, Nat.le_of_ble_eq_true rfl⟩) rfl hl.1 rfl (Nat.le_of_ble_eq_true rfl) dX4_joinEntry_2 ⟨Nat.zero_le _, Nat.zero_le _⟩) (fun H locs Z => ?_)
  refine lv_istore_n (lv' := [(2, .int v3), (0, .ref (A (13, 0, 0))), (1, .int a1)]) hx hb dX4_joinEntry_5 rfl hl (by decide) rfl (fun ls hl => ?_)
  refine lv_iconst (v := (0 : Int32)) hx hb dX4_joinEntry_6 (by decide) ?_
  refine lv_istore_n (lv' := [(3, .int (0 : Int32)), (2, .int v3), (0, .ref (A (13, 0, 0))), (1, .int a1)]) hx hb dX4_joinEntry_7 rfl hl (by decide) rfl (fun ls hl => ?_)
  have hL8 : ∀ (n : Nat) (x4 : Int32) (M5 : gM) (H : Heap) (locs : List Loc) (ls : Array Slot), gZ D (cLay N) dA (cLive N) A (gA (cLive N) A) s.heap M5 H locs → lv_has ls 4 [(0, .ref (A (13, 0, 0))), (1, .int a1), (2, .int v3), (3, .int x4)] → f_X4_joinEntry_L8 N a1 v3 n x4 M5 = some y → W p l e (headSpec wmX4_joinEntry ({ frames := 3, cells := 0, slots := 0, locals := 66 } : Room)).room s m args below meth c H locs 0 0 (MQ below (cQv N D dA A y) args s 0 0 (gA (cLive N) A)) (F0 m 8 ls []) := by
    intro n
    induction n with
    | zero =>
      intro x4 M5 H locs ls Z hl h
      rw [f_X4_joinEntry_L8] at h
      cases h
    | succ n6 ih8 =>
      intro x4 M5 H locs ls Z hl h
      rw [f_X4_joinEntry_L8] at h
      refine lv_iload_n hx hb dX4_joinEntry_8 rfl (lv_at hl 3 rfl) ?_
      refine lv_aload_n hx hb dX4_joinEntry_9 rfl (lv_at hl 0 rfl) ?_
      refine cr_X4_servers S X Z hin_X4 (cl_one N 13 (by decide)) hl_30 dX4_joinEntry_10 ?_
      refine g_alR (i := (7, 0, 0)) (ca := 2) rfl S X Z (cl_one N 7 (by decide)) rfl dX4_joinEntry_13 ?_
      refine lv_icmp_ge (tgt := 70) hx hb dX4_joinEntry_14 (by decide) (fun c7 => ?_) (fun c7 => ?_)
      · have h := if_t c7 h
        have hy := Option.some.inj h
        subst hy
        exact g_rv S Z hr hlocks dX4_joinEntry_70
      · have h := if_f c7 h
        refine lv_aload_n hx hb dX4_joinEntry_17 rfl (lv_at hl 0 rfl) ?_
        refine cr_X4_group S X Z hin_X4 (cl_one N 13 (by decide)) hl_44 dX4_joinEntry_18 h (fun v8 h => ?_)
        refine lv_iload_n hx hb dX4_joinEntry_21 rfl (lv_at hl 3 rfl) ?_
        obtain ⟨v10, hc9, h⟩ := o1_e h
        refine c_i X Z (c_SN (As := [.int v8, .int x4]) (rest := []) S X hN Z (t_X10_isIn l N D dA A hJ  hc9) ⟨va_cnB 2 hts (cG (cB 175 rfl)) rfl rfl rfl (hN.2 ("ReplicaFiles$Meeting", 113, yX10_isIn, "ReplicaFiles") (by decide +kernel)) (hts (.initialized RX10) (cBc 107 rfl)) (by decide +kernel) ⟨Nat.le_of_ble_eq_true rfl, Nat.le_of_ble_eq_true rfl⟩, hts (.static yX10_isIn) (cBc 178 rfl), trivial⟩ rfl hl.1 rfl (Nat.le_of_ble_eq_true rfl) dX4_joinEntry_22 ⟨Nat.zero_le _, Nat.zero_le _⟩) (fun H locs Z => ?_)
        obtain ⟨J64, eJ64, h⟩ := jn_e h
        have hJ64 : ∀ (M11 : gM) (H : Heap) (locs : List Loc) (ls : Array Slot), gZ D (cLay N) dA (cLive N) A (gA (cLive N) A) s.heap M11 H locs → lv_has ls 4 [(0, .ref (A (13, 0, 0))), (1, .int a1), (2, .int v3), (3, .int x4)] → J64 M11 = some y → W p l e (headSpec wmX4_joinEntry ({ frames := 3, cells := 0, slots := 0, locals := 66 } : Room)).room s m args below meth c H locs 0 0 (MQ below (cQv N D dA A y) args s 0 0 (gA (cLive N) A)) (F0 m 64 ls []) := by
          intro M11 H locs ls Z hl h
          rw [eJ64] at h
          try dsimp only at h
          obtain ⟨x12, ex12, h⟩ := lt_e h
          refine lv_iinc (v := x12) (lv' := [(3, .int x12), (0, .ref (A (13, 0, 0))), (1, .int a1), (2, .int v3)]) hx hb dX4_joinEntry_64 hl (k := 3) rfl (by rw [ex12]; rfl) (by decide) rfl (fun ls hl => ?_)
          refine lv_goto (tgt := 8) hx hb dX4_joinEntry_67 (by decide) ?_
          exact ih8 x12 M11 _ _ _ Z (lv_sub hl [1, 2, 3, 0] rfl) h
        refine lv_if_eq (tgt := 64) hx hb dX4_joinEntry_25 (by decide) (fun c13 => ?_) (fun c13 => ?_)
        · have h := if_t c13 h
          exact hJ64 M5 _ _ _ Z (lv_sub hl [0, 1, 2, 3] rfl) h
        · have h := if_f c13 h
          refine lv_aload_n hx hb dX4_joinEntry_28 rfl (lv_at hl 0 rfl) ?_
          refine cr_X4_servers S X Z hin_X4 (cl_one N 13 (by decide)) hl_30 dX4_joinEntry_29 ?_
          refine lv_iload_n hx hb dX4_joinEntry_32 rfl (lv_at hl 3 rfl) ?_
          refine g_aald (i := (7, 0, 0)) (ca := 2) ⟨rfl, rfl⟩ S X Z (cl_one N 7 (by decide)) rfl dX4_joinEntry_33 h (fun v14 hv14 h => ?_)
          refine cn_X7_tree (a := v14) S X Z hin_X7 (cl_srv hv14) hl_74 dX4_joinEntry_34 ?_
          refine cn_X8_state (a := v14) S X Z hin_X8 (cl_st (cl_srv hv14)) hl_80 dX4_joinEntry_37 ?_
          refine lv_iload_n hx hb dX4_joinEntry_40 rfl (lv_at hl 1 rfl) ?_
          refine lv_iload_n hx hb dX4_joinEntry_41 rfl (lv_at hl 2 rfl) ?_
          refine g_iast (i := (56, v14, 0)) (n := 48) S X Z (cl_X8_state (cl_st (cl_srv hv14))) rfl dX4_joinEntry_42 h (fun M15 H locs Z h => ?_)
          refine lv_aload_n hx hb dX4_joinEntry_43 rfl (lv_at hl 0 rfl) ?_
          refine cr_X4_servers S X Z hin_X4 (cl_one N 13 (by decide)) hl_30 dX4_joinEntry_44 ?_
          refine lv_iload_n hx hb dX4_joinEntry_47 rfl (lv_at hl 3 rfl) ?_
          refine g_aald (i := (7, 0, 0)) (ca := 2) ⟨rfl, rfl⟩ S X Z (cl_one N 7 (by decide)) rfl dX4_joinEntry_48 h (fun v16 hv16 h => ?_)
          refine cn_X7_tree (a := v16) S X Z hin_X7 (cl_srv hv16) hl_74 dX4_joinEntry_49 ?_
          refine cn_X8_goneCounts (a := v16) S X Z hin_X8 (cl_st (cl_srv hv16)) hl_122 dX4_joinEntry_52 ?_
          refine lv_iload_n hx hb dX4_joinEntry_55 rfl (lv_at hl 1 rfl) ?_
          refine g_aald (i := (57, v16, 0)) (ca := 5) ⟨rfl, rfl⟩ S X Z (cl_X8_goneCounts (cl_st (cl_srv hv16))) rfl dX4_joinEntry_56 h (fun v17 hv17 h => ?_)
          refine lv_aload_n hx hb dX4_joinEntry_57 rfl (lv_at hl 0 rfl) ?_
          refine cr_X4_greater S X Z hin_X4 (cl_one N 13 (by decide)) hl_40 dX4_joinEntry_58 ?_
          obtain ⟨M19, hc18, h⟩ := o1_e h
          refine c_v X Z (c_SN (As := [.ref (A (58, v16, v17)), .ref (A (14, 0, 0))]) (rest := []) S X hN Z (t_X10_assign l N D dA A hJ ⟨(cl_58 (cl_X8_goneCounts (cl_st (cl_srv hv16))) hv17), rfl⟩ ⟨(cl_one N 14 (by decide)), rfl⟩ hc18) ⟨va_cnB 2 hts (cG (cB 104 rfl)) rfl rfl rfl (hN.2 ("ReplicaFiles$Meeting", 180, yX10_assign, "ReplicaFiles") (by decide +kernel)) (hts (.initialized RX10) (cBc 107 rfl)) (by decide +kernel) ⟨Nat.le_of_ble_eq_true rfl, Nat.le_of_ble_eq_true rfl⟩, hts (.static yX10_assign) (cBc 106 rfl), trivial⟩ rfl hl.1 rfl (Nat.le_of_ble_eq_true rfl) dX4_joinEntry_61 ⟨Nat.zero_le _, Nat.zero_le _⟩) (fun H locs Z => ?_)
          exact hJ64 M19 _ _ _ Z (lv_sub hl [0, 1, 2, 3] rfl) h
  exact hL8 100 (0 : Int32) M2 _ _ _ Z (lv_sub hl [2, 3, 1, 0] rfl) h
-- X4_raiseToAll (I)V: 60 instructions
theorem dX4_raiseToAll_0 : decode cX4_raiseToAll 0 = .ok (.aload_n 0, 1) := by decide +kernel
theorem dX4_raiseToAll_1 : decode cX4_raiseToAll 1 = .ok (.getfield 40, 3) := by decide +kernel
theorem dX4_raiseToAll_4 : decode cX4_raiseToAll 4 = .ok (.iconst 0, 1) := by decide +kernel
theorem dX4_raiseToAll_5 : decode cX4_raiseToAll 5 = .ok (.invokestatic 107, 3) := by decide +kernel
theorem dX4_raiseToAll_8 : decode cX4_raiseToAll 8 = .ok (.aload_n 0, 1) := by decide +kernel
theorem dX4_raiseToAll_9 : decode cX4_raiseToAll 9 = .ok (.getfield 15, 3) := by decide +kernel
theorem dX4_raiseToAll_12 : decode cX4_raiseToAll 12 = .ok (.aload_n 0, 1) := by decide +kernel
theorem dX4_raiseToAll_13 : decode cX4_raiseToAll 13 = .ok (.getfield 44, 3) := by decide +kernel
theorem dX4_raiseToAll_16 : decode cX4_raiseToAll 16 = .ok (.iload_n 1, 1) := by decide +kernel
theorem dX4_raiseToAll_17 : decode cX4_raiseToAll 17 = .ok (.invokevirtual 85, 3) := by decide +kernel
theorem dX4_raiseToAll_20 : decode cX4_raiseToAll 20 = .ok (.istore_n 2, 1) := by decide +kernel
theorem dX4_raiseToAll_21 : decode cX4_raiseToAll 21 = .ok (.iconst 0, 1) := by decide +kernel
theorem dX4_raiseToAll_22 : decode cX4_raiseToAll 22 = .ok (.istore_n 3, 1) := by decide +kernel
theorem dX4_raiseToAll_23 : decode cX4_raiseToAll 23 = .ok (.iload_n 3, 1) := by decide +kernel
theorem dX4_raiseToAll_24 : decode cX4_raiseToAll 24 = .ok (.aload_n 0, 1) := by decide +kernel
theorem dX4_raiseToAll_25 : decode cX4_raiseToAll 25 = .ok (.getfield 30, 3) := by decide +kernel
theorem dX4_raiseToAll_28 : decode cX4_raiseToAll 28 = .ok (.arraylength, 1) := by decide +kernel
theorem dX4_raiseToAll_29 : decode cX4_raiseToAll 29 = .ok (.if_icmp .ge 88, 3) := by decide +kernel
theorem dX4_raiseToAll_32 : decode cX4_raiseToAll 32 = .ok (.iload_n 2, 1) := by decide +kernel
theorem dX4_raiseToAll_33 : decode cX4_raiseToAll 33 = .ok (.iload_n 3, 1) := by decide +kernel
theorem dX4_raiseToAll_34 : decode cX4_raiseToAll 34 = .ok (.invokestatic 113, 3) := by decide +kernel
theorem dX4_raiseToAll_37 : decode cX4_raiseToAll 37 = .ok (.ifCond .ne 6, 3) := by decide +kernel
theorem dX4_raiseToAll_40 : decode cX4_raiseToAll 40 = .ok (.goto 71, 3) := by decide +kernel
theorem dX4_raiseToAll_43 : decode cX4_raiseToAll 43 = .ok (.aload_n 0, 1) := by decide +kernel
theorem dX4_raiseToAll_44 : decode cX4_raiseToAll 44 = .ok (.getfield 40, 3) := by decide +kernel
theorem dX4_raiseToAll_47 : decode cX4_raiseToAll 47 = .ok (.aload_n 0, 1) := by decide +kernel
theorem dX4_raiseToAll_48 : decode cX4_raiseToAll 48 = .ok (.getfield 30, 3) := by decide +kernel
theorem dX4_raiseToAll_51 : decode cX4_raiseToAll 51 = .ok (.iload_n 3, 1) := by decide +kernel
theorem dX4_raiseToAll_52 : decode cX4_raiseToAll 52 = .ok (.aaload, 1) := by decide +kernel
theorem dX4_raiseToAll_53 : decode cX4_raiseToAll 53 = .ok (.getfield 74, 3) := by decide +kernel
theorem dX4_raiseToAll_56 : decode cX4_raiseToAll 56 = .ok (.getfield 130, 3) := by decide +kernel
theorem dX4_raiseToAll_59 : decode cX4_raiseToAll 59 = .ok (.iload_n 1, 1) := by decide +kernel
theorem dX4_raiseToAll_60 : decode cX4_raiseToAll 60 = .ok (.aaload, 1) := by decide +kernel
theorem dX4_raiseToAll_61 : decode cX4_raiseToAll 61 = .ok (.invokestatic 126, 3) := by decide +kernel
theorem dX4_raiseToAll_64 : decode cX4_raiseToAll 64 = .ok (.aload_n 0, 1) := by decide +kernel
theorem dX4_raiseToAll_65 : decode cX4_raiseToAll 65 = .ok (.getfield 30, 3) := by decide +kernel
theorem dX4_raiseToAll_68 : decode cX4_raiseToAll 68 = .ok (.iload_n 3, 1) := by decide +kernel
theorem dX4_raiseToAll_69 : decode cX4_raiseToAll 69 = .ok (.aaload, 1) := by decide +kernel
theorem dX4_raiseToAll_70 : decode cX4_raiseToAll 70 = .ok (.getfield 137, 3) := by decide +kernel
theorem dX4_raiseToAll_73 : decode cX4_raiseToAll 73 = .ok (.iload_n 1, 1) := by decide +kernel
theorem dX4_raiseToAll_74 : decode cX4_raiseToAll 74 = .ok (.aaload, 1) := by decide +kernel
theorem dX4_raiseToAll_75 : decode cX4_raiseToAll 75 = .ok (.astore 4, 2) := by decide +kernel
theorem dX4_raiseToAll_77 : decode cX4_raiseToAll 77 = .ok (.iconst 0, 1) := by decide +kernel
theorem dX4_raiseToAll_78 : decode cX4_raiseToAll 78 = .ok (.istore 5, 2) := by decide +kernel
theorem dX4_raiseToAll_80 : decode cX4_raiseToAll 80 = .ok (.iload 5, 2) := by decide +kernel
theorem dX4_raiseToAll_82 : decode cX4_raiseToAll 82 = .ok (.aload 4, 2) := by decide +kernel
theorem dX4_raiseToAll_84 : decode cX4_raiseToAll 84 = .ok (.getfield 141, 3) := by decide +kernel
theorem dX4_raiseToAll_87 : decode cX4_raiseToAll 87 = .ok (.if_icmp .ge 24, 3) := by decide +kernel
theorem dX4_raiseToAll_90 : decode cX4_raiseToAll 90 = .ok (.aload_n 0, 1) := by decide +kernel
theorem dX4_raiseToAll_91 : decode cX4_raiseToAll 91 = .ok (.getfield 40, 3) := by decide +kernel
theorem dX4_raiseToAll_94 : decode cX4_raiseToAll 94 = .ok (.aload 4, 2) := by decide +kernel
theorem dX4_raiseToAll_96 : decode cX4_raiseToAll 96 = .ok (.getfield 144, 3) := by decide +kernel
theorem dX4_raiseToAll_99 : decode cX4_raiseToAll 99 = .ok (.iload 5, 2) := by decide +kernel
theorem dX4_raiseToAll_101 : decode cX4_raiseToAll 101 = .ok (.aaload, 1) := by decide +kernel
theorem dX4_raiseToAll_102 : decode cX4_raiseToAll 102 = .ok (.invokestatic 126, 3) := by decide +kernel
theorem dX4_raiseToAll_105 : decode cX4_raiseToAll 105 = .ok (.iinc 5 1, 3) := by decide +kernel
theorem dX4_raiseToAll_108 : decode cX4_raiseToAll 108 = .ok (.goto (-28), 3) := by decide +kernel
theorem dX4_raiseToAll_111 : decode cX4_raiseToAll 111 = .ok (.iinc 3 1, 3) := by decide +kernel
theorem dX4_raiseToAll_114 : decode cX4_raiseToAll 114 = .ok (.goto (-91), 3) := by decide +kernel
theorem dX4_raiseToAll_117 : decode cX4_raiseToAll 117 = .ok (.return_, 1) := by decide +kernel
abbrev wmX4_raiseToAll : List Cond := .code yX4_raiseToAll cX4_raiseToAll 6 none :: cBig
def f_X4_raiseToAll_L80 (N : Nat) (a1 : Int32) (v5 : Int32) (x6 : Int32) (v19 : Nat) (v20 : Nat) (J111 : gM → Option gM) : Nat → Int32 → gM → Option gM
  | 0, _, _ => none
  | n23 + 1, x21, M22 => lt (M22 (60, (48 * v19 + v20), 0) 3) (fun v24 => (if v24 ≤ x21 then J111 M22 else ix x21 (cMost (48 * v19 + v20)) (fun v26 => o1 (f_X10_raise N M22 (14, 0, 0) (64, (48 * v19 + v20), v26)) (fun M28 => lt (x21 + 1) (fun x29 => f_X4_raiseToAll_L80 N a1 v5 x6 v19 v20 J111 n23 x29 M28)))))
def f_X4_raiseToAll_L23 (N : Nat) (a1 : Int32) (v5 : Int32) : Nat → Int32 → gM → Option gM
  | 0, _, _ => none
  | n8 + 1, x6, M7 => (if (nI N) ≤ x6 then some M7 else o1 (f_X10_isIn N M7 v5 x6) (fun v11 => jn (fun (M12 : gM) => lt (x6 + 1) (fun x13 => f_X4_raiseToAll_L23 N a1 v5 n8 x13 M12)) (fun J111 => (if v11 = 0 then J111 M7 else ix x6 N (fun v15 => ix a1 48 (fun v16 => o1 (f_X10_raise N M7 (14, 0, 0) (55, v15, v16)) (fun M18 => ix x6 N (fun v19 => ix a1 48 (fun v20 => f_X4_raiseToAll_L80 N a1 v5 x6 v19 v20 J111 100 (0 : Int32) M18)))))))))
def f_X4_raiseToAll (N : Nat) (M : gM) (a1 : Int32) : Option gM :=
  o1 (f_J7_fill_53178 N M (14, 0, 0) (0 : Int32)) (fun M2 => lt (M2 (13, 0, 0) 6) (fun v3 => o1 (f_X6_holders N M2 v3 a1) (fun v5 => f_X4_raiseToAll_L23 N a1 v5 100 (0 : Int32) M2)))
set_option maxHeartbeats 4000000 in
set_option maxRecDepth 100000 in
theorem t_X4_raiseToAll (l : Launch) (N : Nat) (D : va_G) (dA : Nat → ClassId) (A : gI → Nat) (hJ : gJ (cLive N) A) {M : gM} {a1 : Int32}  {y : gM} (h : f_X4_raiseToAll N M a1 = some y) : cMv l yX4_raiseToAll wmX4_raiseToAll ({ frames := 2, cells := 0, slots := 0, locals := 45 } : Room) N D dA A [.ref (A (13, 0, 0)), .int a1] M y := by
  refine Met.ofW (cc := cX4_raiseToAll) (maxL := 6) (ret := none) (by decide) rfl ?_
  intro p e s m args below meth c s₁ B hml hv
  obtain ⟨rfl, hP, hK, hN⟩ := hv
  generalize hargs : ([.ref (A (13, 0, 0)), .int a1] : List Value).toArray = args at B ⊢
  have S : CallFix p m c cX4_raiseToAll 6 s args wmX4_raiseToAll RX4 := ⟨B.exec, B.bytes, hml, findClass_of_methodNamed B.named, atoms_spec (ws := wmX4_raiseToAll) B.pre⟩
  obtain ⟨hx, hb, -, hown, hts⟩ := id S
  have hr := B.returns
  have hlocks := B.notSynchronized
  have X : gX D vwCl dA (cLive N) A (gA (cLive N) A) s := ⟨hK, hJ, fun i hi => ⟨i, hi, rfl⟩⟩
  have Z : gZ D (cLay N) dA (cLive N) A (gA (cLive N) A) s.heap M s.heap [] := ⟨hP, va_S.rf⟩
  have hin_X4 : ∀ w ∈ wsX40, w ∈ wmX4_raiseToAll := cin_X4
  have hin_X7 : ∀ w ∈ wsX70, w ∈ wmX4_raiseToAll := cin_X7
  have hin_X8 : ∀ w ∈ wsX80, w ∈ wmX4_raiseToAll := cin_X8
  have hin_X9 : ∀ w ∈ wsX90, w ∈ wmX4_raiseToAll := cin_X9
  have hl_15 := hts (.fieldLink RX4 15 "ReplicaFiles$Meeting" "replicas" "LReplicaFiles$Replicas;") (cBc 323 rfl)
  have hl_30 := hts (.fieldLink RX4 30 "ReplicaFiles$Meeting" "servers" "[LReplicaFiles$Server;") (cBc 325 rfl)
  have hl_40 := hts (.fieldLink RX4 40 "ReplicaFiles$Meeting" "greater" "[I") (cBc 329 rfl)
  have hl_44 := hts (.fieldLink RX4 44 "ReplicaFiles$Meeting" "group" "I") (cBc 333 rfl)
  have hl_74 := va_Nw.use (A := args) rfl (hN.1 ("ReplicaFiles$Meeting", 74, "ReplicaFiles$Server", "tree", "LReplicaFiles$Tree;", "ReplicaFiles") (by decide +kernel))
  have hl_130 := va_Nw.use (A := args) rfl (hN.1 ("ReplicaFiles$Meeting", 130, "ReplicaFiles$Tree", "counts", "[[I", "ReplicaFiles") (by decide +kernel))
  have hl_137 := va_Nw.use (A := args) rfl (hN.1 ("ReplicaFiles$Meeting", 137, "ReplicaFiles$Server", "versions", "[LReplicaFiles$Versions;", "ReplicaFiles") (by decide +kernel))
  have hl_141 := va_Nw.use (A := args) rfl (hN.1 ("ReplicaFiles$Meeting", 141, "ReplicaFiles$Versions", "length", "I", "ReplicaFiles") (by decide +kernel))
  have hl_144 := va_Nw.use (A := args) rfl (hN.1 ("ReplicaFiles$Meeting", 144, "ReplicaFiles$Versions", "counts", "[[I", "ReplicaFiles") (by decide +kernel))
  have hl := lv_entry ([.ref (A (13, 0, 0)), .int a1]) (n := 6) (Nat.le_of_ble_eq_true rfl)
  rw [← hargs, lg_entry_eq, hargs]
  generalize (lg_sl ([.ref (A (13, 0, 0)), .int a1]) ++ List.replicate (6 - (lg_sl ([.ref (A (13, 0, 0)), .int a1])).length) Slot.unset).toArray = ls at hl ⊢
  have hl : lv_has ls 6 [(0, .ref (A (13, 0, 0))), (1, .int a1)] := hl
  unfold f_X4_raiseToAll at h
  refine lv_aload_n hx hb dX4_raiseToAll_0 rfl (lv_at hl 0 rfl) ?_
  refine cr_X4_greater S X Z hin_X4 (cl_one N 13 (by decide)) hl_40 dX4_raiseToAll_1 ?_
  refine lv_iconst (v := (0 : Int32)) hx hb dX4_raiseToAll_4 (by decide) ?_
  obtain ⟨M2, hc1, h⟩ := o1_e h
  refine c_v X Z (c_S (As := [.ref (A (14, 0, 0)), .int (0 : Int32)]) (rest := []) S X hN Z (t_J7_fill_53178 l N D dA A hJ ⟨(cl_one N 14 (by decide)), rfl⟩ hc1) (va_cwS 2 hts (cGS (cB 335 rfl) (cB 74 rfl) (cB 75 rfl) (cB 68 rfl)) rfl rfl rfl (by decide +kernel) ⟨Nat.le_of_ble_eq_true rfl, Nat.le_of_ble_eq_true rfl⟩) rfl hl.1 rfl (Nat.le_of_ble_eq_true rfl) dX4_raiseToAll_5 ⟨Nat.zero_le _, Nat.zero_le _⟩) (fun H locs Z => ?_)
  refine lv_aload_n hx hb dX4_raiseToAll_8 rfl (lv_at hl 0 rfl) ?_
  refine cr_X4_replicas S X Z hin_X4 (cl_one N 13 (by decide)) hl_15 dX4_raiseToAll_9 ?_
  refine lv_aload_n hx hb dX4_raiseToAll_12 rfl (lv_at hl 0 rfl) ?_
  refine cr_X4_group S X Z hin_X4 (cl_one N 13 (by decide)) hl_44 dX4_raiseToAll_13 h (fun v3 h => ?_)
  refine lv_iload_n hx hb dX4_raiseToAll_16 rfl (lv_at hl 1 rfl) ?_
  obtain ⟨v5, hc4, h⟩ := o1_e h
  refine c_i X Z (c_V (i := (10, 0, 0)) (As := [.int v3, .int a1]) (rest := []) S X hN Z (cl_one N 10 (by decide)) rfl rfl (t_X6_holders l N D dA A hJ  hc4) (cwV 2 hts (cGV (cB 337 rfl) (cB 225 rfl) (cB 226 rfl) (cB 203 rfl) (cB 222 rfl)) rfl rfl rfl (by decide +kernel) ⟨Nat.le_of_ble_eq_true rfl, Nat.le_of_ble_eq_true rfl⟩) rfl hl.1 rfl (Nat.le_of_ble_eq_true rfl) dX4_raiseToAll_17 ⟨Nat.zero_le _, Nat.zero_le _⟩) (fun H locs Z => ?_)
  refine lv_istore_n (lv' := [(2, .int v5), (0, .ref (A (13, 0, 0))), (1, .int a1)]) hx hb dX4_raiseToAll_20 rfl hl (by decide) rfl (fun ls hl => ?_)
  refine lv_iconst (v := (0 : Int32)) hx hb dX4_raiseToAll_21 (by decide) ?_
  refine lv_istore_n (lv' := [(3, .int (0 : Int32)), (2, .int v5), (0, .ref (A (13, 0, 0))), (1, .int a1)]) hx hb dX4_raiseToAll_22 rfl hl (by decide) rfl (fun ls hl => ?_)
  have hL23 : ∀ (n : Nat) (x6 : Int32) (M7 : gM) (H : Heap) (locs : List Loc) (ls : Array Slot), gZ D (cLay N) dA (cLive N) A (gA (cLive N) A) s.heap M7 H locs → lv_has ls 6 [(0, .ref (A (13, 0, 0))), (1, .int a1), (2, .int v5), (3, .int x6)] → f_X4_raiseToAll_L23 N a1 v5 n x6 M7 = some y → W p l e (headSpec wmX4_raiseToAll ({ frames := 2, cells := 0, slots := 0, locals := 45 } : Room)).room s m args below meth c H locs 0 0 (MQ below (cQv N D dA A y) args s 0 0 (gA (cLive N) A)) (F0 m 23 ls []) := by
    intro n
    induction n with
    | zero =>
      intro x6 M7 H locs ls Z hl h
      rw [f_X4_raiseToAll_L23] at h
      cases h
    | succ n8 ih23 =>
      intro x6 M7 H locs ls Z hl h
      rw [f_X4_raiseToAll_L23] at h
      refine lv_iload_n hx hb dX4_raiseToAll_23 rfl (lv_at hl 3 rfl) ?_
      refine lv_aload_n hx hb dX4_raiseToAll_24 rfl (lv_at hl 0 rfl) ?_
      refine cr_X4_servers S X Z hin_X4 (cl_one N 13 (by decide)) hl_30 dX4_raiseToAll_25 ?_
      refine g_alR (i := (7, 0, 0)) (ca := 2) rfl S X Z (cl_one N 7 (by decide)) rfl dX4_raiseToAll_28 ?_
      refine lv_icmp_ge (tgt := 117) hx hb dX4_raiseToAll_29 (by decide) (fun c9 => ?_) (fun c9 => ?_)
      · have h := if_t c9 h
        have hy := Option.some.inj h
        subst hy
        exact g_rv S Z hr hlocks dX4_raiseToAll_117
      · have h := if_f c9 h
        refine lv_iload_n hx hb dX4_raiseToAll_32 rfl (lv_at hl 2 rfl) ?_
        refine lv_iload_n hx hb dX4_raiseToAll_33 rfl (lv_at hl 3 rfl) ?_
        obtain ⟨v11, hc10, h⟩ := o1_e h
        refine c_i X Z (c_SN (As := [.int v5, .int x6]) (rest := []) S X hN Z (t_X10_isIn l N D dA A hJ  hc10) ⟨va_cnB 2 hts (cG (cB 175 rfl)) rfl rfl rfl (hN.2 ("ReplicaFiles$Meeting", 113, yX10_isIn, "ReplicaFiles") (by decide +kernel)) (hts (.initialized RX10) (cBc 107 rfl)) (by decide +kernel) ⟨Nat.le_of_ble_eq_true rfl, Nat.le_of_ble_eq_true rfl⟩, hts (.static yX10_isIn) (cBc 178 rfl), trivial⟩ rfl hl.1 rfl (Nat.le_of_ble_eq_true rfl) dX4_raiseToAll_34 ⟨Nat.zero_le _, Nat.zero_le _⟩) (fun H locs Z => ?_)
        obtain ⟨J111, eJ111, h⟩ := jn_e h
        have hJ111 : ∀ (M12 : gM) (H : Heap) (locs : List Loc) (ls : Array Slot), gZ D (cLay N) dA (cLive N) A (gA (cLive N) A) s.heap M12 H locs → lv_has ls 6 [(0, .ref (A (13, 0, 0))), (1, .int a1), (2, .int v5), (3, .int x6)] → J111 M12 = some y → W p l e (headSpec wmX4_raiseToAll ({ frames := 2, cells := 0, slots := 0, locals := 45 } : Room)).room s m args below meth c H locs 0 0 (MQ below (cQv N D dA A y) args s 0 0 (gA (cLive N) A)) (F0 m 111 ls []) := by
          intro M12 H locs ls Z hl h
          rw [eJ111] at h
          try dsimp only at h
          obtain ⟨x13, ex13, h⟩ := lt_e h
          refine lv_iinc (v := x13) (lv' := [(3, .int x13), (0, .ref (A (13, 0, 0))), (1, .int a1), (2, .int v5)]) hx hb dX4_raiseToAll_111 hl (k := 3) rfl (by rw [ex13]; rfl) (by decide) rfl (fun ls hl => ?_)
          refine lv_goto (tgt := 23) hx hb dX4_raiseToAll_114 (by decide) ?_
          exact ih23 x13 M12 _ _ _ Z (lv_sub hl [1, 2, 3, 0] rfl) h
        refine lv_if_ne (tgt := 43) hx hb dX4_raiseToAll_37 (by decide) (fun c14 => ?_) (fun c14 => ?_)
        · have h := if_f c14 h
          refine lv_aload_n hx hb dX4_raiseToAll_43 rfl (lv_at hl 0 rfl) ?_
          refine cr_X4_greater S X Z hin_X4 (cl_one N 13 (by decide)) hl_40 dX4_raiseToAll_44 ?_
          refine lv_aload_n hx hb dX4_raiseToAll_47 rfl (lv_at hl 0 rfl) ?_
          refine cr_X4_servers S X Z hin_X4 (cl_one N 13 (by decide)) hl_30 dX4_raiseToAll_48 ?_
          refine lv_iload_n hx hb dX4_raiseToAll_51 rfl (lv_at hl 3 rfl) ?_
          refine g_aald (i := (7, 0, 0)) (ca := 2) ⟨rfl, rfl⟩ S X Z (cl_one N 7 (by decide)) rfl dX4_raiseToAll_52 h (fun v15 hv15 h => ?_)
          refine cn_X7_tree (a := v15) S X Z hin_X7 (cl_srv hv15) hl_74 dX4_raiseToAll_53 ?_
          refine cn_X8_counts (a := v15) S X Z hin_X8 (cl_st (cl_srv hv15)) hl_130 dX4_raiseToAll_56 ?_
          refine lv_iload_n hx hb dX4_raiseToAll_59 rfl (lv_at hl 1 rfl) ?_
          refine g_aald (i := (54, v15, 0)) (ca := 5) ⟨rfl, rfl⟩ S X Z (cl_X8_counts (cl_st (cl_srv hv15))) rfl dX4_raiseToAll_60 h (fun v16 hv16 h => ?_)
          obtain ⟨M18, hc17, h⟩ := o1_e h
          refine c_v X Z (c_SN (As := [.ref (A (14, 0, 0)), .ref (A (55, v15, v16))]) (rest := []) S X hN Z (t_X10_raise l N D dA A hJ ⟨(cl_one N 14 (by decide)), rfl⟩ ⟨(cl_55 (cl_X8_counts (cl_st (cl_srv hv15))) hv16), rfl⟩ hc17) ⟨va_cnB 2 hts (cG (cB 192 rfl)) rfl rfl rfl (hN.2 ("ReplicaFiles$Meeting", 126, yX10_raise, "ReplicaFiles") (by decide +kernel)) (hts (.initialized RX10) (cBc 107 rfl)) (by decide +kernel) ⟨Nat.le_of_ble_eq_true rfl, Nat.le_of_ble_eq_true rfl⟩, hts (.static yX10_raise) (cBc 214 rfl), trivial⟩ rfl hl.1 rfl (Nat.le_of_ble_eq_true rfl) dX4_raiseToAll_61 ⟨Nat.zero_le _, Nat.zero_le _⟩) (fun H locs Z => ?_)
          refine lv_aload_n hx hb dX4_raiseToAll_64 rfl (lv_at hl 0 rfl) ?_
          refine cr_X4_servers S X Z hin_X4 (cl_one N 13 (by decide)) hl_30 dX4_raiseToAll_65 ?_
          refine lv_iload_n hx hb dX4_raiseToAll_68 rfl (lv_at hl 3 rfl) ?_
          refine g_aald (i := (7, 0, 0)) (ca := 2) ⟨rfl, rfl⟩ S X Z (cl_one N 7 (by decide)) rfl dX4_raiseToAll_69 h (fun v19 hv19 h => ?_)
          refine cn_X7_versions (a := v19) S X Z hin_X7 (cl_srv hv19) hl_137 dX4_raiseToAll_70 ?_
          refine lv_iload_n hx hb dX4_raiseToAll_73 rfl (lv_at hl 1 rfl) ?_
          refine g_aald (i := (21, v19, 0)) (ca := 4) ⟨rfl, rfl⟩ S X Z (cl_X7_versions (cl_srv hv19)) rfl dX4_raiseToAll_74 h (fun v20 hv20 h => ?_)
          refine lv_astore (lv' := [(4, .ref (A (60, (48 * v19 + v20), 0))), (0, .ref (A (13, 0, 0))), (1, .int a1), (2, .int v5), (3, .int x6)]) hx hb dX4_raiseToAll_75 hl (by decide) rfl (fun ls hl => ?_)
          refine lv_iconst (v := (0 : Int32)) hx hb dX4_raiseToAll_77 (by decide) ?_
          refine lv_istore (lv' := [(5, .int (0 : Int32)), (4, .ref (A (60, (48 * v19 + v20), 0))), (0, .ref (A (13, 0, 0))), (1, .int a1), (2, .int v5), (3, .int x6)]) hx hb dX4_raiseToAll_78 hl (by decide) rfl (fun ls hl => ?_)
          have hL80 : ∀ (n : Nat) (x21 : Int32) (M22 : gM) (H : Heap) (locs : List Loc) (ls : Array Slot), gZ D (cLay N) dA (cLive N) A (gA (cLive N) A) s.heap M22 H locs → lv_has ls 6 [(0, .ref (A (13, 0, 0))), (1, .int a1), (2, .int v5), (3, .int x6), (4, .ref (A (60, (48 * v19 + v20), 0))), (5, .int x21)] → f_X4_raiseToAll_L80 N a1 v5 x6 v19 v20 J111 n x21 M22 = some y → W p l e (headSpec wmX4_raiseToAll ({ frames := 2, cells := 0, slots := 0, locals := 45 } : Room)).room s m args below meth c H locs 0 0 (MQ below (cQv N D dA A y) args s 0 0 (gA (cLive N) A)) (F0 m 80 ls []) := by
            intro n
            induction n with
            | zero =>
              intro x21 M22 H locs ls Z hl h
              rw [f_X4_raiseToAll_L80] at h
              cases h
            | succ n23 ih80 =>
              intro x21 M22 H locs ls Z hl h
              rw [f_X4_raiseToAll_L80] at h
              refine lv_iload hx hb dX4_raiseToAll_80 (lv_at hl 5 rfl) ?_
              refine lv_aload hx hb dX4_raiseToAll_82 (lv_at hl 4 rfl) ?_
              refine cn_X9_length (a := (48 * v19 + v20)) S X Z hin_X9 (cl_ver (cl_X7_versions (cl_srv hv19)) hv20) hl_141 dX4_raiseToAll_84 h (fun v24 h => ?_)
              refine lv_icmp_ge (tgt := 111) hx hb dX4_raiseToAll_87 (by decide) (fun c25 => ?_) (fun c25 => ?_)
              · have h := if_t c25 h
                exact hJ111 M22 _ _ _ Z (lv_sub hl [0, 1, 2, 3] rfl) h
              · have h := if_f c25 h
                refine lv_aload_n hx hb dX4_raiseToAll_90 rfl (lv_at hl 0 rfl) ?_
                refine cr_X4_greater S X Z hin_X4 (cl_one N 13 (by decide)) hl_40 dX4_raiseToAll_91 ?_
                refine lv_aload hx hb dX4_raiseToAll_94 (lv_at hl 4 rfl) ?_
                refine cn_X9_counts (a := (48 * v19 + v20)) S X Z hin_X9 (cl_ver (cl_X7_versions (cl_srv hv19)) hv20) hl_144 dX4_raiseToAll_96 ?_
                refine lv_iload hx hb dX4_raiseToAll_99 (lv_at hl 5 rfl) ?_
                refine g_aald (i := (63, (48 * v19 + v20), 0)) (ca := 5) ⟨rfl, rfl⟩ S X Z (cl_X9_counts (cl_ver (cl_X7_versions (cl_srv hv19)) hv20)) rfl dX4_raiseToAll_101 h (fun v26 hv26 h => ?_)
                obtain ⟨M28, hc27, h⟩ := o1_e h
                refine c_v X Z (c_SN (As := [.ref (A (14, 0, 0)), .ref (A (64, (48 * v19 + v20), v26))]) (rest := []) S X hN Z (t_X10_raise l N D dA A hJ ⟨(cl_one N 14 (by decide)), rfl⟩ ⟨(cl_64 (cl_X9_counts (cl_ver (cl_X7_versions (cl_srv hv19)) hv20)) hv26), rfl⟩ hc27) ⟨va_cnB 2 hts (cG (cB 192 rfl)) rfl rfl rfl (hN.2 ("ReplicaFiles$Meeting", 126, yX10_raise, "ReplicaFiles") (by decide +kernel)) (hts (.initialized RX10) (cBc 107 rfl)) (by decide +kernel) ⟨Nat.le_of_ble_eq_true rfl, Nat.le_of_ble_eq_true rfl⟩, hts (.static yX10_raise) (cBc 214 rfl), trivial⟩ rfl hl.1 rfl (Nat.le_of_ble_eq_true rfl) dX4_raiseToAll_102 ⟨Nat.zero_le _, Nat.zero_le _⟩) (fun H locs Z => ?_)
                obtain ⟨x29, ex29, h⟩ := lt_e h
                refine lv_iinc (v := x29) (lv' := [(5, .int x29), (0, .ref (A (13, 0, 0))), (1, .int a1), (2, .int v5), (3, .int x6), (4, .ref (A (60, (48 * v19 + v20), 0)))]) hx hb dX4_raiseToAll_105 hl (k := 5) rfl (by rw [ex29]; rfl) (by decide) rfl (fun ls hl => ?_)
                refine lv_goto (tgt := 80) hx hb dX4_raiseToAll_108 (by decide) ?_
                exact ih80 x29 M28 _ _ _ Z (lv_sub hl [1, 2, 3, 4, 5, 0] rfl) h
          exact hL80 100 (0 : Int32) M18 _ _ _ Z (lv_sub hl [2, 3, 4, 5, 1, 0] rfl) h
        · have h := if_t c14 h
          refine lv_goto (tgt := 111) hx hb dX4_raiseToAll_40 (by decide) ?_
          exact hJ111 M7 _ _ _ Z (lv_sub hl [0, 1, 2, 3] rfl) h
  exact hL23 100 (0 : Int32) M2 _ _ _ Z (lv_sub hl [2, 3, 1, 0] rfl) h
-- X4_joinDirectory (I)V: 82 instructions
theorem dX4_joinDirectory_0 : decode cX4_joinDirectory 0 = .ok (.aload_n 0, 1) := by decide +kernel
theorem dX4_joinDirectory_1 : decode cX4_joinDirectory 1 = .ok (.iload_n 1, 1) := by decide +kernel
theorem dX4_joinDirectory_2 : decode cX4_joinDirectory 2 = .ok (.invokevirtual 165, 3) := by decide +kernel
theorem dX4_joinDirectory_5 : decode cX4_joinDirectory 5 = .ok (.ifCond .eq 19, 3) := by decide +kernel
theorem dX4_joinDirectory_8 : decode cX4_joinDirectory 8 = .ok (.aload_n 0, 1) := by decide +kernel
theorem dX4_joinDirectory_9 : decode cX4_joinDirectory 9 = .ok (.getfield 15, 3) := by decide +kernel
theorem dX4_joinDirectory_12 : decode cX4_joinDirectory 12 = .ok (.aload_n 0, 1) := by decide +kernel
theorem dX4_joinDirectory_13 : decode cX4_joinDirectory 13 = .ok (.getfield 44, 3) := by decide +kernel
theorem dX4_joinDirectory_16 : decode cX4_joinDirectory 16 = .ok (.iload_n 1, 1) := by decide +kernel
theorem dX4_joinDirectory_17 : decode cX4_joinDirectory 17 = .ok (.invokevirtual 168, 3) := by decide +kernel
theorem dX4_joinDirectory_20 : decode cX4_joinDirectory 20 = .ok (.ifCond .eq 4, 3) := by decide +kernel
theorem dX4_joinDirectory_23 : decode cX4_joinDirectory 23 = .ok (.return_, 1) := by decide +kernel
theorem dX4_joinDirectory_24 : decode cX4_joinDirectory 24 = .ok (.iload_n 1, 1) := by decide +kernel
theorem dX4_joinDirectory_25 : decode cX4_joinDirectory 25 = .ok (.iconst 1, 1) := by decide +kernel
theorem dX4_joinDirectory_26 : decode cX4_joinDirectory 26 = .ok (.iadd, 1) := by decide +kernel
theorem dX4_joinDirectory_27 : decode cX4_joinDirectory 27 = .ok (.istore_n 2, 1) := by decide +kernel
theorem dX4_joinDirectory_28 : decode cX4_joinDirectory 28 = .ok (.iload_n 2, 1) := by decide +kernel
theorem dX4_joinDirectory_29 : decode cX4_joinDirectory 29 = .ok (.aload_n 0, 1) := by decide +kernel
theorem dX4_joinDirectory_30 : decode cX4_joinDirectory 30 = .ok (.getfield 25, 3) := by decide +kernel
theorem dX4_joinDirectory_33 : decode cX4_joinDirectory 33 = .ok (.getfield 51, 3) := by decide +kernel
theorem dX4_joinDirectory_36 : decode cX4_joinDirectory 36 = .ok (.if_icmp .gt 27, 3) := by decide +kernel
theorem dX4_joinDirectory_39 : decode cX4_joinDirectory 39 = .ok (.aload_n 0, 1) := by decide +kernel
theorem dX4_joinDirectory_40 : decode cX4_joinDirectory 40 = .ok (.getfield 25, 3) := by decide +kernel
theorem dX4_joinDirectory_43 : decode cX4_joinDirectory 43 = .ok (.getfield 104, 3) := by decide +kernel
theorem dX4_joinDirectory_46 : decode cX4_joinDirectory 46 = .ok (.iload_n 2, 1) := by decide +kernel
theorem dX4_joinDirectory_47 : decode cX4_joinDirectory 47 = .ok (.iaload, 1) := by decide +kernel
theorem dX4_joinDirectory_48 : decode cX4_joinDirectory 48 = .ok (.iload_n 1, 1) := by decide +kernel
theorem dX4_joinDirectory_49 : decode cX4_joinDirectory 49 = .ok (.if_icmp .ne 8, 3) := by decide +kernel
theorem dX4_joinDirectory_52 : decode cX4_joinDirectory 52 = .ok (.aload_n 0, 1) := by decide +kernel
theorem dX4_joinDirectory_53 : decode cX4_joinDirectory 53 = .ok (.iload_n 2, 1) := by decide +kernel
theorem dX4_joinDirectory_54 : decode cX4_joinDirectory 54 = .ok (.invokevirtual 171, 3) := by decide +kernel
theorem dX4_joinDirectory_57 : decode cX4_joinDirectory 57 = .ok (.iinc 2 1, 3) := by decide +kernel
theorem dX4_joinDirectory_60 : decode cX4_joinDirectory 60 = .ok (.goto (-32), 3) := by decide +kernel
theorem dX4_joinDirectory_63 : decode cX4_joinDirectory 63 = .ok (.aload_n 0, 1) := by decide +kernel
theorem dX4_joinDirectory_64 : decode cX4_joinDirectory 64 = .ok (.iload_n 1, 1) := by decide +kernel
theorem dX4_joinDirectory_65 : decode cX4_joinDirectory 65 = .ok (.invokevirtual 174, 3) := by decide +kernel
theorem dX4_joinDirectory_68 : decode cX4_joinDirectory 68 = .ok (.iconst 0, 1) := by decide +kernel
theorem dX4_joinDirectory_69 : decode cX4_joinDirectory 69 = .ok (.istore_n 2, 1) := by decide +kernel
theorem dX4_joinDirectory_70 : decode cX4_joinDirectory 70 = .ok (.iload_n 2, 1) := by decide +kernel
theorem dX4_joinDirectory_71 : decode cX4_joinDirectory 71 = .ok (.aload_n 0, 1) := by decide +kernel
theorem dX4_joinDirectory_72 : decode cX4_joinDirectory 72 = .ok (.getfield 30, 3) := by decide +kernel
theorem dX4_joinDirectory_75 : decode cX4_joinDirectory 75 = .ok (.arraylength, 1) := by decide +kernel
theorem dX4_joinDirectory_76 : decode cX4_joinDirectory 76 = .ok (.if_icmp .ge 56, 3) := by decide +kernel
theorem dX4_joinDirectory_79 : decode cX4_joinDirectory 79 = .ok (.aload_n 0, 1) := by decide +kernel
theorem dX4_joinDirectory_80 : decode cX4_joinDirectory 80 = .ok (.getfield 44, 3) := by decide +kernel
theorem dX4_joinDirectory_83 : decode cX4_joinDirectory 83 = .ok (.iload_n 2, 1) := by decide +kernel
theorem dX4_joinDirectory_84 : decode cX4_joinDirectory 84 = .ok (.invokestatic 113, 3) := by decide +kernel
theorem dX4_joinDirectory_87 : decode cX4_joinDirectory 87 = .ok (.ifCond .eq 39, 3) := by decide +kernel
theorem dX4_joinDirectory_90 : decode cX4_joinDirectory 90 = .ok (.aload_n 0, 1) := by decide +kernel
theorem dX4_joinDirectory_91 : decode cX4_joinDirectory 91 = .ok (.getfield 30, 3) := by decide +kernel
theorem dX4_joinDirectory_94 : decode cX4_joinDirectory 94 = .ok (.iload_n 2, 1) := by decide +kernel
theorem dX4_joinDirectory_95 : decode cX4_joinDirectory 95 = .ok (.aaload, 1) := by decide +kernel
theorem dX4_joinDirectory_96 : decode cX4_joinDirectory 96 = .ok (.getfield 74, 3) := by decide +kernel
theorem dX4_joinDirectory_99 : decode cX4_joinDirectory 99 = .ok (.getfield 177, 3) := by decide +kernel
theorem dX4_joinDirectory_102 : decode cX4_joinDirectory 102 = .ok (.iload_n 1, 1) := by decide +kernel
theorem dX4_joinDirectory_103 : decode cX4_joinDirectory 103 = .ok (.iconst 1, 1) := by decide +kernel
theorem dX4_joinDirectory_104 : decode cX4_joinDirectory 104 = .ok (.bastore, 1) := by decide +kernel
theorem dX4_joinDirectory_105 : decode cX4_joinDirectory 105 = .ok (.aload_n 0, 1) := by decide +kernel
theorem dX4_joinDirectory_106 : decode cX4_joinDirectory 106 = .ok (.getfield 30, 3) := by decide +kernel
theorem dX4_joinDirectory_109 : decode cX4_joinDirectory 109 = .ok (.iload_n 2, 1) := by decide +kernel
theorem dX4_joinDirectory_110 : decode cX4_joinDirectory 110 = .ok (.aaload, 1) := by decide +kernel
theorem dX4_joinDirectory_111 : decode cX4_joinDirectory 111 = .ok (.getfield 74, 3) := by decide +kernel
theorem dX4_joinDirectory_114 : decode cX4_joinDirectory 114 = .ok (.getfield 130, 3) := by decide +kernel
theorem dX4_joinDirectory_117 : decode cX4_joinDirectory 117 = .ok (.iload_n 1, 1) := by decide +kernel
theorem dX4_joinDirectory_118 : decode cX4_joinDirectory 118 = .ok (.aaload, 1) := by decide +kernel
theorem dX4_joinDirectory_119 : decode cX4_joinDirectory 119 = .ok (.aload_n 0, 1) := by decide +kernel
theorem dX4_joinDirectory_120 : decode cX4_joinDirectory 120 = .ok (.getfield 40, 3) := by decide +kernel
theorem dX4_joinDirectory_123 : decode cX4_joinDirectory 123 = .ok (.invokestatic 180, 3) := by decide +kernel
theorem dX4_joinDirectory_126 : decode cX4_joinDirectory 126 = .ok (.iinc 2 1, 3) := by decide +kernel
theorem dX4_joinDirectory_129 : decode cX4_joinDirectory 129 = .ok (.goto (-59), 3) := by decide +kernel
theorem dX4_joinDirectory_132 : decode cX4_joinDirectory 132 = .ok (.aload_n 0, 1) := by decide +kernel
theorem dX4_joinDirectory_133 : decode cX4_joinDirectory 133 = .ok (.getfield 15, 3) := by decide +kernel
theorem dX4_joinDirectory_136 : decode cX4_joinDirectory 136 = .ok (.aload_n 0, 1) := by decide +kernel
theorem dX4_joinDirectory_137 : decode cX4_joinDirectory 137 = .ok (.getfield 44, 3) := by decide +kernel
theorem dX4_joinDirectory_140 : decode cX4_joinDirectory 140 = .ok (.iload_n 1, 1) := by decide +kernel
theorem dX4_joinDirectory_141 : decode cX4_joinDirectory 141 = .ok (.invokevirtual 162, 3) := by decide +kernel
theorem dX4_joinDirectory_144 : decode cX4_joinDirectory 144 = .ok (.aload_n 0, 1) := by decide +kernel
theorem dX4_joinDirectory_145 : decode cX4_joinDirectory 145 = .ok (.aload_n 0, 1) := by decide +kernel
theorem dX4_joinDirectory_146 : decode cX4_joinDirectory 146 = .ok (.getfield 44, 3) := by decide +kernel
theorem dX4_joinDirectory_149 : decode cX4_joinDirectory 149 = .ok (.iload_n 1, 1) := by decide +kernel
theorem dX4_joinDirectory_150 : decode cX4_joinDirectory 150 = .ok (.invokevirtual 148, 3) := by decide +kernel
theorem dX4_joinDirectory_153 : decode cX4_joinDirectory 153 = .ok (.return_, 1) := by decide +kernel
abbrev wmX4_joinDirectory : List Cond := .code yX4_joinDirectory cX4_joinDirectory 3 none :: cBig
def f_X4_joinDirectory_L70 (N : Nat) (a1 : Int32) (J132 : gM → Option gM) : Nat → Int32 → gM → Option gM
  | 0, _, _ => none
  | n17 + 1, x15, M16 => (if (nI N) ≤ x15 then J132 M16 else lt (M16 (13, 0, 0) 6) (fun v19 => o1 (f_X10_isIn N M16 v19 x15) (fun v21 => jn (fun (M22 : gM) => lt (x15 + 1) (fun x23 => f_X4_joinDirectory_L70 N a1 J132 n17 x23 M22)) (fun J126 => (if v21 = 0 then J126 M16 else ix x15 N (fun v25 => wz M16 (51, v25, 0) 48 a1 (1 : Int32) (fun M26 => ix x15 N (fun v27 => ix a1 48 (fun v28 => o1 (f_X10_assign N M26 (55, v27, v28) (14, 0, 0)) (fun M30 => J126 M30))))))))))
def f_X4_joinDirectory_L28 (N : Nat) (a1 : Int32) (J63 : gM → Option gM) : Nat → Int32 → gM → Option gM
  | 0, _, _ => none
  | n33 + 1, x31, M32 => lt (M32 (1, 0, 0) 3) (fun v34 => (if v34 < x31 then J63 M32 else rd M32 (2, 0, 0) 48 x31 (fun v36 => jn (fun (M37 : gM) => lt (x31 + 1) (fun x38 => f_X4_joinDirectory_L28 N a1 J63 n33 x38 M37)) (fun J57 => (if v36 = a1 then o1 (f_X4_joinEntry N M32 x31) (fun M41 => J57 M41) else J57 M32)))))
def f_X4_joinDirectory (N : Nat) (M : gM) (a1 : Int32) : Option gM :=
  o1 (f_X4_allHold N M a1) (fun v2 => jn (fun (M3 : gM) => lt ((a1 + (1 : Int32))) (fun x4 => jn (fun (M5 : gM) => o1 (f_X4_raiseToAll N M5 a1) (fun M7 => jn (fun (M8 : gM) => lt (M8 (13, 0, 0) 6) (fun v9 => o1 (f_X6_countAll N M8 v9 a1) (fun M11 => lt (M11 (13, 0, 0) 6) (fun v12 => o1 (f_X4_noteChange N M11 v12 a1) (fun M14 => some M14))))) (fun J132 => f_X4_joinDirectory_L70 N a1 J132 100 (0 : Int32) M7))) (fun J63 => f_X4_joinDirectory_L28 N a1 J63 100 x4 M3))) (fun J24 => (if v2 = 0 then J24 M else lt (M (13, 0, 0) 6) (fun v43 => o1 (f_X6_areAlike N M v43 a1) (fun v45 => (if v45 = 0 then J24 M else some M))))))
set_option maxHeartbeats 4000000 in
set_option maxRecDepth 100000 in
theorem t_X4_joinDirectory (l : Launch) (N : Nat) (D : va_G) (dA : Nat → ClassId) (A : gI → Nat) (hJ : gJ (cLive N) A) {M : gM} {a1 : Int32}  {y : gM} (h : f_X4_joinDirectory N M a1 = some y) : cMv l yX4_joinDirectory wmX4_joinDirectory ({ frames := 5, cells := 0, slots := 0, locals := 114 } : Room) N D dA A [.ref (A (13, 0, 0)), .int a1] M y := by
  refine Met.ofW (cc := cX4_joinDirectory) (maxL := 3) (ret := none) (by decide) rfl ?_
  intro p e s m args below meth c s₁ B hml hv
  obtain ⟨rfl, hP, hK, hN⟩ := hv
  generalize hargs : ([.ref (A (13, 0, 0)), .int a1] : List Value).toArray = args at B ⊢
  have S : CallFix p m c cX4_joinDirectory 3 s args wmX4_joinDirectory RX4 := ⟨B.exec, B.bytes, hml, findClass_of_methodNamed B.named, atoms_spec (ws := wmX4_joinDirectory) B.pre⟩
  obtain ⟨hx, hb, -, hown, hts⟩ := id S
  have hr := B.returns
  have hlocks := B.notSynchronized
  have X : gX D vwCl dA (cLive N) A (gA (cLive N) A) s := ⟨hK, hJ, fun i hi => ⟨i, hi, rfl⟩⟩
  have Z : gZ D (cLay N) dA (cLive N) A (gA (cLive N) A) s.heap M s.heap [] := ⟨hP, va_S.rf⟩
  have hin_X0 : ∀ w ∈ wsX00, w ∈ wmX4_joinDirectory := cin_X0
  have hin_X4 : ∀ w ∈ wsX40, w ∈ wmX4_joinDirectory := cin_X4
  have hin_X7 : ∀ w ∈ wsX70, w ∈ wmX4_joinDirectory := cin_X7
  have hin_X8 : ∀ w ∈ wsX80, w ∈ wmX4_joinDirectory := cin_X8
  have hl_15 := hts (.fieldLink RX4 15 "ReplicaFiles$Meeting" "replicas" "LReplicaFiles$Replicas;") (cBc 323 rfl)
  have hl_25 := hts (.fieldLink RX4 25 "ReplicaFiles$Meeting" "catalog" "LReplicaFiles$Catalog;") (cBc 324 rfl)
  have hl_30 := hts (.fieldLink RX4 30 "ReplicaFiles$Meeting" "servers" "[LReplicaFiles$Server;") (cBc 325 rfl)
  have hl_40 := hts (.fieldLink RX4 40 "ReplicaFiles$Meeting" "greater" "[I") (cBc 329 rfl)
  have hl_44 := hts (.fieldLink RX4 44 "ReplicaFiles$Meeting" "group" "I") (cBc 333 rfl)
  have hl_51 := va_Nw.use (A := args) rfl (hN.1 ("ReplicaFiles$Meeting", 51, "ReplicaFiles$Catalog", "made", "I", "ReplicaFiles") (by decide +kernel))
  have hl_74 := va_Nw.use (A := args) rfl (hN.1 ("ReplicaFiles$Meeting", 74, "ReplicaFiles$Server", "tree", "LReplicaFiles$Tree;", "ReplicaFiles") (by decide +kernel))
  have hl_104 := va_Nw.use (A := args) rfl (hN.1 ("ReplicaFiles$Meeting", 104, "ReplicaFiles$Catalog", "parent", "[I", "ReplicaFiles") (by decide +kernel))
  have hl_130 := va_Nw.use (A := args) rfl (hN.1 ("ReplicaFiles$Meeting", 130, "ReplicaFiles$Tree", "counts", "[[I", "ReplicaFiles") (by decide +kernel))
  have hl_177 := va_Nw.use (A := args) rfl (hN.1 ("ReplicaFiles$Meeting", 177, "ReplicaFiles$Tree", "held", "[Z", "ReplicaFiles") (by decide +kernel))
  have hl := lv_entry ([.ref (A (13, 0, 0)), .int a1]) (n := 3) (Nat.le_of_ble_eq_true rfl)
  rw [← hargs, lg_entry_eq, hargs]
  generalize (lg_sl ([.ref (A (13, 0, 0)), .int a1]) ++ List.replicate (3 - (lg_sl ([.ref (A (13, 0, 0)), .int a1])).length) Slot.unset).toArray = ls at hl ⊢
  have hl : lv_has ls 3 [(0, .ref (A (13, 0, 0))), (1, .int a1)] := hl
  unfold f_X4_joinDirectory at h
  refine lv_aload_n hx hb dX4_joinDirectory_0 rfl (lv_at hl 0 rfl) ?_
  refine lv_iload_n hx hb dX4_joinDirectory_1 rfl (lv_at hl 1 rfl) ?_
  obtain ⟨v2, hc1, h⟩ := o1_e h
  refine c_i X Z (c_V (i := (13, 0, 0)) (As := [.int a1]) (rest := []) S X hN Z (cl_one N 13 (by decide)) rfl rfl (t_X4_allHold l N D dA A hJ  hc1) (cwV 1 hts (cGV (cB 396 rfl) (cB 397 rfl) (cB 398 rfl) (cB 341 rfl) (cB 375 rfl)) rfl rfl rfl (by decide +kernel) ⟨Nat.le_of_ble_eq_true rfl, Nat.le_of_ble_eq_true rfl⟩) rfl hl.1 rfl (Nat.le_of_ble_eq_true rfl) dX4_joinDirectory_2 ⟨Nat.zero_le _, Nat.zero_le _⟩) (fun H locs Z => ?_)
  obtain ⟨J24, eJ24, h⟩ := jn_e h
  have hJ24 : ∀ (M3 : gM) (H : Heap) (locs : List Loc) (ls : Array Slot), gZ D (cLay N) dA (cLive N) A (gA (cLive N) A) s.heap M3 H locs → lv_has ls 3 [(0, .ref (A (13, 0, 0))), (1, .int a1)] → J24 M3 = some y → W p l e (headSpec wmX4_joinDirectory ({ frames := 5, cells := 0, slots := 0, locals := 114 } : Room)).room s m args below meth c H locs 0 0 (MQ below (cQv N D dA A y) args s 0 0 (gA (cLive N) A)) (F0 m 24 ls []) := by
    intro M3 H locs ls Z hl h
    rw [eJ24] at h
    try dsimp only at h
    refine lv_iload_n hx hb dX4_joinDirectory_24 rfl (lv_at hl 1 rfl) ?_
    refine lv_iconst (v := (1 : Int32)) hx hb dX4_joinDirectory_25 (by decide) ?_
    refine lv_iadd hx hb dX4_joinDirectory_26 ?_
    refine g_topi h (fun x4 h => ?_)
    refine lv_istore_n (lv' := [(2, .int x4), (0, .ref (A (13, 0, 0))), (1, .int a1)]) hx hb dX4_joinDirectory_27 rfl hl (by decide) rfl (fun ls hl => ?_)
    obtain ⟨J63, eJ63, h⟩ := jn_e h
    have hJ63 : ∀ (M5 : gM) (H : Heap) (locs : List Loc) (ls : Array Slot), gZ D (cLay N) dA (cLive N) A (gA (cLive N) A) s.heap M5 H locs → lv_has ls 3 [(0, .ref (A (13, 0, 0))), (1, .int a1)] → J63 M5 = some y → W p l e (headSpec wmX4_joinDirectory ({ frames := 5, cells := 0, slots := 0, locals := 114 } : Room)).room s m args below meth c H locs 0 0 (MQ below (cQv N D dA A y) args s 0 0 (gA (cLive N) A)) (F0 m 63 ls []) := by
      intro M5 H locs ls Z hl h
      rw [eJ63] at h
      try dsimp only at h
      refine lv_aload_n hx hb dX4_joinDirectory_63 rfl (lv_at hl 0 rfl) ?_
      refine lv_iload_n hx hb dX4_joinDirectory_64 rfl (lv_at hl 1 rfl) ?_
      obtain ⟨M7, hc6, h⟩ := o1_e h
      refine c_v X Z (c_V (i := (13, 0, 0)) (As := [.int a1]) (rest := []) S X hN Z (cl_one N 13 (by decide)) rfl rfl (t_X4_raiseToAll l N D dA A hJ  hc6) (cwV 1 hts (cGV (cB 405 rfl) (cB 406 rfl) (cB 407 rfl) (cB 341 rfl) (cB 395 rfl)) rfl rfl rfl (by decide +kernel) ⟨Nat.le_of_ble_eq_true rfl, Nat.le_of_ble_eq_true rfl⟩) rfl hl.1 rfl (Nat.le_of_ble_eq_true rfl) dX4_joinDirectory_65 ⟨Nat.zero_le _, Nat.zero_le _⟩) (fun H locs Z => ?_)
      refine lv_iconst (v := (0 : Int32)) hx hb dX4_joinDirectory_68 (by decide) ?_
      refine lv_istore_n (lv' := [(2, .int (0 : Int32)), (0, .ref (A (13, 0, 0))), (1, .int a1)]) hx hb dX4_joinDirectory_69 rfl hl (by decide) rfl (fun ls hl => ?_)
      obtain ⟨J132, eJ132, h⟩ := jn_e h
      have hJ132 : ∀ (M8 : gM) (H : Heap) (locs : List Loc) (ls : Array Slot), gZ D (cLay N) dA (cLive N) A (gA (cLive N) A) s.heap M8 H locs → lv_has ls 3 [(0, .ref (A (13, 0, 0))), (1, .int a1)] → J132 M8 = some y → W p l e (headSpec wmX4_joinDirectory ({ frames := 5, cells := 0, slots := 0, locals := 114 } : Room)).room s m args below meth c H locs 0 0 (MQ below (cQv N D dA A y) args s 0 0 (gA (cLive N) A)) (F0 m 132 ls []) := by
        intro M8 H locs ls Z hl h
        rw [eJ132] at h
        try dsimp only at h
        refine lv_aload_n hx hb dX4_joinDirectory_132 rfl (lv_at hl 0 rfl) ?_
        refine cr_X4_replicas S X Z hin_X4 (cl_one N 13 (by decide)) hl_15 dX4_joinDirectory_133 ?_
        refine lv_aload_n hx hb dX4_joinDirectory_136 rfl (lv_at hl 0 rfl) ?_
        refine cr_X4_group S X Z hin_X4 (cl_one N 13 (by decide)) hl_44 dX4_joinDirectory_137 h (fun v9 h => ?_)
        refine lv_iload_n hx hb dX4_joinDirectory_140 rfl (lv_at hl 1 rfl) ?_
        obtain ⟨M11, hc10, h⟩ := o1_e h
        refine c_v X Z (c_V (i := (10, 0, 0)) (As := [.int v9, .int a1]) (rest := []) S X hN Z (cl_one N 10 (by decide)) rfl rfl (t_X6_countAll l N D dA A hJ  hc10) (cwV 2 hts (cGV (cB 362 rfl) (cB 216 rfl) (cB 217 rfl) (cB 203 rfl) (cB 199 rfl)) rfl rfl rfl (by decide +kernel) ⟨Nat.le_of_ble_eq_true rfl, Nat.le_of_ble_eq_true rfl⟩) rfl hl.1 rfl (Nat.le_of_ble_eq_true rfl) dX4_joinDirectory_141 ⟨Nat.zero_le _, Nat.zero_le _⟩) (fun H locs Z => ?_)
        refine lv_aload_n hx hb dX4_joinDirectory_144 rfl (lv_at hl 0 rfl) ?_
        refine lv_aload_n hx hb dX4_joinDirectory_145 rfl (lv_at hl 0 rfl) ?_
        refine cr_X4_group S X Z hin_X4 (cl_one N 13 (by decide)) hl_44 dX4_joinDirectory_146 h (fun v12 h => ?_)
        refine lv_iload_n hx hb dX4_joinDirectory_149 rfl (lv_at hl 1 rfl) ?_
        obtain ⟨M14, hc13, h⟩ := o1_e h
        refine c_v X Z (c_V (i := (13, 0, 0)) (As := [.int v12, .int a1]) (rest := []) S X hN Z (cl_one N 13 (by decide)) rfl rfl (t_X4_noteChange l N D dA A hJ  hc13) (cwV 2 hts (cGV (cB 357 rfl) (cB 358 rfl) (cB 359 rfl) (cB 341 rfl) (cB 350 rfl)) rfl rfl rfl (by decide +kernel) ⟨Nat.le_of_ble_eq_true rfl, Nat.le_of_ble_eq_true rfl⟩) rfl hl.1 rfl (Nat.le_of_ble_eq_true rfl) dX4_joinDirectory_150 ⟨Nat.zero_le _, Nat.zero_le _⟩) (fun H locs Z => ?_)
        have hy := Option.some.inj h
        subst hy
        exact g_rv S Z hr hlocks dX4_joinDirectory_153
      have hL70 : ∀ (n : Nat) (x15 : Int32) (M16 : gM) (H : Heap) (locs : List Loc) (ls : Array Slot), gZ D (cLay N) dA (cLive N) A (gA (cLive N) A) s.heap M16 H locs → lv_has ls 3 [(0, .ref (A (13, 0, 0))), (1, .int a1), (2, .int x15)] → f_X4_joinDirectory_L70 N a1 J132 n x15 M16 = some y → W p l e (headSpec wmX4_joinDirectory ({ frames := 5, cells := 0, slots := 0, locals := 114 } : Room)).room s m args below meth c H locs 0 0 (MQ below (cQv N D dA A y) args s 0 0 (gA (cLive N) A)) (F0 m 70 ls []) := by
        intro n
        induction n with
        | zero =>
          intro x15 M16 H locs ls Z hl h
          rw [f_X4_joinDirectory_L70] at h
          cases h
        | succ n17 ih70 =>
          intro x15 M16 H locs ls Z hl h
          rw [f_X4_joinDirectory_L70] at h
          refine lv_iload_n hx hb dX4_joinDirectory_70 rfl (lv_at hl 2 rfl) ?_
          refine lv_aload_n hx hb dX4_joinDirectory_71 rfl (lv_at hl 0 rfl) ?_
          refine cr_X4_servers S X Z hin_X4 (cl_one N 13 (by decide)) hl_30 dX4_joinDirectory_72 ?_
          refine g_alR (i := (7, 0, 0)) (ca := 2) rfl S X Z (cl_one N 7 (by decide)) rfl dX4_joinDirectory_75 ?_
          refine lv_icmp_ge (tgt := 132) hx hb dX4_joinDirectory_76 (by decide) (fun c18 => ?_) (fun c18 => ?_)
          · have h := if_t c18 h
            exact hJ132 M16 _ _ _ Z (lv_sub hl [0, 1] rfl) h
          · have h := if_f c18 h
            refine lv_aload_n hx hb dX4_joinDirectory_79 rfl (lv_at hl 0 rfl) ?_
            refine cr_X4_group S X Z hin_X4 (cl_one N 13 (by decide)) hl_44 dX4_joinDirectory_80 h (fun v19 h => ?_)
            refine lv_iload_n hx hb dX4_joinDirectory_83 rfl (lv_at hl 2 rfl) ?_
            obtain ⟨v21, hc20, h⟩ := o1_e h
            refine c_i X Z (c_SN (As := [.int v19, .int x15]) (rest := []) S X hN Z (t_X10_isIn l N D dA A hJ  hc20) ⟨va_cnB 2 hts (cG (cB 175 rfl)) rfl rfl rfl (hN.2 ("ReplicaFiles$Meeting", 113, yX10_isIn, "ReplicaFiles") (by decide +kernel)) (hts (.initialized RX10) (cBc 107 rfl)) (by decide +kernel) ⟨Nat.le_of_ble_eq_true rfl, Nat.le_of_ble_eq_true rfl⟩, hts (.static yX10_isIn) (cBc 178 rfl), trivial⟩ rfl hl.1 rfl (Nat.le_of_ble_eq_true rfl) dX4_joinDirectory_84 ⟨Nat.zero_le _, Nat.zero_le _⟩) (fun H locs Z => ?_)
            obtain ⟨J126, eJ126, h⟩ := jn_e h
            have hJ126 : ∀ (M22 : gM) (H : Heap) (locs : List Loc) (ls : Array Slot), gZ D (cLay N) dA (cLive N) A (gA (cLive N) A) s.heap M22 H locs → lv_has ls 3 [(0, .ref (A (13, 0, 0))), (1, .int a1), (2, .int x15)] → J126 M22 = some y → W p l e (headSpec wmX4_joinDirectory ({ frames := 5, cells := 0, slots := 0, locals := 114 } : Room)).room s m args below meth c H locs 0 0 (MQ below (cQv N D dA A y) args s 0 0 (gA (cLive N) A)) (F0 m 126 ls []) := by
              intro M22 H locs ls Z hl h
              rw [eJ126] at h
              try dsimp only at h
              obtain ⟨x23, ex23, h⟩ := lt_e h
              refine lv_iinc (v := x23) (lv' := [(2, .int x23), (0, .ref (A (13, 0, 0))), (1, .int a1)]) hx hb dX4_joinDirectory_126 hl (k := 2) rfl (by rw [ex23]; rfl) (by decide) rfl (fun ls hl => ?_)
              refine lv_goto (tgt := 70) hx hb dX4_joinDirectory_129 (by decide) ?_
              exact ih70 x23 M22 _ _ _ Z (lv_sub hl [1, 2, 0] rfl) h
            refine lv_if_eq (tgt := 126) hx hb dX4_joinDirectory_87 (by decide) (fun c24 => ?_) (fun c24 => ?_)
            · have h := if_t c24 h
              exact hJ126 M16 _ _ _ Z (lv_sub hl [0, 1, 2] rfl) h
            · have h := if_f c24 h
              refine lv_aload_n hx hb dX4_joinDirectory_90 rfl (lv_at hl 0 rfl) ?_
              refine cr_X4_servers S X Z hin_X4 (cl_one N 13 (by decide)) hl_30 dX4_joinDirectory_91 ?_
              refine lv_iload_n hx hb dX4_joinDirectory_94 rfl (lv_at hl 2 rfl) ?_
              refine g_aald (i := (7, 0, 0)) (ca := 2) ⟨rfl, rfl⟩ S X Z (cl_one N 7 (by decide)) rfl dX4_joinDirectory_95 h (fun v25 hv25 h => ?_)
              refine cn_X7_tree (a := v25) S X Z hin_X7 (cl_srv hv25) hl_74 dX4_joinDirectory_96 ?_
              refine cn_X8_held (a := v25) S X Z hin_X8 (cl_st (cl_srv hv25)) hl_177 dX4_joinDirectory_99 ?_
              refine lv_iload_n hx hb dX4_joinDirectory_102 rfl (lv_at hl 1 rfl) ?_
              refine lv_iconst (v := (1 : Int32)) hx hb dX4_joinDirectory_103 (by decide) ?_
              refine g_zast (i := (51, v25, 0)) (n := 48) S X Z (cl_X8_held (cl_st (cl_srv hv25))) rfl dX4_joinDirectory_104 h (fun M26 H locs Z h => ?_)
              refine lv_aload_n hx hb dX4_joinDirectory_105 rfl (lv_at hl 0 rfl) ?_
              refine cr_X4_servers S X Z hin_X4 (cl_one N 13 (by decide)) hl_30 dX4_joinDirectory_106 ?_
              refine lv_iload_n hx hb dX4_joinDirectory_109 rfl (lv_at hl 2 rfl) ?_
              refine g_aald (i := (7, 0, 0)) (ca := 2) ⟨rfl, rfl⟩ S X Z (cl_one N 7 (by decide)) rfl dX4_joinDirectory_110 h (fun v27 hv27 h => ?_)
              refine cn_X7_tree (a := v27) S X Z hin_X7 (cl_srv hv27) hl_74 dX4_joinDirectory_111 ?_
              refine cn_X8_counts (a := v27) S X Z hin_X8 (cl_st (cl_srv hv27)) hl_130 dX4_joinDirectory_114 ?_
              refine lv_iload_n hx hb dX4_joinDirectory_117 rfl (lv_at hl 1 rfl) ?_
              refine g_aald (i := (54, v27, 0)) (ca := 5) ⟨rfl, rfl⟩ S X Z (cl_X8_counts (cl_st (cl_srv hv27))) rfl dX4_joinDirectory_118 h (fun v28 hv28 h => ?_)
              refine lv_aload_n hx hb dX4_joinDirectory_119 rfl (lv_at hl 0 rfl) ?_
              refine cr_X4_greater S X Z hin_X4 (cl_one N 13 (by decide)) hl_40 dX4_joinDirectory_120 ?_
              obtain ⟨M30, hc29, h⟩ := o1_e h
              refine c_v X Z (c_SN (As := [.ref (A (55, v27, v28)), .ref (A (14, 0, 0))]) (rest := []) S X hN Z (t_X10_assign l N D dA A hJ ⟨(cl_55 (cl_X8_counts (cl_st (cl_srv hv27))) hv28), rfl⟩ ⟨(cl_one N 14 (by decide)), rfl⟩ hc29) ⟨va_cnB 2 hts (cG (cB 104 rfl)) rfl rfl rfl (hN.2 ("ReplicaFiles$Meeting", 180, yX10_assign, "ReplicaFiles") (by decide +kernel)) (hts (.initialized RX10) (cBc 107 rfl)) (by decide +kernel) ⟨Nat.le_of_ble_eq_true rfl, Nat.le_of_ble_eq_true rfl⟩, hts (.static yX10_assign) (cBc 106 rfl), trivial⟩ rfl hl.1 rfl (Nat.le_of_ble_eq_true rfl) dX4_joinDirectory_123 ⟨Nat.zero_le _, Nat.zero_le _⟩) (fun H locs Z => ?_)
              exact hJ126 M30 _ _ _ Z (lv_sub hl [0, 1, 2] rfl) h
      exact hL70 100 (0 : Int32) M7 _ _ _ Z (lv_sub hl [1, 2, 0] rfl) h
    have hL28 : ∀ (n : Nat) (x31 : Int32) (M32 : gM) (H : Heap) (locs : List Loc) (ls : Array Slot), gZ D (cLay N) dA (cLive N) A (gA (cLive N) A) s.heap M32 H locs → lv_has ls 3 [(0, .ref (A (13, 0, 0))), (1, .int a1), (2, .int x31)] → f_X4_joinDirectory_L28 N a1 J63 n x31 M32 = some y → W p l e (headSpec wmX4_joinDirectory ({ frames := 5, cells := 0, slots := 0, locals := 114 } : Room)).room s m args below meth c H locs 0 0 (MQ below (cQv N D dA A y) args s 0 0 (gA (cLive N) A)) (F0 m 28 ls []) := by
      intro n
      induction n with
      | zero =>
        intro x31 M32 H locs ls Z hl h
        rw [f_X4_joinDirectory_L28] at h
        cases h
      | succ n33 ih28 =>
        intro x31 M32 H locs ls Z hl h
        rw [f_X4_joinDirectory_L28] at h
        refine lv_iload_n hx hb dX4_joinDirectory_28 rfl (lv_at hl 2 rfl) ?_
        refine lv_aload_n hx hb dX4_joinDirectory_29 rfl (lv_at hl 0 rfl) ?_
        refine cr_X4_catalog S X Z hin_X4 (cl_one N 13 (by decide)) hl_25 dX4_joinDirectory_30 ?_
        refine cn_X0_made S X Z hin_X0 (cl_one N 1 (by decide)) hl_51 dX4_joinDirectory_33 h (fun v34 h => ?_)
        refine lv_icmp_gt (tgt := 63) hx hb dX4_joinDirectory_36 (by decide) (fun c35 => ?_) (fun c35 => ?_)
        · have h := if_t c35 h
          exact hJ63 M32 _ _ _ Z (lv_sub hl [0, 1] rfl) h
        · have h := if_f c35 h
          refine lv_aload_n hx hb dX4_joinDirectory_39 rfl (lv_at hl 0 rfl) ?_
          refine cr_X4_catalog S X Z hin_X4 (cl_one N 13 (by decide)) hl_25 dX4_joinDirectory_40 ?_
          refine cn_X0_parent S X Z hin_X0 (cl_one N 1 (by decide)) hl_104 dX4_joinDirectory_43 ?_
          refine lv_iload_n hx hb dX4_joinDirectory_46 rfl (lv_at hl 2 rfl) ?_
          refine g_iald (i := (2, 0, 0)) (n := 48) S X Z (cl_one N 2 (by decide)) rfl dX4_joinDirectory_47 h (fun v36 h => ?_)
          refine lv_iload_n hx hb dX4_joinDirectory_48 rfl (lv_at hl 1 rfl) ?_
          obtain ⟨J57, eJ57, h⟩ := jn_e h
          have hJ57 : ∀ (M37 : gM) (H : Heap) (locs : List Loc) (ls : Array Slot), gZ D (cLay N) dA (cLive N) A (gA (cLive N) A) s.heap M37 H locs → lv_has ls 3 [(0, .ref (A (13, 0, 0))), (1, .int a1), (2, .int x31)] → J57 M37 = some y → W p l e (headSpec wmX4_joinDirectory ({ frames := 5, cells := 0, slots := 0, locals := 114 } : Room)).room s m args below meth c H locs 0 0 (MQ below (cQv N D dA A y) args s 0 0 (gA (cLive N) A)) (F0 m 57 ls []) := by
            intro M37 H locs ls Z hl h
            rw [eJ57] at h
            try dsimp only at h
            obtain ⟨x38, ex38, h⟩ := lt_e h
            refine lv_iinc (v := x38) (lv' := [(2, .int x38), (0, .ref (A (13, 0, 0))), (1, .int a1)]) hx hb dX4_joinDirectory_57 hl (k := 2) rfl (by rw [ex38]; rfl) (by decide) rfl (fun ls hl => ?_)
            refine lv_goto (tgt := 28) hx hb dX4_joinDirectory_60 (by decide) ?_
            exact ih28 x38 M37 _ _ _ Z (lv_sub hl [1, 2, 0] rfl) h
          refine lv_icmp_ne (tgt := 57) hx hb dX4_joinDirectory_49 (by decide) (fun c39 => ?_) (fun c39 => ?_)
          · have h := if_f c39 h
            exact hJ57 M32 _ _ _ Z (lv_sub hl [0, 1, 2] rfl) h
          · have h := if_t c39 h
            refine lv_aload_n hx hb dX4_joinDirectory_52 rfl (lv_at hl 0 rfl) ?_
            refine lv_iload_n hx hb dX4_joinDirectory_53 rfl (lv_at hl 2 rfl) ?_
            obtain ⟨M41, hc40, h⟩ := o1_e h
            refine c_v X Z (c_V (i := (13, 0, 0)) (As := [.int x31]) (rest := []) S X hN Z (cl_one N 13 (by decide)) rfl rfl (t_X4_joinEntry l N D dA A hJ  hc40) (cwV 1 hts (cGV (cB 402 rfl) (cB 403 rfl) (cB 404 rfl) (cB 341 rfl) (cB 394 rfl)) rfl rfl rfl (by decide +kernel) ⟨Nat.le_of_ble_eq_true rfl, Nat.le_of_ble_eq_true rfl⟩) rfl hl.1 rfl (Nat.le_of_ble_eq_true rfl) dX4_joinDirectory_54 ⟨Nat.zero_le _, Nat.zero_le _⟩) (fun H locs Z => ?_)
            exact hJ57 M41 _ _ _ Z (lv_sub hl [0, 1, 2] rfl) h
    exact hL28 100 x4 M3 _ _ _ Z (lv_sub hl [1, 2, 0] rfl) h
  refine lv_if_eq (tgt := 24) hx hb dX4_joinDirectory_5 (by decide) (fun c42 => ?_) (fun c42 => ?_)
  · have h := if_t c42 h
    exact hJ24 M _ _ _ Z (lv_sub hl [0, 1] rfl) h
  · have h := if_f c42 h
    refine lv_aload_n hx hb dX4_joinDirectory_8 rfl (lv_at hl 0 rfl) ?_
    refine cr_X4_replicas S X Z hin_X4 (cl_one N 13 (by decide)) hl_15 dX4_joinDirectory_9 ?_
    refine lv_aload_n hx hb dX4_joinDirectory_12 rfl (lv_at hl 0 rfl) ?_
    refine cr_X4_group S X Z hin_X4 (cl_one N 13 (by decide)) hl_44 dX4_joinDirectory_13 h (fun v43 h => ?_)
    refine lv_iload_n hx hb dX4_joinDirectory_16 rfl (lv_at hl 1 rfl) ?_
    obtain ⟨v45, hc44, h⟩ := o1_e h
    refine c_i X Z (c_V (i := (10, 0, 0)) (As := [.int v43, .int a1]) (rest := []) S X hN Z (cl_one N 10 (by decide)) rfl rfl (t_X6_areAlike l N D dA A hJ  hc44) (cwV 2 hts (cGV (cB 399 rfl) (cB 400 rfl) (cB 401 rfl) (cB 203 rfl) (cB 393 rfl)) rfl rfl rfl (by decide +kernel) ⟨Nat.le_of_ble_eq_true rfl, Nat.le_of_ble_eq_true rfl⟩) rfl hl.1 rfl (Nat.le_of_ble_eq_true rfl) dX4_joinDirectory_17 ⟨Nat.zero_le _, Nat.zero_le _⟩) (fun H locs Z => ?_)
    refine lv_if_eq (tgt := 24) hx hb dX4_joinDirectory_20 (by decide) (fun c46 => ?_) (fun c46 => ?_)
    · have h := if_t c46 h
      exact hJ24 M _ _ _ Z (lv_sub hl [0, 1] rfl) h
    · have h := if_f c46 h
      have hy := Option.some.inj h
      subst hy
      exact g_rv S Z hr hlocks dX4_joinDirectory_23
-- X9_addOnce (II[I)V: 22 instructions
theorem dX9_addOnce_0 : decode cX9_addOnce 0 = .ok (.iconst 0, 1) := by decide +kernel
theorem dX9_addOnce_1 : decode cX9_addOnce 1 = .ok (.istore 4, 2) := by decide +kernel
theorem dX9_addOnce_3 : decode cX9_addOnce 3 = .ok (.iload 4, 2) := by decide +kernel
theorem dX9_addOnce_5 : decode cX9_addOnce 5 = .ok (.aload_n 0, 1) := by decide +kernel
theorem dX9_addOnce_6 : decode cX9_addOnce 6 = .ok (.getfield 21, 3) := by decide +kernel
theorem dX9_addOnce_9 : decode cX9_addOnce 9 = .ok (.if_icmp .ge 22, 3) := by decide +kernel
theorem dX9_addOnce_12 : decode cX9_addOnce 12 = .ok (.aload_n 0, 1) := by decide +kernel
theorem dX9_addOnce_13 : decode cX9_addOnce 13 = .ok (.iload 4, 2) := by decide +kernel
theorem dX9_addOnce_15 : decode cX9_addOnce 15 = .ok (.iload_n 1, 1) := by decide +kernel
theorem dX9_addOnce_16 : decode cX9_addOnce 16 = .ok (.iload_n 2, 1) := by decide +kernel
theorem dX9_addOnce_17 : decode cX9_addOnce 17 = .ok (.aload_n 3, 1) := by decide +kernel
theorem dX9_addOnce_18 : decode cX9_addOnce 18 = .ok (.invokevirtual 35, 3) := by decide +kernel
theorem dX9_addOnce_21 : decode cX9_addOnce 21 = .ok (.ifCond .eq 4, 3) := by decide +kernel
theorem dX9_addOnce_24 : decode cX9_addOnce 24 = .ok (.return_, 1) := by decide +kernel
theorem dX9_addOnce_25 : decode cX9_addOnce 25 = .ok (.iinc 4 1, 3) := by decide +kernel
theorem dX9_addOnce_28 : decode cX9_addOnce 28 = .ok (.goto (-25), 3) := by decide +kernel
theorem dX9_addOnce_31 : decode cX9_addOnce 31 = .ok (.aload_n 0, 1) := by decide +kernel
theorem dX9_addOnce_32 : decode cX9_addOnce 32 = .ok (.iload_n 1, 1) := by decide +kernel
theorem dX9_addOnce_33 : decode cX9_addOnce 33 = .ok (.iload_n 2, 1) := by decide +kernel
theorem dX9_addOnce_34 : decode cX9_addOnce 34 = .ok (.aload_n 3, 1) := by decide +kernel
theorem dX9_addOnce_35 : decode cX9_addOnce 35 = .ok (.invokevirtual 39, 3) := by decide +kernel
theorem dX9_addOnce_38 : decode cX9_addOnce 38 = .ok (.return_, 1) := by decide +kernel
abbrev wmX9_addOnce : List Cond := .code yX9_addOnce cX9_addOnce 5 none :: cBig
def f_X9_addOnce_L3 (N : Nat) (i0 : Nat) (a1 : Int32) (a2 : Int32) (a3 : gI) (J31 : gM → Option gM) : Nat → Int32 → gM → Option gM
  | 0, _, _ => none
  | n6 + 1, x4, M5 => lt (M5 (60, i0, 0) 3) (fun v7 => (if v7 ≤ x4 then J31 M5 else o1 (f_X9_isAt N M5 i0 x4 a1 a2 a3) (fun v10 => (if v10 = 0 then lt (x4 + 1) (fun x12 => f_X9_addOnce_L3 N i0 a1 a2 a3 J31 n6 x12 M5) else some M5))))
def f_X9_addOnce (N : Nat) (M : gM) (i0 : Nat) (a1 : Int32) (a2 : Int32) (a3 : gI) : Option gM :=
  jn (fun (M1 : gM) => o1 (f_X9_add N M1 i0 a1 a2 a3) (fun M3 => some M3)) (fun J31 => f_X9_addOnce_L3 N i0 a1 a2 a3 J31 100 (0 : Int32) M)
set_option maxHeartbeats 4000000 in
set_option maxRecDepth 100000 in
theorem t_X9_addOnce (l : Launch) (N : Nat) (D : va_G) (dA : Nat → ClassId) (A : gI → Nat) (hJ : gJ (cLive N) A) {M : gM} {i0 : Nat} {a1 : Int32} {a2 : Int32} {a3 : gI} (hi0 : cLive N (60, i0, 0)) (ha3 : cArr N a3) {y : gM} (h : f_X9_addOnce N M i0 a1 a2 a3 = some y) : cMv l yX9_addOnce wmX9_addOnce ({ frames := 2, cells := 0, slots := 0, locals := 46 } : Room) N D dA A [.ref (A (60, i0, 0)), .int a1, .int a2, .ref (A a3)] M y := by
  refine Met.ofW (cc := cX9_addOnce) (maxL := 5) (ret := none) (by decide) rfl ?_
  intro p e s m args below meth c s₁ B hml hv
  obtain ⟨rfl, hP, hK, hN⟩ := hv
  generalize hargs : ([.ref (A (60, i0, 0)), .int a1, .int a2, .ref (A a3)] : List Value).toArray = args at B ⊢
  have S : CallFix p m c cX9_addOnce 5 s args wmX9_addOnce RX9 := ⟨B.exec, B.bytes, hml, findClass_of_methodNamed B.named, atoms_spec (ws := wmX9_addOnce) B.pre⟩
  obtain ⟨hx, hb, -, hown, hts⟩ := id S
  have hr := B.returns
  have hlocks := B.notSynchronized
  have X : gX D vwCl dA (cLive N) A (gA (cLive N) A) s := ⟨hK, hJ, fun i hi => ⟨i, hi, rfl⟩⟩
  have Z : gZ D (cLay N) dA (cLive N) A (gA (cLive N) A) s.heap M s.heap [] := ⟨hP, va_S.rf⟩
  have hin_X9 : ∀ w ∈ wsX90, w ∈ wmX9_addOnce := cin_X9
  have hl_21 := hts (.fieldLink RX9 21 "ReplicaFiles$Versions" "length" "I") (cBc 183 rfl)
  have hl := lv_entry ([.ref (A (60, i0, 0)), .int a1, .int a2, .ref (A a3)]) (n := 5) (Nat.le_of_ble_eq_true rfl)
  rw [← hargs, lg_entry_eq, hargs]
  generalize (lg_sl ([.ref (A (60, i0, 0)), .int a1, .int a2, .ref (A a3)]) ++ List.replicate (5 - (lg_sl ([.ref (A (60, i0, 0)), .int a1, .int a2, .ref (A a3)])).length) Slot.unset).toArray = ls at hl ⊢
  have hl : lv_has ls 5 [(0, .ref (A (60, i0, 0))), (1, .int a1), (2, .int a2), (3, .ref (A a3))] := hl
  unfold f_X9_addOnce at h
  refine lv_iconst (v := (0 : Int32)) hx hb dX9_addOnce_0 (by decide) ?_
  refine lv_istore (lv' := [(4, .int (0 : Int32)), (0, .ref (A (60, i0, 0))), (1, .int a1), (2, .int a2), (3, .ref (A a3))]) hx hb dX9_addOnce_1 hl (by decide) rfl (fun ls hl => ?_)
  obtain ⟨J31, eJ31, h⟩ := jn_e h
  have hJ31 : ∀ (M1 : gM) (H : Heap) (locs : List Loc) (ls : Array Slot), gZ D (cLay N) dA (cLive N) A (gA (cLive N) A) s.heap M1 H locs → lv_has ls 5 [(0, .ref (A (60, i0, 0))), (1, .int a1), (2, .int a2), (3, .ref (A a3))] → J31 M1 = some y → W p l e (headSpec wmX9_addOnce ({ frames := 2, cells := 0, slots := 0, locals := 46 } : Room)).room s m args below meth c H locs 0 0 (MQ below (cQv N D dA A y) args s 0 0 (gA (cLive N) A)) (F0 m 31 ls []) := by
    intro M1 H locs ls Z hl h
    rw [eJ31] at h
    try dsimp only at h
    refine lv_aload_n hx hb dX9_addOnce_31 rfl (lv_at hl 0 rfl) ?_
    refine lv_iload_n hx hb dX9_addOnce_32 rfl (lv_at hl 1 rfl) ?_
    refine lv_iload_n hx hb dX9_addOnce_33 rfl (lv_at hl 2 rfl) ?_
    refine lv_aload_n hx hb dX9_addOnce_34 rfl (lv_at hl 3 rfl) ?_
    obtain ⟨M3, hc2, h⟩ := o1_e h
    refine c_v X Z (c_V (i := (60, i0, 0)) (As := [.int a1, .int a2, .ref (A a3)]) (rest := []) S X hN Z hi0 rfl rfl (t_X9_add l N D dA A hJ hi0 ha3 hc2) (cwV 3 hts (cGV (cB 410 rfl) (cB 212 rfl) (cB 213 rfl) (cB 191 rfl) (cB 185 rfl)) rfl rfl rfl (by decide +kernel) ⟨Nat.le_of_ble_eq_true rfl, Nat.le_of_ble_eq_true rfl⟩) rfl hl.1 rfl (Nat.le_of_ble_eq_true rfl) dX9_addOnce_35 ⟨Nat.zero_le _, Nat.zero_le _⟩) (fun H locs Z => ?_)
    have hy := Option.some.inj h
    subst hy
    exact g_rv S Z hr hlocks dX9_addOnce_38
  have hL3 : ∀ (n : Nat) (x4 : Int32) (M5 : gM) (H : Heap) (locs : List Loc) (ls : Array Slot), gZ D (cLay N) dA (cLive N) A (gA (cLive N) A) s.heap M5 H locs → lv_has ls 5 [(0, .ref (A (60, i0, 0))), (1, .int a1), (2, .int a2), (3, .ref (A a3)), (4, .int x4)] → f_X9_addOnce_L3 N i0 a1 a2 a3 J31 n x4 M5 = some y → W p l e (headSpec wmX9_addOnce ({ frames := 2, cells := 0, slots := 0, locals := 46 } : Room)).room s m args below meth c H locs 0 0 (MQ below (cQv N D dA A y) args s 0 0 (gA (cLive N) A)) (F0 m 3 ls []) := by
    intro n
    induction n with
    | zero =>
      intro x4 M5 H locs ls Z hl h
      rw [f_X9_addOnce_L3] at h
      cases h
    | succ n6 ih3 =>
      intro x4 M5 H locs ls Z hl h
      rw [f_X9_addOnce_L3] at h
      refine lv_iload hx hb dX9_addOnce_3 (lv_at hl 4 rfl) ?_
      refine lv_aload_n hx hb dX9_addOnce_5 rfl (lv_at hl 0 rfl) ?_
      refine cr_X9_length (a := i0) S X Z hin_X9 hi0 hl_21 dX9_addOnce_6 h (fun v7 h => ?_)
      refine lv_icmp_ge (tgt := 31) hx hb dX9_addOnce_9 (by decide) (fun c8 => ?_) (fun c8 => ?_)
      · have h := if_t c8 h
        exact hJ31 M5 _ _ _ Z (lv_sub hl [0, 1, 2, 3] rfl) h
      · have h := if_f c8 h
        refine lv_aload_n hx hb dX9_addOnce_12 rfl (lv_at hl 0 rfl) ?_
        refine lv_iload hx hb dX9_addOnce_13 (lv_at hl 4 rfl) ?_
        refine lv_iload_n hx hb dX9_addOnce_15 rfl (lv_at hl 1 rfl) ?_
        refine lv_iload_n hx hb dX9_addOnce_16 rfl (lv_at hl 2 rfl) ?_
        refine lv_aload_n hx hb dX9_addOnce_17 rfl (lv_at hl 3 rfl) ?_
        obtain ⟨v10, hc9, h⟩ := o1_e h
        refine c_i X Z (c_V (i := (60, i0, 0)) (As := [.int x4, .int a1, .int a2, .ref (A a3)]) (rest := []) S X hN Z hi0 rfl rfl (t_X9_isAt l N D dA A hJ hi0 ha3 hc9) (cwV 4 hts (cGV (cB 379 rfl) (cB 380 rfl) (cB 381 rfl) (cB 191 rfl) (cB 377 rfl)) rfl rfl rfl (by decide +kernel) ⟨Nat.le_of_ble_eq_true rfl, Nat.le_of_ble_eq_true rfl⟩) rfl hl.1 rfl (Nat.le_of_ble_eq_true rfl) dX9_addOnce_18 ⟨Nat.zero_le _, Nat.zero_le _⟩) (fun H locs Z => ?_)
        refine lv_if_eq (tgt := 25) hx hb dX9_addOnce_21 (by decide) (fun c11 => ?_) (fun c11 => ?_)
        · have h := if_t c11 h
          obtain ⟨x12, ex12, h⟩ := lt_e h
          refine lv_iinc (v := x12) (lv' := [(4, .int x12), (0, .ref (A (60, i0, 0))), (1, .int a1), (2, .int a2), (3, .ref (A a3))]) hx hb dX9_addOnce_25 hl (k := 4) rfl (by rw [ex12]; rfl) (by decide) rfl (fun ls hl => ?_)
          refine lv_goto (tgt := 3) hx hb dX9_addOnce_28 (by decide) ?_
          exact ih3 x12 M5 _ _ _ Z (lv_sub hl [1, 2, 3, 4, 0] rfl) h
        · have h := if_f c11 h
          have hy := Option.some.inj h
          subst hy
          exact g_rv S Z hr hlocks dX9_addOnce_24
  exact hL3 100 (0 : Int32) M _ _ _ Z (lv_sub hl [1, 2, 3, 4, 0] rfl) h
-- X9_isLesser (I)Z: 32 instructions
theorem dX9_isLesser_0 : decode cX9_isLesser 0 = .ok (.iconst 0, 1) := by decide +kernel
theorem dX9_isLesser_1 : decode cX9_isLesser 1 = .ok (.istore_n 2, 1) := by decide +kernel
theorem dX9_isLesser_2 : decode cX9_isLesser 2 = .ok (.iload_n 2, 1) := by decide +kernel
theorem dX9_isLesser_3 : decode cX9_isLesser 3 = .ok (.aload_n 0, 1) := by decide +kernel
theorem dX9_isLesser_4 : decode cX9_isLesser 4 = .ok (.getfield 21, 3) := by decide +kernel
theorem dX9_isLesser_7 : decode cX9_isLesser 7 = .ok (.if_icmp .ge 47, 3) := by decide +kernel
theorem dX9_isLesser_10 : decode cX9_isLesser 10 = .ok (.aload_n 0, 1) := by decide +kernel
theorem dX9_isLesser_11 : decode cX9_isLesser 11 = .ok (.getfield 18, 3) := by decide +kernel
theorem dX9_isLesser_14 : decode cX9_isLesser 14 = .ok (.iload_n 1, 1) := by decide +kernel
theorem dX9_isLesser_15 : decode cX9_isLesser 15 = .ok (.aaload, 1) := by decide +kernel
theorem dX9_isLesser_16 : decode cX9_isLesser 16 = .ok (.aload_n 0, 1) := by decide +kernel
theorem dX9_isLesser_17 : decode cX9_isLesser 17 = .ok (.getfield 18, 3) := by decide +kernel
theorem dX9_isLesser_20 : decode cX9_isLesser 20 = .ok (.iload_n 2, 1) := by decide +kernel
theorem dX9_isLesser_21 : decode cX9_isLesser 21 = .ok (.aaload, 1) := by decide +kernel
theorem dX9_isLesser_22 : decode cX9_isLesser 22 = .ok (.invokestatic 58, 3) := by decide +kernel
theorem dX9_isLesser_25 : decode cX9_isLesser 25 = .ok (.ifCond .eq 23, 3) := by decide +kernel
theorem dX9_isLesser_28 : decode cX9_isLesser 28 = .ok (.aload_n 0, 1) := by decide +kernel
theorem dX9_isLesser_29 : decode cX9_isLesser 29 = .ok (.getfield 18, 3) := by decide +kernel
theorem dX9_isLesser_32 : decode cX9_isLesser 32 = .ok (.iload_n 1, 1) := by decide +kernel
theorem dX9_isLesser_33 : decode cX9_isLesser 33 = .ok (.aaload, 1) := by decide +kernel
theorem dX9_isLesser_34 : decode cX9_isLesser 34 = .ok (.aload_n 0, 1) := by decide +kernel
theorem dX9_isLesser_35 : decode cX9_isLesser 35 = .ok (.getfield 18, 3) := by decide +kernel
theorem dX9_isLesser_38 : decode cX9_isLesser 38 = .ok (.iload_n 2, 1) := by decide +kernel
theorem dX9_isLesser_39 : decode cX9_isLesser 39 = .ok (.aaload, 1) := by decide +kernel
theorem dX9_isLesser_40 : decode cX9_isLesser 40 = .ok (.invokestatic 43, 3) := by decide +kernel
theorem dX9_isLesser_43 : decode cX9_isLesser 43 = .ok (.ifCond .ne 5, 3) := by decide +kernel
theorem dX9_isLesser_46 : decode cX9_isLesser 46 = .ok (.iconst 1, 1) := by decide +kernel
theorem dX9_isLesser_47 : decode cX9_isLesser 47 = .ok (.ireturn, 1) := by decide +kernel
theorem dX9_isLesser_48 : decode cX9_isLesser 48 = .ok (.iinc 2 1, 3) := by decide +kernel
theorem dX9_isLesser_51 : decode cX9_isLesser 51 = .ok (.goto (-49), 3) := by decide +kernel
theorem dX9_isLesser_54 : decode cX9_isLesser 54 = .ok (.iconst 0, 1) := by decide +kernel
theorem dX9_isLesser_55 : decode cX9_isLesser 55 = .ok (.ireturn, 1) := by decide +kernel
abbrev wmX9_isLesser : List Cond := .code yX9_isLesser cX9_isLesser 3 (some .boolean) :: cBig
def f_X9_isLesser_L2 (N : Nat) (M2 : gM) (i0 : Nat) (a1 : Int32) : Nat → Int32 → Option Int32
  | 0, _ => none
  | n3 + 1, x1 => lt (M2 (60, i0, 0) 3) (fun v4 => (if v4 ≤ x1 then some (0 : Int32) else ix a1 (cMost i0) (fun v6 => ix x1 (cMost i0) (fun v7 => o1 (f_X10_isAtMost N M2 (64, i0, v6) (64, i0, v7)) (fun v9 => jn (fun (_ : Unit) => lt (x1 + 1) (fun x10 => f_X9_isLesser_L2 N M2 i0 a1 n3 x10)) (fun J48 => (if v9 = 0 then J48 () else ix a1 (cMost i0) (fun v12 => ix x1 (cMost i0) (fun v13 => o1 (f_X10_isSame N M2 (64, i0, v12) (64, i0, v13)) (fun v15 => (if v15 = 0 then some (1 : Int32) else J48 ())))))))))))
def f_X9_isLesser (N : Nat) (M : gM) (i0 : Nat) (a1 : Int32) : Option Int32 :=
  f_X9_isLesser_L2 N M i0 a1 100 (0 : Int32)
set_option maxHeartbeats 4000000 in
set_option maxRecDepth 100000 in
theorem t_X9_isLesser (l : Launch) (N : Nat) (D : va_G) (dA : Nat → ClassId) (A : gI → Nat) (hJ : gJ (cLive N) A) {M : gM} {i0 : Nat} {a1 : Int32} (hi0 : cLive N (60, i0, 0)) {y : Int32} (h : f_X9_isLesser N M i0 a1 = some y) : cMi l yX9_isLesser wmX9_isLesser ({ frames := 1, cells := 0, slots := 0, locals := 22 } : Room) N D dA A [.ref (A (60, i0, 0)), .int a1] M y M := by
  refine Met.ofW (cc := cX9_isLesser) (maxL := 3) (ret := (some .boolean)) (by decide) rfl ?_
  intro p e s m args below meth c s₁ B hml hv
  obtain ⟨rfl, hP, hK, hN⟩ := hv
  generalize hargs : ([.ref (A (60, i0, 0)), .int a1] : List Value).toArray = args at B ⊢
  have S : CallFix p m c cX9_isLesser 3 s args wmX9_isLesser RX9 := ⟨B.exec, B.bytes, hml, findClass_of_methodNamed B.named, atoms_spec (ws := wmX9_isLesser) B.pre⟩
  obtain ⟨hx, hb, -, hown, hts⟩ := id S
  have hr := B.returns
  have hlocks := B.notSynchronized
  have X : gX D vwCl dA (cLive N) A (gA (cLive N) A) s := ⟨hK, hJ, fun i hi => ⟨i, hi, rfl⟩⟩
  have Z : gZ D (cLay N) dA (cLive N) A (gA (cLive N) A) s.heap M s.heap [] := ⟨hP, va_S.rf⟩
  have hin_X9 : ∀ w ∈ wsX90, w ∈ wmX9_isLesser := cin_X9
  have hl_18 := hts (.fieldLink RX9 18 "ReplicaFiles$Versions" "counts" "[[I") (cBc 187 rfl)
  have hl_21 := hts (.fieldLink RX9 21 "ReplicaFiles$Versions" "length" "I") (cBc 183 rfl)
  have hl := lv_entry ([.ref (A (60, i0, 0)), .int a1]) (n := 3) (Nat.le_of_ble_eq_true rfl)
  rw [← hargs, lg_entry_eq, hargs]
  generalize (lg_sl ([.ref (A (60, i0, 0)), .int a1]) ++ List.replicate (3 - (lg_sl ([.ref (A (60, i0, 0)), .int a1])).length) Slot.unset).toArray = ls at hl ⊢
  have hl : lv_has ls 3 [(0, .ref (A (60, i0, 0))), (1, .int a1)] := hl
  unfold f_X9_isLesser at h
  refine lv_iconst (v := (0 : Int32)) hx hb dX9_isLesser_0 (by decide) ?_
  refine lv_istore_n (lv' := [(2, .int (0 : Int32)), (0, .ref (A (60, i0, 0))), (1, .int a1)]) hx hb dX9_isLesser_1 rfl hl (by decide) rfl (fun ls hl => ?_)
  have hL2 : ∀ (n : Nat) (x1 : Int32) (H : Heap) (locs : List Loc) (ls : Array Slot), gZ D (cLay N) dA (cLive N) A (gA (cLive N) A) s.heap M H locs → lv_has ls 3 [(0, .ref (A (60, i0, 0))), (1, .int a1), (2, .int x1)] → f_X9_isLesser_L2 N M i0 a1 n x1 = some y → W p l e (headSpec wmX9_isLesser ({ frames := 1, cells := 0, slots := 0, locals := 22 } : Room)).room s m args below meth c H locs 0 0 (MQ below (cQi N D dA A (y, M)) args s 0 0 (gA (cLive N) A)) (F0 m 2 ls []) := by
    intro n
    induction n with
    | zero =>
      intro x1 H locs ls Z hl h
      rw [f_X9_isLesser_L2] at h
      cases h
    | succ n3 ih2 =>
      intro x1 H locs ls Z hl h
      rw [f_X9_isLesser_L2] at h
      refine lv_iload_n hx hb dX9_isLesser_2 rfl (lv_at hl 2 rfl) ?_
      refine lv_aload_n hx hb dX9_isLesser_3 rfl (lv_at hl 0 rfl) ?_
      refine cr_X9_length (a := i0) S X Z hin_X9 hi0 hl_21 dX9_isLesser_4 h (fun v4 h => ?_)
      refine lv_icmp_ge (tgt := 54) hx hb dX9_isLesser_7 (by decide) (fun c5 => ?_) (fun c5 => ?_)
      · have h := if_t c5 h
        refine lv_iconst (v := (0 : Int32)) hx hb dX9_isLesser_54 (by decide) ?_
        have hy := Option.some.inj h
        subst hy
        exact g_rz (Or.inl rfl) S Z hr hlocks dX9_isLesser_55
      · have h := if_f c5 h
        refine lv_aload_n hx hb dX9_isLesser_10 rfl (lv_at hl 0 rfl) ?_
        refine cr_X9_counts (a := i0) S X Z hin_X9 hi0 hl_18 dX9_isLesser_11 ?_
        refine lv_iload_n hx hb dX9_isLesser_14 rfl (lv_at hl 1 rfl) ?_
        refine g_aald (i := (63, i0, 0)) (ca := 5) ⟨rfl, rfl⟩ S X Z (cl_X9_counts hi0) rfl dX9_isLesser_15 h (fun v6 hv6 h => ?_)
        refine lv_aload_n hx hb dX9_isLesser_16 rfl (lv_at hl 0 rfl) ?_
        refine cr_X9_counts (a := i0) S X Z hin_X9 hi0 hl_18 dX9_isLesser_17 ?_
        refine lv_iload_n hx hb dX9_isLesser_20 rfl (lv_at hl 2 rfl) ?_
        refine g_aald (i := (63, i0, 0)) (ca := 5) ⟨rfl, rfl⟩ S X Z (cl_X9_counts hi0) rfl dX9_isLesser_21 h (fun v7 hv7 h => ?_)
        obtain ⟨v9, hc8, h⟩ := o1_e h
        refine c_i X Z (c_SN (As := [.ref (A (64, i0, v6)), .ref (A (64, i0, v7))]) (rest := []) S X hN Z (t_X10_isAtMost l N D dA A hJ ⟨(cl_64 (cl_X9_counts hi0) hv6), rfl⟩ ⟨(cl_64 (cl_X9_counts hi0) hv7), rfl⟩ hc8) ⟨va_cnB 2 hts (cG (cB 264 rfl)) rfl rfl rfl (hN.2 ("ReplicaFiles$Versions", 58, yX10_isAtMost, "ReplicaFiles") (by decide +kernel)) (hts (.initialized RX10) (cBc 107 rfl)) (by decide +kernel) ⟨Nat.le_of_ble_eq_true rfl, Nat.le_of_ble_eq_true rfl⟩, hts (.static yX10_isAtMost) (cBc 282 rfl), trivial⟩ rfl hl.1 rfl (Nat.le_of_ble_eq_true rfl) dX9_isLesser_22 ⟨Nat.zero_le _, Nat.zero_le _⟩) (fun H locs Z => ?_)
        obtain ⟨J48, eJ48, h⟩ := jn_e h
        have hJ48 : ∀  (H : Heap) (locs : List Loc) (ls : Array Slot), gZ D (cLay N) dA (cLive N) A (gA (cLive N) A) s.heap M H locs → lv_has ls 3 [(0, .ref (A (60, i0, 0))), (1, .int a1), (2, .int x1)] → J48 () = some y → W p l e (headSpec wmX9_isLesser ({ frames := 1, cells := 0, slots := 0, locals := 22 } : Room)).room s m args below meth c H locs 0 0 (MQ below (cQi N D dA A (y, M)) args s 0 0 (gA (cLive N) A)) (F0 m 48 ls []) := by
          intro  H locs ls Z hl h
          rw [eJ48] at h
          try dsimp only at h
          obtain ⟨x10, ex10, h⟩ := lt_e h
          refine lv_iinc (v := x10) (lv' := [(2, .int x10), (0, .ref (A (60, i0, 0))), (1, .int a1)]) hx hb dX9_isLesser_48 hl (k := 2) rfl (by rw [ex10]; rfl) (by decide) rfl (fun ls hl => ?_)
          refine lv_goto (tgt := 2) hx hb dX9_isLesser_51 (by decide) ?_
          exact ih2 x10 _ _ _ Z (lv_sub hl [1, 2, 0] rfl) h
        refine lv_if_eq (tgt := 48) hx hb dX9_isLesser_25 (by decide) (fun c11 => ?_) (fun c11 => ?_)
        · have h := if_t c11 h
          exact hJ48  _ _ _ Z (lv_sub hl [0, 1, 2] rfl) h
        · have h := if_f c11 h
          refine lv_aload_n hx hb dX9_isLesser_28 rfl (lv_at hl 0 rfl) ?_
          refine cr_X9_counts (a := i0) S X Z hin_X9 hi0 hl_18 dX9_isLesser_29 ?_
          refine lv_iload_n hx hb dX9_isLesser_32 rfl (lv_at hl 1 rfl) ?_
          refine g_aald (i := (63, i0, 0)) (ca := 5) ⟨rfl, rfl⟩ S X Z (cl_X9_counts hi0) rfl dX9_isLesser_33 h (fun v12 hv12 h => ?_)
          refine lv_aload_n hx hb dX9_isLesser_34 rfl (lv_at hl 0 rfl) ?_
          refine cr_X9_counts (a := i0) S X Z hin_X9 hi0 hl_18 dX9_isLesser_35 ?_
          refine lv_iload_n hx hb dX9_isLesser_38 rfl (lv_at hl 2 rfl) ?_
          refine g_aald (i := (63, i0, 0)) (ca := 5) ⟨rfl, rfl⟩ S X Z (cl_X9_counts hi0) rfl dX9_isLesser_39 h (fun v13 hv13 h => ?_)
          obtain ⟨v15, hc14, h⟩ := o1_e h
          refine c_i X Z (c_SN (As := [.ref (A (64, i0, v12)), .ref (A (64, i0, v13))]) (rest := []) S X hN Z (t_X10_isSame l N D dA A hJ ⟨(cl_64 (cl_X9_counts hi0) hv12), rfl⟩ ⟨(cl_64 (cl_X9_counts hi0) hv13), rfl⟩ hc14) ⟨va_cnB 2 hts (cG (cB 181 rfl)) rfl rfl rfl (hN.2 ("ReplicaFiles$Versions", 43, yX10_isSame, "ReplicaFiles") (by decide +kernel)) (hts (.initialized RX10) (cBc 107 rfl)) (by decide +kernel) ⟨Nat.le_of_ble_eq_true rfl, Nat.le_of_ble_eq_true rfl⟩, hts (.static yX10_isSame) (cBc 227 rfl), trivial⟩ rfl hl.1 rfl (Nat.le_of_ble_eq_true rfl) dX9_isLesser_40 ⟨Nat.zero_le _, Nat.zero_le _⟩) (fun H locs Z => ?_)
          refine lv_if_ne (tgt := 48) hx hb dX9_isLesser_43 (by decide) (fun c16 => ?_) (fun c16 => ?_)
          · have h := if_f c16 h
            exact hJ48  _ _ _ Z (lv_sub hl [0, 1, 2] rfl) h
          · have h := if_t c16 h
            refine lv_iconst (v := (1 : Int32)) hx hb dX9_isLesser_46 (by decide) ?_
            have hy := Option.some.inj h
            subst hy
            exact g_rz (Or.inr rfl) S Z hr hlocks dX9_isLesser_47
  exact hL2 100 (0 : Int32) _ _ _ Z (lv_sub hl [1, 2, 0] rfl) h
-- X9_leaveOut (I)V: 48 instructions
theorem dX9_leaveOut_0 : decode cX9_leaveOut 0 = .ok (.iload_n 1, 1) := by decide +kernel
theorem dX9_leaveOut_1 : decode cX9_leaveOut 1 = .ok (.iconst 1, 1) := by decide +kernel
theorem dX9_leaveOut_2 : decode cX9_leaveOut 2 = .ok (.iadd, 1) := by decide +kernel
theorem dX9_leaveOut_3 : decode cX9_leaveOut 3 = .ok (.istore_n 2, 1) := by decide +kernel
theorem dX9_leaveOut_4 : decode cX9_leaveOut 4 = .ok (.iload_n 2, 1) := by decide +kernel
theorem dX9_leaveOut_5 : decode cX9_leaveOut 5 = .ok (.aload_n 0, 1) := by decide +kernel
theorem dX9_leaveOut_6 : decode cX9_leaveOut 6 = .ok (.getfield 21, 3) := by decide +kernel
theorem dX9_leaveOut_9 : decode cX9_leaveOut 9 = .ok (.if_icmp .ge 54, 3) := by decide +kernel
theorem dX9_leaveOut_12 : decode cX9_leaveOut 12 = .ok (.aload_n 0, 1) := by decide +kernel
theorem dX9_leaveOut_13 : decode cX9_leaveOut 13 = .ok (.getfield 7, 3) := by decide +kernel
theorem dX9_leaveOut_16 : decode cX9_leaveOut 16 = .ok (.iload_n 2, 1) := by decide +kernel
theorem dX9_leaveOut_17 : decode cX9_leaveOut 17 = .ok (.iconst 1, 1) := by decide +kernel
theorem dX9_leaveOut_18 : decode cX9_leaveOut 18 = .ok (.isub, 1) := by decide +kernel
theorem dX9_leaveOut_19 : decode cX9_leaveOut 19 = .ok (.aload_n 0, 1) := by decide +kernel
theorem dX9_leaveOut_20 : decode cX9_leaveOut 20 = .ok (.getfield 7, 3) := by decide +kernel
theorem dX9_leaveOut_23 : decode cX9_leaveOut 23 = .ok (.iload_n 2, 1) := by decide +kernel
theorem dX9_leaveOut_24 : decode cX9_leaveOut 24 = .ok (.iaload, 1) := by decide +kernel
theorem dX9_leaveOut_25 : decode cX9_leaveOut 25 = .ok (.iastore, 1) := by decide +kernel
theorem dX9_leaveOut_26 : decode cX9_leaveOut 26 = .ok (.aload_n 0, 1) := by decide +kernel
theorem dX9_leaveOut_27 : decode cX9_leaveOut 27 = .ok (.getfield 13, 3) := by decide +kernel
theorem dX9_leaveOut_30 : decode cX9_leaveOut 30 = .ok (.iload_n 2, 1) := by decide +kernel
theorem dX9_leaveOut_31 : decode cX9_leaveOut 31 = .ok (.iconst 1, 1) := by decide +kernel
theorem dX9_leaveOut_32 : decode cX9_leaveOut 32 = .ok (.isub, 1) := by decide +kernel
theorem dX9_leaveOut_33 : decode cX9_leaveOut 33 = .ok (.aload_n 0, 1) := by decide +kernel
theorem dX9_leaveOut_34 : decode cX9_leaveOut 34 = .ok (.getfield 13, 3) := by decide +kernel
theorem dX9_leaveOut_37 : decode cX9_leaveOut 37 = .ok (.iload_n 2, 1) := by decide +kernel
theorem dX9_leaveOut_38 : decode cX9_leaveOut 38 = .ok (.iaload, 1) := by decide +kernel
theorem dX9_leaveOut_39 : decode cX9_leaveOut 39 = .ok (.iastore, 1) := by decide +kernel
theorem dX9_leaveOut_40 : decode cX9_leaveOut 40 = .ok (.aload_n 0, 1) := by decide +kernel
theorem dX9_leaveOut_41 : decode cX9_leaveOut 41 = .ok (.getfield 18, 3) := by decide +kernel
theorem dX9_leaveOut_44 : decode cX9_leaveOut 44 = .ok (.iload_n 2, 1) := by decide +kernel
theorem dX9_leaveOut_45 : decode cX9_leaveOut 45 = .ok (.iconst 1, 1) := by decide +kernel
theorem dX9_leaveOut_46 : decode cX9_leaveOut 46 = .ok (.isub, 1) := by decide +kernel
theorem dX9_leaveOut_47 : decode cX9_leaveOut 47 = .ok (.aaload, 1) := by decide +kernel
theorem dX9_leaveOut_48 : decode cX9_leaveOut 48 = .ok (.aload_n 0, 1) := by decide +kernel
theorem dX9_leaveOut_49 : decode cX9_leaveOut 49 = .ok (.getfield 18, 3) := by decide +kernel
theorem dX9_leaveOut_52 : decode cX9_leaveOut 52 = .ok (.iload_n 2, 1) := by decide +kernel
theorem dX9_leaveOut_53 : decode cX9_leaveOut 53 = .ok (.aaload, 1) := by decide +kernel
theorem dX9_leaveOut_54 : decode cX9_leaveOut 54 = .ok (.invokestatic 29, 3) := by decide +kernel
theorem dX9_leaveOut_57 : decode cX9_leaveOut 57 = .ok (.iinc 2 1, 3) := by decide +kernel
theorem dX9_leaveOut_60 : decode cX9_leaveOut 60 = .ok (.goto (-56), 3) := by decide +kernel
theorem dX9_leaveOut_63 : decode cX9_leaveOut 63 = .ok (.aload_n 0, 1) := by decide +kernel
theorem dX9_leaveOut_64 : decode cX9_leaveOut 64 = .ok (.dup, 1) := by decide +kernel
theorem dX9_leaveOut_65 : decode cX9_leaveOut 65 = .ok (.getfield 21, 3) := by decide +kernel
theorem dX9_leaveOut_68 : decode cX9_leaveOut 68 = .ok (.iconst 1, 1) := by decide +kernel
theorem dX9_leaveOut_69 : decode cX9_leaveOut 69 = .ok (.isub, 1) := by decide +kernel
theorem dX9_leaveOut_70 : decode cX9_leaveOut 70 = .ok (.putfield 21, 3) := by decide +kernel
theorem dX9_leaveOut_73 : decode cX9_leaveOut 73 = .ok (.return_, 1) := by decide +kernel
abbrev wmX9_leaveOut : List Cond := .code yX9_leaveOut cX9_leaveOut 3 none :: cBig
def f_X9_leaveOut_L4 (N : Nat) (i0 : Nat) (J63 : gM → Option gM) : Nat → Int32 → gM → Option gM
  | 0, _, _ => none
  | n7 + 1, x5, M6 => lt (M6 (60, i0, 0) 3) (fun v8 => (if v8 ≤ x5 then J63 M6 else rd M6 (61, i0, 0) (cMost i0) x5 (fun v10 => wr M6 (61, i0, 0) (cMost i0) (x5 - (1 : Int32)) v10 (fun M11 => rd M11 (62, i0, 0) (cMost i0) x5 (fun v12 => wr M11 (62, i0, 0) (cMost i0) (x5 - (1 : Int32)) v12 (fun M13 => ix (x5 - (1 : Int32)) (cMost i0) (fun v14 => ix x5 (cMost i0) (fun v15 => o1 (f_X10_assign N M13 (64, i0, v14) (64, i0, v15)) (fun M17 => lt (x5 + 1) (fun x18 => f_X9_leaveOut_L4 N i0 J63 n7 x18 M17))))))))))
def f_X9_leaveOut (N : Nat) (M : gM) (i0 : Nat) (a1 : Int32) : Option gM :=
  lt ((a1 + (1 : Int32))) (fun x1 => jn (fun (M2 : gM) => lt (M2 (60, i0, 0) 3) (fun v3 => lt (gset M2 (60, i0, 0) 3 (v3 - (1 : Int32))) (fun M4 => some M4))) (fun J63 => f_X9_leaveOut_L4 N i0 J63 100 x1 M))
set_option maxHeartbeats 4000000 in
set_option maxRecDepth 100000 in
theorem t_X9_leaveOut (l : Launch) (N : Nat) (D : va_G) (dA : Nat → ClassId) (A : gI → Nat) (hJ : gJ (cLive N) A) {M : gM} {i0 : Nat} {a1 : Int32} (hi0 : cLive N (60, i0, 0)) {y : gM} (h : f_X9_leaveOut N M i0 a1 = some y) : cMv l yX9_leaveOut wmX9_leaveOut ({ frames := 1, cells := 0, slots := 0, locals := 22 } : Room) N D dA A [.ref (A (60, i0, 0)), .int a1] M y := by
  refine Met.ofW (cc := cX9_leaveOut) (maxL := 3) (ret := none) (by decide) rfl ?_
  intro p e s m args below meth c s₁ B hml hv
  obtain ⟨rfl, hP, hK, hN⟩ := hv
  generalize hargs : ([.ref (A (60, i0, 0)), .int a1] : List Value).toArray = args at B ⊢
  have S : CallFix p m c cX9_leaveOut 3 s args wmX9_leaveOut RX9 := ⟨B.exec, B.bytes, hml, findClass_of_methodNamed B.named, atoms_spec (ws := wmX9_leaveOut) B.pre⟩
  obtain ⟨hx, hb, -, hown, hts⟩ := id S
  have hr := B.returns
  have hlocks := B.notSynchronized
  have X : gX D vwCl dA (cLive N) A (gA (cLive N) A) s := ⟨hK, hJ, fun i hi => ⟨i, hi, rfl⟩⟩
  have Z : gZ D (cLay N) dA (cLive N) A (gA (cLive N) A) s.heap M s.heap [] := ⟨hP, va_S.rf⟩
  have hin_X9 : ∀ w ∈ wsX90, w ∈ wmX9_leaveOut := cin_X9
  have hl_7 := hts (.fieldLink RX9 7 "ReplicaFiles$Versions" "value" "[I") (cBc 184 rfl)
  have hl_13 := hts (.fieldLink RX9 13 "ReplicaFiles$Versions" "size" "[I") (cBc 186 rfl)
  have hl_18 := hts (.fieldLink RX9 18 "ReplicaFiles$Versions" "counts" "[[I") (cBc 187 rfl)
  have hl_21 := hts (.fieldLink RX9 21 "ReplicaFiles$Versions" "length" "I") (cBc 183 rfl)
  have hl := lv_entry ([.ref (A (60, i0, 0)), .int a1]) (n := 3) (Nat.le_of_ble_eq_true rfl)
  rw [← hargs, lg_entry_eq, hargs]
  generalize (lg_sl ([.ref (A (60, i0, 0)), .int a1]) ++ List.replicate (3 - (lg_sl ([.ref (A (60, i0, 0)), .int a1])).length) Slot.unset).toArray = ls at hl ⊢
  have hl : lv_has ls 3 [(0, .ref (A (60, i0, 0))), (1, .int a1)] := hl
  unfold f_X9_leaveOut at h
  refine lv_iload_n hx hb dX9_leaveOut_0 rfl (lv_at hl 1 rfl) ?_
  refine lv_iconst (v := (1 : Int32)) hx hb dX9_leaveOut_1 (by decide) ?_
  refine lv_iadd hx hb dX9_leaveOut_2 ?_
  refine g_topi h (fun x1 h => ?_)
  refine lv_istore_n (lv' := [(2, .int x1), (0, .ref (A (60, i0, 0))), (1, .int a1)]) hx hb dX9_leaveOut_3 rfl hl (by decide) rfl (fun ls hl => ?_)
  obtain ⟨J63, eJ63, h⟩ := jn_e h
  have hJ63 : ∀ (M2 : gM) (H : Heap) (locs : List Loc) (ls : Array Slot), gZ D (cLay N) dA (cLive N) A (gA (cLive N) A) s.heap M2 H locs → lv_has ls 3 [(0, .ref (A (60, i0, 0)))] → J63 M2 = some y → W p l e (headSpec wmX9_leaveOut ({ frames := 1, cells := 0, slots := 0, locals := 22 } : Room)).room s m args below meth c H locs 0 0 (MQ below (cQv N D dA A y) args s 0 0 (gA (cLive N) A)) (F0 m 63 ls []) := by
    intro M2 H locs ls Z hl h
    rw [eJ63] at h
    try dsimp only at h
    refine lv_aload_n hx hb dX9_leaveOut_63 rfl (lv_at hl 0 rfl) ?_
    refine lv_dup hx hb dX9_leaveOut_64 rfl ?_
    refine cr_X9_length (a := i0) S X Z hin_X9 hi0 hl_21 dX9_leaveOut_65 h (fun v3 h => ?_)
    refine lv_iconst (v := (1 : Int32)) hx hb dX9_leaveOut_68 (by decide) ?_
    refine lv_isub hx hb dX9_leaveOut_69 ?_
    refine cp_X9_length (a := i0) S X Z hin_X9 hi0 hl_21 dX9_leaveOut_70 h (fun M4 H locs Z h => ?_)
    have hy := Option.some.inj h
    subst hy
    exact g_rv S Z hr hlocks dX9_leaveOut_73
  have hL4 : ∀ (n : Nat) (x5 : Int32) (M6 : gM) (H : Heap) (locs : List Loc) (ls : Array Slot), gZ D (cLay N) dA (cLive N) A (gA (cLive N) A) s.heap M6 H locs → lv_has ls 3 [(0, .ref (A (60, i0, 0))), (2, .int x5)] → f_X9_leaveOut_L4 N i0 J63 n x5 M6 = some y → W p l e (headSpec wmX9_leaveOut ({ frames := 1, cells := 0, slots := 0, locals := 22 } : Room)).room s m args below meth c H locs 0 0 (MQ below (cQv N D dA A y) args s 0 0 (gA (cLive N) A)) (F0 m 4 ls []) := by
    intro n
    induction n with
    | zero =>
      intro x5 M6 H locs ls Z hl h
      rw [f_X9_leaveOut_L4] at h
      cases h
    | succ n7 ih4 =>
      intro x5 M6 H locs ls Z hl h
      rw [f_X9_leaveOut_L4] at h
      refine lv_iload_n hx hb dX9_leaveOut_4 rfl (lv_at hl 1 rfl) ?_
      refine lv_aload_n hx hb dX9_leaveOut_5 rfl (lv_at hl 0 rfl) ?_
      refine cr_X9_length (a := i0) S X Z hin_X9 hi0 hl_21 dX9_leaveOut_6 h (fun v8 h => ?_)
      refine lv_icmp_ge (tgt := 63) hx hb dX9_leaveOut_9 (by decide) (fun c9 => ?_) (fun c9 => ?_)
      · have h := if_t c9 h
        exact hJ63 M6 _ _ _ Z (lv_sub hl [0] rfl) h
      · have h := if_f c9 h
        refine lv_aload_n hx hb dX9_leaveOut_12 rfl (lv_at hl 0 rfl) ?_
        refine cr_X9_value (a := i0) S X Z hin_X9 hi0 hl_7 dX9_leaveOut_13 ?_
        refine lv_iload_n hx hb dX9_leaveOut_16 rfl (lv_at hl 1 rfl) ?_
        refine lv_iconst (v := (1 : Int32)) hx hb dX9_leaveOut_17 (by decide) ?_
        refine lv_isub hx hb dX9_leaveOut_18 ?_
        refine lv_aload_n hx hb dX9_leaveOut_19 rfl (lv_at hl 0 rfl) ?_
        refine cr_X9_value (a := i0) S X Z hin_X9 hi0 hl_7 dX9_leaveOut_20 ?_
        refine lv_iload_n hx hb dX9_leaveOut_23 rfl (lv_at hl 1 rfl) ?_
        refine g_iald (i := (61, i0, 0)) (n := (cMost i0)) S X Z (cl_X9_value hi0) rfl dX9_leaveOut_24 h (fun v10 h => ?_)
        refine g_iast (i := (61, i0, 0)) (n := (cMost i0)) S X Z (cl_X9_value hi0) rfl dX9_leaveOut_25 h (fun M11 H locs Z h => ?_)
        refine lv_aload_n hx hb dX9_leaveOut_26 rfl (lv_at hl 0 rfl) ?_
        refine cr_X9_size (a := i0) S X Z hin_X9 hi0 hl_13 dX9_leaveOut_27 ?_
        refine lv_iload_n hx hb dX9_leaveOut_30 rfl (lv_at hl 1 rfl) ?_
        refine lv_iconst (v := (1 : Int32)) hx hb dX9_leaveOut_31 (by decide) ?_
        refine lv_isub hx hb dX9_leaveOut_32 ?_
        refine lv_aload_n hx hb dX9_leaveOut_33 rfl (lv_at hl 0 rfl) ?_
        refine cr_X9_size (a := i0) S X Z hin_X9 hi0 hl_13 dX9_leaveOut_34 ?_
        refine lv_iload_n hx hb dX9_leaveOut_37 rfl (lv_at hl 1 rfl) ?_
        refine g_iald (i := (62, i0, 0)) (n := (cMost i0)) S X Z (cl_X9_size hi0) rfl dX9_leaveOut_38 h (fun v12 h => ?_)
        refine g_iast (i := (62, i0, 0)) (n := (cMost i0)) S X Z (cl_X9_size hi0) rfl dX9_leaveOut_39 h (fun M13 H locs Z h => ?_)
        refine lv_aload_n hx hb dX9_leaveOut_40 rfl (lv_at hl 0 rfl) ?_
        refine cr_X9_counts (a := i0) S X Z hin_X9 hi0 hl_18 dX9_leaveOut_41 ?_
        refine lv_iload_n hx hb dX9_leaveOut_44 rfl (lv_at hl 1 rfl) ?_
        refine lv_iconst (v := (1 : Int32)) hx hb dX9_leaveOut_45 (by decide) ?_
        refine lv_isub hx hb dX9_leaveOut_46 ?_
        refine g_aald (i := (63, i0, 0)) (ca := 5) ⟨rfl, rfl⟩ S X Z (cl_X9_counts hi0) rfl dX9_leaveOut_47 h (fun v14 hv14 h => ?_)
        refine lv_aload_n hx hb dX9_leaveOut_48 rfl (lv_at hl 0 rfl) ?_
        refine cr_X9_counts (a := i0) S X Z hin_X9 hi0 hl_18 dX9_leaveOut_49 ?_
        refine lv_iload_n hx hb dX9_leaveOut_52 rfl (lv_at hl 1 rfl) ?_
        refine g_aald (i := (63, i0, 0)) (ca := 5) ⟨rfl, rfl⟩ S X Z (cl_X9_counts hi0) rfl dX9_leaveOut_53 h (fun v15 hv15 h => ?_)
        obtain ⟨M17, hc16, h⟩ := o1_e h
        refine c_v X Z (c_SN (As := [.ref (A (64, i0, v14)), .ref (A (64, i0, v15))]) (rest := []) S X hN Z (t_X10_assign l N D dA A hJ ⟨(cl_64 (cl_X9_counts hi0) hv14), rfl⟩ ⟨(cl_64 (cl_X9_counts hi0) hv15), rfl⟩ hc16) ⟨va_cnB 2 hts (cG (cB 104 rfl)) rfl rfl rfl (hN.2 ("ReplicaFiles$Versions", 29, yX10_assign, "ReplicaFiles") (by decide +kernel)) (hts (.initialized RX10) (cBc 107 rfl)) (by decide +kernel) ⟨Nat.le_of_ble_eq_true rfl, Nat.le_of_ble_eq_true rfl⟩, hts (.static yX10_assign) (cBc 106 rfl), trivial⟩ rfl hl.1 rfl (Nat.le_of_ble_eq_true rfl) dX9_leaveOut_54 ⟨Nat.zero_le _, Nat.zero_le _⟩) (fun H locs Z => ?_)
        obtain ⟨x18, ex18, h⟩ := lt_e h
        refine lv_iinc (v := x18) (lv' := [(2, .int x18), (0, .ref (A (60, i0, 0)))]) hx hb dX9_leaveOut_57 hl (k := 1) rfl (by rw [ex18]; rfl) (by decide) rfl (fun ls hl => ?_)
        refine lv_goto (tgt := 4) hx hb dX9_leaveOut_60 (by decide) ?_
        exact ih4 x18 M17 _ _ _ Z (lv_sub hl [1, 0] rfl) h
  exact hL4 100 x1 M _ _ _ Z (lv_sub hl [1, 0] rfl) h
-- X9_leaveOutLesser ()V: 17 instructions
theorem dX9_leaveOutLesser_0 : decode cX9_leaveOutLesser 0 = .ok (.aload_n 0, 1) := by decide +kernel
theorem dX9_leaveOutLesser_1 : decode cX9_leaveOutLesser 1 = .ok (.getfield 21, 3) := by decide +kernel
theorem dX9_leaveOutLesser_4 : decode cX9_leaveOutLesser 4 = .ok (.iconst 1, 1) := by decide +kernel
theorem dX9_leaveOutLesser_5 : decode cX9_leaveOutLesser 5 = .ok (.isub, 1) := by decide +kernel
theorem dX9_leaveOutLesser_6 : decode cX9_leaveOutLesser 6 = .ok (.istore_n 1, 1) := by decide +kernel
theorem dX9_leaveOutLesser_7 : decode cX9_leaveOutLesser 7 = .ok (.iload_n 1, 1) := by decide +kernel
theorem dX9_leaveOutLesser_8 : decode cX9_leaveOutLesser 8 = .ok (.ifCond .lt 22, 3) := by decide +kernel
theorem dX9_leaveOutLesser_11 : decode cX9_leaveOutLesser 11 = .ok (.aload_n 0, 1) := by decide +kernel
theorem dX9_leaveOutLesser_12 : decode cX9_leaveOutLesser 12 = .ok (.iload_n 1, 1) := by decide +kernel
theorem dX9_leaveOutLesser_13 : decode cX9_leaveOutLesser 13 = .ok (.invokevirtual 50, 3) := by decide +kernel
theorem dX9_leaveOutLesser_16 : decode cX9_leaveOutLesser 16 = .ok (.ifCond .eq 8, 3) := by decide +kernel
theorem dX9_leaveOutLesser_19 : decode cX9_leaveOutLesser 19 = .ok (.aload_n 0, 1) := by decide +kernel
theorem dX9_leaveOutLesser_20 : decode cX9_leaveOutLesser 20 = .ok (.iload_n 1, 1) := by decide +kernel
theorem dX9_leaveOutLesser_21 : decode cX9_leaveOutLesser 21 = .ok (.invokevirtual 54, 3) := by decide +kernel
theorem dX9_leaveOutLesser_24 : decode cX9_leaveOutLesser 24 = .ok (.iinc 1 (-1), 3) := by decide +kernel
theorem dX9_leaveOutLesser_27 : decode cX9_leaveOutLesser 27 = .ok (.goto (-20), 3) := by decide +kernel
theorem dX9_leaveOutLesser_30 : decode cX9_leaveOutLesser 30 = .ok (.return_, 1) := by decide +kernel
abbrev wmX9_leaveOutLesser : List Cond := .code yX9_leaveOutLesser cX9_leaveOutLesser 2 none :: cBig
def f_X9_leaveOutLesser_L7 (N : Nat) (i0 : Nat) : Nat → Int32 → gM → Option gM
  | 0, _, _ => none
  | n5 + 1, x3, M4 => (if x3 < 0 then some M4 else o1 (f_X9_isLesser N M4 i0 x3) (fun v8 => jn (fun (M9 : gM) => lt (x3 + (-1)) (fun x10 => f_X9_leaveOutLesser_L7 N i0 n5 x10 M9)) (fun J24 => (if v8 = 0 then J24 M4 else o1 (f_X9_leaveOut N M4 i0 x3) (fun M13 => J24 M13)))))
def f_X9_leaveOutLesser (N : Nat) (M : gM) (i0 : Nat) : Option gM :=
  lt (M (60, i0, 0) 3) (fun v1 => lt ((v1 - (1 : Int32))) (fun x2 => f_X9_leaveOutLesser_L7 N i0 100 x2 M))
set_option maxHeartbeats 4000000 in
set_option maxRecDepth 100000 in
theorem t_X9_leaveOutLesser (l : Launch) (N : Nat) (D : va_G) (dA : Nat → ClassId) (A : gI → Nat) (hJ : gJ (cLive N) A) {M : gM} {i0 : Nat} (hi0 : cLive N (60, i0, 0)) {y : gM} (h : f_X9_leaveOutLesser N M i0 = some y) : cMv l yX9_leaveOutLesser wmX9_leaveOutLesser ({ frames := 2, cells := 0, slots := 0, locals := 44 } : Room) N D dA A [.ref (A (60, i0, 0))] M y := by
  refine Met.ofW (cc := cX9_leaveOutLesser) (maxL := 2) (ret := none) (by decide) rfl ?_
  intro p e s m args below meth c s₁ B hml hv
  obtain ⟨rfl, hP, hK, hN⟩ := hv
  generalize hargs : ([.ref (A (60, i0, 0))] : List Value).toArray = args at B ⊢
  have S : CallFix p m c cX9_leaveOutLesser 2 s args wmX9_leaveOutLesser RX9 := ⟨B.exec, B.bytes, hml, findClass_of_methodNamed B.named, atoms_spec (ws := wmX9_leaveOutLesser) B.pre⟩
  obtain ⟨hx, hb, -, hown, hts⟩ := id S
  have hr := B.returns
  have hlocks := B.notSynchronized
  have X : gX D vwCl dA (cLive N) A (gA (cLive N) A) s := ⟨hK, hJ, fun i hi => ⟨i, hi, rfl⟩⟩
  have Z : gZ D (cLay N) dA (cLive N) A (gA (cLive N) A) s.heap M s.heap [] := ⟨hP, va_S.rf⟩
  have hin_X9 : ∀ w ∈ wsX90, w ∈ wmX9_leaveOutLesser := cin_X9
  have hl_21 := hts (.fieldLink RX9 21 "ReplicaFiles$Versions" "length" "I") (cBc 183 rfl)
  have hl := lv_entry ([.ref (A (60, i0, 0))]) (n := 2) (Nat.le_of_ble_eq_true rfl)
  rw [← hargs, lg_entry_eq, hargs]
  generalize (lg_sl ([.ref (A (60, i0, 0))]) ++ List.replicate (2 - (lg_sl ([.ref (A (60, i0, 0))])).length) Slot.unset).toArray = ls at hl ⊢
  have hl : lv_has ls 2 [(0, .ref (A (60, i0, 0)))] := hl
  unfold f_X9_leaveOutLesser at h
  refine lv_aload_n hx hb dX9_leaveOutLesser_0 rfl (lv_at hl 0 rfl) ?_
  refine cr_X9_length (a := i0) S X Z hin_X9 hi0 hl_21 dX9_leaveOutLesser_1 h (fun v1 h => ?_)
  refine lv_iconst (v := (1 : Int32)) hx hb dX9_leaveOutLesser_4 (by decide) ?_
  refine lv_isub hx hb dX9_leaveOutLesser_5 ?_
  refine g_topi h (fun x2 h => ?_)
  refine lv_istore_n (lv' := [(1, .int x2), (0, .ref (A (60, i0, 0)))]) hx hb dX9_leaveOutLesser_6 rfl hl (by decide) rfl (fun ls hl => ?_)
  have hL7 : ∀ (n : Nat) (x3 : Int32) (M4 : gM) (H : Heap) (locs : List Loc) (ls : Array Slot), gZ D (cLay N) dA (cLive N) A (gA (cLive N) A) s.heap M4 H locs → lv_has ls 2 [(0, .ref (A (60, i0, 0))), (1, .int x3)] → f_X9_leaveOutLesser_L7 N i0 n x3 M4 = some y → W p l e (headSpec wmX9_leaveOutLesser ({ frames := 2, cells := 0, slots := 0, locals := 44 } : Room)).room s m args below meth c H locs 0 0 (MQ below (cQv N D dA A y) args s 0 0 (gA (cLive N) A)) (F0 m 7 ls []) := by
    intro n
    induction n with
    | zero =>
      intro x3 M4 H locs ls Z hl h
      rw [f_X9_leaveOutLesser_L7] at h
      cases h
    | succ n5 ih7 =>
      intro x3 M4 H locs ls Z hl h
      rw [f_X9_leaveOutLesser_L7] at h
      refine lv_iload_n hx hb dX9_leaveOutLesser_7 rfl (lv_at hl 1 rfl) ?_
      refine lv_if_lt (tgt := 30) hx hb dX9_leaveOutLesser_8 (by decide) (fun c6 => ?_) (fun c6 => ?_)
      · have h := if_t c6 h
        have hy := Option.some.inj h
        subst hy
        exact g_rv S Z hr hlocks dX9_leaveOutLesser_30
      · have h := if_f c6 h
        refine lv_aload_n hx hb dX9_leaveOutLesser_11 rfl (lv_at hl 0 rfl) ?_
        refine lv_iload_n hx hb dX9_leaveOutLesser_12 rfl (lv_at hl 1 rfl) ?_
        obtain ⟨v8, hc7, h⟩ := o1_e h
        refine c_i X Z (c_V (i := (60, i0, 0)) (As := [.int x3]) (rest := []) S X hN Z hi0 rfl rfl (t_X9_isLesser l N D dA A hJ hi0 hc7) (cwV 1 hts (cGV (cB 414 rfl) (cB 415 rfl) (cB 416 rfl) (cB 191 rfl) (cB 411 rfl)) rfl rfl rfl (by decide +kernel) ⟨Nat.le_of_ble_eq_true rfl, Nat.le_of_ble_eq_true rfl⟩) rfl hl.1 rfl (Nat.le_of_ble_eq_true rfl) dX9_leaveOutLesser_13 ⟨Nat.zero_le _, Nat.zero_le _⟩) (fun H locs Z => ?_)
        obtain ⟨J24, eJ24, h⟩ := jn_e h
        have hJ24 : ∀ (M9 : gM) (H : Heap) (locs : List Loc) (ls : Array Slot), gZ D (cLay N) dA (cLive N) A (gA (cLive N) A) s.heap M9 H locs → lv_has ls 2 [(0, .ref (A (60, i0, 0))), (1, .int x3)] → J24 M9 = some y → W p l e (headSpec wmX9_leaveOutLesser ({ frames := 2, cells := 0, slots := 0, locals := 44 } : Room)).room s m args below meth c H locs 0 0 (MQ below (cQv N D dA A y) args s 0 0 (gA (cLive N) A)) (F0 m 24 ls []) := by
          intro M9 H locs ls Z hl h
          rw [eJ24] at h
          try dsimp only at h
          obtain ⟨x10, ex10, h⟩ := lt_e h
          refine lv_iinc (v := x10) (lv' := [(1, .int x10), (0, .ref (A (60, i0, 0)))]) hx hb dX9_leaveOutLesser_24 hl (k := 1) rfl (by rw [ex10]; rfl) (by decide) rfl (fun ls hl => ?_)
          refine lv_goto (tgt := 7) hx hb dX9_leaveOutLesser_27 (by decide) ?_
          exact ih7 x10 M9 _ _ _ Z (lv_sub hl [1, 0] rfl) h
        refine lv_if_eq (tgt := 24) hx hb dX9_leaveOutLesser_16 (by decide) (fun c11 => ?_) (fun c11 => ?_)
        · have h := if_t c11 h
          exact hJ24 M4 _ _ _ Z (lv_sub hl [0, 1] rfl) h
        · have h := if_f c11 h
          refine lv_aload_n hx hb dX9_leaveOutLesser_19 rfl (lv_at hl 0 rfl) ?_
          refine lv_iload_n hx hb dX9_leaveOutLesser_20 rfl (lv_at hl 1 rfl) ?_
          obtain ⟨M13, hc12, h⟩ := o1_e h
          refine c_v X Z (c_V (i := (60, i0, 0)) (As := [.int x3]) (rest := []) S X hN Z hi0 rfl rfl (t_X9_leaveOut l N D dA A hJ hi0 hc12) (cwV 1 hts (cGV (cB 417 rfl) (cB 418 rfl) (cB 419 rfl) (cB 191 rfl) (cB 412 rfl)) rfl rfl rfl (by decide +kernel) ⟨Nat.le_of_ble_eq_true rfl, Nat.le_of_ble_eq_true rfl⟩) rfl hl.1 rfl (Nat.le_of_ble_eq_true rfl) dX9_leaveOutLesser_21 ⟨Nat.zero_le _, Nat.zero_le _⟩) (fun H locs Z => ?_)
          exact hJ24 M13 _ _ _ Z (lv_sub hl [0, 1] rfl) h
  exact hL7 100 x2 M _ _ _ Z (lv_sub hl [1, 0] rfl) h
