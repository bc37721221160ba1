-- X3_takeOut (II)V: 67 instructions
theorem dX3_takeOut_0 : decode cX3_takeOut 0 = .ok (.aload_n 0, 1) := by decide +kernel
theorem dX3_takeOut_1 : decode cX3_takeOut 1 = .ok (.iload_n 1, 1) := by decide +kernel
theorem dX3_takeOut_2 : decode cX3_takeOut 2 = .ok (.iload_n 2, 1) := by decide +kernel
theorem dX3_takeOut_3 : decode cX3_takeOut 3 = .ok (.invokevirtual 38, 3) := by decide +kernel
theorem dX3_takeOut_6 : decode cX3_takeOut 6 = .ok (.istore_n 3, 1) := by decide +kernel
theorem dX3_takeOut_7 : decode cX3_takeOut 7 = .ok (.iload_n 3, 1) := by decide +kernel
theorem dX3_takeOut_8 : decode cX3_takeOut 8 = .ok (.iconst (-1), 1) := by decide +kernel
theorem dX3_takeOut_9 : decode cX3_takeOut 9 = .ok (.if_icmp .ne 4, 3) := by decide +kernel
theorem dX3_takeOut_12 : decode cX3_takeOut 12 = .ok (.return_, 1) := by decide +kernel
theorem dX3_takeOut_13 : decode cX3_takeOut 13 = .ok (.iload_n 3, 1) := by decide +kernel
theorem dX3_takeOut_14 : decode cX3_takeOut 14 = .ok (.iconst 1, 1) := by decide +kernel
theorem dX3_takeOut_15 : decode cX3_takeOut 15 = .ok (.iadd, 1) := by decide +kernel
theorem dX3_takeOut_16 : decode cX3_takeOut 16 = .ok (.istore 4, 2) := by decide +kernel
theorem dX3_takeOut_18 : decode cX3_takeOut 18 = .ok (.iload 4, 2) := by decide +kernel
theorem dX3_takeOut_20 : decode cX3_takeOut 20 = .ok (.aload_n 0, 1) := by decide +kernel
theorem dX3_takeOut_21 : decode cX3_takeOut 21 = .ok (.getfield 26, 3) := by decide +kernel
theorem dX3_takeOut_24 : decode cX3_takeOut 24 = .ok (.if_icmp .ge 76, 3) := by decide +kernel
theorem dX3_takeOut_27 : decode cX3_takeOut 27 = .ok (.aload_n 0, 1) := by decide +kernel
theorem dX3_takeOut_28 : decode cX3_takeOut 28 = .ok (.getfield 9, 3) := by decide +kernel
theorem dX3_takeOut_31 : decode cX3_takeOut 31 = .ok (.iload 4, 2) := by decide +kernel
theorem dX3_takeOut_33 : decode cX3_takeOut 33 = .ok (.iconst 1, 1) := by decide +kernel
theorem dX3_takeOut_34 : decode cX3_takeOut 34 = .ok (.isub, 1) := by decide +kernel
theorem dX3_takeOut_35 : decode cX3_takeOut 35 = .ok (.aload_n 0, 1) := by decide +kernel
theorem dX3_takeOut_36 : decode cX3_takeOut 36 = .ok (.getfield 9, 3) := by decide +kernel
theorem dX3_takeOut_39 : decode cX3_takeOut 39 = .ok (.iload 4, 2) := by decide +kernel
theorem dX3_takeOut_41 : decode cX3_takeOut 41 = .ok (.iaload, 1) := by decide +kernel
theorem dX3_takeOut_42 : decode cX3_takeOut 42 = .ok (.iastore, 1) := by decide +kernel
theorem dX3_takeOut_43 : decode cX3_takeOut 43 = .ok (.aload_n 0, 1) := by decide +kernel
theorem dX3_takeOut_44 : decode cX3_takeOut 44 = .ok (.getfield 15, 3) := by decide +kernel
theorem dX3_takeOut_47 : decode cX3_takeOut 47 = .ok (.iload 4, 2) := by decide +kernel
theorem dX3_takeOut_49 : decode cX3_takeOut 49 = .ok (.iconst 1, 1) := by decide +kernel
theorem dX3_takeOut_50 : decode cX3_takeOut 50 = .ok (.isub, 1) := by decide +kernel
theorem dX3_takeOut_51 : decode cX3_takeOut 51 = .ok (.aload_n 0, 1) := by decide +kernel
theorem dX3_takeOut_52 : decode cX3_takeOut 52 = .ok (.getfield 15, 3) := by decide +kernel
theorem dX3_takeOut_55 : decode cX3_takeOut 55 = .ok (.iload 4, 2) := by decide +kernel
theorem dX3_takeOut_57 : decode cX3_takeOut 57 = .ok (.iaload, 1) := by decide +kernel
theorem dX3_takeOut_58 : decode cX3_takeOut 58 = .ok (.iastore, 1) := by decide +kernel
theorem dX3_takeOut_59 : decode cX3_takeOut 59 = .ok (.aload_n 0, 1) := by decide +kernel
theorem dX3_takeOut_60 : decode cX3_takeOut 60 = .ok (.getfield 18, 3) := by decide +kernel
theorem dX3_takeOut_63 : decode cX3_takeOut 63 = .ok (.iload 4, 2) := by decide +kernel
theorem dX3_takeOut_65 : decode cX3_takeOut 65 = .ok (.iconst 1, 1) := by decide +kernel
theorem dX3_takeOut_66 : decode cX3_takeOut 66 = .ok (.isub, 1) := by decide +kernel
theorem dX3_takeOut_67 : decode cX3_takeOut 67 = .ok (.aload_n 0, 1) := by decide +kernel
theorem dX3_takeOut_68 : decode cX3_takeOut 68 = .ok (.getfield 18, 3) := by decide +kernel
theorem dX3_takeOut_71 : decode cX3_takeOut 71 = .ok (.iload 4, 2) := by decide +kernel
theorem dX3_takeOut_73 : decode cX3_takeOut 73 = .ok (.iaload, 1) := by decide +kernel
theorem dX3_takeOut_74 : decode cX3_takeOut 74 = .ok (.iastore, 1) := by decide +kernel
theorem dX3_takeOut_75 : decode cX3_takeOut 75 = .ok (.aload_n 0, 1) := by decide +kernel
theorem dX3_takeOut_76 : decode cX3_takeOut 76 = .ok (.getfield 23, 3) := by decide +kernel
theorem dX3_takeOut_79 : decode cX3_takeOut 79 = .ok (.iload 4, 2) := by decide +kernel
theorem dX3_takeOut_81 : decode cX3_takeOut 81 = .ok (.iconst 1, 1) := by decide +kernel
theorem dX3_takeOut_82 : decode cX3_takeOut 82 = .ok (.isub, 1) := by decide +kernel
theorem dX3_takeOut_83 : decode cX3_takeOut 83 = .ok (.aaload, 1) := by decide +kernel
theorem dX3_takeOut_84 : decode cX3_takeOut 84 = .ok (.aload_n 0, 1) := by decide +kernel
theorem dX3_takeOut_85 : decode cX3_takeOut 85 = .ok (.getfield 23, 3) := by decide +kernel
theorem dX3_takeOut_88 : decode cX3_takeOut 88 = .ok (.iload 4, 2) := by decide +kernel
theorem dX3_takeOut_90 : decode cX3_takeOut 90 = .ok (.aaload, 1) := by decide +kernel
theorem dX3_takeOut_91 : decode cX3_takeOut 91 = .ok (.invokestatic 34, 3) := by decide +kernel
theorem dX3_takeOut_94 : decode cX3_takeOut 94 = .ok (.iinc 4 1, 3) := by decide +kernel
theorem dX3_takeOut_97 : decode cX3_takeOut 97 = .ok (.goto (-79), 3) := by decide +kernel
theorem dX3_takeOut_100 : decode cX3_takeOut 100 = .ok (.aload_n 0, 1) := by decide +kernel
theorem dX3_takeOut_101 : decode cX3_takeOut 101 = .ok (.dup, 1) := by decide +kernel
theorem dX3_takeOut_102 : decode cX3_takeOut 102 = .ok (.getfield 26, 3) := by decide +kernel
theorem dX3_takeOut_105 : decode cX3_takeOut 105 = .ok (.iconst 1, 1) := by decide +kernel
theorem dX3_takeOut_106 : decode cX3_takeOut 106 = .ok (.isub, 1) := by decide +kernel
theorem dX3_takeOut_107 : decode cX3_takeOut 107 = .ok (.putfield 26, 3) := by decide +kernel
theorem dX3_takeOut_110 : decode cX3_takeOut 110 = .ok (.return_, 1) := by decide +kernel
abbrev wmX3_takeOut : List Cond := .code yX3_takeOut cX3_takeOut 5 none :: cBig
def f_X3_takeOut_L18 (N : Nat) (i0 : Nat) (J100 : gM → Option gM) : Nat → Int32 → gM → Option gM
  | 0, _, _ => none
  | n10 + 1, x8, M9 => lt (M9 (40, i0, 0) 4) (fun v11 => (if v11 ≤ x8 then J100 M9 else rd M9 (41, i0, 0) 12 x8 (fun v13 => wr M9 (41, i0, 0) 12 (x8 - (1 : Int32)) v13 (fun M14 => rd M14 (42, i0, 0) 12 x8 (fun v15 => wr M14 (42, i0, 0) 12 (x8 - (1 : Int32)) v15 (fun M16 => rd M16 (43, i0, 0) 12 x8 (fun v17 => wr M16 (43, i0, 0) 12 (x8 - (1 : Int32)) v17 (fun M18 => ix (x8 - (1 : Int32)) 12 (fun v19 => ix x8 12 (fun v20 => o1 (f_X10_assign N M18 (45, i0, v19) (45, i0, v20)) (fun M22 => lt (x8 + 1) (fun x23 => f_X3_takeOut_L18 N i0 J100 n10 x23 M22))))))))))))
def f_X3_takeOut (N : Nat) (M : gM) (i0 : Nat) (a1 : Int32) (a2 : Int32) : Option gM :=
  o1 (f_X3_indexOf N M i0 a1 a2) (fun v2 => (if v2 = (-1 : Int32) then some M else lt ((v2 + (1 : Int32))) (fun x4 => jn (fun (M5 : gM) => lt (M5 (40, i0, 0) 4) (fun v6 => lt (gset M5 (40, i0, 0) 4 (v6 - (1 : Int32))) (fun M7 => some M7))) (fun J100 => f_X3_takeOut_L18 N i0 J100 100 x4 M))))
set_option maxHeartbeats 4000000 in
set_option maxRecDepth 100000 in
theorem t_X3_takeOut (l : Launch) (N : Nat) (D : va_G) (dA : Nat → ClassId) (A : gI → Nat) (hJ : gJ (cLive N) A) {M : gM} {i0 : Nat} {a1 : Int32} {a2 : Int32} (hi0 : cLive N (40, i0, 0)) {y : gM} (h : f_X3_takeOut N M i0 a1 a2 = some y) : cMv l yX3_takeOut wmX3_takeOut ({ frames := 1, cells := 0, slots := 0, locals := 23 } : Room) N D dA A [.ref (A (40, i0, 0)), .int a1, .int a2] M y := by
  refine Met.ofW (cc := cX3_takeOut) (maxL := 5) (ret := none) (by decide) rfl ?_
  intro p e s m args below meth c s₁ B hml hv
  obtain ⟨rfl, hP, hK, hN⟩ := hv
  generalize hargs : ([.ref (A (40, i0, 0)), .int a1, .int a2] : List Value).toArray = args at B ⊢
  have S : CallFix p m c cX3_takeOut 5 s args wmX3_takeOut RX3 := ⟨B.exec, B.bytes, hml, findClass_of_methodNamed B.named, atoms_spec (ws := wmX3_takeOut) B.pre⟩
  obtain ⟨hx, hb, -, hown, hts⟩ := id S
  have hr := B.returns
  have hlocks := B.notSynchronized
  have X : gX D vwCl dA (cLive N) A (gA (cLive N) A) s := ⟨hK, hJ, fun i hi => ⟨i, hi, rfl⟩⟩
  have Z : gZ D (cLay N) dA (cLive N) A (gA (cLive N) A) s.heap M s.heap [] := ⟨hP, va_S.rf⟩
  have hin_X3 : ∀ w ∈ wsX30, w ∈ wmX3_takeOut := cin_X3
  have hl_9 := hts (.fieldLink RX3 9 "ReplicaFiles$Log" "kind" "[I") (cBc 29 rfl)
  have hl_15 := hts (.fieldLink RX3 15 "ReplicaFiles$Log" "object" "[I") (cBc 30 rfl)
  have hl_18 := hts (.fieldLink RX3 18 "ReplicaFiles$Log" "directory" "[I") (cBc 31 rfl)
  have hl_23 := hts (.fieldLink RX3 23 "ReplicaFiles$Log" "counts" "[[I") (cBc 33 rfl)
  have hl_26 := hts (.fieldLink RX3 26 "ReplicaFiles$Log" "length" "I") (cBc 132 rfl)
  have hl := lv_entry ([.ref (A (40, i0, 0)), .int a1, .int a2]) (n := 5) (Nat.le_of_ble_eq_true rfl)
  rw [← hargs, lg_entry_eq, hargs]
  generalize (lg_sl ([.ref (A (40, i0, 0)), .int a1, .int a2]) ++ List.replicate (5 - (lg_sl ([.ref (A (40, i0, 0)), .int a1, .int a2])).length) Slot.unset).toArray = ls at hl ⊢
  have hl : lv_has ls 5 [(0, .ref (A (40, i0, 0))), (1, .int a1), (2, .int a2)] := hl
  unfold f_X3_takeOut at h
  refine lv_aload_n hx hb dX3_takeOut_0 rfl (lv_at hl 0 rfl) ?_
  refine lv_iload_n hx hb dX3_takeOut_1 rfl (lv_at hl 1 rfl) ?_
  refine lv_iload_n hx hb dX3_takeOut_2 rfl (lv_at hl 2 rfl) ?_
  obtain ⟨v2, hc1, h⟩ := o1_e h
  refine c_i X Z (c_V (i := (40, i0, 0)) (As := [.int a1, .int a2]) (rest := []) S X hN Z hi0 rfl rfl (t_X3_indexOf l N D dA A hJ hi0 hc1) (cwV 2 hts (cGV (cB 153 rfl) (cB 141 rfl) (cB 142 rfl) (cB 48 rfl) (cB 131 rfl)) rfl rfl rfl (by decide +kernel) ⟨Nat.le_of_ble_eq_true rfl, Nat.le_of_ble_eq_true rfl⟩) rfl hl.1 rfl (Nat.le_of_ble_eq_true rfl) dX3_takeOut_3 ⟨Nat.zero_le _, Nat.zero_le _⟩) (fun H locs Z => ?_)
  refine lv_istore_n (lv' := [(3, .int v2), (0, .ref (A (40, i0, 0))), (1, .int a1), (2, .int a2)]) hx hb dX3_takeOut_6 rfl hl (by decide) rfl (fun ls hl => ?_)
  refine lv_iload_n hx hb dX3_takeOut_7 rfl (lv_at hl 0 rfl) ?_
  refine lv_iconst (v := (-1 : Int32)) hx hb dX3_takeOut_8 (by decide) ?_
  refine lv_icmp_ne (tgt := 13) hx hb dX3_takeOut_9 (by decide) (fun c3 => ?_) (fun c3 => ?_)
  · have h := if_f c3 h
    refine lv_iload_n hx hb dX3_takeOut_13 rfl (lv_at hl 0 rfl) ?_
    refine lv_iconst (v := (1 : Int32)) hx hb dX3_takeOut_14 (by decide) ?_
    refine lv_iadd hx hb dX3_takeOut_15 ?_
    refine g_topi h (fun x4 h => ?_)
    refine lv_istore (lv' := [(4, .int x4), (3, .int v2), (0, .ref (A (40, i0, 0))), (1, .int a1), (2, .int a2)]) hx hb dX3_takeOut_16 hl (by decide) rfl (fun ls hl => ?_)
    obtain ⟨J100, eJ100, h⟩ := jn_e h
    have hJ100 : ∀ (M5 : gM) (H : Heap) (locs : List Loc) (ls : Array Slot), gZ D (cLay N) dA (cLive N) A (gA (cLive N) A) s.heap M5 H locs → lv_has ls 5 [(0, .ref (A (40, i0, 0)))] → J100 M5 = some y → W p l e (headSpec wmX3_takeOut ({ frames := 1, cells := 0, slots := 0, locals := 23 } : Room)).room s m args below meth c H locs 0 0 (MQ below (cQv N D dA A y) args s 0 0 (gA (cLive N) A)) (F0 m 100 ls []) := by
      intro M5 H locs ls Z hl h
      rw [eJ100] at h
      try dsimp only at h
      refine lv_aload_n hx hb dX3_takeOut_100 rfl (lv_at hl 0 rfl) ?_
      refine lv_dup hx hb dX3_takeOut_101 rfl ?_
      refine cr_X3_length (a := i0) S X Z hin_X3 hi0 hl_26 dX3_takeOut_102 h (fun v6 h => ?_)
      refine lv_iconst (v := (1 : Int32)) hx hb dX3_takeOut_105 (by decide) ?_
      refine lv_isub hx hb dX3_takeOut_106 ?_
      refine cp_X3_length (a := i0) S X Z hin_X3 hi0 hl_26 dX3_takeOut_107 h (fun M7 H locs Z h => ?_)
      have hy := Option.some.inj h
      subst hy
      exact g_rv S Z hr hlocks dX3_takeOut_110
    have hL18 : ∀ (n : Nat) (x8 : Int32) (M9 : gM) (H : Heap) (locs : List Loc) (ls : Array Slot), gZ D (cLay N) dA (cLive N) A (gA (cLive N) A) s.heap M9 H locs → lv_has ls 5 [(0, .ref (A (40, i0, 0))), (4, .int x8)] → f_X3_takeOut_L18 N i0 J100 n x8 M9 = some y → W p l e (headSpec wmX3_takeOut ({ frames := 1, cells := 0, slots := 0, locals := 23 } : Room)).room s m args below meth c H locs 0 0 (MQ below (cQv N D dA A y) args s 0 0 (gA (cLive N) A)) (F0 m 18 ls []) := by
      intro n
      induction n with
      | zero =>
        intro x8 M9 H locs ls Z hl h
        rw [f_X3_takeOut_L18] at h
        cases h
      | succ n10 ih18 =>
        intro x8 M9 H locs ls Z hl h
        rw [f_X3_takeOut_L18] at h
        refine lv_iload hx hb dX3_takeOut_18 (lv_at hl 1 rfl) ?_
        refine lv_aload_n hx hb dX3_takeOut_20 rfl (lv_at hl 0 rfl) ?_
        refine cr_X3_length (a := i0) S X Z hin_X3 hi0 hl_26 dX3_takeOut_21 h (fun v11 h => ?_)
        refine lv_icmp_ge (tgt := 100) hx hb dX3_takeOut_24 (by decide) (fun c12 => ?_) (fun c12 => ?_)
        · have h := if_t c12 h
          exact hJ100 M9 _ _ _ Z (lv_sub hl [0] rfl) h
        · have h := if_f c12 h
          refine lv_aload_n hx hb dX3_takeOut_27 rfl (lv_at hl 0 rfl) ?_
          refine cr_X3_kind (a := i0) S X Z hin_X3 hi0 hl_9 dX3_takeOut_28 ?_
          refine lv_iload hx hb dX3_takeOut_31 (lv_at hl 1 rfl) ?_
          refine lv_iconst (v := (1 : Int32)) hx hb dX3_takeOut_33 (by decide) ?_
          refine lv_isub hx hb dX3_takeOut_34 ?_
          refine lv_aload_n hx hb dX3_takeOut_35 rfl (lv_at hl 0 rfl) ?_
          refine cr_X3_kind (a := i0) S X Z hin_X3 hi0 hl_9 dX3_takeOut_36 ?_
          refine lv_iload hx hb dX3_takeOut_39 (lv_at hl 1 rfl) ?_
          refine g_iald (i := (41, i0, 0)) (n := 12) S X Z (cl_X3_kind hi0) rfl dX3_takeOut_41 h (fun v13 h => ?_)
          refine g_iast (i := (41, i0, 0)) (n := 12) S X Z (cl_X3_kind hi0) rfl dX3_takeOut_42 h (fun M14 H locs Z h => ?_)
          refine lv_aload_n hx hb dX3_takeOut_43 rfl (lv_at hl 0 rfl) ?_
          refine cr_X3_object (a := i0) S X Z hin_X3 hi0 hl_15 dX3_takeOut_44 ?_
          refine lv_iload hx hb dX3_takeOut_47 (lv_at hl 1 rfl) ?_
          refine lv_iconst (v := (1 : Int32)) hx hb dX3_takeOut_49 (by decide) ?_
          refine lv_isub hx hb dX3_takeOut_50 ?_
          refine lv_aload_n hx hb dX3_takeOut_51 rfl (lv_at hl 0 rfl) ?_
          refine cr_X3_object (a := i0) S X Z hin_X3 hi0 hl_15 dX3_takeOut_52 ?_
          refine lv_iload hx hb dX3_takeOut_55 (lv_at hl 1 rfl) ?_
          refine g_iald (i := (42, i0, 0)) (n := 12) S X Z (cl_X3_object hi0) rfl dX3_takeOut_57 h (fun v15 h => ?_)
          refine g_iast (i := (42, i0, 0)) (n := 12) S X Z (cl_X3_object hi0) rfl dX3_takeOut_58 h (fun M16 H locs Z h => ?_)
          refine lv_aload_n hx hb dX3_takeOut_59 rfl (lv_at hl 0 rfl) ?_
          refine cr_X3_directory (a := i0) S X Z hin_X3 hi0 hl_18 dX3_takeOut_60 ?_
          refine lv_iload hx hb dX3_takeOut_63 (lv_at hl 1 rfl) ?_
          refine lv_iconst (v := (1 : Int32)) hx hb dX3_takeOut_65 (by decide) ?_
          refine lv_isub hx hb dX3_takeOut_66 ?_
          refine lv_aload_n hx hb dX3_takeOut_67 rfl (lv_at hl 0 rfl) ?_
          refine cr_X3_directory (a := i0) S X Z hin_X3 hi0 hl_18 dX3_takeOut_68 ?_
          refine lv_iload hx hb dX3_takeOut_71 (lv_at hl 1 rfl) ?_
          refine g_iald (i := (43, i0, 0)) (n := 12) S X Z (cl_X3_directory hi0) rfl dX3_takeOut_73 h (fun v17 h => ?_)
          refine g_iast (i := (43, i0, 0)) (n := 12) S X Z (cl_X3_directory hi0) rfl dX3_takeOut_74 h (fun M18 H locs Z h => ?_)
          refine lv_aload_n hx hb dX3_takeOut_75 rfl (lv_at hl 0 rfl) ?_
          refine cr_X3_counts (a := i0) S X Z hin_X3 hi0 hl_23 dX3_takeOut_76 ?_
          refine lv_iload hx hb dX3_takeOut_79 (lv_at hl 1 rfl) ?_
          refine lv_iconst (v := (1 : Int32)) hx hb dX3_takeOut_81 (by decide) ?_
          refine lv_isub hx hb dX3_takeOut_82 ?_
          refine g_aald (i := (44, i0, 0)) (ca := 5) ⟨rfl, rfl⟩ S X Z (cl_X3_counts hi0) rfl dX3_takeOut_83 h (fun v19 hv19 h => ?_)
          refine lv_aload_n hx hb dX3_takeOut_84 rfl (lv_at hl 0 rfl) ?_
          refine cr_X3_counts (a := i0) S X Z hin_X3 hi0 hl_23 dX3_takeOut_85 ?_
          refine lv_iload hx hb dX3_takeOut_88 (lv_at hl 1 rfl) ?_
          refine g_aald (i := (44, i0, 0)) (ca := 5) ⟨rfl, rfl⟩ S X Z (cl_X3_counts hi0) rfl dX3_takeOut_90 h (fun v20 hv20 h => ?_)
          obtain ⟨M22, hc21, h⟩ := o1_e h
          refine c_v X Z (c_SN (As := [.ref (A (45, i0, v19)), .ref (A (45, i0, v20))]) (rest := []) S X hN Z (t_X10_assign l N D dA A hJ ⟨(cl_45 (cl_X3_counts hi0) hv19), rfl⟩ ⟨(cl_45 (cl_X3_counts hi0) hv20), rfl⟩ hc21) ⟨va_cnB 2 hts (cG (cB 104 rfl)) rfl rfl rfl (hN.2 ("ReplicaFiles$Log", 34, yX10_assign, "ReplicaFiles") (by decide +kernel)) (hts (.initialized RX10) (cBc 107 rfl)) (by decide +kernel) ⟨Nat.le_of_ble_eq_true rfl, Nat.le_of_ble_eq_true rfl⟩, hts (.static yX10_assign) (cBc 106 rfl), trivial⟩ rfl hl.1 rfl (Nat.le_of_ble_eq_true rfl) dX3_takeOut_91 ⟨Nat.zero_le _, Nat.zero_le _⟩) (fun H locs Z => ?_)
          obtain ⟨x23, ex23, h⟩ := lt_e h
          refine lv_iinc (v := x23) (lv' := [(4, .int x23), (0, .ref (A (40, i0, 0)))]) hx hb dX3_takeOut_94 hl (k := 1) rfl (by rw [ex23]; rfl) (by decide) rfl (fun ls hl => ?_)
          refine lv_goto (tgt := 18) hx hb dX3_takeOut_97 (by decide) ?_
          exact ih18 x23 M22 _ _ _ Z (lv_sub hl [1, 0] rfl) h
    exact hL18 100 x4 M _ _ _ Z (lv_sub hl [2, 0] rfl) h
  · have h := if_t c3 h
    have hy := Option.some.inj h
    subst hy
    exact g_rv S Z hr hlocks dX3_takeOut_12
-- X8_forgetEntry (I)V: 12 instructions
theorem dX8_forgetEntry_0 : decode cX8_forgetEntry 0 = .ok (.aload_n 0, 1) := by decide +kernel
theorem dX8_forgetEntry_1 : decode cX8_forgetEntry 1 = .ok (.getfield 22, 3) := by decide +kernel
theorem dX8_forgetEntry_4 : decode cX8_forgetEntry 4 = .ok (.iload_n 1, 1) := by decide +kernel
theorem dX8_forgetEntry_5 : decode cX8_forgetEntry 5 = .ok (.iconst 0, 1) := by decide +kernel
theorem dX8_forgetEntry_6 : decode cX8_forgetEntry 6 = .ok (.iastore, 1) := by decide +kernel
theorem dX8_forgetEntry_7 : decode cX8_forgetEntry 7 = .ok (.aload_n 0, 1) := by decide +kernel
theorem dX8_forgetEntry_8 : decode cX8_forgetEntry 8 = .ok (.getfield 34, 3) := by decide +kernel
theorem dX8_forgetEntry_11 : decode cX8_forgetEntry 11 = .ok (.iload_n 1, 1) := by decide +kernel
theorem dX8_forgetEntry_12 : decode cX8_forgetEntry 12 = .ok (.aaload, 1) := by decide +kernel
theorem dX8_forgetEntry_13 : decode cX8_forgetEntry 13 = .ok (.iconst 0, 1) := by decide +kernel
theorem dX8_forgetEntry_14 : decode cX8_forgetEntry 14 = .ok (.invokestatic 41, 3) := by decide +kernel
theorem dX8_forgetEntry_17 : decode cX8_forgetEntry 17 = .ok (.return_, 1) := by decide +kernel
abbrev wmX8_forgetEntry : List Cond := .code yX8_forgetEntry cX8_forgetEntry 2 none :: cBig
def f_X8_forgetEntry (N : Nat) (M : gM) (i0 : Nat) (a1 : Int32) : Option gM :=
  wr M (56, i0, 0) 48 a1 (0 : Int32) (fun M1 => ix a1 48 (fun v2 => o1 (f_J7_fill_53178 N M1 (58, i0, v2) (0 : Int32)) (fun M4 => some M4)))
set_option maxHeartbeats 4000000 in
set_option maxRecDepth 100000 in
theorem t_X8_forgetEntry (l : Launch) (N : Nat) (D : va_G) (dA : Nat → ClassId) (A : gI → Nat) (hJ : gJ (cLive N) A) {M : gM} {i0 : Nat} {a1 : Int32} (hi0 : cLive N (50, i0, 0)) {y : gM} (h : f_X8_forgetEntry N M i0 a1 = some y) : cMv l yX8_forgetEntry wmX8_forgetEntry ({ frames := 1, cells := 0, slots := 0, locals := 23 } : Room) N D dA A [.ref (A (50, i0, 0)), .int a1] M y := by
  refine Met.ofW (cc := cX8_forgetEntry) (maxL := 2) (ret := none) (by decide) rfl ?_
  intro p e s m args below meth c s₁ B hml hv
  obtain ⟨rfl, hP, hK, hN⟩ := hv
  generalize hargs : ([.ref (A (50, i0, 0)), .int a1] : List Value).toArray = args at B ⊢
  have S : CallFix p m c cX8_forgetEntry 2 s args wmX8_forgetEntry RX8 := ⟨B.exec, B.bytes, hml, findClass_of_methodNamed B.named, atoms_spec (ws := wmX8_forgetEntry) B.pre⟩
  obtain ⟨hx, hb, -, hown, hts⟩ := id S
  have hr := B.returns
  have hlocks := B.notSynchronized
  have X : gX D vwCl dA (cLive N) A (gA (cLive N) A) s := ⟨hK, hJ, fun i hi => ⟨i, hi, rfl⟩⟩
  have Z : gZ D (cLay N) dA (cLive N) A (gA (cLive N) A) s.heap M s.heap [] := ⟨hP, va_S.rf⟩
  have hin_X8 : ∀ w ∈ wsX80, w ∈ wmX8_forgetEntry := cin_X8
  have hl_22 := hts (.fieldLink RX8 22 "ReplicaFiles$Tree" "state" "[I") (cBc 22 rfl)
  have hl_34 := hts (.fieldLink RX8 34 "ReplicaFiles$Tree" "goneCounts" "[[I") (cBc 26 rfl)
  have hl := lv_entry ([.ref (A (50, i0, 0)), .int a1]) (n := 2) (Nat.le_of_ble_eq_true rfl)
  rw [← hargs, lg_entry_eq, hargs]
  generalize (lg_sl ([.ref (A (50, i0, 0)), .int a1]) ++ List.replicate (2 - (lg_sl ([.ref (A (50, i0, 0)), .int a1])).length) Slot.unset).toArray = ls at hl ⊢
  have hl : lv_has ls 2 [(0, .ref (A (50, i0, 0))), (1, .int a1)] := hl
  unfold f_X8_forgetEntry at h
  refine lv_aload_n hx hb dX8_forgetEntry_0 rfl (lv_at hl 0 rfl) ?_
  refine cr_X8_state (a := i0) S X Z hin_X8 hi0 hl_22 dX8_forgetEntry_1 ?_
  refine lv_iload_n hx hb dX8_forgetEntry_4 rfl (lv_at hl 1 rfl) ?_
  refine lv_iconst (v := (0 : Int32)) hx hb dX8_forgetEntry_5 (by decide) ?_
  refine g_iast (i := (56, i0, 0)) (n := 48) S X Z (cl_X8_state hi0) rfl dX8_forgetEntry_6 h (fun M1 H locs Z h => ?_)
  refine lv_aload_n hx hb dX8_forgetEntry_7 rfl (lv_at hl 0 rfl) ?_
  refine cr_X8_goneCounts (a := i0) S X Z hin_X8 hi0 hl_34 dX8_forgetEntry_8 ?_
  refine lv_iload_n hx hb dX8_forgetEntry_11 rfl (lv_at hl 1 rfl) ?_
  refine g_aald (i := (57, i0, 0)) (ca := 5) ⟨rfl, rfl⟩ S X Z (cl_X8_goneCounts hi0) rfl dX8_forgetEntry_12 h (fun v2 hv2 h => ?_)
  refine lv_iconst (v := (0 : Int32)) hx hb dX8_forgetEntry_13 (by decide) ?_
  obtain ⟨M4, hc3, h⟩ := o1_e h
  refine c_v X Z (c_S (As := [.ref (A (58, i0, v2)), .int (0 : Int32)]) (rest := []) S X hN Z (t_J7_fill_53178 l N D dA A hJ ⟨(cl_58 (cl_X8_goneCounts hi0) hv2), rfl⟩ hc3) (va_cwS 2 hts (cGS (cB 73 rfl) (cB 74 rfl) (cB 75 rfl) (cB 68 rfl)) rfl rfl rfl (by decide +kernel) ⟨Nat.le_of_ble_eq_true rfl, Nat.le_of_ble_eq_true rfl⟩) rfl hl.1 rfl (Nat.le_of_ble_eq_true rfl) dX8_forgetEntry_14 ⟨Nat.zero_le _, Nat.zero_le _⟩) (fun H locs Z => ?_)
  have hy := Option.some.inj h
  subst hy
  exact g_rv S Z hr hlocks dX8_forgetEntry_17
-- X1_undoMake (I)V: 34 instructions
theorem dX1_undoMake_0 : decode cX1_undoMake 0 = .ok (.aload_n 0, 1) := by decide +kernel
theorem dX1_undoMake_1 : decode cX1_undoMake 1 = .ok (.getfield 50, 3) := by decide +kernel
theorem dX1_undoMake_4 : decode cX1_undoMake 4 = .ok (.iconst 1, 1) := by decide +kernel
theorem dX1_undoMake_5 : decode cX1_undoMake 5 = .ok (.iload_n 1, 1) := by decide +kernel
theorem dX1_undoMake_6 : decode cX1_undoMake 6 = .ok (.invokevirtual 148, 3) := by decide +kernel
theorem dX1_undoMake_9 : decode cX1_undoMake 9 = .ok (.aload_n 0, 1) := by decide +kernel
theorem dX1_undoMake_10 : decode cX1_undoMake 10 = .ok (.getfield 50, 3) := by decide +kernel
theorem dX1_undoMake_13 : decode cX1_undoMake 13 = .ok (.iconst 0, 1) := by decide +kernel
theorem dX1_undoMake_14 : decode cX1_undoMake 14 = .ok (.iload_n 1, 1) := by decide +kernel
theorem dX1_undoMake_15 : decode cX1_undoMake 15 = .ok (.invokevirtual 148, 3) := by decide +kernel
theorem dX1_undoMake_18 : decode cX1_undoMake 18 = .ok (.aload_n 0, 1) := by decide +kernel
theorem dX1_undoMake_19 : decode cX1_undoMake 19 = .ok (.getfield 41, 3) := by decide +kernel
theorem dX1_undoMake_22 : decode cX1_undoMake 22 = .ok (.iload_n 1, 1) := by decide +kernel
theorem dX1_undoMake_23 : decode cX1_undoMake 23 = .ok (.invokevirtual 155, 3) := by decide +kernel
theorem dX1_undoMake_26 : decode cX1_undoMake 26 = .ok (.aload_n 0, 1) := by decide +kernel
theorem dX1_undoMake_27 : decode cX1_undoMake 27 = .ok (.iload_n 1, 1) := by decide +kernel
theorem dX1_undoMake_28 : decode cX1_undoMake 28 = .ok (.invokevirtual 97, 3) := by decide +kernel
theorem dX1_undoMake_31 : decode cX1_undoMake 31 = .ok (.iconst 0, 1) := by decide +kernel
theorem dX1_undoMake_32 : decode cX1_undoMake 32 = .ok (.istore_n 2, 1) := by decide +kernel
theorem dX1_undoMake_33 : decode cX1_undoMake 33 = .ok (.iload_n 2, 1) := by decide +kernel
theorem dX1_undoMake_34 : decode cX1_undoMake 34 = .ok (.bipush 48, 2) := by decide +kernel
theorem dX1_undoMake_36 : decode cX1_undoMake 36 = .ok (.if_icmp .ge 26, 3) := by decide +kernel
theorem dX1_undoMake_39 : decode cX1_undoMake 39 = .ok (.aload_n 0, 1) := by decide +kernel
theorem dX1_undoMake_40 : decode cX1_undoMake 40 = .ok (.getfield 50, 3) := by decide +kernel
theorem dX1_undoMake_43 : decode cX1_undoMake 43 = .ok (.getfield 158, 3) := by decide +kernel
theorem dX1_undoMake_46 : decode cX1_undoMake 46 = .ok (.ifCond .ne 16, 3) := by decide +kernel
theorem dX1_undoMake_49 : decode cX1_undoMake 49 = .ok (.aload_n 0, 1) := by decide +kernel
theorem dX1_undoMake_50 : decode cX1_undoMake 50 = .ok (.getfield 18, 3) := by decide +kernel
theorem dX1_undoMake_53 : decode cX1_undoMake 53 = .ok (.iload_n 2, 1) := by decide +kernel
theorem dX1_undoMake_54 : decode cX1_undoMake 54 = .ok (.iconst 0, 1) := by decide +kernel
theorem dX1_undoMake_55 : decode cX1_undoMake 55 = .ok (.bastore, 1) := by decide +kernel
theorem dX1_undoMake_56 : decode cX1_undoMake 56 = .ok (.iinc 2 1, 3) := by decide +kernel
theorem dX1_undoMake_59 : decode cX1_undoMake 59 = .ok (.goto (-26), 3) := by decide +kernel
theorem dX1_undoMake_62 : decode cX1_undoMake 62 = .ok (.return_, 1) := by decide +kernel
abbrev wmX1_undoMake : List Cond := .code yX1_undoMake cX1_undoMake 3 none :: cBig
def f_X1_undoMake_L33 (N : Nat) (i0 : Nat) : Nat → Int32 → gM → Option gM
  | 0, _, _ => none
  | n11 + 1, x9, M10 => (if (48 : Int32) ≤ x9 then some M10 else lt (M10 (40, i0, 0) 4) (fun v13 => (if v13 = 0 then wz M10 (33, i0, 0) 48 x9 (0 : Int32) (fun M15 => lt (x9 + 1) (fun x16 => f_X1_undoMake_L33 N i0 n11 x16 M15)) else some M10)))
def f_X1_undoMake (N : Nat) (M : gM) (i0 : Nat) (a1 : Int32) : Option gM :=
  o1 (f_X3_takeOut N M i0 (1 : Int32) a1) (fun M2 => o1 (f_X3_takeOut N M2 i0 (0 : Int32) a1) (fun M4 => o1 (f_X8_forgetEntry N M4 (4 + i0) a1) (fun M6 => o1 (f_X1_drop N M6 i0 a1) (fun M8 => f_X1_undoMake_L33 N i0 100 (0 : Int32) M8))))
set_option maxHeartbeats 4000000 in
set_option maxRecDepth 100000 in
theorem t_X1_undoMake (l : Launch) (N : Nat) (D : va_G) (dA : Nat → ClassId) (A : gI → Nat) (hJ : gJ (cLive N) A) {M : gM} {i0 : Nat} {a1 : Int32} (hi0 : cLive N (30, i0, 0)) {y : gM} (h : f_X1_undoMake N M i0 a1 = some y) : cMv l yX1_undoMake wmX1_undoMake ({ frames := 3, cells := 0, slots := 0, locals := 66 } : Room) N D dA A [.ref (A (30, i0, 0)), .int a1] M y := by
  refine Met.ofW (cc := cX1_undoMake) (maxL := 3) (ret := none) (by decide) rfl ?_
  intro p e s m args below meth c s₁ B hml hv
  obtain ⟨rfl, hP, hK, hN⟩ := hv
  generalize hargs : ([.ref (A (30, i0, 0)), .int a1] : List Value).toArray = args at B ⊢
  have S : CallFix p m c cX1_undoMake 3 s args wmX1_undoMake RX1 := ⟨B.exec, B.bytes, hml, findClass_of_methodNamed B.named, atoms_spec (ws := wmX1_undoMake) B.pre⟩
  obtain ⟨hx, hb, -, hown, hts⟩ := id S
  have hr := B.returns
  have hlocks := B.notSynchronized
  have X : gX D vwCl dA (cLive N) A (gA (cLive N) A) s := ⟨hK, hJ, fun i hi => ⟨i, hi, rfl⟩⟩
  have Z : gZ D (cLay N) dA (cLive N) A (gA (cLive N) A) s.heap M s.heap [] := ⟨hP, va_S.rf⟩
  have hin_X1 : ∀ w ∈ wsX10, w ∈ wmX1_undoMake := cin_X1
  have hin_X3 : ∀ w ∈ wsX30, w ∈ wmX1_undoMake := cin_X3
  have hl_18 := hts (.fieldLink RX1 18 "ReplicaFiles$Client" "dirty" "[Z") (cBc 37 rfl)
  have hl_41 := hts (.fieldLink RX1 41 "ReplicaFiles$Client" "tree" "LReplicaFiles$Tree;") (cBc 45 rfl)
  have hl_50 := hts (.fieldLink RX1 50 "ReplicaFiles$Client" "log" "LReplicaFiles$Log;") (cBc 49 rfl)
  have hl_158 := va_Nw.use (A := args) rfl (hN.1 ("ReplicaFiles$Client", 158, "ReplicaFiles$Log", "length", "I", "ReplicaFiles") (by decide +kernel))
  have hl := lv_entry ([.ref (A (30, i0, 0)), .int a1]) (n := 3) (Nat.le_of_ble_eq_true rfl)
  rw [← hargs, lg_entry_eq, hargs]
  generalize (lg_sl ([.ref (A (30, i0, 0)), .int a1]) ++ List.replicate (3 - (lg_sl ([.ref (A (30, i0, 0)), .int a1])).length) Slot.unset).toArray = ls at hl ⊢
  have hl : lv_has ls 3 [(0, .ref (A (30, i0, 0))), (1, .int a1)] := hl
  unfold f_X1_undoMake at h
  refine lv_aload_n hx hb dX1_undoMake_0 rfl (lv_at hl 0 rfl) ?_
  refine cr_X1_log (a := i0) S X Z hin_X1 hi0 hl_50 dX1_undoMake_1 ?_
  refine lv_iconst (v := (1 : Int32)) hx hb dX1_undoMake_4 (by decide) ?_
  refine lv_iload_n hx hb dX1_undoMake_5 rfl (lv_at hl 1 rfl) ?_
  obtain ⟨M2, hc1, h⟩ := o1_e h
  refine c_v X Z (c_V (i := (40, i0, 0)) (As := [.int (1 : Int32), .int a1]) (rest := []) S X hN Z (cl_X1_log hi0) rfl rfl (t_X3_takeOut l N D dA A hJ (cl_X1_log hi0) hc1) (cwV 2 hts (cGV (cB 155 rfl) (cB 156 rfl) (cB 157 rfl) (cB 48 rfl) (cB 152 rfl)) rfl rfl rfl (by decide +kernel) ⟨Nat.le_of_ble_eq_true rfl, Nat.le_of_ble_eq_true rfl⟩) rfl hl.1 rfl (Nat.le_of_ble_eq_true rfl) dX1_undoMake_6 ⟨Nat.zero_le _, Nat.zero_le _⟩) (fun H locs Z => ?_)
  refine lv_aload_n hx hb dX1_undoMake_9 rfl (lv_at hl 0 rfl) ?_
  refine cr_X1_log (a := i0) S X Z hin_X1 hi0 hl_50 dX1_undoMake_10 ?_
  refine lv_iconst (v := (0 : Int32)) hx hb dX1_undoMake_13 (by decide) ?_
  refine lv_iload_n hx hb dX1_undoMake_14 rfl (lv_at hl 1 rfl) ?_
  obtain ⟨M4, hc3, h⟩ := o1_e h
  refine c_v X Z (c_V (i := (40, i0, 0)) (As := [.int (0 : Int32), .int a1]) (rest := []) S X hN Z (cl_X1_log hi0) rfl rfl (t_X3_takeOut l N D dA A hJ (cl_X1_log hi0) hc3) (cwV 2 hts (cGV (cB 155 rfl) (cB 156 rfl) (cB 157 rfl) (cB 48 rfl) (cB 152 rfl)) rfl rfl rfl (by decide +kernel) ⟨Nat.le_of_ble_eq_true rfl, Nat.le_of_ble_eq_true rfl⟩) rfl hl.1 rfl (Nat.le_of_ble_eq_true rfl) dX1_undoMake_15 ⟨Nat.zero_le _, Nat.zero_le _⟩) (fun H locs Z => ?_)
  refine lv_aload_n hx hb dX1_undoMake_18 rfl (lv_at hl 0 rfl) ?_
  refine cr_X1_tree (a := i0) S X Z hin_X1 hi0 hl_41 dX1_undoMake_19 ?_
  refine lv_iload_n hx hb dX1_undoMake_22 rfl (lv_at hl 1 rfl) ?_
  obtain ⟨M6, hc5, h⟩ := o1_e h
  refine c_v X Z (c_V (i := (50, (4 + i0), 0)) (As := [.int a1]) (rest := []) S X hN Z (cl_ct hi0) rfl rfl (t_X8_forgetEntry l N D dA A hJ (cl_ct hi0) hc5) (cwV 1 hts (cGV (cB 158 rfl) (cB 159 rfl) (cB 160 rfl) (cB 44 rfl) (cB 154 rfl)) rfl rfl rfl (by decide +kernel) ⟨Nat.le_of_ble_eq_true rfl, Nat.le_of_ble_eq_true rfl⟩) rfl hl.1 rfl (Nat.le_of_ble_eq_true rfl) dX1_undoMake_23 ⟨Nat.zero_le _, Nat.zero_le _⟩) (fun H locs Z => ?_)
  refine lv_aload_n hx hb dX1_undoMake_26 rfl (lv_at hl 0 rfl) ?_
  refine lv_iload_n hx hb dX1_undoMake_27 rfl (lv_at hl 1 rfl) ?_
  obtain ⟨M8, hc7, h⟩ := o1_e h
  refine c_v X Z (c_V (i := (30, i0, 0)) (As := [.int a1]) (rest := []) S X hN Z hi0 rfl rfl (t_X1_drop l N D dA A hJ hi0 hc7) (cwV 1 hts (cGV (cB 100 rfl) (cB 101 rfl) (cB 102 rfl) (cB 64 rfl) (cB 76 rfl)) rfl rfl rfl (by decide +kernel) ⟨Nat.le_of_ble_eq_true rfl, Nat.le_of_ble_eq_true rfl⟩) rfl hl.1 rfl (Nat.le_of_ble_eq_true rfl) dX1_undoMake_28 ⟨Nat.zero_le _, Nat.zero_le _⟩) (fun H locs Z => ?_)
  refine lv_iconst (v := (0 : Int32)) hx hb dX1_undoMake_31 (by decide) ?_
  refine lv_istore_n (lv' := [(2, .int (0 : Int32)), (0, .ref (A (30, i0, 0))), (1, .int a1)]) hx hb dX1_undoMake_32 rfl hl (by decide) rfl (fun ls hl => ?_)
  have hL33 : ∀ (n : Nat) (x9 : Int32) (M10 : gM) (H : Heap) (locs : List Loc) (ls : Array Slot), gZ D (cLay N) dA (cLive N) A (gA (cLive N) A) s.heap M10 H locs → lv_has ls 3 [(0, .ref (A (30, i0, 0))), (2, .int x9)] → f_X1_undoMake_L33 N i0 n x9 M10 = some y → W p l e (headSpec wmX1_undoMake ({ frames := 3, cells := 0, slots := 0, locals := 66 } : Room)).room s m args below meth c H locs 0 0 (MQ below (cQv N D dA A y) args s 0 0 (gA (cLive N) A)) (F0 m 33 ls []) := by
    intro n
    induction n with
    | zero =>
      intro x9 M10 H locs ls Z hl h
      rw [f_X1_undoMake_L33] at h
      cases h
    | succ n11 ih33 =>
      intro x9 M10 H locs ls Z hl h
      rw [f_X1_undoMake_L33] at h
      refine lv_iload_n hx hb dX1_undoMake_33 rfl (lv_at hl 1 rfl) ?_
      refine lv_bipush (v := (48 : Int32)) hx hb dX1_undoMake_34 (by decide) ?_
      refine lv_icmp_ge (tgt := 62) hx hb dX1_undoMake_36 (by decide) (fun c12 => ?_) (fun c12 => ?_)
      · have h := if_t c12 h
        have hy := Option.some.inj h
        subst hy
        exact g_rv S Z hr hlocks dX1_undoMake_62
      · have h := if_f c12 h
        refine lv_aload_n hx hb dX1_undoMake_39 rfl (lv_at hl 0 rfl) ?_
        refine cr_X1_log (a := i0) S X Z hin_X1 hi0 hl_50 dX1_undoMake_40 ?_
        refine cn_X3_length (a := i0) S X Z hin_X3 (cl_X1_log hi0) hl_158 dX1_undoMake_43 h (fun v13 h => ?_)
        refine lv_if_ne (tgt := 62) hx hb dX1_undoMake_46 (by decide) (fun c14 => ?_) (fun c14 => ?_)
        · have h := if_f c14 h
          have hy := Option.some.inj h
          subst hy
          exact g_rv S Z hr hlocks dX1_undoMake_62
        · have h := if_t c14 h
          refine lv_aload_n hx hb dX1_undoMake_49 rfl (lv_at hl 0 rfl) ?_
          refine cr_X1_dirty (a := i0) S X Z hin_X1 hi0 hl_18 dX1_undoMake_50 ?_
          refine lv_iload_n hx hb dX1_undoMake_53 rfl (lv_at hl 1 rfl) ?_
          refine lv_iconst (v := (0 : Int32)) hx hb dX1_undoMake_54 (by decide) ?_
          refine g_zast (i := (33, i0, 0)) (n := 48) S X Z (cl_X1_dirty hi0) rfl dX1_undoMake_55 h (fun M15 H locs Z h => ?_)
          obtain ⟨x16, ex16, h⟩ := lt_e h
          refine lv_iinc (v := x16) (lv' := [(2, .int x16), (0, .ref (A (30, i0, 0)))]) hx hb dX1_undoMake_56 hl (k := 1) rfl (by rw [ex16]; rfl) (by decide) rfl (fun ls hl => ?_)
          refine lv_goto (tgt := 33) hx hb dX1_undoMake_59 (by decide) ?_
          exact ih33 x16 M15 _ _ _ Z (lv_sub hl [1, 0] rfl) h
  exact hL33 100 (0 : Int32) M8 _ _ _ Z (lv_sub hl [1, 0] rfl) h
-- X1_removeAlone (II)J: 52 instructions
theorem dX1_removeAlone_0 : decode cX1_removeAlone 0 = .ok (.aload_n 0, 1) := by decide +kernel
theorem dX1_removeAlone_1 : decode cX1_removeAlone 1 = .ok (.getfield 50, 3) := by decide +kernel
theorem dX1_removeAlone_4 : decode cX1_removeAlone 4 = .ok (.iconst 1, 1) := by decide +kernel
theorem dX1_removeAlone_5 : decode cX1_removeAlone 5 = .ok (.iload_n 2, 1) := by decide +kernel
theorem dX1_removeAlone_6 : decode cX1_removeAlone 6 = .ok (.invokevirtual 126, 3) := by decide +kernel
theorem dX1_removeAlone_9 : decode cX1_removeAlone 9 = .ok (.iconst (-1), 1) := by decide +kernel
theorem dX1_removeAlone_10 : decode cX1_removeAlone 10 = .ok (.if_icmp .eq 10, 3) := by decide +kernel
theorem dX1_removeAlone_13 : decode cX1_removeAlone 13 = .ok (.aload_n 0, 1) := by decide +kernel
theorem dX1_removeAlone_14 : decode cX1_removeAlone 14 = .ok (.iload_n 2, 1) := by decide +kernel
theorem dX1_removeAlone_15 : decode cX1_removeAlone 15 = .ok (.invokevirtual 145, 3) := by decide +kernel
theorem dX1_removeAlone_18 : decode cX1_removeAlone 18 = .ok (.lconst 0, 1) := by decide +kernel
theorem dX1_removeAlone_19 : decode cX1_removeAlone 19 = .ok (.lreturn, 1) := by decide +kernel
theorem dX1_removeAlone_20 : decode cX1_removeAlone 20 = .ok (.aload_n 0, 1) := by decide +kernel
theorem dX1_removeAlone_21 : decode cX1_removeAlone 21 = .ok (.getfield 50, 3) := by decide +kernel
theorem dX1_removeAlone_24 : decode cX1_removeAlone 24 = .ok (.invokevirtual 129, 3) := by decide +kernel
theorem dX1_removeAlone_27 : decode cX1_removeAlone 27 = .ok (.ifCond .eq 20, 3) := by decide +kernel
theorem dX1_removeAlone_30 : decode cX1_removeAlone 30 = .ok (.aload_n 0, 1) := by decide +kernel
theorem dX1_removeAlone_31 : decode cX1_removeAlone 31 = .ok (.getfield 50, 3) := by decide +kernel
theorem dX1_removeAlone_34 : decode cX1_removeAlone 34 = .ok (.iconst 0, 1) := by decide +kernel
theorem dX1_removeAlone_35 : decode cX1_removeAlone 35 = .ok (.iload_n 2, 1) := by decide +kernel
theorem dX1_removeAlone_36 : decode cX1_removeAlone 36 = .ok (.invokevirtual 126, 3) := by decide +kernel
theorem dX1_removeAlone_39 : decode cX1_removeAlone 39 = .ok (.iconst (-1), 1) := by decide +kernel
theorem dX1_removeAlone_40 : decode cX1_removeAlone 40 = .ok (.if_icmp .ne 7, 3) := by decide +kernel
theorem dX1_removeAlone_43 : decode cX1_removeAlone 43 = .ok (.ldc2_w 133, 3) := by decide +kernel
theorem dX1_removeAlone_46 : decode cX1_removeAlone 46 = .ok (.lreturn, 1) := by decide +kernel
theorem dX1_removeAlone_47 : decode cX1_removeAlone 47 = .ok (.aload_n 0, 1) := by decide +kernel
theorem dX1_removeAlone_48 : decode cX1_removeAlone 48 = .ok (.getfield 50, 3) := by decide +kernel
theorem dX1_removeAlone_51 : decode cX1_removeAlone 51 = .ok (.iconst 0, 1) := by decide +kernel
theorem dX1_removeAlone_52 : decode cX1_removeAlone 52 = .ok (.iload_n 2, 1) := by decide +kernel
theorem dX1_removeAlone_53 : decode cX1_removeAlone 53 = .ok (.invokevirtual 148, 3) := by decide +kernel
theorem dX1_removeAlone_56 : decode cX1_removeAlone 56 = .ok (.aload_n 0, 1) := by decide +kernel
theorem dX1_removeAlone_57 : decode cX1_removeAlone 57 = .ok (.getfield 50, 3) := by decide +kernel
theorem dX1_removeAlone_60 : decode cX1_removeAlone 60 = .ok (.iconst 2, 1) := by decide +kernel
theorem dX1_removeAlone_61 : decode cX1_removeAlone 61 = .ok (.iload_n 2, 1) := by decide +kernel
theorem dX1_removeAlone_62 : decode cX1_removeAlone 62 = .ok (.iload_n 1, 1) := by decide +kernel
theorem dX1_removeAlone_63 : decode cX1_removeAlone 63 = .ok (.aload_n 0, 1) := by decide +kernel
theorem dX1_removeAlone_64 : decode cX1_removeAlone 64 = .ok (.getfield 41, 3) := by decide +kernel
theorem dX1_removeAlone_67 : decode cX1_removeAlone 67 = .ok (.getfield 118, 3) := by decide +kernel
theorem dX1_removeAlone_70 : decode cX1_removeAlone 70 = .ok (.iload_n 2, 1) := by decide +kernel
theorem dX1_removeAlone_71 : decode cX1_removeAlone 71 = .ok (.aaload, 1) := by decide +kernel
theorem dX1_removeAlone_72 : decode cX1_removeAlone 72 = .ok (.invokevirtual 137, 3) := by decide +kernel
theorem dX1_removeAlone_75 : decode cX1_removeAlone 75 = .ok (.aload_n 0, 1) := by decide +kernel
theorem dX1_removeAlone_76 : decode cX1_removeAlone 76 = .ok (.iload_n 1, 1) := by decide +kernel
theorem dX1_removeAlone_77 : decode cX1_removeAlone 77 = .ok (.iload_n 2, 1) := by decide +kernel
theorem dX1_removeAlone_78 : decode cX1_removeAlone 78 = .ok (.invokevirtual 152, 3) := by decide +kernel
theorem dX1_removeAlone_81 : decode cX1_removeAlone 81 = .ok (.aload_n 0, 1) := by decide +kernel
theorem dX1_removeAlone_82 : decode cX1_removeAlone 82 = .ok (.getfield 18, 3) := by decide +kernel
theorem dX1_removeAlone_85 : decode cX1_removeAlone 85 = .ok (.iload_n 1, 1) := by decide +kernel
theorem dX1_removeAlone_86 : decode cX1_removeAlone 86 = .ok (.iconst 1, 1) := by decide +kernel
theorem dX1_removeAlone_87 : decode cX1_removeAlone 87 = .ok (.bastore, 1) := by decide +kernel
theorem dX1_removeAlone_88 : decode cX1_removeAlone 88 = .ok (.lconst 0, 1) := by decide +kernel
theorem dX1_removeAlone_89 : decode cX1_removeAlone 89 = .ok (.lreturn, 1) := by decide +kernel
abbrev wmX1_removeAlone : List Cond := .code yX1_removeAlone cX1_removeAlone 3 (some .long) :: cBig
def f_X1_removeAlone (N : Nat) (M : gM) (i0 : Nat) (a1 : Int32) (a2 : Int32) : Option (Int64 × gM) :=
  o1 (f_X3_indexOf N M i0 (1 : Int32) a2) (fun v2 => (if v2 = (-1 : Int32) then o1 (f_X3_isFull N M i0) (fun v5 => jn (fun (M6 : gM) => o1 (f_X3_takeOut N M6 i0 (0 : Int32) a2) (fun M8 => ix a2 48 (fun v9 => o1 (f_X3_add N M8 i0 (2 : Int32) a2 a1 (55, (4 + i0), v9)) (fun M11 => o1 (f_X1_dropRemoved N M11 i0 a1 a2) (fun M13 => wz M13 (33, i0, 0) 48 a1 (1 : Int32) (fun M14 => some ((0 : Int64), M14))))))) (fun J47 => (if v5 = 0 then J47 M else o1 (f_X3_indexOf N M i0 (0 : Int32) a2) (fun v17 => (if v17 = (-1 : Int32) then some ((-2199023255557 : Int64), M) else J47 M))))) else o1 (f_X1_undoMake N M i0 a2) (fun M20 => some ((0 : Int64), M20))))
set_option maxHeartbeats 4000000 in
set_option maxRecDepth 100000 in
theorem t_X1_removeAlone (l : Launch) (N : Nat) (D : va_G) (dA : Nat → ClassId) (A : gI → Nat) (hJ : gJ (cLive N) A) {M : gM} {i0 : Nat} {a1 : Int32} {a2 : Int32} (hi0 : cLive N (30, i0, 0)) {y : (Int64 × gM)} (h : f_X1_removeAlone N M i0 a1 a2 = some y) : cMl l yX1_removeAlone wmX1_removeAlone ({ frames := 4, cells := 0, slots := 0, locals := 88 } : Room) N D dA A [.ref (A (30, i0, 0)), .int a1, .int a2] M y.1 y.2 := by
  refine Met.ofW (cc := cX1_removeAlone) (maxL := 3) (ret := (some .long)) (by decide) rfl ?_
  intro p e s m args below meth c s₁ B hml hv
  obtain ⟨rfl, hP, hK, hN⟩ := hv
  generalize hargs : ([.ref (A (30, i0, 0)), .int a1, .int a2] : List Value).toArray = args at B ⊢
  have S : CallFix p m c cX1_removeAlone 3 s args wmX1_removeAlone RX1 := ⟨B.exec, B.bytes, hml, findClass_of_methodNamed B.named, atoms_spec (ws := wmX1_removeAlone) B.pre⟩
  obtain ⟨hx, hb, -, hown, hts⟩ := id S
  have hr := B.returns
  have hlocks := B.notSynchronized
  have X : gX D vwCl dA (cLive N) A (gA (cLive N) A) s := ⟨hK, hJ, fun i hi => ⟨i, hi, rfl⟩⟩
  have Z : gZ D (cLay N) dA (cLive N) A (gA (cLive N) A) s.heap M s.heap [] := ⟨hP, va_S.rf⟩
  have hin_X1 : ∀ w ∈ wsX10, w ∈ wmX1_removeAlone := cin_X1
  have hin_X8 : ∀ w ∈ wsX80, w ∈ wmX1_removeAlone := cin_X8
  have hl_18 := hts (.fieldLink RX1 18 "ReplicaFiles$Client" "dirty" "[Z") (cBc 37 rfl)
  have hl_41 := hts (.fieldLink RX1 41 "ReplicaFiles$Client" "tree" "LReplicaFiles$Tree;") (cBc 45 rfl)
  have hl_50 := hts (.fieldLink RX1 50 "ReplicaFiles$Client" "log" "LReplicaFiles$Log;") (cBc 49 rfl)
  have hl_118 := va_Nw.use (A := args) rfl (hN.1 ("ReplicaFiles$Client", 118, "ReplicaFiles$Tree", "counts", "[[I", "ReplicaFiles") (by decide +kernel))
  have hc_133 := hts (.constantLong RX1 133 (-2199023255557)) (cBc 138 rfl)
  have hl := lv_entry ([.ref (A (30, i0, 0)), .int a1, .int a2]) (n := 3) (Nat.le_of_ble_eq_true rfl)
  rw [← hargs, lg_entry_eq, hargs]
  generalize (lg_sl ([.ref (A (30, i0, 0)), .int a1, .int a2]) ++ List.replicate (3 - (lg_sl ([.ref (A (30, i0, 0)), .int a1, .int a2])).length) Slot.unset).toArray = ls at hl ⊢
  have hl : lv_has ls 3 [(0, .ref (A (30, i0, 0))), (1, .int a1), (2, .int a2)] := hl
  unfold f_X1_removeAlone at h
  refine lv_aload_n hx hb dX1_removeAlone_0 rfl (lv_at hl 0 rfl) ?_
  refine cr_X1_log (a := i0) S X Z hin_X1 hi0 hl_50 dX1_removeAlone_1 ?_
  refine lv_iconst (v := (1 : Int32)) hx hb dX1_removeAlone_4 (by decide) ?_
  refine lv_iload_n hx hb dX1_removeAlone_5 rfl (lv_at hl 2 rfl) ?_
  obtain ⟨v2, hc1, h⟩ := o1_e h
  refine c_i X Z (c_V (i := (40, i0, 0)) (As := [.int (1 : Int32), .int a2]) (rest := []) S X hN Z (cl_X1_log hi0) rfl rfl (t_X3_indexOf l N D dA A hJ (cl_X1_log hi0) hc1) (cwV 2 hts (cGV (cB 140 rfl) (cB 141 rfl) (cB 142 rfl) (cB 48 rfl) (cB 131 rfl)) rfl rfl rfl (by decide +kernel) ⟨Nat.le_of_ble_eq_true rfl, Nat.le_of_ble_eq_true rfl⟩) rfl hl.1 rfl (Nat.le_of_ble_eq_true rfl) dX1_removeAlone_6 ⟨Nat.zero_le _, Nat.zero_le _⟩) (fun H locs Z => ?_)
  refine lv_iconst (v := (-1 : Int32)) hx hb dX1_removeAlone_9 (by decide) ?_
  refine lv_icmp_eq (tgt := 20) hx hb dX1_removeAlone_10 (by decide) (fun c3 => ?_) (fun c3 => ?_)
  · have h := if_t c3 h
    refine lv_aload_n hx hb dX1_removeAlone_20 rfl (lv_at hl 0 rfl) ?_
    refine cr_X1_log (a := i0) S X Z hin_X1 hi0 hl_50 dX1_removeAlone_21 ?_
    obtain ⟨v5, hc4, h⟩ := o1_e h
    refine c_i X Z (c_V (i := (40, i0, 0)) (As := []) (rest := []) S X hN Z (cl_X1_log hi0) rfl rfl (t_X3_isFull l N D dA A hJ (cl_X1_log hi0) hc4) (cwV 0 hts (cGV (cB 143 rfl) (cB 136 rfl) (cB 137 rfl) (cB 48 rfl) (cB 133 rfl)) rfl rfl rfl (by decide +kernel) ⟨Nat.le_of_ble_eq_true rfl, Nat.le_of_ble_eq_true rfl⟩) rfl hl.1 rfl (Nat.le_of_ble_eq_true rfl) dX1_removeAlone_24 ⟨Nat.zero_le _, Nat.zero_le _⟩) (fun H locs Z => ?_)
    obtain ⟨J47, eJ47, h⟩ := jn_e h
    have hJ47 : ∀ (M6 : gM) (H : Heap) (locs : List Loc) (ls : Array Slot), gZ D (cLay N) dA (cLive N) A (gA (cLive N) A) s.heap M6 H locs → lv_has ls 3 [(0, .ref (A (30, i0, 0))), (1, .int a1), (2, .int a2)] → J47 M6 = some y → W p l e (headSpec wmX1_removeAlone ({ frames := 4, cells := 0, slots := 0, locals := 88 } : Room)).room s m args below meth c H locs 0 0 (MQ below (cQl N D dA A y) args s 0 0 (gA (cLive N) A)) (F0 m 47 ls []) := by
      intro M6 H locs ls Z hl h
      rw [eJ47] at h
      try dsimp only at h
      refine lv_aload_n hx hb dX1_removeAlone_47 rfl (lv_at hl 0 rfl) ?_
      refine cr_X1_log (a := i0) S X Z hin_X1 hi0 hl_50 dX1_removeAlone_48 ?_
      refine lv_iconst (v := (0 : Int32)) hx hb dX1_removeAlone_51 (by decide) ?_
      refine lv_iload_n hx hb dX1_removeAlone_52 rfl (lv_at hl 2 rfl) ?_
      obtain ⟨M8, hc7, h⟩ := o1_e h
      refine c_v X Z (c_V (i := (40, i0, 0)) (As := [.int (0 : Int32), .int a2]) (rest := []) S X hN Z (cl_X1_log hi0) rfl rfl (t_X3_takeOut l N D dA A hJ (cl_X1_log hi0) hc7) (cwV 2 hts (cGV (cB 155 rfl) (cB 156 rfl) (cB 157 rfl) (cB 48 rfl) (cB 152 rfl)) rfl rfl rfl (by decide +kernel) ⟨Nat.le_of_ble_eq_true rfl, Nat.le_of_ble_eq_true rfl⟩) rfl hl.1 rfl (Nat.le_of_ble_eq_true rfl) dX1_removeAlone_53 ⟨Nat.zero_le _, Nat.zero_le _⟩) (fun H locs Z => ?_)
      refine lv_aload_n hx hb dX1_removeAlone_56 rfl (lv_at hl 0 rfl) ?_
      refine cr_X1_log (a := i0) S X Z hin_X1 hi0 hl_50 dX1_removeAlone_57 ?_
      refine lv_iconst (v := (2 : Int32)) hx hb dX1_removeAlone_60 (by decide) ?_
      refine lv_iload_n hx hb dX1_removeAlone_61 rfl (lv_at hl 2 rfl) ?_
      refine lv_iload_n hx hb dX1_removeAlone_62 rfl (lv_at hl 1 rfl) ?_
      refine lv_aload_n hx hb dX1_removeAlone_63 rfl (lv_at hl 0 rfl) ?_
      refine cr_X1_tree (a := i0) S X Z hin_X1 hi0 hl_41 dX1_removeAlone_64 ?_
      refine cn_X8_counts (a := (4 + i0)) S X Z hin_X8 (cl_ct hi0) hl_118 dX1_removeAlone_67 ?_
      refine lv_iload_n hx hb dX1_removeAlone_70 rfl (lv_at hl 2 rfl) ?_
      refine g_aald (i := (54, (4 + i0), 0)) (ca := 5) ⟨rfl, rfl⟩ S X Z (cl_X8_counts (cl_ct hi0)) rfl dX1_removeAlone_71 h (fun v9 hv9 h => ?_)
      obtain ⟨M11, hc10, h⟩ := o1_e h
      refine c_v X Z (c_V (i := (40, i0, 0)) (As := [.int (2 : Int32), .int a2, .int a1, .ref (A (55, (4 + i0), v9))]) (rest := []) S X hN Z (cl_X1_log hi0) rfl rfl (t_X3_add l N D dA A hJ (cl_X1_log hi0) ⟨(cl_55 (cl_X8_counts (cl_ct hi0)) hv9), rfl⟩ hc10) (cwV 4 hts (cGV (cB 144 rfl) (cB 145 rfl) (cB 146 rfl) (cB 48 rfl) (cB 134 rfl)) rfl rfl rfl (by decide +kernel) ⟨Nat.le_of_ble_eq_true rfl, Nat.le_of_ble_eq_true rfl⟩) rfl hl.1 rfl (Nat.le_of_ble_eq_true rfl) dX1_removeAlone_72 ⟨Nat.zero_le _, Nat.zero_le _⟩) (fun H locs Z => ?_)
      refine lv_aload_n hx hb dX1_removeAlone_75 rfl (lv_at hl 0 rfl) ?_
      refine lv_iload_n hx hb dX1_removeAlone_76 rfl (lv_at hl 1 rfl) ?_
      refine lv_iload_n hx hb dX1_removeAlone_77 rfl (lv_at hl 2 rfl) ?_
      obtain ⟨M13, hc12, h⟩ := o1_e h
      refine c_v X Z (c_V (i := (30, i0, 0)) (As := [.int a1, .int a2]) (rest := []) S X hN Z hi0 rfl rfl (t_X1_dropRemoved l N D dA A hJ hi0 hc12) (cwV 2 hts (cGV (cB 165 rfl) (cB 166 rfl) (cB 167 rfl) (cB 64 rfl) (cB 130 rfl)) rfl rfl rfl (by decide +kernel) ⟨Nat.le_of_ble_eq_true rfl, Nat.le_of_ble_eq_true rfl⟩) rfl hl.1 rfl (Nat.le_of_ble_eq_true rfl) dX1_removeAlone_78 ⟨Nat.zero_le _, Nat.zero_le _⟩) (fun H locs Z => ?_)
      refine lv_aload_n hx hb dX1_removeAlone_81 rfl (lv_at hl 0 rfl) ?_
      refine cr_X1_dirty (a := i0) S X Z hin_X1 hi0 hl_18 dX1_removeAlone_82 ?_
      refine lv_iload_n hx hb dX1_removeAlone_85 rfl (lv_at hl 1 rfl) ?_
      refine lv_iconst (v := (1 : Int32)) hx hb dX1_removeAlone_86 (by decide) ?_
      refine g_zast (i := (33, i0, 0)) (n := 48) S X Z (cl_X1_dirty hi0) rfl dX1_removeAlone_87 h (fun M14 H locs Z h => ?_)
      refine lv_lconst (v := (0 : Int64)) hx hb dX1_removeAlone_88 (by decide) ?_
      have hy := Option.some.inj h
      subst hy
      exact g_rl S Z hr hlocks dX1_removeAlone_89
    refine lv_if_eq (tgt := 47) hx hb dX1_removeAlone_27 (by decide) (fun c15 => ?_) (fun c15 => ?_)
    · have h := if_t c15 h
      exact hJ47 M _ _ _ Z (lv_sub hl [0, 1, 2] rfl) h
    · have h := if_f c15 h
      refine lv_aload_n hx hb dX1_removeAlone_30 rfl (lv_at hl 0 rfl) ?_
      refine cr_X1_log (a := i0) S X Z hin_X1 hi0 hl_50 dX1_removeAlone_31 ?_
      refine lv_iconst (v := (0 : Int32)) hx hb dX1_removeAlone_34 (by decide) ?_
      refine lv_iload_n hx hb dX1_removeAlone_35 rfl (lv_at hl 2 rfl) ?_
      obtain ⟨v17, hc16, h⟩ := o1_e h
      refine c_i X Z (c_V (i := (40, i0, 0)) (As := [.int (0 : Int32), .int a2]) (rest := []) S X hN Z (cl_X1_log hi0) rfl rfl (t_X3_indexOf l N D dA A hJ (cl_X1_log hi0) hc16) (cwV 2 hts (cGV (cB 140 rfl) (cB 141 rfl) (cB 142 rfl) (cB 48 rfl) (cB 131 rfl)) rfl rfl rfl (by decide +kernel) ⟨Nat.le_of_ble_eq_true rfl, Nat.le_of_ble_eq_true rfl⟩) rfl hl.1 rfl (Nat.le_of_ble_eq_true rfl) dX1_removeAlone_36 ⟨Nat.zero_le _, Nat.zero_le _⟩) (fun H locs Z => ?_)
      refine lv_iconst (v := (-1 : Int32)) hx hb dX1_removeAlone_39 (by decide) ?_
      refine lv_icmp_ne (tgt := 47) hx hb dX1_removeAlone_40 (by decide) (fun c18 => ?_) (fun c18 => ?_)
      · have h := if_f c18 h
        exact hJ47 M _ _ _ Z (lv_sub hl [0, 1, 2] rfl) h
      · have h := if_t c18 h
        refine lv_ldc2 hx hb hown hc_133 dX1_removeAlone_43 ?_
        have hy := Option.some.inj h
        subst hy
        exact g_rl S Z hr hlocks dX1_removeAlone_46
  · have h := if_f c3 h
    refine lv_aload_n hx hb dX1_removeAlone_13 rfl (lv_at hl 0 rfl) ?_
    refine lv_iload_n hx hb dX1_removeAlone_14 rfl (lv_at hl 2 rfl) ?_
    obtain ⟨M20, hc19, h⟩ := o1_e h
    refine c_v X Z (c_V (i := (30, i0, 0)) (As := [.int a2]) (rest := []) S X hN Z hi0 rfl rfl (t_X1_undoMake l N D dA A hJ hi0 hc19) (cwV 1 hts (cGV (cB 162 rfl) (cB 163 rfl) (cB 164 rfl) (cB 64 rfl) (cB 161 rfl)) rfl rfl rfl (by decide +kernel) ⟨Nat.le_of_ble_eq_true rfl, Nat.le_of_ble_eq_true rfl⟩) rfl hl.1 rfl (Nat.le_of_ble_eq_true rfl) dX1_removeAlone_15 ⟨Nat.zero_le _, Nat.zero_le _⟩) (fun H locs Z => ?_)
    refine lv_lconst (v := (0 : Int64)) hx hb dX1_removeAlone_18 (by decide) ?_
    have hy := Option.some.inj h
    subst hy
    exact g_rl S Z hr hlocks dX1_removeAlone_19
-- X1_endLog ()V: 22 instructions
theorem dX1_endLog_0 : decode cX1_endLog 0 = .ok (.aload_n 0, 1) := by decide +kernel
theorem dX1_endLog_1 : decode cX1_endLog 1 = .ok (.getfield 50, 3) := by decide +kernel
theorem dX1_endLog_4 : decode cX1_endLog 4 = .ok (.iconst 0, 1) := by decide +kernel
theorem dX1_endLog_5 : decode cX1_endLog 5 = .ok (.putfield 158, 3) := by decide +kernel
theorem dX1_endLog_8 : decode cX1_endLog 8 = .ok (.iconst 0, 1) := by decide +kernel
theorem dX1_endLog_9 : decode cX1_endLog 9 = .ok (.istore_n 1, 1) := by decide +kernel
theorem dX1_endLog_10 : decode cX1_endLog 10 = .ok (.iload_n 1, 1) := by decide +kernel
theorem dX1_endLog_11 : decode cX1_endLog 11 = .ok (.aload_n 0, 1) := by decide +kernel
theorem dX1_endLog_12 : decode cX1_endLog 12 = .ok (.getfield 29, 3) := by decide +kernel
theorem dX1_endLog_15 : decode cX1_endLog 15 = .ok (.getfield 83, 3) := by decide +kernel
theorem dX1_endLog_18 : decode cX1_endLog 18 = .ok (.if_icmp .gt 23, 3) := by decide +kernel
theorem dX1_endLog_21 : decode cX1_endLog 21 = .ok (.aload_n 0, 1) := by decide +kernel
theorem dX1_endLog_22 : decode cX1_endLog 22 = .ok (.getfield 18, 3) := by decide +kernel
theorem dX1_endLog_25 : decode cX1_endLog 25 = .ok (.iload_n 1, 1) := by decide +kernel
theorem dX1_endLog_26 : decode cX1_endLog 26 = .ok (.baload, 1) := by decide +kernel
theorem dX1_endLog_27 : decode cX1_endLog 27 = .ok (.ifCond .eq 8, 3) := by decide +kernel
theorem dX1_endLog_30 : decode cX1_endLog 30 = .ok (.aload_n 0, 1) := by decide +kernel
theorem dX1_endLog_31 : decode cX1_endLog 31 = .ok (.iload_n 1, 1) := by decide +kernel
theorem dX1_endLog_32 : decode cX1_endLog 32 = .ok (.invokevirtual 97, 3) := by decide +kernel
theorem dX1_endLog_35 : decode cX1_endLog 35 = .ok (.iinc 1 1, 3) := by decide +kernel
theorem dX1_endLog_38 : decode cX1_endLog 38 = .ok (.goto (-28), 3) := by decide +kernel
theorem dX1_endLog_41 : decode cX1_endLog 41 = .ok (.return_, 1) := by decide +kernel
abbrev wmX1_endLog : List Cond := .code yX1_endLog cX1_endLog 2 none :: cBig
def f_X1_endLog_L10 (N : Nat) (i0 : Nat) : Nat → Int32 → gM → Option gM
  | 0, _, _ => none
  | n4 + 1, x2, M3 => lt (M3 (1, 0, 0) 3) (fun v5 => (if v5 < x2 then some M3 else rd M3 (33, i0, 0) 48 x2 (fun v7 => jn (fun (M8 : gM) => lt (x2 + 1) (fun x9 => f_X1_endLog_L10 N i0 n4 x9 M8)) (fun J35 => (if v7 = 0 then J35 M3 else o1 (f_X1_drop N M3 i0 x2) (fun M12 => J35 M12))))))
def f_X1_endLog (N : Nat) (M : gM) (i0 : Nat) : Option gM :=
  lt (gset M (40, i0, 0) 4 (0 : Int32)) (fun M1 => f_X1_endLog_L10 N i0 100 (0 : Int32) M1)
set_option maxHeartbeats 4000000 in
set_option maxRecDepth 100000 in
theorem t_X1_endLog (l : Launch) (N : Nat) (D : va_G) (dA : Nat → ClassId) (A : gI → Nat) (hJ : gJ (cLive N) A) {M : gM} {i0 : Nat} (hi0 : cLive N (30, i0, 0)) {y : gM} (h : f_X1_endLog N M i0 = some y) : cMv l yX1_endLog wmX1_endLog ({ frames := 3, cells := 0, slots := 0, locals := 66 } : Room) N D dA A [.ref (A (30, i0, 0))] M y := by
  refine Met.ofW (cc := cX1_endLog) (maxL := 2) (ret := none) (by decide) rfl ?_
  intro p e s m args below meth c s₁ B hml hv
  obtain ⟨rfl, hP, hK, hN⟩ := hv
  generalize hargs : ([.ref (A (30, i0, 0))] : List Value).toArray = args at B ⊢
  have S : CallFix p m c cX1_endLog 2 s args wmX1_endLog RX1 := ⟨B.exec, B.bytes, hml, findClass_of_methodNamed B.named, atoms_spec (ws := wmX1_endLog) B.pre⟩
  obtain ⟨hx, hb, -, hown, hts⟩ := id S
  have hr := B.returns
  have hlocks := B.notSynchronized
  have X : gX D vwCl dA (cLive N) A (gA (cLive N) A) s := ⟨hK, hJ, fun i hi => ⟨i, hi, rfl⟩⟩
  have Z : gZ D (cLay N) dA (cLive N) A (gA (cLive N) A) s.heap M s.heap [] := ⟨hP, va_S.rf⟩
  have hin_X0 : ∀ w ∈ wsX00, w ∈ wmX1_endLog := cin_X0
  have hin_X1 : ∀ w ∈ wsX10, w ∈ wmX1_endLog := cin_X1
  have hin_X3 : ∀ w ∈ wsX30, w ∈ wmX1_endLog := cin_X3
  have hl_18 := hts (.fieldLink RX1 18 "ReplicaFiles$Client" "dirty" "[Z") (cBc 37 rfl)
  have hl_29 := hts (.fieldLink RX1 29 "ReplicaFiles$Client" "catalog" "LReplicaFiles$Catalog;") (cBc 40 rfl)
  have hl_50 := hts (.fieldLink RX1 50 "ReplicaFiles$Client" "log" "LReplicaFiles$Log;") (cBc 49 rfl)
  have hl_83 := va_Nw.use (A := args) rfl (hN.1 ("ReplicaFiles$Client", 83, "ReplicaFiles$Catalog", "made", "I", "ReplicaFiles") (by decide +kernel))
  have hl_158 := va_Nw.use (A := args) rfl (hN.1 ("ReplicaFiles$Client", 158, "ReplicaFiles$Log", "length", "I", "ReplicaFiles") (by decide +kernel))
  have hl := lv_entry ([.ref (A (30, i0, 0))]) (n := 2) (Nat.le_of_ble_eq_true rfl)
  rw [← hargs, lg_entry_eq, hargs]
  generalize (lg_sl ([.ref (A (30, i0, 0))]) ++ List.replicate (2 - (lg_sl ([.ref (A (30, i0, 0))])).length) Slot.unset).toArray = ls at hl ⊢
  have hl : lv_has ls 2 [(0, .ref (A (30, i0, 0)))] := hl
  unfold f_X1_endLog at h
  refine lv_aload_n hx hb dX1_endLog_0 rfl (lv_at hl 0 rfl) ?_
  refine cr_X1_log (a := i0) S X Z hin_X1 hi0 hl_50 dX1_endLog_1 ?_
  refine lv_iconst (v := (0 : Int32)) hx hb dX1_endLog_4 (by decide) ?_
  refine cq_X3_length (a := i0) S X Z hin_X3 (cl_X1_log hi0) hl_158 dX1_endLog_5 h (fun M1 H locs Z h => ?_)
  refine lv_iconst (v := (0 : Int32)) hx hb dX1_endLog_8 (by decide) ?_
  refine lv_istore_n (lv' := [(1, .int (0 : Int32)), (0, .ref (A (30, i0, 0)))]) hx hb dX1_endLog_9 rfl hl (by decide) rfl (fun ls hl => ?_)
  have hL10 : ∀ (n : Nat) (x2 : Int32) (M3 : gM) (H : Heap) (locs : List Loc) (ls : Array Slot), gZ D (cLay N) dA (cLive N) A (gA (cLive N) A) s.heap M3 H locs → lv_has ls 2 [(0, .ref (A (30, i0, 0))), (1, .int x2)] → f_X1_endLog_L10 N i0 n x2 M3 = some y → W p l e (headSpec wmX1_endLog ({ frames := 3, cells := 0, slots := 0, locals := 66 } : Room)).room s m args below meth c H locs 0 0 (MQ below (cQv N D dA A y) args s 0 0 (gA (cLive N) A)) (F0 m 10 ls []) := by
    intro n
    induction n with
    | zero =>
      intro x2 M3 H locs ls Z hl h
      rw [f_X1_endLog_L10] at h
      cases h
    | succ n4 ih10 =>
      intro x2 M3 H locs ls Z hl h
      rw [f_X1_endLog_L10] at h
      refine lv_iload_n hx hb dX1_endLog_10 rfl (lv_at hl 1 rfl) ?_
      refine lv_aload_n hx hb dX1_endLog_11 rfl (lv_at hl 0 rfl) ?_
      refine cr_X1_catalog (a := i0) S X Z hin_X1 hi0 hl_29 dX1_endLog_12 ?_
      refine cn_X0_made S X Z hin_X0 (cl_one N 1 (by decide)) hl_83 dX1_endLog_15 h (fun v5 h => ?_)
      refine lv_icmp_gt (tgt := 41) hx hb dX1_endLog_18 (by decide) (fun c6 => ?_) (fun c6 => ?_)
      · have h := if_t c6 h
        have hy := Option.some.inj h
        subst hy
        exact g_rv S Z hr hlocks dX1_endLog_41
      · have h := if_f c6 h
        refine lv_aload_n hx hb dX1_endLog_21 rfl (lv_at hl 0 rfl) ?_
        refine cr_X1_dirty (a := i0) S X Z hin_X1 hi0 hl_18 dX1_endLog_22 ?_
        refine lv_iload_n hx hb dX1_endLog_25 rfl (lv_at hl 1 rfl) ?_
        refine g_zald (i := (33, i0, 0)) (n := 48) S X Z (cl_X1_dirty hi0) rfl dX1_endLog_26 h (fun v7 h => ?_)
        obtain ⟨J35, eJ35, h⟩ := jn_e h
        have hJ35 : ∀ (M8 : gM) (H : Heap) (locs : List Loc) (ls : Array Slot), gZ D (cLay N) dA (cLive N) A (gA (cLive N) A) s.heap M8 H locs → lv_has ls 2 [(0, .ref (A (30, i0, 0))), (1, .int x2)] → J35 M8 = some y → W p l e (headSpec wmX1_endLog ({ frames := 3, cells := 0, slots := 0, locals := 66 } : Room)).room s m args below meth c H locs 0 0 (MQ below (cQv N D dA A y) args s 0 0 (gA (cLive N) A)) (F0 m 35 ls []) := by
          intro M8 H locs ls Z hl h
          rw [eJ35] at h
          try dsimp only at h
          obtain ⟨x9, ex9, h⟩ := lt_e h
          refine lv_iinc (v := x9) (lv' := [(1, .int x9), (0, .ref (A (30, i0, 0)))]) hx hb dX1_endLog_35 hl (k := 1) rfl (by rw [ex9]; rfl) (by decide) rfl (fun ls hl => ?_)
          refine lv_goto (tgt := 10) hx hb dX1_endLog_38 (by decide) ?_
          exact ih10 x9 M8 _ _ _ Z (lv_sub hl [1, 0] rfl) h
        refine lv_if_eq (tgt := 35) hx hb dX1_endLog_27 (by decide) (fun c10 => ?_) (fun c10 => ?_)
        · have h := if_t c10 h
          exact hJ35 M3 _ _ _ Z (lv_sub hl [0, 1] rfl) h
        · have h := if_f c10 h
          refine lv_aload_n hx hb dX1_endLog_30 rfl (lv_at hl 0 rfl) ?_
          refine lv_iload_n hx hb dX1_endLog_31 rfl (lv_at hl 1 rfl) ?_
          obtain ⟨M12, hc11, h⟩ := o1_e h
          refine c_v X Z (c_V (i := (30, i0, 0)) (As := [.int x2]) (rest := []) S X hN Z hi0 rfl rfl (t_X1_drop l N D dA A hJ hi0 hc11) (cwV 1 hts (cGV (cB 100 rfl) (cB 101 rfl) (cB 102 rfl) (cB 64 rfl) (cB 76 rfl)) rfl rfl rfl (by decide +kernel) ⟨Nat.le_of_ble_eq_true rfl, Nat.le_of_ble_eq_true rfl⟩) rfl hl.1 rfl (Nat.le_of_ble_eq_true rfl) dX1_endLog_32 ⟨Nat.zero_le _, Nat.zero_le _⟩) (fun H locs Z => ?_)
          exact hJ35 M12 _ _ _ Z (lv_sub hl [0, 1] rfl) h
  exact hL10 100 (0 : Int32) M1 _ _ _ Z (lv_sub hl [1, 0] rfl) h
-- X10_isIn (II)Z: 10 instructions
theorem dX10_isIn_0 : decode cX10_isIn 0 = .ok (.iload_n 0, 1) := by decide +kernel
theorem dX10_isIn_1 : decode cX10_isIn 1 = .ok (.iload_n 1, 1) := by decide +kernel
theorem dX10_isIn_2 : decode cX10_isIn 2 = .ok (.ishr, 1) := by decide +kernel
theorem dX10_isIn_3 : decode cX10_isIn 3 = .ok (.iconst 1, 1) := by decide +kernel
theorem dX10_isIn_4 : decode cX10_isIn 4 = .ok (.iand, 1) := by decide +kernel
theorem dX10_isIn_5 : decode cX10_isIn 5 = .ok (.ifCond .eq 7, 3) := by decide +kernel
theorem dX10_isIn_8 : decode cX10_isIn 8 = .ok (.iconst 1, 1) := by decide +kernel
theorem dX10_isIn_9 : decode cX10_isIn 9 = .ok (.goto 4, 3) := by decide +kernel
theorem dX10_isIn_12 : decode cX10_isIn 12 = .ok (.iconst 0, 1) := by decide +kernel
theorem dX10_isIn_13 : decode cX10_isIn 13 = .ok (.ireturn, 1) := by decide +kernel
abbrev wmX10_isIn : List Cond := .code yX10_isIn cX10_isIn 2 (some .boolean) :: cBig
def f_X10_isIn (N : Nat) (M : gM) (a0 : Int32) (a1 : Int32) : Option Int32 :=
  (if ((a0 >>> (a1 &&& 31)) &&& (1 : Int32)) = 0 then some (0 : Int32) else some (1 : Int32))
set_option maxHeartbeats 4000000 in
set_option maxRecDepth 100000 in
theorem t_X10_isIn (l : Launch) (N : Nat) (D : va_G) (dA : Nat → ClassId) (A : gI → Nat) (hJ : gJ (cLive N) A) {M : gM} {a0 : Int32} {a1 : Int32}  {y : Int32} (h : f_X10_isIn N M a0 a1 = some y) : cMi l yX10_isIn wmX10_isIn ({ frames := 0, cells := 0, slots := 0, locals := 0 } : Room) N D dA A [.int a0, .int a1] M y M := by
  refine Met.ofW (cc := cX10_isIn) (maxL := 2) (ret := (some .boolean)) (by decide) rfl ?_
  intro p e s m args below meth c s₁ B hml hv
  obtain ⟨rfl, hP, hK, hN⟩ := hv
  generalize hargs : ([.int a0, .int a1] : List Value).toArray = args at B ⊢
  have S : CallFix p m c cX10_isIn 2 s args wmX10_isIn RX10 := ⟨B.exec, B.bytes, hml, findClass_of_methodNamed B.named, atoms_spec (ws := wmX10_isIn) B.pre⟩
  obtain ⟨hx, hb, -, hown, hts⟩ := id S
  have hr := B.returns
  have hlocks := B.notSynchronized
  have X : gX D vwCl dA (cLive N) A (gA (cLive N) A) s := ⟨hK, hJ, fun i hi => ⟨i, hi, rfl⟩⟩
  have Z : gZ D (cLay N) dA (cLive N) A (gA (cLive N) A) s.heap M s.heap [] := ⟨hP, va_S.rf⟩
  have hl := lv_entry ([.int a0, .int a1]) (n := 2) (Nat.le_of_ble_eq_true rfl)
  rw [← hargs, lg_entry_eq, hargs]
  generalize (lg_sl ([.int a0, .int a1]) ++ List.replicate (2 - (lg_sl ([.int a0, .int a1])).length) Slot.unset).toArray = ls at hl ⊢
  have hl : lv_has ls 2 [(0, .int a0), (1, .int a1)] := hl
  unfold f_X10_isIn at h
  refine lv_iload_n hx hb dX10_isIn_0 rfl (lv_at hl 0 rfl) ?_
  refine lv_iload_n hx hb dX10_isIn_1 rfl (lv_at hl 1 rfl) ?_
  refine lv_ishr hx hb dX10_isIn_2 ?_
  refine lv_iconst (v := (1 : Int32)) hx hb dX10_isIn_3 (by decide) ?_
  refine lv_iand hx hb dX10_isIn_4 ?_
  refine lv_if_eq (tgt := 12) hx hb dX10_isIn_5 (by decide) (fun c1 => ?_) (fun c1 => ?_)
  · have h := if_t c1 h
    refine lv_iconst (v := (0 : Int32)) hx hb dX10_isIn_12 (by decide) ?_
    have hy := Option.some.inj h
    subst hy
    exact g_rz (Or.inl rfl) S Z hr hlocks dX10_isIn_13
  · have h := if_f c1 h
    refine lv_iconst (v := (1 : Int32)) hx hb dX10_isIn_8 (by decide) ?_
    refine lv_goto (tgt := 13) hx hb dX10_isIn_9 (by decide) ?_
    have hy := Option.some.inj h
    subst hy
    exact g_rz (Or.inr rfl) S Z hr hlocks dX10_isIn_13
-- X6_leastOf (I)I: 17 instructions
theorem dX6_leastOf_0 : decode cX6_leastOf 0 = .ok (.iconst 0, 1) := by decide +kernel
theorem dX6_leastOf_1 : decode cX6_leastOf 1 = .ok (.istore_n 2, 1) := by decide +kernel
theorem dX6_leastOf_2 : decode cX6_leastOf 2 = .ok (.iload_n 2, 1) := by decide +kernel
theorem dX6_leastOf_3 : decode cX6_leastOf 3 = .ok (.aload_n 0, 1) := by decide +kernel
theorem dX6_leastOf_4 : decode cX6_leastOf 4 = .ok (.getfield 15, 3) := by decide +kernel
theorem dX6_leastOf_7 : decode cX6_leastOf 7 = .ok (.arraylength, 1) := by decide +kernel
theorem dX6_leastOf_8 : decode cX6_leastOf 8 = .ok (.if_icmp .ge 19, 3) := by decide +kernel
theorem dX6_leastOf_11 : decode cX6_leastOf 11 = .ok (.iload_n 1, 1) := by decide +kernel
theorem dX6_leastOf_12 : decode cX6_leastOf 12 = .ok (.iload_n 2, 1) := by decide +kernel
theorem dX6_leastOf_13 : decode cX6_leastOf 13 = .ok (.invokestatic 27, 3) := by decide +kernel
theorem dX6_leastOf_16 : decode cX6_leastOf 16 = .ok (.ifCond .eq 5, 3) := by decide +kernel
theorem dX6_leastOf_19 : decode cX6_leastOf 19 = .ok (.iload_n 2, 1) := by decide +kernel
theorem dX6_leastOf_20 : decode cX6_leastOf 20 = .ok (.ireturn, 1) := by decide +kernel
theorem dX6_leastOf_21 : decode cX6_leastOf 21 = .ok (.iinc 2 1, 3) := by decide +kernel
theorem dX6_leastOf_24 : decode cX6_leastOf 24 = .ok (.goto (-22), 3) := by decide +kernel
theorem dX6_leastOf_27 : decode cX6_leastOf 27 = .ok (.iconst 0, 1) := by decide +kernel
theorem dX6_leastOf_28 : decode cX6_leastOf 28 = .ok (.ireturn, 1) := by decide +kernel
abbrev wmX6_leastOf : List Cond := .code yX6_leastOf cX6_leastOf 3 (some .int) :: cBig
def f_X6_leastOf_L2 (N : Nat) (M2 : gM) (a1 : Int32) : Nat → Int32 → Option Int32
  | 0, _ => none
  | n3 + 1, x1 => (if (nI N) ≤ x1 then some (0 : Int32) else o1 (f_X10_isIn N M2 a1 x1) (fun v6 => (if v6 = 0 then lt (x1 + 1) (fun x8 => f_X6_leastOf_L2 N M2 a1 n3 x8) else some x1)))
def f_X6_leastOf (N : Nat) (M : gM) (a1 : Int32) : Option Int32 :=
  f_X6_leastOf_L2 N M a1 100 (0 : Int32)
set_option maxHeartbeats 4000000 in
set_option maxRecDepth 100000 in
theorem t_X6_leastOf (l : Launch) (N : Nat) (D : va_G) (dA : Nat → ClassId) (A : gI → Nat) (hJ : gJ (cLive N) A) {M : gM} {a1 : Int32}  {y : Int32} (h : f_X6_leastOf N M a1 = some y) : cMi l yX6_leastOf wmX6_leastOf ({ frames := 1, cells := 0, slots := 0, locals := 21 } : Room) N D dA A [.ref (A (10, 0, 0)), .int a1] M y M := by
  refine Met.ofW (cc := cX6_leastOf) (maxL := 3) (ret := (some .int)) (by decide) rfl ?_
  intro p e s m args below meth c s₁ B hml hv
  obtain ⟨rfl, hP, hK, hN⟩ := hv
  generalize hargs : ([.ref (A (10, 0, 0)), .int a1] : List Value).toArray = args at B ⊢
  have S : CallFix p m c cX6_leastOf 3 s args wmX6_leastOf RX6 := ⟨B.exec, B.bytes, hml, findClass_of_methodNamed B.named, atoms_spec (ws := wmX6_leastOf) B.pre⟩
  obtain ⟨hx, hb, -, hown, hts⟩ := id S
  have hr := B.returns
  have hlocks := B.notSynchronized
  have X : gX D vwCl dA (cLive N) A (gA (cLive N) A) s := ⟨hK, hJ, fun i hi => ⟨i, hi, rfl⟩⟩
  have Z : gZ D (cLay N) dA (cLive N) A (gA (cLive N) A) s.heap M s.heap [] := ⟨hP, va_S.rf⟩
  have hin_X6 : ∀ w ∈ wsX60, w ∈ wmX6_leastOf := cin_X6
  have hl_15 := hts (.fieldLink RX6 15 "ReplicaFiles$Replicas" "servers" "[LReplicaFiles$Server;") (cBc 177 rfl)
  have hl := lv_entry ([.ref (A (10, 0, 0)), .int a1]) (n := 3) (Nat.le_of_ble_eq_true rfl)
  rw [← hargs, lg_entry_eq, hargs]
  generalize (lg_sl ([.ref (A (10, 0, 0)), .int a1]) ++ List.replicate (3 - (lg_sl ([.ref (A (10, 0, 0)), .int a1])).length) Slot.unset).toArray = ls at hl ⊢
  have hl : lv_has ls 3 [(0, .ref (A (10, 0, 0))), (1, .int a1)] := hl
  unfold f_X6_leastOf at h
  refine lv_iconst (v := (0 : Int32)) hx hb dX6_leastOf_0 (by decide) ?_
  refine lv_istore_n (lv' := [(2, .int (0 : Int32)), (0, .ref (A (10, 0, 0))), (1, .int a1)]) hx hb dX6_leastOf_1 rfl hl (by decide) rfl (fun ls hl => ?_)
  have hL2 : ∀ (n : Nat) (x1 : Int32) (H : Heap) (locs : List Loc) (ls : Array Slot), gZ D (cLay N) dA (cLive N) A (gA (cLive N) A) s.heap M H locs → lv_has ls 3 [(0, .ref (A (10, 0, 0))), (1, .int a1), (2, .int x1)] → f_X6_leastOf_L2 N M a1 n x1 = some y → W p l e (headSpec wmX6_leastOf ({ frames := 1, cells := 0, slots := 0, locals := 21 } : Room)).room s m args below meth c H locs 0 0 (MQ below (cQi N D dA A (y, M)) args s 0 0 (gA (cLive N) A)) (F0 m 2 ls []) := by
    intro n
    induction n with
    | zero =>
      intro x1 H locs ls Z hl h
      rw [f_X6_leastOf_L2] at h
      cases h
    | succ n3 ih2 =>
      intro x1 H locs ls Z hl h
      rw [f_X6_leastOf_L2] at h
      refine lv_iload_n hx hb dX6_leastOf_2 rfl (lv_at hl 2 rfl) ?_
      refine lv_aload_n hx hb dX6_leastOf_3 rfl (lv_at hl 0 rfl) ?_
      refine cr_X6_servers S X Z hin_X6 (cl_one N 10 (by decide)) hl_15 dX6_leastOf_4 ?_
      refine g_alR (i := (7, 0, 0)) (ca := 2) rfl S X Z (cl_one N 7 (by decide)) rfl dX6_leastOf_7 ?_
      refine lv_icmp_ge (tgt := 27) hx hb dX6_leastOf_8 (by decide) (fun c4 => ?_) (fun c4 => ?_)
      · have h := if_t c4 h
        refine lv_iconst (v := (0 : Int32)) hx hb dX6_leastOf_27 (by decide) ?_
        have hy := Option.some.inj h
        subst hy
        exact g_ri S Z hr hlocks dX6_leastOf_28
      · have h := if_f c4 h
        refine lv_iload_n hx hb dX6_leastOf_11 rfl (lv_at hl 1 rfl) ?_
        refine lv_iload_n hx hb dX6_leastOf_12 rfl (lv_at hl 2 rfl) ?_
        obtain ⟨v6, hc5, h⟩ := o1_e h
        refine c_i X Z (c_SN (As := [.int a1, .int x1]) (rest := []) S X hN Z (t_X10_isIn l N D dA A hJ  hc5) ⟨va_cnB 2 hts (cG (cB 175 rfl)) rfl rfl rfl (hN.2 ("ReplicaFiles$Replicas", 27, yX10_isIn, "ReplicaFiles") (by decide +kernel)) (hts (.initialized RX10) (cBc 107 rfl)) (by decide +kernel) ⟨Nat.le_of_ble_eq_true rfl, Nat.le_of_ble_eq_true rfl⟩, hts (.static yX10_isIn) (cBc 178 rfl), trivial⟩ rfl hl.1 rfl (Nat.le_of_ble_eq_true rfl) dX6_leastOf_13 ⟨Nat.zero_le _, Nat.zero_le _⟩) (fun H locs Z => ?_)
        refine lv_if_eq (tgt := 21) hx hb dX6_leastOf_16 (by decide) (fun c7 => ?_) (fun c7 => ?_)
        · have h := if_t c7 h
          obtain ⟨x8, ex8, h⟩ := lt_e h
          refine lv_iinc (v := x8) (lv' := [(2, .int x8), (0, .ref (A (10, 0, 0))), (1, .int a1)]) hx hb dX6_leastOf_21 hl (k := 2) rfl (by rw [ex8]; rfl) (by decide) rfl (fun ls hl => ?_)
          refine lv_goto (tgt := 2) hx hb dX6_leastOf_24 (by decide) ?_
          exact ih2 x8 _ _ _ Z (lv_sub hl [1, 2, 0] rfl) h
        · have h := if_f c7 h
          refine lv_iload_n hx hb dX6_leastOf_19 rfl (lv_at hl 2 rfl) ?_
          have hy := Option.some.inj h
          subst hy
          exact g_ri S Z hr hlocks dX6_leastOf_20
  exact hL2 100 (0 : Int32) _ _ _ Z (lv_sub hl [1, 2, 0] rfl) h
-- X7_isInConflict (I)Z: 10 instructions
theorem dX7_isInConflict_0 : decode cX7_isInConflict 0 = .ok (.aload_n 0, 1) := by decide +kernel
theorem dX7_isInConflict_1 : decode cX7_isInConflict 1 = .ok (.getfield 11, 3) := by decide +kernel
theorem dX7_isInConflict_4 : decode cX7_isInConflict 4 = .ok (.iload_n 1, 1) := by decide +kernel
theorem dX7_isInConflict_5 : decode cX7_isInConflict 5 = .ok (.aaload, 1) := by decide +kernel
theorem dX7_isInConflict_6 : decode cX7_isInConflict 6 = .ok (.getfield 37, 3) := by decide +kernel
theorem dX7_isInConflict_9 : decode cX7_isInConflict 9 = .ok (.ifCond .le 7, 3) := by decide +kernel
theorem dX7_isInConflict_12 : decode cX7_isInConflict 12 = .ok (.iconst 1, 1) := by decide +kernel
theorem dX7_isInConflict_13 : decode cX7_isInConflict 13 = .ok (.goto 4, 3) := by decide +kernel
theorem dX7_isInConflict_16 : decode cX7_isInConflict 16 = .ok (.iconst 0, 1) := by decide +kernel
theorem dX7_isInConflict_17 : decode cX7_isInConflict 17 = .ok (.ireturn, 1) := by decide +kernel
abbrev wmX7_isInConflict : List Cond := .code yX7_isInConflict cX7_isInConflict 2 (some .boolean) :: cBig
def f_X7_isInConflict (N : Nat) (M : gM) (i0 : Nat) (a1 : Int32) : Option Int32 :=
  ix a1 48 (fun v1 => lt (M (60, (48 * i0 + v1), 0) 3) (fun v2 => (if v2 ≤ 0 then some (0 : Int32) else some (1 : Int32))))
set_option maxHeartbeats 4000000 in
set_option maxRecDepth 100000 in
theorem t_X7_isInConflict (l : Launch) (N : Nat) (D : va_G) (dA : Nat → ClassId) (A : gI → Nat) (hJ : gJ (cLive N) A) {M : gM} {i0 : Nat} {a1 : Int32} (hi0 : cLive N (20, i0, 0)) {y : Int32} (h : f_X7_isInConflict N M i0 a1 = some y) : cMi l yX7_isInConflict wmX7_isInConflict ({ frames := 0, cells := 0, slots := 0, locals := 0 } : Room) N D dA A [.ref (A (20, i0, 0)), .int a1] M y M := by
  refine Met.ofW (cc := cX7_isInConflict) (maxL := 2) (ret := (some .boolean)) (by decide) rfl ?_
  intro p e s m args below meth c s₁ B hml hv
  obtain ⟨rfl, hP, hK, hN⟩ := hv
  generalize hargs : ([.ref (A (20, i0, 0)), .int a1] : List Value).toArray = args at B ⊢
  have S : CallFix p m c cX7_isInConflict 2 s args wmX7_isInConflict RX7 := ⟨B.exec, B.bytes, hml, findClass_of_methodNamed B.named, atoms_spec (ws := wmX7_isInConflict) B.pre⟩
  obtain ⟨hx, hb, -, hown, hts⟩ := id S
  have hr := B.returns
  have hlocks := B.notSynchronized
  have X : gX D vwCl dA (cLive N) A (gA (cLive N) A) s := ⟨hK, hJ, fun i hi => ⟨i, hi, rfl⟩⟩
  have Z : gZ D (cLay N) dA (cLive N) A (gA (cLive N) A) s.heap M s.heap [] := ⟨hP, va_S.rf⟩
  have hin_X7 : ∀ w ∈ wsX70, w ∈ wmX7_isInConflict := cin_X7
  have hin_X9 : ∀ w ∈ wsX90, w ∈ wmX7_isInConflict := cin_X9
  have hl_11 := hts (.fieldLink RX7 11 "ReplicaFiles$Server" "versions" "[LReplicaFiles$Versions;") (cBc 180 rfl)
  have hl_37 := va_Nw.use (A := args) rfl (hN.1 ("ReplicaFiles$Server", 37, "ReplicaFiles$Versions", "length", "I", "ReplicaFiles") (by decide +kernel))
  have hl := lv_entry ([.ref (A (20, i0, 0)), .int a1]) (n := 2) (Nat.le_of_ble_eq_true rfl)
  rw [← hargs, lg_entry_eq, hargs]
  generalize (lg_sl ([.ref (A (20, i0, 0)), .int a1]) ++ List.replicate (2 - (lg_sl ([.ref (A (20, i0, 0)), .int a1])).length) Slot.unset).toArray = ls at hl ⊢
  have hl : lv_has ls 2 [(0, .ref (A (20, i0, 0))), (1, .int a1)] := hl
  unfold f_X7_isInConflict at h
  refine lv_aload_n hx hb dX7_isInConflict_0 rfl (lv_at hl 0 rfl) ?_
  refine cr_X7_versions (a := i0) S X Z hin_X7 hi0 hl_11 dX7_isInConflict_1 ?_
  refine lv_iload_n hx hb dX7_isInConflict_4 rfl (lv_at hl 1 rfl) ?_
  refine g_aald (i := (21, i0, 0)) (ca := 4) ⟨rfl, rfl⟩ S X Z (cl_X7_versions hi0) rfl dX7_isInConflict_5 h (fun v1 hv1 h => ?_)
  refine cn_X9_length (a := (48 * i0 + v1)) S X Z hin_X9 (cl_ver (cl_X7_versions hi0) hv1) hl_37 dX7_isInConflict_6 h (fun v2 h => ?_)
  refine lv_if_le (tgt := 16) hx hb dX7_isInConflict_9 (by decide) (fun c3 => ?_) (fun c3 => ?_)
  · have h := if_t c3 h
    refine lv_iconst (v := (0 : Int32)) hx hb dX7_isInConflict_16 (by decide) ?_
    have hy := Option.some.inj h
    subst hy
    exact g_rz (Or.inl rfl) S Z hr hlocks dX7_isInConflict_17
  · have h := if_f c3 h
    refine lv_iconst (v := (1 : Int32)) hx hb dX7_isInConflict_12 (by decide) ?_
    refine lv_goto (tgt := 17) hx hb dX7_isInConflict_13 (by decide) ?_
    have hy := Option.some.inj h
    subst hy
    exact g_rz (Or.inr rfl) S Z hr hlocks dX7_isInConflict_17
-- X10_isSame ([I[I)Z: 23 instructions
theorem dX10_isSame_0 : decode cX10_isSame 0 = .ok (.iconst 0, 1) := by decide +kernel
theorem dX10_isSame_1 : decode cX10_isSame 1 = .ok (.istore_n 2, 1) := by decide +kernel
theorem dX10_isSame_2 : decode cX10_isSame 2 = .ok (.iload_n 2, 1) := by decide +kernel
theorem dX10_isSame_3 : decode cX10_isSame 3 = .ok (.aload_n 0, 1) := by decide +kernel
theorem dX10_isSame_4 : decode cX10_isSame 4 = .ok (.arraylength, 1) := by decide +kernel
theorem dX10_isSame_5 : decode cX10_isSame 5 = .ok (.if_icmp .ge 26, 3) := by decide +kernel
theorem dX10_isSame_8 : decode cX10_isSame 8 = .ok (.iload_n 2, 1) := by decide +kernel
theorem dX10_isSame_9 : decode cX10_isSame 9 = .ok (.aload_n 1, 1) := by decide +kernel
theorem dX10_isSame_10 : decode cX10_isSame 10 = .ok (.arraylength, 1) := by decide +kernel
theorem dX10_isSame_11 : decode cX10_isSame 11 = .ok (.if_icmp .ge 20, 3) := by decide +kernel
theorem dX10_isSame_14 : decode cX10_isSame 14 = .ok (.aload_n 0, 1) := by decide +kernel
theorem dX10_isSame_15 : decode cX10_isSame 15 = .ok (.iload_n 2, 1) := by decide +kernel
theorem dX10_isSame_16 : decode cX10_isSame 16 = .ok (.iaload, 1) := by decide +kernel
theorem dX10_isSame_17 : decode cX10_isSame 17 = .ok (.aload_n 1, 1) := by decide +kernel
theorem dX10_isSame_18 : decode cX10_isSame 18 = .ok (.iload_n 2, 1) := by decide +kernel
theorem dX10_isSame_19 : decode cX10_isSame 19 = .ok (.iaload, 1) := by decide +kernel
theorem dX10_isSame_20 : decode cX10_isSame 20 = .ok (.if_icmp .eq 5, 3) := by decide +kernel
theorem dX10_isSame_23 : decode cX10_isSame 23 = .ok (.iconst 0, 1) := by decide +kernel
theorem dX10_isSame_24 : decode cX10_isSame 24 = .ok (.ireturn, 1) := by decide +kernel
theorem dX10_isSame_25 : decode cX10_isSame 25 = .ok (.iinc 2 1, 3) := by decide +kernel
theorem dX10_isSame_28 : decode cX10_isSame 28 = .ok (.goto (-26), 3) := by decide +kernel
theorem dX10_isSame_31 : decode cX10_isSame 31 = .ok (.iconst 1, 1) := by decide +kernel
theorem dX10_isSame_32 : decode cX10_isSame 32 = .ok (.ireturn, 1) := by decide +kernel
abbrev wmX10_isSame : List Cond := .code yX10_isSame cX10_isSame 3 (some .boolean) :: cBig
def f_X10_isSame_L2 (N : Nat) (M2 : gM) (a0 : gI) (a1 : gI) : Nat → Int32 → Option Int32
  | 0, _ => none
  | n3 + 1, x1 => (if (nI (cN N a0)) ≤ x1 then some (1 : Int32) else (if (nI (cN N a1)) ≤ x1 then some (1 : Int32) else rd M2 a0 (cN N a0) x1 (fun v6 => rd M2 a1 (cN N a1) x1 (fun v7 => (if v6 = v7 then lt (x1 + 1) (fun x9 => f_X10_isSame_L2 N M2 a0 a1 n3 x9) else some (0 : Int32))))))
def f_X10_isSame (N : Nat) (M : gM) (a0 : gI) (a1 : gI) : Option Int32 :=
  f_X10_isSame_L2 N M a0 a1 100 (0 : Int32)
set_option maxHeartbeats 4000000 in
set_option maxRecDepth 100000 in
theorem t_X10_isSame (l : Launch) (N : Nat) (D : va_G) (dA : Nat → ClassId) (A : gI → Nat) (hJ : gJ (cLive N) A) {M : gM} {a0 : gI} {a1 : gI} (ha0 : cArr N a0) (ha1 : cArr N a1) {y : Int32} (h : f_X10_isSame N M a0 a1 = some y) : cMi l yX10_isSame wmX10_isSame ({ frames := 0, cells := 0, slots := 0, locals := 0 } : Room) N D dA A [.ref (A a0), .ref (A a1)] M y M := by
  refine Met.ofW (cc := cX10_isSame) (maxL := 3) (ret := (some .boolean)) (by decide) rfl ?_
  intro p e s m args below meth c s₁ B hml hv
  obtain ⟨rfl, hP, hK, hN⟩ := hv
  generalize hargs : ([.ref (A a0), .ref (A a1)] : List Value).toArray = args at B ⊢
  have S : CallFix p m c cX10_isSame 3 s args wmX10_isSame RX10 := ⟨B.exec, B.bytes, hml, findClass_of_methodNamed B.named, atoms_spec (ws := wmX10_isSame) B.pre⟩
  obtain ⟨hx, hb, -, hown, hts⟩ := id S
  have hr := B.returns
  have hlocks := B.notSynchronized
  have X : gX D vwCl dA (cLive N) A (gA (cLive N) A) s := ⟨hK, hJ, fun i hi => ⟨i, hi, rfl⟩⟩
  have Z : gZ D (cLay N) dA (cLive N) A (gA (cLive N) A) s.heap M s.heap [] := ⟨hP, va_S.rf⟩
  have hl := lv_entry ([.ref (A a0), .ref (A a1)]) (n := 3) (Nat.le_of_ble_eq_true rfl)
  rw [← hargs, lg_entry_eq, hargs]
  generalize (lg_sl ([.ref (A a0), .ref (A a1)]) ++ List.replicate (3 - (lg_sl ([.ref (A a0), .ref (A a1)])).length) Slot.unset).toArray = ls at hl ⊢
  have hl : lv_has ls 3 [(0, .ref (A a0)), (1, .ref (A a1))] := hl
  unfold f_X10_isSame at h
  refine lv_iconst (v := (0 : Int32)) hx hb dX10_isSame_0 (by decide) ?_
  refine lv_istore_n (lv' := [(2, .int (0 : Int32)), (0, .ref (A a0)), (1, .ref (A a1))]) hx hb dX10_isSame_1 rfl hl (by decide) rfl (fun ls hl => ?_)
  have hL2 : ∀ (n : Nat) (x1 : Int32) (H : Heap) (locs : List Loc) (ls : Array Slot), gZ D (cLay N) dA (cLive N) A (gA (cLive N) A) s.heap M H locs → lv_has ls 3 [(0, .ref (A a0)), (1, .ref (A a1)), (2, .int x1)] → f_X10_isSame_L2 N M a0 a1 n x1 = some y → W p l e (headSpec wmX10_isSame ({ frames := 0, cells := 0, slots := 0, locals := 0 } : Room)).room s m args below meth c H locs 0 0 (MQ below (cQi N D dA A (y, M)) args s 0 0 (gA (cLive N) A)) (F0 m 2 ls []) := by
    intro n
    induction n with
    | zero =>
      intro x1 H locs ls Z hl h
      rw [f_X10_isSame_L2] at h
      cases h
    | succ n3 ih2 =>
      intro x1 H locs ls Z hl h
      rw [f_X10_isSame_L2] at h
      refine lv_iload_n hx hb dX10_isSame_2 rfl (lv_at hl 2 rfl) ?_
      refine lv_aload_n hx hb dX10_isSame_3 rfl (lv_at hl 0 rfl) ?_
      refine g_alI (ca := 0) rfl S X Z ha0.1 ha0.2 dX10_isSame_4 ?_
      refine lv_icmp_ge (tgt := 31) hx hb dX10_isSame_5 (by decide) (fun c4 => ?_) (fun c4 => ?_)
      · have h := if_t c4 h
        refine lv_iconst (v := (1 : Int32)) hx hb dX10_isSame_31 (by decide) ?_
        have hy := Option.some.inj h
        subst hy
        exact g_rz (Or.inr rfl) S Z hr hlocks dX10_isSame_32
      · have h := if_f c4 h
        refine lv_iload_n hx hb dX10_isSame_8 rfl (lv_at hl 2 rfl) ?_
        refine lv_aload_n hx hb dX10_isSame_9 rfl (lv_at hl 1 rfl) ?_
        refine g_alI (ca := 0) rfl S X Z ha1.1 ha1.2 dX10_isSame_10 ?_
        refine lv_icmp_ge (tgt := 31) hx hb dX10_isSame_11 (by decide) (fun c5 => ?_) (fun c5 => ?_)
        · have h := if_t c5 h
          refine lv_iconst (v := (1 : Int32)) hx hb dX10_isSame_31 (by decide) ?_
          have hy := Option.some.inj h
          subst hy
          exact g_rz (Or.inr rfl) S Z hr hlocks dX10_isSame_32
        · have h := if_f c5 h
          refine lv_aload_n hx hb dX10_isSame_14 rfl (lv_at hl 0 rfl) ?_
          refine lv_iload_n hx hb dX10_isSame_15 rfl (lv_at hl 2 rfl) ?_
          refine g_iald (i := a0) (n := (cN N a0)) S X Z ha0.1 ha0.2 dX10_isSame_16 h (fun v6 h => ?_)
          refine lv_aload_n hx hb dX10_isSame_17 rfl (lv_at hl 1 rfl) ?_
          refine lv_iload_n hx hb dX10_isSame_18 rfl (lv_at hl 2 rfl) ?_
          refine g_iald (i := a1) (n := (cN N a1)) S X Z ha1.1 ha1.2 dX10_isSame_19 h (fun v7 h => ?_)
          refine lv_icmp_eq (tgt := 25) hx hb dX10_isSame_20 (by decide) (fun c8 => ?_) (fun c8 => ?_)
          · have h := if_t c8 h
            obtain ⟨x9, ex9, h⟩ := lt_e h
            refine lv_iinc (v := x9) (lv' := [(2, .int x9), (0, .ref (A a0)), (1, .ref (A a1))]) hx hb dX10_isSame_25 hl (k := 2) rfl (by rw [ex9]; rfl) (by decide) rfl (fun ls hl => ?_)
            refine lv_goto (tgt := 2) hx hb dX10_isSame_28 (by decide) ?_
            exact ih2 x9 _ _ _ Z (lv_sub hl [1, 2, 0] rfl) h
          · have h := if_f c8 h
            refine lv_iconst (v := (0 : Int32)) hx hb dX10_isSame_23 (by decide) ?_
            have hy := Option.some.inj h
            subst hy
            exact g_rz (Or.inl rfl) S Z hr hlocks dX10_isSame_24
  exact hL2 100 (0 : Int32) _ _ _ Z (lv_sub hl [1, 2, 0] rfl) h
-- X9_isFull ()Z: 10 instructions
theorem dX9_isFull_0 : decode cX9_isFull 0 = .ok (.aload_n 0, 1) := by decide +kernel
theorem dX9_isFull_1 : decode cX9_isFull 1 = .ok (.getfield 21, 3) := by decide +kernel
theorem dX9_isFull_4 : decode cX9_isFull 4 = .ok (.aload_n 0, 1) := by decide +kernel
theorem dX9_isFull_5 : decode cX9_isFull 5 = .ok (.getfield 7, 3) := by decide +kernel
theorem dX9_isFull_8 : decode cX9_isFull 8 = .ok (.arraylength, 1) := by decide +kernel
theorem dX9_isFull_9 : decode cX9_isFull 9 = .ok (.if_icmp .lt 7, 3) := by decide +kernel
theorem dX9_isFull_12 : decode cX9_isFull 12 = .ok (.iconst 1, 1) := by decide +kernel
theorem dX9_isFull_13 : decode cX9_isFull 13 = .ok (.goto 4, 3) := by decide +kernel
theorem dX9_isFull_16 : decode cX9_isFull 16 = .ok (.iconst 0, 1) := by decide +kernel
theorem dX9_isFull_17 : decode cX9_isFull 17 = .ok (.ireturn, 1) := by decide +kernel
abbrev wmX9_isFull : List Cond := .code yX9_isFull cX9_isFull 1 (some .boolean) :: cBig
def f_X9_isFull (N : Nat) (M : gM) (i0 : Nat) : Option Int32 :=
  lt (M (60, i0, 0) 3) (fun v1 => (if v1 < (nI (cMost i0)) then some (0 : Int32) else some (1 : Int32)))
set_option maxHeartbeats 4000000 in
set_option maxRecDepth 100000 in
theorem t_X9_isFull (l : Launch) (N : Nat) (D : va_G) (dA : Nat → ClassId) (A : gI → Nat) (hJ : gJ (cLive N) A) {M : gM} {i0 : Nat} (hi0 : cLive N (60, i0, 0)) {y : Int32} (h : f_X9_isFull N M i0 = some y) : cMi l yX9_isFull wmX9_isFull ({ frames := 0, cells := 0, slots := 0, locals := 0 } : Room) N D dA A [.ref (A (60, i0, 0))] M y M := by
  refine Met.ofW (cc := cX9_isFull) (maxL := 1) (ret := (some .boolean)) (by decide) rfl ?_
  intro p e s m args below meth c s₁ B hml hv
  obtain ⟨rfl, hP, hK, hN⟩ := hv
  generalize hargs : ([.ref (A (60, i0, 0))] : List Value).toArray = args at B ⊢
  have S : CallFix p m c cX9_isFull 1 s args wmX9_isFull RX9 := ⟨B.exec, B.bytes, hml, findClass_of_methodNamed B.named, atoms_spec (ws := wmX9_isFull) B.pre⟩
  obtain ⟨hx, hb, -, hown, hts⟩ := id S
  have hr := B.returns
  have hlocks := B.notSynchronized
  have X : gX D vwCl dA (cLive N) A (gA (cLive N) A) s := ⟨hK, hJ, fun i hi => ⟨i, hi, rfl⟩⟩
  have Z : gZ D (cLay N) dA (cLive N) A (gA (cLive N) A) s.heap M s.heap [] := ⟨hP, va_S.rf⟩
  have hin_X9 : ∀ w ∈ wsX90, w ∈ wmX9_isFull := cin_X9
  have hl_7 := hts (.fieldLink RX9 7 "ReplicaFiles$Versions" "value" "[I") (cBc 184 rfl)
  have hl_21 := hts (.fieldLink RX9 21 "ReplicaFiles$Versions" "length" "I") (cBc 183 rfl)
  have hl := lv_entry ([.ref (A (60, i0, 0))]) (n := 1) (Nat.le_of_ble_eq_true rfl)
  rw [← hargs, lg_entry_eq, hargs]
  generalize (lg_sl ([.ref (A (60, i0, 0))]) ++ List.replicate (1 - (lg_sl ([.ref (A (60, i0, 0))])).length) Slot.unset).toArray = ls at hl ⊢
  have hl : lv_has ls 1 [(0, .ref (A (60, i0, 0)))] := hl
  unfold f_X9_isFull at h
  refine lv_aload_n hx hb dX9_isFull_0 rfl (lv_at hl 0 rfl) ?_
  refine cr_X9_length (a := i0) S X Z hin_X9 hi0 hl_21 dX9_isFull_1 h (fun v1 h => ?_)
  refine lv_aload_n hx hb dX9_isFull_4 rfl (lv_at hl 0 rfl) ?_
  refine cr_X9_value (a := i0) S X Z hin_X9 hi0 hl_7 dX9_isFull_5 ?_
  refine g_alI (i := (61, i0, 0)) (ca := 0) rfl S X Z (cl_X9_value hi0) rfl dX9_isFull_8 ?_
  refine lv_icmp_lt (tgt := 16) hx hb dX9_isFull_9 (by decide) (fun c2 => ?_) (fun c2 => ?_)
  · have h := if_t c2 h
    refine lv_iconst (v := (0 : Int32)) hx hb dX9_isFull_16 (by decide) ?_
    have hy := Option.some.inj h
    subst hy
    exact g_rz (Or.inl rfl) S Z hr hlocks dX9_isFull_17
  · have h := if_f c2 h
    refine lv_iconst (v := (1 : Int32)) hx hb dX9_isFull_12 (by decide) ?_
    refine lv_goto (tgt := 17) hx hb dX9_isFull_13 (by decide) ?_
    have hy := Option.some.inj h
    subst hy
    exact g_rz (Or.inr rfl) S Z hr hlocks dX9_isFull_17
-- X9_add (II[I)V: 30 instructions
theorem dX9_add_0 : decode cX9_add 0 = .ok (.aload_n 0, 1) := by decide +kernel
theorem dX9_add_1 : decode cX9_add 1 = .ok (.invokevirtual 25, 3) := by decide +kernel
theorem dX9_add_4 : decode cX9_add 4 = .ok (.ifCond .eq 4, 3) := by decide +kernel
theorem dX9_add_7 : decode cX9_add 7 = .ok (.return_, 1) := by decide +kernel
theorem dX9_add_8 : decode cX9_add 8 = .ok (.aload_n 0, 1) := by decide +kernel
theorem dX9_add_9 : decode cX9_add 9 = .ok (.getfield 7, 3) := by decide +kernel
theorem dX9_add_12 : decode cX9_add 12 = .ok (.aload_n 0, 1) := by decide +kernel
theorem dX9_add_13 : decode cX9_add 13 = .ok (.getfield 21, 3) := by decide +kernel
theorem dX9_add_16 : decode cX9_add 16 = .ok (.iload_n 1, 1) := by decide +kernel
theorem dX9_add_17 : decode cX9_add 17 = .ok (.iastore, 1) := by decide +kernel
theorem dX9_add_18 : decode cX9_add 18 = .ok (.aload_n 0, 1) := by decide +kernel
theorem dX9_add_19 : decode cX9_add 19 = .ok (.getfield 13, 3) := by decide +kernel
theorem dX9_add_22 : decode cX9_add 22 = .ok (.aload_n 0, 1) := by decide +kernel
theorem dX9_add_23 : decode cX9_add 23 = .ok (.getfield 21, 3) := by decide +kernel
theorem dX9_add_26 : decode cX9_add 26 = .ok (.iload_n 2, 1) := by decide +kernel
theorem dX9_add_27 : decode cX9_add 27 = .ok (.iastore, 1) := by decide +kernel
theorem dX9_add_28 : decode cX9_add 28 = .ok (.aload_n 0, 1) := by decide +kernel
theorem dX9_add_29 : decode cX9_add 29 = .ok (.getfield 18, 3) := by decide +kernel
theorem dX9_add_32 : decode cX9_add 32 = .ok (.aload_n 0, 1) := by decide +kernel
theorem dX9_add_33 : decode cX9_add 33 = .ok (.getfield 21, 3) := by decide +kernel
theorem dX9_add_36 : decode cX9_add 36 = .ok (.aaload, 1) := by decide +kernel
theorem dX9_add_37 : decode cX9_add 37 = .ok (.aload_n 3, 1) := by decide +kernel
theorem dX9_add_38 : decode cX9_add 38 = .ok (.invokestatic 29, 3) := by decide +kernel
theorem dX9_add_41 : decode cX9_add 41 = .ok (.aload_n 0, 1) := by decide +kernel
theorem dX9_add_42 : decode cX9_add 42 = .ok (.dup, 1) := by decide +kernel
theorem dX9_add_43 : decode cX9_add 43 = .ok (.getfield 21, 3) := by decide +kernel
theorem dX9_add_46 : decode cX9_add 46 = .ok (.iconst 1, 1) := by decide +kernel
theorem dX9_add_47 : decode cX9_add 47 = .ok (.iadd, 1) := by decide +kernel
theorem dX9_add_48 : decode cX9_add 48 = .ok (.putfield 21, 3) := by decide +kernel
theorem dX9_add_51 : decode cX9_add 51 = .ok (.return_, 1) := by decide +kernel
abbrev wmX9_add : List Cond := .code yX9_add cX9_add 4 none :: cBig
def f_X9_add (N : Nat) (M : gM) (i0 : Nat) (a1 : Int32) (a2 : Int32) (a3 : gI) : Option gM :=
  o1 (f_X9_isFull N M i0) (fun v2 => (if v2 = 0 then lt (M (60, i0, 0) 3) (fun v4 => wr M (61, i0, 0) (cMost i0) v4 a1 (fun M5 => lt (M5 (60, i0, 0) 3) (fun v6 => wr M5 (62, i0, 0) (cMost i0) v6 a2 (fun M7 => lt (M7 (60, i0, 0) 3) (fun v8 => ix v8 (cMost i0) (fun v9 => o1 (f_X10_assign N M7 (64, i0, v9) a3) (fun M11 => lt (M11 (60, i0, 0) 3) (fun v12 => lt (gset M11 (60, i0, 0) 3 (v12 + (1 : Int32))) (fun M13 => some M13))))))))) else some M))
set_option maxHeartbeats 4000000 in
set_option maxRecDepth 100000 in
theorem t_X9_add (l : Launch) (N : Nat) (D : va_G) (dA : Nat → ClassId) (A : gI → Nat) (hJ : gJ (cLive N) A) {M : gM} {i0 : Nat} {a1 : Int32} {a2 : Int32} {a3 : gI} (hi0 : cLive N (60, i0, 0)) (ha3 : cArr N a3) {y : gM} (h : f_X9_add N M i0 a1 a2 a3 = some y) : cMv l yX9_add wmX9_add ({ frames := 1, cells := 0, slots := 0, locals := 22 } : Room) N D dA A [.ref (A (60, i0, 0)), .int a1, .int a2, .ref (A a3)] M y := by
  refine Met.ofW (cc := cX9_add) (maxL := 4) (ret := none) (by decide) rfl ?_
  intro p e s m args below meth c s₁ B hml hv
  obtain ⟨rfl, hP, hK, hN⟩ := hv
  generalize hargs : ([.ref (A (60, i0, 0)), .int a1, .int a2, .ref (A a3)] : List Value).toArray = args at B ⊢
  have S : CallFix p m c cX9_add 4 s args wmX9_add RX9 := ⟨B.exec, B.bytes, hml, findClass_of_methodNamed B.named, atoms_spec (ws := wmX9_add) B.pre⟩
  obtain ⟨hx, hb, -, hown, hts⟩ := id S
  have hr := B.returns
  have hlocks := B.notSynchronized
  have X : gX D vwCl dA (cLive N) A (gA (cLive N) A) s := ⟨hK, hJ, fun i hi => ⟨i, hi, rfl⟩⟩
  have Z : gZ D (cLay N) dA (cLive N) A (gA (cLive N) A) s.heap M s.heap [] := ⟨hP, va_S.rf⟩
  have hin_X9 : ∀ w ∈ wsX90, w ∈ wmX9_add := cin_X9
  have hl_7 := hts (.fieldLink RX9 7 "ReplicaFiles$Versions" "value" "[I") (cBc 184 rfl)
  have hl_13 := hts (.fieldLink RX9 13 "ReplicaFiles$Versions" "size" "[I") (cBc 186 rfl)
  have hl_18 := hts (.fieldLink RX9 18 "ReplicaFiles$Versions" "counts" "[[I") (cBc 187 rfl)
  have hl_21 := hts (.fieldLink RX9 21 "ReplicaFiles$Versions" "length" "I") (cBc 183 rfl)
  have hl := lv_entry ([.ref (A (60, i0, 0)), .int a1, .int a2, .ref (A a3)]) (n := 4) (Nat.le_of_ble_eq_true rfl)
  rw [← hargs, lg_entry_eq, hargs]
  generalize (lg_sl ([.ref (A (60, i0, 0)), .int a1, .int a2, .ref (A a3)]) ++ List.replicate (4 - (lg_sl ([.ref (A (60, i0, 0)), .int a1, .int a2, .ref (A a3)])).length) Slot.unset).toArray = ls at hl ⊢
  have hl : lv_has ls 4 [(0, .ref (A (60, i0, 0))), (1, .int a1), (2, .int a2), (3, .ref (A a3))] := hl
  unfold f_X9_add at h
  refine lv_aload_n hx hb dX9_add_0 rfl (lv_at hl 0 rfl) ?_
  obtain ⟨v2, hc1, h⟩ := o1_e h
  refine c_i X Z (c_V (i := (60, i0, 0)) (As := []) (rest := []) S X hN Z hi0 rfl rfl (t_X9_isFull l N D dA A hJ hi0 hc1) (cwV 0 hts (cGV (cB 188 rfl) (cB 189 rfl) (cB 190 rfl) (cB 191 rfl) (cB 182 rfl)) rfl rfl rfl (by decide +kernel) ⟨Nat.le_of_ble_eq_true rfl, Nat.le_of_ble_eq_true rfl⟩) rfl hl.1 rfl (Nat.le_of_ble_eq_true rfl) dX9_add_1 ⟨Nat.zero_le _, Nat.zero_le _⟩) (fun H locs Z => ?_)
  refine lv_if_eq (tgt := 8) hx hb dX9_add_4 (by decide) (fun c3 => ?_) (fun c3 => ?_)
  · have h := if_t c3 h
    refine lv_aload_n hx hb dX9_add_8 rfl (lv_at hl 0 rfl) ?_
    refine cr_X9_value (a := i0) S X Z hin_X9 hi0 hl_7 dX9_add_9 ?_
    refine lv_aload_n hx hb dX9_add_12 rfl (lv_at hl 0 rfl) ?_
    refine cr_X9_length (a := i0) S X Z hin_X9 hi0 hl_21 dX9_add_13 h (fun v4 h => ?_)
    refine lv_iload_n hx hb dX9_add_16 rfl (lv_at hl 1 rfl) ?_
    refine g_iast (i := (61, i0, 0)) (n := (cMost i0)) S X Z (cl_X9_value hi0) rfl dX9_add_17 h (fun M5 H locs Z h => ?_)
    refine lv_aload_n hx hb dX9_add_18 rfl (lv_at hl 0 rfl) ?_
    refine cr_X9_size (a := i0) S X Z hin_X9 hi0 hl_13 dX9_add_19 ?_
    refine lv_aload_n hx hb dX9_add_22 rfl (lv_at hl 0 rfl) ?_
    refine cr_X9_length (a := i0) S X Z hin_X9 hi0 hl_21 dX9_add_23 h (fun v6 h => ?_)
    refine lv_iload_n hx hb dX9_add_26 rfl (lv_at hl 2 rfl) ?_
    refine g_iast (i := (62, i0, 0)) (n := (cMost i0)) S X Z (cl_X9_size hi0) rfl dX9_add_27 h (fun M7 H locs Z h => ?_)
    refine lv_aload_n hx hb dX9_add_28 rfl (lv_at hl 0 rfl) ?_
    refine cr_X9_counts (a := i0) S X Z hin_X9 hi0 hl_18 dX9_add_29 ?_
    refine lv_aload_n hx hb dX9_add_32 rfl (lv_at hl 0 rfl) ?_
    refine cr_X9_length (a := i0) S X Z hin_X9 hi0 hl_21 dX9_add_33 h (fun v8 h => ?_)
    refine g_aald (i := (63, i0, 0)) (ca := 5) ⟨rfl, rfl⟩ S X Z (cl_X9_counts hi0) rfl dX9_add_36 h (fun v9 hv9 h => ?_)
    refine lv_aload_n hx hb dX9_add_37 rfl (lv_at hl 3 rfl) ?_
    obtain ⟨M11, hc10, h⟩ := o1_e h
    refine c_v X Z (c_SN (As := [.ref (A (64, i0, v9)), .ref (A a3)]) (rest := []) S X hN Z (t_X10_assign l N D dA A hJ ⟨(cl_64 (cl_X9_counts hi0) hv9), rfl⟩ ha3 hc10) ⟨va_cnB 2 hts (cG (cB 104 rfl)) rfl rfl rfl (hN.2 ("ReplicaFiles$Versions", 29, yX10_assign, "ReplicaFiles") (by decide +kernel)) (hts (.initialized RX10) (cBc 107 rfl)) (by decide +kernel) ⟨Nat.le_of_ble_eq_true rfl, Nat.le_of_ble_eq_true rfl⟩, hts (.static yX10_assign) (cBc 106 rfl), trivial⟩ rfl hl.1 rfl (Nat.le_of_ble_eq_true rfl) dX9_add_38 ⟨Nat.zero_le _, Nat.zero_le _⟩) (fun H locs Z => ?_)
    refine lv_aload_n hx hb dX9_add_41 rfl (lv_at hl 0 rfl) ?_
    refine lv_dup hx hb dX9_add_42 rfl ?_
    refine cr_X9_length (a := i0) S X Z hin_X9 hi0 hl_21 dX9_add_43 h (fun v12 h => ?_)
    refine lv_iconst (v := (1 : Int32)) hx hb dX9_add_46 (by decide) ?_
    refine lv_iadd hx hb dX9_add_47 ?_
    refine cp_X9_length (a := i0) S X Z hin_X9 hi0 hl_21 dX9_add_48 h (fun M13 H locs Z h => ?_)
    have hy := Option.some.inj h
    subst hy
    exact g_rv S Z hr hlocks dX9_add_51
  · have h := if_f c3 h
    have hy := Option.some.inj h
    subst hy
    exact g_rv S Z hr hlocks dX9_add_7
-- X10_raise ([I[I)V: 23 instructions
theorem dX10_raise_0 : decode cX10_raise 0 = .ok (.iconst 0, 1) := by decide +kernel
theorem dX10_raise_1 : decode cX10_raise 1 = .ok (.istore_n 2, 1) := by decide +kernel
theorem dX10_raise_2 : decode cX10_raise 2 = .ok (.iload_n 2, 1) := by decide +kernel
theorem dX10_raise_3 : decode cX10_raise 3 = .ok (.aload_n 0, 1) := by decide +kernel
theorem dX10_raise_4 : decode cX10_raise 4 = .ok (.arraylength, 1) := by decide +kernel
theorem dX10_raise_5 : decode cX10_raise 5 = .ok (.if_icmp .ge 27, 3) := by decide +kernel
theorem dX10_raise_8 : decode cX10_raise 8 = .ok (.iload_n 2, 1) := by decide +kernel
theorem dX10_raise_9 : decode cX10_raise 9 = .ok (.aload_n 1, 1) := by decide +kernel
theorem dX10_raise_10 : decode cX10_raise 10 = .ok (.arraylength, 1) := by decide +kernel
theorem dX10_raise_11 : decode cX10_raise 11 = .ok (.if_icmp .ge 21, 3) := by decide +kernel
theorem dX10_raise_14 : decode cX10_raise 14 = .ok (.aload_n 0, 1) := by decide +kernel
theorem dX10_raise_15 : decode cX10_raise 15 = .ok (.iload_n 2, 1) := by decide +kernel
theorem dX10_raise_16 : decode cX10_raise 16 = .ok (.aload_n 0, 1) := by decide +kernel
theorem dX10_raise_17 : decode cX10_raise 17 = .ok (.iload_n 2, 1) := by decide +kernel
theorem dX10_raise_18 : decode cX10_raise 18 = .ok (.iaload, 1) := by decide +kernel
theorem dX10_raise_19 : decode cX10_raise 19 = .ok (.aload_n 1, 1) := by decide +kernel
theorem dX10_raise_20 : decode cX10_raise 20 = .ok (.iload_n 2, 1) := by decide +kernel
theorem dX10_raise_21 : decode cX10_raise 21 = .ok (.iaload, 1) := by decide +kernel
theorem dX10_raise_22 : decode cX10_raise 22 = .ok (.invokestatic 15, 3) := by decide +kernel
theorem dX10_raise_25 : decode cX10_raise 25 = .ok (.iastore, 1) := by decide +kernel
theorem dX10_raise_26 : decode cX10_raise 26 = .ok (.iinc 2 1, 3) := by decide +kernel
theorem dX10_raise_29 : decode cX10_raise 29 = .ok (.goto (-27), 3) := by decide +kernel
theorem dX10_raise_32 : decode cX10_raise 32 = .ok (.return_, 1) := by decide +kernel
abbrev wmX10_raise : List Cond := .code yX10_raise cX10_raise 3 none :: cBig
def f_X10_raise_L2 (N : Nat) (a0 : gI) (a1 : gI) : Nat → Int32 → gM → Option gM
  | 0, _, _ => none
  | n3 + 1, x1, M2 => (if (nI (cN N a0)) ≤ x1 then some M2 else (if (nI (cN N a1)) ≤ x1 then some M2 else rd M2 a0 (cN N a0) x1 (fun v6 => rd M2 a1 (cN N a1) x1 (fun v7 => wr M2 a0 (cN N a0) x1 (if v6 < v7 then v7 else v6) (fun M8 => lt (x1 + 1) (fun x9 => f_X10_raise_L2 N a0 a1 n3 x9 M8))))))
def f_X10_raise (N : Nat) (M : gM) (a0 : gI) (a1 : gI) : Option gM :=
  f_X10_raise_L2 N a0 a1 100 (0 : Int32) M
set_option maxHeartbeats 4000000 in
set_option maxRecDepth 100000 in
theorem t_X10_raise (l : Launch) (N : Nat) (D : va_G) (dA : Nat → ClassId) (A : gI → Nat) (hJ : gJ (cLive N) A) {M : gM} {a0 : gI} {a1 : gI} (ha0 : cArr N a0) (ha1 : cArr N a1) {y : gM} (h : f_X10_raise N M a0 a1 = some y) : cMv l yX10_raise wmX10_raise ({ frames := 1, cells := 0, slots := 0, locals := 21 } : Room) N D dA A [.ref (A a0), .ref (A a1)] M y := by
  refine Met.ofW (cc := cX10_raise) (maxL := 3) (ret := none) (by decide) rfl ?_
  intro p e s m args below meth c s₁ B hml hv
  obtain ⟨rfl, hP, hK, hN⟩ := hv
  generalize hargs : ([.ref (A a0), .ref (A a1)] : List Value).toArray = args at B ⊢
  have S : CallFix p m c cX10_raise 3 s args wmX10_raise RX10 := ⟨B.exec, B.bytes, hml, findClass_of_methodNamed B.named, atoms_spec (ws := wmX10_raise) B.pre⟩
  obtain ⟨hx, hb, -, hown, hts⟩ := id S
  have hr := B.returns
  have hlocks := B.notSynchronized
  have X : gX D vwCl dA (cLive N) A (gA (cLive N) A) s := ⟨hK, hJ, fun i hi => ⟨i, hi, rfl⟩⟩
  have Z : gZ D (cLay N) dA (cLive N) A (gA (cLive N) A) s.heap M s.heap [] := ⟨hP, va_S.rf⟩
  have hl := lv_entry ([.ref (A a0), .ref (A a1)]) (n := 3) (Nat.le_of_ble_eq_true rfl)
  rw [← hargs, lg_entry_eq, hargs]
  generalize (lg_sl ([.ref (A a0), .ref (A a1)]) ++ List.replicate (3 - (lg_sl ([.ref (A a0), .ref (A a1)])).length) Slot.unset).toArray = ls at hl ⊢
  have hl : lv_has ls 3 [(0, .ref (A a0)), (1, .ref (A a1))] := hl
  unfold f_X10_raise at h
  refine lv_iconst (v := (0 : Int32)) hx hb dX10_raise_0 (by decide) ?_
  refine lv_istore_n (lv' := [(2, .int (0 : Int32)), (0, .ref (A a0)), (1, .ref (A a1))]) hx hb dX10_raise_1 rfl hl (by decide) rfl (fun ls hl => ?_)
  have hL2 : ∀ (n : Nat) (x1 : Int32) (M2 : gM) (H : Heap) (locs : List Loc) (ls : Array Slot), gZ D (cLay N) dA (cLive N) A (gA (cLive N) A) s.heap M2 H locs → lv_has ls 3 [(0, .ref (A a0)), (1, .ref (A a1)), (2, .int x1)] → f_X10_raise_L2 N a0 a1 n x1 M2 = some y → W p l e (headSpec wmX10_raise ({ frames := 1, cells := 0, slots := 0, locals := 21 } : Room)).room s m args below meth c H locs 0 0 (MQ below (cQv N D dA A y) args s 0 0 (gA (cLive N) A)) (F0 m 2 ls []) := by
    intro n
    induction n with
    | zero =>
      intro x1 M2 H locs ls Z hl h
      rw [f_X10_raise_L2] at h
      cases h
    | succ n3 ih2 =>
      intro x1 M2 H locs ls Z hl h
      rw [f_X10_raise_L2] at h
      refine lv_iload_n hx hb dX10_raise_2 rfl (lv_at hl 2 rfl) ?_
      refine lv_aload_n hx hb dX10_raise_3 rfl (lv_at hl 0 rfl) ?_
      refine g_alI (ca := 0) rfl S X Z ha0.1 ha0.2 dX10_raise_4 ?_
      refine lv_icmp_ge (tgt := 32) hx hb dX10_raise_5 (by decide) (fun c4 => ?_) (fun c4 => ?_)
      · have h := if_t c4 h
        have hy := Option.some.inj h
        subst hy
        exact g_rv S Z hr hlocks dX10_raise_32
      · have h := if_f c4 h
        refine lv_iload_n hx hb dX10_raise_8 rfl (lv_at hl 2 rfl) ?_
        refine lv_aload_n hx hb dX10_raise_9 rfl (lv_at hl 1 rfl) ?_
        refine g_alI (ca := 0) rfl S X Z ha1.1 ha1.2 dX10_raise_10 ?_
        refine lv_icmp_ge (tgt := 32) hx hb dX10_raise_11 (by decide) (fun c5 => ?_) (fun c5 => ?_)
        · have h := if_t c5 h
          have hy := Option.some.inj h
          subst hy
          exact g_rv S Z hr hlocks dX10_raise_32
        · have h := if_f c5 h
          refine lv_aload_n hx hb dX10_raise_14 rfl (lv_at hl 0 rfl) ?_
          refine lv_iload_n hx hb dX10_raise_15 rfl (lv_at hl 2 rfl) ?_
          refine lv_aload_n hx hb dX10_raise_16 rfl (lv_at hl 0 rfl) ?_
          refine lv_iload_n hx hb dX10_raise_17 rfl (lv_at hl 2 rfl) ?_
          refine g_iald (i := a0) (n := (cN N a0)) S X Z ha0.1 ha0.2 dX10_raise_18 h (fun v6 h => ?_)
          refine lv_aload_n hx hb dX10_raise_19 rfl (lv_at hl 1 rfl) ?_
          refine lv_iload_n hx hb dX10_raise_20 rfl (lv_at hl 2 rfl) ?_
          refine g_iald (i := a1) (n := (cN N a1)) S X Z ha1.1 ha1.2 dX10_raise_21 h (fun v7 h => ?_)
          refine va_mmax hx hb (by rw [hl.1]; exact S.2.2.1) hown (hts (.methodLink RX10 15 Lib.Math.max.name) (cBc 193 rfl)) (hts (.static Lib.Math.max.name) (cBc 194 rfl)) (hts (.initialized "java/lang/Math") (cBc 195 rfl)) (hts (.code Lib.Math.max.name Lib.Math.max.code 2 (some .int)) (cBc 196 rfl)) (Nat.le_of_ble_eq_true rfl) (Nat.le_of_ble_eq_true rfl) (Nat.zero_le _) (Nat.zero_le _) dX10_raise_22 ?_
          refine g_iast (i := a0) (n := (cN N a0)) S X Z ha0.1 ha0.2 dX10_raise_25 h (fun M8 H locs Z h => ?_)
          obtain ⟨x9, ex9, h⟩ := lt_e h
          refine lv_iinc (v := x9) (lv' := [(2, .int x9), (0, .ref (A a0)), (1, .ref (A a1))]) hx hb dX10_raise_26 hl (k := 2) rfl (by rw [ex9]; rfl) (by decide) rfl (fun ls hl => ?_)
          refine lv_goto (tgt := 2) hx hb dX10_raise_29 (by decide) ?_
          exact ih2 x9 M8 _ _ _ Z (lv_sub hl [1, 2, 0] rfl) h
  exact hL2 100 (0 : Int32) M _ _ _ Z (lv_sub hl [1, 2, 0] rfl) h
-- X6_growMarks (II)V: 25 instructions
theorem dX6_growMarks_0 : decode cX6_growMarks 0 = .ok (.iconst 0, 1) := by decide +kernel
theorem dX6_growMarks_1 : decode cX6_growMarks 1 = .ok (.istore_n 3, 1) := by decide +kernel
theorem dX6_growMarks_2 : decode cX6_growMarks 2 = .ok (.iload_n 3, 1) := by decide +kernel
theorem dX6_growMarks_3 : decode cX6_growMarks 3 = .ok (.aload_n 0, 1) := by decide +kernel
theorem dX6_growMarks_4 : decode cX6_growMarks 4 = .ok (.getfield 15, 3) := by decide +kernel
theorem dX6_growMarks_7 : decode cX6_growMarks 7 = .ok (.arraylength, 1) := by decide +kernel
theorem dX6_growMarks_8 : decode cX6_growMarks 8 = .ok (.if_icmp .ge 32, 3) := by decide +kernel
theorem dX6_growMarks_11 : decode cX6_growMarks 11 = .ok (.iload_n 1, 1) := by decide +kernel
theorem dX6_growMarks_12 : decode cX6_growMarks 12 = .ok (.iload_n 3, 1) := by decide +kernel
theorem dX6_growMarks_13 : decode cX6_growMarks 13 = .ok (.invokestatic 27, 3) := by decide +kernel
theorem dX6_growMarks_16 : decode cX6_growMarks 16 = .ok (.ifCond .eq 18, 3) := by decide +kernel
theorem dX6_growMarks_19 : decode cX6_growMarks 19 = .ok (.aload_n 0, 1) := by decide +kernel
theorem dX6_growMarks_20 : decode cX6_growMarks 20 = .ok (.getfield 15, 3) := by decide +kernel
theorem dX6_growMarks_23 : decode cX6_growMarks 23 = .ok (.iload_n 3, 1) := by decide +kernel
theorem dX6_growMarks_24 : decode cX6_growMarks 24 = .ok (.aaload, 1) := by decide +kernel
theorem dX6_growMarks_25 : decode cX6_growMarks 25 = .ok (.getfield 95, 3) := by decide +kernel
theorem dX6_growMarks_28 : decode cX6_growMarks 28 = .ok (.iload_n 2, 1) := by decide +kernel
theorem dX6_growMarks_29 : decode cX6_growMarks 29 = .ok (.dup2, 1) := by decide +kernel
theorem dX6_growMarks_30 : decode cX6_growMarks 30 = .ok (.iaload, 1) := by decide +kernel
theorem dX6_growMarks_31 : decode cX6_growMarks 31 = .ok (.iconst 1, 1) := by decide +kernel
theorem dX6_growMarks_32 : decode cX6_growMarks 32 = .ok (.iadd, 1) := by decide +kernel
theorem dX6_growMarks_33 : decode cX6_growMarks 33 = .ok (.iastore, 1) := by decide +kernel
theorem dX6_growMarks_34 : decode cX6_growMarks 34 = .ok (.iinc 3 1, 3) := by decide +kernel
theorem dX6_growMarks_37 : decode cX6_growMarks 37 = .ok (.goto (-35), 3) := by decide +kernel
theorem dX6_growMarks_40 : decode cX6_growMarks 40 = .ok (.return_, 1) := by decide +kernel
abbrev wmX6_growMarks : List Cond := .code yX6_growMarks cX6_growMarks 4 none :: cBig
def f_X6_growMarks_L2 (N : Nat) (a1 : Int32) (a2 : Int32) : Nat → Int32 → gM → Option gM
  | 0, _, _ => none
  | n3 + 1, x1, M2 => (if (nI N) ≤ x1 then some M2 else o1 (f_X10_isIn N M2 a1 x1) (fun v6 => jn (fun (M7 : gM) => lt (x1 + 1) (fun x8 => f_X6_growMarks_L2 N a1 a2 n3 x8 M7)) (fun J34 => (if v6 = 0 then J34 M2 else ix x1 N (fun v10 => rd M2 (22, v10, 0) 48 a2 (fun v11 => wr M2 (22, v10, 0) 48 a2 (v11 + (1 : Int32)) (fun M12 => J34 M12)))))))
def f_X6_growMarks (N : Nat) (M : gM) (a1 : Int32) (a2 : Int32) : Option gM :=
  f_X6_growMarks_L2 N a1 a2 100 (0 : Int32) M
set_option maxHeartbeats 4000000 in
set_option maxRecDepth 100000 in
theorem t_X6_growMarks (l : Launch) (N : Nat) (D : va_G) (dA : Nat → ClassId) (A : gI → Nat) (hJ : gJ (cLive N) A) {M : gM} {a1 : Int32} {a2 : Int32}  {y : gM} (h : f_X6_growMarks N M a1 a2 = some y) : cMv l yX6_growMarks wmX6_growMarks ({ frames := 1, cells := 0, slots := 0, locals := 21 } : Room) N D dA A [.ref (A (10, 0, 0)), .int a1, .int a2] M y := by
  refine Met.ofW (cc := cX6_growMarks) (maxL := 4) (ret := none) (by decide) rfl ?_
  intro p e s m args below meth c s₁ B hml hv
  obtain ⟨rfl, hP, hK, hN⟩ := hv
  generalize hargs : ([.ref (A (10, 0, 0)), .int a1, .int a2] : List Value).toArray = args at B ⊢
  have S : CallFix p m c cX6_growMarks 4 s args wmX6_growMarks RX6 := ⟨B.exec, B.bytes, hml, findClass_of_methodNamed B.named, atoms_spec (ws := wmX6_growMarks) B.pre⟩
  obtain ⟨hx, hb, -, hown, hts⟩ := id S
  have hr := B.returns
  have hlocks := B.notSynchronized
  have X : gX D vwCl dA (cLive N) A (gA (cLive N) A) s := ⟨hK, hJ, fun i hi => ⟨i, hi, rfl⟩⟩
  have Z : gZ D (cLay N) dA (cLive N) A (gA (cLive N) A) s.heap M s.heap [] := ⟨hP, va_S.rf⟩
  have hin_X6 : ∀ w ∈ wsX60, w ∈ wmX6_growMarks := cin_X6
  have hin_X7 : ∀ w ∈ wsX70, w ∈ wmX6_growMarks := cin_X7
  have hl_15 := hts (.fieldLink RX6 15 "ReplicaFiles$Replicas" "servers" "[LReplicaFiles$Server;") (cBc 177 rfl)
  have hl_95 := va_Nw.use (A := args) rfl (hN.1 ("ReplicaFiles$Replicas", 95, "ReplicaFiles$Server", "marks", "[I", "ReplicaFiles") (by decide +kernel))
  have hl := lv_entry ([.ref (A (10, 0, 0)), .int a1, .int a2]) (n := 4) (Nat.le_of_ble_eq_true rfl)
  rw [← hargs, lg_entry_eq, hargs]
  generalize (lg_sl ([.ref (A (10, 0, 0)), .int a1, .int a2]) ++ List.replicate (4 - (lg_sl ([.ref (A (10, 0, 0)), .int a1, .int a2])).length) Slot.unset).toArray = ls at hl ⊢
  have hl : lv_has ls 4 [(0, .ref (A (10, 0, 0))), (1, .int a1), (2, .int a2)] := hl
  unfold f_X6_growMarks at h
  refine lv_iconst (v := (0 : Int32)) hx hb dX6_growMarks_0 (by decide) ?_
  refine lv_istore_n (lv' := [(3, .int (0 : Int32)), (0, .ref (A (10, 0, 0))), (1, .int a1), (2, .int a2)]) hx hb dX6_growMarks_1 rfl hl (by decide) rfl (fun ls hl => ?_)
  have hL2 : ∀ (n : Nat) (x1 : Int32) (M2 : gM) (H : Heap) (locs : List Loc) (ls : Array Slot), gZ D (cLay N) dA (cLive N) A (gA (cLive N) A) s.heap M2 H locs → lv_has ls 4 [(0, .ref (A (10, 0, 0))), (1, .int a1), (2, .int a2), (3, .int x1)] → f_X6_growMarks_L2 N a1 a2 n x1 M2 = some y → W p l e (headSpec wmX6_growMarks ({ frames := 1, cells := 0, slots := 0, locals := 21 } : Room)).room s m args below meth c H locs 0 0 (MQ below (cQv N D dA A y) args s 0 0 (gA (cLive N) A)) (F0 m 2 ls []) := by
    intro n
    induction n with
    | zero =>
      intro x1 M2 H locs ls Z hl h
      rw [f_X6_growMarks_L2] at h
      cases h
    | succ n3 ih2 =>
      intro x1 M2 H locs ls Z hl h
      rw [f_X6_growMarks_L2] at h
      refine lv_iload_n hx hb dX6_growMarks_2 rfl (lv_at hl 3 rfl) ?_
      refine lv_aload_n hx hb dX6_growMarks_3 rfl (lv_at hl 0 rfl) ?_
      refine cr_X6_servers S X Z hin_X6 (cl_one N 10 (by decide)) hl_15 dX6_growMarks_4 ?_
      refine g_alR (i := (7, 0, 0)) (ca := 2) rfl S X Z (cl_one N 7 (by decide)) rfl dX6_growMarks_7 ?_
      refine lv_icmp_ge (tgt := 40) hx hb dX6_growMarks_8 (by decide) (fun c4 => ?_) (fun c4 => ?_)
      · have h := if_t c4 h
        have hy := Option.some.inj h
        subst hy
        exact g_rv S Z hr hlocks dX6_growMarks_40
      · have h := if_f c4 h
        refine lv_iload_n hx hb dX6_growMarks_11 rfl (lv_at hl 1 rfl) ?_
        refine lv_iload_n hx hb dX6_growMarks_12 rfl (lv_at hl 3 rfl) ?_
        obtain ⟨v6, hc5, h⟩ := o1_e h
        refine c_i X Z (c_SN (As := [.int a1, .int x1]) (rest := []) S X hN Z (t_X10_isIn l N D dA A hJ  hc5) ⟨va_cnB 2 hts (cG (cB 175 rfl)) rfl rfl rfl (hN.2 ("ReplicaFiles$Replicas", 27, yX10_isIn, "ReplicaFiles") (by decide +kernel)) (hts (.initialized RX10) (cBc 107 rfl)) (by decide +kernel) ⟨Nat.le_of_ble_eq_true rfl, Nat.le_of_ble_eq_true rfl⟩, hts (.static yX10_isIn) (cBc 178 rfl), trivial⟩ rfl hl.1 rfl (Nat.le_of_ble_eq_true rfl) dX6_growMarks_13 ⟨Nat.zero_le _, Nat.zero_le _⟩) (fun H locs Z => ?_)
        obtain ⟨J34, eJ34, h⟩ := jn_e h
        have hJ34 : ∀ (M7 : gM) (H : Heap) (locs : List Loc) (ls : Array Slot), gZ D (cLay N) dA (cLive N) A (gA (cLive N) A) s.heap M7 H locs → lv_has ls 4 [(0, .ref (A (10, 0, 0))), (1, .int a1), (2, .int a2), (3, .int x1)] → J34 M7 = some y → W p l e (headSpec wmX6_growMarks ({ frames := 1, cells := 0, slots := 0, locals := 21 } : Room)).room s m args below meth c H locs 0 0 (MQ below (cQv N D dA A y) args s 0 0 (gA (cLive N) A)) (F0 m 34 ls []) := by
          intro M7 H locs ls Z hl h
          rw [eJ34] at h
          try dsimp only at h
          obtain ⟨x8, ex8, h⟩ := lt_e h
          refine lv_iinc (v := x8) (lv' := [(3, .int x8), (0, .ref (A (10, 0, 0))), (1, .int a1), (2, .int a2)]) hx hb dX6_growMarks_34 hl (k := 3) rfl (by rw [ex8]; rfl) (by decide) rfl (fun ls hl => ?_)
          refine lv_goto (tgt := 2) hx hb dX6_growMarks_37 (by decide) ?_
          exact ih2 x8 M7 _ _ _ Z (lv_sub hl [1, 2, 3, 0] rfl) h
        refine lv_if_eq (tgt := 34) hx hb dX6_growMarks_16 (by decide) (fun c9 => ?_) (fun c9 => ?_)
        · have h := if_t c9 h
          exact hJ34 M2 _ _ _ Z (lv_sub hl [0, 1, 2, 3] rfl) h
        · have h := if_f c9 h
          refine lv_aload_n hx hb dX6_growMarks_19 rfl (lv_at hl 0 rfl) ?_
          refine cr_X6_servers S X Z hin_X6 (cl_one N 10 (by decide)) hl_15 dX6_growMarks_20 ?_
          refine lv_iload_n hx hb dX6_growMarks_23 rfl (lv_at hl 3 rfl) ?_
          refine g_aald (i := (7, 0, 0)) (ca := 2) ⟨rfl, rfl⟩ S X Z (cl_one N 7 (by decide)) rfl dX6_growMarks_24 h (fun v10 hv10 h => ?_)
          refine cn_X7_marks (a := v10) S X Z hin_X7 (cl_srv hv10) hl_95 dX6_growMarks_25 ?_
          refine lv_iload_n hx hb dX6_growMarks_28 rfl (lv_at hl 2 rfl) ?_
          refine lv_dup2_11 hx hb dX6_growMarks_29 rfl rfl ?_
          refine g_iald (i := (22, v10, 0)) (n := 48) S X Z (cl_X7_marks (cl_srv hv10)) rfl dX6_growMarks_30 h (fun v11 h => ?_)
          refine lv_iconst (v := (1 : Int32)) hx hb dX6_growMarks_31 (by decide) ?_
          refine lv_iadd hx hb dX6_growMarks_32 ?_
          refine g_iast (i := (22, v10, 0)) (n := 48) S X Z (cl_X7_marks (cl_srv hv10)) rfl dX6_growMarks_33 h (fun M12 H locs Z h => ?_)
          exact hJ34 M12 _ _ _ Z (lv_sub hl [0, 1, 2, 3] rfl) h
  exact hL2 100 (0 : Int32) M _ _ _ Z (lv_sub hl [1, 2, 3, 0] rfl) h
-- X6_copyMarks (II[I)V: 24 instructions
theorem dX6_copyMarks_0 : decode cX6_copyMarks 0 = .ok (.iconst 0, 1) := by decide +kernel
theorem dX6_copyMarks_1 : decode cX6_copyMarks 1 = .ok (.istore 4, 2) := by decide +kernel
theorem dX6_copyMarks_3 : decode cX6_copyMarks 3 = .ok (.iload 4, 2) := by decide +kernel
theorem dX6_copyMarks_5 : decode cX6_copyMarks 5 = .ok (.aload_n 0, 1) := by decide +kernel
theorem dX6_copyMarks_6 : decode cX6_copyMarks 6 = .ok (.getfield 15, 3) := by decide +kernel
theorem dX6_copyMarks_9 : decode cX6_copyMarks 9 = .ok (.arraylength, 1) := by decide +kernel
theorem dX6_copyMarks_10 : decode cX6_copyMarks 10 = .ok (.if_icmp .ge 34, 3) := by decide +kernel
theorem dX6_copyMarks_13 : decode cX6_copyMarks 13 = .ok (.iload_n 1, 1) := by decide +kernel
theorem dX6_copyMarks_14 : decode cX6_copyMarks 14 = .ok (.iload 4, 2) := by decide +kernel
theorem dX6_copyMarks_16 : decode cX6_copyMarks 16 = .ok (.invokestatic 27, 3) := by decide +kernel
theorem dX6_copyMarks_19 : decode cX6_copyMarks 19 = .ok (.ifCond .eq 19, 3) := by decide +kernel
theorem dX6_copyMarks_22 : decode cX6_copyMarks 22 = .ok (.aload_n 3, 1) := by decide +kernel
theorem dX6_copyMarks_23 : decode cX6_copyMarks 23 = .ok (.iload 4, 2) := by decide +kernel
theorem dX6_copyMarks_25 : decode cX6_copyMarks 25 = .ok (.aload_n 0, 1) := by decide +kernel
theorem dX6_copyMarks_26 : decode cX6_copyMarks 26 = .ok (.getfield 15, 3) := by decide +kernel
theorem dX6_copyMarks_29 : decode cX6_copyMarks 29 = .ok (.iload 4, 2) := by decide +kernel
theorem dX6_copyMarks_31 : decode cX6_copyMarks 31 = .ok (.aaload, 1) := by decide +kernel
theorem dX6_copyMarks_32 : decode cX6_copyMarks 32 = .ok (.getfield 95, 3) := by decide +kernel
theorem dX6_copyMarks_35 : decode cX6_copyMarks 35 = .ok (.iload_n 2, 1) := by decide +kernel
theorem dX6_copyMarks_36 : decode cX6_copyMarks 36 = .ok (.iaload, 1) := by decide +kernel
theorem dX6_copyMarks_37 : decode cX6_copyMarks 37 = .ok (.iastore, 1) := by decide +kernel
theorem dX6_copyMarks_38 : decode cX6_copyMarks 38 = .ok (.iinc 4 1, 3) := by decide +kernel
theorem dX6_copyMarks_41 : decode cX6_copyMarks 41 = .ok (.goto (-38), 3) := by decide +kernel
theorem dX6_copyMarks_44 : decode cX6_copyMarks 44 = .ok (.return_, 1) := by decide +kernel
abbrev wmX6_copyMarks : List Cond := .code yX6_copyMarks cX6_copyMarks 5 none :: cBig
def f_X6_copyMarks_L3 (N : Nat) (a1 : Int32) (a2 : Int32) (a3 : gI) : Nat → Int32 → gM → Option gM
  | 0, _, _ => none
  | n3 + 1, x1, M2 => (if (nI N) ≤ x1 then some M2 else o1 (f_X10_isIn N M2 a1 x1) (fun v6 => jn (fun (M7 : gM) => lt (x1 + 1) (fun x8 => f_X6_copyMarks_L3 N a1 a2 a3 n3 x8 M7)) (fun J38 => (if v6 = 0 then J38 M2 else ix x1 N (fun v10 => rd M2 (22, v10, 0) 48 a2 (fun v11 => wr M2 a3 (cN N a3) x1 v11 (fun M12 => J38 M12)))))))
def f_X6_copyMarks (N : Nat) (M : gM) (a1 : Int32) (a2 : Int32) (a3 : gI) : Option gM :=
  f_X6_copyMarks_L3 N a1 a2 a3 100 (0 : Int32) M
set_option maxHeartbeats 4000000 in
set_option maxRecDepth 100000 in
theorem t_X6_copyMarks (l : Launch) (N : Nat) (D : va_G) (dA : Nat → ClassId) (A : gI → Nat) (hJ : gJ (cLive N) A) {M : gM} {a1 : Int32} {a2 : Int32} {a3 : gI} (ha3 : cArr N a3) {y : gM} (h : f_X6_copyMarks N M a1 a2 a3 = some y) : cMv l yX6_copyMarks wmX6_copyMarks ({ frames := 1, cells := 0, slots := 0, locals := 21 } : Room) N D dA A [.ref (A (10, 0, 0)), .int a1, .int a2, .ref (A a3)] M y := by
  refine Met.ofW (cc := cX6_copyMarks) (maxL := 5) (ret := none) (by decide) rfl ?_
  intro p e s m args below meth c s₁ B hml hv
  obtain ⟨rfl, hP, hK, hN⟩ := hv
  generalize hargs : ([.ref (A (10, 0, 0)), .int a1, .int a2, .ref (A a3)] : List Value).toArray = args at B ⊢
  have S : CallFix p m c cX6_copyMarks 5 s args wmX6_copyMarks RX6 := ⟨B.exec, B.bytes, hml, findClass_of_methodNamed B.named, atoms_spec (ws := wmX6_copyMarks) B.pre⟩
  obtain ⟨hx, hb, -, hown, hts⟩ := id S
  have hr := B.returns
  have hlocks := B.notSynchronized
  have X : gX D vwCl dA (cLive N) A (gA (cLive N) A) s := ⟨hK, hJ, fun i hi => ⟨i, hi, rfl⟩⟩
  have Z : gZ D (cLay N) dA (cLive N) A (gA (cLive N) A) s.heap M s.heap [] := ⟨hP, va_S.rf⟩
  have hin_X6 : ∀ w ∈ wsX60, w ∈ wmX6_copyMarks := cin_X6
  have hin_X7 : ∀ w ∈ wsX70, w ∈ wmX6_copyMarks := cin_X7
  have hl_15 := hts (.fieldLink RX6 15 "ReplicaFiles$Replicas" "servers" "[LReplicaFiles$Server;") (cBc 177 rfl)
  have hl_95 := va_Nw.use (A := args) rfl (hN.1 ("ReplicaFiles$Replicas", 95, "ReplicaFiles$Server", "marks", "[I", "ReplicaFiles") (by decide +kernel))
  have hl := lv_entry ([.ref (A (10, 0, 0)), .int a1, .int a2, .ref (A a3)]) (n := 5) (Nat.le_of_ble_eq_true rfl)
  rw [← hargs, lg_entry_eq, hargs]
  generalize (lg_sl ([.ref (A (10, 0, 0)), .int a1, .int a2, .ref (A a3)]) ++ List.replicate (5 - (lg_sl ([.ref (A (10, 0, 0)), .int a1, .int a2, .ref (A a3)])).length) Slot.unset).toArray = ls at hl ⊢
  have hl : lv_has ls 5 [(0, .ref (A (10, 0, 0))), (1, .int a1), (2, .int a2), (3, .ref (A a3))] := hl
  unfold f_X6_copyMarks at h
  refine lv_iconst (v := (0 : Int32)) hx hb dX6_copyMarks_0 (by decide) ?_
  refine lv_istore (lv' := [(4, .int (0 : Int32)), (0, .ref (A (10, 0, 0))), (1, .int a1), (2, .int a2), (3, .ref (A a3))]) hx hb dX6_copyMarks_1 hl (by decide) rfl (fun ls hl => ?_)
  have hL3 : ∀ (n : Nat) (x1 : Int32) (M2 : gM) (H : Heap) (locs : List Loc) (ls : Array Slot), gZ D (cLay N) dA (cLive N) A (gA (cLive N) A) s.heap M2 H locs → lv_has ls 5 [(0, .ref (A (10, 0, 0))), (1, .int a1), (2, .int a2), (3, .ref (A a3)), (4, .int x1)] → f_X6_copyMarks_L3 N a1 a2 a3 n x1 M2 = some y → W p l e (headSpec wmX6_copyMarks ({ frames := 1, cells := 0, slots := 0, locals := 21 } : Room)).room s m args below meth c H locs 0 0 (MQ below (cQv N D dA A y) args s 0 0 (gA (cLive N) A)) (F0 m 3 ls []) := by
    intro n
    induction n with
    | zero =>
      intro x1 M2 H locs ls Z hl h
      rw [f_X6_copyMarks_L3] at h
      cases h
    | succ n3 ih3 =>
      intro x1 M2 H locs ls Z hl h
      rw [f_X6_copyMarks_L3] at h
      refine lv_iload hx hb dX6_copyMarks_3 (lv_at hl 4 rfl) ?_
      refine lv_aload_n hx hb dX6_copyMarks_5 rfl (lv_at hl 0 rfl) ?_
      refine cr_X6_servers S X Z hin_X6 (cl_one N 10 (by decide)) hl_15 dX6_copyMarks_6 ?_
      refine g_alR (i := (7, 0, 0)) (ca := 2) rfl S X Z (cl_one N 7 (by decide)) rfl dX6_copyMarks_9 ?_
      refine lv_icmp_ge (tgt := 44) hx hb dX6_copyMarks_10 (by decide) (fun c4 => ?_) (fun c4 => ?_)
      · have h := if_t c4 h
        have hy := Option.some.inj h
        subst hy
        exact g_rv S Z hr hlocks dX6_copyMarks_44
      · have h := if_f c4 h
        refine lv_iload_n hx hb dX6_copyMarks_13 rfl (lv_at hl 1 rfl) ?_
        refine lv_iload hx hb dX6_copyMarks_14 (lv_at hl 4 rfl) ?_
        obtain ⟨v6, hc5, h⟩ := o1_e h
        refine c_i X Z (c_SN (As := [.int a1, .int x1]) (rest := []) S X hN Z (t_X10_isIn l N D dA A hJ  hc5) ⟨va_cnB 2 hts (cG (cB 175 rfl)) rfl rfl rfl (hN.2 ("ReplicaFiles$Replicas", 27, yX10_isIn, "ReplicaFiles") (by decide +kernel)) (hts (.initialized RX10) (cBc 107 rfl)) (by decide +kernel) ⟨Nat.le_of_ble_eq_true rfl, Nat.le_of_ble_eq_true rfl⟩, hts (.static yX10_isIn) (cBc 178 rfl), trivial⟩ rfl hl.1 rfl (Nat.le_of_ble_eq_true rfl) dX6_copyMarks_16 ⟨Nat.zero_le _, Nat.zero_le _⟩) (fun H locs Z => ?_)
        obtain ⟨J38, eJ38, h⟩ := jn_e h
        have hJ38 : ∀ (M7 : gM) (H : Heap) (locs : List Loc) (ls : Array Slot), gZ D (cLay N) dA (cLive N) A (gA (cLive N) A) s.heap M7 H locs → lv_has ls 5 [(0, .ref (A (10, 0, 0))), (1, .int a1), (2, .int a2), (3, .ref (A a3)), (4, .int x1)] → J38 M7 = some y → W p l e (headSpec wmX6_copyMarks ({ frames := 1, cells := 0, slots := 0, locals := 21 } : Room)).room s m args below meth c H locs 0 0 (MQ below (cQv N D dA A y) args s 0 0 (gA (cLive N) A)) (F0 m 38 ls []) := by
          intro M7 H locs ls Z hl h
          rw [eJ38] at h
          try dsimp only at h
          obtain ⟨x8, ex8, h⟩ := lt_e h
          refine lv_iinc (v := x8) (lv' := [(4, .int x8), (0, .ref (A (10, 0, 0))), (1, .int a1), (2, .int a2), (3, .ref (A a3))]) hx hb dX6_copyMarks_38 hl (k := 4) rfl (by rw [ex8]; rfl) (by decide) rfl (fun ls hl => ?_)
          refine lv_goto (tgt := 3) hx hb dX6_copyMarks_41 (by decide) ?_
          exact ih3 x8 M7 _ _ _ Z (lv_sub hl [1, 2, 3, 4, 0] rfl) h
        refine lv_if_eq (tgt := 38) hx hb dX6_copyMarks_19 (by decide) (fun c9 => ?_) (fun c9 => ?_)
        · have h := if_t c9 h
          exact hJ38 M2 _ _ _ Z (lv_sub hl [0, 1, 2, 3, 4] rfl) h
        · have h := if_f c9 h
          refine lv_aload_n hx hb dX6_copyMarks_22 rfl (lv_at hl 3 rfl) ?_
          refine lv_iload hx hb dX6_copyMarks_23 (lv_at hl 4 rfl) ?_
          refine lv_aload_n hx hb dX6_copyMarks_25 rfl (lv_at hl 0 rfl) ?_
          refine cr_X6_servers S X Z hin_X6 (cl_one N 10 (by decide)) hl_15 dX6_copyMarks_26 ?_
          refine lv_iload hx hb dX6_copyMarks_29 (lv_at hl 4 rfl) ?_
          refine g_aald (i := (7, 0, 0)) (ca := 2) ⟨rfl, rfl⟩ S X Z (cl_one N 7 (by decide)) rfl dX6_copyMarks_31 h (fun v10 hv10 h => ?_)
          refine cn_X7_marks (a := v10) S X Z hin_X7 (cl_srv hv10) hl_95 dX6_copyMarks_32 ?_
          refine lv_iload_n hx hb dX6_copyMarks_35 rfl (lv_at hl 2 rfl) ?_
          refine g_iald (i := (22, v10, 0)) (n := 48) S X Z (cl_X7_marks (cl_srv hv10)) rfl dX6_copyMarks_36 h (fun v11 h => ?_)
          refine g_iast (i := a3) (n := (cN N a3)) S X Z ha3.1 ha3.2 dX6_copyMarks_37 h (fun M12 H locs Z h => ?_)
          exact hJ38 M12 _ _ _ Z (lv_sub hl [0, 1, 2, 3, 4] rfl) h
  exact hL3 100 (0 : Int32) M _ _ _ Z (lv_sub hl [1, 2, 3, 4, 0] rfl) h
-- X6_countAll (II)V: 30 instructions
theorem dX6_countAll_0 : decode cX6_countAll 0 = .ok (.aload_n 0, 1) := by decide +kernel
theorem dX6_countAll_1 : decode cX6_countAll 1 = .ok (.iload_n 1, 1) := by decide +kernel
theorem dX6_countAll_2 : decode cX6_countAll 2 = .ok (.iload_n 2, 1) := by decide +kernel
theorem dX6_countAll_3 : decode cX6_countAll 3 = .ok (.invokevirtual 98, 3) := by decide +kernel
theorem dX6_countAll_6 : decode cX6_countAll 6 = .ok (.iconst 0, 1) := by decide +kernel
theorem dX6_countAll_7 : decode cX6_countAll 7 = .ok (.istore_n 3, 1) := by decide +kernel
theorem dX6_countAll_8 : decode cX6_countAll 8 = .ok (.iload_n 3, 1) := by decide +kernel
theorem dX6_countAll_9 : decode cX6_countAll 9 = .ok (.aload_n 0, 1) := by decide +kernel
theorem dX6_countAll_10 : decode cX6_countAll 10 = .ok (.getfield 15, 3) := by decide +kernel
theorem dX6_countAll_13 : decode cX6_countAll 13 = .ok (.arraylength, 1) := by decide +kernel
theorem dX6_countAll_14 : decode cX6_countAll 14 = .ok (.if_icmp .ge 37, 3) := by decide +kernel
theorem dX6_countAll_17 : decode cX6_countAll 17 = .ok (.iload_n 1, 1) := by decide +kernel
theorem dX6_countAll_18 : decode cX6_countAll 18 = .ok (.iload_n 3, 1) := by decide +kernel
theorem dX6_countAll_19 : decode cX6_countAll 19 = .ok (.invokestatic 27, 3) := by decide +kernel
theorem dX6_countAll_22 : decode cX6_countAll 22 = .ok (.ifCond .eq 23, 3) := by decide +kernel
theorem dX6_countAll_25 : decode cX6_countAll 25 = .ok (.aload_n 0, 1) := by decide +kernel
theorem dX6_countAll_26 : decode cX6_countAll 26 = .ok (.iload_n 1, 1) := by decide +kernel
theorem dX6_countAll_27 : decode cX6_countAll 27 = .ok (.iload_n 2, 1) := by decide +kernel
theorem dX6_countAll_28 : decode cX6_countAll 28 = .ok (.aload_n 0, 1) := by decide +kernel
theorem dX6_countAll_29 : decode cX6_countAll 29 = .ok (.getfield 15, 3) := by decide +kernel
theorem dX6_countAll_32 : decode cX6_countAll 32 = .ok (.iload_n 3, 1) := by decide +kernel
theorem dX6_countAll_33 : decode cX6_countAll 33 = .ok (.aaload, 1) := by decide +kernel
theorem dX6_countAll_34 : decode cX6_countAll 34 = .ok (.getfield 31, 3) := by decide +kernel
theorem dX6_countAll_37 : decode cX6_countAll 37 = .ok (.getfield 47, 3) := by decide +kernel
theorem dX6_countAll_40 : decode cX6_countAll 40 = .ok (.iload_n 2, 1) := by decide +kernel
theorem dX6_countAll_41 : decode cX6_countAll 41 = .ok (.aaload, 1) := by decide +kernel
theorem dX6_countAll_42 : decode cX6_countAll 42 = .ok (.invokevirtual 106, 3) := by decide +kernel
theorem dX6_countAll_45 : decode cX6_countAll 45 = .ok (.iinc 3 1, 3) := by decide +kernel
theorem dX6_countAll_48 : decode cX6_countAll 48 = .ok (.goto (-40), 3) := by decide +kernel
theorem dX6_countAll_51 : decode cX6_countAll 51 = .ok (.return_, 1) := by decide +kernel
abbrev wmX6_countAll : List Cond := .code yX6_countAll cX6_countAll 4 none :: cBig
def f_X6_countAll_L8 (N : Nat) (a1 : Int32) (a2 : Int32) : Nat → Int32 → gM → Option gM
  | 0, _, _ => none
  | n5 + 1, x3, M4 => (if (nI N) ≤ x3 then some M4 else o1 (f_X10_isIn N M4 a1 x3) (fun v8 => jn (fun (M9 : gM) => lt (x3 + 1) (fun x10 => f_X6_countAll_L8 N a1 a2 n5 x10 M9)) (fun J45 => (if v8 = 0 then J45 M4 else ix x3 N (fun v12 => ix a2 48 (fun v13 => o1 (f_X6_copyMarks N M4 a1 a2 (55, v12, v13)) (fun M15 => J45 M15)))))))
def f_X6_countAll (N : Nat) (M : gM) (a1 : Int32) (a2 : Int32) : Option gM :=
  o1 (f_X6_growMarks N M a1 a2) (fun M2 => f_X6_countAll_L8 N a1 a2 100 (0 : Int32) M2)
set_option maxHeartbeats 4000000 in
set_option maxRecDepth 100000 in
theorem t_X6_countAll (l : Launch) (N : Nat) (D : va_G) (dA : Nat → ClassId) (A : gI → Nat) (hJ : gJ (cLive N) A) {M : gM} {a1 : Int32} {a2 : Int32}  {y : gM} (h : f_X6_countAll N M a1 a2 = some y) : cMv l yX6_countAll wmX6_countAll ({ frames := 2, cells := 0, slots := 0, locals := 45 } : Room) N D dA A [.ref (A (10, 0, 0)), .int a1, .int a2] M y := by
  refine Met.ofW (cc := cX6_countAll) (maxL := 4) (ret := none) (by decide) rfl ?_
  intro p e s m args below meth c s₁ B hml hv
  obtain ⟨rfl, hP, hK, hN⟩ := hv
  generalize hargs : ([.ref (A (10, 0, 0)), .int a1, .int a2] : List Value).toArray = args at B ⊢
  have S : CallFix p m c cX6_countAll 4 s args wmX6_countAll RX6 := ⟨B.exec, B.bytes, hml, findClass_of_methodNamed B.named, atoms_spec (ws := wmX6_countAll) B.pre⟩
  obtain ⟨hx, hb, -, hown, hts⟩ := id S
  have hr := B.returns
  have hlocks := B.notSynchronized
  have X : gX D vwCl dA (cLive N) A (gA (cLive N) A) s := ⟨hK, hJ, fun i hi => ⟨i, hi, rfl⟩⟩
  have Z : gZ D (cLay N) dA (cLive N) A (gA (cLive N) A) s.heap M s.heap [] := ⟨hP, va_S.rf⟩
  have hin_X6 : ∀ w ∈ wsX60, w ∈ wmX6_countAll := cin_X6
  have hin_X7 : ∀ w ∈ wsX70, w ∈ wmX6_countAll := cin_X7
  have hin_X8 : ∀ w ∈ wsX80, w ∈ wmX6_countAll := cin_X8
  have hl_15 := hts (.fieldLink RX6 15 "ReplicaFiles$Replicas" "servers" "[LReplicaFiles$Server;") (cBc 177 rfl)
  have hl_31 := va_Nw.use (A := args) rfl (hN.1 ("ReplicaFiles$Replicas", 31, "ReplicaFiles$Server", "tree", "LReplicaFiles$Tree;", "ReplicaFiles") (by decide +kernel))
  have hl_47 := va_Nw.use (A := args) rfl (hN.1 ("ReplicaFiles$Replicas", 47, "ReplicaFiles$Tree", "counts", "[[I", "ReplicaFiles") (by decide +kernel))
  have hl := lv_entry ([.ref (A (10, 0, 0)), .int a1, .int a2]) (n := 4) (Nat.le_of_ble_eq_true rfl)
  rw [← hargs, lg_entry_eq, hargs]
  generalize (lg_sl ([.ref (A (10, 0, 0)), .int a1, .int a2]) ++ List.replicate (4 - (lg_sl ([.ref (A (10, 0, 0)), .int a1, .int a2])).length) Slot.unset).toArray = ls at hl ⊢
  have hl : lv_has ls 4 [(0, .ref (A (10, 0, 0))), (1, .int a1), (2, .int a2)] := hl
  unfold f_X6_countAll at h
  refine lv_aload_n hx hb dX6_countAll_0 rfl (lv_at hl 0 rfl) ?_
  refine lv_iload_n hx hb dX6_countAll_1 rfl (lv_at hl 1 rfl) ?_
  refine lv_iload_n hx hb dX6_countAll_2 rfl (lv_at hl 2 rfl) ?_
  obtain ⟨M2, hc1, h⟩ := o1_e h
  refine c_v X Z (c_V (i := (10, 0, 0)) (As := [.int a1, .int a2]) (rest := []) S X hN Z (cl_one N 10 (by decide)) rfl rfl (t_X6_growMarks l N D dA A hJ  hc1) (cwV 2 hts (cGV (cB 200 rfl) (cB 201 rfl) (cB 202 rfl) (cB 203 rfl) (cB 197 rfl)) rfl rfl rfl (by decide +kernel) ⟨Nat.le_of_ble_eq_true rfl, Nat.le_of_ble_eq_true rfl⟩) rfl hl.1 rfl (Nat.le_of_ble_eq_true rfl) dX6_countAll_3 ⟨Nat.zero_le _, Nat.zero_le _⟩) (fun H locs Z => ?_)
  refine lv_iconst (v := (0 : Int32)) hx hb dX6_countAll_6 (by decide) ?_
  refine lv_istore_n (lv' := [(3, .int (0 : Int32)), (0, .ref (A (10, 0, 0))), (1, .int a1), (2, .int a2)]) hx hb dX6_countAll_7 rfl hl (by decide) rfl (fun ls hl => ?_)
  have hL8 : ∀ (n : Nat) (x3 : Int32) (M4 : gM) (H : Heap) (locs : List Loc) (ls : Array Slot), gZ D (cLay N) dA (cLive N) A (gA (cLive N) A) s.heap M4 H locs → lv_has ls 4 [(0, .ref (A (10, 0, 0))), (1, .int a1), (2, .int a2), (3, .int x3)] → f_X6_countAll_L8 N a1 a2 n x3 M4 = some y → W p l e (headSpec wmX6_countAll ({ frames := 2, cells := 0, slots := 0, locals := 45 } : Room)).room s m args below meth c H locs 0 0 (MQ below (cQv N D dA A y) args s 0 0 (gA (cLive N) A)) (F0 m 8 ls []) := by
    intro n
    induction n with
    | zero =>
      intro x3 M4 H locs ls Z hl h
      rw [f_X6_countAll_L8] at h
      cases h
    | succ n5 ih8 =>
      intro x3 M4 H locs ls Z hl h
      rw [f_X6_countAll_L8] at h
      refine lv_iload_n hx hb dX6_countAll_8 rfl (lv_at hl 3 rfl) ?_
      refine lv_aload_n hx hb dX6_countAll_9 rfl (lv_at hl 0 rfl) ?_
      refine cr_X6_servers S X Z hin_X6 (cl_one N 10 (by decide)) hl_15 dX6_countAll_10 ?_
      refine g_alR (i := (7, 0, 0)) (ca := 2) rfl S X Z (cl_one N 7 (by decide)) rfl dX6_countAll_13 ?_
      refine lv_icmp_ge (tgt := 51) hx hb dX6_countAll_14 (by decide) (fun c6 => ?_) (fun c6 => ?_)
      · have h := if_t c6 h
        have hy := Option.some.inj h
        subst hy
        exact g_rv S Z hr hlocks dX6_countAll_51
      · have h := if_f c6 h
        refine lv_iload_n hx hb dX6_countAll_17 rfl (lv_at hl 1 rfl) ?_
        refine lv_iload_n hx hb dX6_countAll_18 rfl (lv_at hl 3 rfl) ?_
        obtain ⟨v8, hc7, h⟩ := o1_e h
        refine c_i X Z (c_SN (As := [.int a1, .int x3]) (rest := []) S X hN Z (t_X10_isIn l N D dA A hJ  hc7) ⟨va_cnB 2 hts (cG (cB 175 rfl)) rfl rfl rfl (hN.2 ("ReplicaFiles$Replicas", 27, yX10_isIn, "ReplicaFiles") (by decide +kernel)) (hts (.initialized RX10) (cBc 107 rfl)) (by decide +kernel) ⟨Nat.le_of_ble_eq_true rfl, Nat.le_of_ble_eq_true rfl⟩, hts (.static yX10_isIn) (cBc 178 rfl), trivial⟩ rfl hl.1 rfl (Nat.le_of_ble_eq_true rfl) dX6_countAll_19 ⟨Nat.zero_le _, Nat.zero_le _⟩) (fun H locs Z => ?_)
        obtain ⟨J45, eJ45, h⟩ := jn_e h
        have hJ45 : ∀ (M9 : gM) (H : Heap) (locs : List Loc) (ls : Array Slot), gZ D (cLay N) dA (cLive N) A (gA (cLive N) A) s.heap M9 H locs → lv_has ls 4 [(0, .ref (A (10, 0, 0))), (1, .int a1), (2, .int a2), (3, .int x3)] → J45 M9 = some y → W p l e (headSpec wmX6_countAll ({ frames := 2, cells := 0, slots := 0, locals := 45 } : Room)).room s m args below meth c H locs 0 0 (MQ below (cQv N D dA A y) args s 0 0 (gA (cLive N) A)) (F0 m 45 ls []) := by
          intro M9 H locs ls Z hl h
          rw [eJ45] at h
          try dsimp only at h
          obtain ⟨x10, ex10, h⟩ := lt_e h
          refine lv_iinc (v := x10) (lv' := [(3, .int x10), (0, .ref (A (10, 0, 0))), (1, .int a1), (2, .int a2)]) hx hb dX6_countAll_45 hl (k := 3) rfl (by rw [ex10]; rfl) (by decide) rfl (fun ls hl => ?_)
          refine lv_goto (tgt := 8) hx hb dX6_countAll_48 (by decide) ?_
          exact ih8 x10 M9 _ _ _ Z (lv_sub hl [1, 2, 3, 0] rfl) h
        refine lv_if_eq (tgt := 45) hx hb dX6_countAll_22 (by decide) (fun c11 => ?_) (fun c11 => ?_)
        · have h := if_t c11 h
          exact hJ45 M4 _ _ _ Z (lv_sub hl [0, 1, 2, 3] rfl) h
        · have h := if_f c11 h
          refine lv_aload_n hx hb dX6_countAll_25 rfl (lv_at hl 0 rfl) ?_
          refine lv_iload_n hx hb dX6_countAll_26 rfl (lv_at hl 1 rfl) ?_
          refine lv_iload_n hx hb dX6_countAll_27 rfl (lv_at hl 2 rfl) ?_
          refine lv_aload_n hx hb dX6_countAll_28 rfl (lv_at hl 0 rfl) ?_
          refine cr_X6_servers S X Z hin_X6 (cl_one N 10 (by decide)) hl_15 dX6_countAll_29 ?_
          refine lv_iload_n hx hb dX6_countAll_32 rfl (lv_at hl 3 rfl) ?_
          refine g_aald (i := (7, 0, 0)) (ca := 2) ⟨rfl, rfl⟩ S X Z (cl_one N 7 (by decide)) rfl dX6_countAll_33 h (fun v12 hv12 h => ?_)
          refine cn_X7_tree (a := v12) S X Z hin_X7 (cl_srv hv12) hl_31 dX6_countAll_34 ?_
          refine cn_X8_counts (a := v12) S X Z hin_X8 (cl_st (cl_srv hv12)) hl_47 dX6_countAll_37 ?_
          refine lv_iload_n hx hb dX6_countAll_40 rfl (lv_at hl 2 rfl) ?_
          refine g_aald (i := (54, v12, 0)) (ca := 5) ⟨rfl, rfl⟩ S X Z (cl_X8_counts (cl_st (cl_srv hv12))) rfl dX6_countAll_41 h (fun v13 hv13 h => ?_)
          obtain ⟨M15, hc14, h⟩ := o1_e h
          refine c_v X Z (c_V (i := (10, 0, 0)) (As := [.int a1, .int a2, .ref (A (55, v12, v13))]) (rest := []) S X hN Z (cl_one N 10 (by decide)) rfl rfl (t_X6_copyMarks l N D dA A hJ ⟨(cl_55 (cl_X8_counts (cl_st (cl_srv hv12))) hv13), rfl⟩ hc14) (cwV 3 hts (cGV (cB 204 rfl) (cB 205 rfl) (cB 206 rfl) (cB 203 rfl) (cB 198 rfl)) rfl rfl rfl (by decide +kernel) ⟨Nat.le_of_ble_eq_true rfl, Nat.le_of_ble_eq_true rfl⟩) rfl hl.1 rfl (Nat.le_of_ble_eq_true rfl) dX6_countAll_42 ⟨Nat.zero_le _, Nat.zero_le _⟩) (fun H locs Z => ?_)
          exact hJ45 M15 _ _ _ Z (lv_sub hl [0, 1, 2, 3] rfl) h
  exact hL8 100 (0 : Int32) M2 _ _ _ Z (lv_sub hl [1, 2, 3, 0] rfl) h
-- X6_endPromises (II)V: 23 instructions
theorem dX6_endPromises_0 : decode cX6_endPromises 0 = .ok (.iconst 0, 1) := by decide +kernel
theorem dX6_endPromises_1 : decode cX6_endPromises 1 = .ok (.istore_n 3, 1) := by decide +kernel
theorem dX6_endPromises_2 : decode cX6_endPromises 2 = .ok (.iload_n 3, 1) := by decide +kernel
theorem dX6_endPromises_3 : decode cX6_endPromises 3 = .ok (.aload_n 0, 1) := by decide +kernel
theorem dX6_endPromises_4 : decode cX6_endPromises 4 = .ok (.getfield 19, 3) := by decide +kernel
theorem dX6_endPromises_7 : decode cX6_endPromises 7 = .ok (.arraylength, 1) := by decide +kernel
theorem dX6_endPromises_8 : decode cX6_endPromises 8 = .ok (.if_icmp .ge 26, 3) := by decide +kernel
theorem dX6_endPromises_11 : decode cX6_endPromises 11 = .ok (.aload_n 0, 1) := by decide +kernel
theorem dX6_endPromises_12 : decode cX6_endPromises 12 = .ok (.getfield 19, 3) := by decide +kernel
theorem dX6_endPromises_15 : decode cX6_endPromises 15 = .ok (.iload_n 3, 1) := by decide +kernel
theorem dX6_endPromises_16 : decode cX6_endPromises 16 = .ok (.aaload, 1) := by decide +kernel
theorem dX6_endPromises_17 : decode cX6_endPromises 17 = .ok (.getfield 110, 3) := by decide +kernel
theorem dX6_endPromises_20 : decode cX6_endPromises 20 = .ok (.iload_n 2, 1) := by decide +kernel
theorem dX6_endPromises_21 : decode cX6_endPromises 21 = .ok (.dup2, 1) := by decide +kernel
theorem dX6_endPromises_22 : decode cX6_endPromises 22 = .ok (.iaload, 1) := by decide +kernel
theorem dX6_endPromises_23 : decode cX6_endPromises 23 = .ok (.iload_n 1, 1) := by decide +kernel
theorem dX6_endPromises_24 : decode cX6_endPromises 24 = .ok (.iconst (-1), 1) := by decide +kernel
theorem dX6_endPromises_25 : decode cX6_endPromises 25 = .ok (.ixor, 1) := by decide +kernel
theorem dX6_endPromises_26 : decode cX6_endPromises 26 = .ok (.iand, 1) := by decide +kernel
theorem dX6_endPromises_27 : decode cX6_endPromises 27 = .ok (.iastore, 1) := by decide +kernel
theorem dX6_endPromises_28 : decode cX6_endPromises 28 = .ok (.iinc 3 1, 3) := by decide +kernel
theorem dX6_endPromises_31 : decode cX6_endPromises 31 = .ok (.goto (-29), 3) := by decide +kernel
theorem dX6_endPromises_34 : decode cX6_endPromises 34 = .ok (.return_, 1) := by decide +kernel
abbrev wmX6_endPromises : List Cond := .code yX6_endPromises cX6_endPromises 4 none :: cBig
def f_X6_endPromises_L2 (N : Nat) (a1 : Int32) (a2 : Int32) : Nat → Int32 → gM → Option gM
  | 0, _, _ => none
  | n3 + 1, x1, M2 => (if (nI 4) ≤ x1 then some M2 else ix x1 4 (fun v5 => rd M2 (32, v5, 0) 48 a2 (fun v6 => wr M2 (32, v5, 0) 48 a2 (v6 &&& (a1 ^^^ (-1 : Int32))) (fun M7 => lt (x1 + 1) (fun x8 => f_X6_endPromises_L2 N a1 a2 n3 x8 M7)))))
def f_X6_endPromises (N : Nat) (M : gM) (a1 : Int32) (a2 : Int32) : Option gM :=
  f_X6_endPromises_L2 N a1 a2 100 (0 : Int32) M
set_option maxHeartbeats 4000000 in
set_option maxRecDepth 100000 in
theorem t_X6_endPromises (l : Launch) (N : Nat) (D : va_G) (dA : Nat → ClassId) (A : gI → Nat) (hJ : gJ (cLive N) A) {M : gM} {a1 : Int32} {a2 : Int32}  {y : gM} (h : f_X6_endPromises N M a1 a2 = some y) : cMv l yX6_endPromises wmX6_endPromises ({ frames := 0, cells := 0, slots := 0, locals := 0 } : Room) N D dA A [.ref (A (10, 0, 0)), .int a1, .int a2] M y := by
  refine Met.ofW (cc := cX6_endPromises) (maxL := 4) (ret := none) (by decide) rfl ?_
  intro p e s m args below meth c s₁ B hml hv
  obtain ⟨rfl, hP, hK, hN⟩ := hv
  generalize hargs : ([.ref (A (10, 0, 0)), .int a1, .int a2] : List Value).toArray = args at B ⊢
  have S : CallFix p m c cX6_endPromises 4 s args wmX6_endPromises RX6 := ⟨B.exec, B.bytes, hml, findClass_of_methodNamed B.named, atoms_spec (ws := wmX6_endPromises) B.pre⟩
  obtain ⟨hx, hb, -, hown, hts⟩ := id S
  have hr := B.returns
  have hlocks := B.notSynchronized
  have X : gX D vwCl dA (cLive N) A (gA (cLive N) A) s := ⟨hK, hJ, fun i hi => ⟨i, hi, rfl⟩⟩
  have Z : gZ D (cLay N) dA (cLive N) A (gA (cLive N) A) s.heap M s.heap [] := ⟨hP, va_S.rf⟩
  have hin_X1 : ∀ w ∈ wsX10, w ∈ wmX6_endPromises := cin_X1
  have hin_X6 : ∀ w ∈ wsX60, w ∈ wmX6_endPromises := cin_X6
  have hl_19 := hts (.fieldLink RX6 19 "ReplicaFiles$Replicas" "clients" "[LReplicaFiles$Client;") (cBc 208 rfl)
  have hl_110 := va_Nw.use (A := args) rfl (hN.1 ("ReplicaFiles$Replicas", 110, "ReplicaFiles$Client", "promised", "[I", "ReplicaFiles") (by decide +kernel))
  have hl := lv_entry ([.ref (A (10, 0, 0)), .int a1, .int a2]) (n := 4) (Nat.le_of_ble_eq_true rfl)
  rw [← hargs, lg_entry_eq, hargs]
  generalize (lg_sl ([.ref (A (10, 0, 0)), .int a1, .int a2]) ++ List.replicate (4 - (lg_sl ([.ref (A (10, 0, 0)), .int a1, .int a2])).length) Slot.unset).toArray = ls at hl ⊢
  have hl : lv_has ls 4 [(0, .ref (A (10, 0, 0))), (1, .int a1), (2, .int a2)] := hl
  unfold f_X6_endPromises at h
  refine lv_iconst (v := (0 : Int32)) hx hb dX6_endPromises_0 (by decide) ?_
  refine lv_istore_n (lv' := [(3, .int (0 : Int32)), (0, .ref (A (10, 0, 0))), (1, .int a1), (2, .int a2)]) hx hb dX6_endPromises_1 rfl hl (by decide) rfl (fun ls hl => ?_)
  have hL2 : ∀ (n : Nat) (x1 : Int32) (M2 : gM) (H : Heap) (locs : List Loc) (ls : Array Slot), gZ D (cLay N) dA (cLive N) A (gA (cLive N) A) s.heap M2 H locs → lv_has ls 4 [(0, .ref (A (10, 0, 0))), (1, .int a1), (2, .int a2), (3, .int x1)] → f_X6_endPromises_L2 N a1 a2 n x1 M2 = some y → W p l e (headSpec wmX6_endPromises ({ frames := 0, cells := 0, slots := 0, locals := 0 } : Room)).room s m args below meth c H locs 0 0 (MQ below (cQv N D dA A y) args s 0 0 (gA (cLive N) A)) (F0 m 2 ls []) := by
    intro n
    induction n with
    | zero =>
      intro x1 M2 H locs ls Z hl h
      rw [f_X6_endPromises_L2] at h
      cases h
    | succ n3 ih2 =>
      intro x1 M2 H locs ls Z hl h
      rw [f_X6_endPromises_L2] at h
      refine lv_iload_n hx hb dX6_endPromises_2 rfl (lv_at hl 3 rfl) ?_
      refine lv_aload_n hx hb dX6_endPromises_3 rfl (lv_at hl 0 rfl) ?_
      refine cr_X6_clients S X Z hin_X6 (cl_one N 10 (by decide)) hl_19 dX6_endPromises_4 ?_
      refine g_alR (i := (8, 0, 0)) (ca := 3) rfl S X Z (cl_one N 8 (by decide)) rfl dX6_endPromises_7 ?_
      refine lv_icmp_ge (tgt := 34) hx hb dX6_endPromises_8 (by decide) (fun c4 => ?_) (fun c4 => ?_)
      · have h := if_t c4 h
        have hy := Option.some.inj h
        subst hy
        exact g_rv S Z hr hlocks dX6_endPromises_34
      · have h := if_f c4 h
        refine lv_aload_n hx hb dX6_endPromises_11 rfl (lv_at hl 0 rfl) ?_
        refine cr_X6_clients S X Z hin_X6 (cl_one N 10 (by decide)) hl_19 dX6_endPromises_12 ?_
        refine lv_iload_n hx hb dX6_endPromises_15 rfl (lv_at hl 3 rfl) ?_
        refine g_aald (i := (8, 0, 0)) (ca := 3) ⟨rfl, rfl⟩ S X Z (cl_one N 8 (by decide)) rfl dX6_endPromises_16 h (fun v5 hv5 h => ?_)
        refine cn_X1_promised (a := v5) S X Z hin_X1 (cl_cli hv5) hl_110 dX6_endPromises_17 ?_
        refine lv_iload_n hx hb dX6_endPromises_20 rfl (lv_at hl 2 rfl) ?_
        refine lv_dup2_11 hx hb dX6_endPromises_21 rfl rfl ?_
        refine g_iald (i := (32, v5, 0)) (n := 48) S X Z (cl_X1_promised (cl_cli hv5)) rfl dX6_endPromises_22 h (fun v6 h => ?_)
        refine lv_iload_n hx hb dX6_endPromises_23 rfl (lv_at hl 1 rfl) ?_
        refine lv_iconst (v := (-1 : Int32)) hx hb dX6_endPromises_24 (by decide) ?_
        refine lv_ixor hx hb dX6_endPromises_25 ?_
        refine lv_iand hx hb dX6_endPromises_26 ?_
        refine g_iast (i := (32, v5, 0)) (n := 48) S X Z (cl_X1_promised (cl_cli hv5)) rfl dX6_endPromises_27 h (fun M7 H locs Z h => ?_)
        obtain ⟨x8, ex8, h⟩ := lt_e h
        refine lv_iinc (v := x8) (lv' := [(3, .int x8), (0, .ref (A (10, 0, 0))), (1, .int a1), (2, .int a2)]) hx hb dX6_endPromises_28 hl (k := 3) rfl (by rw [ex8]; rfl) (by decide) rfl (fun ls hl => ?_)
        refine lv_goto (tgt := 2) hx hb dX6_endPromises_31 (by decide) ?_
        exact ih2 x8 M7 _ _ _ Z (lv_sub hl [1, 2, 3, 0] rfl) h
  exact hL2 100 (0 : Int32) M _ _ _ Z (lv_sub hl [1, 2, 3, 0] rfl) h
