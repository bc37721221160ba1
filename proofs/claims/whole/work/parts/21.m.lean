-- X11_meetAt (I)V: 69 instructions
theorem dX11_meetAt_0 : decode cX11_meetAt 0 = .ok (.iload_n 1, 1) := by decide +kernel
theorem dX11_meetAt_1 : decode cX11_meetAt 1 = .ok (.ifCond .le 30, 3) := by decide +kernel
theorem dX11_meetAt_4 : decode cX11_meetAt 4 = .ok (.aload_n 0, 1) := by decide +kernel
theorem dX11_meetAt_5 : decode cX11_meetAt 5 = .ok (.getfield 140, 3) := by decide +kernel
theorem dX11_meetAt_8 : decode cX11_meetAt 8 = .ok (.aload_n 0, 1) := by decide +kernel
theorem dX11_meetAt_9 : decode cX11_meetAt 9 = .ok (.getfield 22, 3) := by decide +kernel
theorem dX11_meetAt_12 : decode cX11_meetAt 12 = .ok (.iload_n 1, 1) := by decide +kernel
theorem dX11_meetAt_13 : decode cX11_meetAt 13 = .ok (.iaload, 1) := by decide +kernel
theorem dX11_meetAt_14 : decode cX11_meetAt 14 = .ok (.baload, 1) := by decide +kernel
theorem dX11_meetAt_15 : decode cX11_meetAt 15 = .ok (.ifCond .eq 16, 3) := by decide +kernel
theorem dX11_meetAt_18 : decode cX11_meetAt 18 = .ok (.aload_n 0, 1) := by decide +kernel
theorem dX11_meetAt_19 : decode cX11_meetAt 19 = .ok (.getfield 140, 3) := by decide +kernel
theorem dX11_meetAt_22 : decode cX11_meetAt 22 = .ok (.iload_n 1, 1) := by decide +kernel
theorem dX11_meetAt_23 : decode cX11_meetAt 23 = .ok (.iconst 1, 1) := by decide +kernel
theorem dX11_meetAt_24 : decode cX11_meetAt 24 = .ok (.bastore, 1) := by decide +kernel
theorem dX11_meetAt_25 : decode cX11_meetAt 25 = .ok (.aload_n 0, 1) := by decide +kernel
theorem dX11_meetAt_26 : decode cX11_meetAt 26 = .ok (.iload_n 1, 1) := by decide +kernel
theorem dX11_meetAt_27 : decode cX11_meetAt 27 = .ok (.invokevirtual 409, 3) := by decide +kernel
theorem dX11_meetAt_30 : decode cX11_meetAt 30 = .ok (.return_, 1) := by decide +kernel
theorem dX11_meetAt_31 : decode cX11_meetAt 31 = .ok (.aload_n 0, 1) := by decide +kernel
theorem dX11_meetAt_32 : decode cX11_meetAt 32 = .ok (.iload_n 1, 1) := by decide +kernel
theorem dX11_meetAt_33 : decode cX11_meetAt 33 = .ok (.invokevirtual 412, 3) := by decide +kernel
theorem dX11_meetAt_36 : decode cX11_meetAt 36 = .ok (.istore_n 2, 1) := by decide +kernel
theorem dX11_meetAt_37 : decode cX11_meetAt 37 = .ok (.iload_n 2, 1) := by decide +kernel
theorem dX11_meetAt_38 : decode cX11_meetAt 38 = .ok (.ifCond .eq 16, 3) := by decide +kernel
theorem dX11_meetAt_41 : decode cX11_meetAt 41 = .ok (.iload_n 2, 1) := by decide +kernel
theorem dX11_meetAt_42 : decode cX11_meetAt 42 = .ok (.iconst 2, 1) := by decide +kernel
theorem dX11_meetAt_43 : decode cX11_meetAt 43 = .ok (.if_icmp .ne 12, 3) := by decide +kernel
theorem dX11_meetAt_46 : decode cX11_meetAt 46 = .ok (.aload_n 0, 1) := by decide +kernel
theorem dX11_meetAt_47 : decode cX11_meetAt 47 = .ok (.iload_n 1, 1) := by decide +kernel
theorem dX11_meetAt_48 : decode cX11_meetAt 48 = .ok (.invokevirtual 415, 3) := by decide +kernel
theorem dX11_meetAt_51 : decode cX11_meetAt 51 = .ok (.ifCond .ne 4, 3) := by decide +kernel
theorem dX11_meetAt_54 : decode cX11_meetAt 54 = .ok (.return_, 1) := by decide +kernel
theorem dX11_meetAt_55 : decode cX11_meetAt 55 = .ok (.iload_n 2, 1) := by decide +kernel
theorem dX11_meetAt_56 : decode cX11_meetAt 56 = .ok (.iconst 2, 1) := by decide +kernel
theorem dX11_meetAt_57 : decode cX11_meetAt 57 = .ok (.if_icmp .ne 35, 3) := by decide +kernel
theorem dX11_meetAt_60 : decode cX11_meetAt 60 = .ok (.aload_n 0, 1) := by decide +kernel
theorem dX11_meetAt_61 : decode cX11_meetAt 61 = .ok (.iload_n 1, 1) := by decide +kernel
theorem dX11_meetAt_62 : decode cX11_meetAt 62 = .ok (.invokevirtual 418, 3) := by decide +kernel
theorem dX11_meetAt_65 : decode cX11_meetAt 65 = .ok (.aload_n 0, 1) := by decide +kernel
theorem dX11_meetAt_66 : decode cX11_meetAt 66 = .ok (.getfield 137, 3) := by decide +kernel
theorem dX11_meetAt_69 : decode cX11_meetAt 69 = .ok (.iload_n 1, 1) := by decide +kernel
theorem dX11_meetAt_70 : decode cX11_meetAt 70 = .ok (.baload, 1) := by decide +kernel
theorem dX11_meetAt_71 : decode cX11_meetAt 71 = .ok (.ifCond .eq 16, 3) := by decide +kernel
theorem dX11_meetAt_74 : decode cX11_meetAt 74 = .ok (.aload_n 0, 1) := by decide +kernel
theorem dX11_meetAt_75 : decode cX11_meetAt 75 = .ok (.getfield 140, 3) := by decide +kernel
theorem dX11_meetAt_78 : decode cX11_meetAt 78 = .ok (.iload_n 1, 1) := by decide +kernel
theorem dX11_meetAt_79 : decode cX11_meetAt 79 = .ok (.iconst 1, 1) := by decide +kernel
theorem dX11_meetAt_80 : decode cX11_meetAt 80 = .ok (.bastore, 1) := by decide +kernel
theorem dX11_meetAt_81 : decode cX11_meetAt 81 = .ok (.aload_n 0, 1) := by decide +kernel
theorem dX11_meetAt_82 : decode cX11_meetAt 82 = .ok (.iload_n 1, 1) := by decide +kernel
theorem dX11_meetAt_83 : decode cX11_meetAt 83 = .ok (.invokevirtual 409, 3) := by decide +kernel
theorem dX11_meetAt_86 : decode cX11_meetAt 86 = .ok (.return_, 1) := by decide +kernel
theorem dX11_meetAt_87 : decode cX11_meetAt 87 = .ok (.aload_n 0, 1) := by decide +kernel
theorem dX11_meetAt_88 : decode cX11_meetAt 88 = .ok (.iload_n 1, 1) := by decide +kernel
theorem dX11_meetAt_89 : decode cX11_meetAt 89 = .ok (.invokevirtual 421, 3) := by decide +kernel
theorem dX11_meetAt_92 : decode cX11_meetAt 92 = .ok (.aload_n 0, 1) := by decide +kernel
theorem dX11_meetAt_93 : decode cX11_meetAt 93 = .ok (.getfield 29, 3) := by decide +kernel
theorem dX11_meetAt_96 : decode cX11_meetAt 96 = .ok (.iload_n 1, 1) := by decide +kernel
theorem dX11_meetAt_97 : decode cX11_meetAt 97 = .ok (.baload, 1) := by decide +kernel
theorem dX11_meetAt_98 : decode cX11_meetAt 98 = .ok (.ifCond .eq 11, 3) := by decide +kernel
theorem dX11_meetAt_101 : decode cX11_meetAt 101 = .ok (.aload_n 0, 1) := by decide +kernel
theorem dX11_meetAt_102 : decode cX11_meetAt 102 = .ok (.iload_n 1, 1) := by decide +kernel
theorem dX11_meetAt_103 : decode cX11_meetAt 103 = .ok (.invokevirtual 424, 3) := by decide +kernel
theorem dX11_meetAt_106 : decode cX11_meetAt 106 = .ok (.goto 8, 3) := by decide +kernel
theorem dX11_meetAt_109 : decode cX11_meetAt 109 = .ok (.aload_n 0, 1) := by decide +kernel
theorem dX11_meetAt_110 : decode cX11_meetAt 110 = .ok (.iload_n 1, 1) := by decide +kernel
theorem dX11_meetAt_111 : decode cX11_meetAt 111 = .ok (.invokevirtual 427, 3) := by decide +kernel
theorem dX11_meetAt_114 : decode cX11_meetAt 114 = .ok (.return_, 1) := by decide +kernel
abbrev wmX11_meetAt : List Cond := .code yX11_meetAt cX11_meetAt 3 none :: mBig
def f_X11_meetAt (M : gM) (a1 : Int32) : Option gM :=
  jn (fun (M1 : gM) => o1 (f_X11_standing M1 a1) (fun v3 => (if v3 = 0 then some M1 else jn (fun (M5 : gM) => jn (fun (M6 : gM) => rd M6 m_isDirectory 48 a1 (fun v7 => (if v7 = 0 then o1 (f_X11_mergeFile M6 a1) (fun M10 => some M10) else o1 (f_X11_mergeDirectory M6 a1) (fun M12 => some M12)))) (fun J92 => (if v3 = (2 : Int32) then o1 (f_X11_foresee M5 a1) (fun M15 => rd M15 m_canGo 48 a1 (fun v16 => (if v16 = 0 then o1 (f_X11_again M15 a1) (fun M19 => J92 M19) else wz M15 m_swept 48 a1 (1 : Int32) (fun M20 => o1 (f_X11_sweep M20 a1) (fun M22 => some M22))))) else J92 M5))) (fun J55 => (if v3 = (2 : Int32) then o1 (f_X11_someHas M1 a1) (fun v25 => (if v25 = 0 then some M1 else J55 M1)) else J55 M1))))) (fun J31 => (if a1 ≤ 0 then J31 M else rd M m_parent 48 a1 (fun v28 => rd M m_swept 48 v28 (fun v29 => (if v29 = 0 then J31 M else wz M m_swept 48 a1 (1 : Int32) (fun M31 => o1 (f_X11_sweep M31 a1) (fun M33 => some M33)))))))
set_option maxHeartbeats 4000000 in
set_option maxRecDepth 100000 in
theorem t_X11_meetAt (l : Launch) (D : va_G) (dA : Nat → ClassId) (A : gI → Nat) (hJ : gJ mLive A) {M : gM} {a1 : Int32}  {y : gM} (h : f_X11_meetAt M a1 = some y) : mMv l yX11_meetAt wmX11_meetAt ({ frames := 4, cells := 0, slots := 0, locals := 95 } : Room) D dA A [.ref (A m_o), .int a1] M y := by
  refine Met.ofW (cc := cX11_meetAt) (maxL := 3) (ret := none) (by decide) rfl ?_
  intro p e s m args below meth c s₁ B hml hv
  obtain ⟨rfl, hP, hK⟩ := hv
  generalize hargs : ([.ref (A m_o), .int a1] : List Value).toArray = args at B ⊢
  have S : CallFix p m c cX11_meetAt 3 s args wmX11_meetAt RX11 := ⟨B.exec, B.bytes, hml, findClass_of_methodNamed B.named, atoms_spec (ws := wmX11_meetAt) B.pre⟩
  obtain ⟨hx, hb, -, hown, hts⟩ := id S
  have hr := B.returns
  have hlocks := B.notSynchronized
  have X : gX D vwCl dA mLive A (gA mLive A) s := ⟨hK, hJ, fun i hi => ⟨i, hi, rfl⟩⟩
  have Z : gZ D mLay dA mLive A (gA mLive A) s.heap M s.heap [] := ⟨hP, va_S.rf⟩
  have hin : ∀ w ∈ wsX110, w ∈ wmX11_meetAt := m_in
  have hl_22 := hts (.fieldLink RX11 22 "ReplicaFilesModel" "parent" "[I") (mBc 9 rfl)
  have hl_29 := hts (.fieldLink RX11 29 "ReplicaFilesModel" "isDirectory" "[Z") (mBc 11 rfl)
  have hl_137 := hts (.fieldLink RX11 137 "ReplicaFilesModel" "canGo" "[Z") (mBc 47 rfl)
  have hl_140 := hts (.fieldLink RX11 140 "ReplicaFilesModel" "swept" "[Z") (mBc 48 rfl)
  have hl := lv_entry ([.ref (A m_o), .int a1]) (n := 3) (Nat.le_of_ble_eq_true rfl)
  rw [← hargs, lg_entry_eq, hargs]
  generalize (lg_sl ([.ref (A m_o), .int a1]) ++ List.replicate (3 - (lg_sl ([.ref (A m_o), .int a1])).length) Slot.unset).toArray = ls at hl ⊢
  have hl : lv_has ls 3 [(0, .ref (A m_o)), (1, .int a1)] := hl
  unfold f_X11_meetAt at h
  refine lv_iload_n hx hb dX11_meetAt_0 rfl (lv_at hl 1 rfl) ?_
  obtain ⟨J31, eJ31, h⟩ := jn_e h
  have hJ31 : ∀ (M1 : gM) (H : Heap) (locs : List Loc) (ls : Array Slot), gZ D mLay dA mLive A (gA mLive A) s.heap M1 H locs → lv_has ls 3 [(0, .ref (A m_o)), (1, .int a1)] → J31 M1 = some y → W p l e (headSpec wmX11_meetAt ({ frames := 4, cells := 0, slots := 0, locals := 95 } : Room)).room s m args below meth c H locs 0 0 (MQ below (mQv D dA A y) args s 0 0 (gA mLive A)) (F0 m 31 ls []) := by
    intro M1 H locs ls Z hl h
    rw [eJ31] at h
    try dsimp only at h
    refine lv_aload_n hx hb dX11_meetAt_31 rfl (lv_at hl 0 rfl) ?_
    refine lv_iload_n hx hb dX11_meetAt_32 rfl (lv_at hl 1 rfl) ?_
    obtain ⟨v3, hc2, h⟩ := o1_e h
    refine g_Vi (As := [.int a1]) (rest := []) S X Z mlv_o rfl rfl (t_X11_standing l D dA A hJ  hc2) (cwV 1 hts (mGV (mB 343 rfl) (mB 344 rfl) (mB 345 rfl) (mB 63 rfl) (mB 297 rfl)) rfl rfl rfl (by decide +kernel) ⟨Nat.le_of_ble_eq_true rfl, Nat.le_of_ble_eq_true rfl⟩) rfl hl.1 rfl (Nat.le_of_ble_eq_true rfl) dX11_meetAt_33 ⟨Nat.zero_le _, Nat.zero_le _⟩ (fun H locs Z => ?_)
    refine lv_istore_n (lv' := [(2, .int v3), (0, .ref (A m_o)), (1, .int a1)]) hx hb dX11_meetAt_36 rfl hl (by decide) rfl (fun ls hl => ?_)
    refine lv_iload_n hx hb dX11_meetAt_37 rfl (lv_at hl 0 rfl) ?_
    refine lv_if_eq (tgt := 54) hx hb dX11_meetAt_38 (by decide) (fun c4 => ?_) (fun c4 => ?_)
    · have h := if_t c4 h
      have hy := Option.some.inj h
      subst hy
      exact g_rv S Z hr hlocks dX11_meetAt_54
    · have h := if_f c4 h
      refine lv_iload_n hx hb dX11_meetAt_41 rfl (lv_at hl 0 rfl) ?_
      refine lv_iconst (v := (2 : Int32)) hx hb dX11_meetAt_42 (by decide) ?_
      obtain ⟨J55, eJ55, h⟩ := jn_e h
      have hJ55 : ∀ (M5 : gM) (H : Heap) (locs : List Loc) (ls : Array Slot), gZ D mLay dA mLive A (gA mLive A) s.heap M5 H locs → lv_has ls 3 [(0, .ref (A m_o)), (1, .int a1), (2, .int v3)] → J55 M5 = some y → W p l e (headSpec wmX11_meetAt ({ frames := 4, cells := 0, slots := 0, locals := 95 } : Room)).room s m args below meth c H locs 0 0 (MQ below (mQv D dA A y) args s 0 0 (gA mLive A)) (F0 m 55 ls []) := by
        intro M5 H locs ls Z hl h
        rw [eJ55] at h
        try dsimp only at h
        refine lv_iload_n hx hb dX11_meetAt_55 rfl (lv_at hl 2 rfl) ?_
        refine lv_iconst (v := (2 : Int32)) hx hb dX11_meetAt_56 (by decide) ?_
        obtain ⟨J92, eJ92, h⟩ := jn_e h
        have hJ92 : ∀ (M6 : gM) (H : Heap) (locs : List Loc) (ls : Array Slot), gZ D mLay dA mLive A (gA mLive A) s.heap M6 H locs → lv_has ls 3 [(0, .ref (A m_o)), (1, .int a1)] → J92 M6 = some y → W p l e (headSpec wmX11_meetAt ({ frames := 4, cells := 0, slots := 0, locals := 95 } : Room)).room s m args below meth c H locs 0 0 (MQ below (mQv D dA A y) args s 0 0 (gA mLive A)) (F0 m 92 ls []) := by
          intro M6 H locs ls Z hl h
          rw [eJ92] at h
          try dsimp only at h
          refine lv_aload_n hx hb dX11_meetAt_92 rfl (lv_at hl 0 rfl) ?_
          refine mr_isDirectory S X Z hin hl_29 dX11_meetAt_93 ?_
          refine lv_iload_n hx hb dX11_meetAt_96 rfl (lv_at hl 1 rfl) ?_
          refine g_zald S X Z ml_isDirectory rfl dX11_meetAt_97 h (fun v7 h => ?_)
          refine lv_if_eq (tgt := 109) hx hb dX11_meetAt_98 (by decide) (fun c8 => ?_) (fun c8 => ?_)
          · have h := if_t c8 h
            refine lv_aload_n hx hb dX11_meetAt_109 rfl (lv_at hl 0 rfl) ?_
            refine lv_iload_n hx hb dX11_meetAt_110 rfl (lv_at hl 1 rfl) ?_
            obtain ⟨M10, hc9, h⟩ := o1_e h
            refine g_Vv (As := [.int a1]) (rest := []) S X Z mlv_o rfl rfl (t_X11_mergeFile l D dA A hJ  hc9) (cwV 1 hts (mGV (mB 358 rfl) (mB 359 rfl) (mB 360 rfl) (mB 63 rfl) (mB 339 rfl)) rfl rfl rfl (by decide +kernel) ⟨Nat.le_of_ble_eq_true rfl, Nat.le_of_ble_eq_true rfl⟩) rfl hl.1 rfl (Nat.le_of_ble_eq_true rfl) dX11_meetAt_111 ⟨Nat.zero_le _, Nat.zero_le _⟩ (fun H locs Z => ?_)
            have hy := Option.some.inj h
            subst hy
            exact g_rv S Z hr hlocks dX11_meetAt_114
          · have h := if_f c8 h
            refine lv_aload_n hx hb dX11_meetAt_101 rfl (lv_at hl 0 rfl) ?_
            refine lv_iload_n hx hb dX11_meetAt_102 rfl (lv_at hl 1 rfl) ?_
            obtain ⟨M12, hc11, h⟩ := o1_e h
            refine g_Vv (As := [.int a1]) (rest := []) S X Z mlv_o rfl rfl (t_X11_mergeDirectory l D dA A hJ  hc11) (cwV 1 hts (mGV (mB 355 rfl) (mB 356 rfl) (mB 357 rfl) (mB 63 rfl) (mB 317 rfl)) rfl rfl rfl (by decide +kernel) ⟨Nat.le_of_ble_eq_true rfl, Nat.le_of_ble_eq_true rfl⟩) rfl hl.1 rfl (Nat.le_of_ble_eq_true rfl) dX11_meetAt_103 ⟨Nat.zero_le _, Nat.zero_le _⟩ (fun H locs Z => ?_)
            refine lv_goto (tgt := 114) hx hb dX11_meetAt_106 (by decide) ?_
            have hy := Option.some.inj h
            subst hy
            exact g_rv S Z hr hlocks dX11_meetAt_114
        refine lv_icmp_ne (tgt := 92) hx hb dX11_meetAt_57 (by decide) (fun c13 => ?_) (fun c13 => ?_)
        · have h := if_f c13 h
          exact hJ92 M5 _ _ _ Z (lv_sub hl [0, 1] rfl) h
        · have h := if_t c13 h
          refine lv_aload_n hx hb dX11_meetAt_60 rfl (lv_at hl 0 rfl) ?_
          refine lv_iload_n hx hb dX11_meetAt_61 rfl (lv_at hl 1 rfl) ?_
          obtain ⟨M15, hc14, h⟩ := o1_e h
          refine g_Vv (As := [.int a1]) (rest := []) S X Z mlv_o rfl rfl (t_X11_foresee l D dA A hJ  hc14) (cwV 1 hts (mGV (mB 349 rfl) (mB 350 rfl) (mB 351 rfl) (mB 63 rfl) (mB 307 rfl)) rfl rfl rfl (by decide +kernel) ⟨Nat.le_of_ble_eq_true rfl, Nat.le_of_ble_eq_true rfl⟩) rfl hl.1 rfl (Nat.le_of_ble_eq_true rfl) dX11_meetAt_62 ⟨Nat.zero_le _, Nat.zero_le _⟩ (fun H locs Z => ?_)
          refine lv_aload_n hx hb dX11_meetAt_65 rfl (lv_at hl 0 rfl) ?_
          refine mr_canGo S X Z hin hl_137 dX11_meetAt_66 ?_
          refine lv_iload_n hx hb dX11_meetAt_69 rfl (lv_at hl 1 rfl) ?_
          refine g_zald S X Z ml_canGo rfl dX11_meetAt_70 h (fun v16 h => ?_)
          refine lv_if_eq (tgt := 87) hx hb dX11_meetAt_71 (by decide) (fun c17 => ?_) (fun c17 => ?_)
          · have h := if_t c17 h
            refine lv_aload_n hx hb dX11_meetAt_87 rfl (lv_at hl 0 rfl) ?_
            refine lv_iload_n hx hb dX11_meetAt_88 rfl (lv_at hl 1 rfl) ?_
            obtain ⟨M19, hc18, h⟩ := o1_e h
            refine g_Vv (As := [.int a1]) (rest := []) S X Z mlv_o rfl rfl (t_X11_again l D dA A hJ  hc18) (cwV 1 hts (mGV (mB 352 rfl) (mB 353 rfl) (mB 354 rfl) (mB 63 rfl) (mB 308 rfl)) rfl rfl rfl (by decide +kernel) ⟨Nat.le_of_ble_eq_true rfl, Nat.le_of_ble_eq_true rfl⟩) rfl hl.1 rfl (Nat.le_of_ble_eq_true rfl) dX11_meetAt_89 ⟨Nat.zero_le _, Nat.zero_le _⟩ (fun H locs Z => ?_)
            exact hJ92 M19 _ _ _ Z (lv_sub hl [0, 1] rfl) h
          · have h := if_f c17 h
            refine lv_aload_n hx hb dX11_meetAt_74 rfl (lv_at hl 0 rfl) ?_
            refine mr_swept S X Z hin hl_140 dX11_meetAt_75 ?_
            refine lv_iload_n hx hb dX11_meetAt_78 rfl (lv_at hl 1 rfl) ?_
            refine lv_iconst (v := (1 : Int32)) hx hb dX11_meetAt_79 (by decide) ?_
            refine g_zast S X Z ml_swept rfl dX11_meetAt_80 h (fun M20 H locs Z h => ?_)
            refine lv_aload_n hx hb dX11_meetAt_81 rfl (lv_at hl 0 rfl) ?_
            refine lv_iload_n hx hb dX11_meetAt_82 rfl (lv_at hl 1 rfl) ?_
            obtain ⟨M22, hc21, h⟩ := o1_e h
            refine g_Vv (As := [.int a1]) (rest := []) S X Z mlv_o rfl rfl (t_X11_sweep l D dA A hJ  hc21) (cwV 1 hts (mGV (mB 340 rfl) (mB 341 rfl) (mB 342 rfl) (mB 63 rfl) (mB 296 rfl)) rfl rfl rfl (by decide +kernel) ⟨Nat.le_of_ble_eq_true rfl, Nat.le_of_ble_eq_true rfl⟩) rfl hl.1 rfl (Nat.le_of_ble_eq_true rfl) dX11_meetAt_83 ⟨Nat.zero_le _, Nat.zero_le _⟩ (fun H locs Z => ?_)
            have hy := Option.some.inj h
            subst hy
            exact g_rv S Z hr hlocks dX11_meetAt_86
      refine lv_icmp_ne (tgt := 55) hx hb dX11_meetAt_43 (by decide) (fun c23 => ?_) (fun c23 => ?_)
      · have h := if_f c23 h
        exact hJ55 M1 _ _ _ Z (lv_sub hl [1, 2, 0] rfl) h
      · have h := if_t c23 h
        refine lv_aload_n hx hb dX11_meetAt_46 rfl (lv_at hl 1 rfl) ?_
        refine lv_iload_n hx hb dX11_meetAt_47 rfl (lv_at hl 2 rfl) ?_
        obtain ⟨v25, hc24, h⟩ := o1_e h
        refine g_Vi (As := [.int a1]) (rest := []) S X Z mlv_o rfl rfl (t_X11_someHas l D dA A hJ  hc24) (cwV 1 hts (mGV (mB 346 rfl) (mB 347 rfl) (mB 348 rfl) (mB 63 rfl) (mB 298 rfl)) rfl rfl rfl (by decide +kernel) ⟨Nat.le_of_ble_eq_true rfl, Nat.le_of_ble_eq_true rfl⟩) rfl hl.1 rfl (Nat.le_of_ble_eq_true rfl) dX11_meetAt_48 ⟨Nat.zero_le _, Nat.zero_le _⟩ (fun H locs Z => ?_)
        refine lv_if_ne (tgt := 55) hx hb dX11_meetAt_51 (by decide) (fun c26 => ?_) (fun c26 => ?_)
        · have h := if_f c26 h
          exact hJ55 M1 _ _ _ Z (lv_sub hl [1, 2, 0] rfl) h
        · have h := if_t c26 h
          have hy := Option.some.inj h
          subst hy
          exact g_rv S Z hr hlocks dX11_meetAt_54
  refine lv_if_le (tgt := 31) hx hb dX11_meetAt_1 (by decide) (fun c27 => ?_) (fun c27 => ?_)
  · have h := if_t c27 h
    exact hJ31 M _ _ _ Z (lv_sub hl [0, 1] rfl) h
  · have h := if_f c27 h
    refine lv_aload_n hx hb dX11_meetAt_4 rfl (lv_at hl 0 rfl) ?_
    refine mr_swept S X Z hin hl_140 dX11_meetAt_5 ?_
    refine lv_aload_n hx hb dX11_meetAt_8 rfl (lv_at hl 0 rfl) ?_
    refine mr_parent S X Z hin hl_22 dX11_meetAt_9 ?_
    refine lv_iload_n hx hb dX11_meetAt_12 rfl (lv_at hl 1 rfl) ?_
    refine g_iald S X Z ml_parent rfl dX11_meetAt_13 h (fun v28 h => ?_)
    refine g_zald S X Z ml_swept rfl dX11_meetAt_14 h (fun v29 h => ?_)
    refine lv_if_eq (tgt := 31) hx hb dX11_meetAt_15 (by decide) (fun c30 => ?_) (fun c30 => ?_)
    · have h := if_t c30 h
      exact hJ31 M _ _ _ Z (lv_sub hl [0, 1] rfl) h
    · have h := if_f c30 h
      refine lv_aload_n hx hb dX11_meetAt_18 rfl (lv_at hl 0 rfl) ?_
      refine mr_swept S X Z hin hl_140 dX11_meetAt_19 ?_
      refine lv_iload_n hx hb dX11_meetAt_22 rfl (lv_at hl 1 rfl) ?_
      refine lv_iconst (v := (1 : Int32)) hx hb dX11_meetAt_23 (by decide) ?_
      refine g_zast S X Z ml_swept rfl dX11_meetAt_24 h (fun M31 H locs Z h => ?_)
      refine lv_aload_n hx hb dX11_meetAt_25 rfl (lv_at hl 0 rfl) ?_
      refine lv_iload_n hx hb dX11_meetAt_26 rfl (lv_at hl 1 rfl) ?_
      obtain ⟨M33, hc32, h⟩ := o1_e h
      refine g_Vv (As := [.int a1]) (rest := []) S X Z mlv_o rfl rfl (t_X11_sweep l D dA A hJ  hc32) (cwV 1 hts (mGV (mB 340 rfl) (mB 341 rfl) (mB 342 rfl) (mB 63 rfl) (mB 296 rfl)) rfl rfl rfl (by decide +kernel) ⟨Nat.le_of_ble_eq_true rfl, Nat.le_of_ble_eq_true rfl⟩) rfl hl.1 rfl (Nat.le_of_ble_eq_true rfl) dX11_meetAt_27 ⟨Nat.zero_le _, Nat.zero_le _⟩ (fun H locs Z => ?_)
      have hy := Option.some.inj h
      subst hy
      exact g_rv S Z hr hlocks dX11_meetAt_30
-- X11_meet (I)J: 95 instructions
theorem dX11_meet_0 : decode cX11_meet 0 = .ok (.aload_n 0, 1) := by decide +kernel
theorem dX11_meet_1 : decode cX11_meet 1 = .ok (.aload_n 0, 1) := by decide +kernel
theorem dX11_meet_2 : decode cX11_meet 2 = .ok (.iload_n 1, 1) := by decide +kernel
theorem dX11_meet_3 : decode cX11_meet 3 = .ok (.invokevirtual 184, 3) := by decide +kernel
theorem dX11_meet_6 : decode cX11_meet 6 = .ok (.ifCond .eq 7, 3) := by decide +kernel
theorem dX11_meet_9 : decode cX11_meet 9 = .ok (.iconst 0, 1) := by decide +kernel
theorem dX11_meet_10 : decode cX11_meet 10 = .ok (.goto 4, 3) := by decide +kernel
theorem dX11_meet_13 : decode cX11_meet 13 = .ok (.iconst 1, 1) := by decide +kernel
theorem dX11_meet_14 : decode cX11_meet 14 = .ok (.putfield 165, 3) := by decide +kernel
theorem dX11_meet_17 : decode cX11_meet 17 = .ok (.aload_n 0, 1) := by decide +kernel
theorem dX11_meet_18 : decode cX11_meet 18 = .ok (.getfield 165, 3) := by decide +kernel
theorem dX11_meet_21 : decode cX11_meet 21 = .ok (.ifCond .le 5, 3) := by decide +kernel
theorem dX11_meet_24 : decode cX11_meet 24 = .ok (.lconst 0, 1) := by decide +kernel
theorem dX11_meet_25 : decode cX11_meet 25 = .ok (.lreturn, 1) := by decide +kernel
theorem dX11_meet_26 : decode cX11_meet 26 = .ok (.aload_n 0, 1) := by decide +kernel
theorem dX11_meet_27 : decode cX11_meet 27 = .ok (.getfield 7, 3) := by decide +kernel
theorem dX11_meet_30 : decode cX11_meet 30 = .ok (.iload_n 1, 1) := by decide +kernel
theorem dX11_meet_31 : decode cX11_meet 31 = .ok (.baload, 1) := by decide +kernel
theorem dX11_meet_32 : decode cX11_meet 32 = .ok (.ifCond .ne 7, 3) := by decide +kernel
theorem dX11_meet_35 : decode cX11_meet 35 = .ok (.ldc2_w 172, 3) := by decide +kernel
theorem dX11_meet_38 : decode cX11_meet 38 = .ok (.lreturn, 1) := by decide +kernel
theorem dX11_meet_39 : decode cX11_meet 39 = .ok (.aload_n 0, 1) := by decide +kernel
theorem dX11_meet_40 : decode cX11_meet 40 = .ok (.iconst 0, 1) := by decide +kernel
theorem dX11_meet_41 : decode cX11_meet 41 = .ok (.putfield 394, 3) := by decide +kernel
theorem dX11_meet_44 : decode cX11_meet 44 = .ok (.iconst 0, 1) := by decide +kernel
theorem dX11_meet_45 : decode cX11_meet 45 = .ok (.istore_n 2, 1) := by decide +kernel
theorem dX11_meet_46 : decode cX11_meet 46 = .ok (.iload_n 2, 1) := by decide +kernel
theorem dX11_meet_47 : decode cX11_meet 47 = .ok (.aload_n 0, 1) := by decide +kernel
theorem dX11_meet_48 : decode cX11_meet 48 = .ok (.getfield 155, 3) := by decide +kernel
theorem dX11_meet_51 : decode cX11_meet 51 = .ok (.if_icmp .ge 55, 3) := by decide +kernel
theorem dX11_meet_54 : decode cX11_meet 54 = .ok (.aload_n 0, 1) := by decide +kernel
theorem dX11_meet_55 : decode cX11_meet 55 = .ok (.iload_n 2, 1) := by decide +kernel
theorem dX11_meet_56 : decode cX11_meet 56 = .ok (.iload_n 1, 1) := by decide +kernel
theorem dX11_meet_57 : decode cX11_meet 57 = .ok (.if_icmp .eq 25, 3) := by decide +kernel
theorem dX11_meet_60 : decode cX11_meet 60 = .ok (.aload_n 0, 1) := by decide +kernel
theorem dX11_meet_61 : decode cX11_meet 61 = .ok (.getfield 7, 3) := by decide +kernel
theorem dX11_meet_64 : decode cX11_meet 64 = .ok (.iload_n 2, 1) := by decide +kernel
theorem dX11_meet_65 : decode cX11_meet 65 = .ok (.baload, 1) := by decide +kernel
theorem dX11_meet_66 : decode cX11_meet 66 = .ok (.ifCond .eq 27, 3) := by decide +kernel
theorem dX11_meet_69 : decode cX11_meet 69 = .ok (.aload_n 0, 1) := by decide +kernel
theorem dX11_meet_70 : decode cX11_meet 70 = .ok (.getfield 13, 3) := by decide +kernel
theorem dX11_meet_73 : decode cX11_meet 73 = .ok (.iconst 4, 1) := by decide +kernel
theorem dX11_meet_74 : decode cX11_meet 74 = .ok (.iload_n 1, 1) := by decide +kernel
theorem dX11_meet_75 : decode cX11_meet 75 = .ok (.imul, 1) := by decide +kernel
theorem dX11_meet_76 : decode cX11_meet 76 = .ok (.iload_n 2, 1) := by decide +kernel
theorem dX11_meet_77 : decode cX11_meet 77 = .ok (.iadd, 1) := by decide +kernel
theorem dX11_meet_78 : decode cX11_meet 78 = .ok (.baload, 1) := by decide +kernel
theorem dX11_meet_79 : decode cX11_meet 79 = .ok (.ifCond .eq 14, 3) := by decide +kernel
theorem dX11_meet_82 : decode cX11_meet 82 = .ok (.aload_n 0, 1) := by decide +kernel
theorem dX11_meet_83 : decode cX11_meet 83 = .ok (.getfield 394, 3) := by decide +kernel
theorem dX11_meet_86 : decode cX11_meet 86 = .ok (.iconst 1, 1) := by decide +kernel
theorem dX11_meet_87 : decode cX11_meet 87 = .ok (.iload_n 2, 1) := by decide +kernel
theorem dX11_meet_88 : decode cX11_meet 88 = .ok (.ishl, 1) := by decide +kernel
theorem dX11_meet_89 : decode cX11_meet 89 = .ok (.ior, 1) := by decide +kernel
theorem dX11_meet_90 : decode cX11_meet 90 = .ok (.goto 7, 3) := by decide +kernel
theorem dX11_meet_93 : decode cX11_meet 93 = .ok (.aload_n 0, 1) := by decide +kernel
theorem dX11_meet_94 : decode cX11_meet 94 = .ok (.getfield 394, 3) := by decide +kernel
theorem dX11_meet_97 : decode cX11_meet 97 = .ok (.putfield 394, 3) := by decide +kernel
theorem dX11_meet_100 : decode cX11_meet 100 = .ok (.iinc 2 1, 3) := by decide +kernel
theorem dX11_meet_103 : decode cX11_meet 103 = .ok (.goto (-57), 3) := by decide +kernel
theorem dX11_meet_106 : decode cX11_meet 106 = .ok (.aload_n 0, 1) := by decide +kernel
theorem dX11_meet_107 : decode cX11_meet 107 = .ok (.aload_n 0, 1) := by decide +kernel
theorem dX11_meet_108 : decode cX11_meet 108 = .ok (.getfield 394, 3) := by decide +kernel
theorem dX11_meet_111 : decode cX11_meet 111 = .ok (.invokestatic 333, 3) := by decide +kernel
theorem dX11_meet_114 : decode cX11_meet 114 = .ok (.putfield 397, 3) := by decide +kernel
theorem dX11_meet_117 : decode cX11_meet 117 = .ok (.aload_n 0, 1) := by decide +kernel
theorem dX11_meet_118 : decode cX11_meet 118 = .ok (.iconst 0, 1) := by decide +kernel
theorem dX11_meet_119 : decode cX11_meet 119 = .ok (.putfield 400, 3) := by decide +kernel
theorem dX11_meet_122 : decode cX11_meet 122 = .ok (.iconst 0, 1) := by decide +kernel
theorem dX11_meet_123 : decode cX11_meet 123 = .ok (.istore_n 2, 1) := by decide +kernel
theorem dX11_meet_124 : decode cX11_meet 124 = .ok (.iload_n 2, 1) := by decide +kernel
theorem dX11_meet_125 : decode cX11_meet 125 = .ok (.bipush 48, 2) := by decide +kernel
theorem dX11_meet_127 : decode cX11_meet 127 = .ok (.if_icmp .ge 16, 3) := by decide +kernel
theorem dX11_meet_130 : decode cX11_meet 130 = .ok (.aload_n 0, 1) := by decide +kernel
theorem dX11_meet_131 : decode cX11_meet 131 = .ok (.getfield 140, 3) := by decide +kernel
theorem dX11_meet_134 : decode cX11_meet 134 = .ok (.iload_n 2, 1) := by decide +kernel
theorem dX11_meet_135 : decode cX11_meet 135 = .ok (.iconst 0, 1) := by decide +kernel
theorem dX11_meet_136 : decode cX11_meet 136 = .ok (.bastore, 1) := by decide +kernel
theorem dX11_meet_137 : decode cX11_meet 137 = .ok (.iinc 2 1, 3) := by decide +kernel
theorem dX11_meet_140 : decode cX11_meet 140 = .ok (.goto (-16), 3) := by decide +kernel
theorem dX11_meet_143 : decode cX11_meet 143 = .ok (.iconst 0, 1) := by decide +kernel
theorem dX11_meet_144 : decode cX11_meet 144 = .ok (.istore_n 2, 1) := by decide +kernel
theorem dX11_meet_145 : decode cX11_meet 145 = .ok (.iload_n 2, 1) := by decide +kernel
theorem dX11_meet_146 : decode cX11_meet 146 = .ok (.aload_n 0, 1) := by decide +kernel
theorem dX11_meet_147 : decode cX11_meet 147 = .ok (.getfield 162, 3) := by decide +kernel
theorem dX11_meet_150 : decode cX11_meet 150 = .ok (.if_icmp .ge 14, 3) := by decide +kernel
theorem dX11_meet_153 : decode cX11_meet 153 = .ok (.aload_n 0, 1) := by decide +kernel
theorem dX11_meet_154 : decode cX11_meet 154 = .ok (.iload_n 2, 1) := by decide +kernel
theorem dX11_meet_155 : decode cX11_meet 155 = .ok (.invokevirtual 403, 3) := by decide +kernel
theorem dX11_meet_158 : decode cX11_meet 158 = .ok (.iinc 2 1, 3) := by decide +kernel
theorem dX11_meet_161 : decode cX11_meet 161 = .ok (.goto (-16), 3) := by decide +kernel
theorem dX11_meet_164 : decode cX11_meet 164 = .ok (.aload_n 0, 1) := by decide +kernel
theorem dX11_meet_165 : decode cX11_meet 165 = .ok (.getfield 400, 3) := by decide +kernel
theorem dX11_meet_168 : decode cX11_meet 168 = .ok (.i2l, 1) := by decide +kernel
theorem dX11_meet_169 : decode cX11_meet 169 = .ok (.lreturn, 1) := by decide +kernel
abbrev wmX11_meet : List Cond := .code yX11_meet cX11_meet 3 (some .long) :: mBig
def f_X11_meet_L145  : Nat → Int32 → gM → Option (Int64 × gM)
  | 0, _, _ => none
  | n20 + 1, x18, M19 => lt (M19 m_o 6) (fun v21 => (if v21 ≤ x18 then lt (M19 m_o 55) (fun v23 => some (v23.toInt64, M19)) else o1 (f_X11_meetAt M19 x18) (fun M25 => lt (x18 + 1) (fun x26 => f_X11_meet_L145 n20 x26 M25))))
def f_X11_meet_L124 (J143 : gM → Option (Int64 × gM)) : Nat → Int32 → gM → Option (Int64 × gM)
  | 0, _, _ => none
  | n29 + 1, x27, M28 => (if (48 : Int32) ≤ x27 then J143 M28 else wz M28 m_swept 48 x27 (0 : Int32) (fun M31 => lt (x27 + 1) (fun x32 => f_X11_meet_L124 J143 n29 x32 M31)))
def f_X11_meet_L46 (a1 : Int32) (J106 : gM → Option (Int64 × gM)) : Nat → Int32 → gM → Option (Int64 × gM)
  | 0, _, _ => none
  | n35 + 1, x33, M34 => lt (M34 m_o 0) (fun v36 => (if v36 ≤ x33 then J106 M34 else jn (fun (q : (Int32 × gM)) => match q with | (b38, M39) => lt (gset M39 m_o 53 b38) (fun M40 => lt (x33 + 1) (fun x41 => f_X11_meet_L46 a1 J106 n35 x41 M40))) (fun J97 => jn (fun (M42 : gM) => lt (M42 m_o 53) (fun v43 => J97 ((v43 ||| ((1 : Int32) <<< (x33 &&& 31))), M42))) (fun J82 => (if x33 = a1 then J82 M34 else rd M34 m_up 4 x33 (fun v45 => jn (fun (M46 : gM) => lt (M46 m_o 53) (fun v47 => J97 (v47, M46))) (fun J93 => (if v45 = 0 then J93 M34 else rd M34 m_linked 16 (((4 : Int32) * a1) + x33) (fun v49 => (if v49 = 0 then J93 M34 else J82 M34))))))))))
def f_X11_meet (M : gM) (a1 : Int32) : Option (Int64 × gM) :=
  o1 (f_X11_isServer M a1) (fun v2 => jn (fun (q : (Int32 × gM)) => match q with | (b3, M4) => lt (gset M4 m_o 66 b3) (fun M5 => lt (M5 m_o 66) (fun v6 => (if v6 ≤ 0 then rd M5 m_up 4 a1 (fun v8 => (if v8 = 0 then some ((-2199023255552 : Int64), M5) else lt (gset M5 m_o 53 (0 : Int32)) (fun M10 => jn (fun (M11 : gM) => lt (M11 m_o 53) (fun v12 => o1 (f_X11_manyOf M11 v12) (fun v14 => lt (gset M11 m_o 54 v14) (fun M15 => lt (gset M15 m_o 55 (0 : Int32)) (fun M16 => jn (fun (M17 : gM) => f_X11_meet_L145 100 (0 : Int32) M17) (fun J143 => f_X11_meet_L124 J143 100 (0 : Int32) M16)))))) (fun J106 => f_X11_meet_L46 a1 J106 100 (0 : Int32) M10)))) else some ((0 : Int64), M5))))) (fun J14 => (if v2 = 0 then J14 ((1 : Int32), M) else J14 ((0 : Int32), M))))
set_option maxHeartbeats 4000000 in
set_option maxRecDepth 100000 in
theorem t_X11_meet (l : Launch) (D : va_G) (dA : Nat → ClassId) (A : gI → Nat) (hJ : gJ mLive A) {M : gM} {a1 : Int32}  {y : (Int64 × gM)} (h : f_X11_meet M a1 = some y) : mMl l yX11_meet wmX11_meet ({ frames := 5, cells := 0, slots := 0, locals := 117 } : Room) D dA A [.ref (A m_o), .int a1] M y.1 y.2 := by
  refine Met.ofW (cc := cX11_meet) (maxL := 3) (ret := (some .long)) (by decide) rfl ?_
  intro p e s m args below meth c s₁ B hml hv
  obtain ⟨rfl, hP, hK⟩ := hv
  generalize hargs : ([.ref (A m_o), .int a1] : List Value).toArray = args at B ⊢
  have S : CallFix p m c cX11_meet 3 s args wmX11_meet RX11 := ⟨B.exec, B.bytes, hml, findClass_of_methodNamed B.named, atoms_spec (ws := wmX11_meet) B.pre⟩
  obtain ⟨hx, hb, -, hown, hts⟩ := id S
  have hr := B.returns
  have hlocks := B.notSynchronized
  have X : gX D vwCl dA mLive A (gA mLive A) s := ⟨hK, hJ, fun i hi => ⟨i, hi, rfl⟩⟩
  have Z : gZ D mLay dA mLive A (gA mLive A) s.heap M s.heap [] := ⟨hP, va_S.rf⟩
  have hin : ∀ w ∈ wsX110, w ∈ wmX11_meet := m_in
  have hl_7 := hts (.fieldLink RX11 7 "ReplicaFilesModel" "up" "[Z") (mBc 4 rfl)
  have hl_13 := hts (.fieldLink RX11 13 "ReplicaFilesModel" "linked" "[Z") (mBc 5 rfl)
  have hl_140 := hts (.fieldLink RX11 140 "ReplicaFilesModel" "swept" "[Z") (mBc 48 rfl)
  have hl_155 := hts (.fieldLink RX11 155 "ReplicaFilesModel" "servers" "I") (mBc 53 rfl)
  have hl_162 := hts (.fieldLink RX11 162 "ReplicaFilesModel" "made" "I") (mBc 55 rfl)
  have hl_165 := hts (.fieldLink RX11 165 "ReplicaFilesModel" "thrown" "I") (mBc 58 rfl)
  have hl_394 := hts (.fieldLink RX11 394 "ReplicaFilesModel" "group" "I") (mBc 291 rfl)
  have hl_397 := hts (.fieldLink RX11 397 "ReplicaFilesModel" "groupMany" "I") (mBc 362 rfl)
  have hl_400 := hts (.fieldLink RX11 400 "ReplicaFilesModel" "changes" "I") (mBc 292 rfl)
  have hc_172 := hts (.constantLong RX11 172 (-2199023255552)) (mBc 67 rfl)
  have hl := lv_entry ([.ref (A m_o), .int a1]) (n := 3) (Nat.le_of_ble_eq_true rfl)
  rw [← hargs, lg_entry_eq, hargs]
  generalize (lg_sl ([.ref (A m_o), .int a1]) ++ List.replicate (3 - (lg_sl ([.ref (A m_o), .int a1])).length) Slot.unset).toArray = ls at hl ⊢
  have hl : lv_has ls 3 [(0, .ref (A m_o)), (1, .int a1)] := hl
  unfold f_X11_meet at h
  refine lv_aload_n hx hb dX11_meet_0 rfl (lv_at hl 0 rfl) ?_
  refine lv_aload_n hx hb dX11_meet_1 rfl (lv_at hl 0 rfl) ?_
  refine lv_iload_n hx hb dX11_meet_2 rfl (lv_at hl 1 rfl) ?_
  obtain ⟨v2, hc1, h⟩ := o1_e h
  refine g_Vi (As := [.int a1]) (rest := [.ref (A m_o)]) S X Z mlv_o rfl rfl (t_X11_isServer l D dA A hJ  hc1) (cwV 1 hts (mGV (mB 81 rfl) (mB 82 rfl) (mB 83 rfl) (mB 63 rfl) (mB 60 rfl)) rfl rfl rfl (by decide +kernel) ⟨Nat.le_of_ble_eq_true rfl, Nat.le_of_ble_eq_true rfl⟩) rfl hl.1 rfl (Nat.le_of_ble_eq_true rfl) dX11_meet_3 ⟨Nat.zero_le _, Nat.zero_le _⟩ (fun H locs Z => ?_)
  obtain ⟨J14, eJ14, h⟩ := jn_e h
  have hJ14 : ∀ (b3 : Int32) (M4 : gM) (H : Heap) (locs : List Loc) (ls : Array Slot), gZ D mLay dA mLive A (gA mLive A) s.heap M4 H locs → lv_has ls 3 [(0, .ref (A m_o)), (1, .int a1)] → J14 (b3, M4) = some y → W p l e (headSpec wmX11_meet ({ frames := 5, cells := 0, slots := 0, locals := 117 } : Room)).room s m args below meth c H locs 0 0 (MQ below (mQl D dA A y) args s 0 0 (gA mLive A)) (F0 m 14 ls [.int b3, .ref (A m_o)]) := by
    intro b3 M4 H locs ls Z hl h
    rw [eJ14] at h
    try dsimp only at h
    refine mp_thrown S X Z hin hl_165 dX11_meet_14 h (fun M5 H locs Z h => ?_)
    refine lv_aload_n hx hb dX11_meet_17 rfl (lv_at hl 0 rfl) ?_
    refine mr_thrown S X Z hin hl_165 dX11_meet_18 h (fun v6 h => ?_)
    refine lv_if_le (tgt := 26) hx hb dX11_meet_21 (by decide) (fun c7 => ?_) (fun c7 => ?_)
    · have h := if_t c7 h
      refine lv_aload_n hx hb dX11_meet_26 rfl (lv_at hl 0 rfl) ?_
      refine mr_up S X Z hin hl_7 dX11_meet_27 ?_
      refine lv_iload_n hx hb dX11_meet_30 rfl (lv_at hl 1 rfl) ?_
      refine g_zald S X Z ml_up rfl dX11_meet_31 h (fun v8 h => ?_)
      refine lv_if_ne (tgt := 39) hx hb dX11_meet_32 (by decide) (fun c9 => ?_) (fun c9 => ?_)
      · have h := if_f c9 h
        refine lv_aload_n hx hb dX11_meet_39 rfl (lv_at hl 0 rfl) ?_
        refine lv_iconst (v := (0 : Int32)) hx hb dX11_meet_40 (by decide) ?_
        refine mp_group S X Z hin hl_394 dX11_meet_41 h (fun M10 H locs Z h => ?_)
        refine lv_iconst (v := (0 : Int32)) hx hb dX11_meet_44 (by decide) ?_
        refine lv_istore_n (lv' := [(2, .int (0 : Int32)), (0, .ref (A m_o)), (1, .int a1)]) hx hb dX11_meet_45 rfl hl (by decide) rfl (fun ls hl => ?_)
        obtain ⟨J106, eJ106, h⟩ := jn_e h
        have hJ106 : ∀ (M11 : gM) (H : Heap) (locs : List Loc) (ls : Array Slot), gZ D mLay dA mLive A (gA mLive A) s.heap M11 H locs → lv_has ls 3 [(0, .ref (A m_o))] → J106 M11 = some y → W p l e (headSpec wmX11_meet ({ frames := 5, cells := 0, slots := 0, locals := 117 } : Room)).room s m args below meth c H locs 0 0 (MQ below (mQl D dA A y) args s 0 0 (gA mLive A)) (F0 m 106 ls []) := by
          intro M11 H locs ls Z hl h
          rw [eJ106] at h
          try dsimp only at h
          refine lv_aload_n hx hb dX11_meet_106 rfl (lv_at hl 0 rfl) ?_
          refine lv_aload_n hx hb dX11_meet_107 rfl (lv_at hl 0 rfl) ?_
          refine mr_group S X Z hin hl_394 dX11_meet_108 h (fun v12 h => ?_)
          obtain ⟨v14, hc13, h⟩ := o1_e h
          refine g_Si (As := [.int v12]) (rest := [.ref (A m_o)]) S X Z (t_X11_manyOf l D dA A hJ  hc13) (va_cwS 1 hts (mGS (mB 237 rfl) (mB 238 rfl) (mB 63 rfl) (mB 79 rfl)) rfl rfl rfl (by decide +kernel) ⟨Nat.le_of_ble_eq_true rfl, Nat.le_of_ble_eq_true rfl⟩) rfl hl.1 rfl (Nat.le_of_ble_eq_true rfl) dX11_meet_111 ⟨Nat.zero_le _, Nat.zero_le _⟩ (fun H locs Z => ?_)
          refine mp_groupMany S X Z hin hl_397 dX11_meet_114 h (fun M15 H locs Z h => ?_)
          refine lv_aload_n hx hb dX11_meet_117 rfl (lv_at hl 0 rfl) ?_
          refine lv_iconst (v := (0 : Int32)) hx hb dX11_meet_118 (by decide) ?_
          refine mp_changes S X Z hin hl_400 dX11_meet_119 h (fun M16 H locs Z h => ?_)
          refine lv_iconst (v := (0 : Int32)) hx hb dX11_meet_122 (by decide) ?_
          refine lv_istore_n (lv' := [(2, .int (0 : Int32)), (0, .ref (A m_o))]) hx hb dX11_meet_123 rfl hl (by decide) rfl (fun ls hl => ?_)
          obtain ⟨J143, eJ143, h⟩ := jn_e h
          have hJ143 : ∀ (M17 : gM) (H : Heap) (locs : List Loc) (ls : Array Slot), gZ D mLay dA mLive A (gA mLive A) s.heap M17 H locs → lv_has ls 3 [(0, .ref (A m_o))] → J143 M17 = some y → W p l e (headSpec wmX11_meet ({ frames := 5, cells := 0, slots := 0, locals := 117 } : Room)).room s m args below meth c H locs 0 0 (MQ below (mQl D dA A y) args s 0 0 (gA mLive A)) (F0 m 143 ls []) := by
            intro M17 H locs ls Z hl h
            rw [eJ143] at h
            try dsimp only at h
            refine lv_iconst (v := (0 : Int32)) hx hb dX11_meet_143 (by decide) ?_
            refine lv_istore_n (lv' := [(2, .int (0 : Int32)), (0, .ref (A m_o))]) hx hb dX11_meet_144 rfl hl (by decide) rfl (fun ls hl => ?_)
            have hL145 : ∀ (n : Nat) (x18 : Int32) (M19 : gM) (H : Heap) (locs : List Loc) (ls : Array Slot), gZ D mLay dA mLive A (gA mLive A) s.heap M19 H locs → lv_has ls 3 [(0, .ref (A m_o)), (2, .int x18)] → f_X11_meet_L145 n x18 M19 = some y → W p l e (headSpec wmX11_meet ({ frames := 5, cells := 0, slots := 0, locals := 117 } : Room)).room s m args below meth c H locs 0 0 (MQ below (mQl D dA A y) args s 0 0 (gA mLive A)) (F0 m 145 ls []) := by
              intro n
              induction n with
              | zero =>
                intro x18 M19 H locs ls Z hl h
                rw [f_X11_meet_L145] at h
                cases h
              | succ n20 ih145 =>
                intro x18 M19 H locs ls Z hl h
                rw [f_X11_meet_L145] at h
                refine lv_iload_n hx hb dX11_meet_145 rfl (lv_at hl 1 rfl) ?_
                refine lv_aload_n hx hb dX11_meet_146 rfl (lv_at hl 0 rfl) ?_
                refine mr_made S X Z hin hl_162 dX11_meet_147 h (fun v21 h => ?_)
                refine lv_icmp_ge (tgt := 164) hx hb dX11_meet_150 (by decide) (fun c22 => ?_) (fun c22 => ?_)
                · have h := if_t c22 h
                  refine lv_aload_n hx hb dX11_meet_164 rfl (lv_at hl 0 rfl) ?_
                  refine mr_changes S X Z hin hl_400 dX11_meet_165 h (fun v23 h => ?_)
                  refine lv_i2l hx hb dX11_meet_168 rfl ?_
                  have hy := Option.some.inj h
                  subst hy
                  exact g_rl S Z hr hlocks dX11_meet_169
                · have h := if_f c22 h
                  refine lv_aload_n hx hb dX11_meet_153 rfl (lv_at hl 0 rfl) ?_
                  refine lv_iload_n hx hb dX11_meet_154 rfl (lv_at hl 1 rfl) ?_
                  obtain ⟨M25, hc24, h⟩ := o1_e h
                  refine g_Vv (As := [.int x18]) (rest := []) S X Z mlv_o rfl rfl (t_X11_meetAt l D dA A hJ  hc24) (cwV 1 hts (mGV (mB 363 rfl) (mB 364 rfl) (mB 365 rfl) (mB 63 rfl) (mB 361 rfl)) rfl rfl rfl (by decide +kernel) ⟨Nat.le_of_ble_eq_true rfl, Nat.le_of_ble_eq_true rfl⟩) rfl hl.1 rfl (Nat.le_of_ble_eq_true rfl) dX11_meet_155 ⟨Nat.zero_le _, Nat.zero_le _⟩ (fun H locs Z => ?_)
                  obtain ⟨x26, ex26, h⟩ := lt_e h
                  refine lv_iinc (v := x26) (lv' := [(2, .int x26), (0, .ref (A m_o))]) hx hb dX11_meet_158 hl (k := 1) rfl (by rw [ex26]; rfl) (by decide) rfl (fun ls hl => ?_)
                  refine lv_goto (tgt := 145) hx hb dX11_meet_161 (by decide) ?_
                  exact ih145 x26 M25 _ _ _ Z (lv_sub hl [1, 0] rfl) h
            exact hL145 100 (0 : Int32) M17 _ _ _ Z (lv_sub hl [1, 0] rfl) h
          have hL124 : ∀ (n : Nat) (x27 : Int32) (M28 : gM) (H : Heap) (locs : List Loc) (ls : Array Slot), gZ D mLay dA mLive A (gA mLive A) s.heap M28 H locs → lv_has ls 3 [(0, .ref (A m_o)), (2, .int x27)] → f_X11_meet_L124 J143 n x27 M28 = some y → W p l e (headSpec wmX11_meet ({ frames := 5, cells := 0, slots := 0, locals := 117 } : Room)).room s m args below meth c H locs 0 0 (MQ below (mQl D dA A y) args s 0 0 (gA mLive A)) (F0 m 124 ls []) := by
            intro n
            induction n with
            | zero =>
              intro x27 M28 H locs ls Z hl h
              rw [f_X11_meet_L124] at h
              cases h
            | succ n29 ih124 =>
              intro x27 M28 H locs ls Z hl h
              rw [f_X11_meet_L124] at h
              refine lv_iload_n hx hb dX11_meet_124 rfl (lv_at hl 1 rfl) ?_
              refine lv_bipush (v := (48 : Int32)) hx hb dX11_meet_125 (by decide) ?_
              refine lv_icmp_ge (tgt := 143) hx hb dX11_meet_127 (by decide) (fun c30 => ?_) (fun c30 => ?_)
              · have h := if_t c30 h
                exact hJ143 M28 _ _ _ Z (lv_sub hl [0] rfl) h
              · have h := if_f c30 h
                refine lv_aload_n hx hb dX11_meet_130 rfl (lv_at hl 0 rfl) ?_
                refine mr_swept S X Z hin hl_140 dX11_meet_131 ?_
                refine lv_iload_n hx hb dX11_meet_134 rfl (lv_at hl 1 rfl) ?_
                refine lv_iconst (v := (0 : Int32)) hx hb dX11_meet_135 (by decide) ?_
                refine g_zast S X Z ml_swept rfl dX11_meet_136 h (fun M31 H locs Z h => ?_)
                obtain ⟨x32, ex32, h⟩ := lt_e h
                refine lv_iinc (v := x32) (lv' := [(2, .int x32), (0, .ref (A m_o))]) hx hb dX11_meet_137 hl (k := 1) rfl (by rw [ex32]; rfl) (by decide) rfl (fun ls hl => ?_)
                refine lv_goto (tgt := 124) hx hb dX11_meet_140 (by decide) ?_
                exact ih124 x32 M31 _ _ _ Z (lv_sub hl [1, 0] rfl) h
          exact hL124 100 (0 : Int32) M16 _ _ _ Z (lv_sub hl [1, 0] rfl) h
        have hL46 : ∀ (n : Nat) (x33 : Int32) (M34 : gM) (H : Heap) (locs : List Loc) (ls : Array Slot), gZ D mLay dA mLive A (gA mLive A) s.heap M34 H locs → lv_has ls 3 [(0, .ref (A m_o)), (1, .int a1), (2, .int x33)] → f_X11_meet_L46 a1 J106 n x33 M34 = some y → W p l e (headSpec wmX11_meet ({ frames := 5, cells := 0, slots := 0, locals := 117 } : Room)).room s m args below meth c H locs 0 0 (MQ below (mQl D dA A y) args s 0 0 (gA mLive A)) (F0 m 46 ls []) := by
          intro n
          induction n with
          | zero =>
            intro x33 M34 H locs ls Z hl h
            rw [f_X11_meet_L46] at h
            cases h
          | succ n35 ih46 =>
            intro x33 M34 H locs ls Z hl h
            rw [f_X11_meet_L46] at h
            refine lv_iload_n hx hb dX11_meet_46 rfl (lv_at hl 2 rfl) ?_
            refine lv_aload_n hx hb dX11_meet_47 rfl (lv_at hl 0 rfl) ?_
            refine mr_servers S X Z hin hl_155 dX11_meet_48 h (fun v36 h => ?_)
            refine lv_icmp_ge (tgt := 106) hx hb dX11_meet_51 (by decide) (fun c37 => ?_) (fun c37 => ?_)
            · have h := if_t c37 h
              exact hJ106 M34 _ _ _ Z (lv_sub hl [0] rfl) h
            · have h := if_f c37 h
              refine lv_aload_n hx hb dX11_meet_54 rfl (lv_at hl 0 rfl) ?_
              refine lv_iload_n hx hb dX11_meet_55 rfl (lv_at hl 2 rfl) ?_
              refine lv_iload_n hx hb dX11_meet_56 rfl (lv_at hl 1 rfl) ?_
              obtain ⟨J97, eJ97, h⟩ := jn_e h
              have hJ97 : ∀ (b38 : Int32) (M39 : gM) (H : Heap) (locs : List Loc) (ls : Array Slot), gZ D mLay dA mLive A (gA mLive A) s.heap M39 H locs → lv_has ls 3 [(0, .ref (A m_o)), (1, .int a1), (2, .int x33)] → J97 (b38, M39) = some y → W p l e (headSpec wmX11_meet ({ frames := 5, cells := 0, slots := 0, locals := 117 } : Room)).room s m args below meth c H locs 0 0 (MQ below (mQl D dA A y) args s 0 0 (gA mLive A)) (F0 m 97 ls [.int b38, .ref (A m_o)]) := by
                intro b38 M39 H locs ls Z hl h
                rw [eJ97] at h
                try dsimp only at h
                refine mp_group S X Z hin hl_394 dX11_meet_97 h (fun M40 H locs Z h => ?_)
                obtain ⟨x41, ex41, h⟩ := lt_e h
                refine lv_iinc (v := x41) (lv' := [(2, .int x41), (0, .ref (A m_o)), (1, .int a1)]) hx hb dX11_meet_100 hl (k := 2) rfl (by rw [ex41]; rfl) (by decide) rfl (fun ls hl => ?_)
                refine lv_goto (tgt := 46) hx hb dX11_meet_103 (by decide) ?_
                exact ih46 x41 M40 _ _ _ Z (lv_sub hl [1, 2, 0] rfl) h
              obtain ⟨J82, eJ82, h⟩ := jn_e h
              have hJ82 : ∀ (M42 : gM) (H : Heap) (locs : List Loc) (ls : Array Slot), gZ D mLay dA mLive A (gA mLive A) s.heap M42 H locs → lv_has ls 3 [(0, .ref (A m_o)), (1, .int a1), (2, .int x33)] → J82 M42 = some y → W p l e (headSpec wmX11_meet ({ frames := 5, cells := 0, slots := 0, locals := 117 } : Room)).room s m args below meth c H locs 0 0 (MQ below (mQl D dA A y) args s 0 0 (gA mLive A)) (F0 m 82 ls [.ref (A m_o)]) := by
                intro M42 H locs ls Z hl h
                rw [eJ82] at h
                try dsimp only at h
                refine lv_aload_n hx hb dX11_meet_82 rfl (lv_at hl 0 rfl) ?_
                refine mr_group S X Z hin hl_394 dX11_meet_83 h (fun v43 h => ?_)
                refine lv_iconst (v := (1 : Int32)) hx hb dX11_meet_86 (by decide) ?_
                refine lv_iload_n hx hb dX11_meet_87 rfl (lv_at hl 2 rfl) ?_
                refine lv_ishl hx hb dX11_meet_88 ?_
                refine lv_ior hx hb dX11_meet_89 ?_
                refine lv_goto (tgt := 97) hx hb dX11_meet_90 (by decide) ?_
                exact hJ97 (v43 ||| ((1 : Int32) <<< (x33 &&& 31))) M42 _ _ _ Z (lv_sub hl [0, 1, 2] rfl) h
              refine lv_icmp_eq (tgt := 82) hx hb dX11_meet_57 (by decide) (fun c44 => ?_) (fun c44 => ?_)
              · have h := if_t c44 h
                exact hJ82 M34 _ _ _ Z (lv_sub hl [0, 1, 2] rfl) h
              · have h := if_f c44 h
                refine lv_aload_n hx hb dX11_meet_60 rfl (lv_at hl 0 rfl) ?_
                refine mr_up S X Z hin hl_7 dX11_meet_61 ?_
                refine lv_iload_n hx hb dX11_meet_64 rfl (lv_at hl 2 rfl) ?_
                refine g_zald S X Z ml_up rfl dX11_meet_65 h (fun v45 h => ?_)
                obtain ⟨J93, eJ93, h⟩ := jn_e h
                have hJ93 : ∀ (M46 : gM) (H : Heap) (locs : List Loc) (ls : Array Slot), gZ D mLay dA mLive A (gA mLive A) s.heap M46 H locs → lv_has ls 3 [(0, .ref (A m_o)), (1, .int a1), (2, .int x33)] → J93 M46 = some y → W p l e (headSpec wmX11_meet ({ frames := 5, cells := 0, slots := 0, locals := 117 } : Room)).room s m args below meth c H locs 0 0 (MQ below (mQl D dA A y) args s 0 0 (gA mLive A)) (F0 m 93 ls [.ref (A m_o)]) := by
                  intro M46 H locs ls Z hl h
                  rw [eJ93] at h
                  try dsimp only at h
                  refine lv_aload_n hx hb dX11_meet_93 rfl (lv_at hl 0 rfl) ?_
                  refine mr_group S X Z hin hl_394 dX11_meet_94 h (fun v47 h => ?_)
                  exact hJ97 v47 M46 _ _ _ Z (lv_sub hl [0, 1, 2] rfl) h
                refine lv_if_eq (tgt := 93) hx hb dX11_meet_66 (by decide) (fun c48 => ?_) (fun c48 => ?_)
                · have h := if_t c48 h
                  exact hJ93 M34 _ _ _ Z (lv_sub hl [0, 1, 2] rfl) h
                · have h := if_f c48 h
                  refine lv_aload_n hx hb dX11_meet_69 rfl (lv_at hl 0 rfl) ?_
                  refine mr_linked S X Z hin hl_13 dX11_meet_70 ?_
                  refine lv_iconst (v := (4 : Int32)) hx hb dX11_meet_73 (by decide) ?_
                  refine lv_iload_n hx hb dX11_meet_74 rfl (lv_at hl 1 rfl) ?_
                  refine lv_imul hx hb dX11_meet_75 ?_
                  refine lv_iload_n hx hb dX11_meet_76 rfl (lv_at hl 2 rfl) ?_
                  refine lv_iadd hx hb dX11_meet_77 ?_
                  refine g_zald S X Z ml_linked rfl dX11_meet_78 h (fun v49 h => ?_)
                  refine lv_if_eq (tgt := 93) hx hb dX11_meet_79 (by decide) (fun c50 => ?_) (fun c50 => ?_)
                  · have h := if_t c50 h
                    exact hJ93 M34 _ _ _ Z (lv_sub hl [0, 1, 2] rfl) h
                  · have h := if_f c50 h
                    exact hJ82 M34 _ _ _ Z (lv_sub hl [0, 1, 2] rfl) h
        exact hL46 100 (0 : Int32) M10 _ _ _ Z (lv_sub hl [1, 2, 0] rfl) h
      · have h := if_t c9 h
        refine lv_ldc2 hx hb hown hc_172 dX11_meet_35 ?_
        have hy := Option.some.inj h
        subst hy
        exact g_rl S Z hr hlocks dX11_meet_38
    · have h := if_f c7 h
      refine lv_lconst (v := (0 : Int64)) hx hb dX11_meet_24 (by decide) ?_
      have hy := Option.some.inj h
      subst hy
      exact g_rl S Z hr hlocks dX11_meet_25
  refine lv_if_eq (tgt := 13) hx hb dX11_meet_6 (by decide) (fun c51 => ?_) (fun c51 => ?_)
  · have h := if_t c51 h
    refine lv_iconst (v := (1 : Int32)) hx hb dX11_meet_13 (by decide) ?_
    exact hJ14 (1 : Int32) M _ _ _ Z (lv_sub hl [0, 1] rfl) h
  · have h := if_f c51 h
    refine lv_iconst (v := (0 : Int32)) hx hb dX11_meet_9 (by decide) ?_
    refine lv_goto (tgt := 14) hx hb dX11_meet_10 (by decide) ?_
    exact hJ14 (0 : Int32) M _ _ _ Z (lv_sub hl [0, 1] rfl) h
-- X11_repair (III)J: 201 instructions
theorem dX11_repair_0 : decode cX11_repair 0 = .ok (.aload_n 0, 1) := by decide +kernel
theorem dX11_repair_1 : decode cX11_repair 1 = .ok (.iload_n 1, 1) := by decide +kernel
theorem dX11_repair_2 : decode cX11_repair 2 = .ok (.invokestatic 191, 3) := by decide +kernel
theorem dX11_repair_5 : decode cX11_repair 5 = .ok (.ifCond .eq 14, 3) := by decide +kernel
theorem dX11_repair_8 : decode cX11_repair 8 = .ok (.iload_n 2, 1) := by decide +kernel
theorem dX11_repair_9 : decode cX11_repair 9 = .ok (.invokestatic 194, 3) := by decide +kernel
theorem dX11_repair_12 : decode cX11_repair 12 = .ok (.ifCond .eq 7, 3) := by decide +kernel
theorem dX11_repair_15 : decode cX11_repair 15 = .ok (.iconst 0, 1) := by decide +kernel
theorem dX11_repair_16 : decode cX11_repair 16 = .ok (.goto 4, 3) := by decide +kernel
theorem dX11_repair_19 : decode cX11_repair 19 = .ok (.iconst 1, 1) := by decide +kernel
theorem dX11_repair_20 : decode cX11_repair 20 = .ok (.putfield 165, 3) := by decide +kernel
theorem dX11_repair_23 : decode cX11_repair 23 = .ok (.aload_n 0, 1) := by decide +kernel
theorem dX11_repair_24 : decode cX11_repair 24 = .ok (.getfield 165, 3) := by decide +kernel
theorem dX11_repair_27 : decode cX11_repair 27 = .ok (.ifCond .le 5, 3) := by decide +kernel
theorem dX11_repair_30 : decode cX11_repair 30 = .ok (.lconst 0, 1) := by decide +kernel
theorem dX11_repair_31 : decode cX11_repair 31 = .ok (.lreturn, 1) := by decide +kernel
theorem dX11_repair_32 : decode cX11_repair 32 = .ok (.aload_n 0, 1) := by decide +kernel
theorem dX11_repair_33 : decode cX11_repair 33 = .ok (.iload_n 2, 1) := by decide +kernel
theorem dX11_repair_34 : decode cX11_repair 34 = .ok (.iconst 0, 1) := by decide +kernel
theorem dX11_repair_35 : decode cX11_repair 35 = .ok (.invokevirtual 278, 3) := by decide +kernel
theorem dX11_repair_38 : decode cX11_repair 38 = .ok (.lstore 4, 2) := by decide +kernel
theorem dX11_repair_40 : decode cX11_repair 40 = .ok (.lload 4, 2) := by decide +kernel
theorem dX11_repair_42 : decode cX11_repair 42 = .ok (.lconst 0, 1) := by decide +kernel
theorem dX11_repair_43 : decode cX11_repair 43 = .ok (.lcmp, 1) := by decide +kernel
theorem dX11_repair_44 : decode cX11_repair 44 = .ok (.ifCond .eq 6, 3) := by decide +kernel
theorem dX11_repair_47 : decode cX11_repair 47 = .ok (.lload 4, 2) := by decide +kernel
theorem dX11_repair_49 : decode cX11_repair 49 = .ok (.lreturn, 1) := by decide +kernel
theorem dX11_repair_50 : decode cX11_repair 50 = .ok (.aload_n 0, 1) := by decide +kernel
theorem dX11_repair_51 : decode cX11_repair 51 = .ok (.iload_n 1, 1) := by decide +kernel
theorem dX11_repair_52 : decode cX11_repair 52 = .ok (.invokevirtual 238, 3) := by decide +kernel
theorem dX11_repair_55 : decode cX11_repair 55 = .ok (.ifCond .eq 7, 3) := by decide +kernel
theorem dX11_repair_58 : decode cX11_repair 58 = .ok (.ldc2_w 371, 3) := by decide +kernel
theorem dX11_repair_61 : decode cX11_repair 61 = .ok (.lreturn, 1) := by decide +kernel
theorem dX11_repair_62 : decode cX11_repair 62 = .ok (.aload_n 0, 1) := by decide +kernel
theorem dX11_repair_63 : decode cX11_repair 63 = .ok (.iload_n 1, 1) := by decide +kernel
theorem dX11_repair_64 : decode cX11_repair 64 = .ok (.invokevirtual 180, 3) := by decide +kernel
theorem dX11_repair_67 : decode cX11_repair 67 = .ok (.istore 6, 2) := by decide +kernel
theorem dX11_repair_69 : decode cX11_repair 69 = .ok (.iconst (-1), 1) := by decide +kernel
theorem dX11_repair_70 : decode cX11_repair 70 = .ok (.istore 7, 2) := by decide +kernel
theorem dX11_repair_72 : decode cX11_repair 72 = .ok (.aload_n 0, 1) := by decide +kernel
theorem dX11_repair_73 : decode cX11_repair 73 = .ok (.getfield 155, 3) := by decide +kernel
theorem dX11_repair_76 : decode cX11_repair 76 = .ok (.iconst 1, 1) := by decide +kernel
theorem dX11_repair_77 : decode cX11_repair 77 = .ok (.isub, 1) := by decide +kernel
theorem dX11_repair_78 : decode cX11_repair 78 = .ok (.istore 8, 2) := by decide +kernel
theorem dX11_repair_80 : decode cX11_repair 80 = .ok (.iload 8, 2) := by decide +kernel
theorem dX11_repair_82 : decode cX11_repair 82 = .ok (.ifCond .lt 59, 3) := by decide +kernel
theorem dX11_repair_85 : decode cX11_repair 85 = .ok (.iload 6, 2) := by decide +kernel
theorem dX11_repair_87 : decode cX11_repair 87 = .ok (.iload 8, 2) := by decide +kernel
theorem dX11_repair_89 : decode cX11_repair 89 = .ok (.ishr, 1) := by decide +kernel
theorem dX11_repair_90 : decode cX11_repair 90 = .ok (.iconst 1, 1) := by decide +kernel
theorem dX11_repair_91 : decode cX11_repair 91 = .ok (.iand, 1) := by decide +kernel
theorem dX11_repair_92 : decode cX11_repair 92 = .ok (.iconst 1, 1) := by decide +kernel
theorem dX11_repair_93 : decode cX11_repair 93 = .ok (.if_icmp .ne 38, 3) := by decide +kernel
theorem dX11_repair_96 : decode cX11_repair 96 = .ok (.aload_n 0, 1) := by decide +kernel
theorem dX11_repair_97 : decode cX11_repair 97 = .ok (.getfield 32, 3) := by decide +kernel
theorem dX11_repair_100 : decode cX11_repair 100 = .ok (.bipush 48, 2) := by decide +kernel
theorem dX11_repair_102 : decode cX11_repair 102 = .ok (.iload 8, 2) := by decide +kernel
theorem dX11_repair_104 : decode cX11_repair 104 = .ok (.imul, 1) := by decide +kernel
theorem dX11_repair_105 : decode cX11_repair 105 = .ok (.iload_n 2, 1) := by decide +kernel
theorem dX11_repair_106 : decode cX11_repair 106 = .ok (.iadd, 1) := by decide +kernel
theorem dX11_repair_107 : decode cX11_repair 107 = .ok (.baload, 1) := by decide +kernel
theorem dX11_repair_108 : decode cX11_repair 108 = .ok (.ifCond .eq 23, 3) := by decide +kernel
theorem dX11_repair_111 : decode cX11_repair 111 = .ok (.aload_n 0, 1) := by decide +kernel
theorem dX11_repair_112 : decode cX11_repair 112 = .ok (.getfield 44, 3) := by decide +kernel
theorem dX11_repair_115 : decode cX11_repair 115 = .ok (.bipush 48, 2) := by decide +kernel
theorem dX11_repair_117 : decode cX11_repair 117 = .ok (.iload 8, 2) := by decide +kernel
theorem dX11_repair_119 : decode cX11_repair 119 = .ok (.imul, 1) := by decide +kernel
theorem dX11_repair_120 : decode cX11_repair 120 = .ok (.iload_n 2, 1) := by decide +kernel
theorem dX11_repair_121 : decode cX11_repair 121 = .ok (.iadd, 1) := by decide +kernel
theorem dX11_repair_122 : decode cX11_repair 122 = .ok (.iaload, 1) := by decide +kernel
theorem dX11_repair_123 : decode cX11_repair 123 = .ok (.ifCond .le 8, 3) := by decide +kernel
theorem dX11_repair_126 : decode cX11_repair 126 = .ok (.iload 8, 2) := by decide +kernel
theorem dX11_repair_128 : decode cX11_repair 128 = .ok (.goto 5, 3) := by decide +kernel
theorem dX11_repair_131 : decode cX11_repair 131 = .ok (.iload 7, 2) := by decide +kernel
theorem dX11_repair_133 : decode cX11_repair 133 = .ok (.istore 7, 2) := by decide +kernel
theorem dX11_repair_135 : decode cX11_repair 135 = .ok (.iinc 8 (-1), 3) := by decide +kernel
theorem dX11_repair_138 : decode cX11_repair 138 = .ok (.goto (-58), 3) := by decide +kernel
theorem dX11_repair_141 : decode cX11_repair 141 = .ok (.iload 7, 2) := by decide +kernel
theorem dX11_repair_143 : decode cX11_repair 143 = .ok (.iconst (-1), 1) := by decide +kernel
theorem dX11_repair_144 : decode cX11_repair 144 = .ok (.if_icmp .eq 23, 3) := by decide +kernel
theorem dX11_repair_147 : decode cX11_repair 147 = .ok (.iload_n 3, 1) := by decide +kernel
theorem dX11_repair_148 : decode cX11_repair 148 = .ok (.ifCond .lt 19, 3) := by decide +kernel
theorem dX11_repair_151 : decode cX11_repair 151 = .ok (.iload_n 3, 1) := by decide +kernel
theorem dX11_repair_152 : decode cX11_repair 152 = .ok (.aload_n 0, 1) := by decide +kernel
theorem dX11_repair_153 : decode cX11_repair 153 = .ok (.getfield 44, 3) := by decide +kernel
theorem dX11_repair_156 : decode cX11_repair 156 = .ok (.bipush 48, 2) := by decide +kernel
theorem dX11_repair_158 : decode cX11_repair 158 = .ok (.iload 7, 2) := by decide +kernel
theorem dX11_repair_160 : decode cX11_repair 160 = .ok (.imul, 1) := by decide +kernel
theorem dX11_repair_161 : decode cX11_repair 161 = .ok (.iload_n 2, 1) := by decide +kernel
theorem dX11_repair_162 : decode cX11_repair 162 = .ok (.iadd, 1) := by decide +kernel
theorem dX11_repair_163 : decode cX11_repair 163 = .ok (.iaload, 1) := by decide +kernel
theorem dX11_repair_164 : decode cX11_repair 164 = .ok (.if_icmp .lt 7, 3) := by decide +kernel
theorem dX11_repair_167 : decode cX11_repair 167 = .ok (.ldc2_w 172, 3) := by decide +kernel
theorem dX11_repair_170 : decode cX11_repair 170 = .ok (.lreturn, 1) := by decide +kernel
theorem dX11_repair_171 : decode cX11_repair 171 = .ok (.bipush 6, 2) := by decide +kernel
theorem dX11_repair_173 : decode cX11_repair 173 = .ok (.bipush 48, 2) := by decide +kernel
theorem dX11_repair_175 : decode cX11_repair 175 = .ok (.iload 7, 2) := by decide +kernel
theorem dX11_repair_177 : decode cX11_repair 177 = .ok (.imul, 1) := by decide +kernel
theorem dX11_repair_178 : decode cX11_repair 178 = .ok (.iload_n 2, 1) := by decide +kernel
theorem dX11_repair_179 : decode cX11_repair 179 = .ok (.iadd, 1) := by decide +kernel
theorem dX11_repair_180 : decode cX11_repair 180 = .ok (.imul, 1) := by decide +kernel
theorem dX11_repair_181 : decode cX11_repair 181 = .ok (.iload_n 3, 1) := by decide +kernel
theorem dX11_repair_182 : decode cX11_repair 182 = .ok (.iadd, 1) := by decide +kernel
theorem dX11_repair_183 : decode cX11_repair 183 = .ok (.istore 8, 2) := by decide +kernel
theorem dX11_repair_185 : decode cX11_repair 185 = .ok (.aload_n 0, 1) := by decide +kernel
theorem dX11_repair_186 : decode cX11_repair 186 = .ok (.getfield 47, 3) := by decide +kernel
theorem dX11_repair_189 : decode cX11_repair 189 = .ok (.iload 8, 2) := by decide +kernel
theorem dX11_repair_191 : decode cX11_repair 191 = .ok (.iaload, 1) := by decide +kernel
theorem dX11_repair_192 : decode cX11_repair 192 = .ok (.istore 9, 2) := by decide +kernel
theorem dX11_repair_194 : decode cX11_repair 194 = .ok (.aload_n 0, 1) := by decide +kernel
theorem dX11_repair_195 : decode cX11_repair 195 = .ok (.getfield 50, 3) := by decide +kernel
theorem dX11_repair_198 : decode cX11_repair 198 = .ok (.iload 8, 2) := by decide +kernel
theorem dX11_repair_200 : decode cX11_repair 200 = .ok (.iaload, 1) := by decide +kernel
theorem dX11_repair_201 : decode cX11_repair 201 = .ok (.istore 10, 2) := by decide +kernel
theorem dX11_repair_203 : decode cX11_repair 203 = .ok (.aload_n 0, 1) := by decide +kernel
theorem dX11_repair_204 : decode cX11_repair 204 = .ok (.aload_n 0, 1) := by decide +kernel
theorem dX11_repair_205 : decode cX11_repair 205 = .ok (.getfield 41, 3) := by decide +kernel
theorem dX11_repair_208 : decode cX11_repair 208 = .ok (.bipush 48, 2) := by decide +kernel
theorem dX11_repair_210 : decode cX11_repair 210 = .ok (.iload 7, 2) := by decide +kernel
theorem dX11_repair_212 : decode cX11_repair 212 = .ok (.imul, 1) := by decide +kernel
theorem dX11_repair_213 : decode cX11_repair 213 = .ok (.iload_n 2, 1) := by decide +kernel
theorem dX11_repair_214 : decode cX11_repair 214 = .ok (.iadd, 1) := by decide +kernel
theorem dX11_repair_215 : decode cX11_repair 215 = .ok (.aload_n 0, 1) := by decide +kernel
theorem dX11_repair_216 : decode cX11_repair 216 = .ok (.getfield 125, 3) := by decide +kernel
theorem dX11_repair_219 : decode cX11_repair 219 = .ok (.iconst 0, 1) := by decide +kernel
theorem dX11_repair_220 : decode cX11_repair 220 = .ok (.invokevirtual 234, 3) := by decide +kernel
theorem dX11_repair_223 : decode cX11_repair 223 = .ok (.aload_n 0, 1) := by decide +kernel
theorem dX11_repair_224 : decode cX11_repair 224 = .ok (.iconst 0, 1) := by decide +kernel
theorem dX11_repair_225 : decode cX11_repair 225 = .ok (.putfield 289, 3) := by decide +kernel
theorem dX11_repair_228 : decode cX11_repair 228 = .ok (.iconst 0, 1) := by decide +kernel
theorem dX11_repair_229 : decode cX11_repair 229 = .ok (.istore 11, 2) := by decide +kernel
theorem dX11_repair_231 : decode cX11_repair 231 = .ok (.iload 11, 2) := by decide +kernel
theorem dX11_repair_233 : decode cX11_repair 233 = .ok (.aload_n 0, 1) := by decide +kernel
theorem dX11_repair_234 : decode cX11_repair 234 = .ok (.getfield 155, 3) := by decide +kernel
theorem dX11_repair_237 : decode cX11_repair 237 = .ok (.if_icmp .ge 96, 3) := by decide +kernel
theorem dX11_repair_240 : decode cX11_repair 240 = .ok (.bipush 48, 2) := by decide +kernel
theorem dX11_repair_242 : decode cX11_repair 242 = .ok (.iload 11, 2) := by decide +kernel
theorem dX11_repair_244 : decode cX11_repair 244 = .ok (.imul, 1) := by decide +kernel
theorem dX11_repair_245 : decode cX11_repair 245 = .ok (.iload_n 2, 1) := by decide +kernel
theorem dX11_repair_246 : decode cX11_repair 246 = .ok (.iadd, 1) := by decide +kernel
theorem dX11_repair_247 : decode cX11_repair 247 = .ok (.istore 12, 2) := by decide +kernel
theorem dX11_repair_249 : decode cX11_repair 249 = .ok (.iload 6, 2) := by decide +kernel
theorem dX11_repair_251 : decode cX11_repair 251 = .ok (.iload 11, 2) := by decide +kernel
theorem dX11_repair_253 : decode cX11_repair 253 = .ok (.ishr, 1) := by decide +kernel
theorem dX11_repair_254 : decode cX11_repair 254 = .ok (.iconst 1, 1) := by decide +kernel
theorem dX11_repair_255 : decode cX11_repair 255 = .ok (.iand, 1) := by decide +kernel
theorem dX11_repair_256 : decode cX11_repair 256 = .ok (.iconst 1, 1) := by decide +kernel
theorem dX11_repair_257 : decode cX11_repair 257 = .ok (.if_icmp .ne 70, 3) := by decide +kernel
theorem dX11_repair_260 : decode cX11_repair 260 = .ok (.aload_n 0, 1) := by decide +kernel
theorem dX11_repair_261 : decode cX11_repair 261 = .ok (.getfield 32, 3) := by decide +kernel
theorem dX11_repair_264 : decode cX11_repair 264 = .ok (.iload 12, 2) := by decide +kernel
theorem dX11_repair_266 : decode cX11_repair 266 = .ok (.baload, 1) := by decide +kernel
theorem dX11_repair_267 : decode cX11_repair 267 = .ok (.ifCond .eq 60, 3) := by decide +kernel
theorem dX11_repair_270 : decode cX11_repair 270 = .ok (.aload_n 0, 1) := by decide +kernel
theorem dX11_repair_271 : decode cX11_repair 271 = .ok (.aload_n 0, 1) := by decide +kernel
theorem dX11_repair_272 : decode cX11_repair 272 = .ok (.getfield 41, 3) := by decide +kernel
theorem dX11_repair_275 : decode cX11_repair 275 = .ok (.iload 12, 2) := by decide +kernel
theorem dX11_repair_277 : decode cX11_repair 277 = .ok (.aload_n 0, 1) := by decide +kernel
theorem dX11_repair_278 : decode cX11_repair 278 = .ok (.getfield 125, 3) := by decide +kernel
theorem dX11_repair_281 : decode cX11_repair 281 = .ok (.iconst 0, 1) := by decide +kernel
theorem dX11_repair_282 : decode cX11_repair 282 = .ok (.invokevirtual 275, 3) := by decide +kernel
theorem dX11_repair_285 : decode cX11_repair 285 = .ok (.ifCond .eq 42, 3) := by decide +kernel
theorem dX11_repair_288 : decode cX11_repair 288 = .ok (.aload_n 0, 1) := by decide +kernel
theorem dX11_repair_289 : decode cX11_repair 289 = .ok (.aload_n 0, 1) := by decide +kernel
theorem dX11_repair_290 : decode cX11_repair 290 = .ok (.getfield 289, 3) := by decide +kernel
theorem dX11_repair_293 : decode cX11_repair 293 = .ok (.iconst 1, 1) := by decide +kernel
theorem dX11_repair_294 : decode cX11_repair 294 = .ok (.iload 11, 2) := by decide +kernel
theorem dX11_repair_296 : decode cX11_repair 296 = .ok (.ishl, 1) := by decide +kernel
theorem dX11_repair_297 : decode cX11_repair 297 = .ok (.ior, 1) := by decide +kernel
theorem dX11_repair_298 : decode cX11_repair 298 = .ok (.putfield 289, 3) := by decide +kernel
theorem dX11_repair_301 : decode cX11_repair 301 = .ok (.aload_n 0, 1) := by decide +kernel
theorem dX11_repair_302 : decode cX11_repair 302 = .ok (.getfield 35, 3) := by decide +kernel
theorem dX11_repair_305 : decode cX11_repair 305 = .ok (.iload 12, 2) := by decide +kernel
theorem dX11_repair_307 : decode cX11_repair 307 = .ok (.iload 9, 2) := by decide +kernel
theorem dX11_repair_309 : decode cX11_repair 309 = .ok (.iastore, 1) := by decide +kernel
theorem dX11_repair_310 : decode cX11_repair 310 = .ok (.aload_n 0, 1) := by decide +kernel
theorem dX11_repair_311 : decode cX11_repair 311 = .ok (.getfield 38, 3) := by decide +kernel
theorem dX11_repair_314 : decode cX11_repair 314 = .ok (.iload 12, 2) := by decide +kernel
theorem dX11_repair_316 : decode cX11_repair 316 = .ok (.iload 10, 2) := by decide +kernel
theorem dX11_repair_318 : decode cX11_repair 318 = .ok (.iastore, 1) := by decide +kernel
theorem dX11_repair_319 : decode cX11_repair 319 = .ok (.aload_n 0, 1) := by decide +kernel
theorem dX11_repair_320 : decode cX11_repair 320 = .ok (.getfield 44, 3) := by decide +kernel
theorem dX11_repair_323 : decode cX11_repair 323 = .ok (.iload 12, 2) := by decide +kernel
theorem dX11_repair_325 : decode cX11_repair 325 = .ok (.iconst 0, 1) := by decide +kernel
theorem dX11_repair_326 : decode cX11_repair 326 = .ok (.iastore, 1) := by decide +kernel
theorem dX11_repair_327 : decode cX11_repair 327 = .ok (.iinc 11 1, 3) := by decide +kernel
theorem dX11_repair_330 : decode cX11_repair 330 = .ok (.goto (-99), 3) := by decide +kernel
theorem dX11_repair_333 : decode cX11_repair 333 = .ok (.aload_n 0, 1) := by decide +kernel
theorem dX11_repair_334 : decode cX11_repair 334 = .ok (.iload_n 2, 1) := by decide +kernel
theorem dX11_repair_335 : decode cX11_repair 335 = .ok (.invokevirtual 305, 3) := by decide +kernel
theorem dX11_repair_338 : decode cX11_repair 338 = .ok (.aload_n 0, 1) := by decide +kernel
theorem dX11_repair_339 : decode cX11_repair 339 = .ok (.iload_n 2, 1) := by decide +kernel
theorem dX11_repair_340 : decode cX11_repair 340 = .ok (.aload_n 0, 1) := by decide +kernel
theorem dX11_repair_341 : decode cX11_repair 341 = .ok (.getfield 289, 3) := by decide +kernel
theorem dX11_repair_344 : decode cX11_repair 344 = .ok (.iconst (-1), 1) := by decide +kernel
theorem dX11_repair_345 : decode cX11_repair 345 = .ok (.invokevirtual 315, 3) := by decide +kernel
theorem dX11_repair_348 : decode cX11_repair 348 = .ok (.aload_n 0, 1) := by decide +kernel
theorem dX11_repair_349 : decode cX11_repair 349 = .ok (.getfield 289, 3) := by decide +kernel
theorem dX11_repair_352 : decode cX11_repair 352 = .ok (.invokestatic 333, 3) := by decide +kernel
theorem dX11_repair_355 : decode cX11_repair 355 = .ok (.i2l, 1) := by decide +kernel
theorem dX11_repair_356 : decode cX11_repair 356 = .ok (.lreturn, 1) := by decide +kernel
abbrev wmX11_repair : List Cond := .code yX11_repair cX11_repair 13 (some .long) :: mBig
def f_X11_repair_L231 (a2 : Int32) (v15 : Int32) (v25 : Int32) (v26 : Int32) (J333 : gM → Option (Int64 × gM)) : Nat → Int32 → gM → Option (Int64 × gM)
  | 0, _, _ => none
  | n41 + 1, x39, M40 => lt (M40 m_o 0) (fun v42 => (if v42 ≤ x39 then J333 M40 else lt ((((48 : Int32) * x39) + a2)) (fun x44 => jn (fun (M45 : gM) => lt (x39 + 1) (fun x46 => f_X11_repair_L231 a2 v15 v25 v26 J333 n41 x46 M45)) (fun J327 => (if ((v15 >>> (x39 &&& 31)) &&& (1 : Int32)) = (1 : Int32) then rd M40 m_has 192 x44 (fun v48 => (if v48 = 0 then J327 M40 else o1 (f_X11_isSame M40 m_vector x44 m_row (0 : Int32)) (fun v51 => (if v51 = 0 then J327 M40 else lt (M40 m_o 51) (fun v53 => lt (gset M40 m_o 51 (v53 ||| ((1 : Int32) <<< (x39 &&& 31)))) (fun M54 => wr M54 m_value 192 x44 v25 (fun M55 => wr M55 m_size 192 x44 v26 (fun M56 => wr M56 m_versions 192 x44 (0 : Int32) (fun M57 => J327 M57))))))))) else J327 M40)))))
def f_X11_repair_L80 (a2 : Int32) (a3 : Int32) (v15 : Int32) (J141 : (Int32 × gM) → Option (Int64 × gM)) : Nat → Int32 → Int32 → gM → Option (Int64 × gM)
  | 0, _, _, _ => none
  | n61 + 1, x58, x59, M60 => (if x59 < 0 then J141 (x58, M60) else jn (fun (q : (Int32 × gM)) => match q with | (b63, M64) => lt (x59 + (-1)) (fun x65 => f_X11_repair_L80 a2 a3 v15 J141 n61 b63 x65 M64)) (fun J133 => jn (fun (M66 : gM) => J133 (x58, M66)) (fun J131 => (if ((v15 >>> (x59 &&& 31)) &&& (1 : Int32)) = (1 : Int32) then rd M60 m_has 192 (((48 : Int32) * x59) + a2) (fun v68 => (if v68 = 0 then J131 M60 else rd M60 m_versions 192 (((48 : Int32) * x59) + a2) (fun v70 => (if v70 ≤ 0 then J131 M60 else J133 (x59, M60))))) else J131 M60))))
def f_X11_repair (M : gM) (a1 : Int32) (a2 : Int32) (a3 : Int32) : Option (Int64 × gM) :=
  o1 (f_X11_isClient M a1) (fun v2 => jn (fun (q : (Int32 × gM)) => match q with | (b3, M4) => lt (gset M4 m_o 66 b3) (fun M5 => lt (M5 m_o 66) (fun v6 => (if v6 ≤ 0 then o1 (f_X11_kindOf M5 a2 (0 : Int32)) (fun v9 => (if (lg_cmp v9 (0 : Int64)) = 0 then o1 (f_X11_isAlone M5 a1) (fun v12 => (if v12 = 0 then o1 (f_X11_nearSet M5 a1) (fun v15 => lt (M5 m_o 0) (fun v16 => lt ((v16 - (1 : Int32))) (fun x17 => jn (fun (q : (Int32 × gM)) => match q with | (b18, M19) => (if b18 = (-1 : Int32) then some ((-2199023255552 : Int64), M19) else (if a3 < 0 then some ((-2199023255552 : Int64), M19) else rd M19 m_versions 192 (((48 : Int32) * b18) + a2) (fun v22 => (if a3 < v22 then lt ((((6 : Int32) * (((48 : Int32) * b18) + a2)) + a3)) (fun x24 => rd M19 m_versionValue 1152 x24 (fun v25 => rd M19 m_versionSize 1152 x24 (fun v26 => o1 (f_X11_copyTo M19 m_vector (((48 : Int32) * b18) + a2) m_row (0 : Int32)) (fun M28 => lt (gset M28 m_o 51 (0 : Int32)) (fun M29 => jn (fun (M30 : gM) => o1 (f_X11_phases M30 a2) (fun M32 => lt (M32 m_o 51) (fun v33 => o1 (f_X11_endPromises M32 a2 v33 (-1 : Int32)) (fun M35 => lt (M35 m_o 51) (fun v36 => o1 (f_X11_manyOf M35 v36) (fun v38 => some (v38.toInt64, M35))))))) (fun J333 => f_X11_repair_L231 a2 v15 v25 v26 J333 100 (0 : Int32) M29)))))) else some ((-2199023255552 : Int64), M19)))))) (fun J141 => f_X11_repair_L80 a2 a3 v15 J141 100 (-1 : Int32) x17 M5)))) else some ((-2199023255560 : Int64), M5))) else some (v9, M5))) else some ((0 : Int64), M5))))) (fun J20 => jn (fun (M72 : gM) => J20 ((1 : Int32), M72)) (fun J19 => (if v2 = 0 then J19 M else o1 (f_X11_isObject M a2) (fun v75 => (if v75 = 0 then J19 M else J20 ((0 : Int32), M)))))))
set_option maxHeartbeats 4000000 in
set_option maxRecDepth 100000 in
theorem t_X11_repair (l : Launch) (D : va_G) (dA : Nat → ClassId) (A : gI → Nat) (hJ : gJ mLive A) {M : gM} {a1 : Int32} {a2 : Int32} {a3 : Int32}  {y : (Int64 × gM)} (h : f_X11_repair M a1 a2 a3 = some y) : mMl l yX11_repair wmX11_repair ({ frames := 3, cells := 0, slots := 0, locals := 66 } : Room) D dA A [.ref (A m_o), .int a1, .int a2, .int a3] M y.1 y.2 := by
  refine Met.ofW (cc := cX11_repair) (maxL := 13) (ret := (some .long)) (by decide) rfl ?_
  intro p e s m args below meth c s₁ B hml hv
  obtain ⟨rfl, hP, hK⟩ := hv
  generalize hargs : ([.ref (A m_o), .int a1, .int a2, .int a3] : List Value).toArray = args at B ⊢
  have S : CallFix p m c cX11_repair 13 s args wmX11_repair RX11 := ⟨B.exec, B.bytes, hml, findClass_of_methodNamed B.named, atoms_spec (ws := wmX11_repair) B.pre⟩
  obtain ⟨hx, hb, -, hown, hts⟩ := id S
  have hr := B.returns
  have hlocks := B.notSynchronized
  have X : gX D vwCl dA mLive A (gA mLive A) s := ⟨hK, hJ, fun i hi => ⟨i, hi, rfl⟩⟩
  have Z : gZ D mLay dA mLive A (gA mLive A) s.heap M s.heap [] := ⟨hP, va_S.rf⟩
  have hin : ∀ w ∈ wsX110, w ∈ wmX11_repair := m_in
  have hl_32 := hts (.fieldLink RX11 32 "ReplicaFilesModel" "has" "[Z") (mBc 12 rfl)
  have hl_35 := hts (.fieldLink RX11 35 "ReplicaFilesModel" "value" "[I") (mBc 13 rfl)
  have hl_38 := hts (.fieldLink RX11 38 "ReplicaFilesModel" "size" "[I") (mBc 14 rfl)
  have hl_41 := hts (.fieldLink RX11 41 "ReplicaFilesModel" "vector" "[I") (mBc 15 rfl)
  have hl_44 := hts (.fieldLink RX11 44 "ReplicaFilesModel" "versions" "[I") (mBc 16 rfl)
  have hl_47 := hts (.fieldLink RX11 47 "ReplicaFilesModel" "versionValue" "[I") (mBc 17 rfl)
  have hl_50 := hts (.fieldLink RX11 50 "ReplicaFilesModel" "versionSize" "[I") (mBc 18 rfl)
  have hl_125 := hts (.fieldLink RX11 125 "ReplicaFilesModel" "row" "[I") (mBc 43 rfl)
  have hl_155 := hts (.fieldLink RX11 155 "ReplicaFilesModel" "servers" "I") (mBc 53 rfl)
  have hl_165 := hts (.fieldLink RX11 165 "ReplicaFilesModel" "thrown" "I") (mBc 58 rfl)
  have hl_289 := hts (.fieldLink RX11 289 "ReplicaFilesModel" "set" "I") (mBc 188 rfl)
  have hc_172 := hts (.constantLong RX11 172 (-2199023255552)) (mBc 67 rfl)
  have hc_371 := hts (.constantLong RX11 371 (-2199023255560)) (mBc 276 rfl)
  have hl := lv_entry ([.ref (A m_o), .int a1, .int a2, .int a3]) (n := 13) (Nat.le_of_ble_eq_true rfl)
  rw [← hargs, lg_entry_eq, hargs]
  generalize (lg_sl ([.ref (A m_o), .int a1, .int a2, .int a3]) ++ List.replicate (13 - (lg_sl ([.ref (A m_o), .int a1, .int a2, .int a3])).length) Slot.unset).toArray = ls at hl ⊢
  have hl : lv_has ls 13 [(0, .ref (A m_o)), (1, .int a1), (2, .int a2), (3, .int a3)] := hl
  unfold f_X11_repair at h
  refine lv_aload_n hx hb dX11_repair_0 rfl (lv_at hl 0 rfl) ?_
  refine lv_iload_n hx hb dX11_repair_1 rfl (lv_at hl 1 rfl) ?_
  obtain ⟨v2, hc1, h⟩ := o1_e h
  refine g_Si (As := [.int a1]) (rest := [.ref (A m_o)]) S X Z (t_X11_isClient l D dA A hJ  hc1) (va_cwS 1 hts (mGS (mB 91 rfl) (mB 92 rfl) (mB 63 rfl) (mB 64 rfl)) rfl rfl rfl (by decide +kernel) ⟨Nat.le_of_ble_eq_true rfl, Nat.le_of_ble_eq_true rfl⟩) rfl hl.1 rfl (Nat.le_of_ble_eq_true rfl) dX11_repair_2 ⟨Nat.zero_le _, Nat.zero_le _⟩ (fun H locs Z => ?_)
  obtain ⟨J20, eJ20, h⟩ := jn_e h
  have hJ20 : ∀ (b3 : Int32) (M4 : gM) (H : Heap) (locs : List Loc) (ls : Array Slot), gZ D mLay dA mLive A (gA mLive A) s.heap M4 H locs → lv_has ls 13 [(0, .ref (A m_o)), (1, .int a1), (2, .int a2), (3, .int a3)] → J20 (b3, M4) = some y → W p l e (headSpec wmX11_repair ({ frames := 3, cells := 0, slots := 0, locals := 66 } : Room)).room s m args below meth c H locs 0 0 (MQ below (mQl D dA A y) args s 0 0 (gA mLive A)) (F0 m 20 ls [.int b3, .ref (A m_o)]) := by
    intro b3 M4 H locs ls Z hl h
    rw [eJ20] at h
    try dsimp only at h
    refine mp_thrown S X Z hin hl_165 dX11_repair_20 h (fun M5 H locs Z h => ?_)
    refine lv_aload_n hx hb dX11_repair_23 rfl (lv_at hl 0 rfl) ?_
    refine mr_thrown S X Z hin hl_165 dX11_repair_24 h (fun v6 h => ?_)
    refine lv_if_le (tgt := 32) hx hb dX11_repair_27 (by decide) (fun c7 => ?_) (fun c7 => ?_)
    · have h := if_t c7 h
      refine lv_aload_n hx hb dX11_repair_32 rfl (lv_at hl 0 rfl) ?_
      refine lv_iload_n hx hb dX11_repair_33 rfl (lv_at hl 2 rfl) ?_
      refine lv_iconst (v := (0 : Int32)) hx hb dX11_repair_34 (by decide) ?_
      obtain ⟨v9, hc8, h⟩ := o1_e h
      refine g_Vl (As := [.int a2, .int (0 : Int32)]) (rest := []) S X Z mlv_o rfl rfl (t_X11_kindOf l D dA A hJ  hc8) (cwV 2 hts (mGV (mB 177 rfl) (mB 178 rfl) (mB 179 rfl) (mB 63 rfl) (mB 66 rfl)) rfl rfl rfl (by decide +kernel) ⟨Nat.le_of_ble_eq_true rfl, Nat.le_of_ble_eq_true rfl⟩) rfl hl.1 rfl (Nat.le_of_ble_eq_true rfl) dX11_repair_35 ⟨Nat.zero_le _, Nat.zero_le _⟩ (fun H locs Z => ?_)
      refine lv_lstore (lv' := [(4, .long v9), (0, .ref (A m_o)), (1, .int a1), (2, .int a2), (3, .int a3)]) hx hb dX11_repair_38 hl (by decide) rfl (fun ls hl => ?_)
      refine lv_lload hx hb dX11_repair_40 (lv_at hl 0 rfl) ?_
      refine lv_lconst (v := (0 : Int64)) hx hb dX11_repair_42 (by decide) ?_
      refine W.lcmp hx hb dX11_repair_43 ?_
      refine lv_if_eq (tgt := 50) hx hb dX11_repair_44 (by decide) (fun c10 => ?_) (fun c10 => ?_)
      · have h := if_t c10 h
        refine lv_aload_n hx hb dX11_repair_50 rfl (lv_at hl 1 rfl) ?_
        refine lv_iload_n hx hb dX11_repair_51 rfl (lv_at hl 2 rfl) ?_
        obtain ⟨v12, hc11, h⟩ := o1_e h
        refine g_Vi (As := [.int a1]) (rest := []) S X Z mlv_o rfl rfl (t_X11_isAlone l D dA A hJ  hc11) (cwV 1 hts (mGV (mB 161 rfl) (mB 162 rfl) (mB 163 rfl) (mB 63 rfl) (mB 74 rfl)) rfl rfl rfl (by decide +kernel) ⟨Nat.le_of_ble_eq_true rfl, Nat.le_of_ble_eq_true rfl⟩) rfl hl.1 rfl (Nat.le_of_ble_eq_true rfl) dX11_repair_52 ⟨Nat.zero_le _, Nat.zero_le _⟩ (fun H locs Z => ?_)
        refine lv_if_eq (tgt := 62) hx hb dX11_repair_55 (by decide) (fun c13 => ?_) (fun c13 => ?_)
        · have h := if_t c13 h
          refine lv_aload_n hx hb dX11_repair_62 rfl (lv_at hl 1 rfl) ?_
          refine lv_iload_n hx hb dX11_repair_63 rfl (lv_at hl 2 rfl) ?_
          obtain ⟨v15, hc14, h⟩ := o1_e h
          refine g_Vi (As := [.int a1]) (rest := []) S X Z mlv_o rfl rfl (t_X11_nearSet l D dA A hJ  hc14) (cwV 1 hts (mGV (mB 75 rfl) (mB 76 rfl) (mB 77 rfl) (mB 63 rfl) (mB 70 rfl)) rfl rfl rfl (by decide +kernel) ⟨Nat.le_of_ble_eq_true rfl, Nat.le_of_ble_eq_true rfl⟩) rfl hl.1 rfl (Nat.le_of_ble_eq_true rfl) dX11_repair_64 ⟨Nat.zero_le _, Nat.zero_le _⟩ (fun H locs Z => ?_)
          refine lv_istore (lv' := [(6, .int v15), (4, .long v9), (0, .ref (A m_o)), (1, .int a1), (2, .int a2), (3, .int a3)]) hx hb dX11_repair_67 hl (by decide) rfl (fun ls hl => ?_)
          refine lv_iconst (v := (-1 : Int32)) hx hb dX11_repair_69 (by decide) ?_
          refine lv_istore (lv' := [(7, .int (-1 : Int32)), (6, .int v15), (4, .long v9), (0, .ref (A m_o)), (1, .int a1), (2, .int a2), (3, .int a3)]) hx hb dX11_repair_70 hl (by decide) rfl (fun ls hl => ?_)
          refine lv_aload_n hx hb dX11_repair_72 rfl (lv_at hl 3 rfl) ?_
          refine mr_servers S X Z hin hl_155 dX11_repair_73 h (fun v16 h => ?_)
          refine lv_iconst (v := (1 : Int32)) hx hb dX11_repair_76 (by decide) ?_
          refine lv_isub hx hb dX11_repair_77 ?_
          refine g_topi h (fun x17 h => ?_)
          refine lv_istore (lv' := [(8, .int x17), (7, .int (-1 : Int32)), (6, .int v15), (4, .long v9), (0, .ref (A m_o)), (1, .int a1), (2, .int a2), (3, .int a3)]) hx hb dX11_repair_78 hl (by decide) rfl (fun ls hl => ?_)
          obtain ⟨J141, eJ141, h⟩ := jn_e h
          have hJ141 : ∀ (b18 : Int32) (M19 : gM) (H : Heap) (locs : List Loc) (ls : Array Slot), gZ D mLay dA mLive A (gA mLive A) s.heap M19 H locs → lv_has ls 13 [(0, .ref (A m_o)), (2, .int a2), (3, .int a3), (6, .int v15), (7, .int b18)] → J141 (b18, M19) = some y → W p l e (headSpec wmX11_repair ({ frames := 3, cells := 0, slots := 0, locals := 66 } : Room)).room s m args below meth c H locs 0 0 (MQ below (mQl D dA A y) args s 0 0 (gA mLive A)) (F0 m 141 ls []) := by
            intro b18 M19 H locs ls Z hl h
            rw [eJ141] at h
            try dsimp only at h
            refine lv_iload hx hb dX11_repair_141 (lv_at hl 4 rfl) ?_
            refine lv_iconst (v := (-1 : Int32)) hx hb dX11_repair_143 (by decide) ?_
            refine lv_icmp_eq (tgt := 167) hx hb dX11_repair_144 (by decide) (fun c20 => ?_) (fun c20 => ?_)
            · have h := if_t c20 h
              refine lv_ldc2 hx hb hown hc_172 dX11_repair_167 ?_
              have hy := Option.some.inj h
              subst hy
              exact g_rl S Z hr hlocks dX11_repair_170
            · have h := if_f c20 h
              refine lv_iload_n hx hb dX11_repair_147 rfl (lv_at hl 2 rfl) ?_
              refine lv_if_lt (tgt := 167) hx hb dX11_repair_148 (by decide) (fun c21 => ?_) (fun c21 => ?_)
              · have h := if_t c21 h
                refine lv_ldc2 hx hb hown hc_172 dX11_repair_167 ?_
                have hy := Option.some.inj h
                subst hy
                exact g_rl S Z hr hlocks dX11_repair_170
              · have h := if_f c21 h
                refine lv_iload_n hx hb dX11_repair_151 rfl (lv_at hl 2 rfl) ?_
                refine lv_aload_n hx hb dX11_repair_152 rfl (lv_at hl 0 rfl) ?_
                refine mr_versions S X Z hin hl_44 dX11_repair_153 ?_
                refine lv_bipush (v := (48 : Int32)) hx hb dX11_repair_156 (by decide) ?_
                refine lv_iload hx hb dX11_repair_158 (lv_at hl 4 rfl) ?_
                refine lv_imul hx hb dX11_repair_160 ?_
                refine lv_iload_n hx hb dX11_repair_161 rfl (lv_at hl 1 rfl) ?_
                refine lv_iadd hx hb dX11_repair_162 ?_
                refine g_iald S X Z ml_versions rfl dX11_repair_163 h (fun v22 h => ?_)
                refine lv_icmp_lt (tgt := 171) hx hb dX11_repair_164 (by decide) (fun c23 => ?_) (fun c23 => ?_)
                · have h := if_t c23 h
                  refine lv_bipush (v := (6 : Int32)) hx hb dX11_repair_171 (by decide) ?_
                  refine lv_bipush (v := (48 : Int32)) hx hb dX11_repair_173 (by decide) ?_
                  refine lv_iload hx hb dX11_repair_175 (lv_at hl 4 rfl) ?_
                  refine lv_imul hx hb dX11_repair_177 ?_
                  refine lv_iload_n hx hb dX11_repair_178 rfl (lv_at hl 1 rfl) ?_
                  refine lv_iadd hx hb dX11_repair_179 ?_
                  refine lv_imul hx hb dX11_repair_180 ?_
                  refine lv_iload_n hx hb dX11_repair_181 rfl (lv_at hl 2 rfl) ?_
                  refine lv_iadd hx hb dX11_repair_182 ?_
                  refine g_topi h (fun x24 h => ?_)
                  refine lv_istore (lv' := [(8, .int x24), (0, .ref (A m_o)), (2, .int a2), (3, .int a3), (6, .int v15), (7, .int b18)]) hx hb dX11_repair_183 hl (by decide) rfl (fun ls hl => ?_)
                  refine lv_aload_n hx hb dX11_repair_185 rfl (lv_at hl 1 rfl) ?_
                  refine mr_versionValue S X Z hin hl_47 dX11_repair_186 ?_
                  refine lv_iload hx hb dX11_repair_189 (lv_at hl 0 rfl) ?_
                  refine g_iald S X Z ml_versionValue rfl dX11_repair_191 h (fun v25 h => ?_)
                  refine lv_istore (lv' := [(9, .int v25), (8, .int x24), (0, .ref (A m_o)), (2, .int a2), (3, .int a3), (6, .int v15), (7, .int b18)]) hx hb dX11_repair_192 hl (by decide) rfl (fun ls hl => ?_)
                  refine lv_aload_n hx hb dX11_repair_194 rfl (lv_at hl 2 rfl) ?_
                  refine mr_versionSize S X Z hin hl_50 dX11_repair_195 ?_
                  refine lv_iload hx hb dX11_repair_198 (lv_at hl 1 rfl) ?_
                  refine g_iald S X Z ml_versionSize rfl dX11_repair_200 h (fun v26 h => ?_)
                  refine lv_istore (lv' := [(10, .int v26), (9, .int v25), (8, .int x24), (0, .ref (A m_o)), (2, .int a2), (3, .int a3), (6, .int v15), (7, .int b18)]) hx hb dX11_repair_201 hl (by decide) rfl (fun ls hl => ?_)
                  refine lv_aload_n hx hb dX11_repair_203 rfl (lv_at hl 3 rfl) ?_
                  refine lv_aload_n hx hb dX11_repair_204 rfl (lv_at hl 3 rfl) ?_
                  refine mr_vector S X Z hin hl_41 dX11_repair_205 ?_
                  refine lv_bipush (v := (48 : Int32)) hx hb dX11_repair_208 (by decide) ?_
                  refine lv_iload hx hb dX11_repair_210 (lv_at hl 7 rfl) ?_
                  refine lv_imul hx hb dX11_repair_212 ?_
                  refine lv_iload_n hx hb dX11_repair_213 rfl (lv_at hl 4 rfl) ?_
                  refine lv_iadd hx hb dX11_repair_214 ?_
                  refine lv_aload_n hx hb dX11_repair_215 rfl (lv_at hl 3 rfl) ?_
                  refine mr_row S X Z hin hl_125 dX11_repair_216 ?_
                  refine lv_iconst (v := (0 : Int32)) hx hb dX11_repair_219 (by decide) ?_
                  obtain ⟨M28, hc27, h⟩ := o1_e h
                  refine g_Vv (As := [.ref (A m_vector), .int (((48 : Int32) * b18) + a2), .ref (A m_row), .int (0 : Int32)]) (rest := []) S X Z mlv_o rfl rfl (t_X11_copyTo l D dA A hJ ⟨ml_vector, rfl⟩ ⟨ml_row, rfl⟩ hc27) (cwV 4 hts (mGV (mB 139 rfl) (mB 140 rfl) (mB 141 rfl) (mB 63 rfl) (mB 97 rfl)) rfl rfl rfl (by decide +kernel) ⟨Nat.le_of_ble_eq_true rfl, Nat.le_of_ble_eq_true rfl⟩) rfl hl.1 rfl (Nat.le_of_ble_eq_true rfl) dX11_repair_220 ⟨Nat.zero_le _, Nat.zero_le _⟩ (fun H locs Z => ?_)
                  refine lv_aload_n hx hb dX11_repair_223 rfl (lv_at hl 3 rfl) ?_
                  refine lv_iconst (v := (0 : Int32)) hx hb dX11_repair_224 (by decide) ?_
                  refine mp_set S X Z hin hl_289 dX11_repair_225 h (fun M29 H locs Z h => ?_)
                  refine lv_iconst (v := (0 : Int32)) hx hb dX11_repair_228 (by decide) ?_
                  refine lv_istore (lv' := [(11, .int (0 : Int32)), (10, .int v26), (9, .int v25), (8, .int x24), (0, .ref (A m_o)), (2, .int a2), (3, .int a3), (6, .int v15), (7, .int b18)]) hx hb dX11_repair_229 hl (by decide) rfl (fun ls hl => ?_)
                  obtain ⟨J333, eJ333, h⟩ := jn_e h
                  have hJ333 : ∀ (M30 : gM) (H : Heap) (locs : List Loc) (ls : Array Slot), gZ D mLay dA mLive A (gA mLive A) s.heap M30 H locs → lv_has ls 13 [(0, .ref (A m_o)), (2, .int a2)] → J333 M30 = some y → W p l e (headSpec wmX11_repair ({ frames := 3, cells := 0, slots := 0, locals := 66 } : Room)).room s m args below meth c H locs 0 0 (MQ below (mQl D dA A y) args s 0 0 (gA mLive A)) (F0 m 333 ls []) := by
                    intro M30 H locs ls Z hl h
                    rw [eJ333] at h
                    try dsimp only at h
                    refine lv_aload_n hx hb dX11_repair_333 rfl (lv_at hl 0 rfl) ?_
                    refine lv_iload_n hx hb dX11_repair_334 rfl (lv_at hl 1 rfl) ?_
                    obtain ⟨M32, hc31, h⟩ := o1_e h
                    refine g_Vv (As := [.int a2]) (rest := []) S X Z mlv_o rfl rfl (t_X11_phases l D dA A hJ  hc31) (cwV 1 hts (mGV (mB 199 rfl) (mB 200 rfl) (mB 201 rfl) (mB 63 rfl) (mB 186 rfl)) rfl rfl rfl (by decide +kernel) ⟨Nat.le_of_ble_eq_true rfl, Nat.le_of_ble_eq_true rfl⟩) rfl hl.1 rfl (Nat.le_of_ble_eq_true rfl) dX11_repair_335 ⟨Nat.zero_le _, Nat.zero_le _⟩ (fun H locs Z => ?_)
                    refine lv_aload_n hx hb dX11_repair_338 rfl (lv_at hl 0 rfl) ?_
                    refine lv_iload_n hx hb dX11_repair_339 rfl (lv_at hl 1 rfl) ?_
                    refine lv_aload_n hx hb dX11_repair_340 rfl (lv_at hl 0 rfl) ?_
                    refine mr_set S X Z hin hl_289 dX11_repair_341 h (fun v33 h => ?_)
                    refine lv_iconst (v := (-1 : Int32)) hx hb dX11_repair_344 (by decide) ?_
                    obtain ⟨M35, hc34, h⟩ := o1_e h
                    refine g_Vv (As := [.int a2, .int v33, .int (-1 : Int32)]) (rest := []) S X Z mlv_o rfl rfl (t_X11_endPromises l D dA A hJ  hc34) (cwV 3 hts (mGV (mB 211 rfl) (mB 212 rfl) (mB 213 rfl) (mB 63 rfl) (mB 196 rfl)) rfl rfl rfl (by decide +kernel) ⟨Nat.le_of_ble_eq_true rfl, Nat.le_of_ble_eq_true rfl⟩) rfl hl.1 rfl (Nat.le_of_ble_eq_true rfl) dX11_repair_345 ⟨Nat.zero_le _, Nat.zero_le _⟩ (fun H locs Z => ?_)
                    refine lv_aload_n hx hb dX11_repair_348 rfl (lv_at hl 0 rfl) ?_
                    refine mr_set S X Z hin hl_289 dX11_repair_349 h (fun v36 h => ?_)
                    obtain ⟨v38, hc37, h⟩ := o1_e h
                    refine g_Si (As := [.int v36]) (rest := []) S X Z (t_X11_manyOf l D dA A hJ  hc37) (va_cwS 1 hts (mGS (mB 237 rfl) (mB 238 rfl) (mB 63 rfl) (mB 79 rfl)) rfl rfl rfl (by decide +kernel) ⟨Nat.le_of_ble_eq_true rfl, Nat.le_of_ble_eq_true rfl⟩) rfl hl.1 rfl (Nat.le_of_ble_eq_true rfl) dX11_repair_352 ⟨Nat.zero_le _, Nat.zero_le _⟩ (fun H locs Z => ?_)
                    refine lv_i2l hx hb dX11_repair_355 rfl ?_
                    have hy := Option.some.inj h
                    subst hy
                    exact g_rl S Z hr hlocks dX11_repair_356
                  have hL231 : ∀ (n : Nat) (x39 : Int32) (M40 : gM) (H : Heap) (locs : List Loc) (ls : Array Slot), gZ D mLay dA mLive A (gA mLive A) s.heap M40 H locs → lv_has ls 13 [(0, .ref (A m_o)), (2, .int a2), (6, .int v15), (9, .int v25), (10, .int v26), (11, .int x39)] → f_X11_repair_L231 a2 v15 v25 v26 J333 n x39 M40 = some y → W p l e (headSpec wmX11_repair ({ frames := 3, cells := 0, slots := 0, locals := 66 } : Room)).room s m args below meth c H locs 0 0 (MQ below (mQl D dA A y) args s 0 0 (gA mLive A)) (F0 m 231 ls []) := by
                    intro n
                    induction n with
                    | zero =>
                      intro x39 M40 H locs ls Z hl h
                      rw [f_X11_repair_L231] at h
                      cases h
                    | succ n41 ih231 =>
                      intro x39 M40 H locs ls Z hl h
                      rw [f_X11_repair_L231] at h
                      refine lv_iload hx hb dX11_repair_231 (lv_at hl 5 rfl) ?_
                      refine lv_aload_n hx hb dX11_repair_233 rfl (lv_at hl 0 rfl) ?_
                      refine mr_servers S X Z hin hl_155 dX11_repair_234 h (fun v42 h => ?_)
                      refine lv_icmp_ge (tgt := 333) hx hb dX11_repair_237 (by decide) (fun c43 => ?_) (fun c43 => ?_)
                      · have h := if_t c43 h
                        exact hJ333 M40 _ _ _ Z (lv_sub hl [0, 1] rfl) h
                      · have h := if_f c43 h
                        refine lv_bipush (v := (48 : Int32)) hx hb dX11_repair_240 (by decide) ?_
                        refine lv_iload hx hb dX11_repair_242 (lv_at hl 5 rfl) ?_
                        refine lv_imul hx hb dX11_repair_244 ?_
                        refine lv_iload_n hx hb dX11_repair_245 rfl (lv_at hl 1 rfl) ?_
                        refine lv_iadd hx hb dX11_repair_246 ?_
                        refine g_topi h (fun x44 h => ?_)
                        refine lv_istore (lv' := [(12, .int x44), (0, .ref (A m_o)), (2, .int a2), (6, .int v15), (9, .int v25), (10, .int v26), (11, .int x39)]) hx hb dX11_repair_247 hl (by decide) rfl (fun ls hl => ?_)
                        refine lv_iload hx hb dX11_repair_249 (lv_at hl 3 rfl) ?_
                        refine lv_iload hx hb dX11_repair_251 (lv_at hl 6 rfl) ?_
                        refine lv_ishr hx hb dX11_repair_253 ?_
                        refine lv_iconst (v := (1 : Int32)) hx hb dX11_repair_254 (by decide) ?_
                        refine lv_iand hx hb dX11_repair_255 ?_
                        refine lv_iconst (v := (1 : Int32)) hx hb dX11_repair_256 (by decide) ?_
                        obtain ⟨J327, eJ327, h⟩ := jn_e h
                        have hJ327 : ∀ (M45 : gM) (H : Heap) (locs : List Loc) (ls : Array Slot), gZ D mLay dA mLive A (gA mLive A) s.heap M45 H locs → lv_has ls 13 [(0, .ref (A m_o)), (2, .int a2), (6, .int v15), (9, .int v25), (10, .int v26), (11, .int x39)] → J327 M45 = some y → W p l e (headSpec wmX11_repair ({ frames := 3, cells := 0, slots := 0, locals := 66 } : Room)).room s m args below meth c H locs 0 0 (MQ below (mQl D dA A y) args s 0 0 (gA mLive A)) (F0 m 327 ls []) := by
                          intro M45 H locs ls Z hl h
                          rw [eJ327] at h
                          try dsimp only at h
                          obtain ⟨x46, ex46, h⟩ := lt_e h
                          refine lv_iinc (v := x46) (lv' := [(11, .int x46), (0, .ref (A m_o)), (2, .int a2), (6, .int v15), (9, .int v25), (10, .int v26)]) hx hb dX11_repair_327 hl (k := 5) rfl (by rw [ex46]; rfl) (by decide) rfl (fun ls hl => ?_)
                          refine lv_goto (tgt := 231) hx hb dX11_repair_330 (by decide) ?_
                          exact ih231 x46 M45 _ _ _ Z (lv_sub hl [1, 2, 3, 4, 5, 0] rfl) h
                        refine lv_icmp_ne (tgt := 327) hx hb dX11_repair_257 (by decide) (fun c47 => ?_) (fun c47 => ?_)
                        · have h := if_f c47 h
                          exact hJ327 M40 _ _ _ Z (lv_sub hl [1, 2, 3, 4, 5, 6] rfl) h
                        · have h := if_t c47 h
                          refine lv_aload_n hx hb dX11_repair_260 rfl (lv_at hl 1 rfl) ?_
                          refine mr_has S X Z hin hl_32 dX11_repair_261 ?_
                          refine lv_iload hx hb dX11_repair_264 (lv_at hl 0 rfl) ?_
                          refine g_zald S X Z ml_has rfl dX11_repair_266 h (fun v48 h => ?_)
                          refine lv_if_eq (tgt := 327) hx hb dX11_repair_267 (by decide) (fun c49 => ?_) (fun c49 => ?_)
                          · have h := if_t c49 h
                            exact hJ327 M40 _ _ _ Z (lv_sub hl [1, 2, 3, 4, 5, 6] rfl) h
                          · have h := if_f c49 h
                            refine lv_aload_n hx hb dX11_repair_270 rfl (lv_at hl 1 rfl) ?_
                            refine lv_aload_n hx hb dX11_repair_271 rfl (lv_at hl 1 rfl) ?_
                            refine mr_vector S X Z hin hl_41 dX11_repair_272 ?_
                            refine lv_iload hx hb dX11_repair_275 (lv_at hl 0 rfl) ?_
                            refine lv_aload_n hx hb dX11_repair_277 rfl (lv_at hl 1 rfl) ?_
                            refine mr_row S X Z hin hl_125 dX11_repair_278 ?_
                            refine lv_iconst (v := (0 : Int32)) hx hb dX11_repair_281 (by decide) ?_
                            obtain ⟨v51, hc50, h⟩ := o1_e h
                            refine g_Vi (As := [.ref (A m_vector), .int x44, .ref (A m_row), .int (0 : Int32)]) (rest := []) S X Z mlv_o rfl rfl (t_X11_isSame l D dA A hJ ⟨ml_vector, rfl⟩ ⟨ml_row, rfl⟩ hc50) (cwV 4 hts (mGV (mB 150 rfl) (mB 151 rfl) (mB 152 rfl) (mB 63 rfl) (mB 96 rfl)) rfl rfl rfl (by decide +kernel) ⟨Nat.le_of_ble_eq_true rfl, Nat.le_of_ble_eq_true rfl⟩) rfl hl.1 rfl (Nat.le_of_ble_eq_true rfl) dX11_repair_282 ⟨Nat.zero_le _, Nat.zero_le _⟩ (fun H locs Z => ?_)
                            refine lv_if_eq (tgt := 327) hx hb dX11_repair_285 (by decide) (fun c52 => ?_) (fun c52 => ?_)
                            · have h := if_t c52 h
                              exact hJ327 M40 _ _ _ Z (lv_sub hl [1, 2, 3, 4, 5, 6] rfl) h
                            · have h := if_f c52 h
                              refine lv_aload_n hx hb dX11_repair_288 rfl (lv_at hl 1 rfl) ?_
                              refine lv_aload_n hx hb dX11_repair_289 rfl (lv_at hl 1 rfl) ?_
                              refine mr_set S X Z hin hl_289 dX11_repair_290 h (fun v53 h => ?_)
                              refine lv_iconst (v := (1 : Int32)) hx hb dX11_repair_293 (by decide) ?_
                              refine lv_iload hx hb dX11_repair_294 (lv_at hl 6 rfl) ?_
                              refine lv_ishl hx hb dX11_repair_296 ?_
                              refine lv_ior hx hb dX11_repair_297 ?_
                              refine mp_set S X Z hin hl_289 dX11_repair_298 h (fun M54 H locs Z h => ?_)
                              refine lv_aload_n hx hb dX11_repair_301 rfl (lv_at hl 1 rfl) ?_
                              refine mr_value S X Z hin hl_35 dX11_repair_302 ?_
                              refine lv_iload hx hb dX11_repair_305 (lv_at hl 0 rfl) ?_
                              refine lv_iload hx hb dX11_repair_307 (lv_at hl 4 rfl) ?_
                              refine g_iast S X Z ml_value rfl dX11_repair_309 h (fun M55 H locs Z h => ?_)
                              refine lv_aload_n hx hb dX11_repair_310 rfl (lv_at hl 1 rfl) ?_
                              refine mr_size S X Z hin hl_38 dX11_repair_311 ?_
                              refine lv_iload hx hb dX11_repair_314 (lv_at hl 0 rfl) ?_
                              refine lv_iload hx hb dX11_repair_316 (lv_at hl 5 rfl) ?_
                              refine g_iast S X Z ml_size rfl dX11_repair_318 h (fun M56 H locs Z h => ?_)
                              refine lv_aload_n hx hb dX11_repair_319 rfl (lv_at hl 1 rfl) ?_
                              refine mr_versions S X Z hin hl_44 dX11_repair_320 ?_
                              refine lv_iload hx hb dX11_repair_323 (lv_at hl 0 rfl) ?_
                              refine lv_iconst (v := (0 : Int32)) hx hb dX11_repair_325 (by decide) ?_
                              refine g_iast S X Z ml_versions rfl dX11_repair_326 h (fun M57 H locs Z h => ?_)
                              exact hJ327 M57 _ _ _ Z (lv_sub hl [1, 2, 3, 4, 5, 6] rfl) h
                  exact hL231 100 (0 : Int32) M29 _ _ _ Z (lv_sub hl [4, 5, 7, 2, 1, 0] rfl) h
                · have h := if_f c23 h
                  refine lv_ldc2 hx hb hown hc_172 dX11_repair_167 ?_
                  have hy := Option.some.inj h
                  subst hy
                  exact g_rl S Z hr hlocks dX11_repair_170
          have hL80 : ∀ (n : Nat) (x58 : Int32) (x59 : Int32) (M60 : gM) (H : Heap) (locs : List Loc) (ls : Array Slot), gZ D mLay dA mLive A (gA mLive A) s.heap M60 H locs → lv_has ls 13 [(0, .ref (A m_o)), (2, .int a2), (3, .int a3), (6, .int v15), (7, .int x58), (8, .int x59)] → f_X11_repair_L80 a2 a3 v15 J141 n x58 x59 M60 = some y → W p l e (headSpec wmX11_repair ({ frames := 3, cells := 0, slots := 0, locals := 66 } : Room)).room s m args below meth c H locs 0 0 (MQ below (mQl D dA A y) args s 0 0 (gA mLive A)) (F0 m 80 ls []) := by
            intro n
            induction n with
            | zero =>
              intro x58 x59 M60 H locs ls Z hl h
              rw [f_X11_repair_L80] at h
              cases h
            | succ n61 ih80 =>
              intro x58 x59 M60 H locs ls Z hl h
              rw [f_X11_repair_L80] at h
              refine lv_iload hx hb dX11_repair_80 (lv_at hl 5 rfl) ?_
              refine lv_if_lt (tgt := 141) hx hb dX11_repair_82 (by decide) (fun c62 => ?_) (fun c62 => ?_)
              · have h := if_t c62 h
                exact hJ141 x58 M60 _ _ _ Z (lv_sub hl [0, 1, 2, 3, 4] rfl) h
              · have h := if_f c62 h
                refine lv_iload hx hb dX11_repair_85 (lv_at hl 3 rfl) ?_
                refine lv_iload hx hb dX11_repair_87 (lv_at hl 5 rfl) ?_
                refine lv_ishr hx hb dX11_repair_89 ?_
                refine lv_iconst (v := (1 : Int32)) hx hb dX11_repair_90 (by decide) ?_
                refine lv_iand hx hb dX11_repair_91 ?_
                refine lv_iconst (v := (1 : Int32)) hx hb dX11_repair_92 (by decide) ?_
                obtain ⟨J133, eJ133, h⟩ := jn_e h
                have hJ133 : ∀ (b63 : Int32) (M64 : gM) (H : Heap) (locs : List Loc) (ls : Array Slot), gZ D mLay dA mLive A (gA mLive A) s.heap M64 H locs → lv_has ls 13 [(0, .ref (A m_o)), (2, .int a2), (3, .int a3), (6, .int v15), (8, .int x59)] → J133 (b63, M64) = some y → W p l e (headSpec wmX11_repair ({ frames := 3, cells := 0, slots := 0, locals := 66 } : Room)).room s m args below meth c H locs 0 0 (MQ below (mQl D dA A y) args s 0 0 (gA mLive A)) (F0 m 133 ls [.int b63]) := by
                  intro b63 M64 H locs ls Z hl h
                  rw [eJ133] at h
                  try dsimp only at h
                  refine lv_istore (lv' := [(7, .int b63), (0, .ref (A m_o)), (2, .int a2), (3, .int a3), (6, .int v15), (8, .int x59)]) hx hb dX11_repair_133 hl (by decide) rfl (fun ls hl => ?_)
                  obtain ⟨x65, ex65, h⟩ := lt_e h
                  refine lv_iinc (v := x65) (lv' := [(8, .int x65), (7, .int b63), (0, .ref (A m_o)), (2, .int a2), (3, .int a3), (6, .int v15)]) hx hb dX11_repair_135 hl (k := 5) rfl (by rw [ex65]; rfl) (by decide) rfl (fun ls hl => ?_)
                  refine lv_goto (tgt := 80) hx hb dX11_repair_138 (by decide) ?_
                  exact ih80 b63 x65 M64 _ _ _ Z (lv_sub hl [2, 3, 4, 5, 1, 0] rfl) h
                obtain ⟨J131, eJ131, h⟩ := jn_e h
                have hJ131 : ∀ (M66 : gM) (H : Heap) (locs : List Loc) (ls : Array Slot), gZ D mLay dA mLive A (gA mLive A) s.heap M66 H locs → lv_has ls 13 [(0, .ref (A m_o)), (2, .int a2), (3, .int a3), (6, .int v15), (7, .int x58), (8, .int x59)] → J131 M66 = some y → W p l e (headSpec wmX11_repair ({ frames := 3, cells := 0, slots := 0, locals := 66 } : Room)).room s m args below meth c H locs 0 0 (MQ below (mQl D dA A y) args s 0 0 (gA mLive A)) (F0 m 131 ls []) := by
                  intro M66 H locs ls Z hl h
                  rw [eJ131] at h
                  try dsimp only at h
                  refine lv_iload hx hb dX11_repair_131 (lv_at hl 4 rfl) ?_
                  exact hJ133 x58 M66 _ _ _ Z (lv_sub hl [0, 1, 2, 3, 5] rfl) h
                refine lv_icmp_ne (tgt := 131) hx hb dX11_repair_93 (by decide) (fun c67 => ?_) (fun c67 => ?_)
                · have h := if_f c67 h
                  exact hJ131 M60 _ _ _ Z (lv_sub hl [0, 1, 2, 3, 4, 5] rfl) h
                · have h := if_t c67 h
                  refine lv_aload_n hx hb dX11_repair_96 rfl (lv_at hl 0 rfl) ?_
                  refine mr_has S X Z hin hl_32 dX11_repair_97 ?_
                  refine lv_bipush (v := (48 : Int32)) hx hb dX11_repair_100 (by decide) ?_
                  refine lv_iload hx hb dX11_repair_102 (lv_at hl 5 rfl) ?_
                  refine lv_imul hx hb dX11_repair_104 ?_
                  refine lv_iload_n hx hb dX11_repair_105 rfl (lv_at hl 1 rfl) ?_
                  refine lv_iadd hx hb dX11_repair_106 ?_
                  refine g_zald S X Z ml_has rfl dX11_repair_107 h (fun v68 h => ?_)
                  refine lv_if_eq (tgt := 131) hx hb dX11_repair_108 (by decide) (fun c69 => ?_) (fun c69 => ?_)
                  · have h := if_t c69 h
                    exact hJ131 M60 _ _ _ Z (lv_sub hl [0, 1, 2, 3, 4, 5] rfl) h
                  · have h := if_f c69 h
                    refine lv_aload_n hx hb dX11_repair_111 rfl (lv_at hl 0 rfl) ?_
                    refine mr_versions S X Z hin hl_44 dX11_repair_112 ?_
                    refine lv_bipush (v := (48 : Int32)) hx hb dX11_repair_115 (by decide) ?_
                    refine lv_iload hx hb dX11_repair_117 (lv_at hl 5 rfl) ?_
                    refine lv_imul hx hb dX11_repair_119 ?_
                    refine lv_iload_n hx hb dX11_repair_120 rfl (lv_at hl 1 rfl) ?_
                    refine lv_iadd hx hb dX11_repair_121 ?_
                    refine g_iald S X Z ml_versions rfl dX11_repair_122 h (fun v70 h => ?_)
                    refine lv_if_le (tgt := 131) hx hb dX11_repair_123 (by decide) (fun c71 => ?_) (fun c71 => ?_)
                    · have h := if_t c71 h
                      exact hJ131 M60 _ _ _ Z (lv_sub hl [0, 1, 2, 3, 4, 5] rfl) h
                    · have h := if_f c71 h
                      refine lv_iload hx hb dX11_repair_126 (lv_at hl 5 rfl) ?_
                      refine lv_goto (tgt := 133) hx hb dX11_repair_128 (by decide) ?_
                      exact hJ133 x59 M60 _ _ _ Z (lv_sub hl [0, 1, 2, 3, 5] rfl) h
          exact hL80 100 (-1 : Int32) x17 M5 _ _ _ Z (lv_sub hl [4, 6, 7, 2, 1, 0] rfl) h
        · have h := if_f c13 h
          refine lv_ldc2 hx hb hown hc_371 dX11_repair_58 ?_
          have hy := Option.some.inj h
          subst hy
          exact g_rl S Z hr hlocks dX11_repair_61
      · have h := if_f c10 h
        refine lv_lload hx hb dX11_repair_47 (lv_at hl 0 rfl) ?_
        have hy := Option.some.inj h
        subst hy
        exact g_rl S Z hr hlocks dX11_repair_49
    · have h := if_f c7 h
      refine lv_lconst (v := (0 : Int64)) hx hb dX11_repair_30 (by decide) ?_
      have hy := Option.some.inj h
      subst hy
      exact g_rl S Z hr hlocks dX11_repair_31
  obtain ⟨J19, eJ19, h⟩ := jn_e h
  have hJ19 : ∀ (M72 : gM) (H : Heap) (locs : List Loc) (ls : Array Slot), gZ D mLay dA mLive A (gA mLive A) s.heap M72 H locs → lv_has ls 13 [(0, .ref (A m_o)), (1, .int a1), (2, .int a2), (3, .int a3)] → J19 M72 = some y → W p l e (headSpec wmX11_repair ({ frames := 3, cells := 0, slots := 0, locals := 66 } : Room)).room s m args below meth c H locs 0 0 (MQ below (mQl D dA A y) args s 0 0 (gA mLive A)) (F0 m 19 ls [.ref (A m_o)]) := by
    intro M72 H locs ls Z hl h
    rw [eJ19] at h
    try dsimp only at h
    refine lv_iconst (v := (1 : Int32)) hx hb dX11_repair_19 (by decide) ?_
    exact hJ20 (1 : Int32) M72 _ _ _ Z (lv_sub hl [0, 1, 2, 3] rfl) h
  refine lv_if_eq (tgt := 19) hx hb dX11_repair_5 (by decide) (fun c73 => ?_) (fun c73 => ?_)
  · have h := if_t c73 h
    exact hJ19 M _ _ _ Z (lv_sub hl [0, 1, 2, 3] rfl) h
  · have h := if_f c73 h
    refine lv_iload_n hx hb dX11_repair_8 rfl (lv_at hl 2 rfl) ?_
    obtain ⟨v75, hc74, h⟩ := o1_e h
    refine g_Si (As := [.int a2]) (rest := [.ref (A m_o)]) S X Z (t_X11_isObject l D dA A hJ  hc74) (va_cwS 1 hts (mGS (mB 93 rfl) (mB 94 rfl) (mB 63 rfl) (mB 65 rfl)) rfl rfl rfl (by decide +kernel) ⟨Nat.le_of_ble_eq_true rfl, Nat.le_of_ble_eq_true rfl⟩) rfl hl.1 rfl (Nat.le_of_ble_eq_true rfl) dX11_repair_9 ⟨Nat.zero_le _, Nat.zero_le _⟩ (fun H locs Z => ?_)
    refine lv_if_eq (tgt := 19) hx hb dX11_repair_12 (by decide) (fun c76 => ?_) (fun c76 => ?_)
    · have h := if_t c76 h
      exact hJ19 M _ _ _ Z (lv_sub hl [0, 1, 2, 3] rfl) h
    · have h := if_f c76 h
      refine lv_iconst (v := (0 : Int32)) hx hb dX11_repair_15 (by decide) ?_
      refine lv_goto (tgt := 20) hx hb dX11_repair_16 (by decide) ?_
      exact hJ20 (0 : Int32) M _ _ _ Z (lv_sub hl [0, 1, 2, 3] rfl) h
-- X11_copy (III)J: 112 instructions
theorem dX11_copy_0 : decode cX11_copy 0 = .ok (.aload_n 0, 1) := by decide +kernel
theorem dX11_copy_1 : decode cX11_copy 1 = .ok (.aload_n 0, 1) := by decide +kernel
theorem dX11_copy_2 : decode cX11_copy 2 = .ok (.iload_n 1, 1) := by decide +kernel
theorem dX11_copy_3 : decode cX11_copy 3 = .ok (.invokevirtual 184, 3) := by decide +kernel
theorem dX11_copy_6 : decode cX11_copy 6 = .ok (.ifCond .eq 23, 3) := by decide +kernel
theorem dX11_copy_9 : decode cX11_copy 9 = .ok (.iload_n 2, 1) := by decide +kernel
theorem dX11_copy_10 : decode cX11_copy 10 = .ok (.invokestatic 194, 3) := by decide +kernel
theorem dX11_copy_13 : decode cX11_copy 13 = .ok (.ifCond .eq 16, 3) := by decide +kernel
theorem dX11_copy_16 : decode cX11_copy 16 = .ok (.iload_n 3, 1) := by decide +kernel
theorem dX11_copy_17 : decode cX11_copy 17 = .ok (.iconst 0, 1) := by decide +kernel
theorem dX11_copy_18 : decode cX11_copy 18 = .ok (.iconst 4, 1) := by decide +kernel
theorem dX11_copy_19 : decode cX11_copy 19 = .ok (.invokestatic 168, 3) := by decide +kernel
theorem dX11_copy_22 : decode cX11_copy 22 = .ok (.ifCond .eq 7, 3) := by decide +kernel
theorem dX11_copy_25 : decode cX11_copy 25 = .ok (.iconst 0, 1) := by decide +kernel
theorem dX11_copy_26 : decode cX11_copy 26 = .ok (.goto 4, 3) := by decide +kernel
theorem dX11_copy_29 : decode cX11_copy 29 = .ok (.iconst 1, 1) := by decide +kernel
theorem dX11_copy_30 : decode cX11_copy 30 = .ok (.putfield 165, 3) := by decide +kernel
theorem dX11_copy_33 : decode cX11_copy 33 = .ok (.aload_n 0, 1) := by decide +kernel
theorem dX11_copy_34 : decode cX11_copy 34 = .ok (.getfield 165, 3) := by decide +kernel
theorem dX11_copy_37 : decode cX11_copy 37 = .ok (.ifCond .le 5, 3) := by decide +kernel
theorem dX11_copy_40 : decode cX11_copy 40 = .ok (.lconst 0, 1) := by decide +kernel
theorem dX11_copy_41 : decode cX11_copy 41 = .ok (.lreturn, 1) := by decide +kernel
theorem dX11_copy_42 : decode cX11_copy 42 = .ok (.bipush 48, 2) := by decide +kernel
theorem dX11_copy_44 : decode cX11_copy 44 = .ok (.iload_n 1, 1) := by decide +kernel
theorem dX11_copy_45 : decode cX11_copy 45 = .ok (.imul, 1) := by decide +kernel
theorem dX11_copy_46 : decode cX11_copy 46 = .ok (.iload_n 2, 1) := by decide +kernel
theorem dX11_copy_47 : decode cX11_copy 47 = .ok (.iadd, 1) := by decide +kernel
theorem dX11_copy_48 : decode cX11_copy 48 = .ok (.istore 4, 2) := by decide +kernel
theorem dX11_copy_50 : decode cX11_copy 50 = .ok (.aload_n 0, 1) := by decide +kernel
theorem dX11_copy_51 : decode cX11_copy 51 = .ok (.getfield 32, 3) := by decide +kernel
theorem dX11_copy_54 : decode cX11_copy 54 = .ok (.iload 4, 2) := by decide +kernel
theorem dX11_copy_56 : decode cX11_copy 56 = .ok (.baload, 1) := by decide +kernel
theorem dX11_copy_57 : decode cX11_copy 57 = .ok (.ifCond .ne 7, 3) := by decide +kernel
theorem dX11_copy_60 : decode cX11_copy 60 = .ok (.ldc2_w 172, 3) := by decide +kernel
theorem dX11_copy_63 : decode cX11_copy 63 = .ok (.lreturn, 1) := by decide +kernel
theorem dX11_copy_64 : decode cX11_copy 64 = .ok (.iload_n 3, 1) := by decide +kernel
theorem dX11_copy_65 : decode cX11_copy 65 = .ok (.iconst 3, 1) := by decide +kernel
theorem dX11_copy_66 : decode cX11_copy 66 = .ok (.if_icmp .ge 56, 3) := by decide +kernel
theorem dX11_copy_69 : decode cX11_copy 69 = .ok (.aload_n 0, 1) := by decide +kernel
theorem dX11_copy_70 : decode cX11_copy 70 = .ok (.getfield 29, 3) := by decide +kernel
theorem dX11_copy_73 : decode cX11_copy 73 = .ok (.iload_n 2, 1) := by decide +kernel
theorem dX11_copy_74 : decode cX11_copy 74 = .ok (.baload, 1) := by decide +kernel
theorem dX11_copy_75 : decode cX11_copy 75 = .ok (.ifCond .eq 7, 3) := by decide +kernel
theorem dX11_copy_78 : decode cX11_copy 78 = .ok (.lconst 0, 1) := by decide +kernel
theorem dX11_copy_79 : decode cX11_copy 79 = .ok (.goto 42, 3) := by decide +kernel
theorem dX11_copy_82 : decode cX11_copy 82 = .ok (.iload_n 3, 1) := by decide +kernel
theorem dX11_copy_83 : decode cX11_copy 83 = .ok (.ifCond .ne 14, 3) := by decide +kernel
theorem dX11_copy_86 : decode cX11_copy 86 = .ok (.aload_n 0, 1) := by decide +kernel
theorem dX11_copy_87 : decode cX11_copy 87 = .ok (.getfield 35, 3) := by decide +kernel
theorem dX11_copy_90 : decode cX11_copy 90 = .ok (.iload 4, 2) := by decide +kernel
theorem dX11_copy_92 : decode cX11_copy 92 = .ok (.iaload, 1) := by decide +kernel
theorem dX11_copy_93 : decode cX11_copy 93 = .ok (.i2l, 1) := by decide +kernel
theorem dX11_copy_94 : decode cX11_copy 94 = .ok (.goto 27, 3) := by decide +kernel
theorem dX11_copy_97 : decode cX11_copy 97 = .ok (.iload_n 3, 1) := by decide +kernel
theorem dX11_copy_98 : decode cX11_copy 98 = .ok (.iconst 1, 1) := by decide +kernel
theorem dX11_copy_99 : decode cX11_copy 99 = .ok (.if_icmp .ne 14, 3) := by decide +kernel
theorem dX11_copy_102 : decode cX11_copy 102 = .ok (.aload_n 0, 1) := by decide +kernel
theorem dX11_copy_103 : decode cX11_copy 103 = .ok (.getfield 38, 3) := by decide +kernel
theorem dX11_copy_106 : decode cX11_copy 106 = .ok (.iload 4, 2) := by decide +kernel
theorem dX11_copy_108 : decode cX11_copy 108 = .ok (.iaload, 1) := by decide +kernel
theorem dX11_copy_109 : decode cX11_copy 109 = .ok (.i2l, 1) := by decide +kernel
theorem dX11_copy_110 : decode cX11_copy 110 = .ok (.goto 11, 3) := by decide +kernel
theorem dX11_copy_113 : decode cX11_copy 113 = .ok (.aload_n 0, 1) := by decide +kernel
theorem dX11_copy_114 : decode cX11_copy 114 = .ok (.getfield 44, 3) := by decide +kernel
theorem dX11_copy_117 : decode cX11_copy 117 = .ok (.iload 4, 2) := by decide +kernel
theorem dX11_copy_119 : decode cX11_copy 119 = .ok (.iaload, 1) := by decide +kernel
theorem dX11_copy_120 : decode cX11_copy 120 = .ok (.i2l, 1) := by decide +kernel
theorem dX11_copy_121 : decode cX11_copy 121 = .ok (.lreturn, 1) := by decide +kernel
theorem dX11_copy_122 : decode cX11_copy 122 = .ok (.iconst 0, 1) := by decide +kernel
theorem dX11_copy_123 : decode cX11_copy 123 = .ok (.istore 5, 2) := by decide +kernel
theorem dX11_copy_125 : decode cX11_copy 125 = .ok (.iconst 1, 1) := by decide +kernel
theorem dX11_copy_126 : decode cX11_copy 126 = .ok (.istore 6, 2) := by decide +kernel
theorem dX11_copy_128 : decode cX11_copy 128 = .ok (.iload 6, 2) := by decide +kernel
theorem dX11_copy_130 : decode cX11_copy 130 = .ok (.aload_n 0, 1) := by decide +kernel
theorem dX11_copy_131 : decode cX11_copy 131 = .ok (.getfield 162, 3) := by decide +kernel
theorem dX11_copy_134 : decode cX11_copy 134 = .ok (.if_icmp .ge 65, 3) := by decide +kernel
theorem dX11_copy_137 : decode cX11_copy 137 = .ok (.aload_n 0, 1) := by decide +kernel
theorem dX11_copy_138 : decode cX11_copy 138 = .ok (.iload 6, 2) := by decide +kernel
theorem dX11_copy_140 : decode cX11_copy 140 = .ok (.iload_n 2, 1) := by decide +kernel
theorem dX11_copy_141 : decode cX11_copy 141 = .ok (.invokevirtual 197, 3) := by decide +kernel
theorem dX11_copy_144 : decode cX11_copy 144 = .ok (.ifCond .eq 18, 3) := by decide +kernel
theorem dX11_copy_147 : decode cX11_copy 147 = .ok (.aload_n 0, 1) := by decide +kernel
theorem dX11_copy_148 : decode cX11_copy 148 = .ok (.getfield 56, 3) := by decide +kernel
theorem dX11_copy_151 : decode cX11_copy 151 = .ok (.bipush 48, 2) := by decide +kernel
theorem dX11_copy_153 : decode cX11_copy 153 = .ok (.iload_n 1, 1) := by decide +kernel
theorem dX11_copy_154 : decode cX11_copy 154 = .ok (.imul, 1) := by decide +kernel
theorem dX11_copy_155 : decode cX11_copy 155 = .ok (.iload 6, 2) := by decide +kernel
theorem dX11_copy_157 : decode cX11_copy 157 = .ok (.iadd, 1) := by decide +kernel
theorem dX11_copy_158 : decode cX11_copy 158 = .ok (.iaload, 1) := by decide +kernel
theorem dX11_copy_159 : decode cX11_copy 159 = .ok (.goto 4, 3) := by decide +kernel
theorem dX11_copy_162 : decode cX11_copy 162 = .ok (.iconst 0, 1) := by decide +kernel
theorem dX11_copy_163 : decode cX11_copy 163 = .ok (.istore 7, 2) := by decide +kernel
theorem dX11_copy_165 : decode cX11_copy 165 = .ok (.iload 7, 2) := by decide +kernel
theorem dX11_copy_167 : decode cX11_copy 167 = .ok (.iconst 1, 1) := by decide +kernel
theorem dX11_copy_168 : decode cX11_copy 168 = .ok (.if_icmp .eq 14, 3) := by decide +kernel
theorem dX11_copy_171 : decode cX11_copy 171 = .ok (.iload 7, 2) := by decide +kernel
theorem dX11_copy_173 : decode cX11_copy 173 = .ok (.iconst 2, 1) := by decide +kernel
theorem dX11_copy_174 : decode cX11_copy 174 = .ok (.if_icmp .ne 15, 3) := by decide +kernel
theorem dX11_copy_177 : decode cX11_copy 177 = .ok (.iload_n 3, 1) := by decide +kernel
theorem dX11_copy_178 : decode cX11_copy 178 = .ok (.iconst 3, 1) := by decide +kernel
theorem dX11_copy_179 : decode cX11_copy 179 = .ok (.if_icmp .ne 10, 3) := by decide +kernel
theorem dX11_copy_182 : decode cX11_copy 182 = .ok (.iload 5, 2) := by decide +kernel
theorem dX11_copy_184 : decode cX11_copy 184 = .ok (.iconst 1, 1) := by decide +kernel
theorem dX11_copy_185 : decode cX11_copy 185 = .ok (.iadd, 1) := by decide +kernel
theorem dX11_copy_186 : decode cX11_copy 186 = .ok (.goto 5, 3) := by decide +kernel
theorem dX11_copy_189 : decode cX11_copy 189 = .ok (.iload 5, 2) := by decide +kernel
theorem dX11_copy_191 : decode cX11_copy 191 = .ok (.istore 5, 2) := by decide +kernel
theorem dX11_copy_193 : decode cX11_copy 193 = .ok (.iinc 6 1, 3) := by decide +kernel
theorem dX11_copy_196 : decode cX11_copy 196 = .ok (.goto (-68), 3) := by decide +kernel
theorem dX11_copy_199 : decode cX11_copy 199 = .ok (.iload 5, 2) := by decide +kernel
theorem dX11_copy_201 : decode cX11_copy 201 = .ok (.i2l, 1) := by decide +kernel
theorem dX11_copy_202 : decode cX11_copy 202 = .ok (.lreturn, 1) := by decide +kernel
abbrev wmX11_copy : List Cond := .code yX11_copy cX11_copy 8 (some .long) :: mBig
def f_X11_copy_L128 (a1 : Int32) (a2 : Int32) (a3 : Int32) : Nat → Int32 → Int32 → gM → Option (Int64 × gM)
  | 0, _, _, _ => none
  | n15 + 1, x12, x13, M14 => lt (M14 m_o 6) (fun v16 => (if v16 ≤ x13 then some (x12.toInt64, M14) else o1 (f_X11_isChild M14 x13 a2) (fun v19 => jn (fun (q : (Int32 × gM)) => match q with | (b20, M21) => jn (fun (q : (Int32 × gM)) => match q with | (b22, M23) => lt (x13 + 1) (fun x24 => f_X11_copy_L128 a1 a2 a3 n15 b22 x24 M23)) (fun J191 => jn (fun (M25 : gM) => J191 ((x12 + (1 : Int32)), M25)) (fun J182 => (if b20 = (1 : Int32) then J182 M21 else jn (fun (M27 : gM) => J191 (x12, M27)) (fun J189 => (if b20 = (2 : Int32) then (if a3 = (3 : Int32) then J182 M21 else J189 M21) else J189 M21)))))) (fun J163 => (if v19 = 0 then J163 ((0 : Int32), M14) else rd M14 m_entry 192 (((48 : Int32) * a1) + x13) (fun v31 => J163 (v31, M14)))))))
def f_X11_copy (M : gM) (a1 : Int32) (a2 : Int32) (a3 : Int32) : Option (Int64 × gM) :=
  o1 (f_X11_isServer M a1) (fun v2 => jn (fun (q : (Int32 × gM)) => match q with | (b3, M4) => lt (gset M4 m_o 66 b3) (fun M5 => lt (M5 m_o 66) (fun v6 => (if v6 ≤ 0 then lt ((((48 : Int32) * a1) + a2)) (fun x8 => rd M5 m_has 192 x8 (fun v9 => (if v9 = 0 then some ((-2199023255552 : Int64), M5) else (if (3 : Int32) ≤ a3 then f_X11_copy_L128 a1 a2 a3 100 (0 : Int32) (1 : Int32) M5 else rd M5 m_isDirectory 48 a2 (fun v32 => (if v32 = 0 then (if a3 = 0 then rd M5 m_value 192 x8 (fun v38 => some (v38.toInt64, M5)) else (if a3 = (1 : Int32) then rd M5 m_size 192 x8 (fun v37 => some (v37.toInt64, M5)) else rd M5 m_versions 192 x8 (fun v36 => some (v36.toInt64, M5)))) else some ((0 : Int64), M5))))))) else some ((0 : Int64), M5))))) (fun J30 => jn (fun (M39 : gM) => J30 ((1 : Int32), M39)) (fun J29 => (if v2 = 0 then J29 M else o1 (f_X11_isObject M a2) (fun v42 => (if v42 = 0 then J29 M else o1 (f_X11_in M a3 (0 : Int32) (4 : Int32)) (fun v45 => (if v45 = 0 then J29 M else J30 ((0 : Int32), M)))))))))
set_option maxHeartbeats 4000000 in
set_option maxRecDepth 100000 in
theorem t_X11_copy (l : Launch) (D : va_G) (dA : Nat → ClassId) (A : gI → Nat) (hJ : gJ mLive A) {M : gM} {a1 : Int32} {a2 : Int32} {a3 : Int32}  {y : (Int64 × gM)} (h : f_X11_copy M a1 a2 a3 = some y) : mMl l yX11_copy wmX11_copy ({ frames := 2, cells := 0, slots := 0, locals := 43 } : Room) D dA A [.ref (A m_o), .int a1, .int a2, .int a3] M y.1 y.2 := by
  refine Met.ofW (cc := cX11_copy) (maxL := 8) (ret := (some .long)) (by decide) rfl ?_
  intro p e s m args below meth c s₁ B hml hv
  obtain ⟨rfl, hP, hK⟩ := hv
  generalize hargs : ([.ref (A m_o), .int a1, .int a2, .int a3] : List Value).toArray = args at B ⊢
  have S : CallFix p m c cX11_copy 8 s args wmX11_copy RX11 := ⟨B.exec, B.bytes, hml, findClass_of_methodNamed B.named, atoms_spec (ws := wmX11_copy) B.pre⟩
  obtain ⟨hx, hb, -, hown, hts⟩ := id S
  have hr := B.returns
  have hlocks := B.notSynchronized
  have X : gX D vwCl dA mLive A (gA mLive A) s := ⟨hK, hJ, fun i hi => ⟨i, hi, rfl⟩⟩
  have Z : gZ D mLay dA mLive A (gA mLive A) s.heap M s.heap [] := ⟨hP, va_S.rf⟩
  have hin : ∀ w ∈ wsX110, w ∈ wmX11_copy := m_in
  have hl_29 := hts (.fieldLink RX11 29 "ReplicaFilesModel" "isDirectory" "[Z") (mBc 11 rfl)
  have hl_32 := hts (.fieldLink RX11 32 "ReplicaFilesModel" "has" "[Z") (mBc 12 rfl)
  have hl_35 := hts (.fieldLink RX11 35 "ReplicaFilesModel" "value" "[I") (mBc 13 rfl)
  have hl_38 := hts (.fieldLink RX11 38 "ReplicaFilesModel" "size" "[I") (mBc 14 rfl)
  have hl_44 := hts (.fieldLink RX11 44 "ReplicaFilesModel" "versions" "[I") (mBc 16 rfl)
  have hl_56 := hts (.fieldLink RX11 56 "ReplicaFilesModel" "entry" "[I") (mBc 20 rfl)
  have hl_162 := hts (.fieldLink RX11 162 "ReplicaFilesModel" "made" "I") (mBc 55 rfl)
  have hl_165 := hts (.fieldLink RX11 165 "ReplicaFilesModel" "thrown" "I") (mBc 58 rfl)
  have hc_172 := hts (.constantLong RX11 172 (-2199023255552)) (mBc 67 rfl)
  have hl := lv_entry ([.ref (A m_o), .int a1, .int a2, .int a3]) (n := 8) (Nat.le_of_ble_eq_true rfl)
  rw [← hargs, lg_entry_eq, hargs]
  generalize (lg_sl ([.ref (A m_o), .int a1, .int a2, .int a3]) ++ List.replicate (8 - (lg_sl ([.ref (A m_o), .int a1, .int a2, .int a3])).length) Slot.unset).toArray = ls at hl ⊢
  have hl : lv_has ls 8 [(0, .ref (A m_o)), (1, .int a1), (2, .int a2), (3, .int a3)] := hl
  unfold f_X11_copy at h
  refine lv_aload_n hx hb dX11_copy_0 rfl (lv_at hl 0 rfl) ?_
  refine lv_aload_n hx hb dX11_copy_1 rfl (lv_at hl 0 rfl) ?_
  refine lv_iload_n hx hb dX11_copy_2 rfl (lv_at hl 1 rfl) ?_
  obtain ⟨v2, hc1, h⟩ := o1_e h
  refine g_Vi (As := [.int a1]) (rest := [.ref (A m_o)]) S X Z mlv_o rfl rfl (t_X11_isServer l D dA A hJ  hc1) (cwV 1 hts (mGV (mB 81 rfl) (mB 82 rfl) (mB 83 rfl) (mB 63 rfl) (mB 60 rfl)) rfl rfl rfl (by decide +kernel) ⟨Nat.le_of_ble_eq_true rfl, Nat.le_of_ble_eq_true rfl⟩) rfl hl.1 rfl (Nat.le_of_ble_eq_true rfl) dX11_copy_3 ⟨Nat.zero_le _, Nat.zero_le _⟩ (fun H locs Z => ?_)
  obtain ⟨J30, eJ30, h⟩ := jn_e h
  have hJ30 : ∀ (b3 : Int32) (M4 : gM) (H : Heap) (locs : List Loc) (ls : Array Slot), gZ D mLay dA mLive A (gA mLive A) s.heap M4 H locs → lv_has ls 8 [(0, .ref (A m_o)), (1, .int a1), (2, .int a2), (3, .int a3)] → J30 (b3, M4) = some y → W p l e (headSpec wmX11_copy ({ frames := 2, cells := 0, slots := 0, locals := 43 } : Room)).room s m args below meth c H locs 0 0 (MQ below (mQl D dA A y) args s 0 0 (gA mLive A)) (F0 m 30 ls [.int b3, .ref (A m_o)]) := by
    intro b3 M4 H locs ls Z hl h
    rw [eJ30] at h
    try dsimp only at h
    refine mp_thrown S X Z hin hl_165 dX11_copy_30 h (fun M5 H locs Z h => ?_)
    refine lv_aload_n hx hb dX11_copy_33 rfl (lv_at hl 0 rfl) ?_
    refine mr_thrown S X Z hin hl_165 dX11_copy_34 h (fun v6 h => ?_)
    refine lv_if_le (tgt := 42) hx hb dX11_copy_37 (by decide) (fun c7 => ?_) (fun c7 => ?_)
    · have h := if_t c7 h
      refine lv_bipush (v := (48 : Int32)) hx hb dX11_copy_42 (by decide) ?_
      refine lv_iload_n hx hb dX11_copy_44 rfl (lv_at hl 1 rfl) ?_
      refine lv_imul hx hb dX11_copy_45 ?_
      refine lv_iload_n hx hb dX11_copy_46 rfl (lv_at hl 2 rfl) ?_
      refine lv_iadd hx hb dX11_copy_47 ?_
      refine g_topi h (fun x8 h => ?_)
      refine lv_istore (lv' := [(4, .int x8), (0, .ref (A m_o)), (1, .int a1), (2, .int a2), (3, .int a3)]) hx hb dX11_copy_48 hl (by decide) rfl (fun ls hl => ?_)
      refine lv_aload_n hx hb dX11_copy_50 rfl (lv_at hl 1 rfl) ?_
      refine mr_has S X Z hin hl_32 dX11_copy_51 ?_
      refine lv_iload hx hb dX11_copy_54 (lv_at hl 0 rfl) ?_
      refine g_zald S X Z ml_has rfl dX11_copy_56 h (fun v9 h => ?_)
      refine lv_if_ne (tgt := 64) hx hb dX11_copy_57 (by decide) (fun c10 => ?_) (fun c10 => ?_)
      · have h := if_f c10 h
        refine lv_iload_n hx hb dX11_copy_64 rfl (lv_at hl 4 rfl) ?_
        refine lv_iconst (v := (3 : Int32)) hx hb dX11_copy_65 (by decide) ?_
        refine lv_icmp_ge (tgt := 122) hx hb dX11_copy_66 (by decide) (fun c11 => ?_) (fun c11 => ?_)
        · have h := if_t c11 h
          refine lv_iconst (v := (0 : Int32)) hx hb dX11_copy_122 (by decide) ?_
          refine lv_istore (lv' := [(5, .int (0 : Int32)), (4, .int x8), (0, .ref (A m_o)), (1, .int a1), (2, .int a2), (3, .int a3)]) hx hb dX11_copy_123 hl (by decide) rfl (fun ls hl => ?_)
          refine lv_iconst (v := (1 : Int32)) hx hb dX11_copy_125 (by decide) ?_
          refine lv_istore (lv' := [(6, .int (1 : Int32)), (5, .int (0 : Int32)), (4, .int x8), (0, .ref (A m_o)), (1, .int a1), (2, .int a2), (3, .int a3)]) hx hb dX11_copy_126 hl (by decide) rfl (fun ls hl => ?_)
          have hL128 : ∀ (n : Nat) (x12 : Int32) (x13 : Int32) (M14 : gM) (H : Heap) (locs : List Loc) (ls : Array Slot), gZ D mLay dA mLive A (gA mLive A) s.heap M14 H locs → lv_has ls 8 [(0, .ref (A m_o)), (1, .int a1), (2, .int a2), (3, .int a3), (5, .int x12), (6, .int x13)] → f_X11_copy_L128 a1 a2 a3 n x12 x13 M14 = some y → W p l e (headSpec wmX11_copy ({ frames := 2, cells := 0, slots := 0, locals := 43 } : Room)).room s m args below meth c H locs 0 0 (MQ below (mQl D dA A y) args s 0 0 (gA mLive A)) (F0 m 128 ls []) := by
            intro n
            induction n with
            | zero =>
              intro x12 x13 M14 H locs ls Z hl h
              rw [f_X11_copy_L128] at h
              cases h
            | succ n15 ih128 =>
              intro x12 x13 M14 H locs ls Z hl h
              rw [f_X11_copy_L128] at h
              refine lv_iload hx hb dX11_copy_128 (lv_at hl 5 rfl) ?_
              refine lv_aload_n hx hb dX11_copy_130 rfl (lv_at hl 0 rfl) ?_
              refine mr_made S X Z hin hl_162 dX11_copy_131 h (fun v16 h => ?_)
              refine lv_icmp_ge (tgt := 199) hx hb dX11_copy_134 (by decide) (fun c17 => ?_) (fun c17 => ?_)
              · have h := if_t c17 h
                refine lv_iload hx hb dX11_copy_199 (lv_at hl 4 rfl) ?_
                refine lv_i2l hx hb dX11_copy_201 rfl ?_
                have hy := Option.some.inj h
                subst hy
                exact g_rl S Z hr hlocks dX11_copy_202
              · have h := if_f c17 h
                refine lv_aload_n hx hb dX11_copy_137 rfl (lv_at hl 0 rfl) ?_
                refine lv_iload hx hb dX11_copy_138 (lv_at hl 5 rfl) ?_
                refine lv_iload_n hx hb dX11_copy_140 rfl (lv_at hl 2 rfl) ?_
                obtain ⟨v19, hc18, h⟩ := o1_e h
                refine g_Vi (As := [.int x13, .int a2]) (rest := []) S X Z mlv_o rfl rfl (t_X11_isChild l D dA A hJ  hc18) (cwV 2 hts (mGV (mB 104 rfl) (mB 105 rfl) (mB 106 rfl) (mB 63 rfl) (mB 102 rfl)) rfl rfl rfl (by decide +kernel) ⟨Nat.le_of_ble_eq_true rfl, Nat.le_of_ble_eq_true rfl⟩) rfl hl.1 rfl (Nat.le_of_ble_eq_true rfl) dX11_copy_141 ⟨Nat.zero_le _, Nat.zero_le _⟩ (fun H locs Z => ?_)
                obtain ⟨J163, eJ163, h⟩ := jn_e h
                have hJ163 : ∀ (b20 : Int32) (M21 : gM) (H : Heap) (locs : List Loc) (ls : Array Slot), gZ D mLay dA mLive A (gA mLive A) s.heap M21 H locs → lv_has ls 8 [(0, .ref (A m_o)), (1, .int a1), (2, .int a2), (3, .int a3), (5, .int x12), (6, .int x13)] → J163 (b20, M21) = some y → W p l e (headSpec wmX11_copy ({ frames := 2, cells := 0, slots := 0, locals := 43 } : Room)).room s m args below meth c H locs 0 0 (MQ below (mQl D dA A y) args s 0 0 (gA mLive A)) (F0 m 163 ls [.int b20]) := by
                  intro b20 M21 H locs ls Z hl h
                  rw [eJ163] at h
                  try dsimp only at h
                  refine lv_istore (lv' := [(7, .int b20), (0, .ref (A m_o)), (1, .int a1), (2, .int a2), (3, .int a3), (5, .int x12), (6, .int x13)]) hx hb dX11_copy_163 hl (by decide) rfl (fun ls hl => ?_)
                  refine lv_iload hx hb dX11_copy_165 (lv_at hl 0 rfl) ?_
                  refine lv_iconst (v := (1 : Int32)) hx hb dX11_copy_167 (by decide) ?_
                  obtain ⟨J191, eJ191, h⟩ := jn_e h
                  have hJ191 : ∀ (b22 : Int32) (M23 : gM) (H : Heap) (locs : List Loc) (ls : Array Slot), gZ D mLay dA mLive A (gA mLive A) s.heap M23 H locs → lv_has ls 8 [(0, .ref (A m_o)), (1, .int a1), (2, .int a2), (3, .int a3), (6, .int x13)] → J191 (b22, M23) = some y → W p l e (headSpec wmX11_copy ({ frames := 2, cells := 0, slots := 0, locals := 43 } : Room)).room s m args below meth c H locs 0 0 (MQ below (mQl D dA A y) args s 0 0 (gA mLive A)) (F0 m 191 ls [.int b22]) := by
                    intro b22 M23 H locs ls Z hl h
                    rw [eJ191] at h
                    try dsimp only at h
                    refine lv_istore (lv' := [(5, .int b22), (0, .ref (A m_o)), (1, .int a1), (2, .int a2), (3, .int a3), (6, .int x13)]) hx hb dX11_copy_191 hl (by decide) rfl (fun ls hl => ?_)
                    obtain ⟨x24, ex24, h⟩ := lt_e h
                    refine lv_iinc (v := x24) (lv' := [(6, .int x24), (5, .int b22), (0, .ref (A m_o)), (1, .int a1), (2, .int a2), (3, .int a3)]) hx hb dX11_copy_193 hl (k := 5) rfl (by rw [ex24]; rfl) (by decide) rfl (fun ls hl => ?_)
                    refine lv_goto (tgt := 128) hx hb dX11_copy_196 (by decide) ?_
                    exact ih128 b22 x24 M23 _ _ _ Z (lv_sub hl [2, 3, 4, 5, 1, 0] rfl) h
                  obtain ⟨J182, eJ182, h⟩ := jn_e h
                  have hJ182 : ∀ (M25 : gM) (H : Heap) (locs : List Loc) (ls : Array Slot), gZ D mLay dA mLive A (gA mLive A) s.heap M25 H locs → lv_has ls 8 [(0, .ref (A m_o)), (1, .int a1), (2, .int a2), (3, .int a3), (5, .int x12), (6, .int x13)] → J182 M25 = some y → W p l e (headSpec wmX11_copy ({ frames := 2, cells := 0, slots := 0, locals := 43 } : Room)).room s m args below meth c H locs 0 0 (MQ below (mQl D dA A y) args s 0 0 (gA mLive A)) (F0 m 182 ls []) := by
                    intro M25 H locs ls Z hl h
                    rw [eJ182] at h
                    try dsimp only at h
                    refine lv_iload hx hb dX11_copy_182 (lv_at hl 4 rfl) ?_
                    refine lv_iconst (v := (1 : Int32)) hx hb dX11_copy_184 (by decide) ?_
                    refine lv_iadd hx hb dX11_copy_185 ?_
                    refine lv_goto (tgt := 191) hx hb dX11_copy_186 (by decide) ?_
                    exact hJ191 (x12 + (1 : Int32)) M25 _ _ _ Z (lv_sub hl [0, 1, 2, 3, 5] rfl) h
                  refine lv_icmp_eq (tgt := 182) hx hb dX11_copy_168 (by decide) (fun c26 => ?_) (fun c26 => ?_)
                  · have h := if_t c26 h
                    exact hJ182 M21 _ _ _ Z (lv_sub hl [1, 2, 3, 4, 5, 6] rfl) h
                  · have h := if_f c26 h
                    refine lv_iload hx hb dX11_copy_171 (lv_at hl 0 rfl) ?_
                    refine lv_iconst (v := (2 : Int32)) hx hb dX11_copy_173 (by decide) ?_
                    obtain ⟨J189, eJ189, h⟩ := jn_e h
                    have hJ189 : ∀ (M27 : gM) (H : Heap) (locs : List Loc) (ls : Array Slot), gZ D mLay dA mLive A (gA mLive A) s.heap M27 H locs → lv_has ls 8 [(0, .ref (A m_o)), (1, .int a1), (2, .int a2), (3, .int a3), (5, .int x12), (6, .int x13)] → J189 M27 = some y → W p l e (headSpec wmX11_copy ({ frames := 2, cells := 0, slots := 0, locals := 43 } : Room)).room s m args below meth c H locs 0 0 (MQ below (mQl D dA A y) args s 0 0 (gA mLive A)) (F0 m 189 ls []) := by
                      intro M27 H locs ls Z hl h
                      rw [eJ189] at h
                      try dsimp only at h
                      refine lv_iload hx hb dX11_copy_189 (lv_at hl 4 rfl) ?_
                      exact hJ191 x12 M27 _ _ _ Z (lv_sub hl [0, 1, 2, 3, 5] rfl) h
                    refine lv_icmp_ne (tgt := 189) hx hb dX11_copy_174 (by decide) (fun c28 => ?_) (fun c28 => ?_)
                    · have h := if_f c28 h
                      exact hJ189 M21 _ _ _ Z (lv_sub hl [1, 2, 3, 4, 5, 6] rfl) h
                    · have h := if_t c28 h
                      refine lv_iload_n hx hb dX11_copy_177 rfl (lv_at hl 4 rfl) ?_
                      refine lv_iconst (v := (3 : Int32)) hx hb dX11_copy_178 (by decide) ?_
                      refine lv_icmp_ne (tgt := 189) hx hb dX11_copy_179 (by decide) (fun c29 => ?_) (fun c29 => ?_)
                      · have h := if_f c29 h
                        exact hJ189 M21 _ _ _ Z (lv_sub hl [1, 2, 3, 4, 5, 6] rfl) h
                      · have h := if_t c29 h
                        exact hJ182 M21 _ _ _ Z (lv_sub hl [1, 2, 3, 4, 5, 6] rfl) h
                refine lv_if_eq (tgt := 162) hx hb dX11_copy_144 (by decide) (fun c30 => ?_) (fun c30 => ?_)
                · have h := if_t c30 h
                  refine lv_iconst (v := (0 : Int32)) hx hb dX11_copy_162 (by decide) ?_
                  exact hJ163 (0 : Int32) M14 _ _ _ Z (lv_sub hl [0, 1, 2, 3, 4, 5] rfl) h
                · have h := if_f c30 h
                  refine lv_aload_n hx hb dX11_copy_147 rfl (lv_at hl 0 rfl) ?_
                  refine mr_entry S X Z hin hl_56 dX11_copy_148 ?_
                  refine lv_bipush (v := (48 : Int32)) hx hb dX11_copy_151 (by decide) ?_
                  refine lv_iload_n hx hb dX11_copy_153 rfl (lv_at hl 1 rfl) ?_
                  refine lv_imul hx hb dX11_copy_154 ?_
                  refine lv_iload hx hb dX11_copy_155 (lv_at hl 5 rfl) ?_
                  refine lv_iadd hx hb dX11_copy_157 ?_
                  refine g_iald S X Z ml_entry rfl dX11_copy_158 h (fun v31 h => ?_)
                  refine lv_goto (tgt := 163) hx hb dX11_copy_159 (by decide) ?_
                  exact hJ163 v31 M14 _ _ _ Z (lv_sub hl [0, 1, 2, 3, 4, 5] rfl) h
          exact hL128 100 (0 : Int32) (1 : Int32) M5 _ _ _ Z (lv_sub hl [3, 4, 5, 6, 1, 0] rfl) h
        · have h := if_f c11 h
          refine lv_aload_n hx hb dX11_copy_69 rfl (lv_at hl 1 rfl) ?_
          refine mr_isDirectory S X Z hin hl_29 dX11_copy_70 ?_
          refine lv_iload_n hx hb dX11_copy_73 rfl (lv_at hl 3 rfl) ?_
          refine g_zald S X Z ml_isDirectory rfl dX11_copy_74 h (fun v32 h => ?_)
          refine lv_if_eq (tgt := 82) hx hb dX11_copy_75 (by decide) (fun c33 => ?_) (fun c33 => ?_)
          · have h := if_t c33 h
            refine lv_iload_n hx hb dX11_copy_82 rfl (lv_at hl 4 rfl) ?_
            refine lv_if_ne (tgt := 97) hx hb dX11_copy_83 (by decide) (fun c34 => ?_) (fun c34 => ?_)
            · have h := if_f c34 h
              refine lv_iload_n hx hb dX11_copy_97 rfl (lv_at hl 4 rfl) ?_
              refine lv_iconst (v := (1 : Int32)) hx hb dX11_copy_98 (by decide) ?_
              refine lv_icmp_ne (tgt := 113) hx hb dX11_copy_99 (by decide) (fun c35 => ?_) (fun c35 => ?_)
              · have h := if_f c35 h
                refine lv_aload_n hx hb dX11_copy_113 rfl (lv_at hl 1 rfl) ?_
                refine mr_versions S X Z hin hl_44 dX11_copy_114 ?_
                refine lv_iload hx hb dX11_copy_117 (lv_at hl 0 rfl) ?_
                refine g_iald S X Z ml_versions rfl dX11_copy_119 h (fun v36 h => ?_)
                refine lv_i2l hx hb dX11_copy_120 rfl ?_
                have hy := Option.some.inj h
                subst hy
                exact g_rl S Z hr hlocks dX11_copy_121
              · have h := if_t c35 h
                refine lv_aload_n hx hb dX11_copy_102 rfl (lv_at hl 1 rfl) ?_
                refine mr_size S X Z hin hl_38 dX11_copy_103 ?_
                refine lv_iload hx hb dX11_copy_106 (lv_at hl 0 rfl) ?_
                refine g_iald S X Z ml_size rfl dX11_copy_108 h (fun v37 h => ?_)
                refine lv_i2l hx hb dX11_copy_109 rfl ?_
                refine lv_goto (tgt := 121) hx hb dX11_copy_110 (by decide) ?_
                have hy := Option.some.inj h
                subst hy
                exact g_rl S Z hr hlocks dX11_copy_121
            · have h := if_t c34 h
              refine lv_aload_n hx hb dX11_copy_86 rfl (lv_at hl 1 rfl) ?_
              refine mr_value S X Z hin hl_35 dX11_copy_87 ?_
              refine lv_iload hx hb dX11_copy_90 (lv_at hl 0 rfl) ?_
              refine g_iald S X Z ml_value rfl dX11_copy_92 h (fun v38 h => ?_)
              refine lv_i2l hx hb dX11_copy_93 rfl ?_
              refine lv_goto (tgt := 121) hx hb dX11_copy_94 (by decide) ?_
              have hy := Option.some.inj h
              subst hy
              exact g_rl S Z hr hlocks dX11_copy_121
          · have h := if_f c33 h
            refine lv_lconst (v := (0 : Int64)) hx hb dX11_copy_78 (by decide) ?_
            refine lv_goto (tgt := 121) hx hb dX11_copy_79 (by decide) ?_
            have hy := Option.some.inj h
            subst hy
            exact g_rl S Z hr hlocks dX11_copy_121
      · have h := if_t c10 h
        refine lv_ldc2 hx hb hown hc_172 dX11_copy_60 ?_
        have hy := Option.some.inj h
        subst hy
        exact g_rl S Z hr hlocks dX11_copy_63
    · have h := if_f c7 h
      refine lv_lconst (v := (0 : Int64)) hx hb dX11_copy_40 (by decide) ?_
      have hy := Option.some.inj h
      subst hy
      exact g_rl S Z hr hlocks dX11_copy_41
  obtain ⟨J29, eJ29, h⟩ := jn_e h
  have hJ29 : ∀ (M39 : gM) (H : Heap) (locs : List Loc) (ls : Array Slot), gZ D mLay dA mLive A (gA mLive A) s.heap M39 H locs → lv_has ls 8 [(0, .ref (A m_o)), (1, .int a1), (2, .int a2), (3, .int a3)] → J29 M39 = some y → W p l e (headSpec wmX11_copy ({ frames := 2, cells := 0, slots := 0, locals := 43 } : Room)).room s m args below meth c H locs 0 0 (MQ below (mQl D dA A y) args s 0 0 (gA mLive A)) (F0 m 29 ls [.ref (A m_o)]) := by
    intro M39 H locs ls Z hl h
    rw [eJ29] at h
    try dsimp only at h
    refine lv_iconst (v := (1 : Int32)) hx hb dX11_copy_29 (by decide) ?_
    exact hJ30 (1 : Int32) M39 _ _ _ Z (lv_sub hl [0, 1, 2, 3] rfl) h
  refine lv_if_eq (tgt := 29) hx hb dX11_copy_6 (by decide) (fun c40 => ?_) (fun c40 => ?_)
  · have h := if_t c40 h
    exact hJ29 M _ _ _ Z (lv_sub hl [0, 1, 2, 3] rfl) h
  · have h := if_f c40 h
    refine lv_iload_n hx hb dX11_copy_9 rfl (lv_at hl 2 rfl) ?_
    obtain ⟨v42, hc41, h⟩ := o1_e h
    refine g_Si (As := [.int a2]) (rest := [.ref (A m_o)]) S X Z (t_X11_isObject l D dA A hJ  hc41) (va_cwS 1 hts (mGS (mB 93 rfl) (mB 94 rfl) (mB 63 rfl) (mB 65 rfl)) rfl rfl rfl (by decide +kernel) ⟨Nat.le_of_ble_eq_true rfl, Nat.le_of_ble_eq_true rfl⟩) rfl hl.1 rfl (Nat.le_of_ble_eq_true rfl) dX11_copy_10 ⟨Nat.zero_le _, Nat.zero_le _⟩ (fun H locs Z => ?_)
    refine lv_if_eq (tgt := 29) hx hb dX11_copy_13 (by decide) (fun c43 => ?_) (fun c43 => ?_)
    · have h := if_t c43 h
      exact hJ29 M _ _ _ Z (lv_sub hl [0, 1, 2, 3] rfl) h
    · have h := if_f c43 h
      refine lv_iload_n hx hb dX11_copy_16 rfl (lv_at hl 3 rfl) ?_
      refine lv_iconst (v := (0 : Int32)) hx hb dX11_copy_17 (by decide) ?_
      refine lv_iconst (v := (4 : Int32)) hx hb dX11_copy_18 (by decide) ?_
      obtain ⟨v45, hc44, h⟩ := o1_e h
      refine g_Si (As := [.int a3, .int (0 : Int32), .int (4 : Int32)]) (rest := [.ref (A m_o)]) S X Z (t_X11_in l D dA A hJ  hc44) (va_cwS 3 hts (mGS (mB 61 rfl) (mB 62 rfl) (mB 63 rfl) (mB 59 rfl)) rfl rfl rfl (by decide +kernel) ⟨Nat.le_of_ble_eq_true rfl, Nat.le_of_ble_eq_true rfl⟩) rfl hl.1 rfl (Nat.le_of_ble_eq_true rfl) dX11_copy_19 ⟨Nat.zero_le _, Nat.zero_le _⟩ (fun H locs Z => ?_)
      refine lv_if_eq (tgt := 29) hx hb dX11_copy_22 (by decide) (fun c46 => ?_) (fun c46 => ?_)
      · have h := if_t c46 h
        exact hJ29 M _ _ _ Z (lv_sub hl [0, 1, 2, 3] rfl) h
      · have h := if_f c46 h
        refine lv_iconst (v := (0 : Int32)) hx hb dX11_copy_25 (by decide) ?_
        refine lv_goto (tgt := 30) hx hb dX11_copy_26 (by decide) ?_
        exact hJ30 (0 : Int32) M _ _ _ Z (lv_sub hl [0, 1, 2, 3] rfl) h
