-- X11_vector (IIII)J: 77 instructions
theorem dX11_vector_0 : decode cX11_vector 0 = .ok (.aload_n 0, 1) := by decide +kernel
theorem dX11_vector_1 : decode cX11_vector 1 = .ok (.aload_n 0, 1) := by decide +kernel
theorem dX11_vector_2 : decode cX11_vector 2 = .ok (.iload_n 1, 1) := by decide +kernel
theorem dX11_vector_3 : decode cX11_vector 3 = .ok (.invokevirtual 184, 3) := by decide +kernel
theorem dX11_vector_6 : decode cX11_vector 6 = .ok (.ifCond .eq 29, 3) := by decide +kernel
theorem dX11_vector_9 : decode cX11_vector 9 = .ok (.iload_n 2, 1) := by decide +kernel
theorem dX11_vector_10 : decode cX11_vector 10 = .ok (.invokestatic 194, 3) := by decide +kernel
theorem dX11_vector_13 : decode cX11_vector 13 = .ok (.ifCond .eq 22, 3) := by decide +kernel
theorem dX11_vector_16 : decode cX11_vector 16 = .ok (.iload 4, 2) := by decide +kernel
theorem dX11_vector_18 : decode cX11_vector 18 = .ok (.iconst 0, 1) := by decide +kernel
theorem dX11_vector_19 : decode cX11_vector 19 = .ok (.aload_n 0, 1) := by decide +kernel
theorem dX11_vector_20 : decode cX11_vector 20 = .ok (.getfield 159, 3) := by decide +kernel
theorem dX11_vector_23 : decode cX11_vector 23 = .ok (.iconst 1, 1) := by decide +kernel
theorem dX11_vector_24 : decode cX11_vector 24 = .ok (.isub, 1) := by decide +kernel
theorem dX11_vector_25 : decode cX11_vector 25 = .ok (.invokestatic 168, 3) := by decide +kernel
theorem dX11_vector_28 : decode cX11_vector 28 = .ok (.ifCond .eq 7, 3) := by decide +kernel
theorem dX11_vector_31 : decode cX11_vector 31 = .ok (.iconst 0, 1) := by decide +kernel
theorem dX11_vector_32 : decode cX11_vector 32 = .ok (.goto 4, 3) := by decide +kernel
theorem dX11_vector_35 : decode cX11_vector 35 = .ok (.iconst 1, 1) := by decide +kernel
theorem dX11_vector_36 : decode cX11_vector 36 = .ok (.putfield 165, 3) := by decide +kernel
theorem dX11_vector_39 : decode cX11_vector 39 = .ok (.aload_n 0, 1) := by decide +kernel
theorem dX11_vector_40 : decode cX11_vector 40 = .ok (.getfield 165, 3) := by decide +kernel
theorem dX11_vector_43 : decode cX11_vector 43 = .ok (.ifCond .le 5, 3) := by decide +kernel
theorem dX11_vector_46 : decode cX11_vector 46 = .ok (.lconst 0, 1) := by decide +kernel
theorem dX11_vector_47 : decode cX11_vector 47 = .ok (.lreturn, 1) := by decide +kernel
theorem dX11_vector_48 : decode cX11_vector 48 = .ok (.bipush 48, 2) := by decide +kernel
theorem dX11_vector_50 : decode cX11_vector 50 = .ok (.iload_n 1, 1) := by decide +kernel
theorem dX11_vector_51 : decode cX11_vector 51 = .ok (.imul, 1) := by decide +kernel
theorem dX11_vector_52 : decode cX11_vector 52 = .ok (.iload_n 2, 1) := by decide +kernel
theorem dX11_vector_53 : decode cX11_vector 53 = .ok (.iadd, 1) := by decide +kernel
theorem dX11_vector_54 : decode cX11_vector 54 = .ok (.istore 5, 2) := by decide +kernel
theorem dX11_vector_56 : decode cX11_vector 56 = .ok (.aload_n 0, 1) := by decide +kernel
theorem dX11_vector_57 : decode cX11_vector 57 = .ok (.getfield 32, 3) := by decide +kernel
theorem dX11_vector_60 : decode cX11_vector 60 = .ok (.iload 5, 2) := by decide +kernel
theorem dX11_vector_62 : decode cX11_vector 62 = .ok (.baload, 1) := by decide +kernel
theorem dX11_vector_63 : decode cX11_vector 63 = .ok (.ifCond .ne 7, 3) := by decide +kernel
theorem dX11_vector_66 : decode cX11_vector 66 = .ok (.ldc2_w 172, 3) := by decide +kernel
theorem dX11_vector_69 : decode cX11_vector 69 = .ok (.lreturn, 1) := by decide +kernel
theorem dX11_vector_70 : decode cX11_vector 70 = .ok (.iload_n 3, 1) := by decide +kernel
theorem dX11_vector_71 : decode cX11_vector 71 = .ok (.iconst (-1), 1) := by decide +kernel
theorem dX11_vector_72 : decode cX11_vector 72 = .ok (.if_icmp .ne 18, 3) := by decide +kernel
theorem dX11_vector_75 : decode cX11_vector 75 = .ok (.aload_n 0, 1) := by decide +kernel
theorem dX11_vector_76 : decode cX11_vector 76 = .ok (.getfield 41, 3) := by decide +kernel
theorem dX11_vector_79 : decode cX11_vector 79 = .ok (.bipush 8, 2) := by decide +kernel
theorem dX11_vector_81 : decode cX11_vector 81 = .ok (.iload 5, 2) := by decide +kernel
theorem dX11_vector_83 : decode cX11_vector 83 = .ok (.imul, 1) := by decide +kernel
theorem dX11_vector_84 : decode cX11_vector 84 = .ok (.iload 4, 2) := by decide +kernel
theorem dX11_vector_86 : decode cX11_vector 86 = .ok (.iadd, 1) := by decide +kernel
theorem dX11_vector_87 : decode cX11_vector 87 = .ok (.iaload, 1) := by decide +kernel
theorem dX11_vector_88 : decode cX11_vector 88 = .ok (.i2l, 1) := by decide +kernel
theorem dX11_vector_89 : decode cX11_vector 89 = .ok (.lreturn, 1) := by decide +kernel
theorem dX11_vector_90 : decode cX11_vector 90 = .ok (.iload_n 3, 1) := by decide +kernel
theorem dX11_vector_91 : decode cX11_vector 91 = .ok (.iconst 0, 1) := by decide +kernel
theorem dX11_vector_92 : decode cX11_vector 92 = .ok (.aload_n 0, 1) := by decide +kernel
theorem dX11_vector_93 : decode cX11_vector 93 = .ok (.getfield 44, 3) := by decide +kernel
theorem dX11_vector_96 : decode cX11_vector 96 = .ok (.iload 5, 2) := by decide +kernel
theorem dX11_vector_98 : decode cX11_vector 98 = .ok (.iaload, 1) := by decide +kernel
theorem dX11_vector_99 : decode cX11_vector 99 = .ok (.iconst 1, 1) := by decide +kernel
theorem dX11_vector_100 : decode cX11_vector 100 = .ok (.isub, 1) := by decide +kernel
theorem dX11_vector_101 : decode cX11_vector 101 = .ok (.invokestatic 168, 3) := by decide +kernel
theorem dX11_vector_104 : decode cX11_vector 104 = .ok (.ifCond .eq 25, 3) := by decide +kernel
theorem dX11_vector_107 : decode cX11_vector 107 = .ok (.aload_n 0, 1) := by decide +kernel
theorem dX11_vector_108 : decode cX11_vector 108 = .ok (.getfield 53, 3) := by decide +kernel
theorem dX11_vector_111 : decode cX11_vector 111 = .ok (.bipush 8, 2) := by decide +kernel
theorem dX11_vector_113 : decode cX11_vector 113 = .ok (.bipush 6, 2) := by decide +kernel
theorem dX11_vector_115 : decode cX11_vector 115 = .ok (.iload 5, 2) := by decide +kernel
theorem dX11_vector_117 : decode cX11_vector 117 = .ok (.imul, 1) := by decide +kernel
theorem dX11_vector_118 : decode cX11_vector 118 = .ok (.iload_n 3, 1) := by decide +kernel
theorem dX11_vector_119 : decode cX11_vector 119 = .ok (.iadd, 1) := by decide +kernel
theorem dX11_vector_120 : decode cX11_vector 120 = .ok (.imul, 1) := by decide +kernel
theorem dX11_vector_121 : decode cX11_vector 121 = .ok (.iload 4, 2) := by decide +kernel
theorem dX11_vector_123 : decode cX11_vector 123 = .ok (.iadd, 1) := by decide +kernel
theorem dX11_vector_124 : decode cX11_vector 124 = .ok (.iaload, 1) := by decide +kernel
theorem dX11_vector_125 : decode cX11_vector 125 = .ok (.i2l, 1) := by decide +kernel
theorem dX11_vector_126 : decode cX11_vector 126 = .ok (.goto 6, 3) := by decide +kernel
theorem dX11_vector_129 : decode cX11_vector 129 = .ok (.ldc2_w 172, 3) := by decide +kernel
theorem dX11_vector_132 : decode cX11_vector 132 = .ok (.lreturn, 1) := by decide +kernel
abbrev wmX11_vector : List Cond := .code yX11_vector cX11_vector 6 (some .long) :: mBig
def f_X11_vector (M : gM) (a1 : Int32) (a2 : Int32) (a3 : Int32) (a4 : Int32) : Option (Int64 × gM) :=
  o1 (f_X11_isServer M a1) (fun v2 => jn (fun (q : (Int32 × gM)) => match q with | (b3, M4) => lt (gset M4 m_o 66 b3) (fun M5 => lt (M5 m_o 66) (fun v6 => (if v6 ≤ 0 then lt ((((48 : Int32) * a1) + a2)) (fun x8 => rd M5 m_has 192 x8 (fun v9 => (if v9 = 0 then some ((-2199023255552 : Int64), M5) else (if a3 = (-1 : Int32) then rd M5 m_vector 1536 (((8 : Int32) * x8) + a4) (fun v17 => some (v17.toInt64, M5)) else rd M5 m_versions 192 x8 (fun v12 => o1 (f_X11_in M5 a3 (0 : Int32) (v12 - (1 : Int32))) (fun v14 => (if v14 = 0 then some ((-2199023255552 : Int64), M5) else rd M5 m_versionVector 9216 (((8 : Int32) * (((6 : Int32) * x8) + a3)) + a4) (fun v16 => some (v16.toInt64, M5))))))))) else some ((0 : Int64), M5))))) (fun J36 => jn (fun (M18 : gM) => J36 ((1 : Int32), M18)) (fun J35 => (if v2 = 0 then J35 M else o1 (f_X11_isObject M a2) (fun v21 => (if v21 = 0 then J35 M else lt (M m_o 1) (fun v23 => o1 (f_X11_in M a4 (0 : Int32) (v23 - (1 : Int32))) (fun v25 => (if v25 = 0 then J35 M else J36 ((0 : Int32), M))))))))))
set_option maxHeartbeats 4000000 in
set_option maxRecDepth 100000 in
theorem t_X11_vector (l : Launch) (D : va_G) (dA : Nat → ClassId) (A : gI → Nat) (hJ : gJ mLive A) {M : gM} {a1 : Int32} {a2 : Int32} {a3 : Int32} {a4 : Int32}  {y : (Int64 × gM)} (h : f_X11_vector M a1 a2 a3 a4 = some y) : mMl l yX11_vector wmX11_vector ({ frames := 2, cells := 0, slots := 0, locals := 43 } : Room) D dA A [.ref (A m_o), .int a1, .int a2, .int a3, .int a4] M y.1 y.2 := by
  refine Met.ofW (cc := cX11_vector) (maxL := 6) (ret := (some .long)) (by decide) rfl ?_
  intro p e s m args below meth c s₁ B hml hv
  obtain ⟨rfl, hP, hK⟩ := hv
  generalize hargs : ([.ref (A m_o), .int a1, .int a2, .int a3, .int a4] : List Value).toArray = args at B ⊢
  have S : CallFix p m c cX11_vector 6 s args wmX11_vector RX11 := ⟨B.exec, B.bytes, hml, findClass_of_methodNamed B.named, atoms_spec (ws := wmX11_vector) B.pre⟩
  obtain ⟨hx, hb, -, hown, hts⟩ := id S
  have hr := B.returns
  have hlocks := B.notSynchronized
  have X : gX D vwCl dA mLive A (gA mLive A) s := ⟨hK, hJ, fun i hi => ⟨i, hi, rfl⟩⟩
  have Z : gZ D mLay dA mLive A (gA mLive A) s.heap M s.heap [] := ⟨hP, va_S.rf⟩
  have hin : ∀ w ∈ wsX110, w ∈ wmX11_vector := m_in
  have hl_32 := hts (.fieldLink RX11 32 "ReplicaFilesModel" "has" "[Z") (mBc 12 rfl)
  have hl_41 := hts (.fieldLink RX11 41 "ReplicaFilesModel" "vector" "[I") (mBc 15 rfl)
  have hl_44 := hts (.fieldLink RX11 44 "ReplicaFilesModel" "versions" "[I") (mBc 16 rfl)
  have hl_53 := hts (.fieldLink RX11 53 "ReplicaFilesModel" "versionVector" "[I") (mBc 19 rfl)
  have hl_159 := hts (.fieldLink RX11 159 "ReplicaFilesModel" "counts" "I") (mBc 54 rfl)
  have hl_165 := hts (.fieldLink RX11 165 "ReplicaFilesModel" "thrown" "I") (mBc 58 rfl)
  have hc_172 := hts (.constantLong RX11 172 (-2199023255552)) (mBc 67 rfl)
  have hl := lv_entry ([.ref (A m_o), .int a1, .int a2, .int a3, .int a4]) (n := 6) (Nat.le_of_ble_eq_true rfl)
  rw [← hargs, lg_entry_eq, hargs]
  generalize (lg_sl ([.ref (A m_o), .int a1, .int a2, .int a3, .int a4]) ++ List.replicate (6 - (lg_sl ([.ref (A m_o), .int a1, .int a2, .int a3, .int a4])).length) Slot.unset).toArray = ls at hl ⊢
  have hl : lv_has ls 6 [(0, .ref (A m_o)), (1, .int a1), (2, .int a2), (3, .int a3), (4, .int a4)] := hl
  unfold f_X11_vector at h
  refine lv_aload_n hx hb dX11_vector_0 rfl (lv_at hl 0 rfl) ?_
  refine lv_aload_n hx hb dX11_vector_1 rfl (lv_at hl 0 rfl) ?_
  refine lv_iload_n hx hb dX11_vector_2 rfl (lv_at hl 1 rfl) ?_
  obtain ⟨v2, hc1, h⟩ := o1_e h
  refine g_Vi (As := [.int a1]) (rest := [.ref (A m_o)]) S X Z mlv_o rfl rfl (t_X11_isServer l D dA A hJ  hc1) (cwV 1 hts (mGV (mB 81 rfl) (mB 82 rfl) (mB 83 rfl) (mB 63 rfl) (mB 60 rfl)) rfl rfl rfl (by decide +kernel) ⟨Nat.le_of_ble_eq_true rfl, Nat.le_of_ble_eq_true rfl⟩) rfl hl.1 rfl (Nat.le_of_ble_eq_true rfl) dX11_vector_3 ⟨Nat.zero_le _, Nat.zero_le _⟩ (fun H locs Z => ?_)
  obtain ⟨J36, eJ36, h⟩ := jn_e h
  have hJ36 : ∀ (b3 : Int32) (M4 : gM) (H : Heap) (locs : List Loc) (ls : Array Slot), gZ D mLay dA mLive A (gA mLive A) s.heap M4 H locs → lv_has ls 6 [(0, .ref (A m_o)), (1, .int a1), (2, .int a2), (3, .int a3), (4, .int a4)] → J36 (b3, M4) = some y → W p l e (headSpec wmX11_vector ({ frames := 2, cells := 0, slots := 0, locals := 43 } : Room)).room s m args below meth c H locs 0 0 (MQ below (mQl D dA A y) args s 0 0 (gA mLive A)) (F0 m 36 ls [.int b3, .ref (A m_o)]) := by
    intro b3 M4 H locs ls Z hl h
    rw [eJ36] at h
    try dsimp only at h
    refine mp_thrown S X Z hin hl_165 dX11_vector_36 h (fun M5 H locs Z h => ?_)
    refine lv_aload_n hx hb dX11_vector_39 rfl (lv_at hl 0 rfl) ?_
    refine mr_thrown S X Z hin hl_165 dX11_vector_40 h (fun v6 h => ?_)
    refine lv_if_le (tgt := 48) hx hb dX11_vector_43 (by decide) (fun c7 => ?_) (fun c7 => ?_)
    · have h := if_t c7 h
      refine lv_bipush (v := (48 : Int32)) hx hb dX11_vector_48 (by decide) ?_
      refine lv_iload_n hx hb dX11_vector_50 rfl (lv_at hl 1 rfl) ?_
      refine lv_imul hx hb dX11_vector_51 ?_
      refine lv_iload_n hx hb dX11_vector_52 rfl (lv_at hl 2 rfl) ?_
      refine lv_iadd hx hb dX11_vector_53 ?_
      refine g_topi h (fun x8 h => ?_)
      refine lv_istore (lv' := [(5, .int x8), (0, .ref (A m_o)), (1, .int a1), (2, .int a2), (3, .int a3), (4, .int a4)]) hx hb dX11_vector_54 hl (by decide) rfl (fun ls hl => ?_)
      refine lv_aload_n hx hb dX11_vector_56 rfl (lv_at hl 1 rfl) ?_
      refine mr_has S X Z hin hl_32 dX11_vector_57 ?_
      refine lv_iload hx hb dX11_vector_60 (lv_at hl 0 rfl) ?_
      refine g_zald S X Z ml_has rfl dX11_vector_62 h (fun v9 h => ?_)
      refine lv_if_ne (tgt := 70) hx hb dX11_vector_63 (by decide) (fun c10 => ?_) (fun c10 => ?_)
      · have h := if_f c10 h
        refine lv_iload_n hx hb dX11_vector_70 rfl (lv_at hl 4 rfl) ?_
        refine lv_iconst (v := (-1 : Int32)) hx hb dX11_vector_71 (by decide) ?_
        refine lv_icmp_ne (tgt := 90) hx hb dX11_vector_72 (by decide) (fun c11 => ?_) (fun c11 => ?_)
        · have h := if_f c11 h
          refine lv_iload_n hx hb dX11_vector_90 rfl (lv_at hl 4 rfl) ?_
          refine lv_iconst (v := (0 : Int32)) hx hb dX11_vector_91 (by decide) ?_
          refine lv_aload_n hx hb dX11_vector_92 rfl (lv_at hl 1 rfl) ?_
          refine mr_versions S X Z hin hl_44 dX11_vector_93 ?_
          refine lv_iload hx hb dX11_vector_96 (lv_at hl 0 rfl) ?_
          refine g_iald S X Z ml_versions rfl dX11_vector_98 h (fun v12 h => ?_)
          refine lv_iconst (v := (1 : Int32)) hx hb dX11_vector_99 (by decide) ?_
          refine lv_isub hx hb dX11_vector_100 ?_
          obtain ⟨v14, hc13, h⟩ := o1_e h
          refine g_Si (As := [.int a3, .int (0 : Int32), .int (v12 - (1 : Int32))]) (rest := []) S X Z (t_X11_in l D dA A hJ  hc13) (va_cwS 3 hts (mGS (mB 61 rfl) (mB 62 rfl) (mB 63 rfl) (mB 59 rfl)) rfl rfl rfl (by decide +kernel) ⟨Nat.le_of_ble_eq_true rfl, Nat.le_of_ble_eq_true rfl⟩) rfl hl.1 rfl (Nat.le_of_ble_eq_true rfl) dX11_vector_101 ⟨Nat.zero_le _, Nat.zero_le _⟩ (fun H locs Z => ?_)
          refine lv_if_eq (tgt := 129) hx hb dX11_vector_104 (by decide) (fun c15 => ?_) (fun c15 => ?_)
          · have h := if_t c15 h
            refine lv_ldc2 hx hb hown hc_172 dX11_vector_129 ?_
            have hy := Option.some.inj h
            subst hy
            exact g_rl S Z hr hlocks dX11_vector_132
          · have h := if_f c15 h
            refine lv_aload_n hx hb dX11_vector_107 rfl (lv_at hl 1 rfl) ?_
            refine mr_versionVector S X Z hin hl_53 dX11_vector_108 ?_
            refine lv_bipush (v := (8 : Int32)) hx hb dX11_vector_111 (by decide) ?_
            refine lv_bipush (v := (6 : Int32)) hx hb dX11_vector_113 (by decide) ?_
            refine lv_iload hx hb dX11_vector_115 (lv_at hl 0 rfl) ?_
            refine lv_imul hx hb dX11_vector_117 ?_
            refine lv_iload_n hx hb dX11_vector_118 rfl (lv_at hl 4 rfl) ?_
            refine lv_iadd hx hb dX11_vector_119 ?_
            refine lv_imul hx hb dX11_vector_120 ?_
            refine lv_iload hx hb dX11_vector_121 (lv_at hl 5 rfl) ?_
            refine lv_iadd hx hb dX11_vector_123 ?_
            refine g_iald S X Z ml_versionVector rfl dX11_vector_124 h (fun v16 h => ?_)
            refine lv_i2l hx hb dX11_vector_125 rfl ?_
            refine lv_goto (tgt := 132) hx hb dX11_vector_126 (by decide) ?_
            have hy := Option.some.inj h
            subst hy
            exact g_rl S Z hr hlocks dX11_vector_132
        · have h := if_t c11 h
          refine lv_aload_n hx hb dX11_vector_75 rfl (lv_at hl 1 rfl) ?_
          refine mr_vector S X Z hin hl_41 dX11_vector_76 ?_
          refine lv_bipush (v := (8 : Int32)) hx hb dX11_vector_79 (by decide) ?_
          refine lv_iload hx hb dX11_vector_81 (lv_at hl 0 rfl) ?_
          refine lv_imul hx hb dX11_vector_83 ?_
          refine lv_iload hx hb dX11_vector_84 (lv_at hl 5 rfl) ?_
          refine lv_iadd hx hb dX11_vector_86 ?_
          refine g_iald S X Z ml_vector rfl dX11_vector_87 h (fun v17 h => ?_)
          refine lv_i2l hx hb dX11_vector_88 rfl ?_
          have hy := Option.some.inj h
          subst hy
          exact g_rl S Z hr hlocks dX11_vector_89
      · have h := if_t c10 h
        refine lv_ldc2 hx hb hown hc_172 dX11_vector_66 ?_
        have hy := Option.some.inj h
        subst hy
        exact g_rl S Z hr hlocks dX11_vector_69
    · have h := if_f c7 h
      refine lv_lconst (v := (0 : Int64)) hx hb dX11_vector_46 (by decide) ?_
      have hy := Option.some.inj h
      subst hy
      exact g_rl S Z hr hlocks dX11_vector_47
  obtain ⟨J35, eJ35, h⟩ := jn_e h
  have hJ35 : ∀ (M18 : gM) (H : Heap) (locs : List Loc) (ls : Array Slot), gZ D mLay dA mLive A (gA mLive A) s.heap M18 H locs → lv_has ls 6 [(0, .ref (A m_o)), (1, .int a1), (2, .int a2), (3, .int a3), (4, .int a4)] → J35 M18 = some y → W p l e (headSpec wmX11_vector ({ frames := 2, cells := 0, slots := 0, locals := 43 } : Room)).room s m args below meth c H locs 0 0 (MQ below (mQl D dA A y) args s 0 0 (gA mLive A)) (F0 m 35 ls [.ref (A m_o)]) := by
    intro M18 H locs ls Z hl h
    rw [eJ35] at h
    try dsimp only at h
    refine lv_iconst (v := (1 : Int32)) hx hb dX11_vector_35 (by decide) ?_
    exact hJ36 (1 : Int32) M18 _ _ _ Z (lv_sub hl [0, 1, 2, 3, 4] rfl) h
  refine lv_if_eq (tgt := 35) hx hb dX11_vector_6 (by decide) (fun c19 => ?_) (fun c19 => ?_)
  · have h := if_t c19 h
    exact hJ35 M _ _ _ Z (lv_sub hl [0, 1, 2, 3, 4] rfl) h
  · have h := if_f c19 h
    refine lv_iload_n hx hb dX11_vector_9 rfl (lv_at hl 2 rfl) ?_
    obtain ⟨v21, hc20, h⟩ := o1_e h
    refine g_Si (As := [.int a2]) (rest := [.ref (A m_o)]) S X Z (t_X11_isObject l D dA A hJ  hc20) (va_cwS 1 hts (mGS (mB 93 rfl) (mB 94 rfl) (mB 63 rfl) (mB 65 rfl)) rfl rfl rfl (by decide +kernel) ⟨Nat.le_of_ble_eq_true rfl, Nat.le_of_ble_eq_true rfl⟩) rfl hl.1 rfl (Nat.le_of_ble_eq_true rfl) dX11_vector_10 ⟨Nat.zero_le _, Nat.zero_le _⟩ (fun H locs Z => ?_)
    refine lv_if_eq (tgt := 35) hx hb dX11_vector_13 (by decide) (fun c22 => ?_) (fun c22 => ?_)
    · have h := if_t c22 h
      exact hJ35 M _ _ _ Z (lv_sub hl [0, 1, 2, 3, 4] rfl) h
    · have h := if_f c22 h
      refine lv_iload hx hb dX11_vector_16 (lv_at hl 4 rfl) ?_
      refine lv_iconst (v := (0 : Int32)) hx hb dX11_vector_18 (by decide) ?_
      refine lv_aload_n hx hb dX11_vector_19 rfl (lv_at hl 0 rfl) ?_
      refine mr_counts S X Z hin hl_159 dX11_vector_20 h (fun v23 h => ?_)
      refine lv_iconst (v := (1 : Int32)) hx hb dX11_vector_23 (by decide) ?_
      refine lv_isub hx hb dX11_vector_24 ?_
      obtain ⟨v25, hc24, h⟩ := o1_e h
      refine g_Si (As := [.int a4, .int (0 : Int32), .int (v23 - (1 : Int32))]) (rest := [.ref (A m_o)]) S X Z (t_X11_in l D dA A hJ  hc24) (va_cwS 3 hts (mGS (mB 61 rfl) (mB 62 rfl) (mB 63 rfl) (mB 59 rfl)) rfl rfl rfl (by decide +kernel) ⟨Nat.le_of_ble_eq_true rfl, Nat.le_of_ble_eq_true rfl⟩) rfl hl.1 rfl (Nat.le_of_ble_eq_true rfl) dX11_vector_25 ⟨Nat.zero_le _, Nat.zero_le _⟩ (fun H locs Z => ?_)
      refine lv_if_eq (tgt := 35) hx hb dX11_vector_28 (by decide) (fun c26 => ?_) (fun c26 => ?_)
      · have h := if_t c26 h
        exact hJ35 M _ _ _ Z (lv_sub hl [0, 1, 2, 3, 4] rfl) h
      · have h := if_f c26 h
        refine lv_iconst (v := (0 : Int32)) hx hb dX11_vector_31 (by decide) ?_
        refine lv_goto (tgt := 36) hx hb dX11_vector_32 (by decide) ?_
        exact hJ36 (0 : Int32) M _ _ _ Z (lv_sub hl [0, 1, 2, 3, 4] rfl) h
-- X11_version (IIII)J: 67 instructions
theorem dX11_version_0 : decode cX11_version 0 = .ok (.aload_n 0, 1) := by decide +kernel
theorem dX11_version_1 : decode cX11_version 1 = .ok (.aload_n 0, 1) := by decide +kernel
theorem dX11_version_2 : decode cX11_version 2 = .ok (.iload_n 1, 1) := by decide +kernel
theorem dX11_version_3 : decode cX11_version 3 = .ok (.invokevirtual 184, 3) := by decide +kernel
theorem dX11_version_6 : decode cX11_version 6 = .ok (.ifCond .eq 24, 3) := by decide +kernel
theorem dX11_version_9 : decode cX11_version 9 = .ok (.iload_n 2, 1) := by decide +kernel
theorem dX11_version_10 : decode cX11_version 10 = .ok (.invokestatic 194, 3) := by decide +kernel
theorem dX11_version_13 : decode cX11_version 13 = .ok (.ifCond .eq 17, 3) := by decide +kernel
theorem dX11_version_16 : decode cX11_version 16 = .ok (.iload 4, 2) := by decide +kernel
theorem dX11_version_18 : decode cX11_version 18 = .ok (.iconst 0, 1) := by decide +kernel
theorem dX11_version_19 : decode cX11_version 19 = .ok (.iconst 1, 1) := by decide +kernel
theorem dX11_version_20 : decode cX11_version 20 = .ok (.invokestatic 168, 3) := by decide +kernel
theorem dX11_version_23 : decode cX11_version 23 = .ok (.ifCond .eq 7, 3) := by decide +kernel
theorem dX11_version_26 : decode cX11_version 26 = .ok (.iconst 0, 1) := by decide +kernel
theorem dX11_version_27 : decode cX11_version 27 = .ok (.goto 4, 3) := by decide +kernel
theorem dX11_version_30 : decode cX11_version 30 = .ok (.iconst 1, 1) := by decide +kernel
theorem dX11_version_31 : decode cX11_version 31 = .ok (.putfield 165, 3) := by decide +kernel
theorem dX11_version_34 : decode cX11_version 34 = .ok (.aload_n 0, 1) := by decide +kernel
theorem dX11_version_35 : decode cX11_version 35 = .ok (.getfield 165, 3) := by decide +kernel
theorem dX11_version_38 : decode cX11_version 38 = .ok (.ifCond .le 5, 3) := by decide +kernel
theorem dX11_version_41 : decode cX11_version 41 = .ok (.lconst 0, 1) := by decide +kernel
theorem dX11_version_42 : decode cX11_version 42 = .ok (.lreturn, 1) := by decide +kernel
theorem dX11_version_43 : decode cX11_version 43 = .ok (.bipush 48, 2) := by decide +kernel
theorem dX11_version_45 : decode cX11_version 45 = .ok (.iload_n 1, 1) := by decide +kernel
theorem dX11_version_46 : decode cX11_version 46 = .ok (.imul, 1) := by decide +kernel
theorem dX11_version_47 : decode cX11_version 47 = .ok (.iload_n 2, 1) := by decide +kernel
theorem dX11_version_48 : decode cX11_version 48 = .ok (.iadd, 1) := by decide +kernel
theorem dX11_version_49 : decode cX11_version 49 = .ok (.istore 5, 2) := by decide +kernel
theorem dX11_version_51 : decode cX11_version 51 = .ok (.aload_n 0, 1) := by decide +kernel
theorem dX11_version_52 : decode cX11_version 52 = .ok (.getfield 32, 3) := by decide +kernel
theorem dX11_version_55 : decode cX11_version 55 = .ok (.iload 5, 2) := by decide +kernel
theorem dX11_version_57 : decode cX11_version 57 = .ok (.baload, 1) := by decide +kernel
theorem dX11_version_58 : decode cX11_version 58 = .ok (.ifCond .eq 20, 3) := by decide +kernel
theorem dX11_version_61 : decode cX11_version 61 = .ok (.iload_n 3, 1) := by decide +kernel
theorem dX11_version_62 : decode cX11_version 62 = .ok (.iconst 0, 1) := by decide +kernel
theorem dX11_version_63 : decode cX11_version 63 = .ok (.aload_n 0, 1) := by decide +kernel
theorem dX11_version_64 : decode cX11_version 64 = .ok (.getfield 44, 3) := by decide +kernel
theorem dX11_version_67 : decode cX11_version 67 = .ok (.iload 5, 2) := by decide +kernel
theorem dX11_version_69 : decode cX11_version 69 = .ok (.iaload, 1) := by decide +kernel
theorem dX11_version_70 : decode cX11_version 70 = .ok (.iconst 1, 1) := by decide +kernel
theorem dX11_version_71 : decode cX11_version 71 = .ok (.isub, 1) := by decide +kernel
theorem dX11_version_72 : decode cX11_version 72 = .ok (.invokestatic 168, 3) := by decide +kernel
theorem dX11_version_75 : decode cX11_version 75 = .ok (.ifCond .ne 7, 3) := by decide +kernel
theorem dX11_version_78 : decode cX11_version 78 = .ok (.ldc2_w 172, 3) := by decide +kernel
theorem dX11_version_81 : decode cX11_version 81 = .ok (.lreturn, 1) := by decide +kernel
theorem dX11_version_82 : decode cX11_version 82 = .ok (.iload 4, 2) := by decide +kernel
theorem dX11_version_84 : decode cX11_version 84 = .ok (.ifCond .ne 19, 3) := by decide +kernel
theorem dX11_version_87 : decode cX11_version 87 = .ok (.aload_n 0, 1) := by decide +kernel
theorem dX11_version_88 : decode cX11_version 88 = .ok (.getfield 47, 3) := by decide +kernel
theorem dX11_version_91 : decode cX11_version 91 = .ok (.bipush 6, 2) := by decide +kernel
theorem dX11_version_93 : decode cX11_version 93 = .ok (.iload 5, 2) := by decide +kernel
theorem dX11_version_95 : decode cX11_version 95 = .ok (.imul, 1) := by decide +kernel
theorem dX11_version_96 : decode cX11_version 96 = .ok (.iload_n 3, 1) := by decide +kernel
theorem dX11_version_97 : decode cX11_version 97 = .ok (.iadd, 1) := by decide +kernel
theorem dX11_version_98 : decode cX11_version 98 = .ok (.iaload, 1) := by decide +kernel
theorem dX11_version_99 : decode cX11_version 99 = .ok (.i2l, 1) := by decide +kernel
theorem dX11_version_100 : decode cX11_version 100 = .ok (.goto 16, 3) := by decide +kernel
theorem dX11_version_103 : decode cX11_version 103 = .ok (.aload_n 0, 1) := by decide +kernel
theorem dX11_version_104 : decode cX11_version 104 = .ok (.getfield 50, 3) := by decide +kernel
theorem dX11_version_107 : decode cX11_version 107 = .ok (.bipush 6, 2) := by decide +kernel
theorem dX11_version_109 : decode cX11_version 109 = .ok (.iload 5, 2) := by decide +kernel
theorem dX11_version_111 : decode cX11_version 111 = .ok (.imul, 1) := by decide +kernel
theorem dX11_version_112 : decode cX11_version 112 = .ok (.iload_n 3, 1) := by decide +kernel
theorem dX11_version_113 : decode cX11_version 113 = .ok (.iadd, 1) := by decide +kernel
theorem dX11_version_114 : decode cX11_version 114 = .ok (.iaload, 1) := by decide +kernel
theorem dX11_version_115 : decode cX11_version 115 = .ok (.i2l, 1) := by decide +kernel
theorem dX11_version_116 : decode cX11_version 116 = .ok (.lreturn, 1) := by decide +kernel
abbrev wmX11_version : List Cond := .code yX11_version cX11_version 6 (some .long) :: mBig
def f_X11_version (M : gM) (a1 : Int32) (a2 : Int32) (a3 : Int32) (a4 : Int32) : Option (Int64 × gM) :=
  o1 (f_X11_isServer M a1) (fun v2 => jn (fun (q : (Int32 × gM)) => match q with | (b3, M4) => lt (gset M4 m_o 66 b3) (fun M5 => lt (M5 m_o 66) (fun v6 => (if v6 ≤ 0 then lt ((((48 : Int32) * a1) + a2)) (fun x8 => rd M5 m_has 192 x8 (fun v9 => (if v9 = 0 then some ((-2199023255552 : Int64), M5) else rd M5 m_versions 192 x8 (fun v11 => o1 (f_X11_in M5 a3 (0 : Int32) (v11 - (1 : Int32))) (fun v13 => (if v13 = 0 then some ((-2199023255552 : Int64), M5) else (if a4 = 0 then rd M5 m_versionValue 1152 (((6 : Int32) * x8) + a3) (fun v17 => some (v17.toInt64, M5)) else rd M5 m_versionSize 1152 (((6 : Int32) * x8) + a3) (fun v16 => some (v16.toInt64, M5))))))))) else some ((0 : Int64), M5))))) (fun J31 => jn (fun (M18 : gM) => J31 ((1 : Int32), M18)) (fun J30 => (if v2 = 0 then J30 M else o1 (f_X11_isObject M a2) (fun v21 => (if v21 = 0 then J30 M else o1 (f_X11_in M a4 (0 : Int32) (1 : Int32)) (fun v24 => (if v24 = 0 then J30 M else J31 ((0 : Int32), M)))))))))
set_option maxHeartbeats 4000000 in
set_option maxRecDepth 100000 in
theorem t_X11_version (l : Launch) (D : va_G) (dA : Nat → ClassId) (A : gI → Nat) (hJ : gJ mLive A) {M : gM} {a1 : Int32} {a2 : Int32} {a3 : Int32} {a4 : Int32}  {y : (Int64 × gM)} (h : f_X11_version M a1 a2 a3 a4 = some y) : mMl l yX11_version wmX11_version ({ frames := 2, cells := 0, slots := 0, locals := 43 } : Room) D dA A [.ref (A m_o), .int a1, .int a2, .int a3, .int a4] M y.1 y.2 := by
  refine Met.ofW (cc := cX11_version) (maxL := 6) (ret := (some .long)) (by decide) rfl ?_
  intro p e s m args below meth c s₁ B hml hv
  obtain ⟨rfl, hP, hK⟩ := hv
  generalize hargs : ([.ref (A m_o), .int a1, .int a2, .int a3, .int a4] : List Value).toArray = args at B ⊢
  have S : CallFix p m c cX11_version 6 s args wmX11_version RX11 := ⟨B.exec, B.bytes, hml, findClass_of_methodNamed B.named, atoms_spec (ws := wmX11_version) B.pre⟩
  obtain ⟨hx, hb, -, hown, hts⟩ := id S
  have hr := B.returns
  have hlocks := B.notSynchronized
  have X : gX D vwCl dA mLive A (gA mLive A) s := ⟨hK, hJ, fun i hi => ⟨i, hi, rfl⟩⟩
  have Z : gZ D mLay dA mLive A (gA mLive A) s.heap M s.heap [] := ⟨hP, va_S.rf⟩
  have hin : ∀ w ∈ wsX110, w ∈ wmX11_version := m_in
  have hl_32 := hts (.fieldLink RX11 32 "ReplicaFilesModel" "has" "[Z") (mBc 12 rfl)
  have hl_44 := hts (.fieldLink RX11 44 "ReplicaFilesModel" "versions" "[I") (mBc 16 rfl)
  have hl_47 := hts (.fieldLink RX11 47 "ReplicaFilesModel" "versionValue" "[I") (mBc 17 rfl)
  have hl_50 := hts (.fieldLink RX11 50 "ReplicaFilesModel" "versionSize" "[I") (mBc 18 rfl)
  have hl_165 := hts (.fieldLink RX11 165 "ReplicaFilesModel" "thrown" "I") (mBc 58 rfl)
  have hc_172 := hts (.constantLong RX11 172 (-2199023255552)) (mBc 67 rfl)
  have hl := lv_entry ([.ref (A m_o), .int a1, .int a2, .int a3, .int a4]) (n := 6) (Nat.le_of_ble_eq_true rfl)
  rw [← hargs, lg_entry_eq, hargs]
  generalize (lg_sl ([.ref (A m_o), .int a1, .int a2, .int a3, .int a4]) ++ List.replicate (6 - (lg_sl ([.ref (A m_o), .int a1, .int a2, .int a3, .int a4])).length) Slot.unset).toArray = ls at hl ⊢
  have hl : lv_has ls 6 [(0, .ref (A m_o)), (1, .int a1), (2, .int a2), (3, .int a3), (4, .int a4)] := hl
  unfold f_X11_version at h
  refine lv_aload_n hx hb dX11_version_0 rfl (lv_at hl 0 rfl) ?_
  refine lv_aload_n hx hb dX11_version_1 rfl (lv_at hl 0 rfl) ?_
  refine lv_iload_n hx hb dX11_version_2 rfl (lv_at hl 1 rfl) ?_
  obtain ⟨v2, hc1, h⟩ := o1_e h
  refine g_Vi (As := [.int a1]) (rest := [.ref (A m_o)]) S X Z mlv_o rfl rfl (t_X11_isServer l D dA A hJ  hc1) (cwV 1 hts (mGV (mB 81 rfl) (mB 82 rfl) (mB 83 rfl) (mB 63 rfl) (mB 60 rfl)) rfl rfl rfl (by decide +kernel) ⟨Nat.le_of_ble_eq_true rfl, Nat.le_of_ble_eq_true rfl⟩) rfl hl.1 rfl (Nat.le_of_ble_eq_true rfl) dX11_version_3 ⟨Nat.zero_le _, Nat.zero_le _⟩ (fun H locs Z => ?_)
  obtain ⟨J31, eJ31, h⟩ := jn_e h
  have hJ31 : ∀ (b3 : Int32) (M4 : gM) (H : Heap) (locs : List Loc) (ls : Array Slot), gZ D mLay dA mLive A (gA mLive A) s.heap M4 H locs → lv_has ls 6 [(0, .ref (A m_o)), (1, .int a1), (2, .int a2), (3, .int a3), (4, .int a4)] → J31 (b3, M4) = some y → W p l e (headSpec wmX11_version ({ frames := 2, cells := 0, slots := 0, locals := 43 } : Room)).room s m args below meth c H locs 0 0 (MQ below (mQl D dA A y) args s 0 0 (gA mLive A)) (F0 m 31 ls [.int b3, .ref (A m_o)]) := by
    intro b3 M4 H locs ls Z hl h
    rw [eJ31] at h
    try dsimp only at h
    refine mp_thrown S X Z hin hl_165 dX11_version_31 h (fun M5 H locs Z h => ?_)
    refine lv_aload_n hx hb dX11_version_34 rfl (lv_at hl 0 rfl) ?_
    refine mr_thrown S X Z hin hl_165 dX11_version_35 h (fun v6 h => ?_)
    refine lv_if_le (tgt := 43) hx hb dX11_version_38 (by decide) (fun c7 => ?_) (fun c7 => ?_)
    · have h := if_t c7 h
      refine lv_bipush (v := (48 : Int32)) hx hb dX11_version_43 (by decide) ?_
      refine lv_iload_n hx hb dX11_version_45 rfl (lv_at hl 1 rfl) ?_
      refine lv_imul hx hb dX11_version_46 ?_
      refine lv_iload_n hx hb dX11_version_47 rfl (lv_at hl 2 rfl) ?_
      refine lv_iadd hx hb dX11_version_48 ?_
      refine g_topi h (fun x8 h => ?_)
      refine lv_istore (lv' := [(5, .int x8), (0, .ref (A m_o)), (1, .int a1), (2, .int a2), (3, .int a3), (4, .int a4)]) hx hb dX11_version_49 hl (by decide) rfl (fun ls hl => ?_)
      refine lv_aload_n hx hb dX11_version_51 rfl (lv_at hl 1 rfl) ?_
      refine mr_has S X Z hin hl_32 dX11_version_52 ?_
      refine lv_iload hx hb dX11_version_55 (lv_at hl 0 rfl) ?_
      refine g_zald S X Z ml_has rfl dX11_version_57 h (fun v9 h => ?_)
      refine lv_if_eq (tgt := 78) hx hb dX11_version_58 (by decide) (fun c10 => ?_) (fun c10 => ?_)
      · have h := if_t c10 h
        refine lv_ldc2 hx hb hown hc_172 dX11_version_78 ?_
        have hy := Option.some.inj h
        subst hy
        exact g_rl S Z hr hlocks dX11_version_81
      · have h := if_f c10 h
        refine lv_iload_n hx hb dX11_version_61 rfl (lv_at hl 4 rfl) ?_
        refine lv_iconst (v := (0 : Int32)) hx hb dX11_version_62 (by decide) ?_
        refine lv_aload_n hx hb dX11_version_63 rfl (lv_at hl 1 rfl) ?_
        refine mr_versions S X Z hin hl_44 dX11_version_64 ?_
        refine lv_iload hx hb dX11_version_67 (lv_at hl 0 rfl) ?_
        refine g_iald S X Z ml_versions rfl dX11_version_69 h (fun v11 h => ?_)
        refine lv_iconst (v := (1 : Int32)) hx hb dX11_version_70 (by decide) ?_
        refine lv_isub hx hb dX11_version_71 ?_
        obtain ⟨v13, hc12, h⟩ := o1_e h
        refine g_Si (As := [.int a3, .int (0 : Int32), .int (v11 - (1 : Int32))]) (rest := []) S X Z (t_X11_in l D dA A hJ  hc12) (va_cwS 3 hts (mGS (mB 61 rfl) (mB 62 rfl) (mB 63 rfl) (mB 59 rfl)) rfl rfl rfl (by decide +kernel) ⟨Nat.le_of_ble_eq_true rfl, Nat.le_of_ble_eq_true rfl⟩) rfl hl.1 rfl (Nat.le_of_ble_eq_true rfl) dX11_version_72 ⟨Nat.zero_le _, Nat.zero_le _⟩ (fun H locs Z => ?_)
        refine lv_if_ne (tgt := 82) hx hb dX11_version_75 (by decide) (fun c14 => ?_) (fun c14 => ?_)
        · have h := if_f c14 h
          refine lv_iload hx hb dX11_version_82 (lv_at hl 5 rfl) ?_
          refine lv_if_ne (tgt := 103) hx hb dX11_version_84 (by decide) (fun c15 => ?_) (fun c15 => ?_)
          · have h := if_f c15 h
            refine lv_aload_n hx hb dX11_version_103 rfl (lv_at hl 1 rfl) ?_
            refine mr_versionSize S X Z hin hl_50 dX11_version_104 ?_
            refine lv_bipush (v := (6 : Int32)) hx hb dX11_version_107 (by decide) ?_
            refine lv_iload hx hb dX11_version_109 (lv_at hl 0 rfl) ?_
            refine lv_imul hx hb dX11_version_111 ?_
            refine lv_iload_n hx hb dX11_version_112 rfl (lv_at hl 4 rfl) ?_
            refine lv_iadd hx hb dX11_version_113 ?_
            refine g_iald S X Z ml_versionSize rfl dX11_version_114 h (fun v16 h => ?_)
            refine lv_i2l hx hb dX11_version_115 rfl ?_
            have hy := Option.some.inj h
            subst hy
            exact g_rl S Z hr hlocks dX11_version_116
          · have h := if_t c15 h
            refine lv_aload_n hx hb dX11_version_87 rfl (lv_at hl 1 rfl) ?_
            refine mr_versionValue S X Z hin hl_47 dX11_version_88 ?_
            refine lv_bipush (v := (6 : Int32)) hx hb dX11_version_91 (by decide) ?_
            refine lv_iload hx hb dX11_version_93 (lv_at hl 0 rfl) ?_
            refine lv_imul hx hb dX11_version_95 ?_
            refine lv_iload_n hx hb dX11_version_96 rfl (lv_at hl 4 rfl) ?_
            refine lv_iadd hx hb dX11_version_97 ?_
            refine g_iald S X Z ml_versionValue rfl dX11_version_98 h (fun v17 h => ?_)
            refine lv_i2l hx hb dX11_version_99 rfl ?_
            refine lv_goto (tgt := 116) hx hb dX11_version_100 (by decide) ?_
            have hy := Option.some.inj h
            subst hy
            exact g_rl S Z hr hlocks dX11_version_116
        · have h := if_t c14 h
          refine lv_ldc2 hx hb hown hc_172 dX11_version_78 ?_
          have hy := Option.some.inj h
          subst hy
          exact g_rl S Z hr hlocks dX11_version_81
    · have h := if_f c7 h
      refine lv_lconst (v := (0 : Int64)) hx hb dX11_version_41 (by decide) ?_
      have hy := Option.some.inj h
      subst hy
      exact g_rl S Z hr hlocks dX11_version_42
  obtain ⟨J30, eJ30, h⟩ := jn_e h
  have hJ30 : ∀ (M18 : gM) (H : Heap) (locs : List Loc) (ls : Array Slot), gZ D mLay dA mLive A (gA mLive A) s.heap M18 H locs → lv_has ls 6 [(0, .ref (A m_o)), (1, .int a1), (2, .int a2), (3, .int a3), (4, .int a4)] → J30 M18 = some y → W p l e (headSpec wmX11_version ({ frames := 2, cells := 0, slots := 0, locals := 43 } : Room)).room s m args below meth c H locs 0 0 (MQ below (mQl D dA A y) args s 0 0 (gA mLive A)) (F0 m 30 ls [.ref (A m_o)]) := by
    intro M18 H locs ls Z hl h
    rw [eJ30] at h
    try dsimp only at h
    refine lv_iconst (v := (1 : Int32)) hx hb dX11_version_30 (by decide) ?_
    exact hJ31 (1 : Int32) M18 _ _ _ Z (lv_sub hl [0, 1, 2, 3, 4] rfl) h
  refine lv_if_eq (tgt := 30) hx hb dX11_version_6 (by decide) (fun c19 => ?_) (fun c19 => ?_)
  · have h := if_t c19 h
    exact hJ30 M _ _ _ Z (lv_sub hl [0, 1, 2, 3, 4] rfl) h
  · have h := if_f c19 h
    refine lv_iload_n hx hb dX11_version_9 rfl (lv_at hl 2 rfl) ?_
    obtain ⟨v21, hc20, h⟩ := o1_e h
    refine g_Si (As := [.int a2]) (rest := [.ref (A m_o)]) S X Z (t_X11_isObject l D dA A hJ  hc20) (va_cwS 1 hts (mGS (mB 93 rfl) (mB 94 rfl) (mB 63 rfl) (mB 65 rfl)) rfl rfl rfl (by decide +kernel) ⟨Nat.le_of_ble_eq_true rfl, Nat.le_of_ble_eq_true rfl⟩) rfl hl.1 rfl (Nat.le_of_ble_eq_true rfl) dX11_version_10 ⟨Nat.zero_le _, Nat.zero_le _⟩ (fun H locs Z => ?_)
    refine lv_if_eq (tgt := 30) hx hb dX11_version_13 (by decide) (fun c22 => ?_) (fun c22 => ?_)
    · have h := if_t c22 h
      exact hJ30 M _ _ _ Z (lv_sub hl [0, 1, 2, 3, 4] rfl) h
    · have h := if_f c22 h
      refine lv_iload hx hb dX11_version_16 (lv_at hl 4 rfl) ?_
      refine lv_iconst (v := (0 : Int32)) hx hb dX11_version_18 (by decide) ?_
      refine lv_iconst (v := (1 : Int32)) hx hb dX11_version_19 (by decide) ?_
      obtain ⟨v24, hc23, h⟩ := o1_e h
      refine g_Si (As := [.int a4, .int (0 : Int32), .int (1 : Int32)]) (rest := [.ref (A m_o)]) S X Z (t_X11_in l D dA A hJ  hc23) (va_cwS 3 hts (mGS (mB 61 rfl) (mB 62 rfl) (mB 63 rfl) (mB 59 rfl)) rfl rfl rfl (by decide +kernel) ⟨Nat.le_of_ble_eq_true rfl, Nat.le_of_ble_eq_true rfl⟩) rfl hl.1 rfl (Nat.le_of_ble_eq_true rfl) dX11_version_20 ⟨Nat.zero_le _, Nat.zero_le _⟩ (fun H locs Z => ?_)
      refine lv_if_eq (tgt := 30) hx hb dX11_version_23 (by decide) (fun c25 => ?_) (fun c25 => ?_)
      · have h := if_t c25 h
        exact hJ30 M _ _ _ Z (lv_sub hl [0, 1, 2, 3, 4] rfl) h
      · have h := if_f c25 h
        refine lv_iconst (v := (0 : Int32)) hx hb dX11_version_26 (by decide) ?_
        refine lv_goto (tgt := 31) hx hb dX11_version_27 (by decide) ?_
        exact hJ31 (0 : Int32) M _ _ _ Z (lv_sub hl [0, 1, 2, 3, 4] rfl) h
-- X11_entry (IIII)J: 92 instructions
theorem dX11_entry_0 : decode cX11_entry 0 = .ok (.aload_n 0, 1) := by decide +kernel
theorem dX11_entry_1 : decode cX11_entry 1 = .ok (.aload_n 0, 1) := by decide +kernel
theorem dX11_entry_2 : decode cX11_entry 2 = .ok (.iload_n 1, 1) := by decide +kernel
theorem dX11_entry_3 : decode cX11_entry 3 = .ok (.invokevirtual 184, 3) := by decide +kernel
theorem dX11_entry_6 : decode cX11_entry 6 = .ok (.ifCond .eq 24, 3) := by decide +kernel
theorem dX11_entry_9 : decode cX11_entry 9 = .ok (.iload_n 2, 1) := by decide +kernel
theorem dX11_entry_10 : decode cX11_entry 10 = .ok (.invokestatic 194, 3) := by decide +kernel
theorem dX11_entry_13 : decode cX11_entry 13 = .ok (.ifCond .eq 17, 3) := by decide +kernel
theorem dX11_entry_16 : decode cX11_entry 16 = .ok (.iload 4, 2) := by decide +kernel
theorem dX11_entry_18 : decode cX11_entry 18 = .ok (.iconst 0, 1) := by decide +kernel
theorem dX11_entry_19 : decode cX11_entry 19 = .ok (.iconst 2, 1) := by decide +kernel
theorem dX11_entry_20 : decode cX11_entry 20 = .ok (.invokestatic 168, 3) := by decide +kernel
theorem dX11_entry_23 : decode cX11_entry 23 = .ok (.ifCond .eq 7, 3) := by decide +kernel
theorem dX11_entry_26 : decode cX11_entry 26 = .ok (.iconst 0, 1) := by decide +kernel
theorem dX11_entry_27 : decode cX11_entry 27 = .ok (.goto 4, 3) := by decide +kernel
theorem dX11_entry_30 : decode cX11_entry 30 = .ok (.iconst 1, 1) := by decide +kernel
theorem dX11_entry_31 : decode cX11_entry 31 = .ok (.putfield 165, 3) := by decide +kernel
theorem dX11_entry_34 : decode cX11_entry 34 = .ok (.aload_n 0, 1) := by decide +kernel
theorem dX11_entry_35 : decode cX11_entry 35 = .ok (.getfield 165, 3) := by decide +kernel
theorem dX11_entry_38 : decode cX11_entry 38 = .ok (.ifCond .le 5, 3) := by decide +kernel
theorem dX11_entry_41 : decode cX11_entry 41 = .ok (.lconst 0, 1) := by decide +kernel
theorem dX11_entry_42 : decode cX11_entry 42 = .ok (.lreturn, 1) := by decide +kernel
theorem dX11_entry_43 : decode cX11_entry 43 = .ok (.aload_n 0, 1) := by decide +kernel
theorem dX11_entry_44 : decode cX11_entry 44 = .ok (.getfield 32, 3) := by decide +kernel
theorem dX11_entry_47 : decode cX11_entry 47 = .ok (.bipush 48, 2) := by decide +kernel
theorem dX11_entry_49 : decode cX11_entry 49 = .ok (.iload_n 1, 1) := by decide +kernel
theorem dX11_entry_50 : decode cX11_entry 50 = .ok (.imul, 1) := by decide +kernel
theorem dX11_entry_51 : decode cX11_entry 51 = .ok (.iload_n 2, 1) := by decide +kernel
theorem dX11_entry_52 : decode cX11_entry 52 = .ok (.iadd, 1) := by decide +kernel
theorem dX11_entry_53 : decode cX11_entry 53 = .ok (.baload, 1) := by decide +kernel
theorem dX11_entry_54 : decode cX11_entry 54 = .ok (.ifCond .ne 7, 3) := by decide +kernel
theorem dX11_entry_57 : decode cX11_entry 57 = .ok (.ldc2_w 172, 3) := by decide +kernel
theorem dX11_entry_60 : decode cX11_entry 60 = .ok (.lreturn, 1) := by decide +kernel
theorem dX11_entry_61 : decode cX11_entry 61 = .ok (.iload_n 3, 1) := by decide +kernel
theorem dX11_entry_62 : decode cX11_entry 62 = .ok (.istore 5, 2) := by decide +kernel
theorem dX11_entry_64 : decode cX11_entry 64 = .ok (.iconst 1, 1) := by decide +kernel
theorem dX11_entry_65 : decode cX11_entry 65 = .ok (.istore 6, 2) := by decide +kernel
theorem dX11_entry_67 : decode cX11_entry 67 = .ok (.iload 6, 2) := by decide +kernel
theorem dX11_entry_69 : decode cX11_entry 69 = .ok (.aload_n 0, 1) := by decide +kernel
theorem dX11_entry_70 : decode cX11_entry 70 = .ok (.getfield 162, 3) := by decide +kernel
theorem dX11_entry_73 : decode cX11_entry 73 = .ok (.if_icmp .ge 96, 3) := by decide +kernel
theorem dX11_entry_76 : decode cX11_entry 76 = .ok (.iload_n 3, 1) := by decide +kernel
theorem dX11_entry_77 : decode cX11_entry 77 = .ok (.ifCond .lt 92, 3) := by decide +kernel
theorem dX11_entry_80 : decode cX11_entry 80 = .ok (.aload_n 0, 1) := by decide +kernel
theorem dX11_entry_81 : decode cX11_entry 81 = .ok (.iload 6, 2) := by decide +kernel
theorem dX11_entry_83 : decode cX11_entry 83 = .ok (.iload_n 2, 1) := by decide +kernel
theorem dX11_entry_84 : decode cX11_entry 84 = .ok (.invokevirtual 197, 3) := by decide +kernel
theorem dX11_entry_87 : decode cX11_entry 87 = .ok (.ifCond .eq 76, 3) := by decide +kernel
theorem dX11_entry_90 : decode cX11_entry 90 = .ok (.aload_n 0, 1) := by decide +kernel
theorem dX11_entry_91 : decode cX11_entry 91 = .ok (.getfield 56, 3) := by decide +kernel
theorem dX11_entry_94 : decode cX11_entry 94 = .ok (.bipush 48, 2) := by decide +kernel
theorem dX11_entry_96 : decode cX11_entry 96 = .ok (.iload_n 1, 1) := by decide +kernel
theorem dX11_entry_97 : decode cX11_entry 97 = .ok (.imul, 1) := by decide +kernel
theorem dX11_entry_98 : decode cX11_entry 98 = .ok (.iload 6, 2) := by decide +kernel
theorem dX11_entry_100 : decode cX11_entry 100 = .ok (.iadd, 1) := by decide +kernel
theorem dX11_entry_101 : decode cX11_entry 101 = .ok (.iaload, 1) := by decide +kernel
theorem dX11_entry_102 : decode cX11_entry 102 = .ok (.ifCond .le 61, 3) := by decide +kernel
theorem dX11_entry_105 : decode cX11_entry 105 = .ok (.iload 5, 2) := by decide +kernel
theorem dX11_entry_107 : decode cX11_entry 107 = .ok (.ifCond .ne 53, 3) := by decide +kernel
theorem dX11_entry_110 : decode cX11_entry 110 = .ok (.iload 4, 2) := by decide +kernel
theorem dX11_entry_112 : decode cX11_entry 112 = .ok (.ifCond .ne 9, 3) := by decide +kernel
theorem dX11_entry_115 : decode cX11_entry 115 = .ok (.iload 6, 2) := by decide +kernel
theorem dX11_entry_117 : decode cX11_entry 117 = .ok (.i2l, 1) := by decide +kernel
theorem dX11_entry_118 : decode cX11_entry 118 = .ok (.goto 41, 3) := by decide +kernel
theorem dX11_entry_121 : decode cX11_entry 121 = .ok (.iload 4, 2) := by decide +kernel
theorem dX11_entry_123 : decode cX11_entry 123 = .ok (.iconst 1, 1) := by decide +kernel
theorem dX11_entry_124 : decode cX11_entry 124 = .ok (.if_icmp .ne 14, 3) := by decide +kernel
theorem dX11_entry_127 : decode cX11_entry 127 = .ok (.aload_n 0, 1) := by decide +kernel
theorem dX11_entry_128 : decode cX11_entry 128 = .ok (.getfield 26, 3) := by decide +kernel
theorem dX11_entry_131 : decode cX11_entry 131 = .ok (.iload 6, 2) := by decide +kernel
theorem dX11_entry_133 : decode cX11_entry 133 = .ok (.iaload, 1) := by decide +kernel
theorem dX11_entry_134 : decode cX11_entry 134 = .ok (.i2l, 1) := by decide +kernel
theorem dX11_entry_135 : decode cX11_entry 135 = .ok (.goto 24, 3) := by decide +kernel
theorem dX11_entry_138 : decode cX11_entry 138 = .ok (.aload_n 0, 1) := by decide +kernel
theorem dX11_entry_139 : decode cX11_entry 139 = .ok (.getfield 56, 3) := by decide +kernel
theorem dX11_entry_142 : decode cX11_entry 142 = .ok (.bipush 48, 2) := by decide +kernel
theorem dX11_entry_144 : decode cX11_entry 144 = .ok (.iload_n 1, 1) := by decide +kernel
theorem dX11_entry_145 : decode cX11_entry 145 = .ok (.imul, 1) := by decide +kernel
theorem dX11_entry_146 : decode cX11_entry 146 = .ok (.iload 6, 2) := by decide +kernel
theorem dX11_entry_148 : decode cX11_entry 148 = .ok (.iadd, 1) := by decide +kernel
theorem dX11_entry_149 : decode cX11_entry 149 = .ok (.iaload, 1) := by decide +kernel
theorem dX11_entry_150 : decode cX11_entry 150 = .ok (.iconst 2, 1) := by decide +kernel
theorem dX11_entry_151 : decode cX11_entry 151 = .ok (.if_icmp .ne 7, 3) := by decide +kernel
theorem dX11_entry_154 : decode cX11_entry 154 = .ok (.lconst 1, 1) := by decide +kernel
theorem dX11_entry_155 : decode cX11_entry 155 = .ok (.goto 4, 3) := by decide +kernel
theorem dX11_entry_158 : decode cX11_entry 158 = .ok (.lconst 0, 1) := by decide +kernel
theorem dX11_entry_159 : decode cX11_entry 159 = .ok (.lreturn, 1) := by decide +kernel
theorem dX11_entry_160 : decode cX11_entry 160 = .ok (.iinc 5 (-1), 3) := by decide +kernel
theorem dX11_entry_163 : decode cX11_entry 163 = .ok (.iinc 6 1, 3) := by decide +kernel
theorem dX11_entry_166 : decode cX11_entry 166 = .ok (.goto (-99), 3) := by decide +kernel
theorem dX11_entry_169 : decode cX11_entry 169 = .ok (.ldc2_w 172, 3) := by decide +kernel
theorem dX11_entry_172 : decode cX11_entry 172 = .ok (.lreturn, 1) := by decide +kernel
abbrev wmX11_entry : List Cond := .code yX11_entry cX11_entry 7 (some .long) :: mBig
def f_X11_entry_L67 (a1 : Int32) (a2 : Int32) (a3 : Int32) (a4 : Int32) (J110 : (Int32 × gM) → Option (Int64 × gM)) : Nat → Int32 → Int32 → gM → Option (Int64 × gM)
  | 0, _, _, _ => none
  | n20 + 1, x17, x18, M19 => lt (M19 m_o 6) (fun v21 => (if v21 ≤ x18 then some ((-2199023255552 : Int64), M19) else (if a3 < 0 then some ((-2199023255552 : Int64), M19) else o1 (f_X11_isChild M19 x18 a2) (fun v25 => jn (fun (q : (Int32 × gM)) => match q with | (b26, M27) => lt (x18 + 1) (fun x28 => f_X11_entry_L67 a1 a2 a3 a4 J110 n20 b26 x28 M27)) (fun J163 => (if v25 = 0 then J163 (x17, M19) else rd M19 m_entry 192 (((48 : Int32) * a1) + x18) (fun v30 => (if v30 ≤ 0 then J163 (x17, M19) else (if x17 = 0 then J110 (x18, M19) else lt (x17 + (-1)) (fun x33 => J163 (x33, M19)))))))))))
def f_X11_entry (M : gM) (a1 : Int32) (a2 : Int32) (a3 : Int32) (a4 : Int32) : Option (Int64 × gM) :=
  o1 (f_X11_isServer M a1) (fun v2 => jn (fun (q : (Int32 × gM)) => match q with | (b3, M4) => lt (gset M4 m_o 66 b3) (fun M5 => lt (M5 m_o 66) (fun v6 => (if v6 ≤ 0 then rd M5 m_has 192 (((48 : Int32) * a1) + a2) (fun v8 => (if v8 = 0 then some ((-2199023255552 : Int64), M5) else jn (fun (q : (Int32 × gM)) => match q with | (b10, M11) => (if a4 = 0 then some (b10.toInt64, M11) else (if a4 = (1 : Int32) then rd M11 m_name 48 b10 (fun v16 => some (v16.toInt64, M11)) else rd M11 m_entry 192 (((48 : Int32) * a1) + b10) (fun v14 => (if v14 = (2 : Int32) then some ((1 : Int64), M11) else some ((0 : Int64), M11)))))) (fun J110 => f_X11_entry_L67 a1 a2 a3 a4 J110 100 a3 (1 : Int32) M5))) else some ((0 : Int64), M5))))) (fun J31 => jn (fun (M34 : gM) => J31 ((1 : Int32), M34)) (fun J30 => (if v2 = 0 then J30 M else o1 (f_X11_isObject M a2) (fun v37 => (if v37 = 0 then J30 M else o1 (f_X11_in M a4 (0 : Int32) (2 : Int32)) (fun v40 => (if v40 = 0 then J30 M else J31 ((0 : Int32), M)))))))))
set_option maxHeartbeats 4000000 in
set_option maxRecDepth 100000 in
theorem t_X11_entry (l : Launch) (D : va_G) (dA : Nat → ClassId) (A : gI → Nat) (hJ : gJ mLive A) {M : gM} {a1 : Int32} {a2 : Int32} {a3 : Int32} {a4 : Int32}  {y : (Int64 × gM)} (h : f_X11_entry M a1 a2 a3 a4 = some y) : mMl l yX11_entry wmX11_entry ({ frames := 2, cells := 0, slots := 0, locals := 43 } : Room) D dA A [.ref (A m_o), .int a1, .int a2, .int a3, .int a4] M y.1 y.2 := by
  refine Met.ofW (cc := cX11_entry) (maxL := 7) (ret := (some .long)) (by decide) rfl ?_
  intro p e s m args below meth c s₁ B hml hv
  obtain ⟨rfl, hP, hK⟩ := hv
  generalize hargs : ([.ref (A m_o), .int a1, .int a2, .int a3, .int a4] : List Value).toArray = args at B ⊢
  have S : CallFix p m c cX11_entry 7 s args wmX11_entry RX11 := ⟨B.exec, B.bytes, hml, findClass_of_methodNamed B.named, atoms_spec (ws := wmX11_entry) B.pre⟩
  obtain ⟨hx, hb, -, hown, hts⟩ := id S
  have hr := B.returns
  have hlocks := B.notSynchronized
  have X : gX D vwCl dA mLive A (gA mLive A) s := ⟨hK, hJ, fun i hi => ⟨i, hi, rfl⟩⟩
  have Z : gZ D mLay dA mLive A (gA mLive A) s.heap M s.heap [] := ⟨hP, va_S.rf⟩
  have hin : ∀ w ∈ wsX110, w ∈ wmX11_entry := m_in
  have hl_26 := hts (.fieldLink RX11 26 "ReplicaFilesModel" "name" "[I") (mBc 10 rfl)
  have hl_32 := hts (.fieldLink RX11 32 "ReplicaFilesModel" "has" "[Z") (mBc 12 rfl)
  have hl_56 := hts (.fieldLink RX11 56 "ReplicaFilesModel" "entry" "[I") (mBc 20 rfl)
  have hl_162 := hts (.fieldLink RX11 162 "ReplicaFilesModel" "made" "I") (mBc 55 rfl)
  have hl_165 := hts (.fieldLink RX11 165 "ReplicaFilesModel" "thrown" "I") (mBc 58 rfl)
  have hc_172 := hts (.constantLong RX11 172 (-2199023255552)) (mBc 67 rfl)
  have hl := lv_entry ([.ref (A m_o), .int a1, .int a2, .int a3, .int a4]) (n := 7) (Nat.le_of_ble_eq_true rfl)
  rw [← hargs, lg_entry_eq, hargs]
  generalize (lg_sl ([.ref (A m_o), .int a1, .int a2, .int a3, .int a4]) ++ List.replicate (7 - (lg_sl ([.ref (A m_o), .int a1, .int a2, .int a3, .int a4])).length) Slot.unset).toArray = ls at hl ⊢
  have hl : lv_has ls 7 [(0, .ref (A m_o)), (1, .int a1), (2, .int a2), (3, .int a3), (4, .int a4)] := hl
  unfold f_X11_entry at h
  refine lv_aload_n hx hb dX11_entry_0 rfl (lv_at hl 0 rfl) ?_
  refine lv_aload_n hx hb dX11_entry_1 rfl (lv_at hl 0 rfl) ?_
  refine lv_iload_n hx hb dX11_entry_2 rfl (lv_at hl 1 rfl) ?_
  obtain ⟨v2, hc1, h⟩ := o1_e h
  refine g_Vi (As := [.int a1]) (rest := [.ref (A m_o)]) S X Z mlv_o rfl rfl (t_X11_isServer l D dA A hJ  hc1) (cwV 1 hts (mGV (mB 81 rfl) (mB 82 rfl) (mB 83 rfl) (mB 63 rfl) (mB 60 rfl)) rfl rfl rfl (by decide +kernel) ⟨Nat.le_of_ble_eq_true rfl, Nat.le_of_ble_eq_true rfl⟩) rfl hl.1 rfl (Nat.le_of_ble_eq_true rfl) dX11_entry_3 ⟨Nat.zero_le _, Nat.zero_le _⟩ (fun H locs Z => ?_)
  obtain ⟨J31, eJ31, h⟩ := jn_e h
  have hJ31 : ∀ (b3 : Int32) (M4 : gM) (H : Heap) (locs : List Loc) (ls : Array Slot), gZ D mLay dA mLive A (gA mLive A) s.heap M4 H locs → lv_has ls 7 [(0, .ref (A m_o)), (1, .int a1), (2, .int a2), (3, .int a3), (4, .int a4)] → J31 (b3, M4) = some y → W p l e (headSpec wmX11_entry ({ frames := 2, cells := 0, slots := 0, locals := 43 } : Room)).room s m args below meth c H locs 0 0 (MQ below (mQl D dA A y) args s 0 0 (gA mLive A)) (F0 m 31 ls [.int b3, .ref (A m_o)]) := by
    intro b3 M4 H locs ls Z hl h
    rw [eJ31] at h
    try dsimp only at h
    refine mp_thrown S X Z hin hl_165 dX11_entry_31 h (fun M5 H locs Z h => ?_)
    refine lv_aload_n hx hb dX11_entry_34 rfl (lv_at hl 0 rfl) ?_
    refine mr_thrown S X Z hin hl_165 dX11_entry_35 h (fun v6 h => ?_)
    refine lv_if_le (tgt := 43) hx hb dX11_entry_38 (by decide) (fun c7 => ?_) (fun c7 => ?_)
    · have h := if_t c7 h
      refine lv_aload_n hx hb dX11_entry_43 rfl (lv_at hl 0 rfl) ?_
      refine mr_has S X Z hin hl_32 dX11_entry_44 ?_
      refine lv_bipush (v := (48 : Int32)) hx hb dX11_entry_47 (by decide) ?_
      refine lv_iload_n hx hb dX11_entry_49 rfl (lv_at hl 1 rfl) ?_
      refine lv_imul hx hb dX11_entry_50 ?_
      refine lv_iload_n hx hb dX11_entry_51 rfl (lv_at hl 2 rfl) ?_
      refine lv_iadd hx hb dX11_entry_52 ?_
      refine g_zald S X Z ml_has rfl dX11_entry_53 h (fun v8 h => ?_)
      refine lv_if_ne (tgt := 61) hx hb dX11_entry_54 (by decide) (fun c9 => ?_) (fun c9 => ?_)
      · have h := if_f c9 h
        refine lv_iload_n hx hb dX11_entry_61 rfl (lv_at hl 3 rfl) ?_
        refine lv_istore (lv' := [(5, .int a3), (0, .ref (A m_o)), (1, .int a1), (2, .int a2), (3, .int a3), (4, .int a4)]) hx hb dX11_entry_62 hl (by decide) rfl (fun ls hl => ?_)
        refine lv_iconst (v := (1 : Int32)) hx hb dX11_entry_64 (by decide) ?_
        refine lv_istore (lv' := [(6, .int (1 : Int32)), (5, .int a3), (0, .ref (A m_o)), (1, .int a1), (2, .int a2), (3, .int a3), (4, .int a4)]) hx hb dX11_entry_65 hl (by decide) rfl (fun ls hl => ?_)
        obtain ⟨J110, eJ110, h⟩ := jn_e h
        have hJ110 : ∀ (b10 : Int32) (M11 : gM) (H : Heap) (locs : List Loc) (ls : Array Slot), gZ D mLay dA mLive A (gA mLive A) s.heap M11 H locs → lv_has ls 7 [(0, .ref (A m_o)), (1, .int a1), (4, .int a4), (6, .int b10)] → J110 (b10, M11) = some y → W p l e (headSpec wmX11_entry ({ frames := 2, cells := 0, slots := 0, locals := 43 } : Room)).room s m args below meth c H locs 0 0 (MQ below (mQl D dA A y) args s 0 0 (gA mLive A)) (F0 m 110 ls []) := by
          intro b10 M11 H locs ls Z hl h
          rw [eJ110] at h
          try dsimp only at h
          refine lv_iload hx hb dX11_entry_110 (lv_at hl 2 rfl) ?_
          refine lv_if_ne (tgt := 121) hx hb dX11_entry_112 (by decide) (fun c12 => ?_) (fun c12 => ?_)
          · have h := if_f c12 h
            refine lv_iload hx hb dX11_entry_121 (lv_at hl 2 rfl) ?_
            refine lv_iconst (v := (1 : Int32)) hx hb dX11_entry_123 (by decide) ?_
            refine lv_icmp_ne (tgt := 138) hx hb dX11_entry_124 (by decide) (fun c13 => ?_) (fun c13 => ?_)
            · have h := if_f c13 h
              refine lv_aload_n hx hb dX11_entry_138 rfl (lv_at hl 0 rfl) ?_
              refine mr_entry S X Z hin hl_56 dX11_entry_139 ?_
              refine lv_bipush (v := (48 : Int32)) hx hb dX11_entry_142 (by decide) ?_
              refine lv_iload_n hx hb dX11_entry_144 rfl (lv_at hl 1 rfl) ?_
              refine lv_imul hx hb dX11_entry_145 ?_
              refine lv_iload hx hb dX11_entry_146 (lv_at hl 3 rfl) ?_
              refine lv_iadd hx hb dX11_entry_148 ?_
              refine g_iald S X Z ml_entry rfl dX11_entry_149 h (fun v14 h => ?_)
              refine lv_iconst (v := (2 : Int32)) hx hb dX11_entry_150 (by decide) ?_
              refine lv_icmp_ne (tgt := 158) hx hb dX11_entry_151 (by decide) (fun c15 => ?_) (fun c15 => ?_)
              · have h := if_f c15 h
                refine lv_lconst (v := (0 : Int64)) hx hb dX11_entry_158 (by decide) ?_
                have hy := Option.some.inj h
                subst hy
                exact g_rl S Z hr hlocks dX11_entry_159
              · have h := if_t c15 h
                refine lv_lconst (v := (1 : Int64)) hx hb dX11_entry_154 (by decide) ?_
                refine lv_goto (tgt := 159) hx hb dX11_entry_155 (by decide) ?_
                have hy := Option.some.inj h
                subst hy
                exact g_rl S Z hr hlocks dX11_entry_159
            · have h := if_t c13 h
              refine lv_aload_n hx hb dX11_entry_127 rfl (lv_at hl 0 rfl) ?_
              refine mr_name S X Z hin hl_26 dX11_entry_128 ?_
              refine lv_iload hx hb dX11_entry_131 (lv_at hl 3 rfl) ?_
              refine g_iald S X Z ml_name rfl dX11_entry_133 h (fun v16 h => ?_)
              refine lv_i2l hx hb dX11_entry_134 rfl ?_
              refine lv_goto (tgt := 159) hx hb dX11_entry_135 (by decide) ?_
              have hy := Option.some.inj h
              subst hy
              exact g_rl S Z hr hlocks dX11_entry_159
          · have h := if_t c12 h
            refine lv_iload hx hb dX11_entry_115 (lv_at hl 3 rfl) ?_
            refine lv_i2l hx hb dX11_entry_117 rfl ?_
            refine lv_goto (tgt := 159) hx hb dX11_entry_118 (by decide) ?_
            have hy := Option.some.inj h
            subst hy
            exact g_rl S Z hr hlocks dX11_entry_159
        have hL67 : ∀ (n : Nat) (x17 : Int32) (x18 : Int32) (M19 : gM) (H : Heap) (locs : List Loc) (ls : Array Slot), gZ D mLay dA mLive A (gA mLive A) s.heap M19 H locs → lv_has ls 7 [(0, .ref (A m_o)), (1, .int a1), (2, .int a2), (3, .int a3), (4, .int a4), (5, .int x17), (6, .int x18)] → f_X11_entry_L67 a1 a2 a3 a4 J110 n x17 x18 M19 = some y → W p l e (headSpec wmX11_entry ({ frames := 2, cells := 0, slots := 0, locals := 43 } : Room)).room s m args below meth c H locs 0 0 (MQ below (mQl D dA A y) args s 0 0 (gA mLive A)) (F0 m 67 ls []) := by
          intro n
          induction n with
          | zero =>
            intro x17 x18 M19 H locs ls Z hl h
            rw [f_X11_entry_L67] at h
            cases h
          | succ n20 ih67 =>
            intro x17 x18 M19 H locs ls Z hl h
            rw [f_X11_entry_L67] at h
            refine lv_iload hx hb dX11_entry_67 (lv_at hl 6 rfl) ?_
            refine lv_aload_n hx hb dX11_entry_69 rfl (lv_at hl 0 rfl) ?_
            refine mr_made S X Z hin hl_162 dX11_entry_70 h (fun v21 h => ?_)
            refine lv_icmp_ge (tgt := 169) hx hb dX11_entry_73 (by decide) (fun c22 => ?_) (fun c22 => ?_)
            · have h := if_t c22 h
              refine lv_ldc2 hx hb hown hc_172 dX11_entry_169 ?_
              have hy := Option.some.inj h
              subst hy
              exact g_rl S Z hr hlocks dX11_entry_172
            · have h := if_f c22 h
              refine lv_iload_n hx hb dX11_entry_76 rfl (lv_at hl 3 rfl) ?_
              refine lv_if_lt (tgt := 169) hx hb dX11_entry_77 (by decide) (fun c23 => ?_) (fun c23 => ?_)
              · have h := if_t c23 h
                refine lv_ldc2 hx hb hown hc_172 dX11_entry_169 ?_
                have hy := Option.some.inj h
                subst hy
                exact g_rl S Z hr hlocks dX11_entry_172
              · have h := if_f c23 h
                refine lv_aload_n hx hb dX11_entry_80 rfl (lv_at hl 0 rfl) ?_
                refine lv_iload hx hb dX11_entry_81 (lv_at hl 6 rfl) ?_
                refine lv_iload_n hx hb dX11_entry_83 rfl (lv_at hl 2 rfl) ?_
                obtain ⟨v25, hc24, h⟩ := o1_e h
                refine g_Vi (As := [.int x18, .int a2]) (rest := []) S X Z mlv_o rfl rfl (t_X11_isChild l D dA A hJ  hc24) (cwV 2 hts (mGV (mB 104 rfl) (mB 105 rfl) (mB 106 rfl) (mB 63 rfl) (mB 102 rfl)) rfl rfl rfl (by decide +kernel) ⟨Nat.le_of_ble_eq_true rfl, Nat.le_of_ble_eq_true rfl⟩) rfl hl.1 rfl (Nat.le_of_ble_eq_true rfl) dX11_entry_84 ⟨Nat.zero_le _, Nat.zero_le _⟩ (fun H locs Z => ?_)
                obtain ⟨J163, eJ163, h⟩ := jn_e h
                have hJ163 : ∀ (b26 : Int32) (M27 : gM) (H : Heap) (locs : List Loc) (ls : Array Slot), gZ D mLay dA mLive A (gA mLive A) s.heap M27 H locs → lv_has ls 7 [(0, .ref (A m_o)), (1, .int a1), (2, .int a2), (3, .int a3), (4, .int a4), (5, .int b26), (6, .int x18)] → J163 (b26, M27) = some y → W p l e (headSpec wmX11_entry ({ frames := 2, cells := 0, slots := 0, locals := 43 } : Room)).room s m args below meth c H locs 0 0 (MQ below (mQl D dA A y) args s 0 0 (gA mLive A)) (F0 m 163 ls []) := by
                  intro b26 M27 H locs ls Z hl h
                  rw [eJ163] at h
                  try dsimp only at h
                  obtain ⟨x28, ex28, h⟩ := lt_e h
                  refine lv_iinc (v := x28) (lv' := [(6, .int x28), (0, .ref (A m_o)), (1, .int a1), (2, .int a2), (3, .int a3), (4, .int a4), (5, .int b26)]) hx hb dX11_entry_163 hl (k := 6) rfl (by rw [ex28]; rfl) (by decide) rfl (fun ls hl => ?_)
                  refine lv_goto (tgt := 67) hx hb dX11_entry_166 (by decide) ?_
                  exact ih67 b26 x28 M27 _ _ _ Z (lv_sub hl [1, 2, 3, 4, 5, 6, 0] rfl) h
                refine lv_if_eq (tgt := 163) hx hb dX11_entry_87 (by decide) (fun c29 => ?_) (fun c29 => ?_)
                · have h := if_t c29 h
                  exact hJ163 x17 M19 _ _ _ Z (lv_sub hl [0, 1, 2, 3, 4, 5, 6] rfl) h
                · have h := if_f c29 h
                  refine lv_aload_n hx hb dX11_entry_90 rfl (lv_at hl 0 rfl) ?_
                  refine mr_entry S X Z hin hl_56 dX11_entry_91 ?_
                  refine lv_bipush (v := (48 : Int32)) hx hb dX11_entry_94 (by decide) ?_
                  refine lv_iload_n hx hb dX11_entry_96 rfl (lv_at hl 1 rfl) ?_
                  refine lv_imul hx hb dX11_entry_97 ?_
                  refine lv_iload hx hb dX11_entry_98 (lv_at hl 6 rfl) ?_
                  refine lv_iadd hx hb dX11_entry_100 ?_
                  refine g_iald S X Z ml_entry rfl dX11_entry_101 h (fun v30 h => ?_)
                  refine lv_if_le (tgt := 163) hx hb dX11_entry_102 (by decide) (fun c31 => ?_) (fun c31 => ?_)
                  · have h := if_t c31 h
                    exact hJ163 x17 M19 _ _ _ Z (lv_sub hl [0, 1, 2, 3, 4, 5, 6] rfl) h
                  · have h := if_f c31 h
                    refine lv_iload hx hb dX11_entry_105 (lv_at hl 5 rfl) ?_
                    refine lv_if_ne (tgt := 160) hx hb dX11_entry_107 (by decide) (fun c32 => ?_) (fun c32 => ?_)
                    · have h := if_f c32 h
                      obtain ⟨x33, ex33, h⟩ := lt_e h
                      refine lv_iinc (v := x33) (lv' := [(5, .int x33), (0, .ref (A m_o)), (1, .int a1), (2, .int a2), (3, .int a3), (4, .int a4), (6, .int x18)]) hx hb dX11_entry_160 hl (k := 5) rfl (by rw [ex33]; rfl) (by decide) rfl (fun ls hl => ?_)
                      exact hJ163 x33 M19 _ _ _ Z (lv_sub hl [1, 2, 3, 4, 5, 0, 6] rfl) h
                    · have h := if_t c32 h
                      exact hJ110 x18 M19 _ _ _ Z (lv_sub hl [0, 1, 4, 6] rfl) h
        exact hL67 100 a3 (1 : Int32) M5 _ _ _ Z (lv_sub hl [2, 3, 4, 5, 6, 1, 0] rfl) h
      · have h := if_t c9 h
        refine lv_ldc2 hx hb hown hc_172 dX11_entry_57 ?_
        have hy := Option.some.inj h
        subst hy
        exact g_rl S Z hr hlocks dX11_entry_60
    · have h := if_f c7 h
      refine lv_lconst (v := (0 : Int64)) hx hb dX11_entry_41 (by decide) ?_
      have hy := Option.some.inj h
      subst hy
      exact g_rl S Z hr hlocks dX11_entry_42
  obtain ⟨J30, eJ30, h⟩ := jn_e h
  have hJ30 : ∀ (M34 : gM) (H : Heap) (locs : List Loc) (ls : Array Slot), gZ D mLay dA mLive A (gA mLive A) s.heap M34 H locs → lv_has ls 7 [(0, .ref (A m_o)), (1, .int a1), (2, .int a2), (3, .int a3), (4, .int a4)] → J30 M34 = some y → W p l e (headSpec wmX11_entry ({ frames := 2, cells := 0, slots := 0, locals := 43 } : Room)).room s m args below meth c H locs 0 0 (MQ below (mQl D dA A y) args s 0 0 (gA mLive A)) (F0 m 30 ls [.ref (A m_o)]) := by
    intro M34 H locs ls Z hl h
    rw [eJ30] at h
    try dsimp only at h
    refine lv_iconst (v := (1 : Int32)) hx hb dX11_entry_30 (by decide) ?_
    exact hJ31 (1 : Int32) M34 _ _ _ Z (lv_sub hl [0, 1, 2, 3, 4] rfl) h
  refine lv_if_eq (tgt := 30) hx hb dX11_entry_6 (by decide) (fun c35 => ?_) (fun c35 => ?_)
  · have h := if_t c35 h
    exact hJ30 M _ _ _ Z (lv_sub hl [0, 1, 2, 3, 4] rfl) h
  · have h := if_f c35 h
    refine lv_iload_n hx hb dX11_entry_9 rfl (lv_at hl 2 rfl) ?_
    obtain ⟨v37, hc36, h⟩ := o1_e h
    refine g_Si (As := [.int a2]) (rest := [.ref (A m_o)]) S X Z (t_X11_isObject l D dA A hJ  hc36) (va_cwS 1 hts (mGS (mB 93 rfl) (mB 94 rfl) (mB 63 rfl) (mB 65 rfl)) rfl rfl rfl (by decide +kernel) ⟨Nat.le_of_ble_eq_true rfl, Nat.le_of_ble_eq_true rfl⟩) rfl hl.1 rfl (Nat.le_of_ble_eq_true rfl) dX11_entry_10 ⟨Nat.zero_le _, Nat.zero_le _⟩ (fun H locs Z => ?_)
    refine lv_if_eq (tgt := 30) hx hb dX11_entry_13 (by decide) (fun c38 => ?_) (fun c38 => ?_)
    · have h := if_t c38 h
      exact hJ30 M _ _ _ Z (lv_sub hl [0, 1, 2, 3, 4] rfl) h
    · have h := if_f c38 h
      refine lv_iload hx hb dX11_entry_16 (lv_at hl 4 rfl) ?_
      refine lv_iconst (v := (0 : Int32)) hx hb dX11_entry_18 (by decide) ?_
      refine lv_iconst (v := (2 : Int32)) hx hb dX11_entry_19 (by decide) ?_
      obtain ⟨v40, hc39, h⟩ := o1_e h
      refine g_Si (As := [.int a4, .int (0 : Int32), .int (2 : Int32)]) (rest := [.ref (A m_o)]) S X Z (t_X11_in l D dA A hJ  hc39) (va_cwS 3 hts (mGS (mB 61 rfl) (mB 62 rfl) (mB 63 rfl) (mB 59 rfl)) rfl rfl rfl (by decide +kernel) ⟨Nat.le_of_ble_eq_true rfl, Nat.le_of_ble_eq_true rfl⟩) rfl hl.1 rfl (Nat.le_of_ble_eq_true rfl) dX11_entry_20 ⟨Nat.zero_le _, Nat.zero_le _⟩ (fun H locs Z => ?_)
      refine lv_if_eq (tgt := 30) hx hb dX11_entry_23 (by decide) (fun c41 => ?_) (fun c41 => ?_)
      · have h := if_t c41 h
        exact hJ30 M _ _ _ Z (lv_sub hl [0, 1, 2, 3, 4] rfl) h
      · have h := if_f c41 h
        refine lv_iconst (v := (0 : Int32)) hx hb dX11_entry_26 (by decide) ?_
        refine lv_goto (tgt := 31) hx hb dX11_entry_27 (by decide) ?_
        exact hJ31 (0 : Int32) M _ _ _ Z (lv_sub hl [0, 1, 2, 3, 4] rfl) h
-- X11_keptThere (II)I: 33 instructions
theorem dX11_keptThere_0 : decode cX11_keptThere 0 = .ok (.iconst 0, 1) := by decide +kernel
theorem dX11_keptThere_1 : decode cX11_keptThere 1 = .ok (.istore_n 3, 1) := by decide +kernel
theorem dX11_keptThere_2 : decode cX11_keptThere 2 = .ok (.iconst 1, 1) := by decide +kernel
theorem dX11_keptThere_3 : decode cX11_keptThere 3 = .ok (.istore 4, 2) := by decide +kernel
theorem dX11_keptThere_5 : decode cX11_keptThere 5 = .ok (.iload 4, 2) := by decide +kernel
theorem dX11_keptThere_7 : decode cX11_keptThere 7 = .ok (.aload_n 0, 1) := by decide +kernel
theorem dX11_keptThere_8 : decode cX11_keptThere 8 = .ok (.getfield 162, 3) := by decide +kernel
theorem dX11_keptThere_11 : decode cX11_keptThere 11 = .ok (.if_icmp .ge 43, 3) := by decide +kernel
theorem dX11_keptThere_14 : decode cX11_keptThere 14 = .ok (.aload_n 0, 1) := by decide +kernel
theorem dX11_keptThere_15 : decode cX11_keptThere 15 = .ok (.iload 4, 2) := by decide +kernel
theorem dX11_keptThere_17 : decode cX11_keptThere 17 = .ok (.iload_n 2, 1) := by decide +kernel
theorem dX11_keptThere_18 : decode cX11_keptThere 18 = .ok (.invokevirtual 197, 3) := by decide +kernel
theorem dX11_keptThere_21 : decode cX11_keptThere 21 = .ok (.ifCond .eq 25, 3) := by decide +kernel
theorem dX11_keptThere_24 : decode cX11_keptThere 24 = .ok (.aload_n 0, 1) := by decide +kernel
theorem dX11_keptThere_25 : decode cX11_keptThere 25 = .ok (.getfield 89, 3) := by decide +kernel
theorem dX11_keptThere_28 : decode cX11_keptThere 28 = .ok (.bipush 48, 2) := by decide +kernel
theorem dX11_keptThere_30 : decode cX11_keptThere 30 = .ok (.iload_n 1, 1) := by decide +kernel
theorem dX11_keptThere_31 : decode cX11_keptThere 31 = .ok (.imul, 1) := by decide +kernel
theorem dX11_keptThere_32 : decode cX11_keptThere 32 = .ok (.iload 4, 2) := by decide +kernel
theorem dX11_keptThere_34 : decode cX11_keptThere 34 = .ok (.iadd, 1) := by decide +kernel
theorem dX11_keptThere_35 : decode cX11_keptThere 35 = .ok (.iaload, 1) := by decide +kernel
theorem dX11_keptThere_36 : decode cX11_keptThere 36 = .ok (.iconst 1, 1) := by decide +kernel
theorem dX11_keptThere_37 : decode cX11_keptThere 37 = .ok (.if_icmp .ne 9, 3) := by decide +kernel
theorem dX11_keptThere_40 : decode cX11_keptThere 40 = .ok (.iload_n 3, 1) := by decide +kernel
theorem dX11_keptThere_41 : decode cX11_keptThere 41 = .ok (.iconst 1, 1) := by decide +kernel
theorem dX11_keptThere_42 : decode cX11_keptThere 42 = .ok (.iadd, 1) := by decide +kernel
theorem dX11_keptThere_43 : decode cX11_keptThere 43 = .ok (.goto 4, 3) := by decide +kernel
theorem dX11_keptThere_46 : decode cX11_keptThere 46 = .ok (.iload_n 3, 1) := by decide +kernel
theorem dX11_keptThere_47 : decode cX11_keptThere 47 = .ok (.istore_n 3, 1) := by decide +kernel
theorem dX11_keptThere_48 : decode cX11_keptThere 48 = .ok (.iinc 4 1, 3) := by decide +kernel
theorem dX11_keptThere_51 : decode cX11_keptThere 51 = .ok (.goto (-46), 3) := by decide +kernel
theorem dX11_keptThere_54 : decode cX11_keptThere 54 = .ok (.iload_n 3, 1) := by decide +kernel
theorem dX11_keptThere_55 : decode cX11_keptThere 55 = .ok (.ireturn, 1) := by decide +kernel
abbrev wmX11_keptThere : List Cond := .code yX11_keptThere cX11_keptThere 5 (some .int) :: mBig
def f_X11_keptThere_L5 (M3 : gM) (a1 : Int32) (a2 : Int32) : Nat → Int32 → Int32 → Option Int32
  | 0, _, _ => none
  | n4 + 1, x1, x2 => lt (M3 m_o 6) (fun v5 => (if v5 ≤ x2 then some x1 else o1 (f_X11_isChild M3 x2 a2) (fun v8 => jn (fun (b9 : Int32) => lt (x2 + 1) (fun x10 => f_X11_keptThere_L5 M3 a1 a2 n4 b9 x10)) (fun J47 => jn (fun (_ : Unit) => J47 x1) (fun J46 => (if v8 = 0 then J46 () else rd M3 m_keptEntry 192 (((48 : Int32) * a1) + x2) (fun v12 => (if v12 = (1 : Int32) then J47 (x1 + (1 : Int32)) else J46 ()))))))))
def f_X11_keptThere (M : gM) (a1 : Int32) (a2 : Int32) : Option Int32 :=
  f_X11_keptThere_L5 M a1 a2 100 (0 : Int32) (1 : Int32)
set_option maxHeartbeats 4000000 in
set_option maxRecDepth 100000 in
theorem t_X11_keptThere (l : Launch) (D : va_G) (dA : Nat → ClassId) (A : gI → Nat) (hJ : gJ mLive A) {M : gM} {a1 : Int32} {a2 : Int32}  {y : Int32} (h : f_X11_keptThere M a1 a2 = some y) : mMi l yX11_keptThere wmX11_keptThere ({ frames := 1, cells := 0, slots := 0, locals := 22 } : Room) D dA A [.ref (A m_o), .int a1, .int a2] M y M := by
  refine Met.ofW (cc := cX11_keptThere) (maxL := 5) (ret := (some .int)) (by decide) rfl ?_
  intro p e s m args below meth c s₁ B hml hv
  obtain ⟨rfl, hP, hK⟩ := hv
  generalize hargs : ([.ref (A m_o), .int a1, .int a2] : List Value).toArray = args at B ⊢
  have S : CallFix p m c cX11_keptThere 5 s args wmX11_keptThere RX11 := ⟨B.exec, B.bytes, hml, findClass_of_methodNamed B.named, atoms_spec (ws := wmX11_keptThere) B.pre⟩
  obtain ⟨hx, hb, -, hown, hts⟩ := id S
  have hr := B.returns
  have hlocks := B.notSynchronized
  have X : gX D vwCl dA mLive A (gA mLive A) s := ⟨hK, hJ, fun i hi => ⟨i, hi, rfl⟩⟩
  have Z : gZ D mLay dA mLive A (gA mLive A) s.heap M s.heap [] := ⟨hP, va_S.rf⟩
  have hin : ∀ w ∈ wsX110, w ∈ wmX11_keptThere := m_in
  have hl_89 := hts (.fieldLink RX11 89 "ReplicaFilesModel" "keptEntry" "[I") (mBc 31 rfl)
  have hl_162 := hts (.fieldLink RX11 162 "ReplicaFilesModel" "made" "I") (mBc 55 rfl)
  have hl := lv_entry ([.ref (A m_o), .int a1, .int a2]) (n := 5) (Nat.le_of_ble_eq_true rfl)
  rw [← hargs, lg_entry_eq, hargs]
  generalize (lg_sl ([.ref (A m_o), .int a1, .int a2]) ++ List.replicate (5 - (lg_sl ([.ref (A m_o), .int a1, .int a2])).length) Slot.unset).toArray = ls at hl ⊢
  have hl : lv_has ls 5 [(0, .ref (A m_o)), (1, .int a1), (2, .int a2)] := hl
  unfold f_X11_keptThere at h
  refine lv_iconst (v := (0 : Int32)) hx hb dX11_keptThere_0 (by decide) ?_
  refine lv_istore_n (lv' := [(3, .int (0 : Int32)), (0, .ref (A m_o)), (1, .int a1), (2, .int a2)]) hx hb dX11_keptThere_1 rfl hl (by decide) rfl (fun ls hl => ?_)
  refine lv_iconst (v := (1 : Int32)) hx hb dX11_keptThere_2 (by decide) ?_
  refine lv_istore (lv' := [(4, .int (1 : Int32)), (3, .int (0 : Int32)), (0, .ref (A m_o)), (1, .int a1), (2, .int a2)]) hx hb dX11_keptThere_3 hl (by decide) rfl (fun ls hl => ?_)
  have hL5 : ∀ (n : Nat) (x1 : Int32) (x2 : Int32) (H : Heap) (locs : List Loc) (ls : Array Slot), gZ D mLay dA mLive A (gA mLive A) s.heap M H locs → lv_has ls 5 [(0, .ref (A m_o)), (1, .int a1), (2, .int a2), (3, .int x1), (4, .int x2)] → f_X11_keptThere_L5 M a1 a2 n x1 x2 = some y → W p l e (headSpec wmX11_keptThere ({ frames := 1, cells := 0, slots := 0, locals := 22 } : Room)).room s m args below meth c H locs 0 0 (MQ below (mQi D dA A (y, M)) args s 0 0 (gA mLive A)) (F0 m 5 ls []) := by
    intro n
    induction n with
    | zero =>
      intro x1 x2 H locs ls Z hl h
      rw [f_X11_keptThere_L5] at h
      cases h
    | succ n4 ih5 =>
      intro x1 x2 H locs ls Z hl h
      rw [f_X11_keptThere_L5] at h
      refine lv_iload hx hb dX11_keptThere_5 (lv_at hl 4 rfl) ?_
      refine lv_aload_n hx hb dX11_keptThere_7 rfl (lv_at hl 0 rfl) ?_
      refine mr_made S X Z hin hl_162 dX11_keptThere_8 h (fun v5 h => ?_)
      refine lv_icmp_ge (tgt := 54) hx hb dX11_keptThere_11 (by decide) (fun c6 => ?_) (fun c6 => ?_)
      · have h := if_t c6 h
        refine lv_iload_n hx hb dX11_keptThere_54 rfl (lv_at hl 3 rfl) ?_
        have hy := Option.some.inj h
        subst hy
        exact g_ri S Z hr hlocks dX11_keptThere_55
      · have h := if_f c6 h
        refine lv_aload_n hx hb dX11_keptThere_14 rfl (lv_at hl 0 rfl) ?_
        refine lv_iload hx hb dX11_keptThere_15 (lv_at hl 4 rfl) ?_
        refine lv_iload_n hx hb dX11_keptThere_17 rfl (lv_at hl 2 rfl) ?_
        obtain ⟨v8, hc7, h⟩ := o1_e h
        refine g_Vi (As := [.int x2, .int a2]) (rest := []) S X Z mlv_o rfl rfl (t_X11_isChild l D dA A hJ  hc7) (cwV 2 hts (mGV (mB 104 rfl) (mB 105 rfl) (mB 106 rfl) (mB 63 rfl) (mB 102 rfl)) rfl rfl rfl (by decide +kernel) ⟨Nat.le_of_ble_eq_true rfl, Nat.le_of_ble_eq_true rfl⟩) rfl hl.1 rfl (Nat.le_of_ble_eq_true rfl) dX11_keptThere_18 ⟨Nat.zero_le _, Nat.zero_le _⟩ (fun H locs Z => ?_)
        obtain ⟨J47, eJ47, h⟩ := jn_e h
        have hJ47 : ∀ (b9 : Int32) (H : Heap) (locs : List Loc) (ls : Array Slot), gZ D mLay dA mLive A (gA mLive A) s.heap M H locs → lv_has ls 5 [(0, .ref (A m_o)), (1, .int a1), (2, .int a2), (4, .int x2)] → J47 b9 = some y → W p l e (headSpec wmX11_keptThere ({ frames := 1, cells := 0, slots := 0, locals := 22 } : Room)).room s m args below meth c H locs 0 0 (MQ below (mQi D dA A (y, M)) args s 0 0 (gA mLive A)) (F0 m 47 ls [.int b9]) := by
          intro b9 H locs ls Z hl h
          rw [eJ47] at h
          try dsimp only at h
          refine lv_istore_n (lv' := [(3, .int b9), (0, .ref (A m_o)), (1, .int a1), (2, .int a2), (4, .int x2)]) hx hb dX11_keptThere_47 rfl hl (by decide) rfl (fun ls hl => ?_)
          obtain ⟨x10, ex10, h⟩ := lt_e h
          refine lv_iinc (v := x10) (lv' := [(4, .int x10), (3, .int b9), (0, .ref (A m_o)), (1, .int a1), (2, .int a2)]) hx hb dX11_keptThere_48 hl (k := 4) rfl (by rw [ex10]; rfl) (by decide) rfl (fun ls hl => ?_)
          refine lv_goto (tgt := 5) hx hb dX11_keptThere_51 (by decide) ?_
          exact ih5 b9 x10 _ _ _ Z (lv_sub hl [2, 3, 4, 1, 0] rfl) h
        obtain ⟨J46, eJ46, h⟩ := jn_e h
        have hJ46 : ∀  (H : Heap) (locs : List Loc) (ls : Array Slot), gZ D mLay dA mLive A (gA mLive A) s.heap M H locs → lv_has ls 5 [(0, .ref (A m_o)), (1, .int a1), (2, .int a2), (3, .int x1), (4, .int x2)] → J46 () = some y → W p l e (headSpec wmX11_keptThere ({ frames := 1, cells := 0, slots := 0, locals := 22 } : Room)).room s m args below meth c H locs 0 0 (MQ below (mQi D dA A (y, M)) args s 0 0 (gA mLive A)) (F0 m 46 ls []) := by
          intro  H locs ls Z hl h
          rw [eJ46] at h
          try dsimp only at h
          refine lv_iload_n hx hb dX11_keptThere_46 rfl (lv_at hl 3 rfl) ?_
          exact hJ47 x1 _ _ _ Z (lv_sub hl [0, 1, 2, 4] rfl) h
        refine lv_if_eq (tgt := 46) hx hb dX11_keptThere_21 (by decide) (fun c11 => ?_) (fun c11 => ?_)
        · have h := if_t c11 h
          exact hJ46  _ _ _ Z (lv_sub hl [0, 1, 2, 3, 4] rfl) h
        · have h := if_f c11 h
          refine lv_aload_n hx hb dX11_keptThere_24 rfl (lv_at hl 0 rfl) ?_
          refine mr_keptEntry S X Z hin hl_89 dX11_keptThere_25 ?_
          refine lv_bipush (v := (48 : Int32)) hx hb dX11_keptThere_28 (by decide) ?_
          refine lv_iload_n hx hb dX11_keptThere_30 rfl (lv_at hl 1 rfl) ?_
          refine lv_imul hx hb dX11_keptThere_31 ?_
          refine lv_iload hx hb dX11_keptThere_32 (lv_at hl 4 rfl) ?_
          refine lv_iadd hx hb dX11_keptThere_34 ?_
          refine g_iald S X Z ml_keptEntry rfl dX11_keptThere_35 h (fun v12 h => ?_)
          refine lv_iconst (v := (1 : Int32)) hx hb dX11_keptThere_36 (by decide) ?_
          refine lv_icmp_ne (tgt := 46) hx hb dX11_keptThere_37 (by decide) (fun c13 => ?_) (fun c13 => ?_)
          · have h := if_f c13 h
            exact hJ46  _ _ _ Z (lv_sub hl [0, 1, 2, 3, 4] rfl) h
          · have h := if_t c13 h
            refine lv_iload_n hx hb dX11_keptThere_40 rfl (lv_at hl 3 rfl) ?_
            refine lv_iconst (v := (1 : Int32)) hx hb dX11_keptThere_41 (by decide) ?_
            refine lv_iadd hx hb dX11_keptThere_42 ?_
            refine lv_goto (tgt := 47) hx hb dX11_keptThere_43 (by decide) ?_
            exact hJ47 (x1 + (1 : Int32)) _ _ _ Z (lv_sub hl [0, 1, 2, 4] rfl) h
  exact hL5 100 (0 : Int32) (1 : Int32) _ _ _ Z (lv_sub hl [2, 3, 4, 1, 0] rfl) h
-- X11_cached (III)J: 90 instructions
theorem dX11_cached_0 : decode cX11_cached 0 = .ok (.aload_n 0, 1) := by decide +kernel
theorem dX11_cached_1 : decode cX11_cached 1 = .ok (.iload_n 1, 1) := by decide +kernel
theorem dX11_cached_2 : decode cX11_cached 2 = .ok (.invokestatic 191, 3) := by decide +kernel
theorem dX11_cached_5 : decode cX11_cached 5 = .ok (.ifCond .eq 23, 3) := by decide +kernel
theorem dX11_cached_8 : decode cX11_cached 8 = .ok (.iload_n 2, 1) := by decide +kernel
theorem dX11_cached_9 : decode cX11_cached 9 = .ok (.invokestatic 194, 3) := by decide +kernel
theorem dX11_cached_12 : decode cX11_cached 12 = .ok (.ifCond .eq 16, 3) := by decide +kernel
theorem dX11_cached_15 : decode cX11_cached 15 = .ok (.iload_n 3, 1) := by decide +kernel
theorem dX11_cached_16 : decode cX11_cached 16 = .ok (.iconst 0, 1) := by decide +kernel
theorem dX11_cached_17 : decode cX11_cached 17 = .ok (.iconst 4, 1) := by decide +kernel
theorem dX11_cached_18 : decode cX11_cached 18 = .ok (.invokestatic 168, 3) := by decide +kernel
theorem dX11_cached_21 : decode cX11_cached 21 = .ok (.ifCond .eq 7, 3) := by decide +kernel
theorem dX11_cached_24 : decode cX11_cached 24 = .ok (.iconst 0, 1) := by decide +kernel
theorem dX11_cached_25 : decode cX11_cached 25 = .ok (.goto 4, 3) := by decide +kernel
theorem dX11_cached_28 : decode cX11_cached 28 = .ok (.iconst 1, 1) := by decide +kernel
theorem dX11_cached_29 : decode cX11_cached 29 = .ok (.putfield 165, 3) := by decide +kernel
theorem dX11_cached_32 : decode cX11_cached 32 = .ok (.aload_n 0, 1) := by decide +kernel
theorem dX11_cached_33 : decode cX11_cached 33 = .ok (.getfield 165, 3) := by decide +kernel
theorem dX11_cached_36 : decode cX11_cached 36 = .ok (.ifCond .le 5, 3) := by decide +kernel
theorem dX11_cached_39 : decode cX11_cached 39 = .ok (.lconst 0, 1) := by decide +kernel
theorem dX11_cached_40 : decode cX11_cached 40 = .ok (.lreturn, 1) := by decide +kernel
theorem dX11_cached_41 : decode cX11_cached 41 = .ok (.bipush 48, 2) := by decide +kernel
theorem dX11_cached_43 : decode cX11_cached 43 = .ok (.iload_n 1, 1) := by decide +kernel
theorem dX11_cached_44 : decode cX11_cached 44 = .ok (.imul, 1) := by decide +kernel
theorem dX11_cached_45 : decode cX11_cached 45 = .ok (.iload_n 2, 1) := by decide +kernel
theorem dX11_cached_46 : decode cX11_cached 46 = .ok (.iadd, 1) := by decide +kernel
theorem dX11_cached_47 : decode cX11_cached 47 = .ok (.istore 4, 2) := by decide +kernel
theorem dX11_cached_49 : decode cX11_cached 49 = .ok (.aload_n 0, 1) := by decide +kernel
theorem dX11_cached_50 : decode cX11_cached 50 = .ok (.getfield 65, 3) := by decide +kernel
theorem dX11_cached_53 : decode cX11_cached 53 = .ok (.iload 4, 2) := by decide +kernel
theorem dX11_cached_55 : decode cX11_cached 55 = .ok (.baload, 1) := by decide +kernel
theorem dX11_cached_56 : decode cX11_cached 56 = .ok (.ifCond .ne 7, 3) := by decide +kernel
theorem dX11_cached_59 : decode cX11_cached 59 = .ok (.ldc2_w 172, 3) := by decide +kernel
theorem dX11_cached_62 : decode cX11_cached 62 = .ok (.lreturn, 1) := by decide +kernel
theorem dX11_cached_63 : decode cX11_cached 63 = .ok (.iload_n 3, 1) := by decide +kernel
theorem dX11_cached_64 : decode cX11_cached 64 = .ok (.tableswitch 107 0 3 #[32, 60, 82, 91], 32) := by decide +kernel
theorem dX11_cached_96 : decode cX11_cached 96 = .ok (.aload_n 0, 1) := by decide +kernel
theorem dX11_cached_97 : decode cX11_cached 97 = .ok (.getfield 29, 3) := by decide +kernel
theorem dX11_cached_100 : decode cX11_cached 100 = .ok (.iload_n 2, 1) := by decide +kernel
theorem dX11_cached_101 : decode cX11_cached 101 = .ok (.baload, 1) := by decide +kernel
theorem dX11_cached_102 : decode cX11_cached 102 = .ok (.ifCond .eq 13, 3) := by decide +kernel
theorem dX11_cached_105 : decode cX11_cached 105 = .ok (.aload_n 0, 1) := by decide +kernel
theorem dX11_cached_106 : decode cX11_cached 106 = .ok (.iload_n 1, 1) := by decide +kernel
theorem dX11_cached_107 : decode cX11_cached 107 = .ok (.iload_n 2, 1) := by decide +kernel
theorem dX11_cached_108 : decode cX11_cached 108 = .ok (.invokevirtual 461, 3) := by decide +kernel
theorem dX11_cached_111 : decode cX11_cached 111 = .ok (.i2l, 1) := by decide +kernel
theorem dX11_cached_112 : decode cX11_cached 112 = .ok (.goto 11, 3) := by decide +kernel
theorem dX11_cached_115 : decode cX11_cached 115 = .ok (.aload_n 0, 1) := by decide +kernel
theorem dX11_cached_116 : decode cX11_cached 116 = .ok (.getfield 68, 3) := by decide +kernel
theorem dX11_cached_119 : decode cX11_cached 119 = .ok (.iload 4, 2) := by decide +kernel
theorem dX11_cached_121 : decode cX11_cached 121 = .ok (.iaload, 1) := by decide +kernel
theorem dX11_cached_122 : decode cX11_cached 122 = .ok (.i2l, 1) := by decide +kernel
theorem dX11_cached_123 : decode cX11_cached 123 = .ok (.lreturn, 1) := by decide +kernel
theorem dX11_cached_124 : decode cX11_cached 124 = .ok (.aload_n 0, 1) := by decide +kernel
theorem dX11_cached_125 : decode cX11_cached 125 = .ok (.getfield 29, 3) := by decide +kernel
theorem dX11_cached_128 : decode cX11_cached 128 = .ok (.iload_n 2, 1) := by decide +kernel
theorem dX11_cached_129 : decode cX11_cached 129 = .ok (.baload, 1) := by decide +kernel
theorem dX11_cached_130 : decode cX11_cached 130 = .ok (.ifCond .eq 7, 3) := by decide +kernel
theorem dX11_cached_133 : decode cX11_cached 133 = .ok (.lconst 0, 1) := by decide +kernel
theorem dX11_cached_134 : decode cX11_cached 134 = .ok (.goto 11, 3) := by decide +kernel
theorem dX11_cached_137 : decode cX11_cached 137 = .ok (.aload_n 0, 1) := by decide +kernel
theorem dX11_cached_138 : decode cX11_cached 138 = .ok (.getfield 71, 3) := by decide +kernel
theorem dX11_cached_141 : decode cX11_cached 141 = .ok (.iload 4, 2) := by decide +kernel
theorem dX11_cached_143 : decode cX11_cached 143 = .ok (.iaload, 1) := by decide +kernel
theorem dX11_cached_144 : decode cX11_cached 144 = .ok (.i2l, 1) := by decide +kernel
theorem dX11_cached_145 : decode cX11_cached 145 = .ok (.lreturn, 1) := by decide +kernel
theorem dX11_cached_146 : decode cX11_cached 146 = .ok (.aload_n 0, 1) := by decide +kernel
theorem dX11_cached_147 : decode cX11_cached 147 = .ok (.getfield 77, 3) := by decide +kernel
theorem dX11_cached_150 : decode cX11_cached 150 = .ok (.iload 4, 2) := by decide +kernel
theorem dX11_cached_152 : decode cX11_cached 152 = .ok (.iaload, 1) := by decide +kernel
theorem dX11_cached_153 : decode cX11_cached 153 = .ok (.i2l, 1) := by decide +kernel
theorem dX11_cached_154 : decode cX11_cached 154 = .ok (.lreturn, 1) := by decide +kernel
theorem dX11_cached_155 : decode cX11_cached 155 = .ok (.aload_n 0, 1) := by decide +kernel
theorem dX11_cached_156 : decode cX11_cached 156 = .ok (.getfield 80, 3) := by decide +kernel
theorem dX11_cached_159 : decode cX11_cached 159 = .ok (.iload 4, 2) := by decide +kernel
theorem dX11_cached_161 : decode cX11_cached 161 = .ok (.baload, 1) := by decide +kernel
theorem dX11_cached_162 : decode cX11_cached 162 = .ok (.ifCond .eq 7, 3) := by decide +kernel
theorem dX11_cached_165 : decode cX11_cached 165 = .ok (.lconst 1, 1) := by decide +kernel
theorem dX11_cached_166 : decode cX11_cached 166 = .ok (.goto 4, 3) := by decide +kernel
theorem dX11_cached_169 : decode cX11_cached 169 = .ok (.lconst 0, 1) := by decide +kernel
theorem dX11_cached_170 : decode cX11_cached 170 = .ok (.lreturn, 1) := by decide +kernel
theorem dX11_cached_171 : decode cX11_cached 171 = .ok (.aload_n 0, 1) := by decide +kernel
theorem dX11_cached_172 : decode cX11_cached 172 = .ok (.iload_n 1, 1) := by decide +kernel
theorem dX11_cached_173 : decode cX11_cached 173 = .ok (.iload_n 2, 1) := by decide +kernel
theorem dX11_cached_174 : decode cX11_cached 174 = .ok (.invokevirtual 249, 3) := by decide +kernel
theorem dX11_cached_177 : decode cX11_cached 177 = .ok (.ifCond .eq 7, 3) := by decide +kernel
theorem dX11_cached_180 : decode cX11_cached 180 = .ok (.lconst 1, 1) := by decide +kernel
theorem dX11_cached_181 : decode cX11_cached 181 = .ok (.goto 4, 3) := by decide +kernel
theorem dX11_cached_184 : decode cX11_cached 184 = .ok (.lconst 0, 1) := by decide +kernel
theorem dX11_cached_185 : decode cX11_cached 185 = .ok (.lreturn, 1) := by decide +kernel
abbrev wmX11_cached : List Cond := .code yX11_cached cX11_cached 5 (some .long) :: mBig
def f_X11_cached (M : gM) (a1 : Int32) (a2 : Int32) (a3 : Int32) : Option (Int64 × gM) :=
  o1 (f_X11_isClient M a1) (fun v2 => jn (fun (q : (Int32 × gM)) => match q with | (b3, M4) => lt (gset M4 m_o 66 b3) (fun M5 => lt (M5 m_o 66) (fun v6 => (if v6 ≤ 0 then lt ((((48 : Int32) * a1) + a2)) (fun x8 => rd M5 m_kept 192 x8 (fun v9 => (if v9 = 0 then some ((-2199023255552 : Int64), M5) else (if a3.toInt < 0 ∨ 3 < a3.toInt then o1 (f_X11_isGood M5 a1 a2) (fun v13 => (if v13 = 0 then some ((0 : Int64), M5) else some ((1 : Int64), M5))) else (if a3 = 0 then rd M5 m_isDirectory 48 a2 (fun v16 => (if v16 = 0 then rd M5 m_keptValue 192 x8 (fun v18 => some (v18.toInt64, M5)) else o1 (f_X11_keptThere M5 a1 a2) (fun v20 => some (v20.toInt64, M5)))) else (if a3 = 1 then rd M5 m_isDirectory 48 a2 (fun v22 => (if v22 = 0 then rd M5 m_keptSize 192 x8 (fun v24 => some (v24.toInt64, M5)) else some ((0 : Int64), M5))) else (if a3 = 2 then rd M5 m_promised 192 x8 (fun v26 => some (v26.toInt64, M5)) else (if a3 = 3 then rd M5 m_dirty 192 x8 (fun v28 => (if v28 = 0 then some ((0 : Int64), M5) else some ((1 : Int64), M5))) else none)))))))) else some ((0 : Int64), M5))))) (fun J29 => jn (fun (M30 : gM) => J29 ((1 : Int32), M30)) (fun J28 => (if v2 = 0 then J28 M else o1 (f_X11_isObject M a2) (fun v33 => (if v33 = 0 then J28 M else o1 (f_X11_in M a3 (0 : Int32) (4 : Int32)) (fun v36 => (if v36 = 0 then J28 M else J29 ((0 : Int32), M)))))))))
set_option maxHeartbeats 4000000 in
set_option maxRecDepth 100000 in
theorem t_X11_cached (l : Launch) (D : va_G) (dA : Nat → ClassId) (A : gI → Nat) (hJ : gJ mLive A) {M : gM} {a1 : Int32} {a2 : Int32} {a3 : Int32}  {y : (Int64 × gM)} (h : f_X11_cached M a1 a2 a3 = some y) : mMl l yX11_cached wmX11_cached ({ frames := 3, cells := 0, slots := 0, locals := 68 } : Room) D dA A [.ref (A m_o), .int a1, .int a2, .int a3] M y.1 y.2 := by
  refine Met.ofW (cc := cX11_cached) (maxL := 5) (ret := (some .long)) (by decide) rfl ?_
  intro p e s m args below meth c s₁ B hml hv
  obtain ⟨rfl, hP, hK⟩ := hv
  generalize hargs : ([.ref (A m_o), .int a1, .int a2, .int a3] : List Value).toArray = args at B ⊢
  have S : CallFix p m c cX11_cached 5 s args wmX11_cached RX11 := ⟨B.exec, B.bytes, hml, findClass_of_methodNamed B.named, atoms_spec (ws := wmX11_cached) B.pre⟩
  obtain ⟨hx, hb, -, hown, hts⟩ := id S
  have hr := B.returns
  have hlocks := B.notSynchronized
  have X : gX D vwCl dA mLive A (gA mLive A) s := ⟨hK, hJ, fun i hi => ⟨i, hi, rfl⟩⟩
  have Z : gZ D mLay dA mLive A (gA mLive A) s.heap M s.heap [] := ⟨hP, va_S.rf⟩
  have hin : ∀ w ∈ wsX110, w ∈ wmX11_cached := m_in
  have hl_29 := hts (.fieldLink RX11 29 "ReplicaFilesModel" "isDirectory" "[Z") (mBc 11 rfl)
  have hl_65 := hts (.fieldLink RX11 65 "ReplicaFilesModel" "kept" "[Z") (mBc 23 rfl)
  have hl_68 := hts (.fieldLink RX11 68 "ReplicaFilesModel" "keptValue" "[I") (mBc 24 rfl)
  have hl_71 := hts (.fieldLink RX11 71 "ReplicaFilesModel" "keptSize" "[I") (mBc 25 rfl)
  have hl_77 := hts (.fieldLink RX11 77 "ReplicaFilesModel" "promised" "[I") (mBc 27 rfl)
  have hl_80 := hts (.fieldLink RX11 80 "ReplicaFilesModel" "dirty" "[Z") (mBc 28 rfl)
  have hl_165 := hts (.fieldLink RX11 165 "ReplicaFilesModel" "thrown" "I") (mBc 58 rfl)
  have hc_172 := hts (.constantLong RX11 172 (-2199023255552)) (mBc 67 rfl)
  have hl := lv_entry ([.ref (A m_o), .int a1, .int a2, .int a3]) (n := 5) (Nat.le_of_ble_eq_true rfl)
  rw [← hargs, lg_entry_eq, hargs]
  generalize (lg_sl ([.ref (A m_o), .int a1, .int a2, .int a3]) ++ List.replicate (5 - (lg_sl ([.ref (A m_o), .int a1, .int a2, .int a3])).length) Slot.unset).toArray = ls at hl ⊢
  have hl : lv_has ls 5 [(0, .ref (A m_o)), (1, .int a1), (2, .int a2), (3, .int a3)] := hl
  unfold f_X11_cached at h
  refine lv_aload_n hx hb dX11_cached_0 rfl (lv_at hl 0 rfl) ?_
  refine lv_iload_n hx hb dX11_cached_1 rfl (lv_at hl 1 rfl) ?_
  obtain ⟨v2, hc1, h⟩ := o1_e h
  refine g_Si (As := [.int a1]) (rest := [.ref (A m_o)]) S X Z (t_X11_isClient l D dA A hJ  hc1) (va_cwS 1 hts (mGS (mB 91 rfl) (mB 92 rfl) (mB 63 rfl) (mB 64 rfl)) rfl rfl rfl (by decide +kernel) ⟨Nat.le_of_ble_eq_true rfl, Nat.le_of_ble_eq_true rfl⟩) rfl hl.1 rfl (Nat.le_of_ble_eq_true rfl) dX11_cached_2 ⟨Nat.zero_le _, Nat.zero_le _⟩ (fun H locs Z => ?_)
  obtain ⟨J29, eJ29, h⟩ := jn_e h
  have hJ29 : ∀ (b3 : Int32) (M4 : gM) (H : Heap) (locs : List Loc) (ls : Array Slot), gZ D mLay dA mLive A (gA mLive A) s.heap M4 H locs → lv_has ls 5 [(0, .ref (A m_o)), (1, .int a1), (2, .int a2), (3, .int a3)] → J29 (b3, M4) = some y → W p l e (headSpec wmX11_cached ({ frames := 3, cells := 0, slots := 0, locals := 68 } : Room)).room s m args below meth c H locs 0 0 (MQ below (mQl D dA A y) args s 0 0 (gA mLive A)) (F0 m 29 ls [.int b3, .ref (A m_o)]) := by
    intro b3 M4 H locs ls Z hl h
    rw [eJ29] at h
    try dsimp only at h
    refine mp_thrown S X Z hin hl_165 dX11_cached_29 h (fun M5 H locs Z h => ?_)
    refine lv_aload_n hx hb dX11_cached_32 rfl (lv_at hl 0 rfl) ?_
    refine mr_thrown S X Z hin hl_165 dX11_cached_33 h (fun v6 h => ?_)
    refine lv_if_le (tgt := 41) hx hb dX11_cached_36 (by decide) (fun c7 => ?_) (fun c7 => ?_)
    · have h := if_t c7 h
      refine lv_bipush (v := (48 : Int32)) hx hb dX11_cached_41 (by decide) ?_
      refine lv_iload_n hx hb dX11_cached_43 rfl (lv_at hl 1 rfl) ?_
      refine lv_imul hx hb dX11_cached_44 ?_
      refine lv_iload_n hx hb dX11_cached_45 rfl (lv_at hl 2 rfl) ?_
      refine lv_iadd hx hb dX11_cached_46 ?_
      refine g_topi h (fun x8 h => ?_)
      refine lv_istore (lv' := [(4, .int x8), (0, .ref (A m_o)), (1, .int a1), (2, .int a2), (3, .int a3)]) hx hb dX11_cached_47 hl (by decide) rfl (fun ls hl => ?_)
      refine lv_aload_n hx hb dX11_cached_49 rfl (lv_at hl 1 rfl) ?_
      refine mr_kept S X Z hin hl_65 dX11_cached_50 ?_
      refine lv_iload hx hb dX11_cached_53 (lv_at hl 0 rfl) ?_
      refine g_zald S X Z ml_kept rfl dX11_cached_55 h (fun v9 h => ?_)
      refine lv_if_ne (tgt := 63) hx hb dX11_cached_56 (by decide) (fun c10 => ?_) (fun c10 => ?_)
      · have h := if_f c10 h
        refine lv_iload_n hx hb dX11_cached_63 rfl (lv_at hl 4 rfl) ?_
        by_cases c11 : a3.toInt < 0 ∨ 3 < a3.toInt
        · have h := if_t c11 h
          refine lv_tableOut (tgt := 171) hx hb dX11_cached_64 c11 (by decide) ?_
          refine lv_aload_n hx hb dX11_cached_171 rfl (lv_at hl 1 rfl) ?_
          refine lv_iload_n hx hb dX11_cached_172 rfl (lv_at hl 2 rfl) ?_
          refine lv_iload_n hx hb dX11_cached_173 rfl (lv_at hl 3 rfl) ?_
          obtain ⟨v13, hc12, h⟩ := o1_e h
          refine g_Vi (As := [.int a1, .int a2]) (rest := []) S X Z mlv_o rfl rfl (t_X11_isGood l D dA A hJ  hc12) (cwV 2 hts (mGV (mB 167 rfl) (mB 168 rfl) (mB 169 rfl) (mB 63 rfl) (mB 136 rfl)) rfl rfl rfl (by decide +kernel) ⟨Nat.le_of_ble_eq_true rfl, Nat.le_of_ble_eq_true rfl⟩) rfl hl.1 rfl (Nat.le_of_ble_eq_true rfl) dX11_cached_174 ⟨Nat.zero_le _, Nat.zero_le _⟩ (fun H locs Z => ?_)
          refine lv_if_eq (tgt := 184) hx hb dX11_cached_177 (by decide) (fun c14 => ?_) (fun c14 => ?_)
          · have h := if_t c14 h
            refine lv_lconst (v := (0 : Int64)) hx hb dX11_cached_184 (by decide) ?_
            have hy := Option.some.inj h
            subst hy
            exact g_rl S Z hr hlocks dX11_cached_185
          · have h := if_f c14 h
            refine lv_lconst (v := (1 : Int64)) hx hb dX11_cached_180 (by decide) ?_
            refine lv_goto (tgt := 185) hx hb dX11_cached_181 (by decide) ?_
            have hy := Option.some.inj h
            subst hy
            exact g_rl S Z hr hlocks dX11_cached_185
        · have h := if_f c11 h
          by_cases c15 : a3 = 0
          · have h := if_t c15 h
            refine lv_tableIn (off := 32) (tgt := 96) hx hb dX11_cached_64 (fun q => c11 (Or.inl q)) (fun q => c11 (Or.inr q)) (by rw [c15]; decide) (by decide) ?_
            refine lv_aload_n hx hb dX11_cached_96 rfl (lv_at hl 1 rfl) ?_
            refine mr_isDirectory S X Z hin hl_29 dX11_cached_97 ?_
            refine lv_iload_n hx hb dX11_cached_100 rfl (lv_at hl 3 rfl) ?_
            refine g_zald S X Z ml_isDirectory rfl dX11_cached_101 h (fun v16 h => ?_)
            refine lv_if_eq (tgt := 115) hx hb dX11_cached_102 (by decide) (fun c17 => ?_) (fun c17 => ?_)
            · have h := if_t c17 h
              refine lv_aload_n hx hb dX11_cached_115 rfl (lv_at hl 1 rfl) ?_
              refine mr_keptValue S X Z hin hl_68 dX11_cached_116 ?_
              refine lv_iload hx hb dX11_cached_119 (lv_at hl 0 rfl) ?_
              refine g_iald S X Z ml_keptValue rfl dX11_cached_121 h (fun v18 h => ?_)
              refine lv_i2l hx hb dX11_cached_122 rfl ?_
              have hy := Option.some.inj h
              subst hy
              exact g_rl S Z hr hlocks dX11_cached_123
            · have h := if_f c17 h
              refine lv_aload_n hx hb dX11_cached_105 rfl (lv_at hl 1 rfl) ?_
              refine lv_iload_n hx hb dX11_cached_106 rfl (lv_at hl 2 rfl) ?_
              refine lv_iload_n hx hb dX11_cached_107 rfl (lv_at hl 3 rfl) ?_
              obtain ⟨v20, hc19, h⟩ := o1_e h
              refine g_Vi (As := [.int a1, .int a2]) (rest := []) S X Z mlv_o rfl rfl (t_X11_keptThere l D dA A hJ  hc19) (cwV 2 hts (mGV (mB 373 rfl) (mB 374 rfl) (mB 375 rfl) (mB 63 rfl) (mB 372 rfl)) rfl rfl rfl (by decide +kernel) ⟨Nat.le_of_ble_eq_true rfl, Nat.le_of_ble_eq_true rfl⟩) rfl hl.1 rfl (Nat.le_of_ble_eq_true rfl) dX11_cached_108 ⟨Nat.zero_le _, Nat.zero_le _⟩ (fun H locs Z => ?_)
              refine lv_i2l hx hb dX11_cached_111 rfl ?_
              refine lv_goto (tgt := 123) hx hb dX11_cached_112 (by decide) ?_
              have hy := Option.some.inj h
              subst hy
              exact g_rl S Z hr hlocks dX11_cached_123
          have h := if_f c15 h
          by_cases c21 : a3 = 1
          · have h := if_t c21 h
            refine lv_tableIn (off := 60) (tgt := 124) hx hb dX11_cached_64 (fun q => c11 (Or.inl q)) (fun q => c11 (Or.inr q)) (by rw [c21]; decide) (by decide) ?_
            refine lv_aload_n hx hb dX11_cached_124 rfl (lv_at hl 1 rfl) ?_
            refine mr_isDirectory S X Z hin hl_29 dX11_cached_125 ?_
            refine lv_iload_n hx hb dX11_cached_128 rfl (lv_at hl 3 rfl) ?_
            refine g_zald S X Z ml_isDirectory rfl dX11_cached_129 h (fun v22 h => ?_)
            refine lv_if_eq (tgt := 137) hx hb dX11_cached_130 (by decide) (fun c23 => ?_) (fun c23 => ?_)
            · have h := if_t c23 h
              refine lv_aload_n hx hb dX11_cached_137 rfl (lv_at hl 1 rfl) ?_
              refine mr_keptSize S X Z hin hl_71 dX11_cached_138 ?_
              refine lv_iload hx hb dX11_cached_141 (lv_at hl 0 rfl) ?_
              refine g_iald S X Z ml_keptSize rfl dX11_cached_143 h (fun v24 h => ?_)
              refine lv_i2l hx hb dX11_cached_144 rfl ?_
              have hy := Option.some.inj h
              subst hy
              exact g_rl S Z hr hlocks dX11_cached_145
            · have h := if_f c23 h
              refine lv_lconst (v := (0 : Int64)) hx hb dX11_cached_133 (by decide) ?_
              refine lv_goto (tgt := 145) hx hb dX11_cached_134 (by decide) ?_
              have hy := Option.some.inj h
              subst hy
              exact g_rl S Z hr hlocks dX11_cached_145
          have h := if_f c21 h
          by_cases c25 : a3 = 2
          · have h := if_t c25 h
            refine lv_tableIn (off := 82) (tgt := 146) hx hb dX11_cached_64 (fun q => c11 (Or.inl q)) (fun q => c11 (Or.inr q)) (by rw [c25]; decide) (by decide) ?_
            refine lv_aload_n hx hb dX11_cached_146 rfl (lv_at hl 1 rfl) ?_
            refine mr_promised S X Z hin hl_77 dX11_cached_147 ?_
            refine lv_iload hx hb dX11_cached_150 (lv_at hl 0 rfl) ?_
            refine g_iald S X Z ml_promised rfl dX11_cached_152 h (fun v26 h => ?_)
            refine lv_i2l hx hb dX11_cached_153 rfl ?_
            have hy := Option.some.inj h
            subst hy
            exact g_rl S Z hr hlocks dX11_cached_154
          have h := if_f c25 h
          by_cases c27 : a3 = 3
          · have h := if_t c27 h
            refine lv_tableIn (off := 91) (tgt := 155) hx hb dX11_cached_64 (fun q => c11 (Or.inl q)) (fun q => c11 (Or.inr q)) (by rw [c27]; decide) (by decide) ?_
            refine lv_aload_n hx hb dX11_cached_155 rfl (lv_at hl 1 rfl) ?_
            refine mr_dirty S X Z hin hl_80 dX11_cached_156 ?_
            refine lv_iload hx hb dX11_cached_159 (lv_at hl 0 rfl) ?_
            refine g_zald S X Z ml_dirty rfl dX11_cached_161 h (fun v28 h => ?_)
            refine lv_if_eq (tgt := 169) hx hb dX11_cached_162 (by decide) (fun c29 => ?_) (fun c29 => ?_)
            · have h := if_t c29 h
              refine lv_lconst (v := (0 : Int64)) hx hb dX11_cached_169 (by decide) ?_
              have hy := Option.some.inj h
              subst hy
              exact g_rl S Z hr hlocks dX11_cached_170
            · have h := if_f c29 h
              refine lv_lconst (v := (1 : Int64)) hx hb dX11_cached_165 (by decide) ?_
              refine lv_goto (tgt := 170) hx hb dX11_cached_166 (by decide) ?_
              have hy := Option.some.inj h
              subst hy
              exact g_rl S Z hr hlocks dX11_cached_170
          have h := if_f c27 h
          cases h
      · have h := if_t c10 h
        refine lv_ldc2 hx hb hown hc_172 dX11_cached_59 ?_
        have hy := Option.some.inj h
        subst hy
        exact g_rl S Z hr hlocks dX11_cached_62
    · have h := if_f c7 h
      refine lv_lconst (v := (0 : Int64)) hx hb dX11_cached_39 (by decide) ?_
      have hy := Option.some.inj h
      subst hy
      exact g_rl S Z hr hlocks dX11_cached_40
  obtain ⟨J28, eJ28, h⟩ := jn_e h
  have hJ28 : ∀ (M30 : gM) (H : Heap) (locs : List Loc) (ls : Array Slot), gZ D mLay dA mLive A (gA mLive A) s.heap M30 H locs → lv_has ls 5 [(0, .ref (A m_o)), (1, .int a1), (2, .int a2), (3, .int a3)] → J28 M30 = some y → W p l e (headSpec wmX11_cached ({ frames := 3, cells := 0, slots := 0, locals := 68 } : Room)).room s m args below meth c H locs 0 0 (MQ below (mQl D dA A y) args s 0 0 (gA mLive A)) (F0 m 28 ls [.ref (A m_o)]) := by
    intro M30 H locs ls Z hl h
    rw [eJ28] at h
    try dsimp only at h
    refine lv_iconst (v := (1 : Int32)) hx hb dX11_cached_28 (by decide) ?_
    exact hJ29 (1 : Int32) M30 _ _ _ Z (lv_sub hl [0, 1, 2, 3] rfl) h
  refine lv_if_eq (tgt := 28) hx hb dX11_cached_5 (by decide) (fun c31 => ?_) (fun c31 => ?_)
  · have h := if_t c31 h
    exact hJ28 M _ _ _ Z (lv_sub hl [0, 1, 2, 3] rfl) h
  · have h := if_f c31 h
    refine lv_iload_n hx hb dX11_cached_8 rfl (lv_at hl 2 rfl) ?_
    obtain ⟨v33, hc32, h⟩ := o1_e h
    refine g_Si (As := [.int a2]) (rest := [.ref (A m_o)]) S X Z (t_X11_isObject l D dA A hJ  hc32) (va_cwS 1 hts (mGS (mB 93 rfl) (mB 94 rfl) (mB 63 rfl) (mB 65 rfl)) rfl rfl rfl (by decide +kernel) ⟨Nat.le_of_ble_eq_true rfl, Nat.le_of_ble_eq_true rfl⟩) rfl hl.1 rfl (Nat.le_of_ble_eq_true rfl) dX11_cached_9 ⟨Nat.zero_le _, Nat.zero_le _⟩ (fun H locs Z => ?_)
    refine lv_if_eq (tgt := 28) hx hb dX11_cached_12 (by decide) (fun c34 => ?_) (fun c34 => ?_)
    · have h := if_t c34 h
      exact hJ28 M _ _ _ Z (lv_sub hl [0, 1, 2, 3] rfl) h
    · have h := if_f c34 h
      refine lv_iload_n hx hb dX11_cached_15 rfl (lv_at hl 3 rfl) ?_
      refine lv_iconst (v := (0 : Int32)) hx hb dX11_cached_16 (by decide) ?_
      refine lv_iconst (v := (4 : Int32)) hx hb dX11_cached_17 (by decide) ?_
      obtain ⟨v36, hc35, h⟩ := o1_e h
      refine g_Si (As := [.int a3, .int (0 : Int32), .int (4 : Int32)]) (rest := [.ref (A m_o)]) S X Z (t_X11_in l D dA A hJ  hc35) (va_cwS 3 hts (mGS (mB 61 rfl) (mB 62 rfl) (mB 63 rfl) (mB 59 rfl)) rfl rfl rfl (by decide +kernel) ⟨Nat.le_of_ble_eq_true rfl, Nat.le_of_ble_eq_true rfl⟩) rfl hl.1 rfl (Nat.le_of_ble_eq_true rfl) dX11_cached_18 ⟨Nat.zero_le _, Nat.zero_le _⟩ (fun H locs Z => ?_)
      refine lv_if_eq (tgt := 28) hx hb dX11_cached_21 (by decide) (fun c37 => ?_) (fun c37 => ?_)
      · have h := if_t c37 h
        exact hJ28 M _ _ _ Z (lv_sub hl [0, 1, 2, 3] rfl) h
      · have h := if_f c37 h
        refine lv_iconst (v := (0 : Int32)) hx hb dX11_cached_24 (by decide) ?_
        refine lv_goto (tgt := 29) hx hb dX11_cached_25 (by decide) ?_
        exact hJ29 (0 : Int32) M _ _ _ Z (lv_sub hl [0, 1, 2, 3] rfl) h
-- X11_record (III)J: 57 instructions
theorem dX11_record_0 : decode cX11_record 0 = .ok (.aload_n 0, 1) := by decide +kernel
theorem dX11_record_1 : decode cX11_record 1 = .ok (.iload_n 1, 1) := by decide +kernel
theorem dX11_record_2 : decode cX11_record 2 = .ok (.invokestatic 191, 3) := by decide +kernel
theorem dX11_record_5 : decode cX11_record 5 = .ok (.ifCond .eq 16, 3) := by decide +kernel
theorem dX11_record_8 : decode cX11_record 8 = .ok (.iload_n 3, 1) := by decide +kernel
theorem dX11_record_9 : decode cX11_record 9 = .ok (.iconst 0, 1) := by decide +kernel
theorem dX11_record_10 : decode cX11_record 10 = .ok (.iconst 2, 1) := by decide +kernel
theorem dX11_record_11 : decode cX11_record 11 = .ok (.invokestatic 168, 3) := by decide +kernel
theorem dX11_record_14 : decode cX11_record 14 = .ok (.ifCond .eq 7, 3) := by decide +kernel
theorem dX11_record_17 : decode cX11_record 17 = .ok (.iconst 0, 1) := by decide +kernel
theorem dX11_record_18 : decode cX11_record 18 = .ok (.goto 4, 3) := by decide +kernel
theorem dX11_record_21 : decode cX11_record 21 = .ok (.iconst 1, 1) := by decide +kernel
theorem dX11_record_22 : decode cX11_record 22 = .ok (.putfield 165, 3) := by decide +kernel
theorem dX11_record_25 : decode cX11_record 25 = .ok (.aload_n 0, 1) := by decide +kernel
theorem dX11_record_26 : decode cX11_record 26 = .ok (.getfield 165, 3) := by decide +kernel
theorem dX11_record_29 : decode cX11_record 29 = .ok (.ifCond .le 5, 3) := by decide +kernel
theorem dX11_record_32 : decode cX11_record 32 = .ok (.lconst 0, 1) := by decide +kernel
theorem dX11_record_33 : decode cX11_record 33 = .ok (.lreturn, 1) := by decide +kernel
theorem dX11_record_34 : decode cX11_record 34 = .ok (.iload_n 2, 1) := by decide +kernel
theorem dX11_record_35 : decode cX11_record 35 = .ok (.ifCond .lt 13, 3) := by decide +kernel
theorem dX11_record_38 : decode cX11_record 38 = .ok (.iload_n 2, 1) := by decide +kernel
theorem dX11_record_39 : decode cX11_record 39 = .ok (.aload_n 0, 1) := by decide +kernel
theorem dX11_record_40 : decode cX11_record 40 = .ok (.getfield 98, 3) := by decide +kernel
theorem dX11_record_43 : decode cX11_record 43 = .ok (.iload_n 1, 1) := by decide +kernel
theorem dX11_record_44 : decode cX11_record 44 = .ok (.iaload, 1) := by decide +kernel
theorem dX11_record_45 : decode cX11_record 45 = .ok (.if_icmp .lt 7, 3) := by decide +kernel
theorem dX11_record_48 : decode cX11_record 48 = .ok (.ldc2_w 172, 3) := by decide +kernel
theorem dX11_record_51 : decode cX11_record 51 = .ok (.lreturn, 1) := by decide +kernel
theorem dX11_record_52 : decode cX11_record 52 = .ok (.bipush 12, 2) := by decide +kernel
theorem dX11_record_54 : decode cX11_record 54 = .ok (.iload_n 1, 1) := by decide +kernel
theorem dX11_record_55 : decode cX11_record 55 = .ok (.imul, 1) := by decide +kernel
theorem dX11_record_56 : decode cX11_record 56 = .ok (.iload_n 2, 1) := by decide +kernel
theorem dX11_record_57 : decode cX11_record 57 = .ok (.iadd, 1) := by decide +kernel
theorem dX11_record_58 : decode cX11_record 58 = .ok (.istore 4, 2) := by decide +kernel
theorem dX11_record_60 : decode cX11_record 60 = .ok (.iload_n 3, 1) := by decide +kernel
theorem dX11_record_61 : decode cX11_record 61 = .ok (.ifCond .ne 14, 3) := by decide +kernel
theorem dX11_record_64 : decode cX11_record 64 = .ok (.aload_n 0, 1) := by decide +kernel
theorem dX11_record_65 : decode cX11_record 65 = .ok (.getfield 101, 3) := by decide +kernel
theorem dX11_record_68 : decode cX11_record 68 = .ok (.iload 4, 2) := by decide +kernel
theorem dX11_record_70 : decode cX11_record 70 = .ok (.iaload, 1) := by decide +kernel
theorem dX11_record_71 : decode cX11_record 71 = .ok (.i2l, 1) := by decide +kernel
theorem dX11_record_72 : decode cX11_record 72 = .ok (.goto 27, 3) := by decide +kernel
theorem dX11_record_75 : decode cX11_record 75 = .ok (.iload_n 3, 1) := by decide +kernel
theorem dX11_record_76 : decode cX11_record 76 = .ok (.iconst 1, 1) := by decide +kernel
theorem dX11_record_77 : decode cX11_record 77 = .ok (.if_icmp .ne 14, 3) := by decide +kernel
theorem dX11_record_80 : decode cX11_record 80 = .ok (.aload_n 0, 1) := by decide +kernel
theorem dX11_record_81 : decode cX11_record 81 = .ok (.getfield 104, 3) := by decide +kernel
theorem dX11_record_84 : decode cX11_record 84 = .ok (.iload 4, 2) := by decide +kernel
theorem dX11_record_86 : decode cX11_record 86 = .ok (.iaload, 1) := by decide +kernel
theorem dX11_record_87 : decode cX11_record 87 = .ok (.i2l, 1) := by decide +kernel
theorem dX11_record_88 : decode cX11_record 88 = .ok (.goto 11, 3) := by decide +kernel
theorem dX11_record_91 : decode cX11_record 91 = .ok (.aload_n 0, 1) := by decide +kernel
theorem dX11_record_92 : decode cX11_record 92 = .ok (.getfield 107, 3) := by decide +kernel
theorem dX11_record_95 : decode cX11_record 95 = .ok (.iload 4, 2) := by decide +kernel
theorem dX11_record_97 : decode cX11_record 97 = .ok (.iaload, 1) := by decide +kernel
theorem dX11_record_98 : decode cX11_record 98 = .ok (.i2l, 1) := by decide +kernel
theorem dX11_record_99 : decode cX11_record 99 = .ok (.lreturn, 1) := by decide +kernel
abbrev wmX11_record : List Cond := .code yX11_record cX11_record 5 (some .long) :: mBig
def f_X11_record (M : gM) (a1 : Int32) (a2 : Int32) (a3 : Int32) : Option (Int64 × gM) :=
  o1 (f_X11_isClient M a1) (fun v2 => jn (fun (q : (Int32 × gM)) => match q with | (b3, M4) => lt (gset M4 m_o 66 b3) (fun M5 => lt (M5 m_o 66) (fun v6 => (if v6 ≤ 0 then (if a2 < 0 then some ((-2199023255552 : Int64), M5) else rd M5 m_records 4 a1 (fun v9 => (if a2 < v9 then lt ((((12 : Int32) * a1) + a2)) (fun x11 => (if a3 = 0 then rd M5 m_recordKind 48 x11 (fun v16 => some (v16.toInt64, M5)) else (if a3 = (1 : Int32) then rd M5 m_recordObject 48 x11 (fun v15 => some (v15.toInt64, M5)) else rd M5 m_recordDirectory 48 x11 (fun v14 => some (v14.toInt64, M5))))) else some ((-2199023255552 : Int64), M5)))) else some ((0 : Int64), M5))))) (fun J22 => jn (fun (M17 : gM) => J22 ((1 : Int32), M17)) (fun J21 => (if v2 = 0 then J21 M else o1 (f_X11_in M a3 (0 : Int32) (2 : Int32)) (fun v20 => (if v20 = 0 then J21 M else J22 ((0 : Int32), M)))))))
set_option maxHeartbeats 4000000 in
set_option maxRecDepth 100000 in
theorem t_X11_record (l : Launch) (D : va_G) (dA : Nat → ClassId) (A : gI → Nat) (hJ : gJ mLive A) {M : gM} {a1 : Int32} {a2 : Int32} {a3 : Int32}  {y : (Int64 × gM)} (h : f_X11_record M a1 a2 a3 = some y) : mMl l yX11_record wmX11_record ({ frames := 2, cells := 0, slots := 0, locals := 42 } : Room) D dA A [.ref (A m_o), .int a1, .int a2, .int a3] M y.1 y.2 := by
  refine Met.ofW (cc := cX11_record) (maxL := 5) (ret := (some .long)) (by decide) rfl ?_
  intro p e s m args below meth c s₁ B hml hv
  obtain ⟨rfl, hP, hK⟩ := hv
  generalize hargs : ([.ref (A m_o), .int a1, .int a2, .int a3] : List Value).toArray = args at B ⊢
  have S : CallFix p m c cX11_record 5 s args wmX11_record RX11 := ⟨B.exec, B.bytes, hml, findClass_of_methodNamed B.named, atoms_spec (ws := wmX11_record) B.pre⟩
  obtain ⟨hx, hb, -, hown, hts⟩ := id S
  have hr := B.returns
  have hlocks := B.notSynchronized
  have X : gX D vwCl dA mLive A (gA mLive A) s := ⟨hK, hJ, fun i hi => ⟨i, hi, rfl⟩⟩
  have Z : gZ D mLay dA mLive A (gA mLive A) s.heap M s.heap [] := ⟨hP, va_S.rf⟩
  have hin : ∀ w ∈ wsX110, w ∈ wmX11_record := m_in
  have hl_98 := hts (.fieldLink RX11 98 "ReplicaFilesModel" "records" "[I") (mBc 34 rfl)
  have hl_101 := hts (.fieldLink RX11 101 "ReplicaFilesModel" "recordKind" "[I") (mBc 35 rfl)
  have hl_104 := hts (.fieldLink RX11 104 "ReplicaFilesModel" "recordObject" "[I") (mBc 36 rfl)
  have hl_107 := hts (.fieldLink RX11 107 "ReplicaFilesModel" "recordDirectory" "[I") (mBc 37 rfl)
  have hl_165 := hts (.fieldLink RX11 165 "ReplicaFilesModel" "thrown" "I") (mBc 58 rfl)
  have hc_172 := hts (.constantLong RX11 172 (-2199023255552)) (mBc 67 rfl)
  have hl := lv_entry ([.ref (A m_o), .int a1, .int a2, .int a3]) (n := 5) (Nat.le_of_ble_eq_true rfl)
  rw [← hargs, lg_entry_eq, hargs]
  generalize (lg_sl ([.ref (A m_o), .int a1, .int a2, .int a3]) ++ List.replicate (5 - (lg_sl ([.ref (A m_o), .int a1, .int a2, .int a3])).length) Slot.unset).toArray = ls at hl ⊢
  have hl : lv_has ls 5 [(0, .ref (A m_o)), (1, .int a1), (2, .int a2), (3, .int a3)] := hl
  unfold f_X11_record at h
  refine lv_aload_n hx hb dX11_record_0 rfl (lv_at hl 0 rfl) ?_
  refine lv_iload_n hx hb dX11_record_1 rfl (lv_at hl 1 rfl) ?_
  obtain ⟨v2, hc1, h⟩ := o1_e h
  refine g_Si (As := [.int a1]) (rest := [.ref (A m_o)]) S X Z (t_X11_isClient l D dA A hJ  hc1) (va_cwS 1 hts (mGS (mB 91 rfl) (mB 92 rfl) (mB 63 rfl) (mB 64 rfl)) rfl rfl rfl (by decide +kernel) ⟨Nat.le_of_ble_eq_true rfl, Nat.le_of_ble_eq_true rfl⟩) rfl hl.1 rfl (Nat.le_of_ble_eq_true rfl) dX11_record_2 ⟨Nat.zero_le _, Nat.zero_le _⟩ (fun H locs Z => ?_)
  obtain ⟨J22, eJ22, h⟩ := jn_e h
  have hJ22 : ∀ (b3 : Int32) (M4 : gM) (H : Heap) (locs : List Loc) (ls : Array Slot), gZ D mLay dA mLive A (gA mLive A) s.heap M4 H locs → lv_has ls 5 [(0, .ref (A m_o)), (1, .int a1), (2, .int a2), (3, .int a3)] → J22 (b3, M4) = some y → W p l e (headSpec wmX11_record ({ frames := 2, cells := 0, slots := 0, locals := 42 } : Room)).room s m args below meth c H locs 0 0 (MQ below (mQl D dA A y) args s 0 0 (gA mLive A)) (F0 m 22 ls [.int b3, .ref (A m_o)]) := by
    intro b3 M4 H locs ls Z hl h
    rw [eJ22] at h
    try dsimp only at h
    refine mp_thrown S X Z hin hl_165 dX11_record_22 h (fun M5 H locs Z h => ?_)
    refine lv_aload_n hx hb dX11_record_25 rfl (lv_at hl 0 rfl) ?_
    refine mr_thrown S X Z hin hl_165 dX11_record_26 h (fun v6 h => ?_)
    refine lv_if_le (tgt := 34) hx hb dX11_record_29 (by decide) (fun c7 => ?_) (fun c7 => ?_)
    · have h := if_t c7 h
      refine lv_iload_n hx hb dX11_record_34 rfl (lv_at hl 2 rfl) ?_
      refine lv_if_lt (tgt := 48) hx hb dX11_record_35 (by decide) (fun c8 => ?_) (fun c8 => ?_)
      · have h := if_t c8 h
        refine lv_ldc2 hx hb hown hc_172 dX11_record_48 ?_
        have hy := Option.some.inj h
        subst hy
        exact g_rl S Z hr hlocks dX11_record_51
      · have h := if_f c8 h
        refine lv_iload_n hx hb dX11_record_38 rfl (lv_at hl 2 rfl) ?_
        refine lv_aload_n hx hb dX11_record_39 rfl (lv_at hl 0 rfl) ?_
        refine mr_records S X Z hin hl_98 dX11_record_40 ?_
        refine lv_iload_n hx hb dX11_record_43 rfl (lv_at hl 1 rfl) ?_
        refine g_iald S X Z ml_records rfl dX11_record_44 h (fun v9 h => ?_)
        refine lv_icmp_lt (tgt := 52) hx hb dX11_record_45 (by decide) (fun c10 => ?_) (fun c10 => ?_)
        · have h := if_t c10 h
          refine lv_bipush (v := (12 : Int32)) hx hb dX11_record_52 (by decide) ?_
          refine lv_iload_n hx hb dX11_record_54 rfl (lv_at hl 1 rfl) ?_
          refine lv_imul hx hb dX11_record_55 ?_
          refine lv_iload_n hx hb dX11_record_56 rfl (lv_at hl 2 rfl) ?_
          refine lv_iadd hx hb dX11_record_57 ?_
          refine g_topi h (fun x11 h => ?_)
          refine lv_istore (lv' := [(4, .int x11), (0, .ref (A m_o)), (1, .int a1), (2, .int a2), (3, .int a3)]) hx hb dX11_record_58 hl (by decide) rfl (fun ls hl => ?_)
          refine lv_iload_n hx hb dX11_record_60 rfl (lv_at hl 4 rfl) ?_
          refine lv_if_ne (tgt := 75) hx hb dX11_record_61 (by decide) (fun c12 => ?_) (fun c12 => ?_)
          · have h := if_f c12 h
            refine lv_iload_n hx hb dX11_record_75 rfl (lv_at hl 4 rfl) ?_
            refine lv_iconst (v := (1 : Int32)) hx hb dX11_record_76 (by decide) ?_
            refine lv_icmp_ne (tgt := 91) hx hb dX11_record_77 (by decide) (fun c13 => ?_) (fun c13 => ?_)
            · have h := if_f c13 h
              refine lv_aload_n hx hb dX11_record_91 rfl (lv_at hl 1 rfl) ?_
              refine mr_recordDirectory S X Z hin hl_107 dX11_record_92 ?_
              refine lv_iload hx hb dX11_record_95 (lv_at hl 0 rfl) ?_
              refine g_iald S X Z ml_recordDirectory rfl dX11_record_97 h (fun v14 h => ?_)
              refine lv_i2l hx hb dX11_record_98 rfl ?_
              have hy := Option.some.inj h
              subst hy
              exact g_rl S Z hr hlocks dX11_record_99
            · have h := if_t c13 h
              refine lv_aload_n hx hb dX11_record_80 rfl (lv_at hl 1 rfl) ?_
              refine mr_recordObject S X Z hin hl_104 dX11_record_81 ?_
              refine lv_iload hx hb dX11_record_84 (lv_at hl 0 rfl) ?_
              refine g_iald S X Z ml_recordObject rfl dX11_record_86 h (fun v15 h => ?_)
              refine lv_i2l hx hb dX11_record_87 rfl ?_
              refine lv_goto (tgt := 99) hx hb dX11_record_88 (by decide) ?_
              have hy := Option.some.inj h
              subst hy
              exact g_rl S Z hr hlocks dX11_record_99
          · have h := if_t c12 h
            refine lv_aload_n hx hb dX11_record_64 rfl (lv_at hl 1 rfl) ?_
            refine mr_recordKind S X Z hin hl_101 dX11_record_65 ?_
            refine lv_iload hx hb dX11_record_68 (lv_at hl 0 rfl) ?_
            refine g_iald S X Z ml_recordKind rfl dX11_record_70 h (fun v16 h => ?_)
            refine lv_i2l hx hb dX11_record_71 rfl ?_
            refine lv_goto (tgt := 99) hx hb dX11_record_72 (by decide) ?_
            have hy := Option.some.inj h
            subst hy
            exact g_rl S Z hr hlocks dX11_record_99
        · have h := if_f c10 h
          refine lv_ldc2 hx hb hown hc_172 dX11_record_48 ?_
          have hy := Option.some.inj h
          subst hy
          exact g_rl S Z hr hlocks dX11_record_51
    · have h := if_f c7 h
      refine lv_lconst (v := (0 : Int64)) hx hb dX11_record_32 (by decide) ?_
      have hy := Option.some.inj h
      subst hy
      exact g_rl S Z hr hlocks dX11_record_33
  obtain ⟨J21, eJ21, h⟩ := jn_e h
  have hJ21 : ∀ (M17 : gM) (H : Heap) (locs : List Loc) (ls : Array Slot), gZ D mLay dA mLive A (gA mLive A) s.heap M17 H locs → lv_has ls 5 [(0, .ref (A m_o)), (1, .int a1), (2, .int a2), (3, .int a3)] → J21 M17 = some y → W p l e (headSpec wmX11_record ({ frames := 2, cells := 0, slots := 0, locals := 42 } : Room)).room s m args below meth c H locs 0 0 (MQ below (mQl D dA A y) args s 0 0 (gA mLive A)) (F0 m 21 ls [.ref (A m_o)]) := by
    intro M17 H locs ls Z hl h
    rw [eJ21] at h
    try dsimp only at h
    refine lv_iconst (v := (1 : Int32)) hx hb dX11_record_21 (by decide) ?_
    exact hJ22 (1 : Int32) M17 _ _ _ Z (lv_sub hl [0, 1, 2, 3] rfl) h
  refine lv_if_eq (tgt := 21) hx hb dX11_record_5 (by decide) (fun c18 => ?_) (fun c18 => ?_)
  · have h := if_t c18 h
    exact hJ21 M _ _ _ Z (lv_sub hl [0, 1, 2, 3] rfl) h
  · have h := if_f c18 h
    refine lv_iload_n hx hb dX11_record_8 rfl (lv_at hl 3 rfl) ?_
    refine lv_iconst (v := (0 : Int32)) hx hb dX11_record_9 (by decide) ?_
    refine lv_iconst (v := (2 : Int32)) hx hb dX11_record_10 (by decide) ?_
    obtain ⟨v20, hc19, h⟩ := o1_e h
    refine g_Si (As := [.int a3, .int (0 : Int32), .int (2 : Int32)]) (rest := [.ref (A m_o)]) S X Z (t_X11_in l D dA A hJ  hc19) (va_cwS 3 hts (mGS (mB 61 rfl) (mB 62 rfl) (mB 63 rfl) (mB 59 rfl)) rfl rfl rfl (by decide +kernel) ⟨Nat.le_of_ble_eq_true rfl, Nat.le_of_ble_eq_true rfl⟩) rfl hl.1 rfl (Nat.le_of_ble_eq_true rfl) dX11_record_11 ⟨Nat.zero_le _, Nat.zero_le _⟩ (fun H locs Z => ?_)
    refine lv_if_eq (tgt := 21) hx hb dX11_record_14 (by decide) (fun c21 => ?_) (fun c21 => ?_)
    · have h := if_t c21 h
      exact hJ21 M _ _ _ Z (lv_sub hl [0, 1, 2, 3] rfl) h
    · have h := if_f c21 h
      refine lv_iconst (v := (0 : Int32)) hx hb dX11_record_17 (by decide) ?_
      refine lv_goto (tgt := 22) hx hb dX11_record_18 (by decide) ?_
      exact hJ22 (0 : Int32) M _ _ _ Z (lv_sub hl [0, 1, 2, 3] rfl) h
