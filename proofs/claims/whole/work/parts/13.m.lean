-- X11_find (III)J: 77 instructions
theorem dX11_find_0 : decode cX11_find 0 = .ok (.aload_n 0, 1) := by decide +kernel
theorem dX11_find_1 : decode cX11_find 1 = .ok (.iload_n 1, 1) := by decide +kernel
theorem dX11_find_2 : decode cX11_find 2 = .ok (.invokestatic 191, 3) := by decide +kernel
theorem dX11_find_5 : decode cX11_find 5 = .ok (.ifCond .eq 10, 3) := by decide +kernel
theorem dX11_find_8 : decode cX11_find 8 = .ok (.iload_n 2, 1) := by decide +kernel
theorem dX11_find_9 : decode cX11_find 9 = .ok (.invokestatic 194, 3) := by decide +kernel
theorem dX11_find_12 : decode cX11_find 12 = .ok (.ifCond .ne 7, 3) := by decide +kernel
theorem dX11_find_15 : decode cX11_find 15 = .ok (.iconst 1, 1) := by decide +kernel
theorem dX11_find_16 : decode cX11_find 16 = .ok (.goto 18, 3) := by decide +kernel
theorem dX11_find_19 : decode cX11_find 19 = .ok (.iload_n 3, 1) := by decide +kernel
theorem dX11_find_20 : decode cX11_find 20 = .ok (.iconst 0, 1) := by decide +kernel
theorem dX11_find_21 : decode cX11_find 21 = .ok (.bipush 15, 2) := by decide +kernel
theorem dX11_find_23 : decode cX11_find 23 = .ok (.invokestatic 168, 3) := by decide +kernel
theorem dX11_find_26 : decode cX11_find 26 = .ok (.ifCond .eq 7, 3) := by decide +kernel
theorem dX11_find_29 : decode cX11_find 29 = .ok (.iconst 0, 1) := by decide +kernel
theorem dX11_find_30 : decode cX11_find 30 = .ok (.goto 4, 3) := by decide +kernel
theorem dX11_find_33 : decode cX11_find 33 = .ok (.iconst 2, 1) := by decide +kernel
theorem dX11_find_34 : decode cX11_find 34 = .ok (.putfield 165, 3) := by decide +kernel
theorem dX11_find_37 : decode cX11_find 37 = .ok (.aload_n 0, 1) := by decide +kernel
theorem dX11_find_38 : decode cX11_find 38 = .ok (.getfield 165, 3) := by decide +kernel
theorem dX11_find_41 : decode cX11_find 41 = .ok (.ifCond .le 5, 3) := by decide +kernel
theorem dX11_find_44 : decode cX11_find 44 = .ok (.lconst 0, 1) := by decide +kernel
theorem dX11_find_45 : decode cX11_find 45 = .ok (.lreturn, 1) := by decide +kernel
theorem dX11_find_46 : decode cX11_find 46 = .ok (.aload_n 0, 1) := by decide +kernel
theorem dX11_find_47 : decode cX11_find 47 = .ok (.iload_n 2, 1) := by decide +kernel
theorem dX11_find_48 : decode cX11_find 48 = .ok (.iconst 1, 1) := by decide +kernel
theorem dX11_find_49 : decode cX11_find 49 = .ok (.invokevirtual 278, 3) := by decide +kernel
theorem dX11_find_52 : decode cX11_find 52 = .ok (.lstore 4, 2) := by decide +kernel
theorem dX11_find_54 : decode cX11_find 54 = .ok (.lload 4, 2) := by decide +kernel
theorem dX11_find_56 : decode cX11_find 56 = .ok (.lconst 0, 1) := by decide +kernel
theorem dX11_find_57 : decode cX11_find 57 = .ok (.lcmp, 1) := by decide +kernel
theorem dX11_find_58 : decode cX11_find 58 = .ok (.ifCond .eq 6, 3) := by decide +kernel
theorem dX11_find_61 : decode cX11_find 61 = .ok (.lload 4, 2) := by decide +kernel
theorem dX11_find_63 : decode cX11_find 63 = .ok (.lreturn, 1) := by decide +kernel
theorem dX11_find_64 : decode cX11_find 64 = .ok (.aload_n 0, 1) := by decide +kernel
theorem dX11_find_65 : decode cX11_find 65 = .ok (.dup, 1) := by decide +kernel
theorem dX11_find_66 : decode cX11_find 66 = .ok (.getfield 211, 3) := by decide +kernel
theorem dX11_find_69 : decode cX11_find 69 = .ok (.iconst 1, 1) := by decide +kernel
theorem dX11_find_70 : decode cX11_find 70 = .ok (.iadd, 1) := by decide +kernel
theorem dX11_find_71 : decode cX11_find 71 = .ok (.putfield 211, 3) := by decide +kernel
theorem dX11_find_74 : decode cX11_find 74 = .ok (.aload_n 0, 1) := by decide +kernel
theorem dX11_find_75 : decode cX11_find 75 = .ok (.iload_n 1, 1) := by decide +kernel
theorem dX11_find_76 : decode cX11_find 76 = .ok (.iload_n 2, 1) := by decide +kernel
theorem dX11_find_77 : decode cX11_find 77 = .ok (.bipush 10, 2) := by decide +kernel
theorem dX11_find_79 : decode cX11_find 79 = .ok (.invokevirtual 282, 3) := by decide +kernel
theorem dX11_find_82 : decode cX11_find 82 = .ok (.lstore 6, 2) := by decide +kernel
theorem dX11_find_84 : decode cX11_find 84 = .ok (.lload 6, 2) := by decide +kernel
theorem dX11_find_86 : decode cX11_find 86 = .ok (.lconst 0, 1) := by decide +kernel
theorem dX11_find_87 : decode cX11_find 87 = .ok (.lcmp, 1) := by decide +kernel
theorem dX11_find_88 : decode cX11_find 88 = .ok (.ifCond .eq 6, 3) := by decide +kernel
theorem dX11_find_91 : decode cX11_find 91 = .ok (.lload 6, 2) := by decide +kernel
theorem dX11_find_93 : decode cX11_find 93 = .ok (.lreturn, 1) := by decide +kernel
theorem dX11_find_94 : decode cX11_find 94 = .ok (.iconst 1, 1) := by decide +kernel
theorem dX11_find_95 : decode cX11_find 95 = .ok (.istore 8, 2) := by decide +kernel
theorem dX11_find_97 : decode cX11_find 97 = .ok (.iload 8, 2) := by decide +kernel
theorem dX11_find_99 : decode cX11_find 99 = .ok (.aload_n 0, 1) := by decide +kernel
theorem dX11_find_100 : decode cX11_find 100 = .ok (.getfield 162, 3) := by decide +kernel
theorem dX11_find_103 : decode cX11_find 103 = .ok (.if_icmp .ge 35, 3) := by decide +kernel
theorem dX11_find_106 : decode cX11_find 106 = .ok (.aload_n 0, 1) := by decide +kernel
theorem dX11_find_107 : decode cX11_find 107 = .ok (.getfield 119, 3) := by decide +kernel
theorem dX11_find_110 : decode cX11_find 110 = .ok (.iload 8, 2) := by decide +kernel
theorem dX11_find_112 : decode cX11_find 112 = .ok (.iaload, 1) := by decide +kernel
theorem dX11_find_113 : decode cX11_find 113 = .ok (.iconst 1, 1) := by decide +kernel
theorem dX11_find_114 : decode cX11_find 114 = .ok (.if_icmp .ne 18, 3) := by decide +kernel
theorem dX11_find_117 : decode cX11_find 117 = .ok (.aload_n 0, 1) := by decide +kernel
theorem dX11_find_118 : decode cX11_find 118 = .ok (.getfield 26, 3) := by decide +kernel
theorem dX11_find_121 : decode cX11_find 121 = .ok (.iload 8, 2) := by decide +kernel
theorem dX11_find_123 : decode cX11_find 123 = .ok (.iaload, 1) := by decide +kernel
theorem dX11_find_124 : decode cX11_find 124 = .ok (.iload_n 3, 1) := by decide +kernel
theorem dX11_find_125 : decode cX11_find 125 = .ok (.if_icmp .ne 7, 3) := by decide +kernel
theorem dX11_find_128 : decode cX11_find 128 = .ok (.iload 8, 2) := by decide +kernel
theorem dX11_find_130 : decode cX11_find 130 = .ok (.i2l, 1) := by decide +kernel
theorem dX11_find_131 : decode cX11_find 131 = .ok (.lreturn, 1) := by decide +kernel
theorem dX11_find_132 : decode cX11_find 132 = .ok (.iinc 8 1, 3) := by decide +kernel
theorem dX11_find_135 : decode cX11_find 135 = .ok (.goto (-38), 3) := by decide +kernel
theorem dX11_find_138 : decode cX11_find 138 = .ok (.ldc2_w 172, 3) := by decide +kernel
theorem dX11_find_141 : decode cX11_find 141 = .ok (.lreturn, 1) := by decide +kernel
abbrev wmX11_find : List Cond := .code yX11_find cX11_find 9 (some .long) :: mBig
def f_X11_find_L97 (a3 : Int32) : Nat → Int32 → gM → Option (Int64 × gM)
  | 0, _, _ => none
  | n19 + 1, x17, M18 => lt (M18 m_o 6) (fun v20 => (if v20 ≤ x17 then some ((-2199023255552 : Int64), M18) else rd M18 m_gotEntry 48 x17 (fun v22 => jn (fun (M23 : gM) => lt (x17 + 1) (fun x24 => f_X11_find_L97 a3 n19 x24 M23)) (fun J132 => (if v22 = (1 : Int32) then rd M18 m_name 48 x17 (fun v26 => (if v26 = a3 then some (x17.toInt64, M18) else J132 M18)) else J132 M18)))))
def f_X11_find (M : gM) (a1 : Int32) (a2 : Int32) (a3 : Int32) : Option (Int64 × gM) :=
  o1 (f_X11_isClient M a1) (fun v2 => jn (fun (q : (Int32 × gM)) => match q with | (b3, M4) => lt (gset M4 m_o 66 b3) (fun M5 => lt (M5 m_o 66) (fun v6 => (if v6 ≤ 0 then o1 (f_X11_kindOf M5 a2 (1 : Int32)) (fun v9 => (if (lg_cmp v9 (0 : Int64)) = 0 then lt (M5 m_o 33) (fun v11 => lt (gset M5 m_o 33 (v11 + (1 : Int32))) (fun M12 => ob (f_X11_get M12 a1 a2 (10 : Int32)) (fun v15 M14 => (if (lg_cmp v15 (0 : Int64)) = 0 then f_X11_find_L97 a3 100 (1 : Int32) M14 else some (v15, M14))))) else some (v9, M5))) else some ((0 : Int64), M5))))) (fun J34 => jn (fun (M28 : gM) => J34 ((1 : Int32), M28)) (fun J15 => (if v2 = 0 then J15 M else o1 (f_X11_isObject M a2) (fun v31 => (if v31 = 0 then J15 M else o1 (f_X11_in M a3 (0 : Int32) (15 : Int32)) (fun v34 => (if v34 = 0 then J34 ((2 : Int32), M) else J34 ((0 : Int32), M)))))))))
set_option maxHeartbeats 4000000 in
set_option maxRecDepth 100000 in
theorem t_X11_find (l : Launch) (D : va_G) (dA : Nat → ClassId) (A : gI → Nat) (hJ : gJ mLive A) {M : gM} {a1 : Int32} {a2 : Int32} {a3 : Int32}  {y : (Int64 × gM)} (h : f_X11_find M a1 a2 a3 = some y) : mMl l yX11_find wmX11_find ({ frames := 5, cells := 0, slots := 0, locals := 129 } : Room) D dA A [.ref (A m_o), .int a1, .int a2, .int a3] M y.1 y.2 := by
  refine Met.ofW (cc := cX11_find) (maxL := 9) (ret := (some .long)) (by decide) rfl ?_
  intro p e s m args below meth c s₁ B hml hv
  obtain ⟨rfl, hP, hK⟩ := hv
  generalize hargs : ([.ref (A m_o), .int a1, .int a2, .int a3] : List Value).toArray = args at B ⊢
  have S : CallFix p m c cX11_find 9 s args wmX11_find RX11 := ⟨B.exec, B.bytes, hml, findClass_of_methodNamed B.named, atoms_spec (ws := wmX11_find) B.pre⟩
  obtain ⟨hx, hb, -, hown, hts⟩ := id S
  have hr := B.returns
  have hlocks := B.notSynchronized
  have X : gX D vwCl dA mLive A (gA mLive A) s := ⟨hK, hJ, fun i hi => ⟨i, hi, rfl⟩⟩
  have Z : gZ D mLay dA mLive A (gA mLive A) s.heap M s.heap [] := ⟨hP, va_S.rf⟩
  have hin : ∀ w ∈ wsX110, w ∈ wmX11_find := m_in
  have hl_26 := hts (.fieldLink RX11 26 "ReplicaFilesModel" "name" "[I") (mBc 10 rfl)
  have hl_119 := hts (.fieldLink RX11 119 "ReplicaFilesModel" "gotEntry" "[I") (mBc 41 rfl)
  have hl_162 := hts (.fieldLink RX11 162 "ReplicaFilesModel" "made" "I") (mBc 55 rfl)
  have hl_165 := hts (.fieldLink RX11 165 "ReplicaFilesModel" "thrown" "I") (mBc 58 rfl)
  have hl_211 := hts (.fieldLink RX11 211 "ReplicaFilesModel" "call" "I") (mBc 119 rfl)
  have hc_172 := hts (.constantLong RX11 172 (-2199023255552)) (mBc 67 rfl)
  have hl := lv_entry ([.ref (A m_o), .int a1, .int a2, .int a3]) (n := 9) (Nat.le_of_ble_eq_true rfl)
  rw [← hargs, lg_entry_eq, hargs]
  generalize (lg_sl ([.ref (A m_o), .int a1, .int a2, .int a3]) ++ List.replicate (9 - (lg_sl ([.ref (A m_o), .int a1, .int a2, .int a3])).length) Slot.unset).toArray = ls at hl ⊢
  have hl : lv_has ls 9 [(0, .ref (A m_o)), (1, .int a1), (2, .int a2), (3, .int a3)] := hl
  unfold f_X11_find at h
  refine lv_aload_n hx hb dX11_find_0 rfl (lv_at hl 0 rfl) ?_
  refine lv_iload_n hx hb dX11_find_1 rfl (lv_at hl 1 rfl) ?_
  obtain ⟨v2, hc1, h⟩ := o1_e h
  refine g_Si (As := [.int a1]) (rest := [.ref (A m_o)]) S X Z (t_X11_isClient l D dA A hJ  hc1) (va_cwS 1 hts (mGS (mB 91 rfl) (mB 92 rfl) (mB 63 rfl) (mB 64 rfl)) rfl rfl rfl (by decide +kernel) ⟨Nat.le_of_ble_eq_true rfl, Nat.le_of_ble_eq_true rfl⟩) rfl hl.1 rfl (Nat.le_of_ble_eq_true rfl) dX11_find_2 ⟨Nat.zero_le _, Nat.zero_le _⟩ (fun H locs Z => ?_)
  obtain ⟨J34, eJ34, h⟩ := jn_e h
  have hJ34 : ∀ (b3 : Int32) (M4 : gM) (H : Heap) (locs : List Loc) (ls : Array Slot), gZ D mLay dA mLive A (gA mLive A) s.heap M4 H locs → lv_has ls 9 [(0, .ref (A m_o)), (1, .int a1), (2, .int a2), (3, .int a3)] → J34 (b3, M4) = some y → W p l e (headSpec wmX11_find ({ frames := 5, cells := 0, slots := 0, locals := 129 } : Room)).room s m args below meth c H locs 0 0 (MQ below (mQl D dA A y) args s 0 0 (gA mLive A)) (F0 m 34 ls [.int b3, .ref (A m_o)]) := by
    intro b3 M4 H locs ls Z hl h
    rw [eJ34] at h
    try dsimp only at h
    refine mp_thrown S X Z hin hl_165 dX11_find_34 h (fun M5 H locs Z h => ?_)
    refine lv_aload_n hx hb dX11_find_37 rfl (lv_at hl 0 rfl) ?_
    refine mr_thrown S X Z hin hl_165 dX11_find_38 h (fun v6 h => ?_)
    refine lv_if_le (tgt := 46) hx hb dX11_find_41 (by decide) (fun c7 => ?_) (fun c7 => ?_)
    · have h := if_t c7 h
      refine lv_aload_n hx hb dX11_find_46 rfl (lv_at hl 0 rfl) ?_
      refine lv_iload_n hx hb dX11_find_47 rfl (lv_at hl 2 rfl) ?_
      refine lv_iconst (v := (1 : Int32)) hx hb dX11_find_48 (by decide) ?_
      obtain ⟨v9, hc8, h⟩ := o1_e h
      refine g_Vl (As := [.int a2, .int (1 : Int32)]) (rest := []) S X Z mlv_o rfl rfl (t_X11_kindOf l D dA A hJ  hc8) (cwV 2 hts (mGV (mB 177 rfl) (mB 178 rfl) (mB 179 rfl) (mB 63 rfl) (mB 66 rfl)) rfl rfl rfl (by decide +kernel) ⟨Nat.le_of_ble_eq_true rfl, Nat.le_of_ble_eq_true rfl⟩) rfl hl.1 rfl (Nat.le_of_ble_eq_true rfl) dX11_find_49 ⟨Nat.zero_le _, Nat.zero_le _⟩ (fun H locs Z => ?_)
      refine lv_lstore (lv' := [(4, .long v9), (0, .ref (A m_o)), (1, .int a1), (2, .int a2), (3, .int a3)]) hx hb dX11_find_52 hl (by decide) rfl (fun ls hl => ?_)
      refine lv_lload hx hb dX11_find_54 (lv_at hl 0 rfl) ?_
      refine lv_lconst (v := (0 : Int64)) hx hb dX11_find_56 (by decide) ?_
      refine W.lcmp hx hb dX11_find_57 ?_
      refine lv_if_eq (tgt := 64) hx hb dX11_find_58 (by decide) (fun c10 => ?_) (fun c10 => ?_)
      · have h := if_t c10 h
        refine lv_aload_n hx hb dX11_find_64 rfl (lv_at hl 1 rfl) ?_
        refine lv_dup hx hb dX11_find_65 rfl ?_
        refine mr_call S X Z hin hl_211 dX11_find_66 h (fun v11 h => ?_)
        refine lv_iconst (v := (1 : Int32)) hx hb dX11_find_69 (by decide) ?_
        refine lv_iadd hx hb dX11_find_70 ?_
        refine mp_call S X Z hin hl_211 dX11_find_71 h (fun M12 H locs Z h => ?_)
        refine lv_aload_n hx hb dX11_find_74 rfl (lv_at hl 1 rfl) ?_
        refine lv_iload_n hx hb dX11_find_75 rfl (lv_at hl 2 rfl) ?_
        refine lv_iload_n hx hb dX11_find_76 rfl (lv_at hl 3 rfl) ?_
        refine lv_bipush (v := (10 : Int32)) hx hb dX11_find_77 (by decide) ?_
        obtain ⟨v15, M14, hc13, h⟩ := ob_e h
        refine g_Vl (As := [.int a1, .int a2, .int (10 : Int32)]) (rest := []) S X Z mlv_o rfl rfl (t_X11_get l D dA A hJ  hc13) (cwV 3 hts (mGV (mB 180 rfl) (mB 181 rfl) (mB 182 rfl) (mB 63 rfl) (mB 176 rfl)) rfl rfl rfl (by decide +kernel) ⟨Nat.le_of_ble_eq_true rfl, Nat.le_of_ble_eq_true rfl⟩) rfl hl.1 rfl (Nat.le_of_ble_eq_true rfl) dX11_find_79 ⟨Nat.zero_le _, Nat.zero_le _⟩ (fun H locs Z => ?_)
        refine lv_lstore (lv' := [(6, .long v15), (4, .long v9), (0, .ref (A m_o)), (1, .int a1), (2, .int a2), (3, .int a3)]) hx hb dX11_find_82 hl (by decide) rfl (fun ls hl => ?_)
        refine lv_lload hx hb dX11_find_84 (lv_at hl 0 rfl) ?_
        refine lv_lconst (v := (0 : Int64)) hx hb dX11_find_86 (by decide) ?_
        refine W.lcmp hx hb dX11_find_87 ?_
        refine lv_if_eq (tgt := 94) hx hb dX11_find_88 (by decide) (fun c16 => ?_) (fun c16 => ?_)
        · have h := if_t c16 h
          refine lv_iconst (v := (1 : Int32)) hx hb dX11_find_94 (by decide) ?_
          refine lv_istore (lv' := [(8, .int (1 : Int32)), (6, .long v15), (4, .long v9), (0, .ref (A m_o)), (1, .int a1), (2, .int a2), (3, .int a3)]) hx hb dX11_find_95 hl (by decide) rfl (fun ls hl => ?_)
          have hL97 : ∀ (n : Nat) (x17 : Int32) (M18 : gM) (H : Heap) (locs : List Loc) (ls : Array Slot), gZ D mLay dA mLive A (gA mLive A) s.heap M18 H locs → lv_has ls 9 [(0, .ref (A m_o)), (3, .int a3), (8, .int x17)] → f_X11_find_L97 a3 n x17 M18 = some y → W p l e (headSpec wmX11_find ({ frames := 5, cells := 0, slots := 0, locals := 129 } : Room)).room s m args below meth c H locs 0 0 (MQ below (mQl D dA A y) args s 0 0 (gA mLive A)) (F0 m 97 ls []) := by
            intro n
            induction n with
            | zero =>
              intro x17 M18 H locs ls Z hl h
              rw [f_X11_find_L97] at h
              cases h
            | succ n19 ih97 =>
              intro x17 M18 H locs ls Z hl h
              rw [f_X11_find_L97] at h
              refine lv_iload hx hb dX11_find_97 (lv_at hl 2 rfl) ?_
              refine lv_aload_n hx hb dX11_find_99 rfl (lv_at hl 0 rfl) ?_
              refine mr_made S X Z hin hl_162 dX11_find_100 h (fun v20 h => ?_)
              refine lv_icmp_ge (tgt := 138) hx hb dX11_find_103 (by decide) (fun c21 => ?_) (fun c21 => ?_)
              · have h := if_t c21 h
                refine lv_ldc2 hx hb hown hc_172 dX11_find_138 ?_
                have hy := Option.some.inj h
                subst hy
                exact g_rl S Z hr hlocks dX11_find_141
              · have h := if_f c21 h
                refine lv_aload_n hx hb dX11_find_106 rfl (lv_at hl 0 rfl) ?_
                refine mr_gotEntry S X Z hin hl_119 dX11_find_107 ?_
                refine lv_iload hx hb dX11_find_110 (lv_at hl 2 rfl) ?_
                refine g_iald S X Z ml_gotEntry rfl dX11_find_112 h (fun v22 h => ?_)
                refine lv_iconst (v := (1 : Int32)) hx hb dX11_find_113 (by decide) ?_
                obtain ⟨J132, eJ132, h⟩ := jn_e h
                have hJ132 : ∀ (M23 : gM) (H : Heap) (locs : List Loc) (ls : Array Slot), gZ D mLay dA mLive A (gA mLive A) s.heap M23 H locs → lv_has ls 9 [(0, .ref (A m_o)), (3, .int a3), (8, .int x17)] → J132 M23 = some y → W p l e (headSpec wmX11_find ({ frames := 5, cells := 0, slots := 0, locals := 129 } : Room)).room s m args below meth c H locs 0 0 (MQ below (mQl D dA A y) args s 0 0 (gA mLive A)) (F0 m 132 ls []) := by
                  intro M23 H locs ls Z hl h
                  rw [eJ132] at h
                  try dsimp only at h
                  obtain ⟨x24, ex24, h⟩ := lt_e h
                  refine lv_iinc (v := x24) (lv' := [(8, .int x24), (0, .ref (A m_o)), (3, .int a3)]) hx hb dX11_find_132 hl (k := 2) rfl (by rw [ex24]; rfl) (by decide) rfl (fun ls hl => ?_)
                  refine lv_goto (tgt := 97) hx hb dX11_find_135 (by decide) ?_
                  exact ih97 x24 M23 _ _ _ Z (lv_sub hl [1, 2, 0] rfl) h
                refine lv_icmp_ne (tgt := 132) hx hb dX11_find_114 (by decide) (fun c25 => ?_) (fun c25 => ?_)
                · have h := if_f c25 h
                  exact hJ132 M18 _ _ _ Z (lv_sub hl [0, 1, 2] rfl) h
                · have h := if_t c25 h
                  refine lv_aload_n hx hb dX11_find_117 rfl (lv_at hl 0 rfl) ?_
                  refine mr_name S X Z hin hl_26 dX11_find_118 ?_
                  refine lv_iload hx hb dX11_find_121 (lv_at hl 2 rfl) ?_
                  refine g_iald S X Z ml_name rfl dX11_find_123 h (fun v26 h => ?_)
                  refine lv_iload_n hx hb dX11_find_124 rfl (lv_at hl 1 rfl) ?_
                  refine lv_icmp_ne (tgt := 132) hx hb dX11_find_125 (by decide) (fun c27 => ?_) (fun c27 => ?_)
                  · have h := if_f c27 h
                    exact hJ132 M18 _ _ _ Z (lv_sub hl [0, 1, 2] rfl) h
                  · have h := if_t c27 h
                    refine lv_iload hx hb dX11_find_128 (lv_at hl 2 rfl) ?_
                    refine lv_i2l hx hb dX11_find_130 rfl ?_
                    have hy := Option.some.inj h
                    subst hy
                    exact g_rl S Z hr hlocks dX11_find_131
          exact hL97 100 (1 : Int32) M14 _ _ _ Z (lv_sub hl [3, 6, 0] rfl) h
        · have h := if_f c16 h
          refine lv_lload hx hb dX11_find_91 (lv_at hl 0 rfl) ?_
          have hy := Option.some.inj h
          subst hy
          exact g_rl S Z hr hlocks dX11_find_93
      · have h := if_f c10 h
        refine lv_lload hx hb dX11_find_61 (lv_at hl 0 rfl) ?_
        have hy := Option.some.inj h
        subst hy
        exact g_rl S Z hr hlocks dX11_find_63
    · have h := if_f c7 h
      refine lv_lconst (v := (0 : Int64)) hx hb dX11_find_44 (by decide) ?_
      have hy := Option.some.inj h
      subst hy
      exact g_rl S Z hr hlocks dX11_find_45
  obtain ⟨J15, eJ15, h⟩ := jn_e h
  have hJ15 : ∀ (M28 : gM) (H : Heap) (locs : List Loc) (ls : Array Slot), gZ D mLay dA mLive A (gA mLive A) s.heap M28 H locs → lv_has ls 9 [(0, .ref (A m_o)), (1, .int a1), (2, .int a2), (3, .int a3)] → J15 M28 = some y → W p l e (headSpec wmX11_find ({ frames := 5, cells := 0, slots := 0, locals := 129 } : Room)).room s m args below meth c H locs 0 0 (MQ below (mQl D dA A y) args s 0 0 (gA mLive A)) (F0 m 15 ls [.ref (A m_o)]) := by
    intro M28 H locs ls Z hl h
    rw [eJ15] at h
    try dsimp only at h
    refine lv_iconst (v := (1 : Int32)) hx hb dX11_find_15 (by decide) ?_
    refine lv_goto (tgt := 34) hx hb dX11_find_16 (by decide) ?_
    exact hJ34 (1 : Int32) M28 _ _ _ Z (lv_sub hl [0, 1, 2, 3] rfl) h
  refine lv_if_eq (tgt := 15) hx hb dX11_find_5 (by decide) (fun c29 => ?_) (fun c29 => ?_)
  · have h := if_t c29 h
    exact hJ15 M _ _ _ Z (lv_sub hl [0, 1, 2, 3] rfl) h
  · have h := if_f c29 h
    refine lv_iload_n hx hb dX11_find_8 rfl (lv_at hl 2 rfl) ?_
    obtain ⟨v31, hc30, h⟩ := o1_e h
    refine g_Si (As := [.int a2]) (rest := [.ref (A m_o)]) S X Z (t_X11_isObject l D dA A hJ  hc30) (va_cwS 1 hts (mGS (mB 93 rfl) (mB 94 rfl) (mB 63 rfl) (mB 65 rfl)) rfl rfl rfl (by decide +kernel) ⟨Nat.le_of_ble_eq_true rfl, Nat.le_of_ble_eq_true rfl⟩) rfl hl.1 rfl (Nat.le_of_ble_eq_true rfl) dX11_find_9 ⟨Nat.zero_le _, Nat.zero_le _⟩ (fun H locs Z => ?_)
    refine lv_if_ne (tgt := 19) hx hb dX11_find_12 (by decide) (fun c32 => ?_) (fun c32 => ?_)
    · have h := if_f c32 h
      refine lv_iload_n hx hb dX11_find_19 rfl (lv_at hl 3 rfl) ?_
      refine lv_iconst (v := (0 : Int32)) hx hb dX11_find_20 (by decide) ?_
      refine lv_bipush (v := (15 : Int32)) hx hb dX11_find_21 (by decide) ?_
      obtain ⟨v34, hc33, h⟩ := o1_e h
      refine g_Si (As := [.int a3, .int (0 : Int32), .int (15 : Int32)]) (rest := [.ref (A m_o)]) S X Z (t_X11_in l D dA A hJ  hc33) (va_cwS 3 hts (mGS (mB 61 rfl) (mB 62 rfl) (mB 63 rfl) (mB 59 rfl)) rfl rfl rfl (by decide +kernel) ⟨Nat.le_of_ble_eq_true rfl, Nat.le_of_ble_eq_true rfl⟩) rfl hl.1 rfl (Nat.le_of_ble_eq_true rfl) dX11_find_23 ⟨Nat.zero_le _, Nat.zero_le _⟩ (fun H locs Z => ?_)
      refine lv_if_eq (tgt := 33) hx hb dX11_find_26 (by decide) (fun c35 => ?_) (fun c35 => ?_)
      · have h := if_t c35 h
        refine lv_iconst (v := (2 : Int32)) hx hb dX11_find_33 (by decide) ?_
        exact hJ34 (2 : Int32) M _ _ _ Z (lv_sub hl [0, 1, 2, 3] rfl) h
      · have h := if_f c35 h
        refine lv_iconst (v := (0 : Int32)) hx hb dX11_find_29 (by decide) ?_
        refine lv_goto (tgt := 34) hx hb dX11_find_30 (by decide) ?_
        exact hJ34 (0 : Int32) M _ _ _ Z (lv_sub hl [0, 1, 2, 3] rfl) h
    · have h := if_t c32 h
      exact hJ15 M _ _ _ Z (lv_sub hl [0, 1, 2, 3] rfl) h
-- X11_read (II)J: 49 instructions
theorem dX11_read_0 : decode cX11_read 0 = .ok (.aload_n 0, 1) := by decide +kernel
theorem dX11_read_1 : decode cX11_read 1 = .ok (.iload_n 1, 1) := by decide +kernel
theorem dX11_read_2 : decode cX11_read 2 = .ok (.invokestatic 191, 3) := by decide +kernel
theorem dX11_read_5 : decode cX11_read 5 = .ok (.ifCond .eq 14, 3) := by decide +kernel
theorem dX11_read_8 : decode cX11_read 8 = .ok (.iload_n 2, 1) := by decide +kernel
theorem dX11_read_9 : decode cX11_read 9 = .ok (.invokestatic 194, 3) := by decide +kernel
theorem dX11_read_12 : decode cX11_read 12 = .ok (.ifCond .eq 7, 3) := by decide +kernel
theorem dX11_read_15 : decode cX11_read 15 = .ok (.iconst 0, 1) := by decide +kernel
theorem dX11_read_16 : decode cX11_read 16 = .ok (.goto 4, 3) := by decide +kernel
theorem dX11_read_19 : decode cX11_read 19 = .ok (.iconst 1, 1) := by decide +kernel
theorem dX11_read_20 : decode cX11_read 20 = .ok (.putfield 165, 3) := by decide +kernel
theorem dX11_read_23 : decode cX11_read 23 = .ok (.aload_n 0, 1) := by decide +kernel
theorem dX11_read_24 : decode cX11_read 24 = .ok (.getfield 165, 3) := by decide +kernel
theorem dX11_read_27 : decode cX11_read 27 = .ok (.ifCond .le 5, 3) := by decide +kernel
theorem dX11_read_30 : decode cX11_read 30 = .ok (.lconst 0, 1) := by decide +kernel
theorem dX11_read_31 : decode cX11_read 31 = .ok (.lreturn, 1) := by decide +kernel
theorem dX11_read_32 : decode cX11_read 32 = .ok (.aload_n 0, 1) := by decide +kernel
theorem dX11_read_33 : decode cX11_read 33 = .ok (.iload_n 2, 1) := by decide +kernel
theorem dX11_read_34 : decode cX11_read 34 = .ok (.iconst 0, 1) := by decide +kernel
theorem dX11_read_35 : decode cX11_read 35 = .ok (.invokevirtual 278, 3) := by decide +kernel
theorem dX11_read_38 : decode cX11_read 38 = .ok (.lstore_n 3, 1) := by decide +kernel
theorem dX11_read_39 : decode cX11_read 39 = .ok (.lload_n 3, 1) := by decide +kernel
theorem dX11_read_40 : decode cX11_read 40 = .ok (.lconst 0, 1) := by decide +kernel
theorem dX11_read_41 : decode cX11_read 41 = .ok (.lcmp, 1) := by decide +kernel
theorem dX11_read_42 : decode cX11_read 42 = .ok (.ifCond .eq 5, 3) := by decide +kernel
theorem dX11_read_45 : decode cX11_read 45 = .ok (.lload_n 3, 1) := by decide +kernel
theorem dX11_read_46 : decode cX11_read 46 = .ok (.lreturn, 1) := by decide +kernel
theorem dX11_read_47 : decode cX11_read 47 = .ok (.aload_n 0, 1) := by decide +kernel
theorem dX11_read_48 : decode cX11_read 48 = .ok (.dup, 1) := by decide +kernel
theorem dX11_read_49 : decode cX11_read 49 = .ok (.getfield 211, 3) := by decide +kernel
theorem dX11_read_52 : decode cX11_read 52 = .ok (.iconst 1, 1) := by decide +kernel
theorem dX11_read_53 : decode cX11_read 53 = .ok (.iadd, 1) := by decide +kernel
theorem dX11_read_54 : decode cX11_read 54 = .ok (.putfield 211, 3) := by decide +kernel
theorem dX11_read_57 : decode cX11_read 57 = .ok (.aload_n 0, 1) := by decide +kernel
theorem dX11_read_58 : decode cX11_read 58 = .ok (.iload_n 1, 1) := by decide +kernel
theorem dX11_read_59 : decode cX11_read 59 = .ok (.iload_n 2, 1) := by decide +kernel
theorem dX11_read_60 : decode cX11_read 60 = .ok (.bipush 10, 2) := by decide +kernel
theorem dX11_read_62 : decode cX11_read 62 = .ok (.invokevirtual 282, 3) := by decide +kernel
theorem dX11_read_65 : decode cX11_read 65 = .ok (.lstore 5, 2) := by decide +kernel
theorem dX11_read_67 : decode cX11_read 67 = .ok (.lload 5, 2) := by decide +kernel
theorem dX11_read_69 : decode cX11_read 69 = .ok (.lconst 0, 1) := by decide +kernel
theorem dX11_read_70 : decode cX11_read 70 = .ok (.lcmp, 1) := by decide +kernel
theorem dX11_read_71 : decode cX11_read 71 = .ok (.ifCond .eq 8, 3) := by decide +kernel
theorem dX11_read_74 : decode cX11_read 74 = .ok (.lload 5, 2) := by decide +kernel
theorem dX11_read_76 : decode cX11_read 76 = .ok (.goto 8, 3) := by decide +kernel
theorem dX11_read_79 : decode cX11_read 79 = .ok (.aload_n 0, 1) := by decide +kernel
theorem dX11_read_80 : decode cX11_read 80 = .ok (.getfield 231, 3) := by decide +kernel
theorem dX11_read_83 : decode cX11_read 83 = .ok (.i2l, 1) := by decide +kernel
theorem dX11_read_84 : decode cX11_read 84 = .ok (.lreturn, 1) := by decide +kernel
abbrev wmX11_read : List Cond := .code yX11_read cX11_read 7 (some .long) :: mBig
def f_X11_read (M : gM) (a1 : Int32) (a2 : Int32) : Option (Int64 × gM) :=
  o1 (f_X11_isClient M a1) (fun v2 => jn (fun (q : (Int32 × gM)) => match q with | (b3, M4) => lt (gset M4 m_o 66 b3) (fun M5 => lt (M5 m_o 66) (fun v6 => (if v6 ≤ 0 then o1 (f_X11_kindOf M5 a2 (0 : Int32)) (fun v9 => (if (lg_cmp v9 (0 : Int64)) = 0 then lt (M5 m_o 33) (fun v11 => lt (gset M5 m_o 33 (v11 + (1 : Int32))) (fun M12 => ob (f_X11_get M12 a1 a2 (10 : Int32)) (fun v15 M14 => (if (lg_cmp v15 (0 : Int64)) = 0 then lt (M14 m_o 42) (fun v17 => some (v17.toInt64, M14)) else some (v15, M14))))) else some (v9, M5))) else some ((0 : Int64), M5))))) (fun J20 => jn (fun (M18 : gM) => J20 ((1 : Int32), M18)) (fun J19 => (if v2 = 0 then J19 M else o1 (f_X11_isObject M a2) (fun v21 => (if v21 = 0 then J19 M else J20 ((0 : Int32), M)))))))
set_option maxHeartbeats 4000000 in
set_option maxRecDepth 100000 in
theorem t_X11_read (l : Launch) (D : va_G) (dA : Nat → ClassId) (A : gI → Nat) (hJ : gJ mLive A) {M : gM} {a1 : Int32} {a2 : Int32}  {y : (Int64 × gM)} (h : f_X11_read M a1 a2 = some y) : mMl l yX11_read wmX11_read ({ frames := 5, cells := 0, slots := 0, locals := 129 } : Room) D dA A [.ref (A m_o), .int a1, .int a2] M y.1 y.2 := by
  refine Met.ofW (cc := cX11_read) (maxL := 7) (ret := (some .long)) (by decide) rfl ?_
  intro p e s m args below meth c s₁ B hml hv
  obtain ⟨rfl, hP, hK⟩ := hv
  generalize hargs : ([.ref (A m_o), .int a1, .int a2] : List Value).toArray = args at B ⊢
  have S : CallFix p m c cX11_read 7 s args wmX11_read RX11 := ⟨B.exec, B.bytes, hml, findClass_of_methodNamed B.named, atoms_spec (ws := wmX11_read) B.pre⟩
  obtain ⟨hx, hb, -, hown, hts⟩ := id S
  have hr := B.returns
  have hlocks := B.notSynchronized
  have X : gX D vwCl dA mLive A (gA mLive A) s := ⟨hK, hJ, fun i hi => ⟨i, hi, rfl⟩⟩
  have Z : gZ D mLay dA mLive A (gA mLive A) s.heap M s.heap [] := ⟨hP, va_S.rf⟩
  have hin : ∀ w ∈ wsX110, w ∈ wmX11_read := m_in
  have hl_165 := hts (.fieldLink RX11 165 "ReplicaFilesModel" "thrown" "I") (mBc 58 rfl)
  have hl_211 := hts (.fieldLink RX11 211 "ReplicaFilesModel" "call" "I") (mBc 119 rfl)
  have hl_231 := hts (.fieldLink RX11 231 "ReplicaFilesModel" "gotValue" "I") (mBc 138 rfl)
  have hl := lv_entry ([.ref (A m_o), .int a1, .int a2]) (n := 7) (Nat.le_of_ble_eq_true rfl)
  rw [← hargs, lg_entry_eq, hargs]
  generalize (lg_sl ([.ref (A m_o), .int a1, .int a2]) ++ List.replicate (7 - (lg_sl ([.ref (A m_o), .int a1, .int a2])).length) Slot.unset).toArray = ls at hl ⊢
  have hl : lv_has ls 7 [(0, .ref (A m_o)), (1, .int a1), (2, .int a2)] := hl
  unfold f_X11_read at h
  refine lv_aload_n hx hb dX11_read_0 rfl (lv_at hl 0 rfl) ?_
  refine lv_iload_n hx hb dX11_read_1 rfl (lv_at hl 1 rfl) ?_
  obtain ⟨v2, hc1, h⟩ := o1_e h
  refine g_Si (As := [.int a1]) (rest := [.ref (A m_o)]) S X Z (t_X11_isClient l D dA A hJ  hc1) (va_cwS 1 hts (mGS (mB 91 rfl) (mB 92 rfl) (mB 63 rfl) (mB 64 rfl)) rfl rfl rfl (by decide +kernel) ⟨Nat.le_of_ble_eq_true rfl, Nat.le_of_ble_eq_true rfl⟩) rfl hl.1 rfl (Nat.le_of_ble_eq_true rfl) dX11_read_2 ⟨Nat.zero_le _, Nat.zero_le _⟩ (fun H locs Z => ?_)
  obtain ⟨J20, eJ20, h⟩ := jn_e h
  have hJ20 : ∀ (b3 : Int32) (M4 : gM) (H : Heap) (locs : List Loc) (ls : Array Slot), gZ D mLay dA mLive A (gA mLive A) s.heap M4 H locs → lv_has ls 7 [(0, .ref (A m_o)), (1, .int a1), (2, .int a2)] → J20 (b3, M4) = some y → W p l e (headSpec wmX11_read ({ frames := 5, cells := 0, slots := 0, locals := 129 } : Room)).room s m args below meth c H locs 0 0 (MQ below (mQl D dA A y) args s 0 0 (gA mLive A)) (F0 m 20 ls [.int b3, .ref (A m_o)]) := by
    intro b3 M4 H locs ls Z hl h
    rw [eJ20] at h
    try dsimp only at h
    refine mp_thrown S X Z hin hl_165 dX11_read_20 h (fun M5 H locs Z h => ?_)
    refine lv_aload_n hx hb dX11_read_23 rfl (lv_at hl 0 rfl) ?_
    refine mr_thrown S X Z hin hl_165 dX11_read_24 h (fun v6 h => ?_)
    refine lv_if_le (tgt := 32) hx hb dX11_read_27 (by decide) (fun c7 => ?_) (fun c7 => ?_)
    · have h := if_t c7 h
      refine lv_aload_n hx hb dX11_read_32 rfl (lv_at hl 0 rfl) ?_
      refine lv_iload_n hx hb dX11_read_33 rfl (lv_at hl 2 rfl) ?_
      refine lv_iconst (v := (0 : Int32)) hx hb dX11_read_34 (by decide) ?_
      obtain ⟨v9, hc8, h⟩ := o1_e h
      refine g_Vl (As := [.int a2, .int (0 : Int32)]) (rest := []) S X Z mlv_o rfl rfl (t_X11_kindOf l D dA A hJ  hc8) (cwV 2 hts (mGV (mB 177 rfl) (mB 178 rfl) (mB 179 rfl) (mB 63 rfl) (mB 66 rfl)) rfl rfl rfl (by decide +kernel) ⟨Nat.le_of_ble_eq_true rfl, Nat.le_of_ble_eq_true rfl⟩) rfl hl.1 rfl (Nat.le_of_ble_eq_true rfl) dX11_read_35 ⟨Nat.zero_le _, Nat.zero_le _⟩ (fun H locs Z => ?_)
      refine lv_lstore_n (lv' := [(3, .long v9), (0, .ref (A m_o)), (1, .int a1), (2, .int a2)]) hx hb dX11_read_38 rfl hl (by decide) rfl (fun ls hl => ?_)
      refine lv_lload_n hx hb dX11_read_39 rfl (lv_at hl 0 rfl) ?_
      refine lv_lconst (v := (0 : Int64)) hx hb dX11_read_40 (by decide) ?_
      refine W.lcmp hx hb dX11_read_41 ?_
      refine lv_if_eq (tgt := 47) hx hb dX11_read_42 (by decide) (fun c10 => ?_) (fun c10 => ?_)
      · have h := if_t c10 h
        refine lv_aload_n hx hb dX11_read_47 rfl (lv_at hl 1 rfl) ?_
        refine lv_dup hx hb dX11_read_48 rfl ?_
        refine mr_call S X Z hin hl_211 dX11_read_49 h (fun v11 h => ?_)
        refine lv_iconst (v := (1 : Int32)) hx hb dX11_read_52 (by decide) ?_
        refine lv_iadd hx hb dX11_read_53 ?_
        refine mp_call S X Z hin hl_211 dX11_read_54 h (fun M12 H locs Z h => ?_)
        refine lv_aload_n hx hb dX11_read_57 rfl (lv_at hl 1 rfl) ?_
        refine lv_iload_n hx hb dX11_read_58 rfl (lv_at hl 2 rfl) ?_
        refine lv_iload_n hx hb dX11_read_59 rfl (lv_at hl 3 rfl) ?_
        refine lv_bipush (v := (10 : Int32)) hx hb dX11_read_60 (by decide) ?_
        obtain ⟨v15, M14, hc13, h⟩ := ob_e h
        refine g_Vl (As := [.int a1, .int a2, .int (10 : Int32)]) (rest := []) S X Z mlv_o rfl rfl (t_X11_get l D dA A hJ  hc13) (cwV 3 hts (mGV (mB 180 rfl) (mB 181 rfl) (mB 182 rfl) (mB 63 rfl) (mB 176 rfl)) rfl rfl rfl (by decide +kernel) ⟨Nat.le_of_ble_eq_true rfl, Nat.le_of_ble_eq_true rfl⟩) rfl hl.1 rfl (Nat.le_of_ble_eq_true rfl) dX11_read_62 ⟨Nat.zero_le _, Nat.zero_le _⟩ (fun H locs Z => ?_)
        refine lv_lstore (lv' := [(5, .long v15), (3, .long v9), (0, .ref (A m_o)), (1, .int a1), (2, .int a2)]) hx hb dX11_read_65 hl (by decide) rfl (fun ls hl => ?_)
        refine lv_lload hx hb dX11_read_67 (lv_at hl 0 rfl) ?_
        refine lv_lconst (v := (0 : Int64)) hx hb dX11_read_69 (by decide) ?_
        refine W.lcmp hx hb dX11_read_70 ?_
        refine lv_if_eq (tgt := 79) hx hb dX11_read_71 (by decide) (fun c16 => ?_) (fun c16 => ?_)
        · have h := if_t c16 h
          refine lv_aload_n hx hb dX11_read_79 rfl (lv_at hl 2 rfl) ?_
          refine mr_gotValue S X Z hin hl_231 dX11_read_80 h (fun v17 h => ?_)
          refine lv_i2l hx hb dX11_read_83 rfl ?_
          have hy := Option.some.inj h
          subst hy
          exact g_rl S Z hr hlocks dX11_read_84
        · have h := if_f c16 h
          refine lv_lload hx hb dX11_read_74 (lv_at hl 0 rfl) ?_
          refine lv_goto (tgt := 84) hx hb dX11_read_76 (by decide) ?_
          have hy := Option.some.inj h
          subst hy
          exact g_rl S Z hr hlocks dX11_read_84
      · have h := if_f c10 h
        refine lv_lload_n hx hb dX11_read_45 rfl (lv_at hl 0 rfl) ?_
        have hy := Option.some.inj h
        subst hy
        exact g_rl S Z hr hlocks dX11_read_46
    · have h := if_f c7 h
      refine lv_lconst (v := (0 : Int64)) hx hb dX11_read_30 (by decide) ?_
      have hy := Option.some.inj h
      subst hy
      exact g_rl S Z hr hlocks dX11_read_31
  obtain ⟨J19, eJ19, h⟩ := jn_e h
  have hJ19 : ∀ (M18 : gM) (H : Heap) (locs : List Loc) (ls : Array Slot), gZ D mLay dA mLive A (gA mLive A) s.heap M18 H locs → lv_has ls 7 [(0, .ref (A m_o)), (1, .int a1), (2, .int a2)] → J19 M18 = some y → W p l e (headSpec wmX11_read ({ frames := 5, cells := 0, slots := 0, locals := 129 } : Room)).room s m args below meth c H locs 0 0 (MQ below (mQl D dA A y) args s 0 0 (gA mLive A)) (F0 m 19 ls [.ref (A m_o)]) := by
    intro M18 H locs ls Z hl h
    rw [eJ19] at h
    try dsimp only at h
    refine lv_iconst (v := (1 : Int32)) hx hb dX11_read_19 (by decide) ?_
    exact hJ20 (1 : Int32) M18 _ _ _ Z (lv_sub hl [0, 1, 2] rfl) h
  refine lv_if_eq (tgt := 19) hx hb dX11_read_5 (by decide) (fun c19 => ?_) (fun c19 => ?_)
  · have h := if_t c19 h
    exact hJ19 M _ _ _ Z (lv_sub hl [0, 1, 2] rfl) h
  · have h := if_f c19 h
    refine lv_iload_n hx hb dX11_read_8 rfl (lv_at hl 2 rfl) ?_
    obtain ⟨v21, hc20, h⟩ := o1_e h
    refine g_Si (As := [.int a2]) (rest := [.ref (A m_o)]) S X Z (t_X11_isObject l D dA A hJ  hc20) (va_cwS 1 hts (mGS (mB 93 rfl) (mB 94 rfl) (mB 63 rfl) (mB 65 rfl)) rfl rfl rfl (by decide +kernel) ⟨Nat.le_of_ble_eq_true rfl, Nat.le_of_ble_eq_true rfl⟩) rfl hl.1 rfl (Nat.le_of_ble_eq_true rfl) dX11_read_9 ⟨Nat.zero_le _, Nat.zero_le _⟩ (fun H locs Z => ?_)
    refine lv_if_eq (tgt := 19) hx hb dX11_read_12 (by decide) (fun c22 => ?_) (fun c22 => ?_)
    · have h := if_t c22 h
      exact hJ19 M _ _ _ Z (lv_sub hl [0, 1, 2] rfl) h
    · have h := if_f c22 h
      refine lv_iconst (v := (0 : Int32)) hx hb dX11_read_15 (by decide) ?_
      refine lv_goto (tgt := 20) hx hb dX11_read_16 (by decide) ?_
      exact hJ20 (0 : Int32) M _ _ _ Z (lv_sub hl [0, 1, 2] rfl) h
-- X11_setOf (II[I)I: 63 instructions
theorem dX11_setOf_0 : decode cX11_setOf 0 = .ok (.iconst 0, 1) := by decide +kernel
theorem dX11_setOf_1 : decode cX11_setOf 1 = .ok (.istore 4, 2) := by decide +kernel
theorem dX11_setOf_3 : decode cX11_setOf 3 = .ok (.iconst 0, 1) := by decide +kernel
theorem dX11_setOf_4 : decode cX11_setOf 4 = .ok (.istore 5, 2) := by decide +kernel
theorem dX11_setOf_6 : decode cX11_setOf 6 = .ok (.iload 5, 2) := by decide +kernel
theorem dX11_setOf_8 : decode cX11_setOf 8 = .ok (.aload_n 0, 1) := by decide +kernel
theorem dX11_setOf_9 : decode cX11_setOf 9 = .ok (.getfield 155, 3) := by decide +kernel
theorem dX11_setOf_12 : decode cX11_setOf 12 = .ok (.if_icmp .ge 95, 3) := by decide +kernel
theorem dX11_setOf_15 : decode cX11_setOf 15 = .ok (.iload_n 1, 1) := by decide +kernel
theorem dX11_setOf_16 : decode cX11_setOf 16 = .ok (.iload 5, 2) := by decide +kernel
theorem dX11_setOf_18 : decode cX11_setOf 18 = .ok (.ishr, 1) := by decide +kernel
theorem dX11_setOf_19 : decode cX11_setOf 19 = .ok (.iconst 1, 1) := by decide +kernel
theorem dX11_setOf_20 : decode cX11_setOf 20 = .ok (.iand, 1) := by decide +kernel
theorem dX11_setOf_21 : decode cX11_setOf 21 = .ok (.iconst 1, 1) := by decide +kernel
theorem dX11_setOf_22 : decode cX11_setOf 22 = .ok (.if_icmp .ne 57, 3) := by decide +kernel
theorem dX11_setOf_25 : decode cX11_setOf 25 = .ok (.aload_n 0, 1) := by decide +kernel
theorem dX11_setOf_26 : decode cX11_setOf 26 = .ok (.getfield 32, 3) := by decide +kernel
theorem dX11_setOf_29 : decode cX11_setOf 29 = .ok (.bipush 48, 2) := by decide +kernel
theorem dX11_setOf_31 : decode cX11_setOf 31 = .ok (.iload 5, 2) := by decide +kernel
theorem dX11_setOf_33 : decode cX11_setOf 33 = .ok (.imul, 1) := by decide +kernel
theorem dX11_setOf_34 : decode cX11_setOf 34 = .ok (.iload_n 2, 1) := by decide +kernel
theorem dX11_setOf_35 : decode cX11_setOf 35 = .ok (.iadd, 1) := by decide +kernel
theorem dX11_setOf_36 : decode cX11_setOf 36 = .ok (.baload, 1) := by decide +kernel
theorem dX11_setOf_37 : decode cX11_setOf 37 = .ok (.ifCond .eq 42, 3) := by decide +kernel
theorem dX11_setOf_40 : decode cX11_setOf 40 = .ok (.aload_n 0, 1) := by decide +kernel
theorem dX11_setOf_41 : decode cX11_setOf 41 = .ok (.getfield 44, 3) := by decide +kernel
theorem dX11_setOf_44 : decode cX11_setOf 44 = .ok (.bipush 48, 2) := by decide +kernel
theorem dX11_setOf_46 : decode cX11_setOf 46 = .ok (.iload 5, 2) := by decide +kernel
theorem dX11_setOf_48 : decode cX11_setOf 48 = .ok (.imul, 1) := by decide +kernel
theorem dX11_setOf_49 : decode cX11_setOf 49 = .ok (.iload_n 2, 1) := by decide +kernel
theorem dX11_setOf_50 : decode cX11_setOf 50 = .ok (.iadd, 1) := by decide +kernel
theorem dX11_setOf_51 : decode cX11_setOf 51 = .ok (.iaload, 1) := by decide +kernel
theorem dX11_setOf_52 : decode cX11_setOf 52 = .ok (.ifCond .ne 27, 3) := by decide +kernel
theorem dX11_setOf_55 : decode cX11_setOf 55 = .ok (.aload_n 0, 1) := by decide +kernel
theorem dX11_setOf_56 : decode cX11_setOf 56 = .ok (.aload_n 0, 1) := by decide +kernel
theorem dX11_setOf_57 : decode cX11_setOf 57 = .ok (.getfield 41, 3) := by decide +kernel
theorem dX11_setOf_60 : decode cX11_setOf 60 = .ok (.bipush 48, 2) := by decide +kernel
theorem dX11_setOf_62 : decode cX11_setOf 62 = .ok (.iload 5, 2) := by decide +kernel
theorem dX11_setOf_64 : decode cX11_setOf 64 = .ok (.imul, 1) := by decide +kernel
theorem dX11_setOf_65 : decode cX11_setOf 65 = .ok (.iload_n 2, 1) := by decide +kernel
theorem dX11_setOf_66 : decode cX11_setOf 66 = .ok (.iadd, 1) := by decide +kernel
theorem dX11_setOf_67 : decode cX11_setOf 67 = .ok (.aload_n 3, 1) := by decide +kernel
theorem dX11_setOf_68 : decode cX11_setOf 68 = .ok (.iconst 0, 1) := by decide +kernel
theorem dX11_setOf_69 : decode cX11_setOf 69 = .ok (.invokevirtual 275, 3) := by decide +kernel
theorem dX11_setOf_72 : decode cX11_setOf 72 = .ok (.ifCond .eq 7, 3) := by decide +kernel
theorem dX11_setOf_75 : decode cX11_setOf 75 = .ok (.iconst 1, 1) := by decide +kernel
theorem dX11_setOf_76 : decode cX11_setOf 76 = .ok (.goto 4, 3) := by decide +kernel
theorem dX11_setOf_79 : decode cX11_setOf 79 = .ok (.iconst 0, 1) := by decide +kernel
theorem dX11_setOf_80 : decode cX11_setOf 80 = .ok (.istore 6, 2) := by decide +kernel
theorem dX11_setOf_82 : decode cX11_setOf 82 = .ok (.iload 6, 2) := by decide +kernel
theorem dX11_setOf_84 : decode cX11_setOf 84 = .ok (.ifCond .eq 13, 3) := by decide +kernel
theorem dX11_setOf_87 : decode cX11_setOf 87 = .ok (.iload 4, 2) := by decide +kernel
theorem dX11_setOf_89 : decode cX11_setOf 89 = .ok (.iconst 1, 1) := by decide +kernel
theorem dX11_setOf_90 : decode cX11_setOf 90 = .ok (.iload 5, 2) := by decide +kernel
theorem dX11_setOf_92 : decode cX11_setOf 92 = .ok (.ishl, 1) := by decide +kernel
theorem dX11_setOf_93 : decode cX11_setOf 93 = .ok (.ior, 1) := by decide +kernel
theorem dX11_setOf_94 : decode cX11_setOf 94 = .ok (.goto 5, 3) := by decide +kernel
theorem dX11_setOf_97 : decode cX11_setOf 97 = .ok (.iload 4, 2) := by decide +kernel
theorem dX11_setOf_99 : decode cX11_setOf 99 = .ok (.istore 4, 2) := by decide +kernel
theorem dX11_setOf_101 : decode cX11_setOf 101 = .ok (.iinc 5 1, 3) := by decide +kernel
theorem dX11_setOf_104 : decode cX11_setOf 104 = .ok (.goto (-98), 3) := by decide +kernel
theorem dX11_setOf_107 : decode cX11_setOf 107 = .ok (.iload 4, 2) := by decide +kernel
theorem dX11_setOf_109 : decode cX11_setOf 109 = .ok (.ireturn, 1) := by decide +kernel
abbrev wmX11_setOf : List Cond := .code yX11_setOf cX11_setOf 7 (some .int) :: mBig
def f_X11_setOf_L6 (M3 : gM) (a1 : Int32) (a2 : Int32) (a3 : gI) : Nat → Int32 → Int32 → Option Int32
  | 0, _, _ => none
  | n4 + 1, x1, x2 => lt (M3 m_o 0) (fun v5 => (if v5 ≤ x2 then some x1 else jn (fun (b7 : Int32) => jn (fun (b8 : Int32) => lt (x2 + 1) (fun x9 => f_X11_setOf_L6 M3 a1 a2 a3 n4 b8 x9)) (fun J99 => (if b7 = 0 then J99 x1 else J99 (x1 ||| ((1 : Int32) <<< (x2 &&& 31)))))) (fun J80 => jn (fun (_ : Unit) => J80 (0 : Int32)) (fun J79 => (if ((a1 >>> (x2 &&& 31)) &&& (1 : Int32)) = (1 : Int32) then rd M3 m_has 192 (((48 : Int32) * x2) + a2) (fun v12 => (if v12 = 0 then J79 () else rd M3 m_versions 192 (((48 : Int32) * x2) + a2) (fun v14 => (if v14 = 0 then o1 (f_X11_isSame M3 m_vector (((48 : Int32) * x2) + a2) a3 (0 : Int32)) (fun v17 => (if v17 = 0 then J79 () else J80 (1 : Int32))) else J79 ())))) else J79 ())))))
def f_X11_setOf (M : gM) (a1 : Int32) (a2 : Int32) (a3 : gI) : Option Int32 :=
  f_X11_setOf_L6 M a1 a2 a3 100 (0 : Int32) (0 : Int32)
set_option maxHeartbeats 4000000 in
set_option maxRecDepth 100000 in
theorem t_X11_setOf (l : Launch) (D : va_G) (dA : Nat → ClassId) (A : gI → Nat) (hJ : gJ mLive A) {M : gM} {a1 : Int32} {a2 : Int32} {a3 : gI} (ha3 : mArr a3) {y : Int32} (h : f_X11_setOf M a1 a2 a3 = some y) : mMi l yX11_setOf wmX11_setOf ({ frames := 1, cells := 0, slots := 0, locals := 25 } : Room) D dA A [.ref (A m_o), .int a1, .int a2, .ref (A a3)] M y M := by
  refine Met.ofW (cc := cX11_setOf) (maxL := 7) (ret := (some .int)) (by decide) rfl ?_
  intro p e s m args below meth c s₁ B hml hv
  obtain ⟨rfl, hP, hK⟩ := hv
  generalize hargs : ([.ref (A m_o), .int a1, .int a2, .ref (A a3)] : List Value).toArray = args at B ⊢
  have S : CallFix p m c cX11_setOf 7 s args wmX11_setOf RX11 := ⟨B.exec, B.bytes, hml, findClass_of_methodNamed B.named, atoms_spec (ws := wmX11_setOf) B.pre⟩
  obtain ⟨hx, hb, -, hown, hts⟩ := id S
  have hr := B.returns
  have hlocks := B.notSynchronized
  have X : gX D vwCl dA mLive A (gA mLive A) s := ⟨hK, hJ, fun i hi => ⟨i, hi, rfl⟩⟩
  have Z : gZ D mLay dA mLive A (gA mLive A) s.heap M s.heap [] := ⟨hP, va_S.rf⟩
  have hin : ∀ w ∈ wsX110, w ∈ wmX11_setOf := m_in
  have hl_32 := hts (.fieldLink RX11 32 "ReplicaFilesModel" "has" "[Z") (mBc 12 rfl)
  have hl_41 := hts (.fieldLink RX11 41 "ReplicaFilesModel" "vector" "[I") (mBc 15 rfl)
  have hl_44 := hts (.fieldLink RX11 44 "ReplicaFilesModel" "versions" "[I") (mBc 16 rfl)
  have hl_155 := hts (.fieldLink RX11 155 "ReplicaFilesModel" "servers" "I") (mBc 53 rfl)
  have hl := lv_entry ([.ref (A m_o), .int a1, .int a2, .ref (A a3)]) (n := 7) (Nat.le_of_ble_eq_true rfl)
  rw [← hargs, lg_entry_eq, hargs]
  generalize (lg_sl ([.ref (A m_o), .int a1, .int a2, .ref (A a3)]) ++ List.replicate (7 - (lg_sl ([.ref (A m_o), .int a1, .int a2, .ref (A a3)])).length) Slot.unset).toArray = ls at hl ⊢
  have hl : lv_has ls 7 [(0, .ref (A m_o)), (1, .int a1), (2, .int a2), (3, .ref (A a3))] := hl
  unfold f_X11_setOf at h
  refine lv_iconst (v := (0 : Int32)) hx hb dX11_setOf_0 (by decide) ?_
  refine lv_istore (lv' := [(4, .int (0 : Int32)), (0, .ref (A m_o)), (1, .int a1), (2, .int a2), (3, .ref (A a3))]) hx hb dX11_setOf_1 hl (by decide) rfl (fun ls hl => ?_)
  refine lv_iconst (v := (0 : Int32)) hx hb dX11_setOf_3 (by decide) ?_
  refine lv_istore (lv' := [(5, .int (0 : Int32)), (4, .int (0 : Int32)), (0, .ref (A m_o)), (1, .int a1), (2, .int a2), (3, .ref (A a3))]) hx hb dX11_setOf_4 hl (by decide) rfl (fun ls hl => ?_)
  have hL6 : ∀ (n : Nat) (x1 : Int32) (x2 : Int32) (H : Heap) (locs : List Loc) (ls : Array Slot), gZ D mLay dA mLive A (gA mLive A) s.heap M H locs → lv_has ls 7 [(0, .ref (A m_o)), (1, .int a1), (2, .int a2), (3, .ref (A a3)), (4, .int x1), (5, .int x2)] → f_X11_setOf_L6 M a1 a2 a3 n x1 x2 = some y → W p l e (headSpec wmX11_setOf ({ frames := 1, cells := 0, slots := 0, locals := 25 } : Room)).room s m args below meth c H locs 0 0 (MQ below (mQi D dA A (y, M)) args s 0 0 (gA mLive A)) (F0 m 6 ls []) := by
    intro n
    induction n with
    | zero =>
      intro x1 x2 H locs ls Z hl h
      rw [f_X11_setOf_L6] at h
      cases h
    | succ n4 ih6 =>
      intro x1 x2 H locs ls Z hl h
      rw [f_X11_setOf_L6] at h
      refine lv_iload hx hb dX11_setOf_6 (lv_at hl 5 rfl) ?_
      refine lv_aload_n hx hb dX11_setOf_8 rfl (lv_at hl 0 rfl) ?_
      refine mr_servers S X Z hin hl_155 dX11_setOf_9 h (fun v5 h => ?_)
      refine lv_icmp_ge (tgt := 107) hx hb dX11_setOf_12 (by decide) (fun c6 => ?_) (fun c6 => ?_)
      · have h := if_t c6 h
        refine lv_iload hx hb dX11_setOf_107 (lv_at hl 4 rfl) ?_
        have hy := Option.some.inj h
        subst hy
        exact g_ri S Z hr hlocks dX11_setOf_109
      · have h := if_f c6 h
        refine lv_iload_n hx hb dX11_setOf_15 rfl (lv_at hl 1 rfl) ?_
        refine lv_iload hx hb dX11_setOf_16 (lv_at hl 5 rfl) ?_
        refine lv_ishr hx hb dX11_setOf_18 ?_
        refine lv_iconst (v := (1 : Int32)) hx hb dX11_setOf_19 (by decide) ?_
        refine lv_iand hx hb dX11_setOf_20 ?_
        refine lv_iconst (v := (1 : Int32)) hx hb dX11_setOf_21 (by decide) ?_
        obtain ⟨J80, eJ80, h⟩ := jn_e h
        have hJ80 : ∀ (b7 : Int32) (H : Heap) (locs : List Loc) (ls : Array Slot), gZ D mLay dA mLive A (gA mLive A) s.heap M H locs → lv_has ls 7 [(0, .ref (A m_o)), (1, .int a1), (2, .int a2), (3, .ref (A a3)), (4, .int x1), (5, .int x2)] → J80 b7 = some y → W p l e (headSpec wmX11_setOf ({ frames := 1, cells := 0, slots := 0, locals := 25 } : Room)).room s m args below meth c H locs 0 0 (MQ below (mQi D dA A (y, M)) args s 0 0 (gA mLive A)) (F0 m 80 ls [.int b7]) := by
          intro b7 H locs ls Z hl h
          rw [eJ80] at h
          try dsimp only at h
          refine lv_istore (lv' := [(6, .int b7), (0, .ref (A m_o)), (1, .int a1), (2, .int a2), (3, .ref (A a3)), (4, .int x1), (5, .int x2)]) hx hb dX11_setOf_80 hl (by decide) rfl (fun ls hl => ?_)
          refine lv_iload hx hb dX11_setOf_82 (lv_at hl 0 rfl) ?_
          obtain ⟨J99, eJ99, h⟩ := jn_e h
          have hJ99 : ∀ (b8 : Int32) (H : Heap) (locs : List Loc) (ls : Array Slot), gZ D mLay dA mLive A (gA mLive A) s.heap M H locs → lv_has ls 7 [(0, .ref (A m_o)), (1, .int a1), (2, .int a2), (3, .ref (A a3)), (5, .int x2)] → J99 b8 = some y → W p l e (headSpec wmX11_setOf ({ frames := 1, cells := 0, slots := 0, locals := 25 } : Room)).room s m args below meth c H locs 0 0 (MQ below (mQi D dA A (y, M)) args s 0 0 (gA mLive A)) (F0 m 99 ls [.int b8]) := by
            intro b8 H locs ls Z hl h
            rw [eJ99] at h
            try dsimp only at h
            refine lv_istore (lv' := [(4, .int b8), (0, .ref (A m_o)), (1, .int a1), (2, .int a2), (3, .ref (A a3)), (5, .int x2)]) hx hb dX11_setOf_99 hl (by decide) rfl (fun ls hl => ?_)
            obtain ⟨x9, ex9, h⟩ := lt_e h
            refine lv_iinc (v := x9) (lv' := [(5, .int x9), (4, .int b8), (0, .ref (A m_o)), (1, .int a1), (2, .int a2), (3, .ref (A a3))]) hx hb dX11_setOf_101 hl (k := 5) rfl (by rw [ex9]; rfl) (by decide) rfl (fun ls hl => ?_)
            refine lv_goto (tgt := 6) hx hb dX11_setOf_104 (by decide) ?_
            exact ih6 b8 x9 _ _ _ Z (lv_sub hl [2, 3, 4, 5, 1, 0] rfl) h
          refine lv_if_eq (tgt := 97) hx hb dX11_setOf_84 (by decide) (fun c10 => ?_) (fun c10 => ?_)
          · have h := if_t c10 h
            refine lv_iload hx hb dX11_setOf_97 (lv_at hl 5 rfl) ?_
            exact hJ99 x1 _ _ _ Z (lv_sub hl [1, 2, 3, 4, 6] rfl) h
          · have h := if_f c10 h
            refine lv_iload hx hb dX11_setOf_87 (lv_at hl 5 rfl) ?_
            refine lv_iconst (v := (1 : Int32)) hx hb dX11_setOf_89 (by decide) ?_
            refine lv_iload hx hb dX11_setOf_90 (lv_at hl 6 rfl) ?_
            refine lv_ishl hx hb dX11_setOf_92 ?_
            refine lv_ior hx hb dX11_setOf_93 ?_
            refine lv_goto (tgt := 99) hx hb dX11_setOf_94 (by decide) ?_
            exact hJ99 (x1 ||| ((1 : Int32) <<< (x2 &&& 31))) _ _ _ Z (lv_sub hl [1, 2, 3, 4, 6] rfl) h
        obtain ⟨J79, eJ79, h⟩ := jn_e h
        have hJ79 : ∀  (H : Heap) (locs : List Loc) (ls : Array Slot), gZ D mLay dA mLive A (gA mLive A) s.heap M H locs → lv_has ls 7 [(0, .ref (A m_o)), (1, .int a1), (2, .int a2), (3, .ref (A a3)), (4, .int x1), (5, .int x2)] → J79 () = some y → W p l e (headSpec wmX11_setOf ({ frames := 1, cells := 0, slots := 0, locals := 25 } : Room)).room s m args below meth c H locs 0 0 (MQ below (mQi D dA A (y, M)) args s 0 0 (gA mLive A)) (F0 m 79 ls []) := by
          intro  H locs ls Z hl h
          rw [eJ79] at h
          try dsimp only at h
          refine lv_iconst (v := (0 : Int32)) hx hb dX11_setOf_79 (by decide) ?_
          exact hJ80 (0 : Int32) _ _ _ Z (lv_sub hl [0, 1, 2, 3, 4, 5] rfl) h
        refine lv_icmp_ne (tgt := 79) hx hb dX11_setOf_22 (by decide) (fun c11 => ?_) (fun c11 => ?_)
        · have h := if_f c11 h
          exact hJ79  _ _ _ Z (lv_sub hl [0, 1, 2, 3, 4, 5] rfl) h
        · have h := if_t c11 h
          refine lv_aload_n hx hb dX11_setOf_25 rfl (lv_at hl 0 rfl) ?_
          refine mr_has S X Z hin hl_32 dX11_setOf_26 ?_
          refine lv_bipush (v := (48 : Int32)) hx hb dX11_setOf_29 (by decide) ?_
          refine lv_iload hx hb dX11_setOf_31 (lv_at hl 5 rfl) ?_
          refine lv_imul hx hb dX11_setOf_33 ?_
          refine lv_iload_n hx hb dX11_setOf_34 rfl (lv_at hl 2 rfl) ?_
          refine lv_iadd hx hb dX11_setOf_35 ?_
          refine g_zald S X Z ml_has rfl dX11_setOf_36 h (fun v12 h => ?_)
          refine lv_if_eq (tgt := 79) hx hb dX11_setOf_37 (by decide) (fun c13 => ?_) (fun c13 => ?_)
          · have h := if_t c13 h
            exact hJ79  _ _ _ Z (lv_sub hl [0, 1, 2, 3, 4, 5] rfl) h
          · have h := if_f c13 h
            refine lv_aload_n hx hb dX11_setOf_40 rfl (lv_at hl 0 rfl) ?_
            refine mr_versions S X Z hin hl_44 dX11_setOf_41 ?_
            refine lv_bipush (v := (48 : Int32)) hx hb dX11_setOf_44 (by decide) ?_
            refine lv_iload hx hb dX11_setOf_46 (lv_at hl 5 rfl) ?_
            refine lv_imul hx hb dX11_setOf_48 ?_
            refine lv_iload_n hx hb dX11_setOf_49 rfl (lv_at hl 2 rfl) ?_
            refine lv_iadd hx hb dX11_setOf_50 ?_
            refine g_iald S X Z ml_versions rfl dX11_setOf_51 h (fun v14 h => ?_)
            refine lv_if_ne (tgt := 79) hx hb dX11_setOf_52 (by decide) (fun c15 => ?_) (fun c15 => ?_)
            · have h := if_f c15 h
              exact hJ79  _ _ _ Z (lv_sub hl [0, 1, 2, 3, 4, 5] rfl) h
            · have h := if_t c15 h
              refine lv_aload_n hx hb dX11_setOf_55 rfl (lv_at hl 0 rfl) ?_
              refine lv_aload_n hx hb dX11_setOf_56 rfl (lv_at hl 0 rfl) ?_
              refine mr_vector S X Z hin hl_41 dX11_setOf_57 ?_
              refine lv_bipush (v := (48 : Int32)) hx hb dX11_setOf_60 (by decide) ?_
              refine lv_iload hx hb dX11_setOf_62 (lv_at hl 5 rfl) ?_
              refine lv_imul hx hb dX11_setOf_64 ?_
              refine lv_iload_n hx hb dX11_setOf_65 rfl (lv_at hl 2 rfl) ?_
              refine lv_iadd hx hb dX11_setOf_66 ?_
              refine lv_aload_n hx hb dX11_setOf_67 rfl (lv_at hl 3 rfl) ?_
              refine lv_iconst (v := (0 : Int32)) hx hb dX11_setOf_68 (by decide) ?_
              obtain ⟨v17, hc16, h⟩ := o1_e h
              refine g_Vi (As := [.ref (A m_vector), .int (((48 : Int32) * x2) + a2), .ref (A a3), .int (0 : Int32)]) (rest := []) S X Z mlv_o rfl rfl (t_X11_isSame l D dA A hJ ⟨ml_vector, rfl⟩ ha3 hc16) (cwV 4 hts (mGV (mB 150 rfl) (mB 151 rfl) (mB 152 rfl) (mB 63 rfl) (mB 96 rfl)) rfl rfl rfl (by decide +kernel) ⟨Nat.le_of_ble_eq_true rfl, Nat.le_of_ble_eq_true rfl⟩) rfl hl.1 rfl (Nat.le_of_ble_eq_true rfl) dX11_setOf_69 ⟨Nat.zero_le _, Nat.zero_le _⟩ (fun H locs Z => ?_)
              refine lv_if_eq (tgt := 79) hx hb dX11_setOf_72 (by decide) (fun c18 => ?_) (fun c18 => ?_)
              · have h := if_t c18 h
                exact hJ79  _ _ _ Z (lv_sub hl [0, 1, 2, 3, 4, 5] rfl) h
              · have h := if_f c18 h
                refine lv_iconst (v := (1 : Int32)) hx hb dX11_setOf_75 (by decide) ?_
                refine lv_goto (tgt := 80) hx hb dX11_setOf_76 (by decide) ?_
                exact hJ80 (1 : Int32) _ _ _ Z (lv_sub hl [0, 1, 2, 3, 4, 5] rfl) h
  exact hL6 100 (0 : Int32) (0 : Int32) _ _ _ Z (lv_sub hl [2, 3, 4, 5, 1, 0] rfl) h
-- X11_phases (I)V: 75 instructions
theorem dX11_phases_0 : decode cX11_phases 0 = .ok (.aload_n 0, 1) := by decide +kernel
theorem dX11_phases_1 : decode cX11_phases 1 = .ok (.iconst 0, 1) := by decide +kernel
theorem dX11_phases_2 : decode cX11_phases 2 = .ok (.putfield 286, 3) := by decide +kernel
theorem dX11_phases_5 : decode cX11_phases 5 = .ok (.aload_n 0, 1) := by decide +kernel
theorem dX11_phases_6 : decode cX11_phases 6 = .ok (.iload_n 1, 1) := by decide +kernel
theorem dX11_phases_7 : decode cX11_phases 7 = .ok (.aload_n 0, 1) := by decide +kernel
theorem dX11_phases_8 : decode cX11_phases 8 = .ok (.getfield 289, 3) := by decide +kernel
theorem dX11_phases_11 : decode cX11_phases 11 = .ok (.invokevirtual 292, 3) := by decide +kernel
theorem dX11_phases_14 : decode cX11_phases 14 = .ok (.iconst 0, 1) := by decide +kernel
theorem dX11_phases_15 : decode cX11_phases 15 = .ok (.istore_n 2, 1) := by decide +kernel
theorem dX11_phases_16 : decode cX11_phases 16 = .ok (.iload_n 2, 1) := by decide +kernel
theorem dX11_phases_17 : decode cX11_phases 17 = .ok (.aload_n 0, 1) := by decide +kernel
theorem dX11_phases_18 : decode cX11_phases 18 = .ok (.getfield 155, 3) := by decide +kernel
theorem dX11_phases_21 : decode cX11_phases 21 = .ok (.if_icmp .ge 99, 3) := by decide +kernel
theorem dX11_phases_24 : decode cX11_phases 24 = .ok (.aload_n 0, 1) := by decide +kernel
theorem dX11_phases_25 : decode cX11_phases 25 = .ok (.getfield 289, 3) := by decide +kernel
theorem dX11_phases_28 : decode cX11_phases 28 = .ok (.iload_n 2, 1) := by decide +kernel
theorem dX11_phases_29 : decode cX11_phases 29 = .ok (.ishr, 1) := by decide +kernel
theorem dX11_phases_30 : decode cX11_phases 30 = .ok (.iconst 1, 1) := by decide +kernel
theorem dX11_phases_31 : decode cX11_phases 31 = .ok (.iand, 1) := by decide +kernel
theorem dX11_phases_32 : decode cX11_phases 32 = .ok (.iconst 1, 1) := by decide +kernel
theorem dX11_phases_33 : decode cX11_phases 33 = .ok (.if_icmp .ne 81, 3) := by decide +kernel
theorem dX11_phases_36 : decode cX11_phases 36 = .ok (.aload_n 0, 1) := by decide +kernel
theorem dX11_phases_37 : decode cX11_phases 37 = .ok (.getfield 19, 3) := by decide +kernel
theorem dX11_phases_40 : decode cX11_phases 40 = .ok (.iload_n 2, 1) := by decide +kernel
theorem dX11_phases_41 : decode cX11_phases 41 = .ok (.baload, 1) := by decide +kernel
theorem dX11_phases_42 : decode cX11_phases 42 = .ok (.ifCond .eq 53, 3) := by decide +kernel
theorem dX11_phases_45 : decode cX11_phases 45 = .ok (.aload_n 0, 1) := by decide +kernel
theorem dX11_phases_46 : decode cX11_phases 46 = .ok (.getfield 19, 3) := by decide +kernel
theorem dX11_phases_49 : decode cX11_phases 49 = .ok (.iload_n 2, 1) := by decide +kernel
theorem dX11_phases_50 : decode cX11_phases 50 = .ok (.iconst 0, 1) := by decide +kernel
theorem dX11_phases_51 : decode cX11_phases 51 = .ok (.bastore, 1) := by decide +kernel
theorem dX11_phases_52 : decode cX11_phases 52 = .ok (.aload_n 0, 1) := by decide +kernel
theorem dX11_phases_53 : decode cX11_phases 53 = .ok (.dup, 1) := by decide +kernel
theorem dX11_phases_54 : decode cX11_phases 54 = .ok (.getfield 295, 3) := by decide +kernel
theorem dX11_phases_57 : decode cX11_phases 57 = .ok (.iconst 1, 1) := by decide +kernel
theorem dX11_phases_58 : decode cX11_phases 58 = .ok (.iadd, 1) := by decide +kernel
theorem dX11_phases_59 : decode cX11_phases 59 = .ok (.putfield 295, 3) := by decide +kernel
theorem dX11_phases_62 : decode cX11_phases 62 = .ok (.aload_n 0, 1) := by decide +kernel
theorem dX11_phases_63 : decode cX11_phases 63 = .ok (.aload_n 0, 1) := by decide +kernel
theorem dX11_phases_64 : decode cX11_phases 64 = .ok (.getfield 286, 3) := by decide +kernel
theorem dX11_phases_67 : decode cX11_phases 67 = .ok (.iconst 1, 1) := by decide +kernel
theorem dX11_phases_68 : decode cX11_phases 68 = .ok (.iload_n 2, 1) := by decide +kernel
theorem dX11_phases_69 : decode cX11_phases 69 = .ok (.ishl, 1) := by decide +kernel
theorem dX11_phases_70 : decode cX11_phases 70 = .ok (.ior, 1) := by decide +kernel
theorem dX11_phases_71 : decode cX11_phases 71 = .ok (.putfield 286, 3) := by decide +kernel
theorem dX11_phases_74 : decode cX11_phases 74 = .ok (.aload_n 0, 1) := by decide +kernel
theorem dX11_phases_75 : decode cX11_phases 75 = .ok (.aload_n 0, 1) := by decide +kernel
theorem dX11_phases_76 : decode cX11_phases 76 = .ok (.getfield 41, 3) := by decide +kernel
theorem dX11_phases_79 : decode cX11_phases 79 = .ok (.bipush 48, 2) := by decide +kernel
theorem dX11_phases_81 : decode cX11_phases 81 = .ok (.iload_n 2, 1) := by decide +kernel
theorem dX11_phases_82 : decode cX11_phases 82 = .ok (.imul, 1) := by decide +kernel
theorem dX11_phases_83 : decode cX11_phases 83 = .ok (.iload_n 1, 1) := by decide +kernel
theorem dX11_phases_84 : decode cX11_phases 84 = .ok (.iadd, 1) := by decide +kernel
theorem dX11_phases_85 : decode cX11_phases 85 = .ok (.iconst 1, 1) := by decide +kernel
theorem dX11_phases_86 : decode cX11_phases 86 = .ok (.iload_n 2, 1) := by decide +kernel
theorem dX11_phases_87 : decode cX11_phases 87 = .ok (.ishl, 1) := by decide +kernel
theorem dX11_phases_88 : decode cX11_phases 88 = .ok (.iload_n 1, 1) := by decide +kernel
theorem dX11_phases_89 : decode cX11_phases 89 = .ok (.invokevirtual 298, 3) := by decide +kernel
theorem dX11_phases_92 : decode cX11_phases 92 = .ok (.goto 22, 3) := by decide +kernel
theorem dX11_phases_95 : decode cX11_phases 95 = .ok (.aload_n 0, 1) := by decide +kernel
theorem dX11_phases_96 : decode cX11_phases 96 = .ok (.aload_n 0, 1) := by decide +kernel
theorem dX11_phases_97 : decode cX11_phases 97 = .ok (.getfield 41, 3) := by decide +kernel
theorem dX11_phases_100 : decode cX11_phases 100 = .ok (.bipush 48, 2) := by decide +kernel
theorem dX11_phases_102 : decode cX11_phases 102 = .ok (.iload_n 2, 1) := by decide +kernel
theorem dX11_phases_103 : decode cX11_phases 103 = .ok (.imul, 1) := by decide +kernel
theorem dX11_phases_104 : decode cX11_phases 104 = .ok (.iload_n 1, 1) := by decide +kernel
theorem dX11_phases_105 : decode cX11_phases 105 = .ok (.iadd, 1) := by decide +kernel
theorem dX11_phases_106 : decode cX11_phases 106 = .ok (.aload_n 0, 1) := by decide +kernel
theorem dX11_phases_107 : decode cX11_phases 107 = .ok (.getfield 289, 3) := by decide +kernel
theorem dX11_phases_110 : decode cX11_phases 110 = .ok (.iload_n 1, 1) := by decide +kernel
theorem dX11_phases_111 : decode cX11_phases 111 = .ok (.invokevirtual 298, 3) := by decide +kernel
theorem dX11_phases_114 : decode cX11_phases 114 = .ok (.iinc 2 1, 3) := by decide +kernel
theorem dX11_phases_117 : decode cX11_phases 117 = .ok (.goto (-101), 3) := by decide +kernel
theorem dX11_phases_120 : decode cX11_phases 120 = .ok (.return_, 1) := by decide +kernel
abbrev wmX11_phases : List Cond := .code yX11_phases cX11_phases 3 none :: mBig
def f_X11_phases_L16 (a1 : Int32) : Nat → Int32 → gM → Option gM
  | 0, _, _ => none
  | n7 + 1, x5, M6 => lt (M6 m_o 0) (fun v8 => (if v8 ≤ x5 then some M6 else lt (M6 m_o 51) (fun v10 => jn (fun (M11 : gM) => lt (x5 + 1) (fun x12 => f_X11_phases_L16 a1 n7 x12 M11)) (fun J114 => (if ((v10 >>> (x5 &&& 31)) &&& (1 : Int32)) = (1 : Int32) then rd M6 m_loses 4 x5 (fun v14 => (if v14 = 0 then lt (M6 m_o 51) (fun v16 => o1 (f_X11_count M6 m_vector (((48 : Int32) * x5) + a1) v16 a1) (fun M18 => J114 M18)) else wz M6 m_loses 4 x5 (0 : Int32) (fun M19 => lt (M19 m_o 48) (fun v20 => lt (gset M19 m_o 48 (v20 + (1 : Int32))) (fun M21 => lt (M21 m_o 52) (fun v22 => lt (gset M21 m_o 52 (v22 ||| ((1 : Int32) <<< (x5 &&& 31)))) (fun M23 => o1 (f_X11_count M23 m_vector (((48 : Int32) * x5) + a1) ((1 : Int32) <<< (x5 &&& 31)) a1) (fun M25 => J114 M25)))))))) else J114 M6)))))
def f_X11_phases (M : gM) (a1 : Int32) : Option gM :=
  lt (gset M m_o 52 (0 : Int32)) (fun M1 => lt (M1 m_o 51) (fun v2 => o1 (f_X11_mark M1 a1 v2) (fun M4 => f_X11_phases_L16 a1 100 (0 : Int32) M4)))
set_option maxHeartbeats 4000000 in
set_option maxRecDepth 100000 in
theorem t_X11_phases (l : Launch) (D : va_G) (dA : Nat → ClassId) (A : gI → Nat) (hJ : gJ mLive A) {M : gM} {a1 : Int32}  {y : gM} (h : f_X11_phases M a1 = some y) : mMv l yX11_phases wmX11_phases ({ frames := 1, cells := 0, slots := 0, locals := 25 } : Room) D dA A [.ref (A m_o), .int a1] M y := by
  refine Met.ofW (cc := cX11_phases) (maxL := 3) (ret := none) (by decide) rfl ?_
  intro p e s m args below meth c s₁ B hml hv
  obtain ⟨rfl, hP, hK⟩ := hv
  generalize hargs : ([.ref (A m_o), .int a1] : List Value).toArray = args at B ⊢
  have S : CallFix p m c cX11_phases 3 s args wmX11_phases RX11 := ⟨B.exec, B.bytes, hml, findClass_of_methodNamed B.named, atoms_spec (ws := wmX11_phases) B.pre⟩
  obtain ⟨hx, hb, -, hown, hts⟩ := id S
  have hr := B.returns
  have hlocks := B.notSynchronized
  have X : gX D vwCl dA mLive A (gA mLive A) s := ⟨hK, hJ, fun i hi => ⟨i, hi, rfl⟩⟩
  have Z : gZ D mLay dA mLive A (gA mLive A) s.heap M s.heap [] := ⟨hP, va_S.rf⟩
  have hin : ∀ w ∈ wsX110, w ∈ wmX11_phases := m_in
  have hl_19 := hts (.fieldLink RX11 19 "ReplicaFilesModel" "loses" "[Z") (mBc 7 rfl)
  have hl_41 := hts (.fieldLink RX11 41 "ReplicaFilesModel" "vector" "[I") (mBc 15 rfl)
  have hl_155 := hts (.fieldLink RX11 155 "ReplicaFilesModel" "servers" "I") (mBc 53 rfl)
  have hl_286 := hts (.fieldLink RX11 286 "ReplicaFilesModel" "setLost" "I") (mBc 187 rfl)
  have hl_289 := hts (.fieldLink RX11 289 "ReplicaFilesModel" "set" "I") (mBc 188 rfl)
  have hl_295 := hts (.fieldLink RX11 295 "ReplicaFilesModel" "lostPhases" "I") (mBc 189 rfl)
  have hl := lv_entry ([.ref (A m_o), .int a1]) (n := 3) (Nat.le_of_ble_eq_true rfl)
  rw [← hargs, lg_entry_eq, hargs]
  generalize (lg_sl ([.ref (A m_o), .int a1]) ++ List.replicate (3 - (lg_sl ([.ref (A m_o), .int a1])).length) Slot.unset).toArray = ls at hl ⊢
  have hl : lv_has ls 3 [(0, .ref (A m_o)), (1, .int a1)] := hl
  unfold f_X11_phases at h
  refine lv_aload_n hx hb dX11_phases_0 rfl (lv_at hl 0 rfl) ?_
  refine lv_iconst (v := (0 : Int32)) hx hb dX11_phases_1 (by decide) ?_
  refine mp_setLost S X Z hin hl_286 dX11_phases_2 h (fun M1 H locs Z h => ?_)
  refine lv_aload_n hx hb dX11_phases_5 rfl (lv_at hl 0 rfl) ?_
  refine lv_iload_n hx hb dX11_phases_6 rfl (lv_at hl 1 rfl) ?_
  refine lv_aload_n hx hb dX11_phases_7 rfl (lv_at hl 0 rfl) ?_
  refine mr_set S X Z hin hl_289 dX11_phases_8 h (fun v2 h => ?_)
  obtain ⟨M4, hc3, h⟩ := o1_e h
  refine g_Vv (As := [.int a1, .int v2]) (rest := []) S X Z mlv_o rfl rfl (t_X11_mark l D dA A hJ  hc3) (cwV 2 hts (mGV (mB 190 rfl) (mB 191 rfl) (mB 192 rfl) (mB 63 rfl) (mB 100 rfl)) rfl rfl rfl (by decide +kernel) ⟨Nat.le_of_ble_eq_true rfl, Nat.le_of_ble_eq_true rfl⟩) rfl hl.1 rfl (Nat.le_of_ble_eq_true rfl) dX11_phases_11 ⟨Nat.zero_le _, Nat.zero_le _⟩ (fun H locs Z => ?_)
  refine lv_iconst (v := (0 : Int32)) hx hb dX11_phases_14 (by decide) ?_
  refine lv_istore_n (lv' := [(2, .int (0 : Int32)), (0, .ref (A m_o)), (1, .int a1)]) hx hb dX11_phases_15 rfl hl (by decide) rfl (fun ls hl => ?_)
  have hL16 : ∀ (n : Nat) (x5 : Int32) (M6 : gM) (H : Heap) (locs : List Loc) (ls : Array Slot), gZ D mLay dA mLive A (gA mLive A) s.heap M6 H locs → lv_has ls 3 [(0, .ref (A m_o)), (1, .int a1), (2, .int x5)] → f_X11_phases_L16 a1 n x5 M6 = some y → W p l e (headSpec wmX11_phases ({ frames := 1, cells := 0, slots := 0, locals := 25 } : Room)).room s m args below meth c H locs 0 0 (MQ below (mQv D dA A y) args s 0 0 (gA mLive A)) (F0 m 16 ls []) := by
    intro n
    induction n with
    | zero =>
      intro x5 M6 H locs ls Z hl h
      rw [f_X11_phases_L16] at h
      cases h
    | succ n7 ih16 =>
      intro x5 M6 H locs ls Z hl h
      rw [f_X11_phases_L16] at h
      refine lv_iload_n hx hb dX11_phases_16 rfl (lv_at hl 2 rfl) ?_
      refine lv_aload_n hx hb dX11_phases_17 rfl (lv_at hl 0 rfl) ?_
      refine mr_servers S X Z hin hl_155 dX11_phases_18 h (fun v8 h => ?_)
      refine lv_icmp_ge (tgt := 120) hx hb dX11_phases_21 (by decide) (fun c9 => ?_) (fun c9 => ?_)
      · have h := if_t c9 h
        have hy := Option.some.inj h
        subst hy
        exact g_rv S Z hr hlocks dX11_phases_120
      · have h := if_f c9 h
        refine lv_aload_n hx hb dX11_phases_24 rfl (lv_at hl 0 rfl) ?_
        refine mr_set S X Z hin hl_289 dX11_phases_25 h (fun v10 h => ?_)
        refine lv_iload_n hx hb dX11_phases_28 rfl (lv_at hl 2 rfl) ?_
        refine lv_ishr hx hb dX11_phases_29 ?_
        refine lv_iconst (v := (1 : Int32)) hx hb dX11_phases_30 (by decide) ?_
        refine lv_iand hx hb dX11_phases_31 ?_
        refine lv_iconst (v := (1 : Int32)) hx hb dX11_phases_32 (by decide) ?_
        obtain ⟨J114, eJ114, h⟩ := jn_e h
        have hJ114 : ∀ (M11 : gM) (H : Heap) (locs : List Loc) (ls : Array Slot), gZ D mLay dA mLive A (gA mLive A) s.heap M11 H locs → lv_has ls 3 [(0, .ref (A m_o)), (1, .int a1), (2, .int x5)] → J114 M11 = some y → W p l e (headSpec wmX11_phases ({ frames := 1, cells := 0, slots := 0, locals := 25 } : Room)).room s m args below meth c H locs 0 0 (MQ below (mQv D dA A y) args s 0 0 (gA mLive A)) (F0 m 114 ls []) := by
          intro M11 H locs ls Z hl h
          rw [eJ114] at h
          try dsimp only at h
          obtain ⟨x12, ex12, h⟩ := lt_e h
          refine lv_iinc (v := x12) (lv' := [(2, .int x12), (0, .ref (A m_o)), (1, .int a1)]) hx hb dX11_phases_114 hl (k := 2) rfl (by rw [ex12]; rfl) (by decide) rfl (fun ls hl => ?_)
          refine lv_goto (tgt := 16) hx hb dX11_phases_117 (by decide) ?_
          exact ih16 x12 M11 _ _ _ Z (lv_sub hl [1, 2, 0] rfl) h
        refine lv_icmp_ne (tgt := 114) hx hb dX11_phases_33 (by decide) (fun c13 => ?_) (fun c13 => ?_)
        · have h := if_f c13 h
          exact hJ114 M6 _ _ _ Z (lv_sub hl [0, 1, 2] rfl) h
        · have h := if_t c13 h
          refine lv_aload_n hx hb dX11_phases_36 rfl (lv_at hl 0 rfl) ?_
          refine mr_loses S X Z hin hl_19 dX11_phases_37 ?_
          refine lv_iload_n hx hb dX11_phases_40 rfl (lv_at hl 2 rfl) ?_
          refine g_zald S X Z ml_loses rfl dX11_phases_41 h (fun v14 h => ?_)
          refine lv_if_eq (tgt := 95) hx hb dX11_phases_42 (by decide) (fun c15 => ?_) (fun c15 => ?_)
          · have h := if_t c15 h
            refine lv_aload_n hx hb dX11_phases_95 rfl (lv_at hl 0 rfl) ?_
            refine lv_aload_n hx hb dX11_phases_96 rfl (lv_at hl 0 rfl) ?_
            refine mr_vector S X Z hin hl_41 dX11_phases_97 ?_
            refine lv_bipush (v := (48 : Int32)) hx hb dX11_phases_100 (by decide) ?_
            refine lv_iload_n hx hb dX11_phases_102 rfl (lv_at hl 2 rfl) ?_
            refine lv_imul hx hb dX11_phases_103 ?_
            refine lv_iload_n hx hb dX11_phases_104 rfl (lv_at hl 1 rfl) ?_
            refine lv_iadd hx hb dX11_phases_105 ?_
            refine lv_aload_n hx hb dX11_phases_106 rfl (lv_at hl 0 rfl) ?_
            refine mr_set S X Z hin hl_289 dX11_phases_107 h (fun v16 h => ?_)
            refine lv_iload_n hx hb dX11_phases_110 rfl (lv_at hl 1 rfl) ?_
            obtain ⟨M18, hc17, h⟩ := o1_e h
            refine g_Vv (As := [.ref (A m_vector), .int (((48 : Int32) * x5) + a1), .int v16, .int a1]) (rest := []) S X Z mlv_o rfl rfl (t_X11_count l D dA A hJ ⟨ml_vector, rfl⟩ hc17) (cwV 4 hts (mGV (mB 193 rfl) (mB 194 rfl) (mB 195 rfl) (mB 63 rfl) (mB 101 rfl)) rfl rfl rfl (by decide +kernel) ⟨Nat.le_of_ble_eq_true rfl, Nat.le_of_ble_eq_true rfl⟩) rfl hl.1 rfl (Nat.le_of_ble_eq_true rfl) dX11_phases_111 ⟨Nat.zero_le _, Nat.zero_le _⟩ (fun H locs Z => ?_)
            exact hJ114 M18 _ _ _ Z (lv_sub hl [0, 1, 2] rfl) h
          · have h := if_f c15 h
            refine lv_aload_n hx hb dX11_phases_45 rfl (lv_at hl 0 rfl) ?_
            refine mr_loses S X Z hin hl_19 dX11_phases_46 ?_
            refine lv_iload_n hx hb dX11_phases_49 rfl (lv_at hl 2 rfl) ?_
            refine lv_iconst (v := (0 : Int32)) hx hb dX11_phases_50 (by decide) ?_
            refine g_zast S X Z ml_loses rfl dX11_phases_51 h (fun M19 H locs Z h => ?_)
            refine lv_aload_n hx hb dX11_phases_52 rfl (lv_at hl 0 rfl) ?_
            refine lv_dup hx hb dX11_phases_53 rfl ?_
            refine mr_lostPhases S X Z hin hl_295 dX11_phases_54 h (fun v20 h => ?_)
            refine lv_iconst (v := (1 : Int32)) hx hb dX11_phases_57 (by decide) ?_
            refine lv_iadd hx hb dX11_phases_58 ?_
            refine mp_lostPhases S X Z hin hl_295 dX11_phases_59 h (fun M21 H locs Z h => ?_)
            refine lv_aload_n hx hb dX11_phases_62 rfl (lv_at hl 0 rfl) ?_
            refine lv_aload_n hx hb dX11_phases_63 rfl (lv_at hl 0 rfl) ?_
            refine mr_setLost S X Z hin hl_286 dX11_phases_64 h (fun v22 h => ?_)
            refine lv_iconst (v := (1 : Int32)) hx hb dX11_phases_67 (by decide) ?_
            refine lv_iload_n hx hb dX11_phases_68 rfl (lv_at hl 2 rfl) ?_
            refine lv_ishl hx hb dX11_phases_69 ?_
            refine lv_ior hx hb dX11_phases_70 ?_
            refine mp_setLost S X Z hin hl_286 dX11_phases_71 h (fun M23 H locs Z h => ?_)
            refine lv_aload_n hx hb dX11_phases_74 rfl (lv_at hl 0 rfl) ?_
            refine lv_aload_n hx hb dX11_phases_75 rfl (lv_at hl 0 rfl) ?_
            refine mr_vector S X Z hin hl_41 dX11_phases_76 ?_
            refine lv_bipush (v := (48 : Int32)) hx hb dX11_phases_79 (by decide) ?_
            refine lv_iload_n hx hb dX11_phases_81 rfl (lv_at hl 2 rfl) ?_
            refine lv_imul hx hb dX11_phases_82 ?_
            refine lv_iload_n hx hb dX11_phases_83 rfl (lv_at hl 1 rfl) ?_
            refine lv_iadd hx hb dX11_phases_84 ?_
            refine lv_iconst (v := (1 : Int32)) hx hb dX11_phases_85 (by decide) ?_
            refine lv_iload_n hx hb dX11_phases_86 rfl (lv_at hl 2 rfl) ?_
            refine lv_ishl hx hb dX11_phases_87 ?_
            refine lv_iload_n hx hb dX11_phases_88 rfl (lv_at hl 1 rfl) ?_
            obtain ⟨M25, hc24, h⟩ := o1_e h
            refine g_Vv (As := [.ref (A m_vector), .int (((48 : Int32) * x5) + a1), .int ((1 : Int32) <<< (x5 &&& 31)), .int a1]) (rest := []) S X Z mlv_o rfl rfl (t_X11_count l D dA A hJ ⟨ml_vector, rfl⟩ hc24) (cwV 4 hts (mGV (mB 193 rfl) (mB 194 rfl) (mB 195 rfl) (mB 63 rfl) (mB 101 rfl)) rfl rfl rfl (by decide +kernel) ⟨Nat.le_of_ble_eq_true rfl, Nat.le_of_ble_eq_true rfl⟩) rfl hl.1 rfl (Nat.le_of_ble_eq_true rfl) dX11_phases_89 ⟨Nat.zero_le _, Nat.zero_le _⟩ (fun H locs Z => ?_)
            refine lv_goto (tgt := 114) hx hb dX11_phases_92 (by decide) ?_
            exact hJ114 M25 _ _ _ Z (lv_sub hl [0, 1, 2] rfl) h
  exact hL16 100 (0 : Int32) M4 _ _ _ Z (lv_sub hl [1, 2, 0] rfl) h
-- X11_endPromises (III)V: 31 instructions
theorem dX11_endPromises_0 : decode cX11_endPromises 0 = .ok (.iconst 0, 1) := by decide +kernel
theorem dX11_endPromises_1 : decode cX11_endPromises 1 = .ok (.istore 4, 2) := by decide +kernel
theorem dX11_endPromises_3 : decode cX11_endPromises 3 = .ok (.iload 4, 2) := by decide +kernel
theorem dX11_endPromises_5 : decode cX11_endPromises 5 = .ok (.iconst 4, 1) := by decide +kernel
theorem dX11_endPromises_6 : decode cX11_endPromises 6 = .ok (.if_icmp .ge 43, 3) := by decide +kernel
theorem dX11_endPromises_9 : decode cX11_endPromises 9 = .ok (.iload 4, 2) := by decide +kernel
theorem dX11_endPromises_11 : decode cX11_endPromises 11 = .ok (.iload_n 3, 1) := by decide +kernel
theorem dX11_endPromises_12 : decode cX11_endPromises 12 = .ok (.if_icmp .eq 31, 3) := by decide +kernel
theorem dX11_endPromises_15 : decode cX11_endPromises 15 = .ok (.aload_n 0, 1) := by decide +kernel
theorem dX11_endPromises_16 : decode cX11_endPromises 16 = .ok (.getfield 77, 3) := by decide +kernel
theorem dX11_endPromises_19 : decode cX11_endPromises 19 = .ok (.bipush 48, 2) := by decide +kernel
theorem dX11_endPromises_21 : decode cX11_endPromises 21 = .ok (.iload 4, 2) := by decide +kernel
theorem dX11_endPromises_23 : decode cX11_endPromises 23 = .ok (.imul, 1) := by decide +kernel
theorem dX11_endPromises_24 : decode cX11_endPromises 24 = .ok (.iload_n 1, 1) := by decide +kernel
theorem dX11_endPromises_25 : decode cX11_endPromises 25 = .ok (.iadd, 1) := by decide +kernel
theorem dX11_endPromises_26 : decode cX11_endPromises 26 = .ok (.aload_n 0, 1) := by decide +kernel
theorem dX11_endPromises_27 : decode cX11_endPromises 27 = .ok (.getfield 77, 3) := by decide +kernel
theorem dX11_endPromises_30 : decode cX11_endPromises 30 = .ok (.bipush 48, 2) := by decide +kernel
theorem dX11_endPromises_32 : decode cX11_endPromises 32 = .ok (.iload 4, 2) := by decide +kernel
theorem dX11_endPromises_34 : decode cX11_endPromises 34 = .ok (.imul, 1) := by decide +kernel
theorem dX11_endPromises_35 : decode cX11_endPromises 35 = .ok (.iload_n 1, 1) := by decide +kernel
theorem dX11_endPromises_36 : decode cX11_endPromises 36 = .ok (.iadd, 1) := by decide +kernel
theorem dX11_endPromises_37 : decode cX11_endPromises 37 = .ok (.iaload, 1) := by decide +kernel
theorem dX11_endPromises_38 : decode cX11_endPromises 38 = .ok (.iload_n 2, 1) := by decide +kernel
theorem dX11_endPromises_39 : decode cX11_endPromises 39 = .ok (.iconst (-1), 1) := by decide +kernel
theorem dX11_endPromises_40 : decode cX11_endPromises 40 = .ok (.ixor, 1) := by decide +kernel
theorem dX11_endPromises_41 : decode cX11_endPromises 41 = .ok (.iand, 1) := by decide +kernel
theorem dX11_endPromises_42 : decode cX11_endPromises 42 = .ok (.iastore, 1) := by decide +kernel
theorem dX11_endPromises_43 : decode cX11_endPromises 43 = .ok (.iinc 4 1, 3) := by decide +kernel
theorem dX11_endPromises_46 : decode cX11_endPromises 46 = .ok (.goto (-43), 3) := by decide +kernel
theorem dX11_endPromises_49 : decode cX11_endPromises 49 = .ok (.return_, 1) := by decide +kernel
abbrev wmX11_endPromises : List Cond := .code yX11_endPromises cX11_endPromises 5 none :: mBig
def f_X11_endPromises_L3 (a1 : Int32) (a2 : Int32) (a3 : Int32) : Nat → Int32 → gM → Option gM
  | 0, _, _ => none
  | n3 + 1, x1, M2 => (if (4 : Int32) ≤ x1 then some M2 else jn (fun (M5 : gM) => lt (x1 + 1) (fun x6 => f_X11_endPromises_L3 a1 a2 a3 n3 x6 M5)) (fun J43 => (if x1 = a3 then J43 M2 else rd M2 m_promised 192 (((48 : Int32) * x1) + a1) (fun v8 => wr M2 m_promised 192 (((48 : Int32) * x1) + a1) (v8 &&& (a2 ^^^ (-1 : Int32))) (fun M9 => J43 M9)))))
def f_X11_endPromises (M : gM) (a1 : Int32) (a2 : Int32) (a3 : Int32) : Option gM :=
  f_X11_endPromises_L3 a1 a2 a3 100 (0 : Int32) M
set_option maxHeartbeats 4000000 in
set_option maxRecDepth 100000 in
theorem t_X11_endPromises (l : Launch) (D : va_G) (dA : Nat → ClassId) (A : gI → Nat) (hJ : gJ mLive A) {M : gM} {a1 : Int32} {a2 : Int32} {a3 : Int32}  {y : gM} (h : f_X11_endPromises M a1 a2 a3 = some y) : mMv l yX11_endPromises wmX11_endPromises ({ frames := 0, cells := 0, slots := 0, locals := 0 } : Room) D dA A [.ref (A m_o), .int a1, .int a2, .int a3] M y := by
  refine Met.ofW (cc := cX11_endPromises) (maxL := 5) (ret := none) (by decide) rfl ?_
  intro p e s m args below meth c s₁ B hml hv
  obtain ⟨rfl, hP, hK⟩ := hv
  generalize hargs : ([.ref (A m_o), .int a1, .int a2, .int a3] : List Value).toArray = args at B ⊢
  have S : CallFix p m c cX11_endPromises 5 s args wmX11_endPromises RX11 := ⟨B.exec, B.bytes, hml, findClass_of_methodNamed B.named, atoms_spec (ws := wmX11_endPromises) B.pre⟩
  obtain ⟨hx, hb, -, hown, hts⟩ := id S
  have hr := B.returns
  have hlocks := B.notSynchronized
  have X : gX D vwCl dA mLive A (gA mLive A) s := ⟨hK, hJ, fun i hi => ⟨i, hi, rfl⟩⟩
  have Z : gZ D mLay dA mLive A (gA mLive A) s.heap M s.heap [] := ⟨hP, va_S.rf⟩
  have hin : ∀ w ∈ wsX110, w ∈ wmX11_endPromises := m_in
  have hl_77 := hts (.fieldLink RX11 77 "ReplicaFilesModel" "promised" "[I") (mBc 27 rfl)
  have hl := lv_entry ([.ref (A m_o), .int a1, .int a2, .int a3]) (n := 5) (Nat.le_of_ble_eq_true rfl)
  rw [← hargs, lg_entry_eq, hargs]
  generalize (lg_sl ([.ref (A m_o), .int a1, .int a2, .int a3]) ++ List.replicate (5 - (lg_sl ([.ref (A m_o), .int a1, .int a2, .int a3])).length) Slot.unset).toArray = ls at hl ⊢
  have hl : lv_has ls 5 [(0, .ref (A m_o)), (1, .int a1), (2, .int a2), (3, .int a3)] := hl
  unfold f_X11_endPromises at h
  refine lv_iconst (v := (0 : Int32)) hx hb dX11_endPromises_0 (by decide) ?_
  refine lv_istore (lv' := [(4, .int (0 : Int32)), (0, .ref (A m_o)), (1, .int a1), (2, .int a2), (3, .int a3)]) hx hb dX11_endPromises_1 hl (by decide) rfl (fun ls hl => ?_)
  have hL3 : ∀ (n : Nat) (x1 : Int32) (M2 : gM) (H : Heap) (locs : List Loc) (ls : Array Slot), gZ D mLay dA mLive A (gA mLive A) s.heap M2 H locs → lv_has ls 5 [(0, .ref (A m_o)), (1, .int a1), (2, .int a2), (3, .int a3), (4, .int x1)] → f_X11_endPromises_L3 a1 a2 a3 n x1 M2 = some y → W p l e (headSpec wmX11_endPromises ({ frames := 0, cells := 0, slots := 0, locals := 0 } : Room)).room s m args below meth c H locs 0 0 (MQ below (mQv D dA A y) args s 0 0 (gA mLive A)) (F0 m 3 ls []) := by
    intro n
    induction n with
    | zero =>
      intro x1 M2 H locs ls Z hl h
      rw [f_X11_endPromises_L3] at h
      cases h
    | succ n3 ih3 =>
      intro x1 M2 H locs ls Z hl h
      rw [f_X11_endPromises_L3] at h
      refine lv_iload hx hb dX11_endPromises_3 (lv_at hl 4 rfl) ?_
      refine lv_iconst (v := (4 : Int32)) hx hb dX11_endPromises_5 (by decide) ?_
      refine lv_icmp_ge (tgt := 49) hx hb dX11_endPromises_6 (by decide) (fun c4 => ?_) (fun c4 => ?_)
      · have h := if_t c4 h
        have hy := Option.some.inj h
        subst hy
        exact g_rv S Z hr hlocks dX11_endPromises_49
      · have h := if_f c4 h
        refine lv_iload hx hb dX11_endPromises_9 (lv_at hl 4 rfl) ?_
        refine lv_iload_n hx hb dX11_endPromises_11 rfl (lv_at hl 3 rfl) ?_
        obtain ⟨J43, eJ43, h⟩ := jn_e h
        have hJ43 : ∀ (M5 : gM) (H : Heap) (locs : List Loc) (ls : Array Slot), gZ D mLay dA mLive A (gA mLive A) s.heap M5 H locs → lv_has ls 5 [(0, .ref (A m_o)), (1, .int a1), (2, .int a2), (3, .int a3), (4, .int x1)] → J43 M5 = some y → W p l e (headSpec wmX11_endPromises ({ frames := 0, cells := 0, slots := 0, locals := 0 } : Room)).room s m args below meth c H locs 0 0 (MQ below (mQv D dA A y) args s 0 0 (gA mLive A)) (F0 m 43 ls []) := by
          intro M5 H locs ls Z hl h
          rw [eJ43] at h
          try dsimp only at h
          obtain ⟨x6, ex6, h⟩ := lt_e h
          refine lv_iinc (v := x6) (lv' := [(4, .int x6), (0, .ref (A m_o)), (1, .int a1), (2, .int a2), (3, .int a3)]) hx hb dX11_endPromises_43 hl (k := 4) rfl (by rw [ex6]; rfl) (by decide) rfl (fun ls hl => ?_)
          refine lv_goto (tgt := 3) hx hb dX11_endPromises_46 (by decide) ?_
          exact ih3 x6 M5 _ _ _ Z (lv_sub hl [1, 2, 3, 4, 0] rfl) h
        refine lv_icmp_eq (tgt := 43) hx hb dX11_endPromises_12 (by decide) (fun c7 => ?_) (fun c7 => ?_)
        · have h := if_t c7 h
          exact hJ43 M2 _ _ _ Z (lv_sub hl [0, 1, 2, 3, 4] rfl) h
        · have h := if_f c7 h
          refine lv_aload_n hx hb dX11_endPromises_15 rfl (lv_at hl 0 rfl) ?_
          refine mr_promised S X Z hin hl_77 dX11_endPromises_16 ?_
          refine lv_bipush (v := (48 : Int32)) hx hb dX11_endPromises_19 (by decide) ?_
          refine lv_iload hx hb dX11_endPromises_21 (lv_at hl 4 rfl) ?_
          refine lv_imul hx hb dX11_endPromises_23 ?_
          refine lv_iload_n hx hb dX11_endPromises_24 rfl (lv_at hl 1 rfl) ?_
          refine lv_iadd hx hb dX11_endPromises_25 ?_
          refine lv_aload_n hx hb dX11_endPromises_26 rfl (lv_at hl 0 rfl) ?_
          refine mr_promised S X Z hin hl_77 dX11_endPromises_27 ?_
          refine lv_bipush (v := (48 : Int32)) hx hb dX11_endPromises_30 (by decide) ?_
          refine lv_iload hx hb dX11_endPromises_32 (lv_at hl 4 rfl) ?_
          refine lv_imul hx hb dX11_endPromises_34 ?_
          refine lv_iload_n hx hb dX11_endPromises_35 rfl (lv_at hl 1 rfl) ?_
          refine lv_iadd hx hb dX11_endPromises_36 ?_
          refine g_iald S X Z ml_promised rfl dX11_endPromises_37 h (fun v8 h => ?_)
          refine lv_iload_n hx hb dX11_endPromises_38 rfl (lv_at hl 2 rfl) ?_
          refine lv_iconst (v := (-1 : Int32)) hx hb dX11_endPromises_39 (by decide) ?_
          refine lv_ixor hx hb dX11_endPromises_40 ?_
          refine lv_iand hx hb dX11_endPromises_41 ?_
          refine g_iast S X Z ml_promised rfl dX11_endPromises_42 h (fun M9 H locs Z h => ?_)
          exact hJ43 M9 _ _ _ Z (lv_sub hl [0, 1, 2, 3, 4] rfl) h
  exact hL3 100 (0 : Int32) M _ _ _ Z (lv_sub hl [1, 2, 3, 4, 0] rfl) h
-- X11_putValue (III)V: 44 instructions
theorem dX11_putValue_0 : decode cX11_putValue 0 = .ok (.iconst 0, 1) := by decide +kernel
theorem dX11_putValue_1 : decode cX11_putValue 1 = .ok (.istore 4, 2) := by decide +kernel
theorem dX11_putValue_3 : decode cX11_putValue 3 = .ok (.iload 4, 2) := by decide +kernel
theorem dX11_putValue_5 : decode cX11_putValue 5 = .ok (.aload_n 0, 1) := by decide +kernel
theorem dX11_putValue_6 : decode cX11_putValue 6 = .ok (.getfield 155, 3) := by decide +kernel
theorem dX11_putValue_9 : decode cX11_putValue 9 = .ok (.if_icmp .ge 58, 3) := by decide +kernel
theorem dX11_putValue_12 : decode cX11_putValue 12 = .ok (.aload_n 0, 1) := by decide +kernel
theorem dX11_putValue_13 : decode cX11_putValue 13 = .ok (.getfield 289, 3) := by decide +kernel
theorem dX11_putValue_16 : decode cX11_putValue 16 = .ok (.iload 4, 2) := by decide +kernel
theorem dX11_putValue_18 : decode cX11_putValue 18 = .ok (.ishr, 1) := by decide +kernel
theorem dX11_putValue_19 : decode cX11_putValue 19 = .ok (.iconst 1, 1) := by decide +kernel
theorem dX11_putValue_20 : decode cX11_putValue 20 = .ok (.iand, 1) := by decide +kernel
theorem dX11_putValue_21 : decode cX11_putValue 21 = .ok (.iconst 1, 1) := by decide +kernel
theorem dX11_putValue_22 : decode cX11_putValue 22 = .ok (.if_icmp .ne 39, 3) := by decide +kernel
theorem dX11_putValue_25 : decode cX11_putValue 25 = .ok (.aload_n 0, 1) := by decide +kernel
theorem dX11_putValue_26 : decode cX11_putValue 26 = .ok (.getfield 35, 3) := by decide +kernel
theorem dX11_putValue_29 : decode cX11_putValue 29 = .ok (.bipush 48, 2) := by decide +kernel
theorem dX11_putValue_31 : decode cX11_putValue 31 = .ok (.iload 4, 2) := by decide +kernel
theorem dX11_putValue_33 : decode cX11_putValue 33 = .ok (.imul, 1) := by decide +kernel
theorem dX11_putValue_34 : decode cX11_putValue 34 = .ok (.iload_n 1, 1) := by decide +kernel
theorem dX11_putValue_35 : decode cX11_putValue 35 = .ok (.iadd, 1) := by decide +kernel
theorem dX11_putValue_36 : decode cX11_putValue 36 = .ok (.iload_n 2, 1) := by decide +kernel
theorem dX11_putValue_37 : decode cX11_putValue 37 = .ok (.iastore, 1) := by decide +kernel
theorem dX11_putValue_38 : decode cX11_putValue 38 = .ok (.aload_n 0, 1) := by decide +kernel
theorem dX11_putValue_39 : decode cX11_putValue 39 = .ok (.getfield 38, 3) := by decide +kernel
theorem dX11_putValue_42 : decode cX11_putValue 42 = .ok (.bipush 48, 2) := by decide +kernel
theorem dX11_putValue_44 : decode cX11_putValue 44 = .ok (.iload 4, 2) := by decide +kernel
theorem dX11_putValue_46 : decode cX11_putValue 46 = .ok (.imul, 1) := by decide +kernel
theorem dX11_putValue_47 : decode cX11_putValue 47 = .ok (.iload_n 1, 1) := by decide +kernel
theorem dX11_putValue_48 : decode cX11_putValue 48 = .ok (.iadd, 1) := by decide +kernel
theorem dX11_putValue_49 : decode cX11_putValue 49 = .ok (.iload_n 3, 1) := by decide +kernel
theorem dX11_putValue_50 : decode cX11_putValue 50 = .ok (.iastore, 1) := by decide +kernel
theorem dX11_putValue_51 : decode cX11_putValue 51 = .ok (.aload_n 0, 1) := by decide +kernel
theorem dX11_putValue_52 : decode cX11_putValue 52 = .ok (.dup, 1) := by decide +kernel
theorem dX11_putValue_53 : decode cX11_putValue 53 = .ok (.getfield 302, 3) := by decide +kernel
theorem dX11_putValue_56 : decode cX11_putValue 56 = .ok (.iconst 1, 1) := by decide +kernel
theorem dX11_putValue_57 : decode cX11_putValue 57 = .ok (.iadd, 1) := by decide +kernel
theorem dX11_putValue_58 : decode cX11_putValue 58 = .ok (.putfield 302, 3) := by decide +kernel
theorem dX11_putValue_61 : decode cX11_putValue 61 = .ok (.iinc 4 1, 3) := by decide +kernel
theorem dX11_putValue_64 : decode cX11_putValue 64 = .ok (.goto (-61), 3) := by decide +kernel
theorem dX11_putValue_67 : decode cX11_putValue 67 = .ok (.aload_n 0, 1) := by decide +kernel
theorem dX11_putValue_68 : decode cX11_putValue 68 = .ok (.iload_n 1, 1) := by decide +kernel
theorem dX11_putValue_69 : decode cX11_putValue 69 = .ok (.invokevirtual 305, 3) := by decide +kernel
theorem dX11_putValue_72 : decode cX11_putValue 72 = .ok (.return_, 1) := by decide +kernel
abbrev wmX11_putValue : List Cond := .code yX11_putValue cX11_putValue 5 none :: mBig
def f_X11_putValue_L3 (a1 : Int32) (a2 : Int32) (a3 : Int32) (J67 : gM → Option gM) : Nat → Int32 → gM → Option gM
  | 0, _, _ => none
  | n6 + 1, x4, M5 => lt (M5 m_o 0) (fun v7 => (if v7 ≤ x4 then J67 M5 else lt (M5 m_o 51) (fun v9 => jn (fun (M10 : gM) => lt (x4 + 1) (fun x11 => f_X11_putValue_L3 a1 a2 a3 J67 n6 x11 M10)) (fun J61 => (if ((v9 >>> (x4 &&& 31)) &&& (1 : Int32)) = (1 : Int32) then wr M5 m_value 192 (((48 : Int32) * x4) + a1) a2 (fun M13 => wr M13 m_size 192 (((48 : Int32) * x4) + a1) a3 (fun M14 => lt (M14 m_o 45) (fun v15 => lt (gset M14 m_o 45 (v15 + (1 : Int32))) (fun M16 => J61 M16)))) else J61 M5)))))
def f_X11_putValue (M : gM) (a1 : Int32) (a2 : Int32) (a3 : Int32) : Option gM :=
  jn (fun (M1 : gM) => o1 (f_X11_phases M1 a1) (fun M3 => some M3)) (fun J67 => f_X11_putValue_L3 a1 a2 a3 J67 100 (0 : Int32) M)
set_option maxHeartbeats 4000000 in
set_option maxRecDepth 100000 in
theorem t_X11_putValue (l : Launch) (D : va_G) (dA : Nat → ClassId) (A : gI → Nat) (hJ : gJ mLive A) {M : gM} {a1 : Int32} {a2 : Int32} {a3 : Int32}  {y : gM} (h : f_X11_putValue M a1 a2 a3 = some y) : mMv l yX11_putValue wmX11_putValue ({ frames := 2, cells := 0, slots := 0, locals := 47 } : Room) D dA A [.ref (A m_o), .int a1, .int a2, .int a3] M y := by
  refine Met.ofW (cc := cX11_putValue) (maxL := 5) (ret := none) (by decide) rfl ?_
  intro p e s m args below meth c s₁ B hml hv
  obtain ⟨rfl, hP, hK⟩ := hv
  generalize hargs : ([.ref (A m_o), .int a1, .int a2, .int a3] : List Value).toArray = args at B ⊢
  have S : CallFix p m c cX11_putValue 5 s args wmX11_putValue RX11 := ⟨B.exec, B.bytes, hml, findClass_of_methodNamed B.named, atoms_spec (ws := wmX11_putValue) B.pre⟩
  obtain ⟨hx, hb, -, hown, hts⟩ := id S
  have hr := B.returns
  have hlocks := B.notSynchronized
  have X : gX D vwCl dA mLive A (gA mLive A) s := ⟨hK, hJ, fun i hi => ⟨i, hi, rfl⟩⟩
  have Z : gZ D mLay dA mLive A (gA mLive A) s.heap M s.heap [] := ⟨hP, va_S.rf⟩
  have hin : ∀ w ∈ wsX110, w ∈ wmX11_putValue := m_in
  have hl_35 := hts (.fieldLink RX11 35 "ReplicaFilesModel" "value" "[I") (mBc 13 rfl)
  have hl_38 := hts (.fieldLink RX11 38 "ReplicaFilesModel" "size" "[I") (mBc 14 rfl)
  have hl_155 := hts (.fieldLink RX11 155 "ReplicaFilesModel" "servers" "I") (mBc 53 rfl)
  have hl_289 := hts (.fieldLink RX11 289 "ReplicaFilesModel" "set" "I") (mBc 188 rfl)
  have hl_302 := hts (.fieldLink RX11 302 "ReplicaFilesModel" "acts" "I") (mBc 198 rfl)
  have hl := lv_entry ([.ref (A m_o), .int a1, .int a2, .int a3]) (n := 5) (Nat.le_of_ble_eq_true rfl)
  rw [← hargs, lg_entry_eq, hargs]
  generalize (lg_sl ([.ref (A m_o), .int a1, .int a2, .int a3]) ++ List.replicate (5 - (lg_sl ([.ref (A m_o), .int a1, .int a2, .int a3])).length) Slot.unset).toArray = ls at hl ⊢
  have hl : lv_has ls 5 [(0, .ref (A m_o)), (1, .int a1), (2, .int a2), (3, .int a3)] := hl
  unfold f_X11_putValue at h
  refine lv_iconst (v := (0 : Int32)) hx hb dX11_putValue_0 (by decide) ?_
  refine lv_istore (lv' := [(4, .int (0 : Int32)), (0, .ref (A m_o)), (1, .int a1), (2, .int a2), (3, .int a3)]) hx hb dX11_putValue_1 hl (by decide) rfl (fun ls hl => ?_)
  obtain ⟨J67, eJ67, h⟩ := jn_e h
  have hJ67 : ∀ (M1 : gM) (H : Heap) (locs : List Loc) (ls : Array Slot), gZ D mLay dA mLive A (gA mLive A) s.heap M1 H locs → lv_has ls 5 [(0, .ref (A m_o)), (1, .int a1)] → J67 M1 = some y → W p l e (headSpec wmX11_putValue ({ frames := 2, cells := 0, slots := 0, locals := 47 } : Room)).room s m args below meth c H locs 0 0 (MQ below (mQv D dA A y) args s 0 0 (gA mLive A)) (F0 m 67 ls []) := by
    intro M1 H locs ls Z hl h
    rw [eJ67] at h
    try dsimp only at h
    refine lv_aload_n hx hb dX11_putValue_67 rfl (lv_at hl 0 rfl) ?_
    refine lv_iload_n hx hb dX11_putValue_68 rfl (lv_at hl 1 rfl) ?_
    obtain ⟨M3, hc2, h⟩ := o1_e h
    refine g_Vv (As := [.int a1]) (rest := []) S X Z mlv_o rfl rfl (t_X11_phases l D dA A hJ  hc2) (cwV 1 hts (mGV (mB 199 rfl) (mB 200 rfl) (mB 201 rfl) (mB 63 rfl) (mB 186 rfl)) rfl rfl rfl (by decide +kernel) ⟨Nat.le_of_ble_eq_true rfl, Nat.le_of_ble_eq_true rfl⟩) rfl hl.1 rfl (Nat.le_of_ble_eq_true rfl) dX11_putValue_69 ⟨Nat.zero_le _, Nat.zero_le _⟩ (fun H locs Z => ?_)
    have hy := Option.some.inj h
    subst hy
    exact g_rv S Z hr hlocks dX11_putValue_72
  have hL3 : ∀ (n : Nat) (x4 : Int32) (M5 : gM) (H : Heap) (locs : List Loc) (ls : Array Slot), gZ D mLay dA mLive A (gA mLive A) s.heap M5 H locs → lv_has ls 5 [(0, .ref (A m_o)), (1, .int a1), (2, .int a2), (3, .int a3), (4, .int x4)] → f_X11_putValue_L3 a1 a2 a3 J67 n x4 M5 = some y → W p l e (headSpec wmX11_putValue ({ frames := 2, cells := 0, slots := 0, locals := 47 } : Room)).room s m args below meth c H locs 0 0 (MQ below (mQv D dA A y) args s 0 0 (gA mLive A)) (F0 m 3 ls []) := by
    intro n
    induction n with
    | zero =>
      intro x4 M5 H locs ls Z hl h
      rw [f_X11_putValue_L3] at h
      cases h
    | succ n6 ih3 =>
      intro x4 M5 H locs ls Z hl h
      rw [f_X11_putValue_L3] at h
      refine lv_iload hx hb dX11_putValue_3 (lv_at hl 4 rfl) ?_
      refine lv_aload_n hx hb dX11_putValue_5 rfl (lv_at hl 0 rfl) ?_
      refine mr_servers S X Z hin hl_155 dX11_putValue_6 h (fun v7 h => ?_)
      refine lv_icmp_ge (tgt := 67) hx hb dX11_putValue_9 (by decide) (fun c8 => ?_) (fun c8 => ?_)
      · have h := if_t c8 h
        exact hJ67 M5 _ _ _ Z (lv_sub hl [0, 1] rfl) h
      · have h := if_f c8 h
        refine lv_aload_n hx hb dX11_putValue_12 rfl (lv_at hl 0 rfl) ?_
        refine mr_set S X Z hin hl_289 dX11_putValue_13 h (fun v9 h => ?_)
        refine lv_iload hx hb dX11_putValue_16 (lv_at hl 4 rfl) ?_
        refine lv_ishr hx hb dX11_putValue_18 ?_
        refine lv_iconst (v := (1 : Int32)) hx hb dX11_putValue_19 (by decide) ?_
        refine lv_iand hx hb dX11_putValue_20 ?_
        refine lv_iconst (v := (1 : Int32)) hx hb dX11_putValue_21 (by decide) ?_
        obtain ⟨J61, eJ61, h⟩ := jn_e h
        have hJ61 : ∀ (M10 : gM) (H : Heap) (locs : List Loc) (ls : Array Slot), gZ D mLay dA mLive A (gA mLive A) s.heap M10 H locs → lv_has ls 5 [(0, .ref (A m_o)), (1, .int a1), (2, .int a2), (3, .int a3), (4, .int x4)] → J61 M10 = some y → W p l e (headSpec wmX11_putValue ({ frames := 2, cells := 0, slots := 0, locals := 47 } : Room)).room s m args below meth c H locs 0 0 (MQ below (mQv D dA A y) args s 0 0 (gA mLive A)) (F0 m 61 ls []) := by
          intro M10 H locs ls Z hl h
          rw [eJ61] at h
          try dsimp only at h
          obtain ⟨x11, ex11, h⟩ := lt_e h
          refine lv_iinc (v := x11) (lv' := [(4, .int x11), (0, .ref (A m_o)), (1, .int a1), (2, .int a2), (3, .int a3)]) hx hb dX11_putValue_61 hl (k := 4) rfl (by rw [ex11]; rfl) (by decide) rfl (fun ls hl => ?_)
          refine lv_goto (tgt := 3) hx hb dX11_putValue_64 (by decide) ?_
          exact ih3 x11 M10 _ _ _ Z (lv_sub hl [1, 2, 3, 4, 0] rfl) h
        refine lv_icmp_ne (tgt := 61) hx hb dX11_putValue_22 (by decide) (fun c12 => ?_) (fun c12 => ?_)
        · have h := if_f c12 h
          exact hJ61 M5 _ _ _ Z (lv_sub hl [0, 1, 2, 3, 4] rfl) h
        · have h := if_t c12 h
          refine lv_aload_n hx hb dX11_putValue_25 rfl (lv_at hl 0 rfl) ?_
          refine mr_value S X Z hin hl_35 dX11_putValue_26 ?_
          refine lv_bipush (v := (48 : Int32)) hx hb dX11_putValue_29 (by decide) ?_
          refine lv_iload hx hb dX11_putValue_31 (lv_at hl 4 rfl) ?_
          refine lv_imul hx hb dX11_putValue_33 ?_
          refine lv_iload_n hx hb dX11_putValue_34 rfl (lv_at hl 1 rfl) ?_
          refine lv_iadd hx hb dX11_putValue_35 ?_
          refine lv_iload_n hx hb dX11_putValue_36 rfl (lv_at hl 2 rfl) ?_
          refine g_iast S X Z ml_value rfl dX11_putValue_37 h (fun M13 H locs Z h => ?_)
          refine lv_aload_n hx hb dX11_putValue_38 rfl (lv_at hl 0 rfl) ?_
          refine mr_size S X Z hin hl_38 dX11_putValue_39 ?_
          refine lv_bipush (v := (48 : Int32)) hx hb dX11_putValue_42 (by decide) ?_
          refine lv_iload hx hb dX11_putValue_44 (lv_at hl 4 rfl) ?_
          refine lv_imul hx hb dX11_putValue_46 ?_
          refine lv_iload_n hx hb dX11_putValue_47 rfl (lv_at hl 1 rfl) ?_
          refine lv_iadd hx hb dX11_putValue_48 ?_
          refine lv_iload_n hx hb dX11_putValue_49 rfl (lv_at hl 3 rfl) ?_
          refine g_iast S X Z ml_size rfl dX11_putValue_50 h (fun M14 H locs Z h => ?_)
          refine lv_aload_n hx hb dX11_putValue_51 rfl (lv_at hl 0 rfl) ?_
          refine lv_dup hx hb dX11_putValue_52 rfl ?_
          refine mr_acts S X Z hin hl_302 dX11_putValue_53 h (fun v15 h => ?_)
          refine lv_iconst (v := (1 : Int32)) hx hb dX11_putValue_56 (by decide) ?_
          refine lv_iadd hx hb dX11_putValue_57 ?_
          refine mp_acts S X Z hin hl_302 dX11_putValue_58 h (fun M16 H locs Z h => ?_)
          exact hJ61 M16 _ _ _ Z (lv_sub hl [0, 1, 2, 3, 4] rfl) h
  exact hL3 100 (0 : Int32) M _ _ _ Z (lv_sub hl [1, 2, 3, 4, 0] rfl) h
-- X11_putEntry (II)V: 48 instructions
theorem dX11_putEntry_0 : decode cX11_putEntry 0 = .ok (.iconst 0, 1) := by decide +kernel
theorem dX11_putEntry_1 : decode cX11_putEntry 1 = .ok (.istore_n 3, 1) := by decide +kernel
theorem dX11_putEntry_2 : decode cX11_putEntry 2 = .ok (.iload_n 3, 1) := by decide +kernel
theorem dX11_putEntry_3 : decode cX11_putEntry 3 = .ok (.aload_n 0, 1) := by decide +kernel
theorem dX11_putEntry_4 : decode cX11_putEntry 4 = .ok (.getfield 155, 3) := by decide +kernel
theorem dX11_putEntry_7 : decode cX11_putEntry 7 = .ok (.if_icmp .ge 63, 3) := by decide +kernel
theorem dX11_putEntry_10 : decode cX11_putEntry 10 = .ok (.aload_n 0, 1) := by decide +kernel
theorem dX11_putEntry_11 : decode cX11_putEntry 11 = .ok (.getfield 289, 3) := by decide +kernel
theorem dX11_putEntry_14 : decode cX11_putEntry 14 = .ok (.iload_n 3, 1) := by decide +kernel
theorem dX11_putEntry_15 : decode cX11_putEntry 15 = .ok (.ishr, 1) := by decide +kernel
theorem dX11_putEntry_16 : decode cX11_putEntry 16 = .ok (.iconst 1, 1) := by decide +kernel
theorem dX11_putEntry_17 : decode cX11_putEntry 17 = .ok (.iand, 1) := by decide +kernel
theorem dX11_putEntry_18 : decode cX11_putEntry 18 = .ok (.iconst 1, 1) := by decide +kernel
theorem dX11_putEntry_19 : decode cX11_putEntry 19 = .ok (.if_icmp .ne 45, 3) := by decide +kernel
theorem dX11_putEntry_22 : decode cX11_putEntry 22 = .ok (.aload_n 0, 1) := by decide +kernel
theorem dX11_putEntry_23 : decode cX11_putEntry 23 = .ok (.getfield 56, 3) := by decide +kernel
theorem dX11_putEntry_26 : decode cX11_putEntry 26 = .ok (.bipush 48, 2) := by decide +kernel
theorem dX11_putEntry_28 : decode cX11_putEntry 28 = .ok (.iload_n 3, 1) := by decide +kernel
theorem dX11_putEntry_29 : decode cX11_putEntry 29 = .ok (.imul, 1) := by decide +kernel
theorem dX11_putEntry_30 : decode cX11_putEntry 30 = .ok (.iload_n 2, 1) := by decide +kernel
theorem dX11_putEntry_31 : decode cX11_putEntry 31 = .ok (.iadd, 1) := by decide +kernel
theorem dX11_putEntry_32 : decode cX11_putEntry 32 = .ok (.iconst 1, 1) := by decide +kernel
theorem dX11_putEntry_33 : decode cX11_putEntry 33 = .ok (.iastore, 1) := by decide +kernel
theorem dX11_putEntry_34 : decode cX11_putEntry 34 = .ok (.aload_n 0, 1) := by decide +kernel
theorem dX11_putEntry_35 : decode cX11_putEntry 35 = .ok (.aload_n 0, 1) := by decide +kernel
theorem dX11_putEntry_36 : decode cX11_putEntry 36 = .ok (.getfield 59, 3) := by decide +kernel
theorem dX11_putEntry_39 : decode cX11_putEntry 39 = .ok (.bipush 48, 2) := by decide +kernel
theorem dX11_putEntry_41 : decode cX11_putEntry 41 = .ok (.iload_n 3, 1) := by decide +kernel
theorem dX11_putEntry_42 : decode cX11_putEntry 42 = .ok (.imul, 1) := by decide +kernel
theorem dX11_putEntry_43 : decode cX11_putEntry 43 = .ok (.iload_n 2, 1) := by decide +kernel
theorem dX11_putEntry_44 : decode cX11_putEntry 44 = .ok (.iadd, 1) := by decide +kernel
theorem dX11_putEntry_45 : decode cX11_putEntry 45 = .ok (.invokevirtual 200, 3) := by decide +kernel
theorem dX11_putEntry_48 : decode cX11_putEntry 48 = .ok (.aload_n 0, 1) := by decide +kernel
theorem dX11_putEntry_49 : decode cX11_putEntry 49 = .ok (.iload_n 3, 1) := by decide +kernel
theorem dX11_putEntry_50 : decode cX11_putEntry 50 = .ok (.iload_n 2, 1) := by decide +kernel
theorem dX11_putEntry_51 : decode cX11_putEntry 51 = .ok (.invokevirtual 309, 3) := by decide +kernel
theorem dX11_putEntry_54 : decode cX11_putEntry 54 = .ok (.aload_n 0, 1) := by decide +kernel
theorem dX11_putEntry_55 : decode cX11_putEntry 55 = .ok (.dup, 1) := by decide +kernel
theorem dX11_putEntry_56 : decode cX11_putEntry 56 = .ok (.getfield 302, 3) := by decide +kernel
theorem dX11_putEntry_59 : decode cX11_putEntry 59 = .ok (.iconst 1, 1) := by decide +kernel
theorem dX11_putEntry_60 : decode cX11_putEntry 60 = .ok (.iadd, 1) := by decide +kernel
theorem dX11_putEntry_61 : decode cX11_putEntry 61 = .ok (.putfield 302, 3) := by decide +kernel
theorem dX11_putEntry_64 : decode cX11_putEntry 64 = .ok (.iinc 3 1, 3) := by decide +kernel
theorem dX11_putEntry_67 : decode cX11_putEntry 67 = .ok (.goto (-65), 3) := by decide +kernel
theorem dX11_putEntry_70 : decode cX11_putEntry 70 = .ok (.aload_n 0, 1) := by decide +kernel
theorem dX11_putEntry_71 : decode cX11_putEntry 71 = .ok (.iload_n 1, 1) := by decide +kernel
theorem dX11_putEntry_72 : decode cX11_putEntry 72 = .ok (.invokevirtual 305, 3) := by decide +kernel
theorem dX11_putEntry_75 : decode cX11_putEntry 75 = .ok (.return_, 1) := by decide +kernel
abbrev wmX11_putEntry : List Cond := .code yX11_putEntry cX11_putEntry 4 none :: mBig
def f_X11_putEntry_L2 (a1 : Int32) (a2 : Int32) (J70 : gM → Option gM) : Nat → Int32 → gM → Option gM
  | 0, _, _ => none
  | n6 + 1, x4, M5 => lt (M5 m_o 0) (fun v7 => (if v7 ≤ x4 then J70 M5 else lt (M5 m_o 51) (fun v9 => jn (fun (M10 : gM) => lt (x4 + 1) (fun x11 => f_X11_putEntry_L2 a1 a2 J70 n6 x11 M10)) (fun J64 => (if ((v9 >>> (x4 &&& 31)) &&& (1 : Int32)) = (1 : Int32) then wr M5 m_entry 192 (((48 : Int32) * x4) + a2) (1 : Int32) (fun M13 => o1 (f_X11_clearRow M13 m_gone (((48 : Int32) * x4) + a2)) (fun M15 => o1 (f_X11_newCopy M15 x4 a2) (fun M17 => lt (M17 m_o 45) (fun v18 => lt (gset M17 m_o 45 (v18 + (1 : Int32))) (fun M19 => J64 M19))))) else J64 M5)))))
def f_X11_putEntry (M : gM) (a1 : Int32) (a2 : Int32) : Option gM :=
  jn (fun (M1 : gM) => o1 (f_X11_phases M1 a1) (fun M3 => some M3)) (fun J70 => f_X11_putEntry_L2 a1 a2 J70 100 (0 : Int32) M)
set_option maxHeartbeats 4000000 in
set_option maxRecDepth 100000 in
theorem t_X11_putEntry (l : Launch) (D : va_G) (dA : Nat → ClassId) (A : gI → Nat) (hJ : gJ mLive A) {M : gM} {a1 : Int32} {a2 : Int32}  {y : gM} (h : f_X11_putEntry M a1 a2 = some y) : mMv l yX11_putEntry wmX11_putEntry ({ frames := 2, cells := 0, slots := 0, locals := 47 } : Room) D dA A [.ref (A m_o), .int a1, .int a2] M y := by
  refine Met.ofW (cc := cX11_putEntry) (maxL := 4) (ret := none) (by decide) rfl ?_
  intro p e s m args below meth c s₁ B hml hv
  obtain ⟨rfl, hP, hK⟩ := hv
  generalize hargs : ([.ref (A m_o), .int a1, .int a2] : List Value).toArray = args at B ⊢
  have S : CallFix p m c cX11_putEntry 4 s args wmX11_putEntry RX11 := ⟨B.exec, B.bytes, hml, findClass_of_methodNamed B.named, atoms_spec (ws := wmX11_putEntry) B.pre⟩
  obtain ⟨hx, hb, -, hown, hts⟩ := id S
  have hr := B.returns
  have hlocks := B.notSynchronized
  have X : gX D vwCl dA mLive A (gA mLive A) s := ⟨hK, hJ, fun i hi => ⟨i, hi, rfl⟩⟩
  have Z : gZ D mLay dA mLive A (gA mLive A) s.heap M s.heap [] := ⟨hP, va_S.rf⟩
  have hin : ∀ w ∈ wsX110, w ∈ wmX11_putEntry := m_in
  have hl_56 := hts (.fieldLink RX11 56 "ReplicaFilesModel" "entry" "[I") (mBc 20 rfl)
  have hl_59 := hts (.fieldLink RX11 59 "ReplicaFilesModel" "gone" "[I") (mBc 21 rfl)
  have hl_155 := hts (.fieldLink RX11 155 "ReplicaFilesModel" "servers" "I") (mBc 53 rfl)
  have hl_289 := hts (.fieldLink RX11 289 "ReplicaFilesModel" "set" "I") (mBc 188 rfl)
  have hl_302 := hts (.fieldLink RX11 302 "ReplicaFilesModel" "acts" "I") (mBc 198 rfl)
  have hl := lv_entry ([.ref (A m_o), .int a1, .int a2]) (n := 4) (Nat.le_of_ble_eq_true rfl)
  rw [← hargs, lg_entry_eq, hargs]
  generalize (lg_sl ([.ref (A m_o), .int a1, .int a2]) ++ List.replicate (4 - (lg_sl ([.ref (A m_o), .int a1, .int a2])).length) Slot.unset).toArray = ls at hl ⊢
  have hl : lv_has ls 4 [(0, .ref (A m_o)), (1, .int a1), (2, .int a2)] := hl
  unfold f_X11_putEntry at h
  refine lv_iconst (v := (0 : Int32)) hx hb dX11_putEntry_0 (by decide) ?_
  refine lv_istore_n (lv' := [(3, .int (0 : Int32)), (0, .ref (A m_o)), (1, .int a1), (2, .int a2)]) hx hb dX11_putEntry_1 rfl hl (by decide) rfl (fun ls hl => ?_)
  obtain ⟨J70, eJ70, h⟩ := jn_e h
  have hJ70 : ∀ (M1 : gM) (H : Heap) (locs : List Loc) (ls : Array Slot), gZ D mLay dA mLive A (gA mLive A) s.heap M1 H locs → lv_has ls 4 [(0, .ref (A m_o)), (1, .int a1)] → J70 M1 = some y → W p l e (headSpec wmX11_putEntry ({ frames := 2, cells := 0, slots := 0, locals := 47 } : Room)).room s m args below meth c H locs 0 0 (MQ below (mQv D dA A y) args s 0 0 (gA mLive A)) (F0 m 70 ls []) := by
    intro M1 H locs ls Z hl h
    rw [eJ70] at h
    try dsimp only at h
    refine lv_aload_n hx hb dX11_putEntry_70 rfl (lv_at hl 0 rfl) ?_
    refine lv_iload_n hx hb dX11_putEntry_71 rfl (lv_at hl 1 rfl) ?_
    obtain ⟨M3, hc2, h⟩ := o1_e h
    refine g_Vv (As := [.int a1]) (rest := []) S X Z mlv_o rfl rfl (t_X11_phases l D dA A hJ  hc2) (cwV 1 hts (mGV (mB 199 rfl) (mB 200 rfl) (mB 201 rfl) (mB 63 rfl) (mB 186 rfl)) rfl rfl rfl (by decide +kernel) ⟨Nat.le_of_ble_eq_true rfl, Nat.le_of_ble_eq_true rfl⟩) rfl hl.1 rfl (Nat.le_of_ble_eq_true rfl) dX11_putEntry_72 ⟨Nat.zero_le _, Nat.zero_le _⟩ (fun H locs Z => ?_)
    have hy := Option.some.inj h
    subst hy
    exact g_rv S Z hr hlocks dX11_putEntry_75
  have hL2 : ∀ (n : Nat) (x4 : Int32) (M5 : gM) (H : Heap) (locs : List Loc) (ls : Array Slot), gZ D mLay dA mLive A (gA mLive A) s.heap M5 H locs → lv_has ls 4 [(0, .ref (A m_o)), (1, .int a1), (2, .int a2), (3, .int x4)] → f_X11_putEntry_L2 a1 a2 J70 n x4 M5 = some y → W p l e (headSpec wmX11_putEntry ({ frames := 2, cells := 0, slots := 0, locals := 47 } : Room)).room s m args below meth c H locs 0 0 (MQ below (mQv D dA A y) args s 0 0 (gA mLive A)) (F0 m 2 ls []) := by
    intro n
    induction n with
    | zero =>
      intro x4 M5 H locs ls Z hl h
      rw [f_X11_putEntry_L2] at h
      cases h
    | succ n6 ih2 =>
      intro x4 M5 H locs ls Z hl h
      rw [f_X11_putEntry_L2] at h
      refine lv_iload_n hx hb dX11_putEntry_2 rfl (lv_at hl 3 rfl) ?_
      refine lv_aload_n hx hb dX11_putEntry_3 rfl (lv_at hl 0 rfl) ?_
      refine mr_servers S X Z hin hl_155 dX11_putEntry_4 h (fun v7 h => ?_)
      refine lv_icmp_ge (tgt := 70) hx hb dX11_putEntry_7 (by decide) (fun c8 => ?_) (fun c8 => ?_)
      · have h := if_t c8 h
        exact hJ70 M5 _ _ _ Z (lv_sub hl [0, 1] rfl) h
      · have h := if_f c8 h
        refine lv_aload_n hx hb dX11_putEntry_10 rfl (lv_at hl 0 rfl) ?_
        refine mr_set S X Z hin hl_289 dX11_putEntry_11 h (fun v9 h => ?_)
        refine lv_iload_n hx hb dX11_putEntry_14 rfl (lv_at hl 3 rfl) ?_
        refine lv_ishr hx hb dX11_putEntry_15 ?_
        refine lv_iconst (v := (1 : Int32)) hx hb dX11_putEntry_16 (by decide) ?_
        refine lv_iand hx hb dX11_putEntry_17 ?_
        refine lv_iconst (v := (1 : Int32)) hx hb dX11_putEntry_18 (by decide) ?_
        obtain ⟨J64, eJ64, h⟩ := jn_e h
        have hJ64 : ∀ (M10 : gM) (H : Heap) (locs : List Loc) (ls : Array Slot), gZ D mLay dA mLive A (gA mLive A) s.heap M10 H locs → lv_has ls 4 [(0, .ref (A m_o)), (1, .int a1), (2, .int a2), (3, .int x4)] → J64 M10 = some y → W p l e (headSpec wmX11_putEntry ({ frames := 2, cells := 0, slots := 0, locals := 47 } : Room)).room s m args below meth c H locs 0 0 (MQ below (mQv D dA A y) args s 0 0 (gA mLive A)) (F0 m 64 ls []) := by
          intro M10 H locs ls Z hl h
          rw [eJ64] at h
          try dsimp only at h
          obtain ⟨x11, ex11, h⟩ := lt_e h
          refine lv_iinc (v := x11) (lv' := [(3, .int x11), (0, .ref (A m_o)), (1, .int a1), (2, .int a2)]) hx hb dX11_putEntry_64 hl (k := 3) rfl (by rw [ex11]; rfl) (by decide) rfl (fun ls hl => ?_)
          refine lv_goto (tgt := 2) hx hb dX11_putEntry_67 (by decide) ?_
          exact ih2 x11 M10 _ _ _ Z (lv_sub hl [1, 2, 3, 0] rfl) h
        refine lv_icmp_ne (tgt := 64) hx hb dX11_putEntry_19 (by decide) (fun c12 => ?_) (fun c12 => ?_)
        · have h := if_f c12 h
          exact hJ64 M5 _ _ _ Z (lv_sub hl [0, 1, 2, 3] rfl) h
        · have h := if_t c12 h
          refine lv_aload_n hx hb dX11_putEntry_22 rfl (lv_at hl 0 rfl) ?_
          refine mr_entry S X Z hin hl_56 dX11_putEntry_23 ?_
          refine lv_bipush (v := (48 : Int32)) hx hb dX11_putEntry_26 (by decide) ?_
          refine lv_iload_n hx hb dX11_putEntry_28 rfl (lv_at hl 3 rfl) ?_
          refine lv_imul hx hb dX11_putEntry_29 ?_
          refine lv_iload_n hx hb dX11_putEntry_30 rfl (lv_at hl 2 rfl) ?_
          refine lv_iadd hx hb dX11_putEntry_31 ?_
          refine lv_iconst (v := (1 : Int32)) hx hb dX11_putEntry_32 (by decide) ?_
          refine g_iast S X Z ml_entry rfl dX11_putEntry_33 h (fun M13 H locs Z h => ?_)
          refine lv_aload_n hx hb dX11_putEntry_34 rfl (lv_at hl 0 rfl) ?_
          refine lv_aload_n hx hb dX11_putEntry_35 rfl (lv_at hl 0 rfl) ?_
          refine mr_gone S X Z hin hl_59 dX11_putEntry_36 ?_
          refine lv_bipush (v := (48 : Int32)) hx hb dX11_putEntry_39 (by decide) ?_
          refine lv_iload_n hx hb dX11_putEntry_41 rfl (lv_at hl 3 rfl) ?_
          refine lv_imul hx hb dX11_putEntry_42 ?_
          refine lv_iload_n hx hb dX11_putEntry_43 rfl (lv_at hl 2 rfl) ?_
          refine lv_iadd hx hb dX11_putEntry_44 ?_
          obtain ⟨M15, hc14, h⟩ := o1_e h
          refine g_Vv (As := [.ref (A m_gone), .int (((48 : Int32) * x4) + a2)]) (rest := []) S X Z mlv_o rfl rfl (t_X11_clearRow l D dA A hJ ⟨ml_gone, rfl⟩ hc14) (cwV 2 hts (mGV (mB 108 rfl) (mB 109 rfl) (mB 110 rfl) (mB 63 rfl) (mB 99 rfl)) rfl rfl rfl (by decide +kernel) ⟨Nat.le_of_ble_eq_true rfl, Nat.le_of_ble_eq_true rfl⟩) rfl hl.1 rfl (Nat.le_of_ble_eq_true rfl) dX11_putEntry_45 ⟨Nat.zero_le _, Nat.zero_le _⟩ (fun H locs Z => ?_)
          refine lv_aload_n hx hb dX11_putEntry_48 rfl (lv_at hl 0 rfl) ?_
          refine lv_iload_n hx hb dX11_putEntry_49 rfl (lv_at hl 3 rfl) ?_
          refine lv_iload_n hx hb dX11_putEntry_50 rfl (lv_at hl 2 rfl) ?_
          obtain ⟨M17, hc16, h⟩ := o1_e h
          refine g_Vv (As := [.int x4, .int a2]) (rest := []) S X Z mlv_o rfl rfl (t_X11_newCopy l D dA A hJ  hc16) (cwV 2 hts (mGV (mB 202 rfl) (mB 203 rfl) (mB 204 rfl) (mB 63 rfl) (mB 107 rfl)) rfl rfl rfl (by decide +kernel) ⟨Nat.le_of_ble_eq_true rfl, Nat.le_of_ble_eq_true rfl⟩) rfl hl.1 rfl (Nat.le_of_ble_eq_true rfl) dX11_putEntry_51 ⟨Nat.zero_le _, Nat.zero_le _⟩ (fun H locs Z => ?_)
          refine lv_aload_n hx hb dX11_putEntry_54 rfl (lv_at hl 0 rfl) ?_
          refine lv_dup hx hb dX11_putEntry_55 rfl ?_
          refine mr_acts S X Z hin hl_302 dX11_putEntry_56 h (fun v18 h => ?_)
          refine lv_iconst (v := (1 : Int32)) hx hb dX11_putEntry_59 (by decide) ?_
          refine lv_iadd hx hb dX11_putEntry_60 ?_
          refine mp_acts S X Z hin hl_302 dX11_putEntry_61 h (fun M19 H locs Z h => ?_)
          exact hJ64 M19 _ _ _ Z (lv_sub hl [0, 1, 2, 3] rfl) h
  exact hL2 100 (0 : Int32) M _ _ _ Z (lv_sub hl [1, 2, 3, 0] rfl) h
-- X11_putGone (II)V: 102 instructions
theorem dX11_putGone_0 : decode cX11_putGone 0 = .ok (.iconst 0, 1) := by decide +kernel
theorem dX11_putGone_1 : decode cX11_putGone 1 = .ok (.istore_n 3, 1) := by decide +kernel
theorem dX11_putGone_2 : decode cX11_putGone 2 = .ok (.iload_n 3, 1) := by decide +kernel
theorem dX11_putGone_3 : decode cX11_putGone 3 = .ok (.aload_n 0, 1) := by decide +kernel
theorem dX11_putGone_4 : decode cX11_putGone 4 = .ok (.getfield 155, 3) := by decide +kernel
theorem dX11_putGone_7 : decode cX11_putGone 7 = .ok (.if_icmp .ge 173, 3) := by decide +kernel
theorem dX11_putGone_10 : decode cX11_putGone 10 = .ok (.aload_n 0, 1) := by decide +kernel
theorem dX11_putGone_11 : decode cX11_putGone 11 = .ok (.getfield 289, 3) := by decide +kernel
theorem dX11_putGone_14 : decode cX11_putGone 14 = .ok (.iload_n 3, 1) := by decide +kernel
theorem dX11_putGone_15 : decode cX11_putGone 15 = .ok (.ishr, 1) := by decide +kernel
theorem dX11_putGone_16 : decode cX11_putGone 16 = .ok (.iconst 1, 1) := by decide +kernel
theorem dX11_putGone_17 : decode cX11_putGone 17 = .ok (.iand, 1) := by decide +kernel
theorem dX11_putGone_18 : decode cX11_putGone 18 = .ok (.iconst 1, 1) := by decide +kernel
theorem dX11_putGone_19 : decode cX11_putGone 19 = .ok (.if_icmp .ne 155, 3) := by decide +kernel
theorem dX11_putGone_22 : decode cX11_putGone 22 = .ok (.bipush 48, 2) := by decide +kernel
theorem dX11_putGone_24 : decode cX11_putGone 24 = .ok (.iload_n 3, 1) := by decide +kernel
theorem dX11_putGone_25 : decode cX11_putGone 25 = .ok (.imul, 1) := by decide +kernel
theorem dX11_putGone_26 : decode cX11_putGone 26 = .ok (.iload_n 2, 1) := by decide +kernel
theorem dX11_putGone_27 : decode cX11_putGone 27 = .ok (.iadd, 1) := by decide +kernel
theorem dX11_putGone_28 : decode cX11_putGone 28 = .ok (.istore 4, 2) := by decide +kernel
theorem dX11_putGone_30 : decode cX11_putGone 30 = .ok (.aload_n 0, 1) := by decide +kernel
theorem dX11_putGone_31 : decode cX11_putGone 31 = .ok (.getfield 56, 3) := by decide +kernel
theorem dX11_putGone_34 : decode cX11_putGone 34 = .ok (.iload 4, 2) := by decide +kernel
theorem dX11_putGone_36 : decode cX11_putGone 36 = .ok (.iconst 2, 1) := by decide +kernel
theorem dX11_putGone_37 : decode cX11_putGone 37 = .ok (.iastore, 1) := by decide +kernel
theorem dX11_putGone_38 : decode cX11_putGone 38 = .ok (.aload_n 0, 1) := by decide +kernel
theorem dX11_putGone_39 : decode cX11_putGone 39 = .ok (.aload_n 0, 1) := by decide +kernel
theorem dX11_putGone_40 : decode cX11_putGone 40 = .ok (.getfield 125, 3) := by decide +kernel
theorem dX11_putGone_43 : decode cX11_putGone 43 = .ok (.iconst 0, 1) := by decide +kernel
theorem dX11_putGone_44 : decode cX11_putGone 44 = .ok (.aload_n 0, 1) := by decide +kernel
theorem dX11_putGone_45 : decode cX11_putGone 45 = .ok (.getfield 59, 3) := by decide +kernel
theorem dX11_putGone_48 : decode cX11_putGone 48 = .ok (.iload 4, 2) := by decide +kernel
theorem dX11_putGone_50 : decode cX11_putGone 50 = .ok (.invokevirtual 234, 3) := by decide +kernel
theorem dX11_putGone_53 : decode cX11_putGone 53 = .ok (.aload_n 0, 1) := by decide +kernel
theorem dX11_putGone_54 : decode cX11_putGone 54 = .ok (.getfield 32, 3) := by decide +kernel
theorem dX11_putGone_57 : decode cX11_putGone 57 = .ok (.iload 4, 2) := by decide +kernel
theorem dX11_putGone_59 : decode cX11_putGone 59 = .ok (.baload, 1) := by decide +kernel
theorem dX11_putGone_60 : decode cX11_putGone 60 = .ok (.ifCond .eq 35, 3) := by decide +kernel
theorem dX11_putGone_63 : decode cX11_putGone 63 = .ok (.aload_n 0, 1) := by decide +kernel
theorem dX11_putGone_64 : decode cX11_putGone 64 = .ok (.getfield 44, 3) := by decide +kernel
theorem dX11_putGone_67 : decode cX11_putGone 67 = .ok (.iload 4, 2) := by decide +kernel
theorem dX11_putGone_69 : decode cX11_putGone 69 = .ok (.iaload, 1) := by decide +kernel
theorem dX11_putGone_70 : decode cX11_putGone 70 = .ok (.ifCond .ne 25, 3) := by decide +kernel
theorem dX11_putGone_73 : decode cX11_putGone 73 = .ok (.aload_n 0, 1) := by decide +kernel
theorem dX11_putGone_74 : decode cX11_putGone 74 = .ok (.aload_n 0, 1) := by decide +kernel
theorem dX11_putGone_75 : decode cX11_putGone 75 = .ok (.getfield 41, 3) := by decide +kernel
theorem dX11_putGone_78 : decode cX11_putGone 78 = .ok (.iload 4, 2) := by decide +kernel
theorem dX11_putGone_80 : decode cX11_putGone 80 = .ok (.aload_n 0, 1) := by decide +kernel
theorem dX11_putGone_81 : decode cX11_putGone 81 = .ok (.getfield 125, 3) := by decide +kernel
theorem dX11_putGone_84 : decode cX11_putGone 84 = .ok (.iconst 0, 1) := by decide +kernel
theorem dX11_putGone_85 : decode cX11_putGone 85 = .ok (.invokevirtual 265, 3) := by decide +kernel
theorem dX11_putGone_88 : decode cX11_putGone 88 = .ok (.ifCond .eq 7, 3) := by decide +kernel
theorem dX11_putGone_91 : decode cX11_putGone 91 = .ok (.iconst 1, 1) := by decide +kernel
theorem dX11_putGone_92 : decode cX11_putGone 92 = .ok (.goto 4, 3) := by decide +kernel
theorem dX11_putGone_95 : decode cX11_putGone 95 = .ok (.iconst 0, 1) := by decide +kernel
theorem dX11_putGone_96 : decode cX11_putGone 96 = .ok (.istore 5, 2) := by decide +kernel
theorem dX11_putGone_98 : decode cX11_putGone 98 = .ok (.iconst 1, 1) := by decide +kernel
theorem dX11_putGone_99 : decode cX11_putGone 99 = .ok (.istore 6, 2) := by decide +kernel
theorem dX11_putGone_101 : decode cX11_putGone 101 = .ok (.iload 6, 2) := by decide +kernel
theorem dX11_putGone_103 : decode cX11_putGone 103 = .ok (.aload_n 0, 1) := by decide +kernel
theorem dX11_putGone_104 : decode cX11_putGone 104 = .ok (.getfield 162, 3) := by decide +kernel
theorem dX11_putGone_107 : decode cX11_putGone 107 = .ok (.if_icmp .ge 46, 3) := by decide +kernel
theorem dX11_putGone_110 : decode cX11_putGone 110 = .ok (.iload 5, 2) := by decide +kernel
theorem dX11_putGone_112 : decode cX11_putGone 112 = .ok (.ifCond .eq 32, 3) := by decide +kernel
theorem dX11_putGone_115 : decode cX11_putGone 115 = .ok (.aload_n 0, 1) := by decide +kernel
theorem dX11_putGone_116 : decode cX11_putGone 116 = .ok (.iload 6, 2) := by decide +kernel
theorem dX11_putGone_118 : decode cX11_putGone 118 = .ok (.iload_n 2, 1) := by decide +kernel
theorem dX11_putGone_119 : decode cX11_putGone 119 = .ok (.invokevirtual 197, 3) := by decide +kernel
theorem dX11_putGone_122 : decode cX11_putGone 122 = .ok (.ifCond .eq 18, 3) := by decide +kernel
theorem dX11_putGone_125 : decode cX11_putGone 125 = .ok (.aload_n 0, 1) := by decide +kernel
theorem dX11_putGone_126 : decode cX11_putGone 126 = .ok (.getfield 32, 3) := by decide +kernel
theorem dX11_putGone_129 : decode cX11_putGone 129 = .ok (.bipush 48, 2) := by decide +kernel
theorem dX11_putGone_131 : decode cX11_putGone 131 = .ok (.iload_n 3, 1) := by decide +kernel
theorem dX11_putGone_132 : decode cX11_putGone 132 = .ok (.imul, 1) := by decide +kernel
theorem dX11_putGone_133 : decode cX11_putGone 133 = .ok (.iload 6, 2) := by decide +kernel
theorem dX11_putGone_135 : decode cX11_putGone 135 = .ok (.iadd, 1) := by decide +kernel
theorem dX11_putGone_136 : decode cX11_putGone 136 = .ok (.baload, 1) := by decide +kernel
theorem dX11_putGone_137 : decode cX11_putGone 137 = .ok (.ifCond .ne 7, 3) := by decide +kernel
theorem dX11_putGone_140 : decode cX11_putGone 140 = .ok (.iconst 1, 1) := by decide +kernel
theorem dX11_putGone_141 : decode cX11_putGone 141 = .ok (.goto 4, 3) := by decide +kernel
theorem dX11_putGone_144 : decode cX11_putGone 144 = .ok (.iconst 0, 1) := by decide +kernel
theorem dX11_putGone_145 : decode cX11_putGone 145 = .ok (.istore 5, 2) := by decide +kernel
theorem dX11_putGone_147 : decode cX11_putGone 147 = .ok (.iinc 6 1, 3) := by decide +kernel
theorem dX11_putGone_150 : decode cX11_putGone 150 = .ok (.goto (-49), 3) := by decide +kernel
theorem dX11_putGone_153 : decode cX11_putGone 153 = .ok (.iload 5, 2) := by decide +kernel
theorem dX11_putGone_155 : decode cX11_putGone 155 = .ok (.ifCond .eq 9, 3) := by decide +kernel
theorem dX11_putGone_158 : decode cX11_putGone 158 = .ok (.aload_n 0, 1) := by decide +kernel
theorem dX11_putGone_159 : decode cX11_putGone 159 = .ok (.iload_n 3, 1) := by decide +kernel
theorem dX11_putGone_160 : decode cX11_putGone 160 = .ok (.iload_n 2, 1) := by decide +kernel
theorem dX11_putGone_161 : decode cX11_putGone 161 = .ok (.invokevirtual 312, 3) := by decide +kernel
theorem dX11_putGone_164 : decode cX11_putGone 164 = .ok (.aload_n 0, 1) := by decide +kernel
theorem dX11_putGone_165 : decode cX11_putGone 165 = .ok (.dup, 1) := by decide +kernel
theorem dX11_putGone_166 : decode cX11_putGone 166 = .ok (.getfield 302, 3) := by decide +kernel
theorem dX11_putGone_169 : decode cX11_putGone 169 = .ok (.iconst 1, 1) := by decide +kernel
theorem dX11_putGone_170 : decode cX11_putGone 170 = .ok (.iadd, 1) := by decide +kernel
theorem dX11_putGone_171 : decode cX11_putGone 171 = .ok (.putfield 302, 3) := by decide +kernel
theorem dX11_putGone_174 : decode cX11_putGone 174 = .ok (.iinc 3 1, 3) := by decide +kernel
theorem dX11_putGone_177 : decode cX11_putGone 177 = .ok (.goto (-175), 3) := by decide +kernel
theorem dX11_putGone_180 : decode cX11_putGone 180 = .ok (.aload_n 0, 1) := by decide +kernel
theorem dX11_putGone_181 : decode cX11_putGone 181 = .ok (.iload_n 1, 1) := by decide +kernel
theorem dX11_putGone_182 : decode cX11_putGone 182 = .ok (.invokevirtual 305, 3) := by decide +kernel
theorem dX11_putGone_185 : decode cX11_putGone 185 = .ok (.return_, 1) := by decide +kernel
abbrev wmX11_putGone : List Cond := .code yX11_putGone cX11_putGone 7 none :: mBig
def f_X11_putGone_L101 (a1 : Int32) (a2 : Int32) (x4 : Int32) (J153 : (Int32 × gM) → Option gM) (J174 : gM → Option gM) (J180 : gM → Option gM) : Nat → Int32 → Int32 → gM → Option gM
  | 0, _, _, _ => none
  | n31 + 1, x28, x29, M30 => lt (M30 m_o 6) (fun v32 => (if v32 ≤ x29 then J153 (x28, M30) else jn (fun (q : (Int32 × gM)) => match q with | (b34, M35) => lt (x29 + 1) (fun x36 => f_X11_putGone_L101 a1 a2 x4 J153 J174 J180 n31 b34 x36 M35)) (fun J145 => jn (fun (M37 : gM) => J145 ((0 : Int32), M37)) (fun J144 => (if x28 = 0 then J144 M30 else o1 (f_X11_isChild M30 x29 a2) (fun v40 => jn (fun (M41 : gM) => J145 ((1 : Int32), M41)) (fun J140 => (if v40 = 0 then J140 M30 else rd M30 m_has 192 (((48 : Int32) * x4) + x29) (fun v43 => (if v43 = 0 then J140 M30 else J144 M30))))))))))
def f_X11_putGone_L2 (a1 : Int32) (a2 : Int32) (J180 : gM → Option gM) : Nat → Int32 → gM → Option gM
  | 0, _, _ => none
  | n6 + 1, x4, M5 => lt (M5 m_o 0) (fun v7 => (if v7 ≤ x4 then J180 M5 else lt (M5 m_o 51) (fun v9 => jn (fun (M10 : gM) => lt (x4 + 1) (fun x11 => f_X11_putGone_L2 a1 a2 J180 n6 x11 M10)) (fun J174 => (if ((v9 >>> (x4 &&& 31)) &&& (1 : Int32)) = (1 : Int32) then lt ((((48 : Int32) * x4) + a2)) (fun x13 => wr M5 m_entry 192 x13 (2 : Int32) (fun M14 => o1 (f_X11_copyTo M14 m_row (0 : Int32) m_gone x13) (fun M16 => rd M16 m_has 192 x13 (fun v17 => jn (fun (q : (Int32 × gM)) => match q with | (b18, M19) => jn (fun (q : (Int32 × gM)) => match q with | (b20, M21) => jn (fun (M22 : gM) => lt (M22 m_o 45) (fun v23 => lt (gset M22 m_o 45 (v23 + (1 : Int32))) (fun M24 => J174 M24))) (fun J164 => (if b20 = 0 then J164 M21 else o1 (f_X11_drop M21 x4 a2) (fun M27 => J164 M27)))) (fun J153 => f_X11_putGone_L101 a1 a2 x4 J153 J174 J180 100 b18 (1 : Int32) M19)) (fun J96 => jn (fun (M45 : gM) => J96 ((0 : Int32), M45)) (fun J95 => (if v17 = 0 then J95 M16 else rd M16 m_versions 192 x13 (fun v47 => (if v47 = 0 then o1 (f_X11_isAtMost M16 m_vector x13 m_row (0 : Int32)) (fun v50 => (if v50 = 0 then J95 M16 else J96 ((1 : Int32), M16))) else J95 M16))))))))) else J174 M5)))))
def f_X11_putGone (M : gM) (a1 : Int32) (a2 : Int32) : Option gM :=
  jn (fun (M1 : gM) => o1 (f_X11_phases M1 a1) (fun M3 => some M3)) (fun J180 => f_X11_putGone_L2 a1 a2 J180 100 (0 : Int32) M)
set_option maxHeartbeats 4000000 in
set_option maxRecDepth 100000 in
theorem t_X11_putGone (l : Launch) (D : va_G) (dA : Nat → ClassId) (A : gI → Nat) (hJ : gJ mLive A) {M : gM} {a1 : Int32} {a2 : Int32}  {y : gM} (h : f_X11_putGone M a1 a2 = some y) : mMv l yX11_putGone wmX11_putGone ({ frames := 2, cells := 0, slots := 0, locals := 47 } : Room) D dA A [.ref (A m_o), .int a1, .int a2] M y := by
  refine Met.ofW (cc := cX11_putGone) (maxL := 7) (ret := none) (by decide) rfl ?_
  intro p e s m args below meth c s₁ B hml hv
  obtain ⟨rfl, hP, hK⟩ := hv
  generalize hargs : ([.ref (A m_o), .int a1, .int a2] : List Value).toArray = args at B ⊢
  have S : CallFix p m c cX11_putGone 7 s args wmX11_putGone RX11 := ⟨B.exec, B.bytes, hml, findClass_of_methodNamed B.named, atoms_spec (ws := wmX11_putGone) B.pre⟩
  obtain ⟨hx, hb, -, hown, hts⟩ := id S
  have hr := B.returns
  have hlocks := B.notSynchronized
  have X : gX D vwCl dA mLive A (gA mLive A) s := ⟨hK, hJ, fun i hi => ⟨i, hi, rfl⟩⟩
  have Z : gZ D mLay dA mLive A (gA mLive A) s.heap M s.heap [] := ⟨hP, va_S.rf⟩
  have hin : ∀ w ∈ wsX110, w ∈ wmX11_putGone := m_in
  have hl_32 := hts (.fieldLink RX11 32 "ReplicaFilesModel" "has" "[Z") (mBc 12 rfl)
  have hl_41 := hts (.fieldLink RX11 41 "ReplicaFilesModel" "vector" "[I") (mBc 15 rfl)
  have hl_44 := hts (.fieldLink RX11 44 "ReplicaFilesModel" "versions" "[I") (mBc 16 rfl)
  have hl_56 := hts (.fieldLink RX11 56 "ReplicaFilesModel" "entry" "[I") (mBc 20 rfl)
  have hl_59 := hts (.fieldLink RX11 59 "ReplicaFilesModel" "gone" "[I") (mBc 21 rfl)
  have hl_125 := hts (.fieldLink RX11 125 "ReplicaFilesModel" "row" "[I") (mBc 43 rfl)
  have hl_155 := hts (.fieldLink RX11 155 "ReplicaFilesModel" "servers" "I") (mBc 53 rfl)
  have hl_162 := hts (.fieldLink RX11 162 "ReplicaFilesModel" "made" "I") (mBc 55 rfl)
  have hl_289 := hts (.fieldLink RX11 289 "ReplicaFilesModel" "set" "I") (mBc 188 rfl)
  have hl_302 := hts (.fieldLink RX11 302 "ReplicaFilesModel" "acts" "I") (mBc 198 rfl)
  have hl := lv_entry ([.ref (A m_o), .int a1, .int a2]) (n := 7) (Nat.le_of_ble_eq_true rfl)
  rw [← hargs, lg_entry_eq, hargs]
  generalize (lg_sl ([.ref (A m_o), .int a1, .int a2]) ++ List.replicate (7 - (lg_sl ([.ref (A m_o), .int a1, .int a2])).length) Slot.unset).toArray = ls at hl ⊢
  have hl : lv_has ls 7 [(0, .ref (A m_o)), (1, .int a1), (2, .int a2)] := hl
  unfold f_X11_putGone at h
  refine lv_iconst (v := (0 : Int32)) hx hb dX11_putGone_0 (by decide) ?_
  refine lv_istore_n (lv' := [(3, .int (0 : Int32)), (0, .ref (A m_o)), (1, .int a1), (2, .int a2)]) hx hb dX11_putGone_1 rfl hl (by decide) rfl (fun ls hl => ?_)
  obtain ⟨J180, eJ180, h⟩ := jn_e h
  have hJ180 : ∀ (M1 : gM) (H : Heap) (locs : List Loc) (ls : Array Slot), gZ D mLay dA mLive A (gA mLive A) s.heap M1 H locs → lv_has ls 7 [(0, .ref (A m_o)), (1, .int a1)] → J180 M1 = some y → W p l e (headSpec wmX11_putGone ({ frames := 2, cells := 0, slots := 0, locals := 47 } : Room)).room s m args below meth c H locs 0 0 (MQ below (mQv D dA A y) args s 0 0 (gA mLive A)) (F0 m 180 ls []) := by
    intro M1 H locs ls Z hl h
    rw [eJ180] at h
    try dsimp only at h
    refine lv_aload_n hx hb dX11_putGone_180 rfl (lv_at hl 0 rfl) ?_
    refine lv_iload_n hx hb dX11_putGone_181 rfl (lv_at hl 1 rfl) ?_
    obtain ⟨M3, hc2, h⟩ := o1_e h
    refine g_Vv (As := [.int a1]) (rest := []) S X Z mlv_o rfl rfl (t_X11_phases l D dA A hJ  hc2) (cwV 1 hts (mGV (mB 199 rfl) (mB 200 rfl) (mB 201 rfl) (mB 63 rfl) (mB 186 rfl)) rfl rfl rfl (by decide +kernel) ⟨Nat.le_of_ble_eq_true rfl, Nat.le_of_ble_eq_true rfl⟩) rfl hl.1 rfl (Nat.le_of_ble_eq_true rfl) dX11_putGone_182 ⟨Nat.zero_le _, Nat.zero_le _⟩ (fun H locs Z => ?_)
    have hy := Option.some.inj h
    subst hy
    exact g_rv S Z hr hlocks dX11_putGone_185
  have hL2 : ∀ (n : Nat) (x4 : Int32) (M5 : gM) (H : Heap) (locs : List Loc) (ls : Array Slot), gZ D mLay dA mLive A (gA mLive A) s.heap M5 H locs → lv_has ls 7 [(0, .ref (A m_o)), (1, .int a1), (2, .int a2), (3, .int x4)] → f_X11_putGone_L2 a1 a2 J180 n x4 M5 = some y → W p l e (headSpec wmX11_putGone ({ frames := 2, cells := 0, slots := 0, locals := 47 } : Room)).room s m args below meth c H locs 0 0 (MQ below (mQv D dA A y) args s 0 0 (gA mLive A)) (F0 m 2 ls []) := by
    intro n
    induction n with
    | zero =>
      intro x4 M5 H locs ls Z hl h
      rw [f_X11_putGone_L2] at h
      cases h
    | succ n6 ih2 =>
      intro x4 M5 H locs ls Z hl h
      rw [f_X11_putGone_L2] at h
      refine lv_iload_n hx hb dX11_putGone_2 rfl (lv_at hl 3 rfl) ?_
      refine lv_aload_n hx hb dX11_putGone_3 rfl (lv_at hl 0 rfl) ?_
      refine mr_servers S X Z hin hl_155 dX11_putGone_4 h (fun v7 h => ?_)
      refine lv_icmp_ge (tgt := 180) hx hb dX11_putGone_7 (by decide) (fun c8 => ?_) (fun c8 => ?_)
      · have h := if_t c8 h
        exact hJ180 M5 _ _ _ Z (lv_sub hl [0, 1] rfl) h
      · have h := if_f c8 h
        refine lv_aload_n hx hb dX11_putGone_10 rfl (lv_at hl 0 rfl) ?_
        refine mr_set S X Z hin hl_289 dX11_putGone_11 h (fun v9 h => ?_)
        refine lv_iload_n hx hb dX11_putGone_14 rfl (lv_at hl 3 rfl) ?_
        refine lv_ishr hx hb dX11_putGone_15 ?_
        refine lv_iconst (v := (1 : Int32)) hx hb dX11_putGone_16 (by decide) ?_
        refine lv_iand hx hb dX11_putGone_17 ?_
        refine lv_iconst (v := (1 : Int32)) hx hb dX11_putGone_18 (by decide) ?_
        obtain ⟨J174, eJ174, h⟩ := jn_e h
        have hJ174 : ∀ (M10 : gM) (H : Heap) (locs : List Loc) (ls : Array Slot), gZ D mLay dA mLive A (gA mLive A) s.heap M10 H locs → lv_has ls 7 [(0, .ref (A m_o)), (1, .int a1), (2, .int a2), (3, .int x4)] → J174 M10 = some y → W p l e (headSpec wmX11_putGone ({ frames := 2, cells := 0, slots := 0, locals := 47 } : Room)).room s m args below meth c H locs 0 0 (MQ below (mQv D dA A y) args s 0 0 (gA mLive A)) (F0 m 174 ls []) := by
          intro M10 H locs ls Z hl h
          rw [eJ174] at h
          try dsimp only at h
          obtain ⟨x11, ex11, h⟩ := lt_e h
          refine lv_iinc (v := x11) (lv' := [(3, .int x11), (0, .ref (A m_o)), (1, .int a1), (2, .int a2)]) hx hb dX11_putGone_174 hl (k := 3) rfl (by rw [ex11]; rfl) (by decide) rfl (fun ls hl => ?_)
          refine lv_goto (tgt := 2) hx hb dX11_putGone_177 (by decide) ?_
          exact ih2 x11 M10 _ _ _ Z (lv_sub hl [1, 2, 3, 0] rfl) h
        refine lv_icmp_ne (tgt := 174) hx hb dX11_putGone_19 (by decide) (fun c12 => ?_) (fun c12 => ?_)
        · have h := if_f c12 h
          exact hJ174 M5 _ _ _ Z (lv_sub hl [0, 1, 2, 3] rfl) h
        · have h := if_t c12 h
          refine lv_bipush (v := (48 : Int32)) hx hb dX11_putGone_22 (by decide) ?_
          refine lv_iload_n hx hb dX11_putGone_24 rfl (lv_at hl 3 rfl) ?_
          refine lv_imul hx hb dX11_putGone_25 ?_
          refine lv_iload_n hx hb dX11_putGone_26 rfl (lv_at hl 2 rfl) ?_
          refine lv_iadd hx hb dX11_putGone_27 ?_
          refine g_topi h (fun x13 h => ?_)
          refine lv_istore (lv' := [(4, .int x13), (0, .ref (A m_o)), (1, .int a1), (2, .int a2), (3, .int x4)]) hx hb dX11_putGone_28 hl (by decide) rfl (fun ls hl => ?_)
          refine lv_aload_n hx hb dX11_putGone_30 rfl (lv_at hl 1 rfl) ?_
          refine mr_entry S X Z hin hl_56 dX11_putGone_31 ?_
          refine lv_iload hx hb dX11_putGone_34 (lv_at hl 0 rfl) ?_
          refine lv_iconst (v := (2 : Int32)) hx hb dX11_putGone_36 (by decide) ?_
          refine g_iast S X Z ml_entry rfl dX11_putGone_37 h (fun M14 H locs Z h => ?_)
          refine lv_aload_n hx hb dX11_putGone_38 rfl (lv_at hl 1 rfl) ?_
          refine lv_aload_n hx hb dX11_putGone_39 rfl (lv_at hl 1 rfl) ?_
          refine mr_row S X Z hin hl_125 dX11_putGone_40 ?_
          refine lv_iconst (v := (0 : Int32)) hx hb dX11_putGone_43 (by decide) ?_
          refine lv_aload_n hx hb dX11_putGone_44 rfl (lv_at hl 1 rfl) ?_
          refine mr_gone S X Z hin hl_59 dX11_putGone_45 ?_
          refine lv_iload hx hb dX11_putGone_48 (lv_at hl 0 rfl) ?_
          obtain ⟨M16, hc15, h⟩ := o1_e h
          refine g_Vv (As := [.ref (A m_row), .int (0 : Int32), .ref (A m_gone), .int x13]) (rest := []) S X Z mlv_o rfl rfl (t_X11_copyTo l D dA A hJ ⟨ml_row, rfl⟩ ⟨ml_gone, rfl⟩ hc15) (cwV 4 hts (mGV (mB 139 rfl) (mB 140 rfl) (mB 141 rfl) (mB 63 rfl) (mB 97 rfl)) rfl rfl rfl (by decide +kernel) ⟨Nat.le_of_ble_eq_true rfl, Nat.le_of_ble_eq_true rfl⟩) rfl hl.1 rfl (Nat.le_of_ble_eq_true rfl) dX11_putGone_50 ⟨Nat.zero_le _, Nat.zero_le _⟩ (fun H locs Z => ?_)
          refine lv_aload_n hx hb dX11_putGone_53 rfl (lv_at hl 1 rfl) ?_
          refine mr_has S X Z hin hl_32 dX11_putGone_54 ?_
          refine lv_iload hx hb dX11_putGone_57 (lv_at hl 0 rfl) ?_
          refine g_zald S X Z ml_has rfl dX11_putGone_59 h (fun v17 h => ?_)
          obtain ⟨J96, eJ96, h⟩ := jn_e h
          have hJ96 : ∀ (b18 : Int32) (M19 : gM) (H : Heap) (locs : List Loc) (ls : Array Slot), gZ D mLay dA mLive A (gA mLive A) s.heap M19 H locs → lv_has ls 7 [(0, .ref (A m_o)), (1, .int a1), (2, .int a2), (3, .int x4)] → J96 (b18, M19) = some y → W p l e (headSpec wmX11_putGone ({ frames := 2, cells := 0, slots := 0, locals := 47 } : Room)).room s m args below meth c H locs 0 0 (MQ below (mQv D dA A y) args s 0 0 (gA mLive A)) (F0 m 96 ls [.int b18]) := by
            intro b18 M19 H locs ls Z hl h
            rw [eJ96] at h
            try dsimp only at h
            refine lv_istore (lv' := [(5, .int b18), (0, .ref (A m_o)), (1, .int a1), (2, .int a2), (3, .int x4)]) hx hb dX11_putGone_96 hl (by decide) rfl (fun ls hl => ?_)
            refine lv_iconst (v := (1 : Int32)) hx hb dX11_putGone_98 (by decide) ?_
            refine lv_istore (lv' := [(6, .int (1 : Int32)), (5, .int b18), (0, .ref (A m_o)), (1, .int a1), (2, .int a2), (3, .int x4)]) hx hb dX11_putGone_99 hl (by decide) rfl (fun ls hl => ?_)
            obtain ⟨J153, eJ153, h⟩ := jn_e h
            have hJ153 : ∀ (b20 : Int32) (M21 : gM) (H : Heap) (locs : List Loc) (ls : Array Slot), gZ D mLay dA mLive A (gA mLive A) s.heap M21 H locs → lv_has ls 7 [(0, .ref (A m_o)), (1, .int a1), (2, .int a2), (3, .int x4), (5, .int b20)] → J153 (b20, M21) = some y → W p l e (headSpec wmX11_putGone ({ frames := 2, cells := 0, slots := 0, locals := 47 } : Room)).room s m args below meth c H locs 0 0 (MQ below (mQv D dA A y) args s 0 0 (gA mLive A)) (F0 m 153 ls []) := by
              intro b20 M21 H locs ls Z hl h
              rw [eJ153] at h
              try dsimp only at h
              refine lv_iload hx hb dX11_putGone_153 (lv_at hl 4 rfl) ?_
              obtain ⟨J164, eJ164, h⟩ := jn_e h
              have hJ164 : ∀ (M22 : gM) (H : Heap) (locs : List Loc) (ls : Array Slot), gZ D mLay dA mLive A (gA mLive A) s.heap M22 H locs → lv_has ls 7 [(0, .ref (A m_o)), (1, .int a1), (2, .int a2), (3, .int x4)] → J164 M22 = some y → W p l e (headSpec wmX11_putGone ({ frames := 2, cells := 0, slots := 0, locals := 47 } : Room)).room s m args below meth c H locs 0 0 (MQ below (mQv D dA A y) args s 0 0 (gA mLive A)) (F0 m 164 ls []) := by
                intro M22 H locs ls Z hl h
                rw [eJ164] at h
                try dsimp only at h
                refine lv_aload_n hx hb dX11_putGone_164 rfl (lv_at hl 0 rfl) ?_
                refine lv_dup hx hb dX11_putGone_165 rfl ?_
                refine mr_acts S X Z hin hl_302 dX11_putGone_166 h (fun v23 h => ?_)
                refine lv_iconst (v := (1 : Int32)) hx hb dX11_putGone_169 (by decide) ?_
                refine lv_iadd hx hb dX11_putGone_170 ?_
                refine mp_acts S X Z hin hl_302 dX11_putGone_171 h (fun M24 H locs Z h => ?_)
                exact hJ174 M24 _ _ _ Z (lv_sub hl [0, 1, 2, 3] rfl) h
              refine lv_if_eq (tgt := 164) hx hb dX11_putGone_155 (by decide) (fun c25 => ?_) (fun c25 => ?_)
              · have h := if_t c25 h
                exact hJ164 M21 _ _ _ Z (lv_sub hl [0, 1, 2, 3] rfl) h
              · have h := if_f c25 h
                refine lv_aload_n hx hb dX11_putGone_158 rfl (lv_at hl 0 rfl) ?_
                refine lv_iload_n hx hb dX11_putGone_159 rfl (lv_at hl 3 rfl) ?_
                refine lv_iload_n hx hb dX11_putGone_160 rfl (lv_at hl 2 rfl) ?_
                obtain ⟨M27, hc26, h⟩ := o1_e h
                refine g_Vv (As := [.int x4, .int a2]) (rest := []) S X Z mlv_o rfl rfl (t_X11_drop l D dA A hJ  hc26) (cwV 2 hts (mGV (mB 206 rfl) (mB 207 rfl) (mB 208 rfl) (mB 63 rfl) (mB 103 rfl)) rfl rfl rfl (by decide +kernel) ⟨Nat.le_of_ble_eq_true rfl, Nat.le_of_ble_eq_true rfl⟩) rfl hl.1 rfl (Nat.le_of_ble_eq_true rfl) dX11_putGone_161 ⟨Nat.zero_le _, Nat.zero_le _⟩ (fun H locs Z => ?_)
                exact hJ164 M27 _ _ _ Z (lv_sub hl [0, 1, 2, 3] rfl) h
            have hL101 : ∀ (n : Nat) (x28 : Int32) (x29 : Int32) (M30 : gM) (H : Heap) (locs : List Loc) (ls : Array Slot), gZ D mLay dA mLive A (gA mLive A) s.heap M30 H locs → lv_has ls 7 [(0, .ref (A m_o)), (1, .int a1), (2, .int a2), (3, .int x4), (5, .int x28), (6, .int x29)] → f_X11_putGone_L101 a1 a2 x4 J153 J174 J180 n x28 x29 M30 = some y → W p l e (headSpec wmX11_putGone ({ frames := 2, cells := 0, slots := 0, locals := 47 } : Room)).room s m args below meth c H locs 0 0 (MQ below (mQv D dA A y) args s 0 0 (gA mLive A)) (F0 m 101 ls []) := by
              intro n
              induction n with
              | zero =>
                intro x28 x29 M30 H locs ls Z hl h
                rw [f_X11_putGone_L101] at h
                cases h
              | succ n31 ih101 =>
                intro x28 x29 M30 H locs ls Z hl h
                rw [f_X11_putGone_L101] at h
                refine lv_iload hx hb dX11_putGone_101 (lv_at hl 5 rfl) ?_
                refine lv_aload_n hx hb dX11_putGone_103 rfl (lv_at hl 0 rfl) ?_
                refine mr_made S X Z hin hl_162 dX11_putGone_104 h (fun v32 h => ?_)
                refine lv_icmp_ge (tgt := 153) hx hb dX11_putGone_107 (by decide) (fun c33 => ?_) (fun c33 => ?_)
                · have h := if_t c33 h
                  exact hJ153 x28 M30 _ _ _ Z (lv_sub hl [0, 1, 2, 3, 4] rfl) h
                · have h := if_f c33 h
                  refine lv_iload hx hb dX11_putGone_110 (lv_at hl 4 rfl) ?_
                  obtain ⟨J145, eJ145, h⟩ := jn_e h
                  have hJ145 : ∀ (b34 : Int32) (M35 : gM) (H : Heap) (locs : List Loc) (ls : Array Slot), gZ D mLay dA mLive A (gA mLive A) s.heap M35 H locs → lv_has ls 7 [(0, .ref (A m_o)), (1, .int a1), (2, .int a2), (3, .int x4), (6, .int x29)] → J145 (b34, M35) = some y → W p l e (headSpec wmX11_putGone ({ frames := 2, cells := 0, slots := 0, locals := 47 } : Room)).room s m args below meth c H locs 0 0 (MQ below (mQv D dA A y) args s 0 0 (gA mLive A)) (F0 m 145 ls [.int b34]) := by
                    intro b34 M35 H locs ls Z hl h
                    rw [eJ145] at h
                    try dsimp only at h
                    refine lv_istore (lv' := [(5, .int b34), (0, .ref (A m_o)), (1, .int a1), (2, .int a2), (3, .int x4), (6, .int x29)]) hx hb dX11_putGone_145 hl (by decide) rfl (fun ls hl => ?_)
                    obtain ⟨x36, ex36, h⟩ := lt_e h
                    refine lv_iinc (v := x36) (lv' := [(6, .int x36), (5, .int b34), (0, .ref (A m_o)), (1, .int a1), (2, .int a2), (3, .int x4)]) hx hb dX11_putGone_147 hl (k := 5) rfl (by rw [ex36]; rfl) (by decide) rfl (fun ls hl => ?_)
                    refine lv_goto (tgt := 101) hx hb dX11_putGone_150 (by decide) ?_
                    exact ih101 b34 x36 M35 _ _ _ Z (lv_sub hl [2, 3, 4, 5, 1, 0] rfl) h
                  obtain ⟨J144, eJ144, h⟩ := jn_e h
                  have hJ144 : ∀ (M37 : gM) (H : Heap) (locs : List Loc) (ls : Array Slot), gZ D mLay dA mLive A (gA mLive A) s.heap M37 H locs → lv_has ls 7 [(0, .ref (A m_o)), (1, .int a1), (2, .int a2), (3, .int x4), (6, .int x29)] → J144 M37 = some y → W p l e (headSpec wmX11_putGone ({ frames := 2, cells := 0, slots := 0, locals := 47 } : Room)).room s m args below meth c H locs 0 0 (MQ below (mQv D dA A y) args s 0 0 (gA mLive A)) (F0 m 144 ls []) := by
                    intro M37 H locs ls Z hl h
                    rw [eJ144] at h
                    try dsimp only at h
                    refine lv_iconst (v := (0 : Int32)) hx hb dX11_putGone_144 (by decide) ?_
                    exact hJ145 (0 : Int32) M37 _ _ _ Z (lv_sub hl [0, 1, 2, 3, 4] rfl) h
                  refine lv_if_eq (tgt := 144) hx hb dX11_putGone_112 (by decide) (fun c38 => ?_) (fun c38 => ?_)
                  · have h := if_t c38 h
                    exact hJ144 M30 _ _ _ Z (lv_sub hl [0, 1, 2, 3, 5] rfl) h
                  · have h := if_f c38 h
                    refine lv_aload_n hx hb dX11_putGone_115 rfl (lv_at hl 0 rfl) ?_
                    refine lv_iload hx hb dX11_putGone_116 (lv_at hl 5 rfl) ?_
                    refine lv_iload_n hx hb dX11_putGone_118 rfl (lv_at hl 2 rfl) ?_
                    obtain ⟨v40, hc39, h⟩ := o1_e h
                    refine g_Vi (As := [.int x29, .int a2]) (rest := []) S X Z mlv_o rfl rfl (t_X11_isChild l D dA A hJ  hc39) (cwV 2 hts (mGV (mB 104 rfl) (mB 105 rfl) (mB 106 rfl) (mB 63 rfl) (mB 102 rfl)) rfl rfl rfl (by decide +kernel) ⟨Nat.le_of_ble_eq_true rfl, Nat.le_of_ble_eq_true rfl⟩) rfl hl.1 rfl (Nat.le_of_ble_eq_true rfl) dX11_putGone_119 ⟨Nat.zero_le _, Nat.zero_le _⟩ (fun H locs Z => ?_)
                    obtain ⟨J140, eJ140, h⟩ := jn_e h
                    have hJ140 : ∀ (M41 : gM) (H : Heap) (locs : List Loc) (ls : Array Slot), gZ D mLay dA mLive A (gA mLive A) s.heap M41 H locs → lv_has ls 7 [(0, .ref (A m_o)), (1, .int a1), (2, .int a2), (3, .int x4), (6, .int x29)] → J140 M41 = some y → W p l e (headSpec wmX11_putGone ({ frames := 2, cells := 0, slots := 0, locals := 47 } : Room)).room s m args below meth c H locs 0 0 (MQ below (mQv D dA A y) args s 0 0 (gA mLive A)) (F0 m 140 ls []) := by
                      intro M41 H locs ls Z hl h
                      rw [eJ140] at h
                      try dsimp only at h
                      refine lv_iconst (v := (1 : Int32)) hx hb dX11_putGone_140 (by decide) ?_
                      refine lv_goto (tgt := 145) hx hb dX11_putGone_141 (by decide) ?_
                      exact hJ145 (1 : Int32) M41 _ _ _ Z (lv_sub hl [0, 1, 2, 3, 4] rfl) h
                    refine lv_if_eq (tgt := 140) hx hb dX11_putGone_122 (by decide) (fun c42 => ?_) (fun c42 => ?_)
                    · have h := if_t c42 h
                      exact hJ140 M30 _ _ _ Z (lv_sub hl [0, 1, 2, 3, 5] rfl) h
                    · have h := if_f c42 h
                      refine lv_aload_n hx hb dX11_putGone_125 rfl (lv_at hl 0 rfl) ?_
                      refine mr_has S X Z hin hl_32 dX11_putGone_126 ?_
                      refine lv_bipush (v := (48 : Int32)) hx hb dX11_putGone_129 (by decide) ?_
                      refine lv_iload_n hx hb dX11_putGone_131 rfl (lv_at hl 3 rfl) ?_
                      refine lv_imul hx hb dX11_putGone_132 ?_
                      refine lv_iload hx hb dX11_putGone_133 (lv_at hl 5 rfl) ?_
                      refine lv_iadd hx hb dX11_putGone_135 ?_
                      refine g_zald S X Z ml_has rfl dX11_putGone_136 h (fun v43 h => ?_)
                      refine lv_if_ne (tgt := 144) hx hb dX11_putGone_137 (by decide) (fun c44 => ?_) (fun c44 => ?_)
                      · have h := if_f c44 h
                        exact hJ144 M30 _ _ _ Z (lv_sub hl [0, 1, 2, 3, 5] rfl) h
                      · have h := if_t c44 h
                        exact hJ140 M30 _ _ _ Z (lv_sub hl [0, 1, 2, 3, 5] rfl) h
            exact hL101 100 b18 (1 : Int32) M19 _ _ _ Z (lv_sub hl [2, 3, 4, 5, 1, 0] rfl) h
          obtain ⟨J95, eJ95, h⟩ := jn_e h
          have hJ95 : ∀ (M45 : gM) (H : Heap) (locs : List Loc) (ls : Array Slot), gZ D mLay dA mLive A (gA mLive A) s.heap M45 H locs → lv_has ls 7 [(0, .ref (A m_o)), (1, .int a1), (2, .int a2), (3, .int x4)] → J95 M45 = some y → W p l e (headSpec wmX11_putGone ({ frames := 2, cells := 0, slots := 0, locals := 47 } : Room)).room s m args below meth c H locs 0 0 (MQ below (mQv D dA A y) args s 0 0 (gA mLive A)) (F0 m 95 ls []) := by
            intro M45 H locs ls Z hl h
            rw [eJ95] at h
            try dsimp only at h
            refine lv_iconst (v := (0 : Int32)) hx hb dX11_putGone_95 (by decide) ?_
            exact hJ96 (0 : Int32) M45 _ _ _ Z (lv_sub hl [0, 1, 2, 3] rfl) h
          refine lv_if_eq (tgt := 95) hx hb dX11_putGone_60 (by decide) (fun c46 => ?_) (fun c46 => ?_)
          · have h := if_t c46 h
            exact hJ95 M16 _ _ _ Z (lv_sub hl [1, 2, 3, 4] rfl) h
          · have h := if_f c46 h
            refine lv_aload_n hx hb dX11_putGone_63 rfl (lv_at hl 1 rfl) ?_
            refine mr_versions S X Z hin hl_44 dX11_putGone_64 ?_
            refine lv_iload hx hb dX11_putGone_67 (lv_at hl 0 rfl) ?_
            refine g_iald S X Z ml_versions rfl dX11_putGone_69 h (fun v47 h => ?_)
            refine lv_if_ne (tgt := 95) hx hb dX11_putGone_70 (by decide) (fun c48 => ?_) (fun c48 => ?_)
            · have h := if_f c48 h
              exact hJ95 M16 _ _ _ Z (lv_sub hl [1, 2, 3, 4] rfl) h
            · have h := if_t c48 h
              refine lv_aload_n hx hb dX11_putGone_73 rfl (lv_at hl 1 rfl) ?_
              refine lv_aload_n hx hb dX11_putGone_74 rfl (lv_at hl 1 rfl) ?_
              refine mr_vector S X Z hin hl_41 dX11_putGone_75 ?_
              refine lv_iload hx hb dX11_putGone_78 (lv_at hl 0 rfl) ?_
              refine lv_aload_n hx hb dX11_putGone_80 rfl (lv_at hl 1 rfl) ?_
              refine mr_row S X Z hin hl_125 dX11_putGone_81 ?_
              refine lv_iconst (v := (0 : Int32)) hx hb dX11_putGone_84 (by decide) ?_
              obtain ⟨v50, hc49, h⟩ := o1_e h
              refine g_Vi (As := [.ref (A m_vector), .int x13, .ref (A m_row), .int (0 : Int32)]) (rest := []) S X Z mlv_o rfl rfl (t_X11_isAtMost l D dA A hJ ⟨ml_vector, rfl⟩ ⟨ml_row, rfl⟩ hc49) (cwV 4 hts (mGV (mB 143 rfl) (mB 144 rfl) (mB 145 rfl) (mB 63 rfl) (mB 95 rfl)) rfl rfl rfl (by decide +kernel) ⟨Nat.le_of_ble_eq_true rfl, Nat.le_of_ble_eq_true rfl⟩) rfl hl.1 rfl (Nat.le_of_ble_eq_true rfl) dX11_putGone_85 ⟨Nat.zero_le _, Nat.zero_le _⟩ (fun H locs Z => ?_)
              refine lv_if_eq (tgt := 95) hx hb dX11_putGone_88 (by decide) (fun c51 => ?_) (fun c51 => ?_)
              · have h := if_t c51 h
                exact hJ95 M16 _ _ _ Z (lv_sub hl [1, 2, 3, 4] rfl) h
              · have h := if_f c51 h
                refine lv_iconst (v := (1 : Int32)) hx hb dX11_putGone_91 (by decide) ?_
                refine lv_goto (tgt := 96) hx hb dX11_putGone_92 (by decide) ?_
                exact hJ96 (1 : Int32) M16 _ _ _ Z (lv_sub hl [1, 2, 3, 4] rfl) h
  exact hL2 100 (0 : Int32) M _ _ _ Z (lv_sub hl [1, 2, 3, 0] rfl) h
