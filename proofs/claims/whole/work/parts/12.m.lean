-- X11_takeKept (II)V: 47 instructions
theorem dX11_takeKept_0 : decode cX11_takeKept 0 = .ok (.bipush 48, 2) := by decide +kernel
theorem dX11_takeKept_2 : decode cX11_takeKept 2 = .ok (.iload_n 1, 1) := by decide +kernel
theorem dX11_takeKept_3 : decode cX11_takeKept 3 = .ok (.imul, 1) := by decide +kernel
theorem dX11_takeKept_4 : decode cX11_takeKept 4 = .ok (.iload_n 2, 1) := by decide +kernel
theorem dX11_takeKept_5 : decode cX11_takeKept 5 = .ok (.iadd, 1) := by decide +kernel
theorem dX11_takeKept_6 : decode cX11_takeKept 6 = .ok (.istore_n 3, 1) := by decide +kernel
theorem dX11_takeKept_7 : decode cX11_takeKept 7 = .ok (.aload_n 0, 1) := by decide +kernel
theorem dX11_takeKept_8 : decode cX11_takeKept 8 = .ok (.aload_n 0, 1) := by decide +kernel
theorem dX11_takeKept_9 : decode cX11_takeKept 9 = .ok (.getfield 68, 3) := by decide +kernel
theorem dX11_takeKept_12 : decode cX11_takeKept 12 = .ok (.iload_n 3, 1) := by decide +kernel
theorem dX11_takeKept_13 : decode cX11_takeKept 13 = .ok (.iaload, 1) := by decide +kernel
theorem dX11_takeKept_14 : decode cX11_takeKept 14 = .ok (.putfield 231, 3) := by decide +kernel
theorem dX11_takeKept_17 : decode cX11_takeKept 17 = .ok (.aload_n 0, 1) := by decide +kernel
theorem dX11_takeKept_18 : decode cX11_takeKept 18 = .ok (.aload_n 0, 1) := by decide +kernel
theorem dX11_takeKept_19 : decode cX11_takeKept 19 = .ok (.getfield 74, 3) := by decide +kernel
theorem dX11_takeKept_22 : decode cX11_takeKept 22 = .ok (.iload_n 3, 1) := by decide +kernel
theorem dX11_takeKept_23 : decode cX11_takeKept 23 = .ok (.aload_n 0, 1) := by decide +kernel
theorem dX11_takeKept_24 : decode cX11_takeKept 24 = .ok (.getfield 116, 3) := by decide +kernel
theorem dX11_takeKept_27 : decode cX11_takeKept 27 = .ok (.iconst 0, 1) := by decide +kernel
theorem dX11_takeKept_28 : decode cX11_takeKept 28 = .ok (.invokevirtual 234, 3) := by decide +kernel
theorem dX11_takeKept_31 : decode cX11_takeKept 31 = .ok (.iconst 0, 1) := by decide +kernel
theorem dX11_takeKept_32 : decode cX11_takeKept 32 = .ok (.istore 4, 2) := by decide +kernel
theorem dX11_takeKept_34 : decode cX11_takeKept 34 = .ok (.iload 4, 2) := by decide +kernel
theorem dX11_takeKept_36 : decode cX11_takeKept 36 = .ok (.bipush 48, 2) := by decide +kernel
theorem dX11_takeKept_38 : decode cX11_takeKept 38 = .ok (.if_icmp .ge 42, 3) := by decide +kernel
theorem dX11_takeKept_41 : decode cX11_takeKept 41 = .ok (.aload_n 0, 1) := by decide +kernel
theorem dX11_takeKept_42 : decode cX11_takeKept 42 = .ok (.getfield 119, 3) := by decide +kernel
theorem dX11_takeKept_45 : decode cX11_takeKept 45 = .ok (.iload 4, 2) := by decide +kernel
theorem dX11_takeKept_47 : decode cX11_takeKept 47 = .ok (.aload_n 0, 1) := by decide +kernel
theorem dX11_takeKept_48 : decode cX11_takeKept 48 = .ok (.iload 4, 2) := by decide +kernel
theorem dX11_takeKept_50 : decode cX11_takeKept 50 = .ok (.iload_n 2, 1) := by decide +kernel
theorem dX11_takeKept_51 : decode cX11_takeKept 51 = .ok (.invokevirtual 197, 3) := by decide +kernel
theorem dX11_takeKept_54 : decode cX11_takeKept 54 = .ok (.ifCond .eq 18, 3) := by decide +kernel
theorem dX11_takeKept_57 : decode cX11_takeKept 57 = .ok (.aload_n 0, 1) := by decide +kernel
theorem dX11_takeKept_58 : decode cX11_takeKept 58 = .ok (.getfield 89, 3) := by decide +kernel
theorem dX11_takeKept_61 : decode cX11_takeKept 61 = .ok (.bipush 48, 2) := by decide +kernel
theorem dX11_takeKept_63 : decode cX11_takeKept 63 = .ok (.iload_n 1, 1) := by decide +kernel
theorem dX11_takeKept_64 : decode cX11_takeKept 64 = .ok (.imul, 1) := by decide +kernel
theorem dX11_takeKept_65 : decode cX11_takeKept 65 = .ok (.iload 4, 2) := by decide +kernel
theorem dX11_takeKept_67 : decode cX11_takeKept 67 = .ok (.iadd, 1) := by decide +kernel
theorem dX11_takeKept_68 : decode cX11_takeKept 68 = .ok (.iaload, 1) := by decide +kernel
theorem dX11_takeKept_69 : decode cX11_takeKept 69 = .ok (.goto 4, 3) := by decide +kernel
theorem dX11_takeKept_72 : decode cX11_takeKept 72 = .ok (.iconst 0, 1) := by decide +kernel
theorem dX11_takeKept_73 : decode cX11_takeKept 73 = .ok (.iastore, 1) := by decide +kernel
theorem dX11_takeKept_74 : decode cX11_takeKept 74 = .ok (.iinc 4 1, 3) := by decide +kernel
theorem dX11_takeKept_77 : decode cX11_takeKept 77 = .ok (.goto (-43), 3) := by decide +kernel
theorem dX11_takeKept_80 : decode cX11_takeKept 80 = .ok (.return_, 1) := by decide +kernel
abbrev wmX11_takeKept : List Cond := .code yX11_takeKept cX11_takeKept 5 none :: mBig
def f_X11_takeKept_L34 (a1 : Int32) (a2 : Int32) : Nat → Int32 → gM → Option gM
  | 0, _, _ => none
  | n8 + 1, x6, M7 => (if (48 : Int32) ≤ x6 then some M7 else o1 (f_X11_isChild M7 x6 a2) (fun v11 => jn (fun (q : (Int32 × gM)) => match q with | (b12, M13) => wr M13 m_gotEntry 48 x6 b12 (fun M14 => lt (x6 + 1) (fun x15 => f_X11_takeKept_L34 a1 a2 n8 x15 M14))) (fun J73 => (if v11 = 0 then J73 ((0 : Int32), M7) else rd M7 m_keptEntry 192 (((48 : Int32) * a1) + x6) (fun v17 => J73 (v17, M7))))))
def f_X11_takeKept (M : gM) (a1 : Int32) (a2 : Int32) : Option gM :=
  lt ((((48 : Int32) * a1) + a2)) (fun x1 => rd M m_keptValue 192 x1 (fun v2 => lt (gset M m_o 42 v2) (fun M3 => o1 (f_X11_copyTo M3 m_keptVector x1 m_gotVector (0 : Int32)) (fun M5 => f_X11_takeKept_L34 a1 a2 100 (0 : Int32) M5))))
set_option maxHeartbeats 4000000 in
set_option maxRecDepth 100000 in
theorem t_X11_takeKept (l : Launch) (D : va_G) (dA : Nat → ClassId) (A : gI → Nat) (hJ : gJ mLive A) {M : gM} {a1 : Int32} {a2 : Int32}  {y : gM} (h : f_X11_takeKept M a1 a2 = some y) : mMv l yX11_takeKept wmX11_takeKept ({ frames := 1, cells := 0, slots := 0, locals := 25 } : Room) D dA A [.ref (A m_o), .int a1, .int a2] M y := by
  refine Met.ofW (cc := cX11_takeKept) (maxL := 5) (ret := none) (by decide) rfl ?_
  intro p e s m args below meth c s₁ B hml hv
  obtain ⟨rfl, hP, hK⟩ := hv
  generalize hargs : ([.ref (A m_o), .int a1, .int a2] : List Value).toArray = args at B ⊢
  have S : CallFix p m c cX11_takeKept 5 s args wmX11_takeKept RX11 := ⟨B.exec, B.bytes, hml, findClass_of_methodNamed B.named, atoms_spec (ws := wmX11_takeKept) B.pre⟩
  obtain ⟨hx, hb, -, hown, hts⟩ := id S
  have hr := B.returns
  have hlocks := B.notSynchronized
  have X : gX D vwCl dA mLive A (gA mLive A) s := ⟨hK, hJ, fun i hi => ⟨i, hi, rfl⟩⟩
  have Z : gZ D mLay dA mLive A (gA mLive A) s.heap M s.heap [] := ⟨hP, va_S.rf⟩
  have hin : ∀ w ∈ wsX110, w ∈ wmX11_takeKept := m_in
  have hl_68 := hts (.fieldLink RX11 68 "ReplicaFilesModel" "keptValue" "[I") (mBc 24 rfl)
  have hl_74 := hts (.fieldLink RX11 74 "ReplicaFilesModel" "keptVector" "[I") (mBc 26 rfl)
  have hl_89 := hts (.fieldLink RX11 89 "ReplicaFilesModel" "keptEntry" "[I") (mBc 31 rfl)
  have hl_116 := hts (.fieldLink RX11 116 "ReplicaFilesModel" "gotVector" "[I") (mBc 40 rfl)
  have hl_119 := hts (.fieldLink RX11 119 "ReplicaFilesModel" "gotEntry" "[I") (mBc 41 rfl)
  have hl_231 := hts (.fieldLink RX11 231 "ReplicaFilesModel" "gotValue" "I") (mBc 138 rfl)
  have hl := lv_entry ([.ref (A m_o), .int a1, .int a2]) (n := 5) (Nat.le_of_ble_eq_true rfl)
  rw [← hargs, lg_entry_eq, hargs]
  generalize (lg_sl ([.ref (A m_o), .int a1, .int a2]) ++ List.replicate (5 - (lg_sl ([.ref (A m_o), .int a1, .int a2])).length) Slot.unset).toArray = ls at hl ⊢
  have hl : lv_has ls 5 [(0, .ref (A m_o)), (1, .int a1), (2, .int a2)] := hl
  unfold f_X11_takeKept at h
  refine lv_bipush (v := (48 : Int32)) hx hb dX11_takeKept_0 (by decide) ?_
  refine lv_iload_n hx hb dX11_takeKept_2 rfl (lv_at hl 1 rfl) ?_
  refine lv_imul hx hb dX11_takeKept_3 ?_
  refine lv_iload_n hx hb dX11_takeKept_4 rfl (lv_at hl 2 rfl) ?_
  refine lv_iadd hx hb dX11_takeKept_5 ?_
  refine g_topi h (fun x1 h => ?_)
  refine lv_istore_n (lv' := [(3, .int x1), (0, .ref (A m_o)), (1, .int a1), (2, .int a2)]) hx hb dX11_takeKept_6 rfl hl (by decide) rfl (fun ls hl => ?_)
  refine lv_aload_n hx hb dX11_takeKept_7 rfl (lv_at hl 1 rfl) ?_
  refine lv_aload_n hx hb dX11_takeKept_8 rfl (lv_at hl 1 rfl) ?_
  refine mr_keptValue S X Z hin hl_68 dX11_takeKept_9 ?_
  refine lv_iload_n hx hb dX11_takeKept_12 rfl (lv_at hl 0 rfl) ?_
  refine g_iald S X Z ml_keptValue rfl dX11_takeKept_13 h (fun v2 h => ?_)
  refine mp_gotValue S X Z hin hl_231 dX11_takeKept_14 h (fun M3 H locs Z h => ?_)
  refine lv_aload_n hx hb dX11_takeKept_17 rfl (lv_at hl 1 rfl) ?_
  refine lv_aload_n hx hb dX11_takeKept_18 rfl (lv_at hl 1 rfl) ?_
  refine mr_keptVector S X Z hin hl_74 dX11_takeKept_19 ?_
  refine lv_iload_n hx hb dX11_takeKept_22 rfl (lv_at hl 0 rfl) ?_
  refine lv_aload_n hx hb dX11_takeKept_23 rfl (lv_at hl 1 rfl) ?_
  refine mr_gotVector S X Z hin hl_116 dX11_takeKept_24 ?_
  refine lv_iconst (v := (0 : Int32)) hx hb dX11_takeKept_27 (by decide) ?_
  obtain ⟨M5, hc4, h⟩ := o1_e h
  refine g_Vv (As := [.ref (A m_keptVector), .int x1, .ref (A m_gotVector), .int (0 : Int32)]) (rest := []) S X Z mlv_o rfl rfl (t_X11_copyTo l D dA A hJ ⟨ml_keptVector, rfl⟩ ⟨ml_gotVector, rfl⟩ hc4) (cwV 4 hts (mGV (mB 139 rfl) (mB 140 rfl) (mB 141 rfl) (mB 63 rfl) (mB 97 rfl)) rfl rfl rfl (by decide +kernel) ⟨Nat.le_of_ble_eq_true rfl, Nat.le_of_ble_eq_true rfl⟩) rfl hl.1 rfl (Nat.le_of_ble_eq_true rfl) dX11_takeKept_28 ⟨Nat.zero_le _, Nat.zero_le _⟩ (fun H locs Z => ?_)
  refine lv_iconst (v := (0 : Int32)) hx hb dX11_takeKept_31 (by decide) ?_
  refine lv_istore (lv' := [(4, .int (0 : Int32)), (3, .int x1), (0, .ref (A m_o)), (1, .int a1), (2, .int a2)]) hx hb dX11_takeKept_32 hl (by decide) rfl (fun ls hl => ?_)
  have hL34 : ∀ (n : Nat) (x6 : Int32) (M7 : gM) (H : Heap) (locs : List Loc) (ls : Array Slot), gZ D mLay dA mLive A (gA mLive A) s.heap M7 H locs → lv_has ls 5 [(0, .ref (A m_o)), (1, .int a1), (2, .int a2), (4, .int x6)] → f_X11_takeKept_L34 a1 a2 n x6 M7 = some y → W p l e (headSpec wmX11_takeKept ({ frames := 1, cells := 0, slots := 0, locals := 25 } : Room)).room s m args below meth c H locs 0 0 (MQ below (mQv D dA A y) args s 0 0 (gA mLive A)) (F0 m 34 ls []) := by
    intro n
    induction n with
    | zero =>
      intro x6 M7 H locs ls Z hl h
      rw [f_X11_takeKept_L34] at h
      cases h
    | succ n8 ih34 =>
      intro x6 M7 H locs ls Z hl h
      rw [f_X11_takeKept_L34] at h
      refine lv_iload hx hb dX11_takeKept_34 (lv_at hl 3 rfl) ?_
      refine lv_bipush (v := (48 : Int32)) hx hb dX11_takeKept_36 (by decide) ?_
      refine lv_icmp_ge (tgt := 80) hx hb dX11_takeKept_38 (by decide) (fun c9 => ?_) (fun c9 => ?_)
      · have h := if_t c9 h
        have hy := Option.some.inj h
        subst hy
        exact g_rv S Z hr hlocks dX11_takeKept_80
      · have h := if_f c9 h
        refine lv_aload_n hx hb dX11_takeKept_41 rfl (lv_at hl 0 rfl) ?_
        refine mr_gotEntry S X Z hin hl_119 dX11_takeKept_42 ?_
        refine lv_iload hx hb dX11_takeKept_45 (lv_at hl 3 rfl) ?_
        refine lv_aload_n hx hb dX11_takeKept_47 rfl (lv_at hl 0 rfl) ?_
        refine lv_iload hx hb dX11_takeKept_48 (lv_at hl 3 rfl) ?_
        refine lv_iload_n hx hb dX11_takeKept_50 rfl (lv_at hl 2 rfl) ?_
        obtain ⟨v11, hc10, h⟩ := o1_e h
        refine g_Vi (As := [.int x6, .int a2]) (rest := [.int x6, .ref (A m_gotEntry)]) S X Z mlv_o rfl rfl (t_X11_isChild l D dA A hJ  hc10) (cwV 2 hts (mGV (mB 104 rfl) (mB 105 rfl) (mB 106 rfl) (mB 63 rfl) (mB 102 rfl)) rfl rfl rfl (by decide +kernel) ⟨Nat.le_of_ble_eq_true rfl, Nat.le_of_ble_eq_true rfl⟩) rfl hl.1 rfl (Nat.le_of_ble_eq_true rfl) dX11_takeKept_51 ⟨Nat.zero_le _, Nat.zero_le _⟩ (fun H locs Z => ?_)
        obtain ⟨J73, eJ73, h⟩ := jn_e h
        have hJ73 : ∀ (b12 : Int32) (M13 : gM) (H : Heap) (locs : List Loc) (ls : Array Slot), gZ D mLay dA mLive A (gA mLive A) s.heap M13 H locs → lv_has ls 5 [(0, .ref (A m_o)), (1, .int a1), (2, .int a2), (4, .int x6)] → J73 (b12, M13) = some y → W p l e (headSpec wmX11_takeKept ({ frames := 1, cells := 0, slots := 0, locals := 25 } : Room)).room s m args below meth c H locs 0 0 (MQ below (mQv D dA A y) args s 0 0 (gA mLive A)) (F0 m 73 ls [.int b12, .int x6, .ref (A m_gotEntry)]) := by
          intro b12 M13 H locs ls Z hl h
          rw [eJ73] at h
          try dsimp only at h
          refine g_iast S X Z ml_gotEntry rfl dX11_takeKept_73 h (fun M14 H locs Z h => ?_)
          obtain ⟨x15, ex15, h⟩ := lt_e h
          refine lv_iinc (v := x15) (lv' := [(4, .int x15), (0, .ref (A m_o)), (1, .int a1), (2, .int a2)]) hx hb dX11_takeKept_74 hl (k := 3) rfl (by rw [ex15]; rfl) (by decide) rfl (fun ls hl => ?_)
          refine lv_goto (tgt := 34) hx hb dX11_takeKept_77 (by decide) ?_
          exact ih34 x15 M14 _ _ _ Z (lv_sub hl [1, 2, 3, 0] rfl) h
        refine lv_if_eq (tgt := 72) hx hb dX11_takeKept_54 (by decide) (fun c16 => ?_) (fun c16 => ?_)
        · have h := if_t c16 h
          refine lv_iconst (v := (0 : Int32)) hx hb dX11_takeKept_72 (by decide) ?_
          exact hJ73 (0 : Int32) M7 _ _ _ Z (lv_sub hl [0, 1, 2, 3] rfl) h
        · have h := if_f c16 h
          refine lv_aload_n hx hb dX11_takeKept_57 rfl (lv_at hl 0 rfl) ?_
          refine mr_keptEntry S X Z hin hl_89 dX11_takeKept_58 ?_
          refine lv_bipush (v := (48 : Int32)) hx hb dX11_takeKept_61 (by decide) ?_
          refine lv_iload_n hx hb dX11_takeKept_63 rfl (lv_at hl 1 rfl) ?_
          refine lv_imul hx hb dX11_takeKept_64 ?_
          refine lv_iload hx hb dX11_takeKept_65 (lv_at hl 3 rfl) ?_
          refine lv_iadd hx hb dX11_takeKept_67 ?_
          refine g_iald S X Z ml_keptEntry rfl dX11_takeKept_68 h (fun v17 h => ?_)
          refine lv_goto (tgt := 73) hx hb dX11_takeKept_69 (by decide) ?_
          exact hJ73 v17 M7 _ _ _ Z (lv_sub hl [0, 1, 2, 3] rfl) h
  exact hL34 100 (0 : Int32) M5 _ _ _ Z (lv_sub hl [2, 3, 4, 0] rfl) h
-- X11_greatest (II)I: 62 instructions
theorem dX11_greatest_0 : decode cX11_greatest 0 = .ok (.iconst 0, 1) := by decide +kernel
theorem dX11_greatest_1 : decode cX11_greatest 1 = .ok (.istore_n 3, 1) := by decide +kernel
theorem dX11_greatest_2 : decode cX11_greatest 2 = .ok (.iload_n 3, 1) := by decide +kernel
theorem dX11_greatest_3 : decode cX11_greatest 3 = .ok (.aload_n 0, 1) := by decide +kernel
theorem dX11_greatest_4 : decode cX11_greatest 4 = .ok (.getfield 155, 3) := by decide +kernel
theorem dX11_greatest_7 : decode cX11_greatest 7 = .ok (.if_icmp .ge 99, 3) := by decide +kernel
theorem dX11_greatest_10 : decode cX11_greatest 10 = .ok (.iload_n 1, 1) := by decide +kernel
theorem dX11_greatest_11 : decode cX11_greatest 11 = .ok (.iload_n 3, 1) := by decide +kernel
theorem dX11_greatest_12 : decode cX11_greatest 12 = .ok (.ishr, 1) := by decide +kernel
theorem dX11_greatest_13 : decode cX11_greatest 13 = .ok (.iconst 1, 1) := by decide +kernel
theorem dX11_greatest_14 : decode cX11_greatest 14 = .ok (.iand, 1) := by decide +kernel
theorem dX11_greatest_15 : decode cX11_greatest 15 = .ok (.iconst 1, 1) := by decide +kernel
theorem dX11_greatest_16 : decode cX11_greatest 16 = .ok (.if_icmp .ne 7, 3) := by decide +kernel
theorem dX11_greatest_19 : decode cX11_greatest 19 = .ok (.iconst 1, 1) := by decide +kernel
theorem dX11_greatest_20 : decode cX11_greatest 20 = .ok (.goto 4, 3) := by decide +kernel
theorem dX11_greatest_23 : decode cX11_greatest 23 = .ok (.iconst 0, 1) := by decide +kernel
theorem dX11_greatest_24 : decode cX11_greatest 24 = .ok (.istore 4, 2) := by decide +kernel
theorem dX11_greatest_26 : decode cX11_greatest 26 = .ok (.iconst 0, 1) := by decide +kernel
theorem dX11_greatest_27 : decode cX11_greatest 27 = .ok (.istore 5, 2) := by decide +kernel
theorem dX11_greatest_29 : decode cX11_greatest 29 = .ok (.iload 5, 2) := by decide +kernel
theorem dX11_greatest_31 : decode cX11_greatest 31 = .ok (.aload_n 0, 1) := by decide +kernel
theorem dX11_greatest_32 : decode cX11_greatest 32 = .ok (.getfield 155, 3) := by decide +kernel
theorem dX11_greatest_35 : decode cX11_greatest 35 = .ok (.if_icmp .ge 58, 3) := by decide +kernel
theorem dX11_greatest_38 : decode cX11_greatest 38 = .ok (.iload 4, 2) := by decide +kernel
theorem dX11_greatest_40 : decode cX11_greatest 40 = .ok (.ifCond .eq 53, 3) := by decide +kernel
theorem dX11_greatest_43 : decode cX11_greatest 43 = .ok (.iload_n 1, 1) := by decide +kernel
theorem dX11_greatest_44 : decode cX11_greatest 44 = .ok (.iload 5, 2) := by decide +kernel
theorem dX11_greatest_46 : decode cX11_greatest 46 = .ok (.ishr, 1) := by decide +kernel
theorem dX11_greatest_47 : decode cX11_greatest 47 = .ok (.iconst 1, 1) := by decide +kernel
theorem dX11_greatest_48 : decode cX11_greatest 48 = .ok (.iand, 1) := by decide +kernel
theorem dX11_greatest_49 : decode cX11_greatest 49 = .ok (.ifCond .eq 31, 3) := by decide +kernel
theorem dX11_greatest_52 : decode cX11_greatest 52 = .ok (.aload_n 0, 1) := by decide +kernel
theorem dX11_greatest_53 : decode cX11_greatest 53 = .ok (.aload_n 0, 1) := by decide +kernel
theorem dX11_greatest_54 : decode cX11_greatest 54 = .ok (.getfield 41, 3) := by decide +kernel
theorem dX11_greatest_57 : decode cX11_greatest 57 = .ok (.bipush 48, 2) := by decide +kernel
theorem dX11_greatest_59 : decode cX11_greatest 59 = .ok (.iload 5, 2) := by decide +kernel
theorem dX11_greatest_61 : decode cX11_greatest 61 = .ok (.imul, 1) := by decide +kernel
theorem dX11_greatest_62 : decode cX11_greatest 62 = .ok (.iload_n 2, 1) := by decide +kernel
theorem dX11_greatest_63 : decode cX11_greatest 63 = .ok (.iadd, 1) := by decide +kernel
theorem dX11_greatest_64 : decode cX11_greatest 64 = .ok (.aload_n 0, 1) := by decide +kernel
theorem dX11_greatest_65 : decode cX11_greatest 65 = .ok (.getfield 41, 3) := by decide +kernel
theorem dX11_greatest_68 : decode cX11_greatest 68 = .ok (.bipush 48, 2) := by decide +kernel
theorem dX11_greatest_70 : decode cX11_greatest 70 = .ok (.iload_n 3, 1) := by decide +kernel
theorem dX11_greatest_71 : decode cX11_greatest 71 = .ok (.imul, 1) := by decide +kernel
theorem dX11_greatest_72 : decode cX11_greatest 72 = .ok (.iload_n 2, 1) := by decide +kernel
theorem dX11_greatest_73 : decode cX11_greatest 73 = .ok (.iadd, 1) := by decide +kernel
theorem dX11_greatest_74 : decode cX11_greatest 74 = .ok (.invokevirtual 265, 3) := by decide +kernel
theorem dX11_greatest_77 : decode cX11_greatest 77 = .ok (.ifCond .eq 7, 3) := by decide +kernel
theorem dX11_greatest_80 : decode cX11_greatest 80 = .ok (.iconst 1, 1) := by decide +kernel
theorem dX11_greatest_81 : decode cX11_greatest 81 = .ok (.goto 4, 3) := by decide +kernel
theorem dX11_greatest_84 : decode cX11_greatest 84 = .ok (.iconst 0, 1) := by decide +kernel
theorem dX11_greatest_85 : decode cX11_greatest 85 = .ok (.istore 4, 2) := by decide +kernel
theorem dX11_greatest_87 : decode cX11_greatest 87 = .ok (.iinc 5 1, 3) := by decide +kernel
theorem dX11_greatest_90 : decode cX11_greatest 90 = .ok (.goto (-61), 3) := by decide +kernel
theorem dX11_greatest_93 : decode cX11_greatest 93 = .ok (.iload 4, 2) := by decide +kernel
theorem dX11_greatest_95 : decode cX11_greatest 95 = .ok (.ifCond .eq 5, 3) := by decide +kernel
theorem dX11_greatest_98 : decode cX11_greatest 98 = .ok (.iload_n 3, 1) := by decide +kernel
theorem dX11_greatest_99 : decode cX11_greatest 99 = .ok (.ireturn, 1) := by decide +kernel
theorem dX11_greatest_100 : decode cX11_greatest 100 = .ok (.iinc 3 1, 3) := by decide +kernel
theorem dX11_greatest_103 : decode cX11_greatest 103 = .ok (.goto (-101), 3) := by decide +kernel
theorem dX11_greatest_106 : decode cX11_greatest 106 = .ok (.iconst (-1), 1) := by decide +kernel
theorem dX11_greatest_107 : decode cX11_greatest 107 = .ok (.ireturn, 1) := by decide +kernel
abbrev wmX11_greatest : List Cond := .code yX11_greatest cX11_greatest 6 (some .int) :: mBig
def f_X11_greatest_L29 (M12 : gM) (a1 : Int32) (a2 : Int32) (x1 : Int32) (J93 : Int32 → Option Int32) : Nat → Int32 → Int32 → Option Int32
  | 0, _, _ => none
  | n13 + 1, x10, x11 => lt (M12 m_o 0) (fun v14 => (if v14 ≤ x11 then J93 x10 else (if x10 = 0 then J93 x10 else jn (fun (b17 : Int32) => lt (x11 + 1) (fun x18 => f_X11_greatest_L29 M12 a1 a2 x1 J93 n13 b17 x18)) (fun J85 => jn (fun (_ : Unit) => J85 (1 : Int32)) (fun J80 => (if ((a1 >>> (x11 &&& 31)) &&& (1 : Int32)) = 0 then J80 () else o1 (f_X11_isAtMost M12 m_vector (((48 : Int32) * x11) + a2) m_vector (((48 : Int32) * x1) + a2)) (fun v21 => (if v21 = 0 then J85 (0 : Int32) else J80 ()))))))))
def f_X11_greatest_L2 (M2 : gM) (a1 : Int32) (a2 : Int32) : Nat → Int32 → Option Int32
  | 0, _ => none
  | n3 + 1, x1 => lt (M2 m_o 0) (fun v4 => (if v4 ≤ x1 then some (-1 : Int32) else jn (fun (b6 : Int32) => jn (fun (b7 : Int32) => (if b7 = 0 then lt (x1 + 1) (fun x9 => f_X11_greatest_L2 M2 a1 a2 n3 x9) else some x1)) (fun J93 => f_X11_greatest_L29 M2 a1 a2 x1 J93 100 b6 (0 : Int32))) (fun J24 => (if ((a1 >>> (x1 &&& 31)) &&& (1 : Int32)) = (1 : Int32) then J24 (1 : Int32) else J24 (0 : Int32)))))
def f_X11_greatest (M : gM) (a1 : Int32) (a2 : Int32) : Option Int32 :=
  f_X11_greatest_L2 M a1 a2 100 (0 : Int32)
set_option maxHeartbeats 4000000 in
set_option maxRecDepth 100000 in
theorem t_X11_greatest (l : Launch) (D : va_G) (dA : Nat → ClassId) (A : gI → Nat) (hJ : gJ mLive A) {M : gM} {a1 : Int32} {a2 : Int32}  {y : Int32} (h : f_X11_greatest M a1 a2 = some y) : mMi l yX11_greatest wmX11_greatest ({ frames := 1, cells := 0, slots := 0, locals := 25 } : Room) D dA A [.ref (A m_o), .int a1, .int a2] M y M := by
  refine Met.ofW (cc := cX11_greatest) (maxL := 6) (ret := (some .int)) (by decide) rfl ?_
  intro p e s m args below meth c s₁ B hml hv
  obtain ⟨rfl, hP, hK⟩ := hv
  generalize hargs : ([.ref (A m_o), .int a1, .int a2] : List Value).toArray = args at B ⊢
  have S : CallFix p m c cX11_greatest 6 s args wmX11_greatest RX11 := ⟨B.exec, B.bytes, hml, findClass_of_methodNamed B.named, atoms_spec (ws := wmX11_greatest) B.pre⟩
  obtain ⟨hx, hb, -, hown, hts⟩ := id S
  have hr := B.returns
  have hlocks := B.notSynchronized
  have X : gX D vwCl dA mLive A (gA mLive A) s := ⟨hK, hJ, fun i hi => ⟨i, hi, rfl⟩⟩
  have Z : gZ D mLay dA mLive A (gA mLive A) s.heap M s.heap [] := ⟨hP, va_S.rf⟩
  have hin : ∀ w ∈ wsX110, w ∈ wmX11_greatest := m_in
  have hl_41 := hts (.fieldLink RX11 41 "ReplicaFilesModel" "vector" "[I") (mBc 15 rfl)
  have hl_155 := hts (.fieldLink RX11 155 "ReplicaFilesModel" "servers" "I") (mBc 53 rfl)
  have hl := lv_entry ([.ref (A m_o), .int a1, .int a2]) (n := 6) (Nat.le_of_ble_eq_true rfl)
  rw [← hargs, lg_entry_eq, hargs]
  generalize (lg_sl ([.ref (A m_o), .int a1, .int a2]) ++ List.replicate (6 - (lg_sl ([.ref (A m_o), .int a1, .int a2])).length) Slot.unset).toArray = ls at hl ⊢
  have hl : lv_has ls 6 [(0, .ref (A m_o)), (1, .int a1), (2, .int a2)] := hl
  unfold f_X11_greatest at h
  refine lv_iconst (v := (0 : Int32)) hx hb dX11_greatest_0 (by decide) ?_
  refine lv_istore_n (lv' := [(3, .int (0 : Int32)), (0, .ref (A m_o)), (1, .int a1), (2, .int a2)]) hx hb dX11_greatest_1 rfl hl (by decide) rfl (fun ls hl => ?_)
  have hL2 : ∀ (n : Nat) (x1 : Int32) (H : Heap) (locs : List Loc) (ls : Array Slot), gZ D mLay dA mLive A (gA mLive A) s.heap M H locs → lv_has ls 6 [(0, .ref (A m_o)), (1, .int a1), (2, .int a2), (3, .int x1)] → f_X11_greatest_L2 M a1 a2 n x1 = some y → W p l e (headSpec wmX11_greatest ({ frames := 1, cells := 0, slots := 0, locals := 25 } : Room)).room s m args below meth c H locs 0 0 (MQ below (mQi D dA A (y, M)) args s 0 0 (gA mLive A)) (F0 m 2 ls []) := by
    intro n
    induction n with
    | zero =>
      intro x1 H locs ls Z hl h
      rw [f_X11_greatest_L2] at h
      cases h
    | succ n3 ih2 =>
      intro x1 H locs ls Z hl h
      rw [f_X11_greatest_L2] at h
      refine lv_iload_n hx hb dX11_greatest_2 rfl (lv_at hl 3 rfl) ?_
      refine lv_aload_n hx hb dX11_greatest_3 rfl (lv_at hl 0 rfl) ?_
      refine mr_servers S X Z hin hl_155 dX11_greatest_4 h (fun v4 h => ?_)
      refine lv_icmp_ge (tgt := 106) hx hb dX11_greatest_7 (by decide) (fun c5 => ?_) (fun c5 => ?_)
      · have h := if_t c5 h
        refine lv_iconst (v := (-1 : Int32)) hx hb dX11_greatest_106 (by decide) ?_
        have hy := Option.some.inj h
        subst hy
        exact g_ri S Z hr hlocks dX11_greatest_107
      · have h := if_f c5 h
        refine lv_iload_n hx hb dX11_greatest_10 rfl (lv_at hl 1 rfl) ?_
        refine lv_iload_n hx hb dX11_greatest_11 rfl (lv_at hl 3 rfl) ?_
        refine lv_ishr hx hb dX11_greatest_12 ?_
        refine lv_iconst (v := (1 : Int32)) hx hb dX11_greatest_13 (by decide) ?_
        refine lv_iand hx hb dX11_greatest_14 ?_
        refine lv_iconst (v := (1 : Int32)) hx hb dX11_greatest_15 (by decide) ?_
        obtain ⟨J24, eJ24, h⟩ := jn_e h
        have hJ24 : ∀ (b6 : Int32) (H : Heap) (locs : List Loc) (ls : Array Slot), gZ D mLay dA mLive A (gA mLive A) s.heap M H locs → lv_has ls 6 [(0, .ref (A m_o)), (1, .int a1), (2, .int a2), (3, .int x1)] → J24 b6 = some y → W p l e (headSpec wmX11_greatest ({ frames := 1, cells := 0, slots := 0, locals := 25 } : Room)).room s m args below meth c H locs 0 0 (MQ below (mQi D dA A (y, M)) args s 0 0 (gA mLive A)) (F0 m 24 ls [.int b6]) := by
          intro b6 H locs ls Z hl h
          rw [eJ24] at h
          try dsimp only at h
          refine lv_istore (lv' := [(4, .int b6), (0, .ref (A m_o)), (1, .int a1), (2, .int a2), (3, .int x1)]) hx hb dX11_greatest_24 hl (by decide) rfl (fun ls hl => ?_)
          refine lv_iconst (v := (0 : Int32)) hx hb dX11_greatest_26 (by decide) ?_
          refine lv_istore (lv' := [(5, .int (0 : Int32)), (4, .int b6), (0, .ref (A m_o)), (1, .int a1), (2, .int a2), (3, .int x1)]) hx hb dX11_greatest_27 hl (by decide) rfl (fun ls hl => ?_)
          obtain ⟨J93, eJ93, h⟩ := jn_e h
          have hJ93 : ∀ (b7 : Int32) (H : Heap) (locs : List Loc) (ls : Array Slot), gZ D mLay dA mLive A (gA mLive A) s.heap M H locs → lv_has ls 6 [(0, .ref (A m_o)), (1, .int a1), (2, .int a2), (3, .int x1), (4, .int b7)] → J93 b7 = some y → W p l e (headSpec wmX11_greatest ({ frames := 1, cells := 0, slots := 0, locals := 25 } : Room)).room s m args below meth c H locs 0 0 (MQ below (mQi D dA A (y, M)) args s 0 0 (gA mLive A)) (F0 m 93 ls []) := by
            intro b7 H locs ls Z hl h
            rw [eJ93] at h
            try dsimp only at h
            refine lv_iload hx hb dX11_greatest_93 (lv_at hl 4 rfl) ?_
            refine lv_if_eq (tgt := 100) hx hb dX11_greatest_95 (by decide) (fun c8 => ?_) (fun c8 => ?_)
            · have h := if_t c8 h
              obtain ⟨x9, ex9, h⟩ := lt_e h
              refine lv_iinc (v := x9) (lv' := [(3, .int x9), (0, .ref (A m_o)), (1, .int a1), (2, .int a2), (4, .int b7)]) hx hb dX11_greatest_100 hl (k := 3) rfl (by rw [ex9]; rfl) (by decide) rfl (fun ls hl => ?_)
              refine lv_goto (tgt := 2) hx hb dX11_greatest_103 (by decide) ?_
              exact ih2 x9 _ _ _ Z (lv_sub hl [1, 2, 3, 0] rfl) h
            · have h := if_f c8 h
              refine lv_iload_n hx hb dX11_greatest_98 rfl (lv_at hl 3 rfl) ?_
              have hy := Option.some.inj h
              subst hy
              exact g_ri S Z hr hlocks dX11_greatest_99
          have hL29 : ∀ (n : Nat) (x10 : Int32) (x11 : Int32) (H : Heap) (locs : List Loc) (ls : Array Slot), gZ D mLay dA mLive A (gA mLive A) s.heap M H locs → lv_has ls 6 [(0, .ref (A m_o)), (1, .int a1), (2, .int a2), (3, .int x1), (4, .int x10), (5, .int x11)] → f_X11_greatest_L29 M a1 a2 x1 J93 n x10 x11 = some y → W p l e (headSpec wmX11_greatest ({ frames := 1, cells := 0, slots := 0, locals := 25 } : Room)).room s m args below meth c H locs 0 0 (MQ below (mQi D dA A (y, M)) args s 0 0 (gA mLive A)) (F0 m 29 ls []) := by
            intro n
            induction n with
            | zero =>
              intro x10 x11 H locs ls Z hl h
              rw [f_X11_greatest_L29] at h
              cases h
            | succ n13 ih29 =>
              intro x10 x11 H locs ls Z hl h
              rw [f_X11_greatest_L29] at h
              refine lv_iload hx hb dX11_greatest_29 (lv_at hl 5 rfl) ?_
              refine lv_aload_n hx hb dX11_greatest_31 rfl (lv_at hl 0 rfl) ?_
              refine mr_servers S X Z hin hl_155 dX11_greatest_32 h (fun v14 h => ?_)
              refine lv_icmp_ge (tgt := 93) hx hb dX11_greatest_35 (by decide) (fun c15 => ?_) (fun c15 => ?_)
              · have h := if_t c15 h
                exact hJ93 x10 _ _ _ Z (lv_sub hl [0, 1, 2, 3, 4] rfl) h
              · have h := if_f c15 h
                refine lv_iload hx hb dX11_greatest_38 (lv_at hl 4 rfl) ?_
                refine lv_if_eq (tgt := 93) hx hb dX11_greatest_40 (by decide) (fun c16 => ?_) (fun c16 => ?_)
                · have h := if_t c16 h
                  exact hJ93 x10 _ _ _ Z (lv_sub hl [0, 1, 2, 3, 4] rfl) h
                · have h := if_f c16 h
                  refine lv_iload_n hx hb dX11_greatest_43 rfl (lv_at hl 1 rfl) ?_
                  refine lv_iload hx hb dX11_greatest_44 (lv_at hl 5 rfl) ?_
                  refine lv_ishr hx hb dX11_greatest_46 ?_
                  refine lv_iconst (v := (1 : Int32)) hx hb dX11_greatest_47 (by decide) ?_
                  refine lv_iand hx hb dX11_greatest_48 ?_
                  obtain ⟨J85, eJ85, h⟩ := jn_e h
                  have hJ85 : ∀ (b17 : Int32) (H : Heap) (locs : List Loc) (ls : Array Slot), gZ D mLay dA mLive A (gA mLive A) s.heap M H locs → lv_has ls 6 [(0, .ref (A m_o)), (1, .int a1), (2, .int a2), (3, .int x1), (5, .int x11)] → J85 b17 = some y → W p l e (headSpec wmX11_greatest ({ frames := 1, cells := 0, slots := 0, locals := 25 } : Room)).room s m args below meth c H locs 0 0 (MQ below (mQi D dA A (y, M)) args s 0 0 (gA mLive A)) (F0 m 85 ls [.int b17]) := by
                    intro b17 H locs ls Z hl h
                    rw [eJ85] at h
                    try dsimp only at h
                    refine lv_istore (lv' := [(4, .int b17), (0, .ref (A m_o)), (1, .int a1), (2, .int a2), (3, .int x1), (5, .int x11)]) hx hb dX11_greatest_85 hl (by decide) rfl (fun ls hl => ?_)
                    obtain ⟨x18, ex18, h⟩ := lt_e h
                    refine lv_iinc (v := x18) (lv' := [(5, .int x18), (4, .int b17), (0, .ref (A m_o)), (1, .int a1), (2, .int a2), (3, .int x1)]) hx hb dX11_greatest_87 hl (k := 5) rfl (by rw [ex18]; rfl) (by decide) rfl (fun ls hl => ?_)
                    refine lv_goto (tgt := 29) hx hb dX11_greatest_90 (by decide) ?_
                    exact ih29 b17 x18 _ _ _ Z (lv_sub hl [2, 3, 4, 5, 1, 0] rfl) h
                  obtain ⟨J80, eJ80, h⟩ := jn_e h
                  have hJ80 : ∀  (H : Heap) (locs : List Loc) (ls : Array Slot), gZ D mLay dA mLive A (gA mLive A) s.heap M H locs → lv_has ls 6 [(0, .ref (A m_o)), (1, .int a1), (2, .int a2), (3, .int x1), (5, .int x11)] → J80 () = some y → W p l e (headSpec wmX11_greatest ({ frames := 1, cells := 0, slots := 0, locals := 25 } : Room)).room s m args below meth c H locs 0 0 (MQ below (mQi D dA A (y, M)) args s 0 0 (gA mLive A)) (F0 m 80 ls []) := by
                    intro  H locs ls Z hl h
                    rw [eJ80] at h
                    try dsimp only at h
                    refine lv_iconst (v := (1 : Int32)) hx hb dX11_greatest_80 (by decide) ?_
                    refine lv_goto (tgt := 85) hx hb dX11_greatest_81 (by decide) ?_
                    exact hJ85 (1 : Int32) _ _ _ Z (lv_sub hl [0, 1, 2, 3, 4] rfl) h
                  refine lv_if_eq (tgt := 80) hx hb dX11_greatest_49 (by decide) (fun c19 => ?_) (fun c19 => ?_)
                  · have h := if_t c19 h
                    exact hJ80  _ _ _ Z (lv_sub hl [0, 1, 2, 3, 5] rfl) h
                  · have h := if_f c19 h
                    refine lv_aload_n hx hb dX11_greatest_52 rfl (lv_at hl 0 rfl) ?_
                    refine lv_aload_n hx hb dX11_greatest_53 rfl (lv_at hl 0 rfl) ?_
                    refine mr_vector S X Z hin hl_41 dX11_greatest_54 ?_
                    refine lv_bipush (v := (48 : Int32)) hx hb dX11_greatest_57 (by decide) ?_
                    refine lv_iload hx hb dX11_greatest_59 (lv_at hl 5 rfl) ?_
                    refine lv_imul hx hb dX11_greatest_61 ?_
                    refine lv_iload_n hx hb dX11_greatest_62 rfl (lv_at hl 2 rfl) ?_
                    refine lv_iadd hx hb dX11_greatest_63 ?_
                    refine lv_aload_n hx hb dX11_greatest_64 rfl (lv_at hl 0 rfl) ?_
                    refine mr_vector S X Z hin hl_41 dX11_greatest_65 ?_
                    refine lv_bipush (v := (48 : Int32)) hx hb dX11_greatest_68 (by decide) ?_
                    refine lv_iload_n hx hb dX11_greatest_70 rfl (lv_at hl 3 rfl) ?_
                    refine lv_imul hx hb dX11_greatest_71 ?_
                    refine lv_iload_n hx hb dX11_greatest_72 rfl (lv_at hl 2 rfl) ?_
                    refine lv_iadd hx hb dX11_greatest_73 ?_
                    obtain ⟨v21, hc20, h⟩ := o1_e h
                    refine g_Vi (As := [.ref (A m_vector), .int (((48 : Int32) * x11) + a2), .ref (A m_vector), .int (((48 : Int32) * x1) + a2)]) (rest := []) S X Z mlv_o rfl rfl (t_X11_isAtMost l D dA A hJ ⟨ml_vector, rfl⟩ ⟨ml_vector, rfl⟩ hc20) (cwV 4 hts (mGV (mB 143 rfl) (mB 144 rfl) (mB 145 rfl) (mB 63 rfl) (mB 95 rfl)) rfl rfl rfl (by decide +kernel) ⟨Nat.le_of_ble_eq_true rfl, Nat.le_of_ble_eq_true rfl⟩) rfl hl.1 rfl (Nat.le_of_ble_eq_true rfl) dX11_greatest_74 ⟨Nat.zero_le _, Nat.zero_le _⟩ (fun H locs Z => ?_)
                    refine lv_if_eq (tgt := 84) hx hb dX11_greatest_77 (by decide) (fun c22 => ?_) (fun c22 => ?_)
                    · have h := if_t c22 h
                      refine lv_iconst (v := (0 : Int32)) hx hb dX11_greatest_84 (by decide) ?_
                      exact hJ85 (0 : Int32) _ _ _ Z (lv_sub hl [0, 1, 2, 3, 5] rfl) h
                    · have h := if_f c22 h
                      exact hJ80  _ _ _ Z (lv_sub hl [0, 1, 2, 3, 5] rfl) h
          exact hL29 100 b6 (0 : Int32) _ _ _ Z (lv_sub hl [2, 3, 4, 5, 1, 0] rfl) h
        refine lv_icmp_ne (tgt := 23) hx hb dX11_greatest_16 (by decide) (fun c23 => ?_) (fun c23 => ?_)
        · have h := if_f c23 h
          refine lv_iconst (v := (0 : Int32)) hx hb dX11_greatest_23 (by decide) ?_
          exact hJ24 (0 : Int32) _ _ _ Z (lv_sub hl [0, 1, 2, 3] rfl) h
        · have h := if_t c23 h
          refine lv_iconst (v := (1 : Int32)) hx hb dX11_greatest_19 (by decide) ?_
          refine lv_goto (tgt := 24) hx hb dX11_greatest_20 (by decide) ?_
          exact hJ24 (1 : Int32) _ _ _ Z (lv_sub hl [0, 1, 2, 3] rfl) h
  exact hL2 100 (0 : Int32) _ _ _ Z (lv_sub hl [1, 2, 3, 0] rfl) h
-- X11_bring (IIIII)V: 230 instructions
theorem dX11_bring_0 : decode cX11_bring 0 = .ok (.bipush 48, 2) := by decide +kernel
theorem dX11_bring_2 : decode cX11_bring 2 = .ok (.iload_n 1, 1) := by decide +kernel
theorem dX11_bring_3 : decode cX11_bring 3 = .ok (.imul, 1) := by decide +kernel
theorem dX11_bring_4 : decode cX11_bring 4 = .ok (.iload_n 2, 1) := by decide +kernel
theorem dX11_bring_5 : decode cX11_bring 5 = .ok (.iadd, 1) := by decide +kernel
theorem dX11_bring_6 : decode cX11_bring 6 = .ok (.istore 6, 2) := by decide +kernel
theorem dX11_bring_8 : decode cX11_bring 8 = .ok (.bipush 48, 2) := by decide +kernel
theorem dX11_bring_10 : decode cX11_bring 10 = .ok (.iload_n 3, 1) := by decide +kernel
theorem dX11_bring_11 : decode cX11_bring 11 = .ok (.imul, 1) := by decide +kernel
theorem dX11_bring_12 : decode cX11_bring 12 = .ok (.iload_n 2, 1) := by decide +kernel
theorem dX11_bring_13 : decode cX11_bring 13 = .ok (.iadd, 1) := by decide +kernel
theorem dX11_bring_14 : decode cX11_bring 14 = .ok (.istore 7, 2) := by decide +kernel
theorem dX11_bring_16 : decode cX11_bring 16 = .ok (.aload_n 0, 1) := by decide +kernel
theorem dX11_bring_17 : decode cX11_bring 17 = .ok (.aload_n 0, 1) := by decide +kernel
theorem dX11_bring_18 : decode cX11_bring 18 = .ok (.getfield 35, 3) := by decide +kernel
theorem dX11_bring_21 : decode cX11_bring 21 = .ok (.iload 7, 2) := by decide +kernel
theorem dX11_bring_23 : decode cX11_bring 23 = .ok (.iaload, 1) := by decide +kernel
theorem dX11_bring_24 : decode cX11_bring 24 = .ok (.putfield 231, 3) := by decide +kernel
theorem dX11_bring_27 : decode cX11_bring 27 = .ok (.aload_n 0, 1) := by decide +kernel
theorem dX11_bring_28 : decode cX11_bring 28 = .ok (.aload_n 0, 1) := by decide +kernel
theorem dX11_bring_29 : decode cX11_bring 29 = .ok (.getfield 41, 3) := by decide +kernel
theorem dX11_bring_32 : decode cX11_bring 32 = .ok (.iload 7, 2) := by decide +kernel
theorem dX11_bring_34 : decode cX11_bring 34 = .ok (.aload_n 0, 1) := by decide +kernel
theorem dX11_bring_35 : decode cX11_bring 35 = .ok (.getfield 116, 3) := by decide +kernel
theorem dX11_bring_38 : decode cX11_bring 38 = .ok (.iconst 0, 1) := by decide +kernel
theorem dX11_bring_39 : decode cX11_bring 39 = .ok (.invokevirtual 234, 3) := by decide +kernel
theorem dX11_bring_42 : decode cX11_bring 42 = .ok (.iconst 0, 1) := by decide +kernel
theorem dX11_bring_43 : decode cX11_bring 43 = .ok (.istore 8, 2) := by decide +kernel
theorem dX11_bring_45 : decode cX11_bring 45 = .ok (.iload 8, 2) := by decide +kernel
theorem dX11_bring_47 : decode cX11_bring 47 = .ok (.bipush 48, 2) := by decide +kernel
theorem dX11_bring_49 : decode cX11_bring 49 = .ok (.if_icmp .ge 42, 3) := by decide +kernel
theorem dX11_bring_52 : decode cX11_bring 52 = .ok (.aload_n 0, 1) := by decide +kernel
theorem dX11_bring_53 : decode cX11_bring 53 = .ok (.getfield 119, 3) := by decide +kernel
theorem dX11_bring_56 : decode cX11_bring 56 = .ok (.iload 8, 2) := by decide +kernel
theorem dX11_bring_58 : decode cX11_bring 58 = .ok (.aload_n 0, 1) := by decide +kernel
theorem dX11_bring_59 : decode cX11_bring 59 = .ok (.iload 8, 2) := by decide +kernel
theorem dX11_bring_61 : decode cX11_bring 61 = .ok (.iload_n 2, 1) := by decide +kernel
theorem dX11_bring_62 : decode cX11_bring 62 = .ok (.invokevirtual 197, 3) := by decide +kernel
theorem dX11_bring_65 : decode cX11_bring 65 = .ok (.ifCond .eq 18, 3) := by decide +kernel
theorem dX11_bring_68 : decode cX11_bring 68 = .ok (.aload_n 0, 1) := by decide +kernel
theorem dX11_bring_69 : decode cX11_bring 69 = .ok (.getfield 56, 3) := by decide +kernel
theorem dX11_bring_72 : decode cX11_bring 72 = .ok (.bipush 48, 2) := by decide +kernel
theorem dX11_bring_74 : decode cX11_bring 74 = .ok (.iload_n 3, 1) := by decide +kernel
theorem dX11_bring_75 : decode cX11_bring 75 = .ok (.imul, 1) := by decide +kernel
theorem dX11_bring_76 : decode cX11_bring 76 = .ok (.iload 8, 2) := by decide +kernel
theorem dX11_bring_78 : decode cX11_bring 78 = .ok (.iadd, 1) := by decide +kernel
theorem dX11_bring_79 : decode cX11_bring 79 = .ok (.iaload, 1) := by decide +kernel
theorem dX11_bring_80 : decode cX11_bring 80 = .ok (.goto 4, 3) := by decide +kernel
theorem dX11_bring_83 : decode cX11_bring 83 = .ok (.iconst 0, 1) := by decide +kernel
theorem dX11_bring_84 : decode cX11_bring 84 = .ok (.iastore, 1) := by decide +kernel
theorem dX11_bring_85 : decode cX11_bring 85 = .ok (.iinc 8 1, 3) := by decide +kernel
theorem dX11_bring_88 : decode cX11_bring 88 = .ok (.goto (-43), 3) := by decide +kernel
theorem dX11_bring_91 : decode cX11_bring 91 = .ok (.aload_n 0, 1) := by decide +kernel
theorem dX11_bring_92 : decode cX11_bring 92 = .ok (.iload_n 1, 1) := by decide +kernel
theorem dX11_bring_93 : decode cX11_bring 93 = .ok (.aload_n 0, 1) := by decide +kernel
theorem dX11_bring_94 : decode cX11_bring 94 = .ok (.iload_n 2, 1) := by decide +kernel
theorem dX11_bring_95 : decode cX11_bring 95 = .ok (.aload_n 0, 1) := by decide +kernel
theorem dX11_bring_96 : decode cX11_bring 96 = .ok (.getfield 38, 3) := by decide +kernel
theorem dX11_bring_99 : decode cX11_bring 99 = .ok (.iload 7, 2) := by decide +kernel
theorem dX11_bring_101 : decode cX11_bring 101 = .ok (.iaload, 1) := by decide +kernel
theorem dX11_bring_102 : decode cX11_bring 102 = .ok (.invokevirtual 204, 3) := by decide +kernel
theorem dX11_bring_105 : decode cX11_bring 105 = .ok (.aload_n 0, 1) := by decide +kernel
theorem dX11_bring_106 : decode cX11_bring 106 = .ok (.iload_n 1, 1) := by decide +kernel
theorem dX11_bring_107 : decode cX11_bring 107 = .ok (.iload_n 2, 1) := by decide +kernel
theorem dX11_bring_108 : decode cX11_bring 108 = .ok (.invokevirtual 214, 3) := by decide +kernel
theorem dX11_bring_111 : decode cX11_bring 111 = .ok (.isub, 1) := by decide +kernel
theorem dX11_bring_112 : decode cX11_bring 112 = .ok (.iload_n 2, 1) := by decide +kernel
theorem dX11_bring_113 : decode cX11_bring 113 = .ok (.iload 5, 2) := by decide +kernel
theorem dX11_bring_115 : decode cX11_bring 115 = .ok (.invokevirtual 269, 3) := by decide +kernel
theorem dX11_bring_118 : decode cX11_bring 118 = .ok (.ifCond .ne 10, 3) := by decide +kernel
theorem dX11_bring_121 : decode cX11_bring 121 = .ok (.aload_n 0, 1) := by decide +kernel
theorem dX11_bring_122 : decode cX11_bring 122 = .ok (.iload_n 1, 1) := by decide +kernel
theorem dX11_bring_123 : decode cX11_bring 123 = .ok (.iload_n 2, 1) := by decide +kernel
theorem dX11_bring_124 : decode cX11_bring 124 = .ok (.invokevirtual 224, 3) := by decide +kernel
theorem dX11_bring_127 : decode cX11_bring 127 = .ok (.return_, 1) := by decide +kernel
theorem dX11_bring_128 : decode cX11_bring 128 = .ok (.aload_n 0, 1) := by decide +kernel
theorem dX11_bring_129 : decode cX11_bring 129 = .ok (.dup, 1) := by decide +kernel
theorem dX11_bring_130 : decode cX11_bring 130 = .ok (.getfield 272, 3) := by decide +kernel
theorem dX11_bring_133 : decode cX11_bring 133 = .ok (.iconst 1, 1) := by decide +kernel
theorem dX11_bring_134 : decode cX11_bring 134 = .ok (.iadd, 1) := by decide +kernel
theorem dX11_bring_135 : decode cX11_bring 135 = .ok (.putfield 272, 3) := by decide +kernel
theorem dX11_bring_138 : decode cX11_bring 138 = .ok (.aload_n 0, 1) := by decide +kernel
theorem dX11_bring_139 : decode cX11_bring 139 = .ok (.getfield 65, 3) := by decide +kernel
theorem dX11_bring_142 : decode cX11_bring 142 = .ok (.iload 6, 2) := by decide +kernel
theorem dX11_bring_144 : decode cX11_bring 144 = .ok (.iconst 1, 1) := by decide +kernel
theorem dX11_bring_145 : decode cX11_bring 145 = .ok (.bastore, 1) := by decide +kernel
theorem dX11_bring_146 : decode cX11_bring 146 = .ok (.aload_n 0, 1) := by decide +kernel
theorem dX11_bring_147 : decode cX11_bring 147 = .ok (.getfield 80, 3) := by decide +kernel
theorem dX11_bring_150 : decode cX11_bring 150 = .ok (.iload 6, 2) := by decide +kernel
theorem dX11_bring_152 : decode cX11_bring 152 = .ok (.iconst 0, 1) := by decide +kernel
theorem dX11_bring_153 : decode cX11_bring 153 = .ok (.bastore, 1) := by decide +kernel
theorem dX11_bring_154 : decode cX11_bring 154 = .ok (.aload_n 0, 1) := by decide +kernel
theorem dX11_bring_155 : decode cX11_bring 155 = .ok (.getfield 68, 3) := by decide +kernel
theorem dX11_bring_158 : decode cX11_bring 158 = .ok (.iload 6, 2) := by decide +kernel
theorem dX11_bring_160 : decode cX11_bring 160 = .ok (.aload_n 0, 1) := by decide +kernel
theorem dX11_bring_161 : decode cX11_bring 161 = .ok (.getfield 35, 3) := by decide +kernel
theorem dX11_bring_164 : decode cX11_bring 164 = .ok (.iload 7, 2) := by decide +kernel
theorem dX11_bring_166 : decode cX11_bring 166 = .ok (.iaload, 1) := by decide +kernel
theorem dX11_bring_167 : decode cX11_bring 167 = .ok (.iastore, 1) := by decide +kernel
theorem dX11_bring_168 : decode cX11_bring 168 = .ok (.aload_n 0, 1) := by decide +kernel
theorem dX11_bring_169 : decode cX11_bring 169 = .ok (.getfield 71, 3) := by decide +kernel
theorem dX11_bring_172 : decode cX11_bring 172 = .ok (.iload 6, 2) := by decide +kernel
theorem dX11_bring_174 : decode cX11_bring 174 = .ok (.aload_n 0, 1) := by decide +kernel
theorem dX11_bring_175 : decode cX11_bring 175 = .ok (.getfield 38, 3) := by decide +kernel
theorem dX11_bring_178 : decode cX11_bring 178 = .ok (.iload 7, 2) := by decide +kernel
theorem dX11_bring_180 : decode cX11_bring 180 = .ok (.iaload, 1) := by decide +kernel
theorem dX11_bring_181 : decode cX11_bring 181 = .ok (.iastore, 1) := by decide +kernel
theorem dX11_bring_182 : decode cX11_bring 182 = .ok (.aload_n 0, 1) := by decide +kernel
theorem dX11_bring_183 : decode cX11_bring 183 = .ok (.aload_n 0, 1) := by decide +kernel
theorem dX11_bring_184 : decode cX11_bring 184 = .ok (.getfield 41, 3) := by decide +kernel
theorem dX11_bring_187 : decode cX11_bring 187 = .ok (.iload 7, 2) := by decide +kernel
theorem dX11_bring_189 : decode cX11_bring 189 = .ok (.aload_n 0, 1) := by decide +kernel
theorem dX11_bring_190 : decode cX11_bring 190 = .ok (.getfield 74, 3) := by decide +kernel
theorem dX11_bring_193 : decode cX11_bring 193 = .ok (.iload 6, 2) := by decide +kernel
theorem dX11_bring_195 : decode cX11_bring 195 = .ok (.invokevirtual 234, 3) := by decide +kernel
theorem dX11_bring_198 : decode cX11_bring 198 = .ok (.iconst 1, 1) := by decide +kernel
theorem dX11_bring_199 : decode cX11_bring 199 = .ok (.istore 8, 2) := by decide +kernel
theorem dX11_bring_201 : decode cX11_bring 201 = .ok (.iload 8, 2) := by decide +kernel
theorem dX11_bring_203 : decode cX11_bring 203 = .ok (.aload_n 0, 1) := by decide +kernel
theorem dX11_bring_204 : decode cX11_bring 204 = .ok (.getfield 162, 3) := by decide +kernel
theorem dX11_bring_207 : decode cX11_bring 207 = .ok (.if_icmp .ge 69, 3) := by decide +kernel
theorem dX11_bring_210 : decode cX11_bring 210 = .ok (.aload_n 0, 1) := by decide +kernel
theorem dX11_bring_211 : decode cX11_bring 211 = .ok (.iload 8, 2) := by decide +kernel
theorem dX11_bring_213 : decode cX11_bring 213 = .ok (.iload_n 2, 1) := by decide +kernel
theorem dX11_bring_214 : decode cX11_bring 214 = .ok (.invokevirtual 197, 3) := by decide +kernel
theorem dX11_bring_217 : decode cX11_bring 217 = .ok (.ifCond .eq 53, 3) := by decide +kernel
theorem dX11_bring_220 : decode cX11_bring 220 = .ok (.aload_n 0, 1) := by decide +kernel
theorem dX11_bring_221 : decode cX11_bring 221 = .ok (.getfield 89, 3) := by decide +kernel
theorem dX11_bring_224 : decode cX11_bring 224 = .ok (.bipush 48, 2) := by decide +kernel
theorem dX11_bring_226 : decode cX11_bring 226 = .ok (.iload_n 1, 1) := by decide +kernel
theorem dX11_bring_227 : decode cX11_bring 227 = .ok (.imul, 1) := by decide +kernel
theorem dX11_bring_228 : decode cX11_bring 228 = .ok (.iload 8, 2) := by decide +kernel
theorem dX11_bring_230 : decode cX11_bring 230 = .ok (.iadd, 1) := by decide +kernel
theorem dX11_bring_231 : decode cX11_bring 231 = .ok (.aload_n 0, 1) := by decide +kernel
theorem dX11_bring_232 : decode cX11_bring 232 = .ok (.getfield 56, 3) := by decide +kernel
theorem dX11_bring_235 : decode cX11_bring 235 = .ok (.bipush 48, 2) := by decide +kernel
theorem dX11_bring_237 : decode cX11_bring 237 = .ok (.iload_n 3, 1) := by decide +kernel
theorem dX11_bring_238 : decode cX11_bring 238 = .ok (.imul, 1) := by decide +kernel
theorem dX11_bring_239 : decode cX11_bring 239 = .ok (.iload 8, 2) := by decide +kernel
theorem dX11_bring_241 : decode cX11_bring 241 = .ok (.iadd, 1) := by decide +kernel
theorem dX11_bring_242 : decode cX11_bring 242 = .ok (.iaload, 1) := by decide +kernel
theorem dX11_bring_243 : decode cX11_bring 243 = .ok (.iastore, 1) := by decide +kernel
theorem dX11_bring_244 : decode cX11_bring 244 = .ok (.aload_n 0, 1) := by decide +kernel
theorem dX11_bring_245 : decode cX11_bring 245 = .ok (.aload_n 0, 1) := by decide +kernel
theorem dX11_bring_246 : decode cX11_bring 246 = .ok (.getfield 59, 3) := by decide +kernel
theorem dX11_bring_249 : decode cX11_bring 249 = .ok (.bipush 48, 2) := by decide +kernel
theorem dX11_bring_251 : decode cX11_bring 251 = .ok (.iload_n 3, 1) := by decide +kernel
theorem dX11_bring_252 : decode cX11_bring 252 = .ok (.imul, 1) := by decide +kernel
theorem dX11_bring_253 : decode cX11_bring 253 = .ok (.iload 8, 2) := by decide +kernel
theorem dX11_bring_255 : decode cX11_bring 255 = .ok (.iadd, 1) := by decide +kernel
theorem dX11_bring_256 : decode cX11_bring 256 = .ok (.aload_n 0, 1) := by decide +kernel
theorem dX11_bring_257 : decode cX11_bring 257 = .ok (.getfield 92, 3) := by decide +kernel
theorem dX11_bring_260 : decode cX11_bring 260 = .ok (.bipush 48, 2) := by decide +kernel
theorem dX11_bring_262 : decode cX11_bring 262 = .ok (.iload_n 1, 1) := by decide +kernel
theorem dX11_bring_263 : decode cX11_bring 263 = .ok (.imul, 1) := by decide +kernel
theorem dX11_bring_264 : decode cX11_bring 264 = .ok (.iload 8, 2) := by decide +kernel
theorem dX11_bring_266 : decode cX11_bring 266 = .ok (.iadd, 1) := by decide +kernel
theorem dX11_bring_267 : decode cX11_bring 267 = .ok (.invokevirtual 234, 3) := by decide +kernel
theorem dX11_bring_270 : decode cX11_bring 270 = .ok (.iinc 8 1, 3) := by decide +kernel
theorem dX11_bring_273 : decode cX11_bring 273 = .ok (.goto (-72), 3) := by decide +kernel
theorem dX11_bring_276 : decode cX11_bring 276 = .ok (.aload_n 0, 1) := by decide +kernel
theorem dX11_bring_277 : decode cX11_bring 277 = .ok (.getfield 77, 3) := by decide +kernel
theorem dX11_bring_280 : decode cX11_bring 280 = .ok (.iload 6, 2) := by decide +kernel
theorem dX11_bring_282 : decode cX11_bring 282 = .ok (.iconst 0, 1) := by decide +kernel
theorem dX11_bring_283 : decode cX11_bring 283 = .ok (.iastore, 1) := by decide +kernel
theorem dX11_bring_284 : decode cX11_bring 284 = .ok (.iconst 0, 1) := by decide +kernel
theorem dX11_bring_285 : decode cX11_bring 285 = .ok (.istore 8, 2) := by decide +kernel
theorem dX11_bring_287 : decode cX11_bring 287 = .ok (.iload 8, 2) := by decide +kernel
theorem dX11_bring_289 : decode cX11_bring 289 = .ok (.aload_n 0, 1) := by decide +kernel
theorem dX11_bring_290 : decode cX11_bring 290 = .ok (.getfield 155, 3) := by decide +kernel
theorem dX11_bring_293 : decode cX11_bring 293 = .ok (.if_icmp .ge 100, 3) := by decide +kernel
theorem dX11_bring_296 : decode cX11_bring 296 = .ok (.iload 4, 2) := by decide +kernel
theorem dX11_bring_298 : decode cX11_bring 298 = .ok (.iload 8, 2) := by decide +kernel
theorem dX11_bring_300 : decode cX11_bring 300 = .ok (.ishr, 1) := by decide +kernel
theorem dX11_bring_301 : decode cX11_bring 301 = .ok (.iconst 1, 1) := by decide +kernel
theorem dX11_bring_302 : decode cX11_bring 302 = .ok (.iand, 1) := by decide +kernel
theorem dX11_bring_303 : decode cX11_bring 303 = .ok (.iconst 1, 1) := by decide +kernel
theorem dX11_bring_304 : decode cX11_bring 304 = .ok (.if_icmp .ne 46, 3) := by decide +kernel
theorem dX11_bring_307 : decode cX11_bring 307 = .ok (.aload_n 0, 1) := by decide +kernel
theorem dX11_bring_308 : decode cX11_bring 308 = .ok (.getfield 44, 3) := by decide +kernel
theorem dX11_bring_311 : decode cX11_bring 311 = .ok (.bipush 48, 2) := by decide +kernel
theorem dX11_bring_313 : decode cX11_bring 313 = .ok (.iload 8, 2) := by decide +kernel
theorem dX11_bring_315 : decode cX11_bring 315 = .ok (.imul, 1) := by decide +kernel
theorem dX11_bring_316 : decode cX11_bring 316 = .ok (.iload_n 2, 1) := by decide +kernel
theorem dX11_bring_317 : decode cX11_bring 317 = .ok (.iadd, 1) := by decide +kernel
theorem dX11_bring_318 : decode cX11_bring 318 = .ok (.iaload, 1) := by decide +kernel
theorem dX11_bring_319 : decode cX11_bring 319 = .ok (.ifCond .ne 31, 3) := by decide +kernel
theorem dX11_bring_322 : decode cX11_bring 322 = .ok (.aload_n 0, 1) := by decide +kernel
theorem dX11_bring_323 : decode cX11_bring 323 = .ok (.aload_n 0, 1) := by decide +kernel
theorem dX11_bring_324 : decode cX11_bring 324 = .ok (.getfield 41, 3) := by decide +kernel
theorem dX11_bring_327 : decode cX11_bring 327 = .ok (.bipush 48, 2) := by decide +kernel
theorem dX11_bring_329 : decode cX11_bring 329 = .ok (.iload 8, 2) := by decide +kernel
theorem dX11_bring_331 : decode cX11_bring 331 = .ok (.imul, 1) := by decide +kernel
theorem dX11_bring_332 : decode cX11_bring 332 = .ok (.iload_n 2, 1) := by decide +kernel
theorem dX11_bring_333 : decode cX11_bring 333 = .ok (.iadd, 1) := by decide +kernel
theorem dX11_bring_334 : decode cX11_bring 334 = .ok (.aload_n 0, 1) := by decide +kernel
theorem dX11_bring_335 : decode cX11_bring 335 = .ok (.getfield 41, 3) := by decide +kernel
theorem dX11_bring_338 : decode cX11_bring 338 = .ok (.iload 7, 2) := by decide +kernel
theorem dX11_bring_340 : decode cX11_bring 340 = .ok (.invokevirtual 275, 3) := by decide +kernel
theorem dX11_bring_343 : decode cX11_bring 343 = .ok (.ifCond .eq 7, 3) := by decide +kernel
theorem dX11_bring_346 : decode cX11_bring 346 = .ok (.iconst 1, 1) := by decide +kernel
theorem dX11_bring_347 : decode cX11_bring 347 = .ok (.goto 4, 3) := by decide +kernel
theorem dX11_bring_350 : decode cX11_bring 350 = .ok (.iconst 0, 1) := by decide +kernel
theorem dX11_bring_351 : decode cX11_bring 351 = .ok (.istore 9, 2) := by decide +kernel
theorem dX11_bring_353 : decode cX11_bring 353 = .ok (.aload_n 0, 1) := by decide +kernel
theorem dX11_bring_354 : decode cX11_bring 354 = .ok (.getfield 77, 3) := by decide +kernel
theorem dX11_bring_357 : decode cX11_bring 357 = .ok (.iload 6, 2) := by decide +kernel
theorem dX11_bring_359 : decode cX11_bring 359 = .ok (.iload 9, 2) := by decide +kernel
theorem dX11_bring_361 : decode cX11_bring 361 = .ok (.ifCond .eq 18, 3) := by decide +kernel
theorem dX11_bring_364 : decode cX11_bring 364 = .ok (.aload_n 0, 1) := by decide +kernel
theorem dX11_bring_365 : decode cX11_bring 365 = .ok (.getfield 77, 3) := by decide +kernel
theorem dX11_bring_368 : decode cX11_bring 368 = .ok (.iload 6, 2) := by decide +kernel
theorem dX11_bring_370 : decode cX11_bring 370 = .ok (.iaload, 1) := by decide +kernel
theorem dX11_bring_371 : decode cX11_bring 371 = .ok (.iconst 1, 1) := by decide +kernel
theorem dX11_bring_372 : decode cX11_bring 372 = .ok (.iload 8, 2) := by decide +kernel
theorem dX11_bring_374 : decode cX11_bring 374 = .ok (.ishl, 1) := by decide +kernel
theorem dX11_bring_375 : decode cX11_bring 375 = .ok (.ior, 1) := by decide +kernel
theorem dX11_bring_376 : decode cX11_bring 376 = .ok (.goto 10, 3) := by decide +kernel
theorem dX11_bring_379 : decode cX11_bring 379 = .ok (.aload_n 0, 1) := by decide +kernel
theorem dX11_bring_380 : decode cX11_bring 380 = .ok (.getfield 77, 3) := by decide +kernel
theorem dX11_bring_383 : decode cX11_bring 383 = .ok (.iload 6, 2) := by decide +kernel
theorem dX11_bring_385 : decode cX11_bring 385 = .ok (.iaload, 1) := by decide +kernel
theorem dX11_bring_386 : decode cX11_bring 386 = .ok (.iastore, 1) := by decide +kernel
theorem dX11_bring_387 : decode cX11_bring 387 = .ok (.iinc 8 1, 3) := by decide +kernel
theorem dX11_bring_390 : decode cX11_bring 390 = .ok (.goto (-103), 3) := by decide +kernel
theorem dX11_bring_393 : decode cX11_bring 393 = .ok (.aload_n 0, 1) := by decide +kernel
theorem dX11_bring_394 : decode cX11_bring 394 = .ok (.iload_n 1, 1) := by decide +kernel
theorem dX11_bring_395 : decode cX11_bring 395 = .ok (.iload_n 2, 1) := by decide +kernel
theorem dX11_bring_396 : decode cX11_bring 396 = .ok (.invokevirtual 243, 3) := by decide +kernel
theorem dX11_bring_399 : decode cX11_bring 399 = .ok (.return_, 1) := by decide +kernel
abbrev wmX11_bring : List Cond := .code yX11_bring cX11_bring 10 none :: mBig
def f_X11_bring_L287 (a1 : Int32) (a2 : Int32) (a4 : Int32) (x1 : Int32) (x2 : Int32) (J393 : gM → Option gM) : Nat → Int32 → gM → Option gM
  | 0, _, _ => none
  | n34 + 1, x32, M33 => lt (M33 m_o 0) (fun v35 => (if v35 ≤ x32 then J393 M33 else jn (fun (q : (Int32 × gM)) => match q with | (b37, M38) => jn (fun (q : (Int32 × gM)) => match q with | (b39, M40) => wr M40 m_promised 192 x1 b39 (fun M41 => lt (x32 + 1) (fun x42 => f_X11_bring_L287 a1 a2 a4 x1 x2 J393 n34 x42 M41))) (fun J386 => (if b37 = 0 then rd M38 m_promised 192 x1 (fun v44 => J386 (v44, M38)) else rd M38 m_promised 192 x1 (fun v45 => J386 ((v45 ||| ((1 : Int32) <<< (x32 &&& 31))), M38))))) (fun J351 => jn (fun (M46 : gM) => J351 ((0 : Int32), M46)) (fun J350 => (if ((a4 >>> (x32 &&& 31)) &&& (1 : Int32)) = (1 : Int32) then rd M33 m_versions 192 (((48 : Int32) * x32) + a2) (fun v48 => (if v48 = 0 then o1 (f_X11_isSame M33 m_vector (((48 : Int32) * x32) + a2) m_vector x2) (fun v51 => (if v51 = 0 then J350 M33 else J351 ((1 : Int32), M33))) else J350 M33)) else J350 M33)))))
def f_X11_bring_L201 (a1 : Int32) (a2 : Int32) (a3 : Int32) (a4 : Int32) (x1 : Int32) (x2 : Int32) (J276 : gM → Option gM) : Nat → Int32 → gM → Option gM
  | 0, _, _ => none
  | n55 + 1, x53, M54 => lt (M54 m_o 6) (fun v56 => (if v56 ≤ x53 then J276 M54 else o1 (f_X11_isChild M54 x53 a2) (fun v59 => jn (fun (M60 : gM) => lt (x53 + 1) (fun x61 => f_X11_bring_L201 a1 a2 a3 a4 x1 x2 J276 n55 x61 M60)) (fun J270 => (if v59 = 0 then J270 M54 else rd M54 m_entry 192 (((48 : Int32) * a3) + x53) (fun v63 => wr M54 m_keptEntry 192 (((48 : Int32) * a1) + x53) v63 (fun M64 => o1 (f_X11_copyTo M64 m_gone (((48 : Int32) * a3) + x53) m_keptGone (((48 : Int32) * a1) + x53)) (fun M66 => J270 M66))))))))
def f_X11_bring_L45 (a1 : Int32) (a2 : Int32) (a3 : Int32) (a4 : Int32) (a5 : Int32) (x1 : Int32) (x2 : Int32) (J91 : gM → Option gM) : Nat → Int32 → gM → Option gM
  | 0, _, _ => none
  | n71 + 1, x69, M70 => (if (48 : Int32) ≤ x69 then J91 M70 else o1 (f_X11_isChild M70 x69 a2) (fun v74 => jn (fun (q : (Int32 × gM)) => match q with | (b75, M76) => wr M76 m_gotEntry 48 x69 b75 (fun M77 => lt (x69 + 1) (fun x78 => f_X11_bring_L45 a1 a2 a3 a4 a5 x1 x2 J91 n71 x78 M77))) (fun J84 => (if v74 = 0 then J84 ((0 : Int32), M70) else rd M70 m_entry 192 (((48 : Int32) * a3) + x69) (fun v80 => J84 (v80, M70))))))
def f_X11_bring (M : gM) (a1 : Int32) (a2 : Int32) (a3 : Int32) (a4 : Int32) (a5 : Int32) : Option gM :=
  lt ((((48 : Int32) * a1) + a2)) (fun x1 => lt ((((48 : Int32) * a3) + a2)) (fun x2 => rd M m_value 192 x2 (fun v3 => lt (gset M m_o 42 v3) (fun M4 => o1 (f_X11_copyTo M4 m_vector x2 m_gotVector (0 : Int32)) (fun M6 => jn (fun (M7 : gM) => rd M7 m_size 192 x2 (fun v8 => o1 (f_X11_weight M7 a2 v8) (fun v10 => o1 (f_X11_weightKept M7 a1 a2) (fun v12 => ob (f_X11_makeRoom M7 a1 (v10 - v12) a2 a5) (fun v15 M14 => (if v15 = 0 then o1 (f_X11_forget M14 a1 a2) (fun M68 => some M68) else lt (M14 m_o 49) (fun v17 => lt (gset M14 m_o 49 (v17 + (1 : Int32))) (fun M18 => wz M18 m_kept 192 x1 (1 : Int32) (fun M19 => wz M19 m_dirty 192 x1 (0 : Int32) (fun M20 => rd M20 m_value 192 x2 (fun v21 => wr M20 m_keptValue 192 x1 v21 (fun M22 => rd M22 m_size 192 x2 (fun v23 => wr M22 m_keptSize 192 x1 v23 (fun M24 => o1 (f_X11_copyTo M24 m_vector x2 m_keptVector x1) (fun M26 => jn (fun (M27 : gM) => wr M27 m_promised 192 x1 (0 : Int32) (fun M28 => jn (fun (M29 : gM) => o1 (f_X11_use M29 a1 a2) (fun M31 => some M31)) (fun J393 => f_X11_bring_L287 a1 a2 a4 x1 x2 J393 100 (0 : Int32) M28))) (fun J276 => f_X11_bring_L201 a1 a2 a3 a4 x1 x2 J276 100 (1 : Int32) M26)))))))))))))))) (fun J91 => f_X11_bring_L45 a1 a2 a3 a4 a5 x1 x2 J91 100 (0 : Int32) M6))))))
set_option maxHeartbeats 4000000 in
set_option maxRecDepth 100000 in
theorem t_X11_bring (l : Launch) (D : va_G) (dA : Nat → ClassId) (A : gI → Nat) (hJ : gJ mLive A) {M : gM} {a1 : Int32} {a2 : Int32} {a3 : Int32} {a4 : Int32} {a5 : Int32}  {y : gM} (h : f_X11_bring M a1 a2 a3 a4 a5 = some y) : mMv l yX11_bring wmX11_bring ({ frames := 3, cells := 0, slots := 0, locals := 73 } : Room) D dA A [.ref (A m_o), .int a1, .int a2, .int a3, .int a4, .int a5] M y := by
  refine Met.ofW (cc := cX11_bring) (maxL := 10) (ret := none) (by decide) rfl ?_
  intro p e s m args below meth c s₁ B hml hv
  obtain ⟨rfl, hP, hK⟩ := hv
  generalize hargs : ([.ref (A m_o), .int a1, .int a2, .int a3, .int a4, .int a5] : List Value).toArray = args at B ⊢
  have S : CallFix p m c cX11_bring 10 s args wmX11_bring RX11 := ⟨B.exec, B.bytes, hml, findClass_of_methodNamed B.named, atoms_spec (ws := wmX11_bring) B.pre⟩
  obtain ⟨hx, hb, -, hown, hts⟩ := id S
  have hr := B.returns
  have hlocks := B.notSynchronized
  have X : gX D vwCl dA mLive A (gA mLive A) s := ⟨hK, hJ, fun i hi => ⟨i, hi, rfl⟩⟩
  have Z : gZ D mLay dA mLive A (gA mLive A) s.heap M s.heap [] := ⟨hP, va_S.rf⟩
  have hin : ∀ w ∈ wsX110, w ∈ wmX11_bring := m_in
  have hl_35 := hts (.fieldLink RX11 35 "ReplicaFilesModel" "value" "[I") (mBc 13 rfl)
  have hl_38 := hts (.fieldLink RX11 38 "ReplicaFilesModel" "size" "[I") (mBc 14 rfl)
  have hl_41 := hts (.fieldLink RX11 41 "ReplicaFilesModel" "vector" "[I") (mBc 15 rfl)
  have hl_44 := hts (.fieldLink RX11 44 "ReplicaFilesModel" "versions" "[I") (mBc 16 rfl)
  have hl_56 := hts (.fieldLink RX11 56 "ReplicaFilesModel" "entry" "[I") (mBc 20 rfl)
  have hl_59 := hts (.fieldLink RX11 59 "ReplicaFilesModel" "gone" "[I") (mBc 21 rfl)
  have hl_65 := hts (.fieldLink RX11 65 "ReplicaFilesModel" "kept" "[Z") (mBc 23 rfl)
  have hl_68 := hts (.fieldLink RX11 68 "ReplicaFilesModel" "keptValue" "[I") (mBc 24 rfl)
  have hl_71 := hts (.fieldLink RX11 71 "ReplicaFilesModel" "keptSize" "[I") (mBc 25 rfl)
  have hl_74 := hts (.fieldLink RX11 74 "ReplicaFilesModel" "keptVector" "[I") (mBc 26 rfl)
  have hl_77 := hts (.fieldLink RX11 77 "ReplicaFilesModel" "promised" "[I") (mBc 27 rfl)
  have hl_80 := hts (.fieldLink RX11 80 "ReplicaFilesModel" "dirty" "[Z") (mBc 28 rfl)
  have hl_89 := hts (.fieldLink RX11 89 "ReplicaFilesModel" "keptEntry" "[I") (mBc 31 rfl)
  have hl_92 := hts (.fieldLink RX11 92 "ReplicaFilesModel" "keptGone" "[I") (mBc 32 rfl)
  have hl_116 := hts (.fieldLink RX11 116 "ReplicaFilesModel" "gotVector" "[I") (mBc 40 rfl)
  have hl_119 := hts (.fieldLink RX11 119 "ReplicaFilesModel" "gotEntry" "[I") (mBc 41 rfl)
  have hl_155 := hts (.fieldLink RX11 155 "ReplicaFilesModel" "servers" "I") (mBc 53 rfl)
  have hl_162 := hts (.fieldLink RX11 162 "ReplicaFilesModel" "made" "I") (mBc 55 rfl)
  have hl_231 := hts (.fieldLink RX11 231 "ReplicaFilesModel" "gotValue" "I") (mBc 138 rfl)
  have hl_272 := hts (.fieldLink RX11 272 "ReplicaFilesModel" "came" "I") (mBc 146 rfl)
  have hl := lv_entry ([.ref (A m_o), .int a1, .int a2, .int a3, .int a4, .int a5]) (n := 10) (Nat.le_of_ble_eq_true rfl)
  rw [← hargs, lg_entry_eq, hargs]
  generalize (lg_sl ([.ref (A m_o), .int a1, .int a2, .int a3, .int a4, .int a5]) ++ List.replicate (10 - (lg_sl ([.ref (A m_o), .int a1, .int a2, .int a3, .int a4, .int a5])).length) Slot.unset).toArray = ls at hl ⊢
  have hl : lv_has ls 10 [(0, .ref (A m_o)), (1, .int a1), (2, .int a2), (3, .int a3), (4, .int a4), (5, .int a5)] := hl
  unfold f_X11_bring at h
  refine lv_bipush (v := (48 : Int32)) hx hb dX11_bring_0 (by decide) ?_
  refine lv_iload_n hx hb dX11_bring_2 rfl (lv_at hl 1 rfl) ?_
  refine lv_imul hx hb dX11_bring_3 ?_
  refine lv_iload_n hx hb dX11_bring_4 rfl (lv_at hl 2 rfl) ?_
  refine lv_iadd hx hb dX11_bring_5 ?_
  refine g_topi h (fun x1 h => ?_)
  refine lv_istore (lv' := [(6, .int x1), (0, .ref (A m_o)), (1, .int a1), (2, .int a2), (3, .int a3), (4, .int a4), (5, .int a5)]) hx hb dX11_bring_6 hl (by decide) rfl (fun ls hl => ?_)
  refine lv_bipush (v := (48 : Int32)) hx hb dX11_bring_8 (by decide) ?_
  refine lv_iload_n hx hb dX11_bring_10 rfl (lv_at hl 4 rfl) ?_
  refine lv_imul hx hb dX11_bring_11 ?_
  refine lv_iload_n hx hb dX11_bring_12 rfl (lv_at hl 3 rfl) ?_
  refine lv_iadd hx hb dX11_bring_13 ?_
  refine g_topi h (fun x2 h => ?_)
  refine lv_istore (lv' := [(7, .int x2), (6, .int x1), (0, .ref (A m_o)), (1, .int a1), (2, .int a2), (3, .int a3), (4, .int a4), (5, .int a5)]) hx hb dX11_bring_14 hl (by decide) rfl (fun ls hl => ?_)
  refine lv_aload_n hx hb dX11_bring_16 rfl (lv_at hl 2 rfl) ?_
  refine lv_aload_n hx hb dX11_bring_17 rfl (lv_at hl 2 rfl) ?_
  refine mr_value S X Z hin hl_35 dX11_bring_18 ?_
  refine lv_iload hx hb dX11_bring_21 (lv_at hl 0 rfl) ?_
  refine g_iald S X Z ml_value rfl dX11_bring_23 h (fun v3 h => ?_)
  refine mp_gotValue S X Z hin hl_231 dX11_bring_24 h (fun M4 H locs Z h => ?_)
  refine lv_aload_n hx hb dX11_bring_27 rfl (lv_at hl 2 rfl) ?_
  refine lv_aload_n hx hb dX11_bring_28 rfl (lv_at hl 2 rfl) ?_
  refine mr_vector S X Z hin hl_41 dX11_bring_29 ?_
  refine lv_iload hx hb dX11_bring_32 (lv_at hl 0 rfl) ?_
  refine lv_aload_n hx hb dX11_bring_34 rfl (lv_at hl 2 rfl) ?_
  refine mr_gotVector S X Z hin hl_116 dX11_bring_35 ?_
  refine lv_iconst (v := (0 : Int32)) hx hb dX11_bring_38 (by decide) ?_
  obtain ⟨M6, hc5, h⟩ := o1_e h
  refine g_Vv (As := [.ref (A m_vector), .int x2, .ref (A m_gotVector), .int (0 : Int32)]) (rest := []) S X Z mlv_o rfl rfl (t_X11_copyTo l D dA A hJ ⟨ml_vector, rfl⟩ ⟨ml_gotVector, rfl⟩ hc5) (cwV 4 hts (mGV (mB 139 rfl) (mB 140 rfl) (mB 141 rfl) (mB 63 rfl) (mB 97 rfl)) rfl rfl rfl (by decide +kernel) ⟨Nat.le_of_ble_eq_true rfl, Nat.le_of_ble_eq_true rfl⟩) rfl hl.1 rfl (Nat.le_of_ble_eq_true rfl) dX11_bring_39 ⟨Nat.zero_le _, Nat.zero_le _⟩ (fun H locs Z => ?_)
  refine lv_iconst (v := (0 : Int32)) hx hb dX11_bring_42 (by decide) ?_
  refine lv_istore (lv' := [(8, .int (0 : Int32)), (7, .int x2), (6, .int x1), (0, .ref (A m_o)), (1, .int a1), (2, .int a2), (3, .int a3), (4, .int a4), (5, .int a5)]) hx hb dX11_bring_43 hl (by decide) rfl (fun ls hl => ?_)
  obtain ⟨J91, eJ91, h⟩ := jn_e h
  have hJ91 : ∀ (M7 : gM) (H : Heap) (locs : List Loc) (ls : Array Slot), gZ D mLay dA mLive A (gA mLive A) s.heap M7 H locs → lv_has ls 10 [(0, .ref (A m_o)), (1, .int a1), (2, .int a2), (3, .int a3), (4, .int a4), (5, .int a5), (6, .int x1), (7, .int x2)] → J91 M7 = some y → W p l e (headSpec wmX11_bring ({ frames := 3, cells := 0, slots := 0, locals := 73 } : Room)).room s m args below meth c H locs 0 0 (MQ below (mQv D dA A y) args s 0 0 (gA mLive A)) (F0 m 91 ls []) := by
    intro M7 H locs ls Z hl h
    rw [eJ91] at h
    try dsimp only at h
    refine lv_aload_n hx hb dX11_bring_91 rfl (lv_at hl 0 rfl) ?_
    refine lv_iload_n hx hb dX11_bring_92 rfl (lv_at hl 1 rfl) ?_
    refine lv_aload_n hx hb dX11_bring_93 rfl (lv_at hl 0 rfl) ?_
    refine lv_iload_n hx hb dX11_bring_94 rfl (lv_at hl 2 rfl) ?_
    refine lv_aload_n hx hb dX11_bring_95 rfl (lv_at hl 0 rfl) ?_
    refine mr_size S X Z hin hl_38 dX11_bring_96 ?_
    refine lv_iload hx hb dX11_bring_99 (lv_at hl 7 rfl) ?_
    refine g_iald S X Z ml_size rfl dX11_bring_101 h (fun v8 h => ?_)
    obtain ⟨v10, hc9, h⟩ := o1_e h
    refine g_Vi (As := [.int a2, .int v8]) (rest := [.int a1, .ref (A m_o)]) S X Z mlv_o rfl rfl (t_X11_weight l D dA A hJ  hc9) (cwV 2 hts (mGV (mB 114 rfl) (mB 115 rfl) (mB 116 rfl) (mB 63 rfl) (mB 112 rfl)) rfl rfl rfl (by decide +kernel) ⟨Nat.le_of_ble_eq_true rfl, Nat.le_of_ble_eq_true rfl⟩) rfl hl.1 rfl (Nat.le_of_ble_eq_true rfl) dX11_bring_102 ⟨Nat.zero_le _, Nat.zero_le _⟩ (fun H locs Z => ?_)
    refine lv_aload_n hx hb dX11_bring_105 rfl (lv_at hl 0 rfl) ?_
    refine lv_iload_n hx hb dX11_bring_106 rfl (lv_at hl 1 rfl) ?_
    refine lv_iload_n hx hb dX11_bring_107 rfl (lv_at hl 2 rfl) ?_
    obtain ⟨v12, hc11, h⟩ := o1_e h
    refine g_Vi (As := [.int a1, .int a2]) (rest := [.int v10, .int a1, .ref (A m_o)]) S X Z mlv_o rfl rfl (t_X11_weightKept l D dA A hJ  hc11) (cwV 2 hts (mGV (mB 123 rfl) (mB 124 rfl) (mB 125 rfl) (mB 63 rfl) (mB 113 rfl)) rfl rfl rfl (by decide +kernel) ⟨Nat.le_of_ble_eq_true rfl, Nat.le_of_ble_eq_true rfl⟩) rfl hl.1 rfl (Nat.le_of_ble_eq_true rfl) dX11_bring_108 ⟨Nat.zero_le _, Nat.zero_le _⟩ (fun H locs Z => ?_)
    refine lv_isub hx hb dX11_bring_111 ?_
    refine lv_iload_n hx hb dX11_bring_112 rfl (lv_at hl 2 rfl) ?_
    refine lv_iload hx hb dX11_bring_113 (lv_at hl 5 rfl) ?_
    obtain ⟨v15, M14, hc13, h⟩ := ob_e h
    refine g_Vi (As := [.int a1, .int (v10 - v12), .int a2, .int a5]) (rest := []) S X Z mlv_o rfl rfl (t_X11_makeRoom l D dA A hJ  hc13) (cwV 4 hts (mGV (mB 147 rfl) (mB 148 rfl) (mB 149 rfl) (mB 63 rfl) (mB 135 rfl)) rfl rfl rfl (by decide +kernel) ⟨Nat.le_of_ble_eq_true rfl, Nat.le_of_ble_eq_true rfl⟩) rfl hl.1 rfl (Nat.le_of_ble_eq_true rfl) dX11_bring_115 ⟨Nat.zero_le _, Nat.zero_le _⟩ (fun H locs Z => ?_)
    refine lv_if_ne (tgt := 128) hx hb dX11_bring_118 (by decide) (fun c16 => ?_) (fun c16 => ?_)
    · have h := if_f c16 h
      refine lv_aload_n hx hb dX11_bring_128 rfl (lv_at hl 0 rfl) ?_
      refine lv_dup hx hb dX11_bring_129 rfl ?_
      refine mr_came S X Z hin hl_272 dX11_bring_130 h (fun v17 h => ?_)
      refine lv_iconst (v := (1 : Int32)) hx hb dX11_bring_133 (by decide) ?_
      refine lv_iadd hx hb dX11_bring_134 ?_
      refine mp_came S X Z hin hl_272 dX11_bring_135 h (fun M18 H locs Z h => ?_)
      refine lv_aload_n hx hb dX11_bring_138 rfl (lv_at hl 0 rfl) ?_
      refine mr_kept S X Z hin hl_65 dX11_bring_139 ?_
      refine lv_iload hx hb dX11_bring_142 (lv_at hl 6 rfl) ?_
      refine lv_iconst (v := (1 : Int32)) hx hb dX11_bring_144 (by decide) ?_
      refine g_zast S X Z ml_kept rfl dX11_bring_145 h (fun M19 H locs Z h => ?_)
      refine lv_aload_n hx hb dX11_bring_146 rfl (lv_at hl 0 rfl) ?_
      refine mr_dirty S X Z hin hl_80 dX11_bring_147 ?_
      refine lv_iload hx hb dX11_bring_150 (lv_at hl 6 rfl) ?_
      refine lv_iconst (v := (0 : Int32)) hx hb dX11_bring_152 (by decide) ?_
      refine g_zast S X Z ml_dirty rfl dX11_bring_153 h (fun M20 H locs Z h => ?_)
      refine lv_aload_n hx hb dX11_bring_154 rfl (lv_at hl 0 rfl) ?_
      refine mr_keptValue S X Z hin hl_68 dX11_bring_155 ?_
      refine lv_iload hx hb dX11_bring_158 (lv_at hl 6 rfl) ?_
      refine lv_aload_n hx hb dX11_bring_160 rfl (lv_at hl 0 rfl) ?_
      refine mr_value S X Z hin hl_35 dX11_bring_161 ?_
      refine lv_iload hx hb dX11_bring_164 (lv_at hl 7 rfl) ?_
      refine g_iald S X Z ml_value rfl dX11_bring_166 h (fun v21 h => ?_)
      refine g_iast S X Z ml_keptValue rfl dX11_bring_167 h (fun M22 H locs Z h => ?_)
      refine lv_aload_n hx hb dX11_bring_168 rfl (lv_at hl 0 rfl) ?_
      refine mr_keptSize S X Z hin hl_71 dX11_bring_169 ?_
      refine lv_iload hx hb dX11_bring_172 (lv_at hl 6 rfl) ?_
      refine lv_aload_n hx hb dX11_bring_174 rfl (lv_at hl 0 rfl) ?_
      refine mr_size S X Z hin hl_38 dX11_bring_175 ?_
      refine lv_iload hx hb dX11_bring_178 (lv_at hl 7 rfl) ?_
      refine g_iald S X Z ml_size rfl dX11_bring_180 h (fun v23 h => ?_)
      refine g_iast S X Z ml_keptSize rfl dX11_bring_181 h (fun M24 H locs Z h => ?_)
      refine lv_aload_n hx hb dX11_bring_182 rfl (lv_at hl 0 rfl) ?_
      refine lv_aload_n hx hb dX11_bring_183 rfl (lv_at hl 0 rfl) ?_
      refine mr_vector S X Z hin hl_41 dX11_bring_184 ?_
      refine lv_iload hx hb dX11_bring_187 (lv_at hl 7 rfl) ?_
      refine lv_aload_n hx hb dX11_bring_189 rfl (lv_at hl 0 rfl) ?_
      refine mr_keptVector S X Z hin hl_74 dX11_bring_190 ?_
      refine lv_iload hx hb dX11_bring_193 (lv_at hl 6 rfl) ?_
      obtain ⟨M26, hc25, h⟩ := o1_e h
      refine g_Vv (As := [.ref (A m_vector), .int x2, .ref (A m_keptVector), .int x1]) (rest := []) S X Z mlv_o rfl rfl (t_X11_copyTo l D dA A hJ ⟨ml_vector, rfl⟩ ⟨ml_keptVector, rfl⟩ hc25) (cwV 4 hts (mGV (mB 139 rfl) (mB 140 rfl) (mB 141 rfl) (mB 63 rfl) (mB 97 rfl)) rfl rfl rfl (by decide +kernel) ⟨Nat.le_of_ble_eq_true rfl, Nat.le_of_ble_eq_true rfl⟩) rfl hl.1 rfl (Nat.le_of_ble_eq_true rfl) dX11_bring_195 ⟨Nat.zero_le _, Nat.zero_le _⟩ (fun H locs Z => ?_)
      refine lv_iconst (v := (1 : Int32)) hx hb dX11_bring_198 (by decide) ?_
      refine lv_istore (lv' := [(8, .int (1 : Int32)), (0, .ref (A m_o)), (1, .int a1), (2, .int a2), (3, .int a3), (4, .int a4), (5, .int a5), (6, .int x1), (7, .int x2)]) hx hb dX11_bring_199 hl (by decide) rfl (fun ls hl => ?_)
      obtain ⟨J276, eJ276, h⟩ := jn_e h
      have hJ276 : ∀ (M27 : gM) (H : Heap) (locs : List Loc) (ls : Array Slot), gZ D mLay dA mLive A (gA mLive A) s.heap M27 H locs → lv_has ls 10 [(0, .ref (A m_o)), (1, .int a1), (2, .int a2), (4, .int a4), (6, .int x1), (7, .int x2)] → J276 M27 = some y → W p l e (headSpec wmX11_bring ({ frames := 3, cells := 0, slots := 0, locals := 73 } : Room)).room s m args below meth c H locs 0 0 (MQ below (mQv D dA A y) args s 0 0 (gA mLive A)) (F0 m 276 ls []) := by
        intro M27 H locs ls Z hl h
        rw [eJ276] at h
        try dsimp only at h
        refine lv_aload_n hx hb dX11_bring_276 rfl (lv_at hl 0 rfl) ?_
        refine mr_promised S X Z hin hl_77 dX11_bring_277 ?_
        refine lv_iload hx hb dX11_bring_280 (lv_at hl 4 rfl) ?_
        refine lv_iconst (v := (0 : Int32)) hx hb dX11_bring_282 (by decide) ?_
        refine g_iast S X Z ml_promised rfl dX11_bring_283 h (fun M28 H locs Z h => ?_)
        refine lv_iconst (v := (0 : Int32)) hx hb dX11_bring_284 (by decide) ?_
        refine lv_istore (lv' := [(8, .int (0 : Int32)), (0, .ref (A m_o)), (1, .int a1), (2, .int a2), (4, .int a4), (6, .int x1), (7, .int x2)]) hx hb dX11_bring_285 hl (by decide) rfl (fun ls hl => ?_)
        obtain ⟨J393, eJ393, h⟩ := jn_e h
        have hJ393 : ∀ (M29 : gM) (H : Heap) (locs : List Loc) (ls : Array Slot), gZ D mLay dA mLive A (gA mLive A) s.heap M29 H locs → lv_has ls 10 [(0, .ref (A m_o)), (1, .int a1), (2, .int a2)] → J393 M29 = some y → W p l e (headSpec wmX11_bring ({ frames := 3, cells := 0, slots := 0, locals := 73 } : Room)).room s m args below meth c H locs 0 0 (MQ below (mQv D dA A y) args s 0 0 (gA mLive A)) (F0 m 393 ls []) := by
          intro M29 H locs ls Z hl h
          rw [eJ393] at h
          try dsimp only at h
          refine lv_aload_n hx hb dX11_bring_393 rfl (lv_at hl 0 rfl) ?_
          refine lv_iload_n hx hb dX11_bring_394 rfl (lv_at hl 1 rfl) ?_
          refine lv_iload_n hx hb dX11_bring_395 rfl (lv_at hl 2 rfl) ?_
          obtain ⟨M31, hc30, h⟩ := o1_e h
          refine g_Vv (As := [.int a1, .int a2]) (rest := []) S X Z mlv_o rfl rfl (t_X11_use l D dA A hJ  hc30) (cwV 2 hts (mGV (mB 153 rfl) (mB 154 rfl) (mB 155 rfl) (mB 63 rfl) (mB 117 rfl)) rfl rfl rfl (by decide +kernel) ⟨Nat.le_of_ble_eq_true rfl, Nat.le_of_ble_eq_true rfl⟩) rfl hl.1 rfl (Nat.le_of_ble_eq_true rfl) dX11_bring_396 ⟨Nat.zero_le _, Nat.zero_le _⟩ (fun H locs Z => ?_)
          have hy := Option.some.inj h
          subst hy
          exact g_rv S Z hr hlocks dX11_bring_399
        have hL287 : ∀ (n : Nat) (x32 : Int32) (M33 : gM) (H : Heap) (locs : List Loc) (ls : Array Slot), gZ D mLay dA mLive A (gA mLive A) s.heap M33 H locs → lv_has ls 10 [(0, .ref (A m_o)), (1, .int a1), (2, .int a2), (4, .int a4), (6, .int x1), (7, .int x2), (8, .int x32)] → f_X11_bring_L287 a1 a2 a4 x1 x2 J393 n x32 M33 = some y → W p l e (headSpec wmX11_bring ({ frames := 3, cells := 0, slots := 0, locals := 73 } : Room)).room s m args below meth c H locs 0 0 (MQ below (mQv D dA A y) args s 0 0 (gA mLive A)) (F0 m 287 ls []) := by
          intro n
          induction n with
          | zero =>
            intro x32 M33 H locs ls Z hl h
            rw [f_X11_bring_L287] at h
            cases h
          | succ n34 ih287 =>
            intro x32 M33 H locs ls Z hl h
            rw [f_X11_bring_L287] at h
            refine lv_iload hx hb dX11_bring_287 (lv_at hl 6 rfl) ?_
            refine lv_aload_n hx hb dX11_bring_289 rfl (lv_at hl 0 rfl) ?_
            refine mr_servers S X Z hin hl_155 dX11_bring_290 h (fun v35 h => ?_)
            refine lv_icmp_ge (tgt := 393) hx hb dX11_bring_293 (by decide) (fun c36 => ?_) (fun c36 => ?_)
            · have h := if_t c36 h
              exact hJ393 M33 _ _ _ Z (lv_sub hl [0, 1, 2] rfl) h
            · have h := if_f c36 h
              refine lv_iload hx hb dX11_bring_296 (lv_at hl 3 rfl) ?_
              refine lv_iload hx hb dX11_bring_298 (lv_at hl 6 rfl) ?_
              refine lv_ishr hx hb dX11_bring_300 ?_
              refine lv_iconst (v := (1 : Int32)) hx hb dX11_bring_301 (by decide) ?_
              refine lv_iand hx hb dX11_bring_302 ?_
              refine lv_iconst (v := (1 : Int32)) hx hb dX11_bring_303 (by decide) ?_
              obtain ⟨J351, eJ351, h⟩ := jn_e h
              have hJ351 : ∀ (b37 : Int32) (M38 : gM) (H : Heap) (locs : List Loc) (ls : Array Slot), gZ D mLay dA mLive A (gA mLive A) s.heap M38 H locs → lv_has ls 10 [(0, .ref (A m_o)), (1, .int a1), (2, .int a2), (4, .int a4), (6, .int x1), (7, .int x2), (8, .int x32)] → J351 (b37, M38) = some y → W p l e (headSpec wmX11_bring ({ frames := 3, cells := 0, slots := 0, locals := 73 } : Room)).room s m args below meth c H locs 0 0 (MQ below (mQv D dA A y) args s 0 0 (gA mLive A)) (F0 m 351 ls [.int b37]) := by
                intro b37 M38 H locs ls Z hl h
                rw [eJ351] at h
                try dsimp only at h
                refine lv_istore (lv' := [(9, .int b37), (0, .ref (A m_o)), (1, .int a1), (2, .int a2), (4, .int a4), (6, .int x1), (7, .int x2), (8, .int x32)]) hx hb dX11_bring_351 hl (by decide) rfl (fun ls hl => ?_)
                refine lv_aload_n hx hb dX11_bring_353 rfl (lv_at hl 1 rfl) ?_
                refine mr_promised S X Z hin hl_77 dX11_bring_354 ?_
                refine lv_iload hx hb dX11_bring_357 (lv_at hl 5 rfl) ?_
                refine lv_iload hx hb dX11_bring_359 (lv_at hl 0 rfl) ?_
                obtain ⟨J386, eJ386, h⟩ := jn_e h
                have hJ386 : ∀ (b39 : Int32) (M40 : gM) (H : Heap) (locs : List Loc) (ls : Array Slot), gZ D mLay dA mLive A (gA mLive A) s.heap M40 H locs → lv_has ls 10 [(0, .ref (A m_o)), (1, .int a1), (2, .int a2), (4, .int a4), (6, .int x1), (7, .int x2), (8, .int x32)] → J386 (b39, M40) = some y → W p l e (headSpec wmX11_bring ({ frames := 3, cells := 0, slots := 0, locals := 73 } : Room)).room s m args below meth c H locs 0 0 (MQ below (mQv D dA A y) args s 0 0 (gA mLive A)) (F0 m 386 ls [.int b39, .int x1, .ref (A m_promised)]) := by
                  intro b39 M40 H locs ls Z hl h
                  rw [eJ386] at h
                  try dsimp only at h
                  refine g_iast S X Z ml_promised rfl dX11_bring_386 h (fun M41 H locs Z h => ?_)
                  obtain ⟨x42, ex42, h⟩ := lt_e h
                  refine lv_iinc (v := x42) (lv' := [(8, .int x42), (0, .ref (A m_o)), (1, .int a1), (2, .int a2), (4, .int a4), (6, .int x1), (7, .int x2)]) hx hb dX11_bring_387 hl (k := 6) rfl (by rw [ex42]; rfl) (by decide) rfl (fun ls hl => ?_)
                  refine lv_goto (tgt := 287) hx hb dX11_bring_390 (by decide) ?_
                  exact ih287 x42 M41 _ _ _ Z (lv_sub hl [1, 2, 3, 4, 5, 6, 0] rfl) h
                refine lv_if_eq (tgt := 379) hx hb dX11_bring_361 (by decide) (fun c43 => ?_) (fun c43 => ?_)
                · have h := if_t c43 h
                  refine lv_aload_n hx hb dX11_bring_379 rfl (lv_at hl 1 rfl) ?_
                  refine mr_promised S X Z hin hl_77 dX11_bring_380 ?_
                  refine lv_iload hx hb dX11_bring_383 (lv_at hl 5 rfl) ?_
                  refine g_iald S X Z ml_promised rfl dX11_bring_385 h (fun v44 h => ?_)
                  exact hJ386 v44 M38 _ _ _ Z (lv_sub hl [1, 2, 3, 4, 5, 6, 7] rfl) h
                · have h := if_f c43 h
                  refine lv_aload_n hx hb dX11_bring_364 rfl (lv_at hl 1 rfl) ?_
                  refine mr_promised S X Z hin hl_77 dX11_bring_365 ?_
                  refine lv_iload hx hb dX11_bring_368 (lv_at hl 5 rfl) ?_
                  refine g_iald S X Z ml_promised rfl dX11_bring_370 h (fun v45 h => ?_)
                  refine lv_iconst (v := (1 : Int32)) hx hb dX11_bring_371 (by decide) ?_
                  refine lv_iload hx hb dX11_bring_372 (lv_at hl 7 rfl) ?_
                  refine lv_ishl hx hb dX11_bring_374 ?_
                  refine lv_ior hx hb dX11_bring_375 ?_
                  refine lv_goto (tgt := 386) hx hb dX11_bring_376 (by decide) ?_
                  exact hJ386 (v45 ||| ((1 : Int32) <<< (x32 &&& 31))) M38 _ _ _ Z (lv_sub hl [1, 2, 3, 4, 5, 6, 7] rfl) h
              obtain ⟨J350, eJ350, h⟩ := jn_e h
              have hJ350 : ∀ (M46 : gM) (H : Heap) (locs : List Loc) (ls : Array Slot), gZ D mLay dA mLive A (gA mLive A) s.heap M46 H locs → lv_has ls 10 [(0, .ref (A m_o)), (1, .int a1), (2, .int a2), (4, .int a4), (6, .int x1), (7, .int x2), (8, .int x32)] → J350 M46 = some y → W p l e (headSpec wmX11_bring ({ frames := 3, cells := 0, slots := 0, locals := 73 } : Room)).room s m args below meth c H locs 0 0 (MQ below (mQv D dA A y) args s 0 0 (gA mLive A)) (F0 m 350 ls []) := by
                intro M46 H locs ls Z hl h
                rw [eJ350] at h
                try dsimp only at h
                refine lv_iconst (v := (0 : Int32)) hx hb dX11_bring_350 (by decide) ?_
                exact hJ351 (0 : Int32) M46 _ _ _ Z (lv_sub hl [0, 1, 2, 3, 4, 5, 6] rfl) h
              refine lv_icmp_ne (tgt := 350) hx hb dX11_bring_304 (by decide) (fun c47 => ?_) (fun c47 => ?_)
              · have h := if_f c47 h
                exact hJ350 M33 _ _ _ Z (lv_sub hl [0, 1, 2, 3, 4, 5, 6] rfl) h
              · have h := if_t c47 h
                refine lv_aload_n hx hb dX11_bring_307 rfl (lv_at hl 0 rfl) ?_
                refine mr_versions S X Z hin hl_44 dX11_bring_308 ?_
                refine lv_bipush (v := (48 : Int32)) hx hb dX11_bring_311 (by decide) ?_
                refine lv_iload hx hb dX11_bring_313 (lv_at hl 6 rfl) ?_
                refine lv_imul hx hb dX11_bring_315 ?_
                refine lv_iload_n hx hb dX11_bring_316 rfl (lv_at hl 2 rfl) ?_
                refine lv_iadd hx hb dX11_bring_317 ?_
                refine g_iald S X Z ml_versions rfl dX11_bring_318 h (fun v48 h => ?_)
                refine lv_if_ne (tgt := 350) hx hb dX11_bring_319 (by decide) (fun c49 => ?_) (fun c49 => ?_)
                · have h := if_f c49 h
                  exact hJ350 M33 _ _ _ Z (lv_sub hl [0, 1, 2, 3, 4, 5, 6] rfl) h
                · have h := if_t c49 h
                  refine lv_aload_n hx hb dX11_bring_322 rfl (lv_at hl 0 rfl) ?_
                  refine lv_aload_n hx hb dX11_bring_323 rfl (lv_at hl 0 rfl) ?_
                  refine mr_vector S X Z hin hl_41 dX11_bring_324 ?_
                  refine lv_bipush (v := (48 : Int32)) hx hb dX11_bring_327 (by decide) ?_
                  refine lv_iload hx hb dX11_bring_329 (lv_at hl 6 rfl) ?_
                  refine lv_imul hx hb dX11_bring_331 ?_
                  refine lv_iload_n hx hb dX11_bring_332 rfl (lv_at hl 2 rfl) ?_
                  refine lv_iadd hx hb dX11_bring_333 ?_
                  refine lv_aload_n hx hb dX11_bring_334 rfl (lv_at hl 0 rfl) ?_
                  refine mr_vector S X Z hin hl_41 dX11_bring_335 ?_
                  refine lv_iload hx hb dX11_bring_338 (lv_at hl 5 rfl) ?_
                  obtain ⟨v51, hc50, h⟩ := o1_e h
                  refine g_Vi (As := [.ref (A m_vector), .int (((48 : Int32) * x32) + a2), .ref (A m_vector), .int x2]) (rest := []) S X Z mlv_o rfl rfl (t_X11_isSame l D dA A hJ ⟨ml_vector, rfl⟩ ⟨ml_vector, rfl⟩ hc50) (cwV 4 hts (mGV (mB 150 rfl) (mB 151 rfl) (mB 152 rfl) (mB 63 rfl) (mB 96 rfl)) rfl rfl rfl (by decide +kernel) ⟨Nat.le_of_ble_eq_true rfl, Nat.le_of_ble_eq_true rfl⟩) rfl hl.1 rfl (Nat.le_of_ble_eq_true rfl) dX11_bring_340 ⟨Nat.zero_le _, Nat.zero_le _⟩ (fun H locs Z => ?_)
                  refine lv_if_eq (tgt := 350) hx hb dX11_bring_343 (by decide) (fun c52 => ?_) (fun c52 => ?_)
                  · have h := if_t c52 h
                    exact hJ350 M33 _ _ _ Z (lv_sub hl [0, 1, 2, 3, 4, 5, 6] rfl) h
                  · have h := if_f c52 h
                    refine lv_iconst (v := (1 : Int32)) hx hb dX11_bring_346 (by decide) ?_
                    refine lv_goto (tgt := 351) hx hb dX11_bring_347 (by decide) ?_
                    exact hJ351 (1 : Int32) M33 _ _ _ Z (lv_sub hl [0, 1, 2, 3, 4, 5, 6] rfl) h
        exact hL287 100 (0 : Int32) M28 _ _ _ Z (lv_sub hl [1, 2, 3, 4, 5, 6, 0] rfl) h
      have hL201 : ∀ (n : Nat) (x53 : Int32) (M54 : gM) (H : Heap) (locs : List Loc) (ls : Array Slot), gZ D mLay dA mLive A (gA mLive A) s.heap M54 H locs → lv_has ls 10 [(0, .ref (A m_o)), (1, .int a1), (2, .int a2), (3, .int a3), (4, .int a4), (6, .int x1), (7, .int x2), (8, .int x53)] → f_X11_bring_L201 a1 a2 a3 a4 x1 x2 J276 n x53 M54 = some y → W p l e (headSpec wmX11_bring ({ frames := 3, cells := 0, slots := 0, locals := 73 } : Room)).room s m args below meth c H locs 0 0 (MQ below (mQv D dA A y) args s 0 0 (gA mLive A)) (F0 m 201 ls []) := by
        intro n
        induction n with
        | zero =>
          intro x53 M54 H locs ls Z hl h
          rw [f_X11_bring_L201] at h
          cases h
        | succ n55 ih201 =>
          intro x53 M54 H locs ls Z hl h
          rw [f_X11_bring_L201] at h
          refine lv_iload hx hb dX11_bring_201 (lv_at hl 7 rfl) ?_
          refine lv_aload_n hx hb dX11_bring_203 rfl (lv_at hl 0 rfl) ?_
          refine mr_made S X Z hin hl_162 dX11_bring_204 h (fun v56 h => ?_)
          refine lv_icmp_ge (tgt := 276) hx hb dX11_bring_207 (by decide) (fun c57 => ?_) (fun c57 => ?_)
          · have h := if_t c57 h
            exact hJ276 M54 _ _ _ Z (lv_sub hl [0, 1, 2, 4, 5, 6] rfl) h
          · have h := if_f c57 h
            refine lv_aload_n hx hb dX11_bring_210 rfl (lv_at hl 0 rfl) ?_
            refine lv_iload hx hb dX11_bring_211 (lv_at hl 7 rfl) ?_
            refine lv_iload_n hx hb dX11_bring_213 rfl (lv_at hl 2 rfl) ?_
            obtain ⟨v59, hc58, h⟩ := o1_e h
            refine g_Vi (As := [.int x53, .int a2]) (rest := []) S X Z mlv_o rfl rfl (t_X11_isChild l D dA A hJ  hc58) (cwV 2 hts (mGV (mB 104 rfl) (mB 105 rfl) (mB 106 rfl) (mB 63 rfl) (mB 102 rfl)) rfl rfl rfl (by decide +kernel) ⟨Nat.le_of_ble_eq_true rfl, Nat.le_of_ble_eq_true rfl⟩) rfl hl.1 rfl (Nat.le_of_ble_eq_true rfl) dX11_bring_214 ⟨Nat.zero_le _, Nat.zero_le _⟩ (fun H locs Z => ?_)
            obtain ⟨J270, eJ270, h⟩ := jn_e h
            have hJ270 : ∀ (M60 : gM) (H : Heap) (locs : List Loc) (ls : Array Slot), gZ D mLay dA mLive A (gA mLive A) s.heap M60 H locs → lv_has ls 10 [(0, .ref (A m_o)), (1, .int a1), (2, .int a2), (3, .int a3), (4, .int a4), (6, .int x1), (7, .int x2), (8, .int x53)] → J270 M60 = some y → W p l e (headSpec wmX11_bring ({ frames := 3, cells := 0, slots := 0, locals := 73 } : Room)).room s m args below meth c H locs 0 0 (MQ below (mQv D dA A y) args s 0 0 (gA mLive A)) (F0 m 270 ls []) := by
              intro M60 H locs ls Z hl h
              rw [eJ270] at h
              try dsimp only at h
              obtain ⟨x61, ex61, h⟩ := lt_e h
              refine lv_iinc (v := x61) (lv' := [(8, .int x61), (0, .ref (A m_o)), (1, .int a1), (2, .int a2), (3, .int a3), (4, .int a4), (6, .int x1), (7, .int x2)]) hx hb dX11_bring_270 hl (k := 7) rfl (by rw [ex61]; rfl) (by decide) rfl (fun ls hl => ?_)
              refine lv_goto (tgt := 201) hx hb dX11_bring_273 (by decide) ?_
              exact ih201 x61 M60 _ _ _ Z (lv_sub hl [1, 2, 3, 4, 5, 6, 7, 0] rfl) h
            refine lv_if_eq (tgt := 270) hx hb dX11_bring_217 (by decide) (fun c62 => ?_) (fun c62 => ?_)
            · have h := if_t c62 h
              exact hJ270 M54 _ _ _ Z (lv_sub hl [0, 1, 2, 3, 4, 5, 6, 7] rfl) h
            · have h := if_f c62 h
              refine lv_aload_n hx hb dX11_bring_220 rfl (lv_at hl 0 rfl) ?_
              refine mr_keptEntry S X Z hin hl_89 dX11_bring_221 ?_
              refine lv_bipush (v := (48 : Int32)) hx hb dX11_bring_224 (by decide) ?_
              refine lv_iload_n hx hb dX11_bring_226 rfl (lv_at hl 1 rfl) ?_
              refine lv_imul hx hb dX11_bring_227 ?_
              refine lv_iload hx hb dX11_bring_228 (lv_at hl 7 rfl) ?_
              refine lv_iadd hx hb dX11_bring_230 ?_
              refine lv_aload_n hx hb dX11_bring_231 rfl (lv_at hl 0 rfl) ?_
              refine mr_entry S X Z hin hl_56 dX11_bring_232 ?_
              refine lv_bipush (v := (48 : Int32)) hx hb dX11_bring_235 (by decide) ?_
              refine lv_iload_n hx hb dX11_bring_237 rfl (lv_at hl 3 rfl) ?_
              refine lv_imul hx hb dX11_bring_238 ?_
              refine lv_iload hx hb dX11_bring_239 (lv_at hl 7 rfl) ?_
              refine lv_iadd hx hb dX11_bring_241 ?_
              refine g_iald S X Z ml_entry rfl dX11_bring_242 h (fun v63 h => ?_)
              refine g_iast S X Z ml_keptEntry rfl dX11_bring_243 h (fun M64 H locs Z h => ?_)
              refine lv_aload_n hx hb dX11_bring_244 rfl (lv_at hl 0 rfl) ?_
              refine lv_aload_n hx hb dX11_bring_245 rfl (lv_at hl 0 rfl) ?_
              refine mr_gone S X Z hin hl_59 dX11_bring_246 ?_
              refine lv_bipush (v := (48 : Int32)) hx hb dX11_bring_249 (by decide) ?_
              refine lv_iload_n hx hb dX11_bring_251 rfl (lv_at hl 3 rfl) ?_
              refine lv_imul hx hb dX11_bring_252 ?_
              refine lv_iload hx hb dX11_bring_253 (lv_at hl 7 rfl) ?_
              refine lv_iadd hx hb dX11_bring_255 ?_
              refine lv_aload_n hx hb dX11_bring_256 rfl (lv_at hl 0 rfl) ?_
              refine mr_keptGone S X Z hin hl_92 dX11_bring_257 ?_
              refine lv_bipush (v := (48 : Int32)) hx hb dX11_bring_260 (by decide) ?_
              refine lv_iload_n hx hb dX11_bring_262 rfl (lv_at hl 1 rfl) ?_
              refine lv_imul hx hb dX11_bring_263 ?_
              refine lv_iload hx hb dX11_bring_264 (lv_at hl 7 rfl) ?_
              refine lv_iadd hx hb dX11_bring_266 ?_
              obtain ⟨M66, hc65, h⟩ := o1_e h
              refine g_Vv (As := [.ref (A m_gone), .int (((48 : Int32) * a3) + x53), .ref (A m_keptGone), .int (((48 : Int32) * a1) + x53)]) (rest := []) S X Z mlv_o rfl rfl (t_X11_copyTo l D dA A hJ ⟨ml_gone, rfl⟩ ⟨ml_keptGone, rfl⟩ hc65) (cwV 4 hts (mGV (mB 139 rfl) (mB 140 rfl) (mB 141 rfl) (mB 63 rfl) (mB 97 rfl)) rfl rfl rfl (by decide +kernel) ⟨Nat.le_of_ble_eq_true rfl, Nat.le_of_ble_eq_true rfl⟩) rfl hl.1 rfl (Nat.le_of_ble_eq_true rfl) dX11_bring_267 ⟨Nat.zero_le _, Nat.zero_le _⟩ (fun H locs Z => ?_)
              exact hJ270 M66 _ _ _ Z (lv_sub hl [0, 1, 2, 3, 4, 5, 6, 7] rfl) h
      exact hL201 100 (1 : Int32) M26 _ _ _ Z (lv_sub hl [1, 2, 3, 4, 5, 7, 8, 0] rfl) h
    · have h := if_t c16 h
      refine lv_aload_n hx hb dX11_bring_121 rfl (lv_at hl 0 rfl) ?_
      refine lv_iload_n hx hb dX11_bring_122 rfl (lv_at hl 1 rfl) ?_
      refine lv_iload_n hx hb dX11_bring_123 rfl (lv_at hl 2 rfl) ?_
      obtain ⟨M68, hc67, h⟩ := o1_e h
      refine g_Vv (As := [.int a1, .int a2]) (rest := []) S X Z mlv_o rfl rfl (t_X11_forget l D dA A hJ  hc67) (cwV 2 hts (mGV (mB 132 rfl) (mB 133 rfl) (mB 134 rfl) (mB 63 rfl) (mB 111 rfl)) rfl rfl rfl (by decide +kernel) ⟨Nat.le_of_ble_eq_true rfl, Nat.le_of_ble_eq_true rfl⟩) rfl hl.1 rfl (Nat.le_of_ble_eq_true rfl) dX11_bring_124 ⟨Nat.zero_le _, Nat.zero_le _⟩ (fun H locs Z => ?_)
      have hy := Option.some.inj h
      subst hy
      exact g_rv S Z hr hlocks dX11_bring_127
  have hL45 : ∀ (n : Nat) (x69 : Int32) (M70 : gM) (H : Heap) (locs : List Loc) (ls : Array Slot), gZ D mLay dA mLive A (gA mLive A) s.heap M70 H locs → lv_has ls 10 [(0, .ref (A m_o)), (1, .int a1), (2, .int a2), (3, .int a3), (4, .int a4), (5, .int a5), (6, .int x1), (7, .int x2), (8, .int x69)] → f_X11_bring_L45 a1 a2 a3 a4 a5 x1 x2 J91 n x69 M70 = some y → W p l e (headSpec wmX11_bring ({ frames := 3, cells := 0, slots := 0, locals := 73 } : Room)).room s m args below meth c H locs 0 0 (MQ below (mQv D dA A y) args s 0 0 (gA mLive A)) (F0 m 45 ls []) := by
    intro n
    induction n with
    | zero =>
      intro x69 M70 H locs ls Z hl h
      rw [f_X11_bring_L45] at h
      cases h
    | succ n71 ih45 =>
      intro x69 M70 H locs ls Z hl h
      rw [f_X11_bring_L45] at h
      refine lv_iload hx hb dX11_bring_45 (lv_at hl 8 rfl) ?_
      refine lv_bipush (v := (48 : Int32)) hx hb dX11_bring_47 (by decide) ?_
      refine lv_icmp_ge (tgt := 91) hx hb dX11_bring_49 (by decide) (fun c72 => ?_) (fun c72 => ?_)
      · have h := if_t c72 h
        exact hJ91 M70 _ _ _ Z (lv_sub hl [0, 1, 2, 3, 4, 5, 6, 7] rfl) h
      · have h := if_f c72 h
        refine lv_aload_n hx hb dX11_bring_52 rfl (lv_at hl 0 rfl) ?_
        refine mr_gotEntry S X Z hin hl_119 dX11_bring_53 ?_
        refine lv_iload hx hb dX11_bring_56 (lv_at hl 8 rfl) ?_
        refine lv_aload_n hx hb dX11_bring_58 rfl (lv_at hl 0 rfl) ?_
        refine lv_iload hx hb dX11_bring_59 (lv_at hl 8 rfl) ?_
        refine lv_iload_n hx hb dX11_bring_61 rfl (lv_at hl 2 rfl) ?_
        obtain ⟨v74, hc73, h⟩ := o1_e h
        refine g_Vi (As := [.int x69, .int a2]) (rest := [.int x69, .ref (A m_gotEntry)]) S X Z mlv_o rfl rfl (t_X11_isChild l D dA A hJ  hc73) (cwV 2 hts (mGV (mB 104 rfl) (mB 105 rfl) (mB 106 rfl) (mB 63 rfl) (mB 102 rfl)) rfl rfl rfl (by decide +kernel) ⟨Nat.le_of_ble_eq_true rfl, Nat.le_of_ble_eq_true rfl⟩) rfl hl.1 rfl (Nat.le_of_ble_eq_true rfl) dX11_bring_62 ⟨Nat.zero_le _, Nat.zero_le _⟩ (fun H locs Z => ?_)
        obtain ⟨J84, eJ84, h⟩ := jn_e h
        have hJ84 : ∀ (b75 : Int32) (M76 : gM) (H : Heap) (locs : List Loc) (ls : Array Slot), gZ D mLay dA mLive A (gA mLive A) s.heap M76 H locs → lv_has ls 10 [(0, .ref (A m_o)), (1, .int a1), (2, .int a2), (3, .int a3), (4, .int a4), (5, .int a5), (6, .int x1), (7, .int x2), (8, .int x69)] → J84 (b75, M76) = some y → W p l e (headSpec wmX11_bring ({ frames := 3, cells := 0, slots := 0, locals := 73 } : Room)).room s m args below meth c H locs 0 0 (MQ below (mQv D dA A y) args s 0 0 (gA mLive A)) (F0 m 84 ls [.int b75, .int x69, .ref (A m_gotEntry)]) := by
          intro b75 M76 H locs ls Z hl h
          rw [eJ84] at h
          try dsimp only at h
          refine g_iast S X Z ml_gotEntry rfl dX11_bring_84 h (fun M77 H locs Z h => ?_)
          obtain ⟨x78, ex78, h⟩ := lt_e h
          refine lv_iinc (v := x78) (lv' := [(8, .int x78), (0, .ref (A m_o)), (1, .int a1), (2, .int a2), (3, .int a3), (4, .int a4), (5, .int a5), (6, .int x1), (7, .int x2)]) hx hb dX11_bring_85 hl (k := 8) rfl (by rw [ex78]; rfl) (by decide) rfl (fun ls hl => ?_)
          refine lv_goto (tgt := 45) hx hb dX11_bring_88 (by decide) ?_
          exact ih45 x78 M77 _ _ _ Z (lv_sub hl [1, 2, 3, 4, 5, 6, 7, 8, 0] rfl) h
        refine lv_if_eq (tgt := 83) hx hb dX11_bring_65 (by decide) (fun c79 => ?_) (fun c79 => ?_)
        · have h := if_t c79 h
          refine lv_iconst (v := (0 : Int32)) hx hb dX11_bring_83 (by decide) ?_
          exact hJ84 (0 : Int32) M70 _ _ _ Z (lv_sub hl [0, 1, 2, 3, 4, 5, 6, 7, 8] rfl) h
        · have h := if_f c79 h
          refine lv_aload_n hx hb dX11_bring_68 rfl (lv_at hl 0 rfl) ?_
          refine mr_entry S X Z hin hl_56 dX11_bring_69 ?_
          refine lv_bipush (v := (48 : Int32)) hx hb dX11_bring_72 (by decide) ?_
          refine lv_iload_n hx hb dX11_bring_74 rfl (lv_at hl 3 rfl) ?_
          refine lv_imul hx hb dX11_bring_75 ?_
          refine lv_iload hx hb dX11_bring_76 (lv_at hl 8 rfl) ?_
          refine lv_iadd hx hb dX11_bring_78 ?_
          refine g_iald S X Z ml_entry rfl dX11_bring_79 h (fun v80 h => ?_)
          refine lv_goto (tgt := 84) hx hb dX11_bring_80 (by decide) ?_
          exact hJ84 v80 M70 _ _ _ Z (lv_sub hl [0, 1, 2, 3, 4, 5, 6, 7, 8] rfl) h
  exact hL45 100 (0 : Int32) M6 _ _ _ Z (lv_sub hl [3, 4, 5, 6, 7, 8, 2, 1, 0] rfl) h
-- X11_get (III)J: 118 instructions
theorem dX11_get_0 : decode cX11_get 0 = .ok (.bipush 48, 2) := by decide +kernel
theorem dX11_get_2 : decode cX11_get 2 = .ok (.iload_n 1, 1) := by decide +kernel
theorem dX11_get_3 : decode cX11_get 3 = .ok (.imul, 1) := by decide +kernel
theorem dX11_get_4 : decode cX11_get 4 = .ok (.iload_n 2, 1) := by decide +kernel
theorem dX11_get_5 : decode cX11_get 5 = .ok (.iadd, 1) := by decide +kernel
theorem dX11_get_6 : decode cX11_get 6 = .ok (.istore 4, 2) := by decide +kernel
theorem dX11_get_8 : decode cX11_get 8 = .ok (.aload_n 0, 1) := by decide +kernel
theorem dX11_get_9 : decode cX11_get 9 = .ok (.iload_n 1, 1) := by decide +kernel
theorem dX11_get_10 : decode cX11_get 10 = .ok (.invokevirtual 238, 3) := by decide +kernel
theorem dX11_get_13 : decode cX11_get 13 = .ok (.ifCond .eq 31, 3) := by decide +kernel
theorem dX11_get_16 : decode cX11_get 16 = .ok (.aload_n 0, 1) := by decide +kernel
theorem dX11_get_17 : decode cX11_get 17 = .ok (.getfield 65, 3) := by decide +kernel
theorem dX11_get_20 : decode cX11_get 20 = .ok (.iload 4, 2) := by decide +kernel
theorem dX11_get_22 : decode cX11_get 22 = .ok (.baload, 1) := by decide +kernel
theorem dX11_get_23 : decode cX11_get 23 = .ok (.ifCond .ne 7, 3) := by decide +kernel
theorem dX11_get_26 : decode cX11_get 26 = .ok (.ldc2_w 241, 3) := by decide +kernel
theorem dX11_get_29 : decode cX11_get 29 = .ok (.lreturn, 1) := by decide +kernel
theorem dX11_get_30 : decode cX11_get 30 = .ok (.aload_n 0, 1) := by decide +kernel
theorem dX11_get_31 : decode cX11_get 31 = .ok (.iload_n 1, 1) := by decide +kernel
theorem dX11_get_32 : decode cX11_get 32 = .ok (.iload_n 2, 1) := by decide +kernel
theorem dX11_get_33 : decode cX11_get 33 = .ok (.invokevirtual 243, 3) := by decide +kernel
theorem dX11_get_36 : decode cX11_get 36 = .ok (.aload_n 0, 1) := by decide +kernel
theorem dX11_get_37 : decode cX11_get 37 = .ok (.iload_n 1, 1) := by decide +kernel
theorem dX11_get_38 : decode cX11_get 38 = .ok (.iload_n 2, 1) := by decide +kernel
theorem dX11_get_39 : decode cX11_get 39 = .ok (.invokevirtual 246, 3) := by decide +kernel
theorem dX11_get_42 : decode cX11_get 42 = .ok (.lconst 0, 1) := by decide +kernel
theorem dX11_get_43 : decode cX11_get 43 = .ok (.lreturn, 1) := by decide +kernel
theorem dX11_get_44 : decode cX11_get 44 = .ok (.aload_n 0, 1) := by decide +kernel
theorem dX11_get_45 : decode cX11_get 45 = .ok (.iload_n 1, 1) := by decide +kernel
theorem dX11_get_46 : decode cX11_get 46 = .ok (.iload_n 2, 1) := by decide +kernel
theorem dX11_get_47 : decode cX11_get 47 = .ok (.invokevirtual 249, 3) := by decide +kernel
theorem dX11_get_50 : decode cX11_get 50 = .ok (.ifCond .eq 17, 3) := by decide +kernel
theorem dX11_get_53 : decode cX11_get 53 = .ok (.aload_n 0, 1) := by decide +kernel
theorem dX11_get_54 : decode cX11_get 54 = .ok (.iload_n 1, 1) := by decide +kernel
theorem dX11_get_55 : decode cX11_get 55 = .ok (.iload_n 2, 1) := by decide +kernel
theorem dX11_get_56 : decode cX11_get 56 = .ok (.invokevirtual 243, 3) := by decide +kernel
theorem dX11_get_59 : decode cX11_get 59 = .ok (.aload_n 0, 1) := by decide +kernel
theorem dX11_get_60 : decode cX11_get 60 = .ok (.iload_n 1, 1) := by decide +kernel
theorem dX11_get_61 : decode cX11_get 61 = .ok (.iload_n 2, 1) := by decide +kernel
theorem dX11_get_62 : decode cX11_get 62 = .ok (.invokevirtual 246, 3) := by decide +kernel
theorem dX11_get_65 : decode cX11_get 65 = .ok (.lconst 0, 1) := by decide +kernel
theorem dX11_get_66 : decode cX11_get 66 = .ok (.lreturn, 1) := by decide +kernel
theorem dX11_get_67 : decode cX11_get 67 = .ok (.iconst 0, 1) := by decide +kernel
theorem dX11_get_68 : decode cX11_get 68 = .ok (.istore 5, 2) := by decide +kernel
theorem dX11_get_70 : decode cX11_get 70 = .ok (.aload_n 0, 1) := by decide +kernel
theorem dX11_get_71 : decode cX11_get 71 = .ok (.iload_n 1, 1) := by decide +kernel
theorem dX11_get_72 : decode cX11_get 72 = .ok (.invokevirtual 180, 3) := by decide +kernel
theorem dX11_get_75 : decode cX11_get 75 = .ok (.istore 6, 2) := by decide +kernel
theorem dX11_get_77 : decode cX11_get 77 = .ok (.iconst 0, 1) := by decide +kernel
theorem dX11_get_78 : decode cX11_get 78 = .ok (.istore 7, 2) := by decide +kernel
theorem dX11_get_80 : decode cX11_get 80 = .ok (.iload 7, 2) := by decide +kernel
theorem dX11_get_82 : decode cX11_get 82 = .ok (.aload_n 0, 1) := by decide +kernel
theorem dX11_get_83 : decode cX11_get 83 = .ok (.getfield 155, 3) := by decide +kernel
theorem dX11_get_86 : decode cX11_get 86 = .ok (.if_icmp .ge 49, 3) := by decide +kernel
theorem dX11_get_89 : decode cX11_get 89 = .ok (.iload 6, 2) := by decide +kernel
theorem dX11_get_91 : decode cX11_get 91 = .ok (.iload 7, 2) := by decide +kernel
theorem dX11_get_93 : decode cX11_get 93 = .ok (.ishr, 1) := by decide +kernel
theorem dX11_get_94 : decode cX11_get 94 = .ok (.iconst 1, 1) := by decide +kernel
theorem dX11_get_95 : decode cX11_get 95 = .ok (.iand, 1) := by decide +kernel
theorem dX11_get_96 : decode cX11_get 96 = .ok (.iconst 1, 1) := by decide +kernel
theorem dX11_get_97 : decode cX11_get 97 = .ok (.if_icmp .ne 28, 3) := by decide +kernel
theorem dX11_get_100 : decode cX11_get 100 = .ok (.aload_n 0, 1) := by decide +kernel
theorem dX11_get_101 : decode cX11_get 101 = .ok (.getfield 32, 3) := by decide +kernel
theorem dX11_get_104 : decode cX11_get 104 = .ok (.bipush 48, 2) := by decide +kernel
theorem dX11_get_106 : decode cX11_get 106 = .ok (.iload 7, 2) := by decide +kernel
theorem dX11_get_108 : decode cX11_get 108 = .ok (.imul, 1) := by decide +kernel
theorem dX11_get_109 : decode cX11_get 109 = .ok (.iload_n 2, 1) := by decide +kernel
theorem dX11_get_110 : decode cX11_get 110 = .ok (.iadd, 1) := by decide +kernel
theorem dX11_get_111 : decode cX11_get 111 = .ok (.baload, 1) := by decide +kernel
theorem dX11_get_112 : decode cX11_get 112 = .ok (.ifCond .eq 13, 3) := by decide +kernel
theorem dX11_get_115 : decode cX11_get 115 = .ok (.iload 5, 2) := by decide +kernel
theorem dX11_get_117 : decode cX11_get 117 = .ok (.iconst 1, 1) := by decide +kernel
theorem dX11_get_118 : decode cX11_get 118 = .ok (.iload 7, 2) := by decide +kernel
theorem dX11_get_120 : decode cX11_get 120 = .ok (.ishl, 1) := by decide +kernel
theorem dX11_get_121 : decode cX11_get 121 = .ok (.ior, 1) := by decide +kernel
theorem dX11_get_122 : decode cX11_get 122 = .ok (.goto 5, 3) := by decide +kernel
theorem dX11_get_125 : decode cX11_get 125 = .ok (.iload 5, 2) := by decide +kernel
theorem dX11_get_127 : decode cX11_get 127 = .ok (.istore 5, 2) := by decide +kernel
theorem dX11_get_129 : decode cX11_get 129 = .ok (.iinc 7 1, 3) := by decide +kernel
theorem dX11_get_132 : decode cX11_get 132 = .ok (.goto (-52), 3) := by decide +kernel
theorem dX11_get_135 : decode cX11_get 135 = .ok (.iload 5, 2) := by decide +kernel
theorem dX11_get_137 : decode cX11_get 137 = .ok (.ifCond .ne 13, 3) := by decide +kernel
theorem dX11_get_140 : decode cX11_get 140 = .ok (.aload_n 0, 1) := by decide +kernel
theorem dX11_get_141 : decode cX11_get 141 = .ok (.iload_n 1, 1) := by decide +kernel
theorem dX11_get_142 : decode cX11_get 142 = .ok (.iload_n 2, 1) := by decide +kernel
theorem dX11_get_143 : decode cX11_get 143 = .ok (.invokevirtual 224, 3) := by decide +kernel
theorem dX11_get_146 : decode cX11_get 146 = .ok (.ldc2_w 252, 3) := by decide +kernel
theorem dX11_get_149 : decode cX11_get 149 = .ok (.lreturn, 1) := by decide +kernel
theorem dX11_get_150 : decode cX11_get 150 = .ok (.aload_n 0, 1) := by decide +kernel
theorem dX11_get_151 : decode cX11_get 151 = .ok (.iload 5, 2) := by decide +kernel
theorem dX11_get_153 : decode cX11_get 153 = .ok (.iload_n 2, 1) := by decide +kernel
theorem dX11_get_154 : decode cX11_get 154 = .ok (.invokevirtual 254, 3) := by decide +kernel
theorem dX11_get_157 : decode cX11_get 157 = .ok (.istore 7, 2) := by decide +kernel
theorem dX11_get_159 : decode cX11_get 159 = .ok (.iload 7, 2) := by decide +kernel
theorem dX11_get_161 : decode cX11_get 161 = .ok (.iconst (-1), 1) := by decide +kernel
theorem dX11_get_162 : decode cX11_get 162 = .ok (.if_icmp .ne 7, 3) := by decide +kernel
theorem dX11_get_165 : decode cX11_get 165 = .ok (.ldc2_w 257, 3) := by decide +kernel
theorem dX11_get_168 : decode cX11_get 168 = .ok (.lreturn, 1) := by decide +kernel
theorem dX11_get_169 : decode cX11_get 169 = .ok (.aload_n 0, 1) := by decide +kernel
theorem dX11_get_170 : decode cX11_get 170 = .ok (.getfield 44, 3) := by decide +kernel
theorem dX11_get_173 : decode cX11_get 173 = .ok (.bipush 48, 2) := by decide +kernel
theorem dX11_get_175 : decode cX11_get 175 = .ok (.iload 7, 2) := by decide +kernel
theorem dX11_get_177 : decode cX11_get 177 = .ok (.imul, 1) := by decide +kernel
theorem dX11_get_178 : decode cX11_get 178 = .ok (.iload_n 2, 1) := by decide +kernel
theorem dX11_get_179 : decode cX11_get 179 = .ok (.iadd, 1) := by decide +kernel
theorem dX11_get_180 : decode cX11_get 180 = .ok (.iaload, 1) := by decide +kernel
theorem dX11_get_181 : decode cX11_get 181 = .ok (.ifCond .le 7, 3) := by decide +kernel
theorem dX11_get_184 : decode cX11_get 184 = .ok (.ldc2_w 259, 3) := by decide +kernel
theorem dX11_get_187 : decode cX11_get 187 = .ok (.lreturn, 1) := by decide +kernel
theorem dX11_get_188 : decode cX11_get 188 = .ok (.aload_n 0, 1) := by decide +kernel
theorem dX11_get_189 : decode cX11_get 189 = .ok (.iload_n 1, 1) := by decide +kernel
theorem dX11_get_190 : decode cX11_get 190 = .ok (.iload_n 2, 1) := by decide +kernel
theorem dX11_get_191 : decode cX11_get 191 = .ok (.iload 7, 2) := by decide +kernel
theorem dX11_get_193 : decode cX11_get 193 = .ok (.iload 5, 2) := by decide +kernel
theorem dX11_get_195 : decode cX11_get 195 = .ok (.iload_n 3, 1) := by decide +kernel
theorem dX11_get_196 : decode cX11_get 196 = .ok (.invokevirtual 261, 3) := by decide +kernel
theorem dX11_get_199 : decode cX11_get 199 = .ok (.lconst 0, 1) := by decide +kernel
theorem dX11_get_200 : decode cX11_get 200 = .ok (.lreturn, 1) := by decide +kernel
abbrev wmX11_get : List Cond := .code yX11_get cX11_get 8 (some .long) :: mBig
def f_X11_get_L80 (a1 : Int32) (a2 : Int32) (a3 : Int32) (v9 : Int32) (J135 : (Int32 × gM) → Option (Int64 × gM)) : Nat → Int32 → Int32 → gM → Option (Int64 × gM)
  | 0, _, _, _ => none
  | n25 + 1, x22, x23, M24 => lt (M24 m_o 0) (fun v26 => (if v26 ≤ x23 then J135 (x22, M24) else jn (fun (q : (Int32 × gM)) => match q with | (b28, M29) => lt (x23 + 1) (fun x30 => f_X11_get_L80 a1 a2 a3 v9 J135 n25 b28 x30 M29)) (fun J127 => jn (fun (M31 : gM) => J127 (x22, M31)) (fun J125 => (if ((v9 >>> (x23 &&& 31)) &&& (1 : Int32)) = (1 : Int32) then rd M24 m_has 192 (((48 : Int32) * x23) + a2) (fun v33 => (if v33 = 0 then J125 M24 else J127 ((x22 ||| ((1 : Int32) <<< (x23 &&& 31))), M24))) else J125 M24)))))
def f_X11_get (M : gM) (a1 : Int32) (a2 : Int32) (a3 : Int32) : Option (Int64 × gM) :=
  lt ((((48 : Int32) * a1) + a2)) (fun x1 => o1 (f_X11_isAlone M a1) (fun v3 => (if v3 = 0 then o1 (f_X11_isGood M a1 a2) (fun v6 => (if v6 = 0 then o1 (f_X11_nearSet M a1) (fun v9 => jn (fun (q : (Int32 × gM)) => match q with | (b10, M11) => (if b10 = 0 then o1 (f_X11_forget M11 a1 a2) (fun M21 => some ((-2199023255554 : Int64), M21)) else o1 (f_X11_greatest M11 b10 a2) (fun v14 => (if v14 = (-1 : Int32) then some ((-2199023255555 : Int64), M11) else rd M11 m_versions 192 (((48 : Int32) * v14) + a2) (fun v16 => (if v16 ≤ 0 then o1 (f_X11_bring M11 a1 a2 v14 b10 a3) (fun M19 => some ((0 : Int64), M19)) else some ((-2199023255556 : Int64), M11))))))) (fun J135 => f_X11_get_L80 a1 a2 a3 v9 J135 100 (0 : Int32) (0 : Int32) M)) else o1 (f_X11_use M a1 a2) (fun M36 => o1 (f_X11_takeKept M36 a1 a2) (fun M38 => some ((0 : Int64), M38))))) else rd M m_kept 192 x1 (fun v39 => (if v39 = 0 then some ((-2199023255553 : Int64), M) else o1 (f_X11_use M a1 a2) (fun M42 => o1 (f_X11_takeKept M42 a1 a2) (fun M44 => some ((0 : Int64), M44))))))))
set_option maxHeartbeats 4000000 in
set_option maxRecDepth 100000 in
theorem t_X11_get (l : Launch) (D : va_G) (dA : Nat → ClassId) (A : gI → Nat) (hJ : gJ mLive A) {M : gM} {a1 : Int32} {a2 : Int32} {a3 : Int32}  {y : (Int64 × gM)} (h : f_X11_get M a1 a2 a3 = some y) : mMl l yX11_get wmX11_get ({ frames := 4, cells := 0, slots := 0, locals := 102 } : Room) D dA A [.ref (A m_o), .int a1, .int a2, .int a3] M y.1 y.2 := by
  refine Met.ofW (cc := cX11_get) (maxL := 8) (ret := (some .long)) (by decide) rfl ?_
  intro p e s m args below meth c s₁ B hml hv
  obtain ⟨rfl, hP, hK⟩ := hv
  generalize hargs : ([.ref (A m_o), .int a1, .int a2, .int a3] : List Value).toArray = args at B ⊢
  have S : CallFix p m c cX11_get 8 s args wmX11_get RX11 := ⟨B.exec, B.bytes, hml, findClass_of_methodNamed B.named, atoms_spec (ws := wmX11_get) B.pre⟩
  obtain ⟨hx, hb, -, hown, hts⟩ := id S
  have hr := B.returns
  have hlocks := B.notSynchronized
  have X : gX D vwCl dA mLive A (gA mLive A) s := ⟨hK, hJ, fun i hi => ⟨i, hi, rfl⟩⟩
  have Z : gZ D mLay dA mLive A (gA mLive A) s.heap M s.heap [] := ⟨hP, va_S.rf⟩
  have hin : ∀ w ∈ wsX110, w ∈ wmX11_get := m_in
  have hl_32 := hts (.fieldLink RX11 32 "ReplicaFilesModel" "has" "[Z") (mBc 12 rfl)
  have hl_44 := hts (.fieldLink RX11 44 "ReplicaFilesModel" "versions" "[I") (mBc 16 rfl)
  have hl_65 := hts (.fieldLink RX11 65 "ReplicaFilesModel" "kept" "[Z") (mBc 23 rfl)
  have hl_155 := hts (.fieldLink RX11 155 "ReplicaFilesModel" "servers" "I") (mBc 53 rfl)
  have hc_241 := hts (.constantLong RX11 241 (-2199023255553)) (mBc 157 rfl)
  have hc_252 := hts (.constantLong RX11 252 (-2199023255554)) (mBc 158 rfl)
  have hc_257 := hts (.constantLong RX11 257 (-2199023255555)) (mBc 159 rfl)
  have hc_259 := hts (.constantLong RX11 259 (-2199023255556)) (mBc 160 rfl)
  have hl := lv_entry ([.ref (A m_o), .int a1, .int a2, .int a3]) (n := 8) (Nat.le_of_ble_eq_true rfl)
  rw [← hargs, lg_entry_eq, hargs]
  generalize (lg_sl ([.ref (A m_o), .int a1, .int a2, .int a3]) ++ List.replicate (8 - (lg_sl ([.ref (A m_o), .int a1, .int a2, .int a3])).length) Slot.unset).toArray = ls at hl ⊢
  have hl : lv_has ls 8 [(0, .ref (A m_o)), (1, .int a1), (2, .int a2), (3, .int a3)] := hl
  unfold f_X11_get at h
  refine lv_bipush (v := (48 : Int32)) hx hb dX11_get_0 (by decide) ?_
  refine lv_iload_n hx hb dX11_get_2 rfl (lv_at hl 1 rfl) ?_
  refine lv_imul hx hb dX11_get_3 ?_
  refine lv_iload_n hx hb dX11_get_4 rfl (lv_at hl 2 rfl) ?_
  refine lv_iadd hx hb dX11_get_5 ?_
  refine g_topi h (fun x1 h => ?_)
  refine lv_istore (lv' := [(4, .int x1), (0, .ref (A m_o)), (1, .int a1), (2, .int a2), (3, .int a3)]) hx hb dX11_get_6 hl (by decide) rfl (fun ls hl => ?_)
  refine lv_aload_n hx hb dX11_get_8 rfl (lv_at hl 1 rfl) ?_
  refine lv_iload_n hx hb dX11_get_9 rfl (lv_at hl 2 rfl) ?_
  obtain ⟨v3, hc2, h⟩ := o1_e h
  refine g_Vi (As := [.int a1]) (rest := []) S X Z mlv_o rfl rfl (t_X11_isAlone l D dA A hJ  hc2) (cwV 1 hts (mGV (mB 161 rfl) (mB 162 rfl) (mB 163 rfl) (mB 63 rfl) (mB 74 rfl)) rfl rfl rfl (by decide +kernel) ⟨Nat.le_of_ble_eq_true rfl, Nat.le_of_ble_eq_true rfl⟩) rfl hl.1 rfl (Nat.le_of_ble_eq_true rfl) dX11_get_10 ⟨Nat.zero_le _, Nat.zero_le _⟩ (fun H locs Z => ?_)
  refine lv_if_eq (tgt := 44) hx hb dX11_get_13 (by decide) (fun c4 => ?_) (fun c4 => ?_)
  · have h := if_t c4 h
    refine lv_aload_n hx hb dX11_get_44 rfl (lv_at hl 1 rfl) ?_
    refine lv_iload_n hx hb dX11_get_45 rfl (lv_at hl 2 rfl) ?_
    refine lv_iload_n hx hb dX11_get_46 rfl (lv_at hl 3 rfl) ?_
    obtain ⟨v6, hc5, h⟩ := o1_e h
    refine g_Vi (As := [.int a1, .int a2]) (rest := []) S X Z mlv_o rfl rfl (t_X11_isGood l D dA A hJ  hc5) (cwV 2 hts (mGV (mB 167 rfl) (mB 168 rfl) (mB 169 rfl) (mB 63 rfl) (mB 136 rfl)) rfl rfl rfl (by decide +kernel) ⟨Nat.le_of_ble_eq_true rfl, Nat.le_of_ble_eq_true rfl⟩) rfl hl.1 rfl (Nat.le_of_ble_eq_true rfl) dX11_get_47 ⟨Nat.zero_le _, Nat.zero_le _⟩ (fun H locs Z => ?_)
    refine lv_if_eq (tgt := 67) hx hb dX11_get_50 (by decide) (fun c7 => ?_) (fun c7 => ?_)
    · have h := if_t c7 h
      refine lv_iconst (v := (0 : Int32)) hx hb dX11_get_67 (by decide) ?_
      refine lv_istore (lv' := [(5, .int (0 : Int32)), (4, .int x1), (0, .ref (A m_o)), (1, .int a1), (2, .int a2), (3, .int a3)]) hx hb dX11_get_68 hl (by decide) rfl (fun ls hl => ?_)
      refine lv_aload_n hx hb dX11_get_70 rfl (lv_at hl 2 rfl) ?_
      refine lv_iload_n hx hb dX11_get_71 rfl (lv_at hl 3 rfl) ?_
      obtain ⟨v9, hc8, h⟩ := o1_e h
      refine g_Vi (As := [.int a1]) (rest := []) S X Z mlv_o rfl rfl (t_X11_nearSet l D dA A hJ  hc8) (cwV 1 hts (mGV (mB 75 rfl) (mB 76 rfl) (mB 77 rfl) (mB 63 rfl) (mB 70 rfl)) rfl rfl rfl (by decide +kernel) ⟨Nat.le_of_ble_eq_true rfl, Nat.le_of_ble_eq_true rfl⟩) rfl hl.1 rfl (Nat.le_of_ble_eq_true rfl) dX11_get_72 ⟨Nat.zero_le _, Nat.zero_le _⟩ (fun H locs Z => ?_)
      refine lv_istore (lv' := [(6, .int v9), (5, .int (0 : Int32)), (4, .int x1), (0, .ref (A m_o)), (1, .int a1), (2, .int a2), (3, .int a3)]) hx hb dX11_get_75 hl (by decide) rfl (fun ls hl => ?_)
      refine lv_iconst (v := (0 : Int32)) hx hb dX11_get_77 (by decide) ?_
      refine lv_istore (lv' := [(7, .int (0 : Int32)), (6, .int v9), (5, .int (0 : Int32)), (4, .int x1), (0, .ref (A m_o)), (1, .int a1), (2, .int a2), (3, .int a3)]) hx hb dX11_get_78 hl (by decide) rfl (fun ls hl => ?_)
      obtain ⟨J135, eJ135, h⟩ := jn_e h
      have hJ135 : ∀ (b10 : Int32) (M11 : gM) (H : Heap) (locs : List Loc) (ls : Array Slot), gZ D mLay dA mLive A (gA mLive A) s.heap M11 H locs → lv_has ls 8 [(0, .ref (A m_o)), (1, .int a1), (2, .int a2), (3, .int a3), (5, .int b10)] → J135 (b10, M11) = some y → W p l e (headSpec wmX11_get ({ frames := 4, cells := 0, slots := 0, locals := 102 } : Room)).room s m args below meth c H locs 0 0 (MQ below (mQl D dA A y) args s 0 0 (gA mLive A)) (F0 m 135 ls []) := by
        intro b10 M11 H locs ls Z hl h
        rw [eJ135] at h
        try dsimp only at h
        refine lv_iload hx hb dX11_get_135 (lv_at hl 4 rfl) ?_
        refine lv_if_ne (tgt := 150) hx hb dX11_get_137 (by decide) (fun c12 => ?_) (fun c12 => ?_)
        · have h := if_f c12 h
          refine lv_aload_n hx hb dX11_get_150 rfl (lv_at hl 0 rfl) ?_
          refine lv_iload hx hb dX11_get_151 (lv_at hl 4 rfl) ?_
          refine lv_iload_n hx hb dX11_get_153 rfl (lv_at hl 2 rfl) ?_
          obtain ⟨v14, hc13, h⟩ := o1_e h
          refine g_Vi (As := [.int b10, .int a2]) (rest := []) S X Z mlv_o rfl rfl (t_X11_greatest l D dA A hJ  hc13) (cwV 2 hts (mGV (mB 170 rfl) (mB 171 rfl) (mB 172 rfl) (mB 63 rfl) (mB 142 rfl)) rfl rfl rfl (by decide +kernel) ⟨Nat.le_of_ble_eq_true rfl, Nat.le_of_ble_eq_true rfl⟩) rfl hl.1 rfl (Nat.le_of_ble_eq_true rfl) dX11_get_154 ⟨Nat.zero_le _, Nat.zero_le _⟩ (fun H locs Z => ?_)
          refine lv_istore (lv' := [(7, .int v14), (0, .ref (A m_o)), (1, .int a1), (2, .int a2), (3, .int a3), (5, .int b10)]) hx hb dX11_get_157 hl (by decide) rfl (fun ls hl => ?_)
          refine lv_iload hx hb dX11_get_159 (lv_at hl 0 rfl) ?_
          refine lv_iconst (v := (-1 : Int32)) hx hb dX11_get_161 (by decide) ?_
          refine lv_icmp_ne (tgt := 169) hx hb dX11_get_162 (by decide) (fun c15 => ?_) (fun c15 => ?_)
          · have h := if_f c15 h
            refine lv_aload_n hx hb dX11_get_169 rfl (lv_at hl 1 rfl) ?_
            refine mr_versions S X Z hin hl_44 dX11_get_170 ?_
            refine lv_bipush (v := (48 : Int32)) hx hb dX11_get_173 (by decide) ?_
            refine lv_iload hx hb dX11_get_175 (lv_at hl 0 rfl) ?_
            refine lv_imul hx hb dX11_get_177 ?_
            refine lv_iload_n hx hb dX11_get_178 rfl (lv_at hl 3 rfl) ?_
            refine lv_iadd hx hb dX11_get_179 ?_
            refine g_iald S X Z ml_versions rfl dX11_get_180 h (fun v16 h => ?_)
            refine lv_if_le (tgt := 188) hx hb dX11_get_181 (by decide) (fun c17 => ?_) (fun c17 => ?_)
            · have h := if_t c17 h
              refine lv_aload_n hx hb dX11_get_188 rfl (lv_at hl 1 rfl) ?_
              refine lv_iload_n hx hb dX11_get_189 rfl (lv_at hl 2 rfl) ?_
              refine lv_iload_n hx hb dX11_get_190 rfl (lv_at hl 3 rfl) ?_
              refine lv_iload hx hb dX11_get_191 (lv_at hl 0 rfl) ?_
              refine lv_iload hx hb dX11_get_193 (lv_at hl 5 rfl) ?_
              refine lv_iload_n hx hb dX11_get_195 rfl (lv_at hl 4 rfl) ?_
              obtain ⟨M19, hc18, h⟩ := o1_e h
              refine g_Vv (As := [.int a1, .int a2, .int v14, .int b10, .int a3]) (rest := []) S X Z mlv_o rfl rfl (t_X11_bring l D dA A hJ  hc18) (cwV 5 hts (mGV (mB 173 rfl) (mB 174 rfl) (mB 175 rfl) (mB 63 rfl) (mB 156 rfl)) rfl rfl rfl (by decide +kernel) ⟨Nat.le_of_ble_eq_true rfl, Nat.le_of_ble_eq_true rfl⟩) rfl hl.1 rfl (Nat.le_of_ble_eq_true rfl) dX11_get_196 ⟨Nat.zero_le _, Nat.zero_le _⟩ (fun H locs Z => ?_)
              refine lv_lconst (v := (0 : Int64)) hx hb dX11_get_199 (by decide) ?_
              have hy := Option.some.inj h
              subst hy
              exact g_rl S Z hr hlocks dX11_get_200
            · have h := if_f c17 h
              refine lv_ldc2 hx hb hown hc_259 dX11_get_184 ?_
              have hy := Option.some.inj h
              subst hy
              exact g_rl S Z hr hlocks dX11_get_187
          · have h := if_t c15 h
            refine lv_ldc2 hx hb hown hc_257 dX11_get_165 ?_
            have hy := Option.some.inj h
            subst hy
            exact g_rl S Z hr hlocks dX11_get_168
        · have h := if_t c12 h
          refine lv_aload_n hx hb dX11_get_140 rfl (lv_at hl 0 rfl) ?_
          refine lv_iload_n hx hb dX11_get_141 rfl (lv_at hl 1 rfl) ?_
          refine lv_iload_n hx hb dX11_get_142 rfl (lv_at hl 2 rfl) ?_
          obtain ⟨M21, hc20, h⟩ := o1_e h
          refine g_Vv (As := [.int a1, .int a2]) (rest := []) S X Z mlv_o rfl rfl (t_X11_forget l D dA A hJ  hc20) (cwV 2 hts (mGV (mB 132 rfl) (mB 133 rfl) (mB 134 rfl) (mB 63 rfl) (mB 111 rfl)) rfl rfl rfl (by decide +kernel) ⟨Nat.le_of_ble_eq_true rfl, Nat.le_of_ble_eq_true rfl⟩) rfl hl.1 rfl (Nat.le_of_ble_eq_true rfl) dX11_get_143 ⟨Nat.zero_le _, Nat.zero_le _⟩ (fun H locs Z => ?_)
          refine lv_ldc2 hx hb hown hc_252 dX11_get_146 ?_
          have hy := Option.some.inj h
          subst hy
          exact g_rl S Z hr hlocks dX11_get_149
      have hL80 : ∀ (n : Nat) (x22 : Int32) (x23 : Int32) (M24 : gM) (H : Heap) (locs : List Loc) (ls : Array Slot), gZ D mLay dA mLive A (gA mLive A) s.heap M24 H locs → lv_has ls 8 [(0, .ref (A m_o)), (1, .int a1), (2, .int a2), (3, .int a3), (5, .int x22), (6, .int v9), (7, .int x23)] → f_X11_get_L80 a1 a2 a3 v9 J135 n x22 x23 M24 = some y → W p l e (headSpec wmX11_get ({ frames := 4, cells := 0, slots := 0, locals := 102 } : Room)).room s m args below meth c H locs 0 0 (MQ below (mQl D dA A y) args s 0 0 (gA mLive A)) (F0 m 80 ls []) := by
        intro n
        induction n with
        | zero =>
          intro x22 x23 M24 H locs ls Z hl h
          rw [f_X11_get_L80] at h
          cases h
        | succ n25 ih80 =>
          intro x22 x23 M24 H locs ls Z hl h
          rw [f_X11_get_L80] at h
          refine lv_iload hx hb dX11_get_80 (lv_at hl 6 rfl) ?_
          refine lv_aload_n hx hb dX11_get_82 rfl (lv_at hl 0 rfl) ?_
          refine mr_servers S X Z hin hl_155 dX11_get_83 h (fun v26 h => ?_)
          refine lv_icmp_ge (tgt := 135) hx hb dX11_get_86 (by decide) (fun c27 => ?_) (fun c27 => ?_)
          · have h := if_t c27 h
            exact hJ135 x22 M24 _ _ _ Z (lv_sub hl [0, 1, 2, 3, 4] rfl) h
          · have h := if_f c27 h
            refine lv_iload hx hb dX11_get_89 (lv_at hl 5 rfl) ?_
            refine lv_iload hx hb dX11_get_91 (lv_at hl 6 rfl) ?_
            refine lv_ishr hx hb dX11_get_93 ?_
            refine lv_iconst (v := (1 : Int32)) hx hb dX11_get_94 (by decide) ?_
            refine lv_iand hx hb dX11_get_95 ?_
            refine lv_iconst (v := (1 : Int32)) hx hb dX11_get_96 (by decide) ?_
            obtain ⟨J127, eJ127, h⟩ := jn_e h
            have hJ127 : ∀ (b28 : Int32) (M29 : gM) (H : Heap) (locs : List Loc) (ls : Array Slot), gZ D mLay dA mLive A (gA mLive A) s.heap M29 H locs → lv_has ls 8 [(0, .ref (A m_o)), (1, .int a1), (2, .int a2), (3, .int a3), (6, .int v9), (7, .int x23)] → J127 (b28, M29) = some y → W p l e (headSpec wmX11_get ({ frames := 4, cells := 0, slots := 0, locals := 102 } : Room)).room s m args below meth c H locs 0 0 (MQ below (mQl D dA A y) args s 0 0 (gA mLive A)) (F0 m 127 ls [.int b28]) := by
              intro b28 M29 H locs ls Z hl h
              rw [eJ127] at h
              try dsimp only at h
              refine lv_istore (lv' := [(5, .int b28), (0, .ref (A m_o)), (1, .int a1), (2, .int a2), (3, .int a3), (6, .int v9), (7, .int x23)]) hx hb dX11_get_127 hl (by decide) rfl (fun ls hl => ?_)
              obtain ⟨x30, ex30, h⟩ := lt_e h
              refine lv_iinc (v := x30) (lv' := [(7, .int x30), (5, .int b28), (0, .ref (A m_o)), (1, .int a1), (2, .int a2), (3, .int a3), (6, .int v9)]) hx hb dX11_get_129 hl (k := 6) rfl (by rw [ex30]; rfl) (by decide) rfl (fun ls hl => ?_)
              refine lv_goto (tgt := 80) hx hb dX11_get_132 (by decide) ?_
              exact ih80 b28 x30 M29 _ _ _ Z (lv_sub hl [2, 3, 4, 5, 1, 6, 0] rfl) h
            obtain ⟨J125, eJ125, h⟩ := jn_e h
            have hJ125 : ∀ (M31 : gM) (H : Heap) (locs : List Loc) (ls : Array Slot), gZ D mLay dA mLive A (gA mLive A) s.heap M31 H locs → lv_has ls 8 [(0, .ref (A m_o)), (1, .int a1), (2, .int a2), (3, .int a3), (5, .int x22), (6, .int v9), (7, .int x23)] → J125 M31 = some y → W p l e (headSpec wmX11_get ({ frames := 4, cells := 0, slots := 0, locals := 102 } : Room)).room s m args below meth c H locs 0 0 (MQ below (mQl D dA A y) args s 0 0 (gA mLive A)) (F0 m 125 ls []) := by
              intro M31 H locs ls Z hl h
              rw [eJ125] at h
              try dsimp only at h
              refine lv_iload hx hb dX11_get_125 (lv_at hl 4 rfl) ?_
              exact hJ127 x22 M31 _ _ _ Z (lv_sub hl [0, 1, 2, 3, 5, 6] rfl) h
            refine lv_icmp_ne (tgt := 125) hx hb dX11_get_97 (by decide) (fun c32 => ?_) (fun c32 => ?_)
            · have h := if_f c32 h
              exact hJ125 M24 _ _ _ Z (lv_sub hl [0, 1, 2, 3, 4, 5, 6] rfl) h
            · have h := if_t c32 h
              refine lv_aload_n hx hb dX11_get_100 rfl (lv_at hl 0 rfl) ?_
              refine mr_has S X Z hin hl_32 dX11_get_101 ?_
              refine lv_bipush (v := (48 : Int32)) hx hb dX11_get_104 (by decide) ?_
              refine lv_iload hx hb dX11_get_106 (lv_at hl 6 rfl) ?_
              refine lv_imul hx hb dX11_get_108 ?_
              refine lv_iload_n hx hb dX11_get_109 rfl (lv_at hl 2 rfl) ?_
              refine lv_iadd hx hb dX11_get_110 ?_
              refine g_zald S X Z ml_has rfl dX11_get_111 h (fun v33 h => ?_)
              refine lv_if_eq (tgt := 125) hx hb dX11_get_112 (by decide) (fun c34 => ?_) (fun c34 => ?_)
              · have h := if_t c34 h
                exact hJ125 M24 _ _ _ Z (lv_sub hl [0, 1, 2, 3, 4, 5, 6] rfl) h
              · have h := if_f c34 h
                refine lv_iload hx hb dX11_get_115 (lv_at hl 4 rfl) ?_
                refine lv_iconst (v := (1 : Int32)) hx hb dX11_get_117 (by decide) ?_
                refine lv_iload hx hb dX11_get_118 (lv_at hl 6 rfl) ?_
                refine lv_ishl hx hb dX11_get_120 ?_
                refine lv_ior hx hb dX11_get_121 ?_
                refine lv_goto (tgt := 127) hx hb dX11_get_122 (by decide) ?_
                exact hJ127 (x22 ||| ((1 : Int32) <<< (x23 &&& 31))) M24 _ _ _ Z (lv_sub hl [0, 1, 2, 3, 5, 6] rfl) h
      exact hL80 100 (0 : Int32) (0 : Int32) M _ _ _ Z (lv_sub hl [4, 5, 6, 7, 2, 1, 0] rfl) h
    · have h := if_f c7 h
      refine lv_aload_n hx hb dX11_get_53 rfl (lv_at hl 1 rfl) ?_
      refine lv_iload_n hx hb dX11_get_54 rfl (lv_at hl 2 rfl) ?_
      refine lv_iload_n hx hb dX11_get_55 rfl (lv_at hl 3 rfl) ?_
      obtain ⟨M36, hc35, h⟩ := o1_e h
      refine g_Vv (As := [.int a1, .int a2]) (rest := []) S X Z mlv_o rfl rfl (t_X11_use l D dA A hJ  hc35) (cwV 2 hts (mGV (mB 153 rfl) (mB 154 rfl) (mB 155 rfl) (mB 63 rfl) (mB 117 rfl)) rfl rfl rfl (by decide +kernel) ⟨Nat.le_of_ble_eq_true rfl, Nat.le_of_ble_eq_true rfl⟩) rfl hl.1 rfl (Nat.le_of_ble_eq_true rfl) dX11_get_56 ⟨Nat.zero_le _, Nat.zero_le _⟩ (fun H locs Z => ?_)
      refine lv_aload_n hx hb dX11_get_59 rfl (lv_at hl 1 rfl) ?_
      refine lv_iload_n hx hb dX11_get_60 rfl (lv_at hl 2 rfl) ?_
      refine lv_iload_n hx hb dX11_get_61 rfl (lv_at hl 3 rfl) ?_
      obtain ⟨M38, hc37, h⟩ := o1_e h
      refine g_Vv (As := [.int a1, .int a2]) (rest := []) S X Z mlv_o rfl rfl (t_X11_takeKept l D dA A hJ  hc37) (cwV 2 hts (mGV (mB 164 rfl) (mB 165 rfl) (mB 166 rfl) (mB 63 rfl) (mB 137 rfl)) rfl rfl rfl (by decide +kernel) ⟨Nat.le_of_ble_eq_true rfl, Nat.le_of_ble_eq_true rfl⟩) rfl hl.1 rfl (Nat.le_of_ble_eq_true rfl) dX11_get_62 ⟨Nat.zero_le _, Nat.zero_le _⟩ (fun H locs Z => ?_)
      refine lv_lconst (v := (0 : Int64)) hx hb dX11_get_65 (by decide) ?_
      have hy := Option.some.inj h
      subst hy
      exact g_rl S Z hr hlocks dX11_get_66
  · have h := if_f c4 h
    refine lv_aload_n hx hb dX11_get_16 rfl (lv_at hl 1 rfl) ?_
    refine mr_kept S X Z hin hl_65 dX11_get_17 ?_
    refine lv_iload hx hb dX11_get_20 (lv_at hl 0 rfl) ?_
    refine g_zald S X Z ml_kept rfl dX11_get_22 h (fun v39 h => ?_)
    refine lv_if_ne (tgt := 30) hx hb dX11_get_23 (by decide) (fun c40 => ?_) (fun c40 => ?_)
    · have h := if_f c40 h
      refine lv_aload_n hx hb dX11_get_30 rfl (lv_at hl 1 rfl) ?_
      refine lv_iload_n hx hb dX11_get_31 rfl (lv_at hl 2 rfl) ?_
      refine lv_iload_n hx hb dX11_get_32 rfl (lv_at hl 3 rfl) ?_
      obtain ⟨M42, hc41, h⟩ := o1_e h
      refine g_Vv (As := [.int a1, .int a2]) (rest := []) S X Z mlv_o rfl rfl (t_X11_use l D dA A hJ  hc41) (cwV 2 hts (mGV (mB 153 rfl) (mB 154 rfl) (mB 155 rfl) (mB 63 rfl) (mB 117 rfl)) rfl rfl rfl (by decide +kernel) ⟨Nat.le_of_ble_eq_true rfl, Nat.le_of_ble_eq_true rfl⟩) rfl hl.1 rfl (Nat.le_of_ble_eq_true rfl) dX11_get_33 ⟨Nat.zero_le _, Nat.zero_le _⟩ (fun H locs Z => ?_)
      refine lv_aload_n hx hb dX11_get_36 rfl (lv_at hl 1 rfl) ?_
      refine lv_iload_n hx hb dX11_get_37 rfl (lv_at hl 2 rfl) ?_
      refine lv_iload_n hx hb dX11_get_38 rfl (lv_at hl 3 rfl) ?_
      obtain ⟨M44, hc43, h⟩ := o1_e h
      refine g_Vv (As := [.int a1, .int a2]) (rest := []) S X Z mlv_o rfl rfl (t_X11_takeKept l D dA A hJ  hc43) (cwV 2 hts (mGV (mB 164 rfl) (mB 165 rfl) (mB 166 rfl) (mB 63 rfl) (mB 137 rfl)) rfl rfl rfl (by decide +kernel) ⟨Nat.le_of_ble_eq_true rfl, Nat.le_of_ble_eq_true rfl⟩) rfl hl.1 rfl (Nat.le_of_ble_eq_true rfl) dX11_get_39 ⟨Nat.zero_le _, Nat.zero_le _⟩ (fun H locs Z => ?_)
      refine lv_lconst (v := (0 : Int64)) hx hb dX11_get_42 (by decide) ?_
      have hy := Option.some.inj h
      subst hy
      exact g_rl S Z hr hlocks dX11_get_43
    · have h := if_t c40 h
      refine lv_ldc2 hx hb hown hc_241 dX11_get_26 ?_
      have hy := Option.some.inj h
      subst hy
      exact g_rl S Z hr hlocks dX11_get_29
