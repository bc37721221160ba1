-- X11_areAtMost (I)Z: 71 instructions
theorem dX11_areAtMost_0 : decode cX11_areAtMost 0 = .ok (.iconst 1, 1) := by decide +kernel
theorem dX11_areAtMost_1 : decode cX11_areAtMost 1 = .ok (.istore_n 2, 1) := by decide +kernel
theorem dX11_areAtMost_2 : decode cX11_areAtMost 2 = .ok (.iconst 0, 1) := by decide +kernel
theorem dX11_areAtMost_3 : decode cX11_areAtMost 3 = .ok (.istore_n 3, 1) := by decide +kernel
theorem dX11_areAtMost_4 : decode cX11_areAtMost 4 = .ok (.iload_n 3, 1) := by decide +kernel
theorem dX11_areAtMost_5 : decode cX11_areAtMost 5 = .ok (.aload_n 0, 1) := by decide +kernel
theorem dX11_areAtMost_6 : decode cX11_areAtMost 6 = .ok (.getfield 155, 3) := by decide +kernel
theorem dX11_areAtMost_9 : decode cX11_areAtMost 9 = .ok (.if_icmp .ge 118, 3) := by decide +kernel
theorem dX11_areAtMost_12 : decode cX11_areAtMost 12 = .ok (.bipush 48, 2) := by decide +kernel
theorem dX11_areAtMost_14 : decode cX11_areAtMost 14 = .ok (.iload_n 3, 1) := by decide +kernel
theorem dX11_areAtMost_15 : decode cX11_areAtMost 15 = .ok (.imul, 1) := by decide +kernel
theorem dX11_areAtMost_16 : decode cX11_areAtMost 16 = .ok (.iload_n 1, 1) := by decide +kernel
theorem dX11_areAtMost_17 : decode cX11_areAtMost 17 = .ok (.iadd, 1) := by decide +kernel
theorem dX11_areAtMost_18 : decode cX11_areAtMost 18 = .ok (.istore 4, 2) := by decide +kernel
theorem dX11_areAtMost_20 : decode cX11_areAtMost 20 = .ok (.aload_n 0, 1) := by decide +kernel
theorem dX11_areAtMost_21 : decode cX11_areAtMost 21 = .ok (.iload_n 3, 1) := by decide +kernel
theorem dX11_areAtMost_22 : decode cX11_areAtMost 22 = .ok (.invokevirtual 406, 3) := by decide +kernel
theorem dX11_areAtMost_25 : decode cX11_areAtMost 25 = .ok (.ifCond .eq 96, 3) := by decide +kernel
theorem dX11_areAtMost_28 : decode cX11_areAtMost 28 = .ok (.aload_n 0, 1) := by decide +kernel
theorem dX11_areAtMost_29 : decode cX11_areAtMost 29 = .ok (.getfield 32, 3) := by decide +kernel
theorem dX11_areAtMost_32 : decode cX11_areAtMost 32 = .ok (.iload 4, 2) := by decide +kernel
theorem dX11_areAtMost_34 : decode cX11_areAtMost 34 = .ok (.baload, 1) := by decide +kernel
theorem dX11_areAtMost_35 : decode cX11_areAtMost 35 = .ok (.ifCond .eq 86, 3) := by decide +kernel
theorem dX11_areAtMost_38 : decode cX11_areAtMost 38 = .ok (.iload_n 2, 1) := by decide +kernel
theorem dX11_areAtMost_39 : decode cX11_areAtMost 39 = .ok (.ifCond .eq 25, 3) := by decide +kernel
theorem dX11_areAtMost_42 : decode cX11_areAtMost 42 = .ok (.aload_n 0, 1) := by decide +kernel
theorem dX11_areAtMost_43 : decode cX11_areAtMost 43 = .ok (.aload_n 0, 1) := by decide +kernel
theorem dX11_areAtMost_44 : decode cX11_areAtMost 44 = .ok (.getfield 41, 3) := by decide +kernel
theorem dX11_areAtMost_47 : decode cX11_areAtMost 47 = .ok (.iload 4, 2) := by decide +kernel
theorem dX11_areAtMost_49 : decode cX11_areAtMost 49 = .ok (.aload_n 0, 1) := by decide +kernel
theorem dX11_areAtMost_50 : decode cX11_areAtMost 50 = .ok (.getfield 134, 3) := by decide +kernel
theorem dX11_areAtMost_53 : decode cX11_areAtMost 53 = .ok (.iload_n 1, 1) := by decide +kernel
theorem dX11_areAtMost_54 : decode cX11_areAtMost 54 = .ok (.invokevirtual 265, 3) := by decide +kernel
theorem dX11_areAtMost_57 : decode cX11_areAtMost 57 = .ok (.ifCond .eq 7, 3) := by decide +kernel
theorem dX11_areAtMost_60 : decode cX11_areAtMost 60 = .ok (.iconst 1, 1) := by decide +kernel
theorem dX11_areAtMost_61 : decode cX11_areAtMost 61 = .ok (.goto 4, 3) := by decide +kernel
theorem dX11_areAtMost_64 : decode cX11_areAtMost 64 = .ok (.iconst 0, 1) := by decide +kernel
theorem dX11_areAtMost_65 : decode cX11_areAtMost 65 = .ok (.istore_n 2, 1) := by decide +kernel
theorem dX11_areAtMost_66 : decode cX11_areAtMost 66 = .ok (.iconst 0, 1) := by decide +kernel
theorem dX11_areAtMost_67 : decode cX11_areAtMost 67 = .ok (.istore 5, 2) := by decide +kernel
theorem dX11_areAtMost_69 : decode cX11_areAtMost 69 = .ok (.iload 5, 2) := by decide +kernel
theorem dX11_areAtMost_71 : decode cX11_areAtMost 71 = .ok (.aload_n 0, 1) := by decide +kernel
theorem dX11_areAtMost_72 : decode cX11_areAtMost 72 = .ok (.getfield 44, 3) := by decide +kernel
theorem dX11_areAtMost_75 : decode cX11_areAtMost 75 = .ok (.iload 4, 2) := by decide +kernel
theorem dX11_areAtMost_77 : decode cX11_areAtMost 77 = .ok (.iaload, 1) := by decide +kernel
theorem dX11_areAtMost_78 : decode cX11_areAtMost 78 = .ok (.if_icmp .ge 43, 3) := by decide +kernel
theorem dX11_areAtMost_81 : decode cX11_areAtMost 81 = .ok (.iload_n 2, 1) := by decide +kernel
theorem dX11_areAtMost_82 : decode cX11_areAtMost 82 = .ok (.ifCond .eq 31, 3) := by decide +kernel
theorem dX11_areAtMost_85 : decode cX11_areAtMost 85 = .ok (.aload_n 0, 1) := by decide +kernel
theorem dX11_areAtMost_86 : decode cX11_areAtMost 86 = .ok (.aload_n 0, 1) := by decide +kernel
theorem dX11_areAtMost_87 : decode cX11_areAtMost 87 = .ok (.getfield 53, 3) := by decide +kernel
theorem dX11_areAtMost_90 : decode cX11_areAtMost 90 = .ok (.bipush 6, 2) := by decide +kernel
theorem dX11_areAtMost_92 : decode cX11_areAtMost 92 = .ok (.iload 4, 2) := by decide +kernel
theorem dX11_areAtMost_94 : decode cX11_areAtMost 94 = .ok (.imul, 1) := by decide +kernel
theorem dX11_areAtMost_95 : decode cX11_areAtMost 95 = .ok (.iload 5, 2) := by decide +kernel
theorem dX11_areAtMost_97 : decode cX11_areAtMost 97 = .ok (.iadd, 1) := by decide +kernel
theorem dX11_areAtMost_98 : decode cX11_areAtMost 98 = .ok (.aload_n 0, 1) := by decide +kernel
theorem dX11_areAtMost_99 : decode cX11_areAtMost 99 = .ok (.getfield 134, 3) := by decide +kernel
theorem dX11_areAtMost_102 : decode cX11_areAtMost 102 = .ok (.iload_n 1, 1) := by decide +kernel
theorem dX11_areAtMost_103 : decode cX11_areAtMost 103 = .ok (.invokevirtual 265, 3) := by decide +kernel
theorem dX11_areAtMost_106 : decode cX11_areAtMost 106 = .ok (.ifCond .eq 7, 3) := by decide +kernel
theorem dX11_areAtMost_109 : decode cX11_areAtMost 109 = .ok (.iconst 1, 1) := by decide +kernel
theorem dX11_areAtMost_110 : decode cX11_areAtMost 110 = .ok (.goto 4, 3) := by decide +kernel
theorem dX11_areAtMost_113 : decode cX11_areAtMost 113 = .ok (.iconst 0, 1) := by decide +kernel
theorem dX11_areAtMost_114 : decode cX11_areAtMost 114 = .ok (.istore_n 2, 1) := by decide +kernel
theorem dX11_areAtMost_115 : decode cX11_areAtMost 115 = .ok (.iinc 5 1, 3) := by decide +kernel
theorem dX11_areAtMost_118 : decode cX11_areAtMost 118 = .ok (.goto (-49), 3) := by decide +kernel
theorem dX11_areAtMost_121 : decode cX11_areAtMost 121 = .ok (.iinc 3 1, 3) := by decide +kernel
theorem dX11_areAtMost_124 : decode cX11_areAtMost 124 = .ok (.goto (-120), 3) := by decide +kernel
theorem dX11_areAtMost_127 : decode cX11_areAtMost 127 = .ok (.iload_n 2, 1) := by decide +kernel
theorem dX11_areAtMost_128 : decode cX11_areAtMost 128 = .ok (.ireturn, 1) := by decide +kernel
abbrev wmX11_areAtMost : List Cond := .code yX11_areAtMost cX11_areAtMost 6 (some .boolean) :: mBig
def f_X11_areAtMost_L69 (M19 : gM) (a1 : Int32) (x2 : Int32) (x8 : Int32) (J121 : Int32 → Option Int32) : Nat → Int32 → Int32 → Option Int32
  | 0, _, _ => none
  | n20 + 1, x17, x18 => rd M19 m_versions 192 x8 (fun v21 => (if v21 ≤ x18 then J121 x17 else jn (fun (b23 : Int32) => lt (x18 + 1) (fun x24 => f_X11_areAtMost_L69 M19 a1 x2 x8 J121 n20 b23 x24)) (fun J114 => jn (fun (_ : Unit) => J114 (0 : Int32)) (fun J113 => (if x17 = 0 then J113 () else o1 (f_X11_isAtMost M19 m_versionVector (((6 : Int32) * x8) + x18) m_mergedGone a1) (fun v27 => (if v27 = 0 then J113 () else J114 (1 : Int32))))))))
def f_X11_areAtMost_L4 (M3 : gM) (a1 : Int32) : Nat → Int32 → Int32 → Option Int32
  | 0, _, _ => none
  | n4 + 1, x1, x2 => lt (M3 m_o 0) (fun v5 => (if v5 ≤ x2 then gz x1 (some x1) else lt ((((48 : Int32) * x2) + a1)) (fun x8 => o1 (f_X11_isOf M3 x2) (fun v10 => jn (fun (b11 : Int32) => lt (x2 + 1) (fun x12 => f_X11_areAtMost_L4 M3 a1 n4 b11 x12)) (fun J121 => (if v10 = 0 then J121 x1 else rd M3 m_has 192 x8 (fun v14 => (if v14 = 0 then J121 x1 else jn (fun (b16 : Int32) => f_X11_areAtMost_L69 M3 a1 x2 x8 J121 100 b16 (0 : Int32)) (fun J65 => jn (fun (_ : Unit) => J65 (0 : Int32)) (fun J64 => (if x1 = 0 then J64 () else o1 (f_X11_isAtMost M3 m_vector x8 m_mergedGone a1) (fun v31 => (if v31 = 0 then J64 () else J65 (1 : Int32))))))))))))))
def f_X11_areAtMost (M : gM) (a1 : Int32) : Option Int32 :=
  f_X11_areAtMost_L4 M a1 100 (1 : Int32) (0 : Int32)
set_option maxHeartbeats 4000000 in
set_option maxRecDepth 100000 in
theorem t_X11_areAtMost (l : Launch) (D : va_G) (dA : Nat → ClassId) (A : gI → Nat) (hJ : gJ mLive A) {M : gM} {a1 : Int32}  {y : Int32} (h : f_X11_areAtMost M a1 = some y) : mMi l yX11_areAtMost wmX11_areAtMost ({ frames := 1, cells := 0, slots := 0, locals := 25 } : Room) D dA A [.ref (A m_o), .int a1] M y M := by
  refine Met.ofW (cc := cX11_areAtMost) (maxL := 6) (ret := (some .boolean)) (by decide) rfl ?_
  intro p e s m args below meth c s₁ B hml hv
  obtain ⟨rfl, hP, hK⟩ := hv
  generalize hargs : ([.ref (A m_o), .int a1] : List Value).toArray = args at B ⊢
  have S : CallFix p m c cX11_areAtMost 6 s args wmX11_areAtMost RX11 := ⟨B.exec, B.bytes, hml, findClass_of_methodNamed B.named, atoms_spec (ws := wmX11_areAtMost) B.pre⟩
  obtain ⟨hx, hb, -, hown, hts⟩ := id S
  have hr := B.returns
  have hlocks := B.notSynchronized
  have X : gX D vwCl dA mLive A (gA mLive A) s := ⟨hK, hJ, fun i hi => ⟨i, hi, rfl⟩⟩
  have Z : gZ D mLay dA mLive A (gA mLive A) s.heap M s.heap [] := ⟨hP, va_S.rf⟩
  have hin : ∀ w ∈ wsX110, w ∈ wmX11_areAtMost := m_in
  have hl_32 := hts (.fieldLink RX11 32 "ReplicaFilesModel" "has" "[Z") (mBc 12 rfl)
  have hl_41 := hts (.fieldLink RX11 41 "ReplicaFilesModel" "vector" "[I") (mBc 15 rfl)
  have hl_44 := hts (.fieldLink RX11 44 "ReplicaFilesModel" "versions" "[I") (mBc 16 rfl)
  have hl_53 := hts (.fieldLink RX11 53 "ReplicaFilesModel" "versionVector" "[I") (mBc 19 rfl)
  have hl_134 := hts (.fieldLink RX11 134 "ReplicaFilesModel" "mergedGone" "[I") (mBc 46 rfl)
  have hl_155 := hts (.fieldLink RX11 155 "ReplicaFilesModel" "servers" "I") (mBc 53 rfl)
  have hl := lv_entry ([.ref (A m_o), .int a1]) (n := 6) (Nat.le_of_ble_eq_true rfl)
  rw [← hargs, lg_entry_eq, hargs]
  generalize (lg_sl ([.ref (A m_o), .int a1]) ++ List.replicate (6 - (lg_sl ([.ref (A m_o), .int a1])).length) Slot.unset).toArray = ls at hl ⊢
  have hl : lv_has ls 6 [(0, .ref (A m_o)), (1, .int a1)] := hl
  unfold f_X11_areAtMost at h
  refine lv_iconst (v := (1 : Int32)) hx hb dX11_areAtMost_0 (by decide) ?_
  refine lv_istore_n (lv' := [(2, .int (1 : Int32)), (0, .ref (A m_o)), (1, .int a1)]) hx hb dX11_areAtMost_1 rfl hl (by decide) rfl (fun ls hl => ?_)
  refine lv_iconst (v := (0 : Int32)) hx hb dX11_areAtMost_2 (by decide) ?_
  refine lv_istore_n (lv' := [(3, .int (0 : Int32)), (2, .int (1 : Int32)), (0, .ref (A m_o)), (1, .int a1)]) hx hb dX11_areAtMost_3 rfl hl (by decide) rfl (fun ls hl => ?_)
  have hL4 : ∀ (n : Nat) (x1 : Int32) (x2 : Int32) (H : Heap) (locs : List Loc) (ls : Array Slot), gZ D mLay dA mLive A (gA mLive A) s.heap M H locs → lv_has ls 6 [(0, .ref (A m_o)), (1, .int a1), (2, .int x1), (3, .int x2)] → f_X11_areAtMost_L4 M a1 n x1 x2 = some y → W p l e (headSpec wmX11_areAtMost ({ frames := 1, cells := 0, slots := 0, locals := 25 } : Room)).room s m args below meth c H locs 0 0 (MQ below (mQi D dA A (y, M)) args s 0 0 (gA mLive A)) (F0 m 4 ls []) := by
    intro n
    induction n with
    | zero =>
      intro x1 x2 H locs ls Z hl h
      rw [f_X11_areAtMost_L4] at h
      cases h
    | succ n4 ih4 =>
      intro x1 x2 H locs ls Z hl h
      rw [f_X11_areAtMost_L4] at h
      refine lv_iload_n hx hb dX11_areAtMost_4 rfl (lv_at hl 3 rfl) ?_
      refine lv_aload_n hx hb dX11_areAtMost_5 rfl (lv_at hl 0 rfl) ?_
      refine mr_servers S X Z hin hl_155 dX11_areAtMost_6 h (fun v5 h => ?_)
      refine lv_icmp_ge (tgt := 127) hx hb dX11_areAtMost_9 (by decide) (fun c6 => ?_) (fun c6 => ?_)
      · have h := if_t c6 h
        refine lv_iload_n hx hb dX11_areAtMost_127 rfl (lv_at hl 2 rfl) ?_
        obtain ⟨z7, h⟩ := gz_e h
        have hy := Option.some.inj h
        subst hy
        exact g_rz (z7) S Z hr hlocks dX11_areAtMost_128
      · have h := if_f c6 h
        refine lv_bipush (v := (48 : Int32)) hx hb dX11_areAtMost_12 (by decide) ?_
        refine lv_iload_n hx hb dX11_areAtMost_14 rfl (lv_at hl 3 rfl) ?_
        refine lv_imul hx hb dX11_areAtMost_15 ?_
        refine lv_iload_n hx hb dX11_areAtMost_16 rfl (lv_at hl 1 rfl) ?_
        refine lv_iadd hx hb dX11_areAtMost_17 ?_
        refine g_topi h (fun x8 h => ?_)
        refine lv_istore (lv' := [(4, .int x8), (0, .ref (A m_o)), (1, .int a1), (2, .int x1), (3, .int x2)]) hx hb dX11_areAtMost_18 hl (by decide) rfl (fun ls hl => ?_)
        refine lv_aload_n hx hb dX11_areAtMost_20 rfl (lv_at hl 1 rfl) ?_
        refine lv_iload_n hx hb dX11_areAtMost_21 rfl (lv_at hl 4 rfl) ?_
        obtain ⟨v10, hc9, h⟩ := o1_e h
        refine g_Vi (As := [.int x2]) (rest := []) S X Z mlv_o rfl rfl (t_X11_isOf l D dA A hJ  hc9) (cwV 1 hts (mGV (mB 293 rfl) (mB 294 rfl) (mB 295 rfl) (mB 63 rfl) (mB 290 rfl)) rfl rfl rfl (by decide +kernel) ⟨Nat.le_of_ble_eq_true rfl, Nat.le_of_ble_eq_true rfl⟩) rfl hl.1 rfl (Nat.le_of_ble_eq_true rfl) dX11_areAtMost_22 ⟨Nat.zero_le _, Nat.zero_le _⟩ (fun H locs Z => ?_)
        obtain ⟨J121, eJ121, h⟩ := jn_e h
        have hJ121 : ∀ (b11 : Int32) (H : Heap) (locs : List Loc) (ls : Array Slot), gZ D mLay dA mLive A (gA mLive A) s.heap M H locs → lv_has ls 6 [(0, .ref (A m_o)), (1, .int a1), (2, .int b11), (3, .int x2)] → J121 b11 = some y → W p l e (headSpec wmX11_areAtMost ({ frames := 1, cells := 0, slots := 0, locals := 25 } : Room)).room s m args below meth c H locs 0 0 (MQ below (mQi D dA A (y, M)) args s 0 0 (gA mLive A)) (F0 m 121 ls []) := by
          intro b11 H locs ls Z hl h
          rw [eJ121] at h
          try dsimp only at h
          obtain ⟨x12, ex12, h⟩ := lt_e h
          refine lv_iinc (v := x12) (lv' := [(3, .int x12), (0, .ref (A m_o)), (1, .int a1), (2, .int b11)]) hx hb dX11_areAtMost_121 hl (k := 3) rfl (by rw [ex12]; rfl) (by decide) rfl (fun ls hl => ?_)
          refine lv_goto (tgt := 4) hx hb dX11_areAtMost_124 (by decide) ?_
          exact ih4 b11 x12 _ _ _ Z (lv_sub hl [1, 2, 3, 0] rfl) h
        refine lv_if_eq (tgt := 121) hx hb dX11_areAtMost_25 (by decide) (fun c13 => ?_) (fun c13 => ?_)
        · have h := if_t c13 h
          exact hJ121 x1 _ _ _ Z (lv_sub hl [1, 2, 3, 4] rfl) h
        · have h := if_f c13 h
          refine lv_aload_n hx hb dX11_areAtMost_28 rfl (lv_at hl 1 rfl) ?_
          refine mr_has S X Z hin hl_32 dX11_areAtMost_29 ?_
          refine lv_iload hx hb dX11_areAtMost_32 (lv_at hl 0 rfl) ?_
          refine g_zald S X Z ml_has rfl dX11_areAtMost_34 h (fun v14 h => ?_)
          refine lv_if_eq (tgt := 121) hx hb dX11_areAtMost_35 (by decide) (fun c15 => ?_) (fun c15 => ?_)
          · have h := if_t c15 h
            exact hJ121 x1 _ _ _ Z (lv_sub hl [1, 2, 3, 4] rfl) h
          · have h := if_f c15 h
            refine lv_iload_n hx hb dX11_areAtMost_38 rfl (lv_at hl 3 rfl) ?_
            obtain ⟨J65, eJ65, h⟩ := jn_e h
            have hJ65 : ∀ (b16 : Int32) (H : Heap) (locs : List Loc) (ls : Array Slot), gZ D mLay dA mLive A (gA mLive A) s.heap M H locs → lv_has ls 6 [(0, .ref (A m_o)), (1, .int a1), (3, .int x2), (4, .int x8)] → J65 b16 = some y → W p l e (headSpec wmX11_areAtMost ({ frames := 1, cells := 0, slots := 0, locals := 25 } : Room)).room s m args below meth c H locs 0 0 (MQ below (mQi D dA A (y, M)) args s 0 0 (gA mLive A)) (F0 m 65 ls [.int b16]) := by
              intro b16 H locs ls Z hl h
              rw [eJ65] at h
              try dsimp only at h
              refine lv_istore_n (lv' := [(2, .int b16), (0, .ref (A m_o)), (1, .int a1), (3, .int x2), (4, .int x8)]) hx hb dX11_areAtMost_65 rfl hl (by decide) rfl (fun ls hl => ?_)
              refine lv_iconst (v := (0 : Int32)) hx hb dX11_areAtMost_66 (by decide) ?_
              refine lv_istore (lv' := [(5, .int (0 : Int32)), (2, .int b16), (0, .ref (A m_o)), (1, .int a1), (3, .int x2), (4, .int x8)]) hx hb dX11_areAtMost_67 hl (by decide) rfl (fun ls hl => ?_)
              have hL69 : ∀ (n : Nat) (x17 : Int32) (x18 : Int32) (H : Heap) (locs : List Loc) (ls : Array Slot), gZ D mLay dA mLive A (gA mLive A) s.heap M H locs → lv_has ls 6 [(0, .ref (A m_o)), (1, .int a1), (2, .int x17), (3, .int x2), (4, .int x8), (5, .int x18)] → f_X11_areAtMost_L69 M a1 x2 x8 J121 n x17 x18 = some y → W p l e (headSpec wmX11_areAtMost ({ frames := 1, cells := 0, slots := 0, locals := 25 } : Room)).room s m args below meth c H locs 0 0 (MQ below (mQi D dA A (y, M)) args s 0 0 (gA mLive A)) (F0 m 69 ls []) := by
                intro n
                induction n with
                | zero =>
                  intro x17 x18 H locs ls Z hl h
                  rw [f_X11_areAtMost_L69] at h
                  cases h
                | succ n20 ih69 =>
                  intro x17 x18 H locs ls Z hl h
                  rw [f_X11_areAtMost_L69] at h
                  refine lv_iload hx hb dX11_areAtMost_69 (lv_at hl 5 rfl) ?_
                  refine lv_aload_n hx hb dX11_areAtMost_71 rfl (lv_at hl 0 rfl) ?_
                  refine mr_versions S X Z hin hl_44 dX11_areAtMost_72 ?_
                  refine lv_iload hx hb dX11_areAtMost_75 (lv_at hl 4 rfl) ?_
                  refine g_iald S X Z ml_versions rfl dX11_areAtMost_77 h (fun v21 h => ?_)
                  refine lv_icmp_ge (tgt := 121) hx hb dX11_areAtMost_78 (by decide) (fun c22 => ?_) (fun c22 => ?_)
                  · have h := if_t c22 h
                    exact hJ121 x17 _ _ _ Z (lv_sub hl [0, 1, 2, 3] rfl) h
                  · have h := if_f c22 h
                    refine lv_iload_n hx hb dX11_areAtMost_81 rfl (lv_at hl 2 rfl) ?_
                    obtain ⟨J114, eJ114, h⟩ := jn_e h
                    have hJ114 : ∀ (b23 : Int32) (H : Heap) (locs : List Loc) (ls : Array Slot), gZ D mLay dA mLive A (gA mLive A) s.heap M H locs → lv_has ls 6 [(0, .ref (A m_o)), (1, .int a1), (3, .int x2), (4, .int x8), (5, .int x18)] → J114 b23 = some y → W p l e (headSpec wmX11_areAtMost ({ frames := 1, cells := 0, slots := 0, locals := 25 } : Room)).room s m args below meth c H locs 0 0 (MQ below (mQi D dA A (y, M)) args s 0 0 (gA mLive A)) (F0 m 114 ls [.int b23]) := by
                      intro b23 H locs ls Z hl h
                      rw [eJ114] at h
                      try dsimp only at h
                      refine lv_istore_n (lv' := [(2, .int b23), (0, .ref (A m_o)), (1, .int a1), (3, .int x2), (4, .int x8), (5, .int x18)]) hx hb dX11_areAtMost_114 rfl hl (by decide) rfl (fun ls hl => ?_)
                      obtain ⟨x24, ex24, h⟩ := lt_e h
                      refine lv_iinc (v := x24) (lv' := [(5, .int x24), (2, .int b23), (0, .ref (A m_o)), (1, .int a1), (3, .int x2), (4, .int x8)]) hx hb dX11_areAtMost_115 hl (k := 5) rfl (by rw [ex24]; rfl) (by decide) rfl (fun ls hl => ?_)
                      refine lv_goto (tgt := 69) hx hb dX11_areAtMost_118 (by decide) ?_
                      exact ih69 b23 x24 _ _ _ Z (lv_sub hl [2, 3, 1, 4, 5, 0] rfl) h
                    obtain ⟨J113, eJ113, h⟩ := jn_e h
                    have hJ113 : ∀  (H : Heap) (locs : List Loc) (ls : Array Slot), gZ D mLay dA mLive A (gA mLive A) s.heap M H locs → lv_has ls 6 [(0, .ref (A m_o)), (1, .int a1), (3, .int x2), (4, .int x8), (5, .int x18)] → J113 () = some y → W p l e (headSpec wmX11_areAtMost ({ frames := 1, cells := 0, slots := 0, locals := 25 } : Room)).room s m args below meth c H locs 0 0 (MQ below (mQi D dA A (y, M)) args s 0 0 (gA mLive A)) (F0 m 113 ls []) := by
                      intro  H locs ls Z hl h
                      rw [eJ113] at h
                      try dsimp only at h
                      refine lv_iconst (v := (0 : Int32)) hx hb dX11_areAtMost_113 (by decide) ?_
                      exact hJ114 (0 : Int32) _ _ _ Z (lv_sub hl [0, 1, 2, 3, 4] rfl) h
                    refine lv_if_eq (tgt := 113) hx hb dX11_areAtMost_82 (by decide) (fun c25 => ?_) (fun c25 => ?_)
                    · have h := if_t c25 h
                      exact hJ113  _ _ _ Z (lv_sub hl [0, 1, 3, 4, 5] rfl) h
                    · have h := if_f c25 h
                      refine lv_aload_n hx hb dX11_areAtMost_85 rfl (lv_at hl 0 rfl) ?_
                      refine lv_aload_n hx hb dX11_areAtMost_86 rfl (lv_at hl 0 rfl) ?_
                      refine mr_versionVector S X Z hin hl_53 dX11_areAtMost_87 ?_
                      refine lv_bipush (v := (6 : Int32)) hx hb dX11_areAtMost_90 (by decide) ?_
                      refine lv_iload hx hb dX11_areAtMost_92 (lv_at hl 4 rfl) ?_
                      refine lv_imul hx hb dX11_areAtMost_94 ?_
                      refine lv_iload hx hb dX11_areAtMost_95 (lv_at hl 5 rfl) ?_
                      refine lv_iadd hx hb dX11_areAtMost_97 ?_
                      refine lv_aload_n hx hb dX11_areAtMost_98 rfl (lv_at hl 0 rfl) ?_
                      refine mr_mergedGone S X Z hin hl_134 dX11_areAtMost_99 ?_
                      refine lv_iload_n hx hb dX11_areAtMost_102 rfl (lv_at hl 1 rfl) ?_
                      obtain ⟨v27, hc26, h⟩ := o1_e h
                      refine g_Vi (As := [.ref (A m_versionVector), .int (((6 : Int32) * x8) + x18), .ref (A m_mergedGone), .int a1]) (rest := []) S X Z mlv_o rfl rfl (t_X11_isAtMost l D dA A hJ ⟨ml_versionVector, rfl⟩ ⟨ml_mergedGone, rfl⟩ hc26) (cwV 4 hts (mGV (mB 143 rfl) (mB 144 rfl) (mB 145 rfl) (mB 63 rfl) (mB 95 rfl)) rfl rfl rfl (by decide +kernel) ⟨Nat.le_of_ble_eq_true rfl, Nat.le_of_ble_eq_true rfl⟩) rfl hl.1 rfl (Nat.le_of_ble_eq_true rfl) dX11_areAtMost_103 ⟨Nat.zero_le _, Nat.zero_le _⟩ (fun H locs Z => ?_)
                      refine lv_if_eq (tgt := 113) hx hb dX11_areAtMost_106 (by decide) (fun c28 => ?_) (fun c28 => ?_)
                      · have h := if_t c28 h
                        exact hJ113  _ _ _ Z (lv_sub hl [0, 1, 3, 4, 5] rfl) h
                      · have h := if_f c28 h
                        refine lv_iconst (v := (1 : Int32)) hx hb dX11_areAtMost_109 (by decide) ?_
                        refine lv_goto (tgt := 114) hx hb dX11_areAtMost_110 (by decide) ?_
                        exact hJ114 (1 : Int32) _ _ _ Z (lv_sub hl [0, 1, 3, 4, 5] rfl) h
              exact hL69 100 b16 (0 : Int32) _ _ _ Z (lv_sub hl [2, 3, 1, 4, 5, 0] rfl) h
            obtain ⟨J64, eJ64, h⟩ := jn_e h
            have hJ64 : ∀  (H : Heap) (locs : List Loc) (ls : Array Slot), gZ D mLay dA mLive A (gA mLive A) s.heap M H locs → lv_has ls 6 [(0, .ref (A m_o)), (1, .int a1), (3, .int x2), (4, .int x8)] → J64 () = some y → W p l e (headSpec wmX11_areAtMost ({ frames := 1, cells := 0, slots := 0, locals := 25 } : Room)).room s m args below meth c H locs 0 0 (MQ below (mQi D dA A (y, M)) args s 0 0 (gA mLive A)) (F0 m 64 ls []) := by
              intro  H locs ls Z hl h
              rw [eJ64] at h
              try dsimp only at h
              refine lv_iconst (v := (0 : Int32)) hx hb dX11_areAtMost_64 (by decide) ?_
              exact hJ65 (0 : Int32) _ _ _ Z (lv_sub hl [0, 1, 2, 3] rfl) h
            refine lv_if_eq (tgt := 64) hx hb dX11_areAtMost_39 (by decide) (fun c29 => ?_) (fun c29 => ?_)
            · have h := if_t c29 h
              exact hJ64  _ _ _ Z (lv_sub hl [1, 2, 4, 0] rfl) h
            · have h := if_f c29 h
              refine lv_aload_n hx hb dX11_areAtMost_42 rfl (lv_at hl 1 rfl) ?_
              refine lv_aload_n hx hb dX11_areAtMost_43 rfl (lv_at hl 1 rfl) ?_
              refine mr_vector S X Z hin hl_41 dX11_areAtMost_44 ?_
              refine lv_iload hx hb dX11_areAtMost_47 (lv_at hl 0 rfl) ?_
              refine lv_aload_n hx hb dX11_areAtMost_49 rfl (lv_at hl 1 rfl) ?_
              refine mr_mergedGone S X Z hin hl_134 dX11_areAtMost_50 ?_
              refine lv_iload_n hx hb dX11_areAtMost_53 rfl (lv_at hl 2 rfl) ?_
              obtain ⟨v31, hc30, h⟩ := o1_e h
              refine g_Vi (As := [.ref (A m_vector), .int x8, .ref (A m_mergedGone), .int a1]) (rest := []) S X Z mlv_o rfl rfl (t_X11_isAtMost l D dA A hJ ⟨ml_vector, rfl⟩ ⟨ml_mergedGone, rfl⟩ hc30) (cwV 4 hts (mGV (mB 143 rfl) (mB 144 rfl) (mB 145 rfl) (mB 63 rfl) (mB 95 rfl)) rfl rfl rfl (by decide +kernel) ⟨Nat.le_of_ble_eq_true rfl, Nat.le_of_ble_eq_true rfl⟩) rfl hl.1 rfl (Nat.le_of_ble_eq_true rfl) dX11_areAtMost_54 ⟨Nat.zero_le _, Nat.zero_le _⟩ (fun H locs Z => ?_)
              refine lv_if_eq (tgt := 64) hx hb dX11_areAtMost_57 (by decide) (fun c32 => ?_) (fun c32 => ?_)
              · have h := if_t c32 h
                exact hJ64  _ _ _ Z (lv_sub hl [1, 2, 4, 0] rfl) h
              · have h := if_f c32 h
                refine lv_iconst (v := (1 : Int32)) hx hb dX11_areAtMost_60 (by decide) ?_
                refine lv_goto (tgt := 65) hx hb dX11_areAtMost_61 (by decide) ?_
                exact hJ65 (1 : Int32) _ _ _ Z (lv_sub hl [1, 2, 4, 0] rfl) h
  exact hL4 100 (1 : Int32) (0 : Int32) _ _ _ Z (lv_sub hl [2, 3, 1, 0] rfl) h
-- X11_childrenCanGo (I)Z: 41 instructions
theorem dX11_childrenCanGo_0 : decode cX11_childrenCanGo 0 = .ok (.iconst 1, 1) := by decide +kernel
theorem dX11_childrenCanGo_1 : decode cX11_childrenCanGo 1 = .ok (.istore_n 2, 1) := by decide +kernel
theorem dX11_childrenCanGo_2 : decode cX11_childrenCanGo 2 = .ok (.iload_n 1, 1) := by decide +kernel
theorem dX11_childrenCanGo_3 : decode cX11_childrenCanGo 3 = .ok (.iconst 1, 1) := by decide +kernel
theorem dX11_childrenCanGo_4 : decode cX11_childrenCanGo 4 = .ok (.iadd, 1) := by decide +kernel
theorem dX11_childrenCanGo_5 : decode cX11_childrenCanGo 5 = .ok (.istore_n 3, 1) := by decide +kernel
theorem dX11_childrenCanGo_6 : decode cX11_childrenCanGo 6 = .ok (.iload_n 3, 1) := by decide +kernel
theorem dX11_childrenCanGo_7 : decode cX11_childrenCanGo 7 = .ok (.aload_n 0, 1) := by decide +kernel
theorem dX11_childrenCanGo_8 : decode cX11_childrenCanGo 8 = .ok (.getfield 162, 3) := by decide +kernel
theorem dX11_childrenCanGo_11 : decode cX11_childrenCanGo 11 = .ok (.if_icmp .ge 58, 3) := by decide +kernel
theorem dX11_childrenCanGo_14 : decode cX11_childrenCanGo 14 = .ok (.aload_n 0, 1) := by decide +kernel
theorem dX11_childrenCanGo_15 : decode cX11_childrenCanGo 15 = .ok (.iload_n 3, 1) := by decide +kernel
theorem dX11_childrenCanGo_16 : decode cX11_childrenCanGo 16 = .ok (.iload_n 1, 1) := by decide +kernel
theorem dX11_childrenCanGo_17 : decode cX11_childrenCanGo 17 = .ok (.invokevirtual 197, 3) := by decide +kernel
theorem dX11_childrenCanGo_20 : decode cX11_childrenCanGo 20 = .ok (.ifCond .eq 43, 3) := by decide +kernel
theorem dX11_childrenCanGo_23 : decode cX11_childrenCanGo 23 = .ok (.iload_n 2, 1) := by decide +kernel
theorem dX11_childrenCanGo_24 : decode cX11_childrenCanGo 24 = .ok (.ifCond .eq 37, 3) := by decide +kernel
theorem dX11_childrenCanGo_27 : decode cX11_childrenCanGo 27 = .ok (.aload_n 0, 1) := by decide +kernel
theorem dX11_childrenCanGo_28 : decode cX11_childrenCanGo 28 = .ok (.getfield 131, 3) := by decide +kernel
theorem dX11_childrenCanGo_31 : decode cX11_childrenCanGo 31 = .ok (.iload_n 3, 1) := by decide +kernel
theorem dX11_childrenCanGo_32 : decode cX11_childrenCanGo 32 = .ok (.baload, 1) := by decide +kernel
theorem dX11_childrenCanGo_33 : decode cX11_childrenCanGo 33 = .ok (.ifCond .eq 15, 3) := by decide +kernel
theorem dX11_childrenCanGo_36 : decode cX11_childrenCanGo 36 = .ok (.aload_n 0, 1) := by decide +kernel
theorem dX11_childrenCanGo_37 : decode cX11_childrenCanGo 37 = .ok (.getfield 137, 3) := by decide +kernel
theorem dX11_childrenCanGo_40 : decode cX11_childrenCanGo 40 = .ok (.iload_n 3, 1) := by decide +kernel
theorem dX11_childrenCanGo_41 : decode cX11_childrenCanGo 41 = .ok (.baload, 1) := by decide +kernel
theorem dX11_childrenCanGo_42 : decode cX11_childrenCanGo 42 = .ok (.ifCond .eq 19, 3) := by decide +kernel
theorem dX11_childrenCanGo_45 : decode cX11_childrenCanGo 45 = .ok (.goto 12, 3) := by decide +kernel
theorem dX11_childrenCanGo_48 : decode cX11_childrenCanGo 48 = .ok (.aload_n 0, 1) := by decide +kernel
theorem dX11_childrenCanGo_49 : decode cX11_childrenCanGo 49 = .ok (.getfield 128, 3) := by decide +kernel
theorem dX11_childrenCanGo_52 : decode cX11_childrenCanGo 52 = .ok (.iload_n 3, 1) := by decide +kernel
theorem dX11_childrenCanGo_53 : decode cX11_childrenCanGo 53 = .ok (.baload, 1) := by decide +kernel
theorem dX11_childrenCanGo_54 : decode cX11_childrenCanGo 54 = .ok (.ifCond .ne 7, 3) := by decide +kernel
theorem dX11_childrenCanGo_57 : decode cX11_childrenCanGo 57 = .ok (.iconst 1, 1) := by decide +kernel
theorem dX11_childrenCanGo_58 : decode cX11_childrenCanGo 58 = .ok (.goto 4, 3) := by decide +kernel
theorem dX11_childrenCanGo_61 : decode cX11_childrenCanGo 61 = .ok (.iconst 0, 1) := by decide +kernel
theorem dX11_childrenCanGo_62 : decode cX11_childrenCanGo 62 = .ok (.istore_n 2, 1) := by decide +kernel
theorem dX11_childrenCanGo_63 : decode cX11_childrenCanGo 63 = .ok (.iinc 3 1, 3) := by decide +kernel
theorem dX11_childrenCanGo_66 : decode cX11_childrenCanGo 66 = .ok (.goto (-60), 3) := by decide +kernel
theorem dX11_childrenCanGo_69 : decode cX11_childrenCanGo 69 = .ok (.iload_n 2, 1) := by decide +kernel
theorem dX11_childrenCanGo_70 : decode cX11_childrenCanGo 70 = .ok (.ireturn, 1) := by decide +kernel
abbrev wmX11_childrenCanGo : List Cond := .code yX11_childrenCanGo cX11_childrenCanGo 4 (some .boolean) :: mBig
def f_X11_childrenCanGo_L6 (M4 : gM) (a1 : Int32) : Nat → Int32 → Int32 → Option Int32
  | 0, _, _ => none
  | n5 + 1, x2, x3 => lt (M4 m_o 6) (fun v6 => (if v6 ≤ x3 then gz x2 (some x2) else o1 (f_X11_isChild M4 x3 a1) (fun v10 => jn (fun (b11 : Int32) => lt (x3 + 1) (fun x12 => f_X11_childrenCanGo_L6 M4 a1 n5 b11 x12)) (fun J63 => (if v10 = 0 then J63 x2 else jn (fun (b14 : Int32) => J63 b14) (fun J62 => jn (fun (_ : Unit) => J62 (0 : Int32)) (fun J61 => (if x2 = 0 then J61 () else rd M4 m_someGone 48 x3 (fun v16 => jn (fun (_ : Unit) => J62 (1 : Int32)) (fun J57 => (if v16 = 0 then rd M4 m_someThere 48 x3 (fun v18 => (if v18 = 0 then J57 () else J61 ())) else rd M4 m_canGo 48 x3 (fun v20 => (if v20 = 0 then J61 () else J57 ())))))))))))))
def f_X11_childrenCanGo (M : gM) (a1 : Int32) : Option Int32 :=
  lt ((a1 + (1 : Int32))) (fun x1 => f_X11_childrenCanGo_L6 M a1 100 (1 : Int32) x1)
set_option maxHeartbeats 4000000 in
set_option maxRecDepth 100000 in
theorem t_X11_childrenCanGo (l : Launch) (D : va_G) (dA : Nat → ClassId) (A : gI → Nat) (hJ : gJ mLive A) {M : gM} {a1 : Int32}  {y : Int32} (h : f_X11_childrenCanGo M a1 = some y) : mMi l yX11_childrenCanGo wmX11_childrenCanGo ({ frames := 1, cells := 0, slots := 0, locals := 22 } : Room) D dA A [.ref (A m_o), .int a1] M y M := by
  refine Met.ofW (cc := cX11_childrenCanGo) (maxL := 4) (ret := (some .boolean)) (by decide) rfl ?_
  intro p e s m args below meth c s₁ B hml hv
  obtain ⟨rfl, hP, hK⟩ := hv
  generalize hargs : ([.ref (A m_o), .int a1] : List Value).toArray = args at B ⊢
  have S : CallFix p m c cX11_childrenCanGo 4 s args wmX11_childrenCanGo RX11 := ⟨B.exec, B.bytes, hml, findClass_of_methodNamed B.named, atoms_spec (ws := wmX11_childrenCanGo) B.pre⟩
  obtain ⟨hx, hb, -, hown, hts⟩ := id S
  have hr := B.returns
  have hlocks := B.notSynchronized
  have X : gX D vwCl dA mLive A (gA mLive A) s := ⟨hK, hJ, fun i hi => ⟨i, hi, rfl⟩⟩
  have Z : gZ D mLay dA mLive A (gA mLive A) s.heap M s.heap [] := ⟨hP, va_S.rf⟩
  have hin : ∀ w ∈ wsX110, w ∈ wmX11_childrenCanGo := m_in
  have hl_128 := hts (.fieldLink RX11 128 "ReplicaFilesModel" "someThere" "[Z") (mBc 44 rfl)
  have hl_131 := hts (.fieldLink RX11 131 "ReplicaFilesModel" "someGone" "[Z") (mBc 45 rfl)
  have hl_137 := hts (.fieldLink RX11 137 "ReplicaFilesModel" "canGo" "[Z") (mBc 47 rfl)
  have hl_162 := hts (.fieldLink RX11 162 "ReplicaFilesModel" "made" "I") (mBc 55 rfl)
  have hl := lv_entry ([.ref (A m_o), .int a1]) (n := 4) (Nat.le_of_ble_eq_true rfl)
  rw [← hargs, lg_entry_eq, hargs]
  generalize (lg_sl ([.ref (A m_o), .int a1]) ++ List.replicate (4 - (lg_sl ([.ref (A m_o), .int a1])).length) Slot.unset).toArray = ls at hl ⊢
  have hl : lv_has ls 4 [(0, .ref (A m_o)), (1, .int a1)] := hl
  unfold f_X11_childrenCanGo at h
  refine lv_iconst (v := (1 : Int32)) hx hb dX11_childrenCanGo_0 (by decide) ?_
  refine lv_istore_n (lv' := [(2, .int (1 : Int32)), (0, .ref (A m_o)), (1, .int a1)]) hx hb dX11_childrenCanGo_1 rfl hl (by decide) rfl (fun ls hl => ?_)
  refine lv_iload_n hx hb dX11_childrenCanGo_2 rfl (lv_at hl 2 rfl) ?_
  refine lv_iconst (v := (1 : Int32)) hx hb dX11_childrenCanGo_3 (by decide) ?_
  refine lv_iadd hx hb dX11_childrenCanGo_4 ?_
  refine g_topi h (fun x1 h => ?_)
  refine lv_istore_n (lv' := [(3, .int x1), (2, .int (1 : Int32)), (0, .ref (A m_o)), (1, .int a1)]) hx hb dX11_childrenCanGo_5 rfl hl (by decide) rfl (fun ls hl => ?_)
  have hL6 : ∀ (n : Nat) (x2 : Int32) (x3 : Int32) (H : Heap) (locs : List Loc) (ls : Array Slot), gZ D mLay dA mLive A (gA mLive A) s.heap M H locs → lv_has ls 4 [(0, .ref (A m_o)), (1, .int a1), (2, .int x2), (3, .int x3)] → f_X11_childrenCanGo_L6 M a1 n x2 x3 = some y → W p l e (headSpec wmX11_childrenCanGo ({ frames := 1, cells := 0, slots := 0, locals := 22 } : Room)).room s m args below meth c H locs 0 0 (MQ below (mQi D dA A (y, M)) args s 0 0 (gA mLive A)) (F0 m 6 ls []) := by
    intro n
    induction n with
    | zero =>
      intro x2 x3 H locs ls Z hl h
      rw [f_X11_childrenCanGo_L6] at h
      cases h
    | succ n5 ih6 =>
      intro x2 x3 H locs ls Z hl h
      rw [f_X11_childrenCanGo_L6] at h
      refine lv_iload_n hx hb dX11_childrenCanGo_6 rfl (lv_at hl 3 rfl) ?_
      refine lv_aload_n hx hb dX11_childrenCanGo_7 rfl (lv_at hl 0 rfl) ?_
      refine mr_made S X Z hin hl_162 dX11_childrenCanGo_8 h (fun v6 h => ?_)
      refine lv_icmp_ge (tgt := 69) hx hb dX11_childrenCanGo_11 (by decide) (fun c7 => ?_) (fun c7 => ?_)
      · have h := if_t c7 h
        refine lv_iload_n hx hb dX11_childrenCanGo_69 rfl (lv_at hl 2 rfl) ?_
        obtain ⟨z8, h⟩ := gz_e h
        have hy := Option.some.inj h
        subst hy
        exact g_rz (z8) S Z hr hlocks dX11_childrenCanGo_70
      · have h := if_f c7 h
        refine lv_aload_n hx hb dX11_childrenCanGo_14 rfl (lv_at hl 0 rfl) ?_
        refine lv_iload_n hx hb dX11_childrenCanGo_15 rfl (lv_at hl 3 rfl) ?_
        refine lv_iload_n hx hb dX11_childrenCanGo_16 rfl (lv_at hl 1 rfl) ?_
        obtain ⟨v10, hc9, h⟩ := o1_e h
        refine g_Vi (As := [.int x3, .int a1]) (rest := []) S X Z mlv_o rfl rfl (t_X11_isChild l D dA A hJ  hc9) (cwV 2 hts (mGV (mB 104 rfl) (mB 105 rfl) (mB 106 rfl) (mB 63 rfl) (mB 102 rfl)) rfl rfl rfl (by decide +kernel) ⟨Nat.le_of_ble_eq_true rfl, Nat.le_of_ble_eq_true rfl⟩) rfl hl.1 rfl (Nat.le_of_ble_eq_true rfl) dX11_childrenCanGo_17 ⟨Nat.zero_le _, Nat.zero_le _⟩ (fun H locs Z => ?_)
        obtain ⟨J63, eJ63, h⟩ := jn_e h
        have hJ63 : ∀ (b11 : Int32) (H : Heap) (locs : List Loc) (ls : Array Slot), gZ D mLay dA mLive A (gA mLive A) s.heap M H locs → lv_has ls 4 [(0, .ref (A m_o)), (1, .int a1), (2, .int b11), (3, .int x3)] → J63 b11 = some y → W p l e (headSpec wmX11_childrenCanGo ({ frames := 1, cells := 0, slots := 0, locals := 22 } : Room)).room s m args below meth c H locs 0 0 (MQ below (mQi D dA A (y, M)) args s 0 0 (gA mLive A)) (F0 m 63 ls []) := by
          intro b11 H locs ls Z hl h
          rw [eJ63] at h
          try dsimp only at h
          obtain ⟨x12, ex12, h⟩ := lt_e h
          refine lv_iinc (v := x12) (lv' := [(3, .int x12), (0, .ref (A m_o)), (1, .int a1), (2, .int b11)]) hx hb dX11_childrenCanGo_63 hl (k := 3) rfl (by rw [ex12]; rfl) (by decide) rfl (fun ls hl => ?_)
          refine lv_goto (tgt := 6) hx hb dX11_childrenCanGo_66 (by decide) ?_
          exact ih6 b11 x12 _ _ _ Z (lv_sub hl [1, 2, 3, 0] rfl) h
        refine lv_if_eq (tgt := 63) hx hb dX11_childrenCanGo_20 (by decide) (fun c13 => ?_) (fun c13 => ?_)
        · have h := if_t c13 h
          exact hJ63 x2 _ _ _ Z (lv_sub hl [0, 1, 2, 3] rfl) h
        · have h := if_f c13 h
          refine lv_iload_n hx hb dX11_childrenCanGo_23 rfl (lv_at hl 2 rfl) ?_
          obtain ⟨J62, eJ62, h⟩ := jn_e h
          have hJ62 : ∀ (b14 : Int32) (H : Heap) (locs : List Loc) (ls : Array Slot), gZ D mLay dA mLive A (gA mLive A) s.heap M H locs → lv_has ls 4 [(0, .ref (A m_o)), (1, .int a1), (3, .int x3)] → J62 b14 = some y → W p l e (headSpec wmX11_childrenCanGo ({ frames := 1, cells := 0, slots := 0, locals := 22 } : Room)).room s m args below meth c H locs 0 0 (MQ below (mQi D dA A (y, M)) args s 0 0 (gA mLive A)) (F0 m 62 ls [.int b14]) := by
            intro b14 H locs ls Z hl h
            rw [eJ62] at h
            try dsimp only at h
            refine lv_istore_n (lv' := [(2, .int b14), (0, .ref (A m_o)), (1, .int a1), (3, .int x3)]) hx hb dX11_childrenCanGo_62 rfl hl (by decide) rfl (fun ls hl => ?_)
            exact hJ63 b14 _ _ _ Z (lv_sub hl [1, 2, 0, 3] rfl) h
          obtain ⟨J61, eJ61, h⟩ := jn_e h
          have hJ61 : ∀  (H : Heap) (locs : List Loc) (ls : Array Slot), gZ D mLay dA mLive A (gA mLive A) s.heap M H locs → lv_has ls 4 [(0, .ref (A m_o)), (1, .int a1), (3, .int x3)] → J61 () = some y → W p l e (headSpec wmX11_childrenCanGo ({ frames := 1, cells := 0, slots := 0, locals := 22 } : Room)).room s m args below meth c H locs 0 0 (MQ below (mQi D dA A (y, M)) args s 0 0 (gA mLive A)) (F0 m 61 ls []) := by
            intro  H locs ls Z hl h
            rw [eJ61] at h
            try dsimp only at h
            refine lv_iconst (v := (0 : Int32)) hx hb dX11_childrenCanGo_61 (by decide) ?_
            exact hJ62 (0 : Int32) _ _ _ Z (lv_sub hl [0, 1, 2] rfl) h
          refine lv_if_eq (tgt := 61) hx hb dX11_childrenCanGo_24 (by decide) (fun c15 => ?_) (fun c15 => ?_)
          · have h := if_t c15 h
            exact hJ61  _ _ _ Z (lv_sub hl [0, 1, 3] rfl) h
          · have h := if_f c15 h
            refine lv_aload_n hx hb dX11_childrenCanGo_27 rfl (lv_at hl 0 rfl) ?_
            refine mr_someGone S X Z hin hl_131 dX11_childrenCanGo_28 ?_
            refine lv_iload_n hx hb dX11_childrenCanGo_31 rfl (lv_at hl 3 rfl) ?_
            refine g_zald S X Z ml_someGone rfl dX11_childrenCanGo_32 h (fun v16 h => ?_)
            obtain ⟨J57, eJ57, h⟩ := jn_e h
            have hJ57 : ∀  (H : Heap) (locs : List Loc) (ls : Array Slot), gZ D mLay dA mLive A (gA mLive A) s.heap M H locs → lv_has ls 4 [(0, .ref (A m_o)), (1, .int a1), (3, .int x3)] → J57 () = some y → W p l e (headSpec wmX11_childrenCanGo ({ frames := 1, cells := 0, slots := 0, locals := 22 } : Room)).room s m args below meth c H locs 0 0 (MQ below (mQi D dA A (y, M)) args s 0 0 (gA mLive A)) (F0 m 57 ls []) := by
              intro  H locs ls Z hl h
              rw [eJ57] at h
              try dsimp only at h
              refine lv_iconst (v := (1 : Int32)) hx hb dX11_childrenCanGo_57 (by decide) ?_
              refine lv_goto (tgt := 62) hx hb dX11_childrenCanGo_58 (by decide) ?_
              exact hJ62 (1 : Int32) _ _ _ Z (lv_sub hl [0, 1, 2] rfl) h
            refine lv_if_eq (tgt := 48) hx hb dX11_childrenCanGo_33 (by decide) (fun c17 => ?_) (fun c17 => ?_)
            · have h := if_t c17 h
              refine lv_aload_n hx hb dX11_childrenCanGo_48 rfl (lv_at hl 0 rfl) ?_
              refine mr_someThere S X Z hin hl_128 dX11_childrenCanGo_49 ?_
              refine lv_iload_n hx hb dX11_childrenCanGo_52 rfl (lv_at hl 3 rfl) ?_
              refine g_zald S X Z ml_someThere rfl dX11_childrenCanGo_53 h (fun v18 h => ?_)
              refine lv_if_ne (tgt := 61) hx hb dX11_childrenCanGo_54 (by decide) (fun c19 => ?_) (fun c19 => ?_)
              · have h := if_f c19 h
                exact hJ61  _ _ _ Z (lv_sub hl [0, 1, 3] rfl) h
              · have h := if_t c19 h
                exact hJ57  _ _ _ Z (lv_sub hl [0, 1, 3] rfl) h
            · have h := if_f c17 h
              refine lv_aload_n hx hb dX11_childrenCanGo_36 rfl (lv_at hl 0 rfl) ?_
              refine mr_canGo S X Z hin hl_137 dX11_childrenCanGo_37 ?_
              refine lv_iload_n hx hb dX11_childrenCanGo_40 rfl (lv_at hl 3 rfl) ?_
              refine g_zald S X Z ml_canGo rfl dX11_childrenCanGo_41 h (fun v20 h => ?_)
              refine lv_if_eq (tgt := 61) hx hb dX11_childrenCanGo_42 (by decide) (fun c21 => ?_) (fun c21 => ?_)
              · have h := if_t c21 h
                exact hJ61  _ _ _ Z (lv_sub hl [0, 1, 3] rfl) h
              · have h := if_f c21 h
                refine lv_goto (tgt := 57) hx hb dX11_childrenCanGo_45 (by decide) ?_
                exact hJ57  _ _ _ Z (lv_sub hl [0, 1, 3] rfl) h
  exact hL6 100 (1 : Int32) x1 _ _ _ Z (lv_sub hl [2, 3, 1, 0] rfl) h
-- X11_foresee (I)V: 123 instructions
theorem dX11_foresee_0 : decode cX11_foresee 0 = .ok (.aload_n 0, 1) := by decide +kernel
theorem dX11_foresee_1 : decode cX11_foresee 1 = .ok (.getfield 162, 3) := by decide +kernel
theorem dX11_foresee_4 : decode cX11_foresee 4 = .ok (.iconst 1, 1) := by decide +kernel
theorem dX11_foresee_5 : decode cX11_foresee 5 = .ok (.isub, 1) := by decide +kernel
theorem dX11_foresee_6 : decode cX11_foresee 6 = .ok (.istore_n 2, 1) := by decide +kernel
theorem dX11_foresee_7 : decode cX11_foresee 7 = .ok (.iload_n 2, 1) := by decide +kernel
theorem dX11_foresee_8 : decode cX11_foresee 8 = .ok (.iload_n 1, 1) := by decide +kernel
theorem dX11_foresee_9 : decode cX11_foresee 9 = .ok (.if_icmp .lt 204, 3) := by decide +kernel
theorem dX11_foresee_12 : decode cX11_foresee 12 = .ok (.aload_n 0, 1) := by decide +kernel
theorem dX11_foresee_13 : decode cX11_foresee 13 = .ok (.getfield 128, 3) := by decide +kernel
theorem dX11_foresee_16 : decode cX11_foresee 16 = .ok (.iload_n 2, 1) := by decide +kernel
theorem dX11_foresee_17 : decode cX11_foresee 17 = .ok (.iconst 0, 1) := by decide +kernel
theorem dX11_foresee_18 : decode cX11_foresee 18 = .ok (.bastore, 1) := by decide +kernel
theorem dX11_foresee_19 : decode cX11_foresee 19 = .ok (.aload_n 0, 1) := by decide +kernel
theorem dX11_foresee_20 : decode cX11_foresee 20 = .ok (.getfield 131, 3) := by decide +kernel
theorem dX11_foresee_23 : decode cX11_foresee 23 = .ok (.iload_n 2, 1) := by decide +kernel
theorem dX11_foresee_24 : decode cX11_foresee 24 = .ok (.iconst 0, 1) := by decide +kernel
theorem dX11_foresee_25 : decode cX11_foresee 25 = .ok (.bastore, 1) := by decide +kernel
theorem dX11_foresee_26 : decode cX11_foresee 26 = .ok (.aload_n 0, 1) := by decide +kernel
theorem dX11_foresee_27 : decode cX11_foresee 27 = .ok (.aload_n 0, 1) := by decide +kernel
theorem dX11_foresee_28 : decode cX11_foresee 28 = .ok (.getfield 134, 3) := by decide +kernel
theorem dX11_foresee_31 : decode cX11_foresee 31 = .ok (.iload_n 2, 1) := by decide +kernel
theorem dX11_foresee_32 : decode cX11_foresee 32 = .ok (.invokevirtual 200, 3) := by decide +kernel
theorem dX11_foresee_35 : decode cX11_foresee 35 = .ok (.iconst 0, 1) := by decide +kernel
theorem dX11_foresee_36 : decode cX11_foresee 36 = .ok (.istore_n 3, 1) := by decide +kernel
theorem dX11_foresee_37 : decode cX11_foresee 37 = .ok (.iload_n 3, 1) := by decide +kernel
theorem dX11_foresee_38 : decode cX11_foresee 38 = .ok (.aload_n 0, 1) := by decide +kernel
theorem dX11_foresee_39 : decode cX11_foresee 39 = .ok (.getfield 155, 3) := by decide +kernel
theorem dX11_foresee_42 : decode cX11_foresee 42 = .ok (.if_icmp .ge 129, 3) := by decide +kernel
theorem dX11_foresee_45 : decode cX11_foresee 45 = .ok (.bipush 48, 2) := by decide +kernel
theorem dX11_foresee_47 : decode cX11_foresee 47 = .ok (.iload_n 3, 1) := by decide +kernel
theorem dX11_foresee_48 : decode cX11_foresee 48 = .ok (.imul, 1) := by decide +kernel
theorem dX11_foresee_49 : decode cX11_foresee 49 = .ok (.iload_n 2, 1) := by decide +kernel
theorem dX11_foresee_50 : decode cX11_foresee 50 = .ok (.iadd, 1) := by decide +kernel
theorem dX11_foresee_51 : decode cX11_foresee 51 = .ok (.istore 4, 2) := by decide +kernel
theorem dX11_foresee_53 : decode cX11_foresee 53 = .ok (.aload_n 0, 1) := by decide +kernel
theorem dX11_foresee_54 : decode cX11_foresee 54 = .ok (.iload_n 3, 1) := by decide +kernel
theorem dX11_foresee_55 : decode cX11_foresee 55 = .ok (.invokevirtual 406, 3) := by decide +kernel
theorem dX11_foresee_58 : decode cX11_foresee 58 = .ok (.ifCond .eq 30, 3) := by decide +kernel
theorem dX11_foresee_61 : decode cX11_foresee 61 = .ok (.iload_n 2, 1) := by decide +kernel
theorem dX11_foresee_62 : decode cX11_foresee 62 = .ok (.ifCond .le 26, 3) := by decide +kernel
theorem dX11_foresee_65 : decode cX11_foresee 65 = .ok (.aload_n 0, 1) := by decide +kernel
theorem dX11_foresee_66 : decode cX11_foresee 66 = .ok (.getfield 32, 3) := by decide +kernel
theorem dX11_foresee_69 : decode cX11_foresee 69 = .ok (.bipush 48, 2) := by decide +kernel
theorem dX11_foresee_71 : decode cX11_foresee 71 = .ok (.iload_n 3, 1) := by decide +kernel
theorem dX11_foresee_72 : decode cX11_foresee 72 = .ok (.imul, 1) := by decide +kernel
theorem dX11_foresee_73 : decode cX11_foresee 73 = .ok (.aload_n 0, 1) := by decide +kernel
theorem dX11_foresee_74 : decode cX11_foresee 74 = .ok (.getfield 22, 3) := by decide +kernel
theorem dX11_foresee_77 : decode cX11_foresee 77 = .ok (.iload_n 2, 1) := by decide +kernel
theorem dX11_foresee_78 : decode cX11_foresee 78 = .ok (.iaload, 1) := by decide +kernel
theorem dX11_foresee_79 : decode cX11_foresee 79 = .ok (.iadd, 1) := by decide +kernel
theorem dX11_foresee_80 : decode cX11_foresee 80 = .ok (.baload, 1) := by decide +kernel
theorem dX11_foresee_81 : decode cX11_foresee 81 = .ok (.ifCond .eq 7, 3) := by decide +kernel
theorem dX11_foresee_84 : decode cX11_foresee 84 = .ok (.iconst 1, 1) := by decide +kernel
theorem dX11_foresee_85 : decode cX11_foresee 85 = .ok (.goto 4, 3) := by decide +kernel
theorem dX11_foresee_88 : decode cX11_foresee 88 = .ok (.iconst 0, 1) := by decide +kernel
theorem dX11_foresee_89 : decode cX11_foresee 89 = .ok (.istore 5, 2) := by decide +kernel
theorem dX11_foresee_91 : decode cX11_foresee 91 = .ok (.aload_n 0, 1) := by decide +kernel
theorem dX11_foresee_92 : decode cX11_foresee 92 = .ok (.getfield 128, 3) := by decide +kernel
theorem dX11_foresee_95 : decode cX11_foresee 95 = .ok (.iload_n 2, 1) := by decide +kernel
theorem dX11_foresee_96 : decode cX11_foresee 96 = .ok (.aload_n 0, 1) := by decide +kernel
theorem dX11_foresee_97 : decode cX11_foresee 97 = .ok (.getfield 128, 3) := by decide +kernel
theorem dX11_foresee_100 : decode cX11_foresee 100 = .ok (.iload_n 2, 1) := by decide +kernel
theorem dX11_foresee_101 : decode cX11_foresee 101 = .ok (.baload, 1) := by decide +kernel
theorem dX11_foresee_102 : decode cX11_foresee 102 = .ok (.ifCond .ne 19, 3) := by decide +kernel
theorem dX11_foresee_105 : decode cX11_foresee 105 = .ok (.iload 5, 2) := by decide +kernel
theorem dX11_foresee_107 : decode cX11_foresee 107 = .ok (.ifCond .eq 18, 3) := by decide +kernel
theorem dX11_foresee_110 : decode cX11_foresee 110 = .ok (.aload_n 0, 1) := by decide +kernel
theorem dX11_foresee_111 : decode cX11_foresee 111 = .ok (.getfield 56, 3) := by decide +kernel
theorem dX11_foresee_114 : decode cX11_foresee 114 = .ok (.iload 4, 2) := by decide +kernel
theorem dX11_foresee_116 : decode cX11_foresee 116 = .ok (.iaload, 1) := by decide +kernel
theorem dX11_foresee_117 : decode cX11_foresee 117 = .ok (.iconst 1, 1) := by decide +kernel
theorem dX11_foresee_118 : decode cX11_foresee 118 = .ok (.if_icmp .ne 7, 3) := by decide +kernel
theorem dX11_foresee_121 : decode cX11_foresee 121 = .ok (.iconst 1, 1) := by decide +kernel
theorem dX11_foresee_122 : decode cX11_foresee 122 = .ok (.goto 4, 3) := by decide +kernel
theorem dX11_foresee_125 : decode cX11_foresee 125 = .ok (.iconst 0, 1) := by decide +kernel
theorem dX11_foresee_126 : decode cX11_foresee 126 = .ok (.bastore, 1) := by decide +kernel
theorem dX11_foresee_127 : decode cX11_foresee 127 = .ok (.iload 5, 2) := by decide +kernel
theorem dX11_foresee_129 : decode cX11_foresee 129 = .ok (.ifCond .eq 36, 3) := by decide +kernel
theorem dX11_foresee_132 : decode cX11_foresee 132 = .ok (.aload_n 0, 1) := by decide +kernel
theorem dX11_foresee_133 : decode cX11_foresee 133 = .ok (.getfield 56, 3) := by decide +kernel
theorem dX11_foresee_136 : decode cX11_foresee 136 = .ok (.iload 4, 2) := by decide +kernel
theorem dX11_foresee_138 : decode cX11_foresee 138 = .ok (.iaload, 1) := by decide +kernel
theorem dX11_foresee_139 : decode cX11_foresee 139 = .ok (.iconst 2, 1) := by decide +kernel
theorem dX11_foresee_140 : decode cX11_foresee 140 = .ok (.if_icmp .ne 25, 3) := by decide +kernel
theorem dX11_foresee_143 : decode cX11_foresee 143 = .ok (.aload_n 0, 1) := by decide +kernel
theorem dX11_foresee_144 : decode cX11_foresee 144 = .ok (.getfield 131, 3) := by decide +kernel
theorem dX11_foresee_147 : decode cX11_foresee 147 = .ok (.iload_n 2, 1) := by decide +kernel
theorem dX11_foresee_148 : decode cX11_foresee 148 = .ok (.iconst 1, 1) := by decide +kernel
theorem dX11_foresee_149 : decode cX11_foresee 149 = .ok (.bastore, 1) := by decide +kernel
theorem dX11_foresee_150 : decode cX11_foresee 150 = .ok (.aload_n 0, 1) := by decide +kernel
theorem dX11_foresee_151 : decode cX11_foresee 151 = .ok (.aload_n 0, 1) := by decide +kernel
theorem dX11_foresee_152 : decode cX11_foresee 152 = .ok (.getfield 59, 3) := by decide +kernel
theorem dX11_foresee_155 : decode cX11_foresee 155 = .ok (.iload 4, 2) := by decide +kernel
theorem dX11_foresee_157 : decode cX11_foresee 157 = .ok (.aload_n 0, 1) := by decide +kernel
theorem dX11_foresee_158 : decode cX11_foresee 158 = .ok (.getfield 134, 3) := by decide +kernel
theorem dX11_foresee_161 : decode cX11_foresee 161 = .ok (.iload_n 2, 1) := by decide +kernel
theorem dX11_foresee_162 : decode cX11_foresee 162 = .ok (.invokevirtual 388, 3) := by decide +kernel
theorem dX11_foresee_165 : decode cX11_foresee 165 = .ok (.iinc 3 1, 3) := by decide +kernel
theorem dX11_foresee_168 : decode cX11_foresee 168 = .ok (.goto (-131), 3) := by decide +kernel
theorem dX11_foresee_171 : decode cX11_foresee 171 = .ok (.aload_n 0, 1) := by decide +kernel
theorem dX11_foresee_172 : decode cX11_foresee 172 = .ok (.getfield 137, 3) := by decide +kernel
theorem dX11_foresee_175 : decode cX11_foresee 175 = .ok (.iload_n 2, 1) := by decide +kernel
theorem dX11_foresee_176 : decode cX11_foresee 176 = .ok (.aload_n 0, 1) := by decide +kernel
theorem dX11_foresee_177 : decode cX11_foresee 177 = .ok (.getfield 131, 3) := by decide +kernel
theorem dX11_foresee_180 : decode cX11_foresee 180 = .ok (.iload_n 2, 1) := by decide +kernel
theorem dX11_foresee_181 : decode cX11_foresee 181 = .ok (.baload, 1) := by decide +kernel
theorem dX11_foresee_182 : decode cX11_foresee 182 = .ok (.ifCond .eq 23, 3) := by decide +kernel
theorem dX11_foresee_185 : decode cX11_foresee 185 = .ok (.aload_n 0, 1) := by decide +kernel
theorem dX11_foresee_186 : decode cX11_foresee 186 = .ok (.iload_n 2, 1) := by decide +kernel
theorem dX11_foresee_187 : decode cX11_foresee 187 = .ok (.invokevirtual 430, 3) := by decide +kernel
theorem dX11_foresee_190 : decode cX11_foresee 190 = .ok (.ifCond .eq 15, 3) := by decide +kernel
theorem dX11_foresee_193 : decode cX11_foresee 193 = .ok (.aload_n 0, 1) := by decide +kernel
theorem dX11_foresee_194 : decode cX11_foresee 194 = .ok (.iload_n 2, 1) := by decide +kernel
theorem dX11_foresee_195 : decode cX11_foresee 195 = .ok (.invokevirtual 433, 3) := by decide +kernel
theorem dX11_foresee_198 : decode cX11_foresee 198 = .ok (.ifCond .eq 7, 3) := by decide +kernel
theorem dX11_foresee_201 : decode cX11_foresee 201 = .ok (.iconst 1, 1) := by decide +kernel
theorem dX11_foresee_202 : decode cX11_foresee 202 = .ok (.goto 4, 3) := by decide +kernel
theorem dX11_foresee_205 : decode cX11_foresee 205 = .ok (.iconst 0, 1) := by decide +kernel
theorem dX11_foresee_206 : decode cX11_foresee 206 = .ok (.bastore, 1) := by decide +kernel
theorem dX11_foresee_207 : decode cX11_foresee 207 = .ok (.iinc 2 (-1), 3) := by decide +kernel
theorem dX11_foresee_210 : decode cX11_foresee 210 = .ok (.goto (-203), 3) := by decide +kernel
theorem dX11_foresee_213 : decode cX11_foresee 213 = .ok (.return_, 1) := by decide +kernel
abbrev wmX11_foresee : List Cond := .code yX11_foresee cX11_foresee 6 none :: mBig
def f_X11_foresee_L37 (a1 : Int32) (x3 : Int32) (J171 : gM → Option gM) : Nat → Int32 → gM → Option gM
  | 0, _, _ => none
  | n27 + 1, x25, M26 => lt (M26 m_o 0) (fun v28 => (if v28 ≤ x25 then J171 M26 else lt ((((48 : Int32) * x25) + x3)) (fun x30 => o1 (f_X11_isOf M26 x25) (fun v32 => jn (fun (q : (Int32 × gM)) => match q with | (b33, M34) => rd M34 m_someThere 48 x3 (fun v35 => jn (fun (q : (Int32 × gM)) => match q with | (b36, M37) => wz M37 m_someThere 48 x3 b36 (fun M38 => jn (fun (M39 : gM) => lt (x25 + 1) (fun x40 => f_X11_foresee_L37 a1 x3 J171 n27 x40 M39)) (fun J165 => (if b33 = 0 then J165 M38 else rd M38 m_entry 192 x30 (fun v42 => (if v42 = (2 : Int32) then wz M38 m_someGone 48 x3 (1 : Int32) (fun M44 => o1 (f_X11_raise M44 m_gone x30 m_mergedGone x3) (fun M46 => J165 M46)) else J165 M38)))))) (fun J126 => jn (fun (M47 : gM) => J126 ((1 : Int32), M47)) (fun J121 => (if v35 = 0 then jn (fun (M49 : gM) => J126 ((0 : Int32), M49)) (fun J125 => (if b33 = 0 then J125 M34 else rd M34 m_entry 192 x30 (fun v51 => (if v51 = (1 : Int32) then J121 M34 else J125 M34)))) else J121 M34))))) (fun J89 => jn (fun (M53 : gM) => J89 ((0 : Int32), M53)) (fun J88 => (if v32 = 0 then J88 M26 else (if x3 ≤ 0 then J88 M26 else rd M26 m_parent 48 x3 (fun v56 => rd M26 m_has 192 (((48 : Int32) * x25) + v56) (fun v57 => (if v57 = 0 then J88 M26 else J89 ((1 : Int32), M26))))))))))))
def f_X11_foresee_L7 (a1 : Int32) : Nat → Int32 → gM → Option gM
  | 0, _, _ => none
  | n5 + 1, x3, M4 => (if x3 < a1 then some M4 else wz M4 m_someThere 48 x3 (0 : Int32) (fun M7 => wz M7 m_someGone 48 x3 (0 : Int32) (fun M8 => o1 (f_X11_clearRow M8 m_mergedGone x3) (fun M10 => jn (fun (M11 : gM) => rd M11 m_someGone 48 x3 (fun v12 => jn (fun (q : (Int32 × gM)) => match q with | (b13, M14) => wz M14 m_canGo 48 x3 b13 (fun M15 => lt (x3 + (-1)) (fun x16 => f_X11_foresee_L7 a1 n5 x16 M15))) (fun J206 => jn (fun (M17 : gM) => J206 ((0 : Int32), M17)) (fun J205 => (if v12 = 0 then J205 M11 else o1 (f_X11_areAtMost M11 x3) (fun v20 => (if v20 = 0 then J205 M11 else o1 (f_X11_childrenCanGo M11 x3) (fun v23 => (if v23 = 0 then J205 M11 else J206 ((1 : Int32), M11)))))))))) (fun J171 => f_X11_foresee_L37 a1 x3 J171 100 (0 : Int32) M10)))))
def f_X11_foresee (M : gM) (a1 : Int32) : Option gM :=
  lt (M m_o 6) (fun v1 => lt ((v1 - (1 : Int32))) (fun x2 => f_X11_foresee_L7 a1 100 x2 M))
set_option maxHeartbeats 4000000 in
set_option maxRecDepth 100000 in
theorem t_X11_foresee (l : Launch) (D : va_G) (dA : Nat → ClassId) (A : gI → Nat) (hJ : gJ mLive A) {M : gM} {a1 : Int32}  {y : gM} (h : f_X11_foresee M a1 = some y) : mMv l yX11_foresee wmX11_foresee ({ frames := 2, cells := 0, slots := 0, locals := 50 } : Room) D dA A [.ref (A m_o), .int a1] M y := by
  refine Met.ofW (cc := cX11_foresee) (maxL := 6) (ret := none) (by decide) rfl ?_
  intro p e s m args below meth c s₁ B hml hv
  obtain ⟨rfl, hP, hK⟩ := hv
  generalize hargs : ([.ref (A m_o), .int a1] : List Value).toArray = args at B ⊢
  have S : CallFix p m c cX11_foresee 6 s args wmX11_foresee RX11 := ⟨B.exec, B.bytes, hml, findClass_of_methodNamed B.named, atoms_spec (ws := wmX11_foresee) B.pre⟩
  obtain ⟨hx, hb, -, hown, hts⟩ := id S
  have hr := B.returns
  have hlocks := B.notSynchronized
  have X : gX D vwCl dA mLive A (gA mLive A) s := ⟨hK, hJ, fun i hi => ⟨i, hi, rfl⟩⟩
  have Z : gZ D mLay dA mLive A (gA mLive A) s.heap M s.heap [] := ⟨hP, va_S.rf⟩
  have hin : ∀ w ∈ wsX110, w ∈ wmX11_foresee := m_in
  have hl_22 := hts (.fieldLink RX11 22 "ReplicaFilesModel" "parent" "[I") (mBc 9 rfl)
  have hl_32 := hts (.fieldLink RX11 32 "ReplicaFilesModel" "has" "[Z") (mBc 12 rfl)
  have hl_56 := hts (.fieldLink RX11 56 "ReplicaFilesModel" "entry" "[I") (mBc 20 rfl)
  have hl_59 := hts (.fieldLink RX11 59 "ReplicaFilesModel" "gone" "[I") (mBc 21 rfl)
  have hl_128 := hts (.fieldLink RX11 128 "ReplicaFilesModel" "someThere" "[Z") (mBc 44 rfl)
  have hl_131 := hts (.fieldLink RX11 131 "ReplicaFilesModel" "someGone" "[Z") (mBc 45 rfl)
  have hl_134 := hts (.fieldLink RX11 134 "ReplicaFilesModel" "mergedGone" "[I") (mBc 46 rfl)
  have hl_137 := hts (.fieldLink RX11 137 "ReplicaFilesModel" "canGo" "[Z") (mBc 47 rfl)
  have hl_155 := hts (.fieldLink RX11 155 "ReplicaFilesModel" "servers" "I") (mBc 53 rfl)
  have hl_162 := hts (.fieldLink RX11 162 "ReplicaFilesModel" "made" "I") (mBc 55 rfl)
  have hl := lv_entry ([.ref (A m_o), .int a1]) (n := 6) (Nat.le_of_ble_eq_true rfl)
  rw [← hargs, lg_entry_eq, hargs]
  generalize (lg_sl ([.ref (A m_o), .int a1]) ++ List.replicate (6 - (lg_sl ([.ref (A m_o), .int a1])).length) Slot.unset).toArray = ls at hl ⊢
  have hl : lv_has ls 6 [(0, .ref (A m_o)), (1, .int a1)] := hl
  unfold f_X11_foresee at h
  refine lv_aload_n hx hb dX11_foresee_0 rfl (lv_at hl 0 rfl) ?_
  refine mr_made S X Z hin hl_162 dX11_foresee_1 h (fun v1 h => ?_)
  refine lv_iconst (v := (1 : Int32)) hx hb dX11_foresee_4 (by decide) ?_
  refine lv_isub hx hb dX11_foresee_5 ?_
  refine g_topi h (fun x2 h => ?_)
  refine lv_istore_n (lv' := [(2, .int x2), (0, .ref (A m_o)), (1, .int a1)]) hx hb dX11_foresee_6 rfl hl (by decide) rfl (fun ls hl => ?_)
  have hL7 : ∀ (n : Nat) (x3 : Int32) (M4 : gM) (H : Heap) (locs : List Loc) (ls : Array Slot), gZ D mLay dA mLive A (gA mLive A) s.heap M4 H locs → lv_has ls 6 [(0, .ref (A m_o)), (1, .int a1), (2, .int x3)] → f_X11_foresee_L7 a1 n x3 M4 = some y → W p l e (headSpec wmX11_foresee ({ frames := 2, cells := 0, slots := 0, locals := 50 } : Room)).room s m args below meth c H locs 0 0 (MQ below (mQv D dA A y) args s 0 0 (gA mLive A)) (F0 m 7 ls []) := by
    intro n
    induction n with
    | zero =>
      intro x3 M4 H locs ls Z hl h
      rw [f_X11_foresee_L7] at h
      cases h
    | succ n5 ih7 =>
      intro x3 M4 H locs ls Z hl h
      rw [f_X11_foresee_L7] at h
      refine lv_iload_n hx hb dX11_foresee_7 rfl (lv_at hl 2 rfl) ?_
      refine lv_iload_n hx hb dX11_foresee_8 rfl (lv_at hl 1 rfl) ?_
      refine lv_icmp_lt (tgt := 213) hx hb dX11_foresee_9 (by decide) (fun c6 => ?_) (fun c6 => ?_)
      · have h := if_t c6 h
        have hy := Option.some.inj h
        subst hy
        exact g_rv S Z hr hlocks dX11_foresee_213
      · have h := if_f c6 h
        refine lv_aload_n hx hb dX11_foresee_12 rfl (lv_at hl 0 rfl) ?_
        refine mr_someThere S X Z hin hl_128 dX11_foresee_13 ?_
        refine lv_iload_n hx hb dX11_foresee_16 rfl (lv_at hl 2 rfl) ?_
        refine lv_iconst (v := (0 : Int32)) hx hb dX11_foresee_17 (by decide) ?_
        refine g_zast S X Z ml_someThere rfl dX11_foresee_18 h (fun M7 H locs Z h => ?_)
        refine lv_aload_n hx hb dX11_foresee_19 rfl (lv_at hl 0 rfl) ?_
        refine mr_someGone S X Z hin hl_131 dX11_foresee_20 ?_
        refine lv_iload_n hx hb dX11_foresee_23 rfl (lv_at hl 2 rfl) ?_
        refine lv_iconst (v := (0 : Int32)) hx hb dX11_foresee_24 (by decide) ?_
        refine g_zast S X Z ml_someGone rfl dX11_foresee_25 h (fun M8 H locs Z h => ?_)
        refine lv_aload_n hx hb dX11_foresee_26 rfl (lv_at hl 0 rfl) ?_
        refine lv_aload_n hx hb dX11_foresee_27 rfl (lv_at hl 0 rfl) ?_
        refine mr_mergedGone S X Z hin hl_134 dX11_foresee_28 ?_
        refine lv_iload_n hx hb dX11_foresee_31 rfl (lv_at hl 2 rfl) ?_
        obtain ⟨M10, hc9, h⟩ := o1_e h
        refine g_Vv (As := [.ref (A m_mergedGone), .int x3]) (rest := []) S X Z mlv_o rfl rfl (t_X11_clearRow l D dA A hJ ⟨ml_mergedGone, rfl⟩ hc9) (cwV 2 hts (mGV (mB 108 rfl) (mB 109 rfl) (mB 110 rfl) (mB 63 rfl) (mB 99 rfl)) rfl rfl rfl (by decide +kernel) ⟨Nat.le_of_ble_eq_true rfl, Nat.le_of_ble_eq_true rfl⟩) rfl hl.1 rfl (Nat.le_of_ble_eq_true rfl) dX11_foresee_32 ⟨Nat.zero_le _, Nat.zero_le _⟩ (fun H locs Z => ?_)
        refine lv_iconst (v := (0 : Int32)) hx hb dX11_foresee_35 (by decide) ?_
        refine lv_istore_n (lv' := [(3, .int (0 : Int32)), (0, .ref (A m_o)), (1, .int a1), (2, .int x3)]) hx hb dX11_foresee_36 rfl hl (by decide) rfl (fun ls hl => ?_)
        obtain ⟨J171, eJ171, h⟩ := jn_e h
        have hJ171 : ∀ (M11 : gM) (H : Heap) (locs : List Loc) (ls : Array Slot), gZ D mLay dA mLive A (gA mLive A) s.heap M11 H locs → lv_has ls 6 [(0, .ref (A m_o)), (1, .int a1), (2, .int x3)] → J171 M11 = some y → W p l e (headSpec wmX11_foresee ({ frames := 2, cells := 0, slots := 0, locals := 50 } : Room)).room s m args below meth c H locs 0 0 (MQ below (mQv D dA A y) args s 0 0 (gA mLive A)) (F0 m 171 ls []) := by
          intro M11 H locs ls Z hl h
          rw [eJ171] at h
          try dsimp only at h
          refine lv_aload_n hx hb dX11_foresee_171 rfl (lv_at hl 0 rfl) ?_
          refine mr_canGo S X Z hin hl_137 dX11_foresee_172 ?_
          refine lv_iload_n hx hb dX11_foresee_175 rfl (lv_at hl 2 rfl) ?_
          refine lv_aload_n hx hb dX11_foresee_176 rfl (lv_at hl 0 rfl) ?_
          refine mr_someGone S X Z hin hl_131 dX11_foresee_177 ?_
          refine lv_iload_n hx hb dX11_foresee_180 rfl (lv_at hl 2 rfl) ?_
          refine g_zald S X Z ml_someGone rfl dX11_foresee_181 h (fun v12 h => ?_)
          obtain ⟨J206, eJ206, h⟩ := jn_e h
          have hJ206 : ∀ (b13 : Int32) (M14 : gM) (H : Heap) (locs : List Loc) (ls : Array Slot), gZ D mLay dA mLive A (gA mLive A) s.heap M14 H locs → lv_has ls 6 [(0, .ref (A m_o)), (1, .int a1), (2, .int x3)] → J206 (b13, M14) = some y → W p l e (headSpec wmX11_foresee ({ frames := 2, cells := 0, slots := 0, locals := 50 } : Room)).room s m args below meth c H locs 0 0 (MQ below (mQv D dA A y) args s 0 0 (gA mLive A)) (F0 m 206 ls [.int b13, .int x3, .ref (A m_canGo)]) := by
            intro b13 M14 H locs ls Z hl h
            rw [eJ206] at h
            try dsimp only at h
            refine g_zast S X Z ml_canGo rfl dX11_foresee_206 h (fun M15 H locs Z h => ?_)
            obtain ⟨x16, ex16, h⟩ := lt_e h
            refine lv_iinc (v := x16) (lv' := [(2, .int x16), (0, .ref (A m_o)), (1, .int a1)]) hx hb dX11_foresee_207 hl (k := 2) rfl (by rw [ex16]; rfl) (by decide) rfl (fun ls hl => ?_)
            refine lv_goto (tgt := 7) hx hb dX11_foresee_210 (by decide) ?_
            exact ih7 x16 M15 _ _ _ Z (lv_sub hl [1, 2, 0] rfl) h
          obtain ⟨J205, eJ205, h⟩ := jn_e h
          have hJ205 : ∀ (M17 : gM) (H : Heap) (locs : List Loc) (ls : Array Slot), gZ D mLay dA mLive A (gA mLive A) s.heap M17 H locs → lv_has ls 6 [(0, .ref (A m_o)), (1, .int a1), (2, .int x3)] → J205 M17 = some y → W p l e (headSpec wmX11_foresee ({ frames := 2, cells := 0, slots := 0, locals := 50 } : Room)).room s m args below meth c H locs 0 0 (MQ below (mQv D dA A y) args s 0 0 (gA mLive A)) (F0 m 205 ls [.int x3, .ref (A m_canGo)]) := by
            intro M17 H locs ls Z hl h
            rw [eJ205] at h
            try dsimp only at h
            refine lv_iconst (v := (0 : Int32)) hx hb dX11_foresee_205 (by decide) ?_
            exact hJ206 (0 : Int32) M17 _ _ _ Z (lv_sub hl [0, 1, 2] rfl) h
          refine lv_if_eq (tgt := 205) hx hb dX11_foresee_182 (by decide) (fun c18 => ?_) (fun c18 => ?_)
          · have h := if_t c18 h
            exact hJ205 M11 _ _ _ Z (lv_sub hl [0, 1, 2] rfl) h
          · have h := if_f c18 h
            refine lv_aload_n hx hb dX11_foresee_185 rfl (lv_at hl 0 rfl) ?_
            refine lv_iload_n hx hb dX11_foresee_186 rfl (lv_at hl 2 rfl) ?_
            obtain ⟨v20, hc19, h⟩ := o1_e h
            refine g_Vi (As := [.int x3]) (rest := [.int x3, .ref (A m_canGo)]) S X Z mlv_o rfl rfl (t_X11_areAtMost l D dA A hJ  hc19) (cwV 1 hts (mGV (mB 301 rfl) (mB 302 rfl) (mB 303 rfl) (mB 63 rfl) (mB 299 rfl)) rfl rfl rfl (by decide +kernel) ⟨Nat.le_of_ble_eq_true rfl, Nat.le_of_ble_eq_true rfl⟩) rfl hl.1 rfl (Nat.le_of_ble_eq_true rfl) dX11_foresee_187 ⟨Nat.zero_le _, Nat.zero_le _⟩ (fun H locs Z => ?_)
            refine lv_if_eq (tgt := 205) hx hb dX11_foresee_190 (by decide) (fun c21 => ?_) (fun c21 => ?_)
            · have h := if_t c21 h
              exact hJ205 M11 _ _ _ Z (lv_sub hl [0, 1, 2] rfl) h
            · have h := if_f c21 h
              refine lv_aload_n hx hb dX11_foresee_193 rfl (lv_at hl 0 rfl) ?_
              refine lv_iload_n hx hb dX11_foresee_194 rfl (lv_at hl 2 rfl) ?_
              obtain ⟨v23, hc22, h⟩ := o1_e h
              refine g_Vi (As := [.int x3]) (rest := [.int x3, .ref (A m_canGo)]) S X Z mlv_o rfl rfl (t_X11_childrenCanGo l D dA A hJ  hc22) (cwV 1 hts (mGV (mB 304 rfl) (mB 305 rfl) (mB 306 rfl) (mB 63 rfl) (mB 300 rfl)) rfl rfl rfl (by decide +kernel) ⟨Nat.le_of_ble_eq_true rfl, Nat.le_of_ble_eq_true rfl⟩) rfl hl.1 rfl (Nat.le_of_ble_eq_true rfl) dX11_foresee_195 ⟨Nat.zero_le _, Nat.zero_le _⟩ (fun H locs Z => ?_)
              refine lv_if_eq (tgt := 205) hx hb dX11_foresee_198 (by decide) (fun c24 => ?_) (fun c24 => ?_)
              · have h := if_t c24 h
                exact hJ205 M11 _ _ _ Z (lv_sub hl [0, 1, 2] rfl) h
              · have h := if_f c24 h
                refine lv_iconst (v := (1 : Int32)) hx hb dX11_foresee_201 (by decide) ?_
                refine lv_goto (tgt := 206) hx hb dX11_foresee_202 (by decide) ?_
                exact hJ206 (1 : Int32) M11 _ _ _ Z (lv_sub hl [0, 1, 2] rfl) h
        have hL37 : ∀ (n : Nat) (x25 : Int32) (M26 : gM) (H : Heap) (locs : List Loc) (ls : Array Slot), gZ D mLay dA mLive A (gA mLive A) s.heap M26 H locs → lv_has ls 6 [(0, .ref (A m_o)), (1, .int a1), (2, .int x3), (3, .int x25)] → f_X11_foresee_L37 a1 x3 J171 n x25 M26 = some y → W p l e (headSpec wmX11_foresee ({ frames := 2, cells := 0, slots := 0, locals := 50 } : Room)).room s m args below meth c H locs 0 0 (MQ below (mQv D dA A y) args s 0 0 (gA mLive A)) (F0 m 37 ls []) := by
          intro n
          induction n with
          | zero =>
            intro x25 M26 H locs ls Z hl h
            rw [f_X11_foresee_L37] at h
            cases h
          | succ n27 ih37 =>
            intro x25 M26 H locs ls Z hl h
            rw [f_X11_foresee_L37] at h
            refine lv_iload_n hx hb dX11_foresee_37 rfl (lv_at hl 3 rfl) ?_
            refine lv_aload_n hx hb dX11_foresee_38 rfl (lv_at hl 0 rfl) ?_
            refine mr_servers S X Z hin hl_155 dX11_foresee_39 h (fun v28 h => ?_)
            refine lv_icmp_ge (tgt := 171) hx hb dX11_foresee_42 (by decide) (fun c29 => ?_) (fun c29 => ?_)
            · have h := if_t c29 h
              exact hJ171 M26 _ _ _ Z (lv_sub hl [0, 1, 2] rfl) h
            · have h := if_f c29 h
              refine lv_bipush (v := (48 : Int32)) hx hb dX11_foresee_45 (by decide) ?_
              refine lv_iload_n hx hb dX11_foresee_47 rfl (lv_at hl 3 rfl) ?_
              refine lv_imul hx hb dX11_foresee_48 ?_
              refine lv_iload_n hx hb dX11_foresee_49 rfl (lv_at hl 2 rfl) ?_
              refine lv_iadd hx hb dX11_foresee_50 ?_
              refine g_topi h (fun x30 h => ?_)
              refine lv_istore (lv' := [(4, .int x30), (0, .ref (A m_o)), (1, .int a1), (2, .int x3), (3, .int x25)]) hx hb dX11_foresee_51 hl (by decide) rfl (fun ls hl => ?_)
              refine lv_aload_n hx hb dX11_foresee_53 rfl (lv_at hl 1 rfl) ?_
              refine lv_iload_n hx hb dX11_foresee_54 rfl (lv_at hl 4 rfl) ?_
              obtain ⟨v32, hc31, h⟩ := o1_e h
              refine g_Vi (As := [.int x25]) (rest := []) S X Z mlv_o rfl rfl (t_X11_isOf l D dA A hJ  hc31) (cwV 1 hts (mGV (mB 293 rfl) (mB 294 rfl) (mB 295 rfl) (mB 63 rfl) (mB 290 rfl)) rfl rfl rfl (by decide +kernel) ⟨Nat.le_of_ble_eq_true rfl, Nat.le_of_ble_eq_true rfl⟩) rfl hl.1 rfl (Nat.le_of_ble_eq_true rfl) dX11_foresee_55 ⟨Nat.zero_le _, Nat.zero_le _⟩ (fun H locs Z => ?_)
              obtain ⟨J89, eJ89, h⟩ := jn_e h
              have hJ89 : ∀ (b33 : Int32) (M34 : gM) (H : Heap) (locs : List Loc) (ls : Array Slot), gZ D mLay dA mLive A (gA mLive A) s.heap M34 H locs → lv_has ls 6 [(0, .ref (A m_o)), (1, .int a1), (2, .int x3), (3, .int x25), (4, .int x30)] → J89 (b33, M34) = some y → W p l e (headSpec wmX11_foresee ({ frames := 2, cells := 0, slots := 0, locals := 50 } : Room)).room s m args below meth c H locs 0 0 (MQ below (mQv D dA A y) args s 0 0 (gA mLive A)) (F0 m 89 ls [.int b33]) := by
                intro b33 M34 H locs ls Z hl h
                rw [eJ89] at h
                try dsimp only at h
                refine lv_istore (lv' := [(5, .int b33), (0, .ref (A m_o)), (1, .int a1), (2, .int x3), (3, .int x25), (4, .int x30)]) hx hb dX11_foresee_89 hl (by decide) rfl (fun ls hl => ?_)
                refine lv_aload_n hx hb dX11_foresee_91 rfl (lv_at hl 1 rfl) ?_
                refine mr_someThere S X Z hin hl_128 dX11_foresee_92 ?_
                refine lv_iload_n hx hb dX11_foresee_95 rfl (lv_at hl 3 rfl) ?_
                refine lv_aload_n hx hb dX11_foresee_96 rfl (lv_at hl 1 rfl) ?_
                refine mr_someThere S X Z hin hl_128 dX11_foresee_97 ?_
                refine lv_iload_n hx hb dX11_foresee_100 rfl (lv_at hl 3 rfl) ?_
                refine g_zald S X Z ml_someThere rfl dX11_foresee_101 h (fun v35 h => ?_)
                obtain ⟨J126, eJ126, h⟩ := jn_e h
                have hJ126 : ∀ (b36 : Int32) (M37 : gM) (H : Heap) (locs : List Loc) (ls : Array Slot), gZ D mLay dA mLive A (gA mLive A) s.heap M37 H locs → lv_has ls 6 [(0, .ref (A m_o)), (1, .int a1), (2, .int x3), (3, .int x25), (4, .int x30), (5, .int b33)] → J126 (b36, M37) = some y → W p l e (headSpec wmX11_foresee ({ frames := 2, cells := 0, slots := 0, locals := 50 } : Room)).room s m args below meth c H locs 0 0 (MQ below (mQv D dA A y) args s 0 0 (gA mLive A)) (F0 m 126 ls [.int b36, .int x3, .ref (A m_someThere)]) := by
                  intro b36 M37 H locs ls Z hl h
                  rw [eJ126] at h
                  try dsimp only at h
                  refine g_zast S X Z ml_someThere rfl dX11_foresee_126 h (fun M38 H locs Z h => ?_)
                  refine lv_iload hx hb dX11_foresee_127 (lv_at hl 5 rfl) ?_
                  obtain ⟨J165, eJ165, h⟩ := jn_e h
                  have hJ165 : ∀ (M39 : gM) (H : Heap) (locs : List Loc) (ls : Array Slot), gZ D mLay dA mLive A (gA mLive A) s.heap M39 H locs → lv_has ls 6 [(0, .ref (A m_o)), (1, .int a1), (2, .int x3), (3, .int x25)] → J165 M39 = some y → W p l e (headSpec wmX11_foresee ({ frames := 2, cells := 0, slots := 0, locals := 50 } : Room)).room s m args below meth c H locs 0 0 (MQ below (mQv D dA A y) args s 0 0 (gA mLive A)) (F0 m 165 ls []) := by
                    intro M39 H locs ls Z hl h
                    rw [eJ165] at h
                    try dsimp only at h
                    obtain ⟨x40, ex40, h⟩ := lt_e h
                    refine lv_iinc (v := x40) (lv' := [(3, .int x40), (0, .ref (A m_o)), (1, .int a1), (2, .int x3)]) hx hb dX11_foresee_165 hl (k := 3) rfl (by rw [ex40]; rfl) (by decide) rfl (fun ls hl => ?_)
                    refine lv_goto (tgt := 37) hx hb dX11_foresee_168 (by decide) ?_
                    exact ih37 x40 M39 _ _ _ Z (lv_sub hl [1, 2, 3, 0] rfl) h
                  refine lv_if_eq (tgt := 165) hx hb dX11_foresee_129 (by decide) (fun c41 => ?_) (fun c41 => ?_)
                  · have h := if_t c41 h
                    exact hJ165 M38 _ _ _ Z (lv_sub hl [0, 1, 2, 3] rfl) h
                  · have h := if_f c41 h
                    refine lv_aload_n hx hb dX11_foresee_132 rfl (lv_at hl 0 rfl) ?_
                    refine mr_entry S X Z hin hl_56 dX11_foresee_133 ?_
                    refine lv_iload hx hb dX11_foresee_136 (lv_at hl 4 rfl) ?_
                    refine g_iald S X Z ml_entry rfl dX11_foresee_138 h (fun v42 h => ?_)
                    refine lv_iconst (v := (2 : Int32)) hx hb dX11_foresee_139 (by decide) ?_
                    refine lv_icmp_ne (tgt := 165) hx hb dX11_foresee_140 (by decide) (fun c43 => ?_) (fun c43 => ?_)
                    · have h := if_f c43 h
                      exact hJ165 M38 _ _ _ Z (lv_sub hl [0, 1, 2, 3] rfl) h
                    · have h := if_t c43 h
                      refine lv_aload_n hx hb dX11_foresee_143 rfl (lv_at hl 0 rfl) ?_
                      refine mr_someGone S X Z hin hl_131 dX11_foresee_144 ?_
                      refine lv_iload_n hx hb dX11_foresee_147 rfl (lv_at hl 2 rfl) ?_
                      refine lv_iconst (v := (1 : Int32)) hx hb dX11_foresee_148 (by decide) ?_
                      refine g_zast S X Z ml_someGone rfl dX11_foresee_149 h (fun M44 H locs Z h => ?_)
                      refine lv_aload_n hx hb dX11_foresee_150 rfl (lv_at hl 0 rfl) ?_
                      refine lv_aload_n hx hb dX11_foresee_151 rfl (lv_at hl 0 rfl) ?_
                      refine mr_gone S X Z hin hl_59 dX11_foresee_152 ?_
                      refine lv_iload hx hb dX11_foresee_155 (lv_at hl 4 rfl) ?_
                      refine lv_aload_n hx hb dX11_foresee_157 rfl (lv_at hl 0 rfl) ?_
                      refine mr_mergedGone S X Z hin hl_134 dX11_foresee_158 ?_
                      refine lv_iload_n hx hb dX11_foresee_161 rfl (lv_at hl 2 rfl) ?_
                      obtain ⟨M46, hc45, h⟩ := o1_e h
                      refine g_Vv (As := [.ref (A m_gone), .int x30, .ref (A m_mergedGone), .int x3]) (rest := []) S X Z mlv_o rfl rfl (t_X11_raise l D dA A hJ ⟨ml_gone, rfl⟩ ⟨ml_mergedGone, rfl⟩ hc45) (cwV 4 hts (mGV (mB 269 rfl) (mB 270 rfl) (mB 271 rfl) (mB 63 rfl) (mB 98 rfl)) rfl rfl rfl (by decide +kernel) ⟨Nat.le_of_ble_eq_true rfl, Nat.le_of_ble_eq_true rfl⟩) rfl hl.1 rfl (Nat.le_of_ble_eq_true rfl) dX11_foresee_162 ⟨Nat.zero_le _, Nat.zero_le _⟩ (fun H locs Z => ?_)
                      exact hJ165 M46 _ _ _ Z (lv_sub hl [0, 1, 2, 3] rfl) h
                obtain ⟨J121, eJ121, h⟩ := jn_e h
                have hJ121 : ∀ (M47 : gM) (H : Heap) (locs : List Loc) (ls : Array Slot), gZ D mLay dA mLive A (gA mLive A) s.heap M47 H locs → lv_has ls 6 [(0, .ref (A m_o)), (1, .int a1), (2, .int x3), (3, .int x25), (4, .int x30), (5, .int b33)] → J121 M47 = some y → W p l e (headSpec wmX11_foresee ({ frames := 2, cells := 0, slots := 0, locals := 50 } : Room)).room s m args below meth c H locs 0 0 (MQ below (mQv D dA A y) args s 0 0 (gA mLive A)) (F0 m 121 ls [.int x3, .ref (A m_someThere)]) := by
                  intro M47 H locs ls Z hl h
                  rw [eJ121] at h
                  try dsimp only at h
                  refine lv_iconst (v := (1 : Int32)) hx hb dX11_foresee_121 (by decide) ?_
                  refine lv_goto (tgt := 126) hx hb dX11_foresee_122 (by decide) ?_
                  exact hJ126 (1 : Int32) M47 _ _ _ Z (lv_sub hl [0, 1, 2, 3, 4, 5] rfl) h
                refine lv_if_ne (tgt := 121) hx hb dX11_foresee_102 (by decide) (fun c48 => ?_) (fun c48 => ?_)
                · have h := if_f c48 h
                  exact hJ121 M34 _ _ _ Z (lv_sub hl [1, 2, 3, 4, 5, 0] rfl) h
                · have h := if_t c48 h
                  refine lv_iload hx hb dX11_foresee_105 (lv_at hl 0 rfl) ?_
                  obtain ⟨J125, eJ125, h⟩ := jn_e h
                  have hJ125 : ∀ (M49 : gM) (H : Heap) (locs : List Loc) (ls : Array Slot), gZ D mLay dA mLive A (gA mLive A) s.heap M49 H locs → lv_has ls 6 [(0, .ref (A m_o)), (1, .int a1), (2, .int x3), (3, .int x25), (4, .int x30), (5, .int b33)] → J125 M49 = some y → W p l e (headSpec wmX11_foresee ({ frames := 2, cells := 0, slots := 0, locals := 50 } : Room)).room s m args below meth c H locs 0 0 (MQ below (mQv D dA A y) args s 0 0 (gA mLive A)) (F0 m 125 ls [.int x3, .ref (A m_someThere)]) := by
                    intro M49 H locs ls Z hl h
                    rw [eJ125] at h
                    try dsimp only at h
                    refine lv_iconst (v := (0 : Int32)) hx hb dX11_foresee_125 (by decide) ?_
                    exact hJ126 (0 : Int32) M49 _ _ _ Z (lv_sub hl [0, 1, 2, 3, 4, 5] rfl) h
                  refine lv_if_eq (tgt := 125) hx hb dX11_foresee_107 (by decide) (fun c50 => ?_) (fun c50 => ?_)
                  · have h := if_t c50 h
                    exact hJ125 M34 _ _ _ Z (lv_sub hl [1, 2, 3, 4, 5, 0] rfl) h
                  · have h := if_f c50 h
                    refine lv_aload_n hx hb dX11_foresee_110 rfl (lv_at hl 1 rfl) ?_
                    refine mr_entry S X Z hin hl_56 dX11_foresee_111 ?_
                    refine lv_iload hx hb dX11_foresee_114 (lv_at hl 5 rfl) ?_
                    refine g_iald S X Z ml_entry rfl dX11_foresee_116 h (fun v51 h => ?_)
                    refine lv_iconst (v := (1 : Int32)) hx hb dX11_foresee_117 (by decide) ?_
                    refine lv_icmp_ne (tgt := 125) hx hb dX11_foresee_118 (by decide) (fun c52 => ?_) (fun c52 => ?_)
                    · have h := if_f c52 h
                      exact hJ125 M34 _ _ _ Z (lv_sub hl [1, 2, 3, 4, 5, 0] rfl) h
                    · have h := if_t c52 h
                      exact hJ121 M34 _ _ _ Z (lv_sub hl [1, 2, 3, 4, 5, 0] rfl) h
              obtain ⟨J88, eJ88, h⟩ := jn_e h
              have hJ88 : ∀ (M53 : gM) (H : Heap) (locs : List Loc) (ls : Array Slot), gZ D mLay dA mLive A (gA mLive A) s.heap M53 H locs → lv_has ls 6 [(0, .ref (A m_o)), (1, .int a1), (2, .int x3), (3, .int x25), (4, .int x30)] → J88 M53 = some y → W p l e (headSpec wmX11_foresee ({ frames := 2, cells := 0, slots := 0, locals := 50 } : Room)).room s m args below meth c H locs 0 0 (MQ below (mQv D dA A y) args s 0 0 (gA mLive A)) (F0 m 88 ls []) := by
                intro M53 H locs ls Z hl h
                rw [eJ88] at h
                try dsimp only at h
                refine lv_iconst (v := (0 : Int32)) hx hb dX11_foresee_88 (by decide) ?_
                exact hJ89 (0 : Int32) M53 _ _ _ Z (lv_sub hl [0, 1, 2, 3, 4] rfl) h
              refine lv_if_eq (tgt := 88) hx hb dX11_foresee_58 (by decide) (fun c54 => ?_) (fun c54 => ?_)
              · have h := if_t c54 h
                exact hJ88 M26 _ _ _ Z (lv_sub hl [1, 2, 3, 4, 0] rfl) h
              · have h := if_f c54 h
                refine lv_iload_n hx hb dX11_foresee_61 rfl (lv_at hl 3 rfl) ?_
                refine lv_if_le (tgt := 88) hx hb dX11_foresee_62 (by decide) (fun c55 => ?_) (fun c55 => ?_)
                · have h := if_t c55 h
                  exact hJ88 M26 _ _ _ Z (lv_sub hl [1, 2, 3, 4, 0] rfl) h
                · have h := if_f c55 h
                  refine lv_aload_n hx hb dX11_foresee_65 rfl (lv_at hl 1 rfl) ?_
                  refine mr_has S X Z hin hl_32 dX11_foresee_66 ?_
                  refine lv_bipush (v := (48 : Int32)) hx hb dX11_foresee_69 (by decide) ?_
                  refine lv_iload_n hx hb dX11_foresee_71 rfl (lv_at hl 4 rfl) ?_
                  refine lv_imul hx hb dX11_foresee_72 ?_
                  refine lv_aload_n hx hb dX11_foresee_73 rfl (lv_at hl 1 rfl) ?_
                  refine mr_parent S X Z hin hl_22 dX11_foresee_74 ?_
                  refine lv_iload_n hx hb dX11_foresee_77 rfl (lv_at hl 3 rfl) ?_
                  refine g_iald S X Z ml_parent rfl dX11_foresee_78 h (fun v56 h => ?_)
                  refine lv_iadd hx hb dX11_foresee_79 ?_
                  refine g_zald S X Z ml_has rfl dX11_foresee_80 h (fun v57 h => ?_)
                  refine lv_if_eq (tgt := 88) hx hb dX11_foresee_81 (by decide) (fun c58 => ?_) (fun c58 => ?_)
                  · have h := if_t c58 h
                    exact hJ88 M26 _ _ _ Z (lv_sub hl [1, 2, 3, 4, 0] rfl) h
                  · have h := if_f c58 h
                    refine lv_iconst (v := (1 : Int32)) hx hb dX11_foresee_84 (by decide) ?_
                    refine lv_goto (tgt := 89) hx hb dX11_foresee_85 (by decide) ?_
                    exact hJ89 (1 : Int32) M26 _ _ _ Z (lv_sub hl [1, 2, 3, 4, 0] rfl) h
        exact hL37 100 (0 : Int32) M10 _ _ _ Z (lv_sub hl [1, 2, 3, 0] rfl) h
  exact hL7 100 x2 M _ _ _ Z (lv_sub hl [1, 2, 0] rfl) h
-- X11_again (I)V: 65 instructions
theorem dX11_again_0 : decode cX11_again 0 = .ok (.aload_n 0, 1) := by decide +kernel
theorem dX11_again_1 : decode cX11_again 1 = .ok (.getfield 22, 3) := by decide +kernel
theorem dX11_again_4 : decode cX11_again 4 = .ok (.iload_n 1, 1) := by decide +kernel
theorem dX11_again_5 : decode cX11_again 5 = .ok (.iaload, 1) := by decide +kernel
theorem dX11_again_6 : decode cX11_again 6 = .ok (.istore_n 2, 1) := by decide +kernel
theorem dX11_again_7 : decode cX11_again 7 = .ok (.aload_n 0, 1) := by decide +kernel
theorem dX11_again_8 : decode cX11_again 8 = .ok (.iload_n 2, 1) := by decide +kernel
theorem dX11_again_9 : decode cX11_again 9 = .ok (.aload_n 0, 1) := by decide +kernel
theorem dX11_again_10 : decode cX11_again 10 = .ok (.getfield 394, 3) := by decide +kernel
theorem dX11_again_13 : decode cX11_again 13 = .ok (.invokevirtual 292, 3) := by decide +kernel
theorem dX11_again_16 : decode cX11_again 16 = .ok (.iconst 0, 1) := by decide +kernel
theorem dX11_again_17 : decode cX11_again 17 = .ok (.istore_n 3, 1) := by decide +kernel
theorem dX11_again_18 : decode cX11_again 18 = .ok (.iload_n 3, 1) := by decide +kernel
theorem dX11_again_19 : decode cX11_again 19 = .ok (.aload_n 0, 1) := by decide +kernel
theorem dX11_again_20 : decode cX11_again 20 = .ok (.getfield 155, 3) := by decide +kernel
theorem dX11_again_23 : decode cX11_again 23 = .ok (.if_icmp .ge 72, 3) := by decide +kernel
theorem dX11_again_26 : decode cX11_again 26 = .ok (.aload_n 0, 1) := by decide +kernel
theorem dX11_again_27 : decode cX11_again 27 = .ok (.iload_n 3, 1) := by decide +kernel
theorem dX11_again_28 : decode cX11_again 28 = .ok (.invokevirtual 406, 3) := by decide +kernel
theorem dX11_again_31 : decode cX11_again 31 = .ok (.ifCond .eq 58, 3) := by decide +kernel
theorem dX11_again_34 : decode cX11_again 34 = .ok (.aload_n 0, 1) := by decide +kernel
theorem dX11_again_35 : decode cX11_again 35 = .ok (.getfield 56, 3) := by decide +kernel
theorem dX11_again_38 : decode cX11_again 38 = .ok (.bipush 48, 2) := by decide +kernel
theorem dX11_again_40 : decode cX11_again 40 = .ok (.iload_n 3, 1) := by decide +kernel
theorem dX11_again_41 : decode cX11_again 41 = .ok (.imul, 1) := by decide +kernel
theorem dX11_again_42 : decode cX11_again 42 = .ok (.iload_n 1, 1) := by decide +kernel
theorem dX11_again_43 : decode cX11_again 43 = .ok (.iadd, 1) := by decide +kernel
theorem dX11_again_44 : decode cX11_again 44 = .ok (.iconst 1, 1) := by decide +kernel
theorem dX11_again_45 : decode cX11_again 45 = .ok (.iastore, 1) := by decide +kernel
theorem dX11_again_46 : decode cX11_again 46 = .ok (.aload_n 0, 1) := by decide +kernel
theorem dX11_again_47 : decode cX11_again 47 = .ok (.aload_n 0, 1) := by decide +kernel
theorem dX11_again_48 : decode cX11_again 48 = .ok (.getfield 59, 3) := by decide +kernel
theorem dX11_again_51 : decode cX11_again 51 = .ok (.bipush 48, 2) := by decide +kernel
theorem dX11_again_53 : decode cX11_again 53 = .ok (.iload_n 3, 1) := by decide +kernel
theorem dX11_again_54 : decode cX11_again 54 = .ok (.imul, 1) := by decide +kernel
theorem dX11_again_55 : decode cX11_again 55 = .ok (.iload_n 1, 1) := by decide +kernel
theorem dX11_again_56 : decode cX11_again 56 = .ok (.iadd, 1) := by decide +kernel
theorem dX11_again_57 : decode cX11_again 57 = .ok (.invokevirtual 200, 3) := by decide +kernel
theorem dX11_again_60 : decode cX11_again 60 = .ok (.aload_n 0, 1) := by decide +kernel
theorem dX11_again_61 : decode cX11_again 61 = .ok (.aload_n 0, 1) := by decide +kernel
theorem dX11_again_62 : decode cX11_again 62 = .ok (.getfield 41, 3) := by decide +kernel
theorem dX11_again_65 : decode cX11_again 65 = .ok (.bipush 48, 2) := by decide +kernel
theorem dX11_again_67 : decode cX11_again 67 = .ok (.iload_n 3, 1) := by decide +kernel
theorem dX11_again_68 : decode cX11_again 68 = .ok (.imul, 1) := by decide +kernel
theorem dX11_again_69 : decode cX11_again 69 = .ok (.iload_n 2, 1) := by decide +kernel
theorem dX11_again_70 : decode cX11_again 70 = .ok (.iadd, 1) := by decide +kernel
theorem dX11_again_71 : decode cX11_again 71 = .ok (.aload_n 0, 1) := by decide +kernel
theorem dX11_again_72 : decode cX11_again 72 = .ok (.getfield 394, 3) := by decide +kernel
theorem dX11_again_75 : decode cX11_again 75 = .ok (.iload_n 2, 1) := by decide +kernel
theorem dX11_again_76 : decode cX11_again 76 = .ok (.invokevirtual 298, 3) := by decide +kernel
theorem dX11_again_79 : decode cX11_again 79 = .ok (.aload_n 0, 1) := by decide +kernel
theorem dX11_again_80 : decode cX11_again 80 = .ok (.dup, 1) := by decide +kernel
theorem dX11_again_81 : decode cX11_again 81 = .ok (.getfield 400, 3) := by decide +kernel
theorem dX11_again_84 : decode cX11_again 84 = .ok (.iconst 1, 1) := by decide +kernel
theorem dX11_again_85 : decode cX11_again 85 = .ok (.iadd, 1) := by decide +kernel
theorem dX11_again_86 : decode cX11_again 86 = .ok (.putfield 400, 3) := by decide +kernel
theorem dX11_again_89 : decode cX11_again 89 = .ok (.iinc 3 1, 3) := by decide +kernel
theorem dX11_again_92 : decode cX11_again 92 = .ok (.goto (-74), 3) := by decide +kernel
theorem dX11_again_95 : decode cX11_again 95 = .ok (.aload_n 0, 1) := by decide +kernel
theorem dX11_again_96 : decode cX11_again 96 = .ok (.iload_n 2, 1) := by decide +kernel
theorem dX11_again_97 : decode cX11_again 97 = .ok (.aload_n 0, 1) := by decide +kernel
theorem dX11_again_98 : decode cX11_again 98 = .ok (.getfield 394, 3) := by decide +kernel
theorem dX11_again_101 : decode cX11_again 101 = .ok (.iconst (-1), 1) := by decide +kernel
theorem dX11_again_102 : decode cX11_again 102 = .ok (.invokevirtual 315, 3) := by decide +kernel
theorem dX11_again_105 : decode cX11_again 105 = .ok (.return_, 1) := by decide +kernel
abbrev wmX11_again : List Cond := .code yX11_again cX11_again 4 none :: mBig
def f_X11_again_L18 (a1 : Int32) (v1 : Int32) (J95 : gM → Option gM) : Nat → Int32 → gM → Option gM
  | 0, _, _ => none
  | n11 + 1, x9, M10 => lt (M10 m_o 0) (fun v12 => (if v12 ≤ x9 then J95 M10 else o1 (f_X11_isOf M10 x9) (fun v15 => jn (fun (M16 : gM) => lt (x9 + 1) (fun x17 => f_X11_again_L18 a1 v1 J95 n11 x17 M16)) (fun J89 => (if v15 = 0 then J89 M10 else wr M10 m_entry 192 (((48 : Int32) * x9) + a1) (1 : Int32) (fun M19 => o1 (f_X11_clearRow M19 m_gone (((48 : Int32) * x9) + a1)) (fun M21 => lt (M21 m_o 53) (fun v22 => o1 (f_X11_count M21 m_vector (((48 : Int32) * x9) + v1) v22 v1) (fun M24 => lt (M24 m_o 55) (fun v25 => lt (gset M24 m_o 55 (v25 + (1 : Int32))) (fun M26 => J89 M26)))))))))))
def f_X11_again (M : gM) (a1 : Int32) : Option gM :=
  rd M m_parent 48 a1 (fun v1 => lt (M m_o 53) (fun v2 => o1 (f_X11_mark M v1 v2) (fun M4 => jn (fun (M5 : gM) => lt (M5 m_o 53) (fun v6 => o1 (f_X11_endPromises M5 v1 v6 (-1 : Int32)) (fun M8 => some M8))) (fun J95 => f_X11_again_L18 a1 v1 J95 100 (0 : Int32) M4))))
set_option maxHeartbeats 4000000 in
set_option maxRecDepth 100000 in
theorem t_X11_again (l : Launch) (D : va_G) (dA : Nat → ClassId) (A : gI → Nat) (hJ : gJ mLive A) {M : gM} {a1 : Int32}  {y : gM} (h : f_X11_again M a1 = some y) : mMv l yX11_again wmX11_again ({ frames := 1, cells := 0, slots := 0, locals := 25 } : Room) D dA A [.ref (A m_o), .int a1] M y := by
  refine Met.ofW (cc := cX11_again) (maxL := 4) (ret := none) (by decide) rfl ?_
  intro p e s m args below meth c s₁ B hml hv
  obtain ⟨rfl, hP, hK⟩ := hv
  generalize hargs : ([.ref (A m_o), .int a1] : List Value).toArray = args at B ⊢
  have S : CallFix p m c cX11_again 4 s args wmX11_again RX11 := ⟨B.exec, B.bytes, hml, findClass_of_methodNamed B.named, atoms_spec (ws := wmX11_again) B.pre⟩
  obtain ⟨hx, hb, -, hown, hts⟩ := id S
  have hr := B.returns
  have hlocks := B.notSynchronized
  have X : gX D vwCl dA mLive A (gA mLive A) s := ⟨hK, hJ, fun i hi => ⟨i, hi, rfl⟩⟩
  have Z : gZ D mLay dA mLive A (gA mLive A) s.heap M s.heap [] := ⟨hP, va_S.rf⟩
  have hin : ∀ w ∈ wsX110, w ∈ wmX11_again := m_in
  have hl_22 := hts (.fieldLink RX11 22 "ReplicaFilesModel" "parent" "[I") (mBc 9 rfl)
  have hl_41 := hts (.fieldLink RX11 41 "ReplicaFilesModel" "vector" "[I") (mBc 15 rfl)
  have hl_56 := hts (.fieldLink RX11 56 "ReplicaFilesModel" "entry" "[I") (mBc 20 rfl)
  have hl_59 := hts (.fieldLink RX11 59 "ReplicaFilesModel" "gone" "[I") (mBc 21 rfl)
  have hl_155 := hts (.fieldLink RX11 155 "ReplicaFilesModel" "servers" "I") (mBc 53 rfl)
  have hl_394 := hts (.fieldLink RX11 394 "ReplicaFilesModel" "group" "I") (mBc 291 rfl)
  have hl_400 := hts (.fieldLink RX11 400 "ReplicaFilesModel" "changes" "I") (mBc 292 rfl)
  have hl := lv_entry ([.ref (A m_o), .int a1]) (n := 4) (Nat.le_of_ble_eq_true rfl)
  rw [← hargs, lg_entry_eq, hargs]
  generalize (lg_sl ([.ref (A m_o), .int a1]) ++ List.replicate (4 - (lg_sl ([.ref (A m_o), .int a1])).length) Slot.unset).toArray = ls at hl ⊢
  have hl : lv_has ls 4 [(0, .ref (A m_o)), (1, .int a1)] := hl
  unfold f_X11_again at h
  refine lv_aload_n hx hb dX11_again_0 rfl (lv_at hl 0 rfl) ?_
  refine mr_parent S X Z hin hl_22 dX11_again_1 ?_
  refine lv_iload_n hx hb dX11_again_4 rfl (lv_at hl 1 rfl) ?_
  refine g_iald S X Z ml_parent rfl dX11_again_5 h (fun v1 h => ?_)
  refine lv_istore_n (lv' := [(2, .int v1), (0, .ref (A m_o)), (1, .int a1)]) hx hb dX11_again_6 rfl hl (by decide) rfl (fun ls hl => ?_)
  refine lv_aload_n hx hb dX11_again_7 rfl (lv_at hl 1 rfl) ?_
  refine lv_iload_n hx hb dX11_again_8 rfl (lv_at hl 0 rfl) ?_
  refine lv_aload_n hx hb dX11_again_9 rfl (lv_at hl 1 rfl) ?_
  refine mr_group S X Z hin hl_394 dX11_again_10 h (fun v2 h => ?_)
  obtain ⟨M4, hc3, h⟩ := o1_e h
  refine g_Vv (As := [.int v1, .int v2]) (rest := []) S X Z mlv_o rfl rfl (t_X11_mark l D dA A hJ  hc3) (cwV 2 hts (mGV (mB 190 rfl) (mB 191 rfl) (mB 192 rfl) (mB 63 rfl) (mB 100 rfl)) rfl rfl rfl (by decide +kernel) ⟨Nat.le_of_ble_eq_true rfl, Nat.le_of_ble_eq_true rfl⟩) rfl hl.1 rfl (Nat.le_of_ble_eq_true rfl) dX11_again_13 ⟨Nat.zero_le _, Nat.zero_le _⟩ (fun H locs Z => ?_)
  refine lv_iconst (v := (0 : Int32)) hx hb dX11_again_16 (by decide) ?_
  refine lv_istore_n (lv' := [(3, .int (0 : Int32)), (2, .int v1), (0, .ref (A m_o)), (1, .int a1)]) hx hb dX11_again_17 rfl hl (by decide) rfl (fun ls hl => ?_)
  obtain ⟨J95, eJ95, h⟩ := jn_e h
  have hJ95 : ∀ (M5 : gM) (H : Heap) (locs : List Loc) (ls : Array Slot), gZ D mLay dA mLive A (gA mLive A) s.heap M5 H locs → lv_has ls 4 [(0, .ref (A m_o)), (2, .int v1)] → J95 M5 = some y → W p l e (headSpec wmX11_again ({ frames := 1, cells := 0, slots := 0, locals := 25 } : Room)).room s m args below meth c H locs 0 0 (MQ below (mQv D dA A y) args s 0 0 (gA mLive A)) (F0 m 95 ls []) := by
    intro M5 H locs ls Z hl h
    rw [eJ95] at h
    try dsimp only at h
    refine lv_aload_n hx hb dX11_again_95 rfl (lv_at hl 0 rfl) ?_
    refine lv_iload_n hx hb dX11_again_96 rfl (lv_at hl 1 rfl) ?_
    refine lv_aload_n hx hb dX11_again_97 rfl (lv_at hl 0 rfl) ?_
    refine mr_group S X Z hin hl_394 dX11_again_98 h (fun v6 h => ?_)
    refine lv_iconst (v := (-1 : Int32)) hx hb dX11_again_101 (by decide) ?_
    obtain ⟨M8, hc7, h⟩ := o1_e h
    refine g_Vv (As := [.int v1, .int v6, .int (-1 : Int32)]) (rest := []) S X Z mlv_o rfl rfl (t_X11_endPromises l D dA A hJ  hc7) (cwV 3 hts (mGV (mB 211 rfl) (mB 212 rfl) (mB 213 rfl) (mB 63 rfl) (mB 196 rfl)) rfl rfl rfl (by decide +kernel) ⟨Nat.le_of_ble_eq_true rfl, Nat.le_of_ble_eq_true rfl⟩) rfl hl.1 rfl (Nat.le_of_ble_eq_true rfl) dX11_again_102 ⟨Nat.zero_le _, Nat.zero_le _⟩ (fun H locs Z => ?_)
    have hy := Option.some.inj h
    subst hy
    exact g_rv S Z hr hlocks dX11_again_105
  have hL18 : ∀ (n : Nat) (x9 : Int32) (M10 : gM) (H : Heap) (locs : List Loc) (ls : Array Slot), gZ D mLay dA mLive A (gA mLive A) s.heap M10 H locs → lv_has ls 4 [(0, .ref (A m_o)), (1, .int a1), (2, .int v1), (3, .int x9)] → f_X11_again_L18 a1 v1 J95 n x9 M10 = some y → W p l e (headSpec wmX11_again ({ frames := 1, cells := 0, slots := 0, locals := 25 } : Room)).room s m args below meth c H locs 0 0 (MQ below (mQv D dA A y) args s 0 0 (gA mLive A)) (F0 m 18 ls []) := by
    intro n
    induction n with
    | zero =>
      intro x9 M10 H locs ls Z hl h
      rw [f_X11_again_L18] at h
      cases h
    | succ n11 ih18 =>
      intro x9 M10 H locs ls Z hl h
      rw [f_X11_again_L18] at h
      refine lv_iload_n hx hb dX11_again_18 rfl (lv_at hl 3 rfl) ?_
      refine lv_aload_n hx hb dX11_again_19 rfl (lv_at hl 0 rfl) ?_
      refine mr_servers S X Z hin hl_155 dX11_again_20 h (fun v12 h => ?_)
      refine lv_icmp_ge (tgt := 95) hx hb dX11_again_23 (by decide) (fun c13 => ?_) (fun c13 => ?_)
      · have h := if_t c13 h
        exact hJ95 M10 _ _ _ Z (lv_sub hl [0, 2] rfl) h
      · have h := if_f c13 h
        refine lv_aload_n hx hb dX11_again_26 rfl (lv_at hl 0 rfl) ?_
        refine lv_iload_n hx hb dX11_again_27 rfl (lv_at hl 3 rfl) ?_
        obtain ⟨v15, hc14, h⟩ := o1_e h
        refine g_Vi (As := [.int x9]) (rest := []) S X Z mlv_o rfl rfl (t_X11_isOf l D dA A hJ  hc14) (cwV 1 hts (mGV (mB 293 rfl) (mB 294 rfl) (mB 295 rfl) (mB 63 rfl) (mB 290 rfl)) rfl rfl rfl (by decide +kernel) ⟨Nat.le_of_ble_eq_true rfl, Nat.le_of_ble_eq_true rfl⟩) rfl hl.1 rfl (Nat.le_of_ble_eq_true rfl) dX11_again_28 ⟨Nat.zero_le _, Nat.zero_le _⟩ (fun H locs Z => ?_)
        obtain ⟨J89, eJ89, h⟩ := jn_e h
        have hJ89 : ∀ (M16 : gM) (H : Heap) (locs : List Loc) (ls : Array Slot), gZ D mLay dA mLive A (gA mLive A) s.heap M16 H locs → lv_has ls 4 [(0, .ref (A m_o)), (1, .int a1), (2, .int v1), (3, .int x9)] → J89 M16 = some y → W p l e (headSpec wmX11_again ({ frames := 1, cells := 0, slots := 0, locals := 25 } : Room)).room s m args below meth c H locs 0 0 (MQ below (mQv D dA A y) args s 0 0 (gA mLive A)) (F0 m 89 ls []) := by
          intro M16 H locs ls Z hl h
          rw [eJ89] at h
          try dsimp only at h
          obtain ⟨x17, ex17, h⟩ := lt_e h
          refine lv_iinc (v := x17) (lv' := [(3, .int x17), (0, .ref (A m_o)), (1, .int a1), (2, .int v1)]) hx hb dX11_again_89 hl (k := 3) rfl (by rw [ex17]; rfl) (by decide) rfl (fun ls hl => ?_)
          refine lv_goto (tgt := 18) hx hb dX11_again_92 (by decide) ?_
          exact ih18 x17 M16 _ _ _ Z (lv_sub hl [1, 2, 3, 0] rfl) h
        refine lv_if_eq (tgt := 89) hx hb dX11_again_31 (by decide) (fun c18 => ?_) (fun c18 => ?_)
        · have h := if_t c18 h
          exact hJ89 M10 _ _ _ Z (lv_sub hl [0, 1, 2, 3] rfl) h
        · have h := if_f c18 h
          refine lv_aload_n hx hb dX11_again_34 rfl (lv_at hl 0 rfl) ?_
          refine mr_entry S X Z hin hl_56 dX11_again_35 ?_
          refine lv_bipush (v := (48 : Int32)) hx hb dX11_again_38 (by decide) ?_
          refine lv_iload_n hx hb dX11_again_40 rfl (lv_at hl 3 rfl) ?_
          refine lv_imul hx hb dX11_again_41 ?_
          refine lv_iload_n hx hb dX11_again_42 rfl (lv_at hl 1 rfl) ?_
          refine lv_iadd hx hb dX11_again_43 ?_
          refine lv_iconst (v := (1 : Int32)) hx hb dX11_again_44 (by decide) ?_
          refine g_iast S X Z ml_entry rfl dX11_again_45 h (fun M19 H locs Z h => ?_)
          refine lv_aload_n hx hb dX11_again_46 rfl (lv_at hl 0 rfl) ?_
          refine lv_aload_n hx hb dX11_again_47 rfl (lv_at hl 0 rfl) ?_
          refine mr_gone S X Z hin hl_59 dX11_again_48 ?_
          refine lv_bipush (v := (48 : Int32)) hx hb dX11_again_51 (by decide) ?_
          refine lv_iload_n hx hb dX11_again_53 rfl (lv_at hl 3 rfl) ?_
          refine lv_imul hx hb dX11_again_54 ?_
          refine lv_iload_n hx hb dX11_again_55 rfl (lv_at hl 1 rfl) ?_
          refine lv_iadd hx hb dX11_again_56 ?_
          obtain ⟨M21, hc20, h⟩ := o1_e h
          refine g_Vv (As := [.ref (A m_gone), .int (((48 : Int32) * x9) + a1)]) (rest := []) S X Z mlv_o rfl rfl (t_X11_clearRow l D dA A hJ ⟨ml_gone, rfl⟩ hc20) (cwV 2 hts (mGV (mB 108 rfl) (mB 109 rfl) (mB 110 rfl) (mB 63 rfl) (mB 99 rfl)) rfl rfl rfl (by decide +kernel) ⟨Nat.le_of_ble_eq_true rfl, Nat.le_of_ble_eq_true rfl⟩) rfl hl.1 rfl (Nat.le_of_ble_eq_true rfl) dX11_again_57 ⟨Nat.zero_le _, Nat.zero_le _⟩ (fun H locs Z => ?_)
          refine lv_aload_n hx hb dX11_again_60 rfl (lv_at hl 0 rfl) ?_
          refine lv_aload_n hx hb dX11_again_61 rfl (lv_at hl 0 rfl) ?_
          refine mr_vector S X Z hin hl_41 dX11_again_62 ?_
          refine lv_bipush (v := (48 : Int32)) hx hb dX11_again_65 (by decide) ?_
          refine lv_iload_n hx hb dX11_again_67 rfl (lv_at hl 3 rfl) ?_
          refine lv_imul hx hb dX11_again_68 ?_
          refine lv_iload_n hx hb dX11_again_69 rfl (lv_at hl 2 rfl) ?_
          refine lv_iadd hx hb dX11_again_70 ?_
          refine lv_aload_n hx hb dX11_again_71 rfl (lv_at hl 0 rfl) ?_
          refine mr_group S X Z hin hl_394 dX11_again_72 h (fun v22 h => ?_)
          refine lv_iload_n hx hb dX11_again_75 rfl (lv_at hl 2 rfl) ?_
          obtain ⟨M24, hc23, h⟩ := o1_e h
          refine g_Vv (As := [.ref (A m_vector), .int (((48 : Int32) * x9) + v1), .int v22, .int v1]) (rest := []) S X Z mlv_o rfl rfl (t_X11_count l D dA A hJ ⟨ml_vector, rfl⟩ hc23) (cwV 4 hts (mGV (mB 193 rfl) (mB 194 rfl) (mB 195 rfl) (mB 63 rfl) (mB 101 rfl)) rfl rfl rfl (by decide +kernel) ⟨Nat.le_of_ble_eq_true rfl, Nat.le_of_ble_eq_true rfl⟩) rfl hl.1 rfl (Nat.le_of_ble_eq_true rfl) dX11_again_76 ⟨Nat.zero_le _, Nat.zero_le _⟩ (fun H locs Z => ?_)
          refine lv_aload_n hx hb dX11_again_79 rfl (lv_at hl 0 rfl) ?_
          refine lv_dup hx hb dX11_again_80 rfl ?_
          refine mr_changes S X Z hin hl_400 dX11_again_81 h (fun v25 h => ?_)
          refine lv_iconst (v := (1 : Int32)) hx hb dX11_again_84 (by decide) ?_
          refine lv_iadd hx hb dX11_again_85 ?_
          refine mp_changes S X Z hin hl_400 dX11_again_86 h (fun M26 H locs Z h => ?_)
          exact hJ89 M26 _ _ _ Z (lv_sub hl [0, 1, 2, 3] rfl) h
  exact hL18 100 (0 : Int32) M4 _ _ _ Z (lv_sub hl [2, 3, 1, 0] rfl) h
-- X11_isLike (III)Z: 92 instructions
theorem dX11_isLike_0 : decode cX11_isLike 0 = .ok (.bipush 48, 2) := by decide +kernel
theorem dX11_isLike_2 : decode cX11_isLike 2 = .ok (.iload_n 1, 1) := by decide +kernel
theorem dX11_isLike_3 : decode cX11_isLike 3 = .ok (.imul, 1) := by decide +kernel
theorem dX11_isLike_4 : decode cX11_isLike 4 = .ok (.iload_n 3, 1) := by decide +kernel
theorem dX11_isLike_5 : decode cX11_isLike 5 = .ok (.iadd, 1) := by decide +kernel
theorem dX11_isLike_6 : decode cX11_isLike 6 = .ok (.istore 4, 2) := by decide +kernel
theorem dX11_isLike_8 : decode cX11_isLike 8 = .ok (.bipush 48, 2) := by decide +kernel
theorem dX11_isLike_10 : decode cX11_isLike 10 = .ok (.iload_n 2, 1) := by decide +kernel
theorem dX11_isLike_11 : decode cX11_isLike 11 = .ok (.imul, 1) := by decide +kernel
theorem dX11_isLike_12 : decode cX11_isLike 12 = .ok (.iload_n 3, 1) := by decide +kernel
theorem dX11_isLike_13 : decode cX11_isLike 13 = .ok (.iadd, 1) := by decide +kernel
theorem dX11_isLike_14 : decode cX11_isLike 14 = .ok (.istore 5, 2) := by decide +kernel
theorem dX11_isLike_16 : decode cX11_isLike 16 = .ok (.aload_n 0, 1) := by decide +kernel
theorem dX11_isLike_17 : decode cX11_isLike 17 = .ok (.getfield 32, 3) := by decide +kernel
theorem dX11_isLike_20 : decode cX11_isLike 20 = .ok (.iload 4, 2) := by decide +kernel
theorem dX11_isLike_22 : decode cX11_isLike 22 = .ok (.baload, 1) := by decide +kernel
theorem dX11_isLike_23 : decode cX11_isLike 23 = .ok (.ifCond .eq 36, 3) := by decide +kernel
theorem dX11_isLike_26 : decode cX11_isLike 26 = .ok (.aload_n 0, 1) := by decide +kernel
theorem dX11_isLike_27 : decode cX11_isLike 27 = .ok (.getfield 32, 3) := by decide +kernel
theorem dX11_isLike_30 : decode cX11_isLike 30 = .ok (.iload 5, 2) := by decide +kernel
theorem dX11_isLike_32 : decode cX11_isLike 32 = .ok (.baload, 1) := by decide +kernel
theorem dX11_isLike_33 : decode cX11_isLike 33 = .ok (.ifCond .eq 26, 3) := by decide +kernel
theorem dX11_isLike_36 : decode cX11_isLike 36 = .ok (.aload_n 0, 1) := by decide +kernel
theorem dX11_isLike_37 : decode cX11_isLike 37 = .ok (.aload_n 0, 1) := by decide +kernel
theorem dX11_isLike_38 : decode cX11_isLike 38 = .ok (.getfield 41, 3) := by decide +kernel
theorem dX11_isLike_41 : decode cX11_isLike 41 = .ok (.iload 4, 2) := by decide +kernel
theorem dX11_isLike_43 : decode cX11_isLike 43 = .ok (.aload_n 0, 1) := by decide +kernel
theorem dX11_isLike_44 : decode cX11_isLike 44 = .ok (.getfield 41, 3) := by decide +kernel
theorem dX11_isLike_47 : decode cX11_isLike 47 = .ok (.iload 5, 2) := by decide +kernel
theorem dX11_isLike_49 : decode cX11_isLike 49 = .ok (.invokevirtual 275, 3) := by decide +kernel
theorem dX11_isLike_52 : decode cX11_isLike 52 = .ok (.ifCond .eq 7, 3) := by decide +kernel
theorem dX11_isLike_55 : decode cX11_isLike 55 = .ok (.iconst 1, 1) := by decide +kernel
theorem dX11_isLike_56 : decode cX11_isLike 56 = .ok (.goto 4, 3) := by decide +kernel
theorem dX11_isLike_59 : decode cX11_isLike 59 = .ok (.iconst 0, 1) := by decide +kernel
theorem dX11_isLike_60 : decode cX11_isLike 60 = .ok (.istore 6, 2) := by decide +kernel
theorem dX11_isLike_62 : decode cX11_isLike 62 = .ok (.iconst 1, 1) := by decide +kernel
theorem dX11_isLike_63 : decode cX11_isLike 63 = .ok (.istore 7, 2) := by decide +kernel
theorem dX11_isLike_65 : decode cX11_isLike 65 = .ok (.iload 7, 2) := by decide +kernel
theorem dX11_isLike_67 : decode cX11_isLike 67 = .ok (.aload_n 0, 1) := by decide +kernel
theorem dX11_isLike_68 : decode cX11_isLike 68 = .ok (.getfield 162, 3) := by decide +kernel
theorem dX11_isLike_71 : decode cX11_isLike 71 = .ok (.if_icmp .ge 96, 3) := by decide +kernel
theorem dX11_isLike_74 : decode cX11_isLike 74 = .ok (.iload 6, 2) := by decide +kernel
theorem dX11_isLike_76 : decode cX11_isLike 76 = .ok (.ifCond .eq 91, 3) := by decide +kernel
theorem dX11_isLike_79 : decode cX11_isLike 79 = .ok (.aload_n 0, 1) := by decide +kernel
theorem dX11_isLike_80 : decode cX11_isLike 80 = .ok (.iload 7, 2) := by decide +kernel
theorem dX11_isLike_82 : decode cX11_isLike 82 = .ok (.iload_n 3, 1) := by decide +kernel
theorem dX11_isLike_83 : decode cX11_isLike 83 = .ok (.invokevirtual 197, 3) := by decide +kernel
theorem dX11_isLike_86 : decode cX11_isLike 86 = .ok (.ifCond .eq 75, 3) := by decide +kernel
theorem dX11_isLike_89 : decode cX11_isLike 89 = .ok (.bipush 48, 2) := by decide +kernel
theorem dX11_isLike_91 : decode cX11_isLike 91 = .ok (.iload_n 1, 1) := by decide +kernel
theorem dX11_isLike_92 : decode cX11_isLike 92 = .ok (.imul, 1) := by decide +kernel
theorem dX11_isLike_93 : decode cX11_isLike 93 = .ok (.iload 7, 2) := by decide +kernel
theorem dX11_isLike_95 : decode cX11_isLike 95 = .ok (.iadd, 1) := by decide +kernel
theorem dX11_isLike_96 : decode cX11_isLike 96 = .ok (.istore 8, 2) := by decide +kernel
theorem dX11_isLike_98 : decode cX11_isLike 98 = .ok (.bipush 48, 2) := by decide +kernel
theorem dX11_isLike_100 : decode cX11_isLike 100 = .ok (.iload_n 2, 1) := by decide +kernel
theorem dX11_isLike_101 : decode cX11_isLike 101 = .ok (.imul, 1) := by decide +kernel
theorem dX11_isLike_102 : decode cX11_isLike 102 = .ok (.iload 7, 2) := by decide +kernel
theorem dX11_isLike_104 : decode cX11_isLike 104 = .ok (.iadd, 1) := by decide +kernel
theorem dX11_isLike_105 : decode cX11_isLike 105 = .ok (.istore 9, 2) := by decide +kernel
theorem dX11_isLike_107 : decode cX11_isLike 107 = .ok (.aload_n 0, 1) := by decide +kernel
theorem dX11_isLike_108 : decode cX11_isLike 108 = .ok (.getfield 56, 3) := by decide +kernel
theorem dX11_isLike_111 : decode cX11_isLike 111 = .ok (.iload 8, 2) := by decide +kernel
theorem dX11_isLike_113 : decode cX11_isLike 113 = .ok (.iaload, 1) := by decide +kernel
theorem dX11_isLike_114 : decode cX11_isLike 114 = .ok (.aload_n 0, 1) := by decide +kernel
theorem dX11_isLike_115 : decode cX11_isLike 115 = .ok (.getfield 56, 3) := by decide +kernel
theorem dX11_isLike_118 : decode cX11_isLike 118 = .ok (.iload 9, 2) := by decide +kernel
theorem dX11_isLike_120 : decode cX11_isLike 120 = .ok (.iaload, 1) := by decide +kernel
theorem dX11_isLike_121 : decode cX11_isLike 121 = .ok (.if_icmp .ne 37, 3) := by decide +kernel
theorem dX11_isLike_124 : decode cX11_isLike 124 = .ok (.aload_n 0, 1) := by decide +kernel
theorem dX11_isLike_125 : decode cX11_isLike 125 = .ok (.getfield 56, 3) := by decide +kernel
theorem dX11_isLike_128 : decode cX11_isLike 128 = .ok (.iload 8, 2) := by decide +kernel
theorem dX11_isLike_130 : decode cX11_isLike 130 = .ok (.iaload, 1) := by decide +kernel
theorem dX11_isLike_131 : decode cX11_isLike 131 = .ok (.iconst 2, 1) := by decide +kernel
theorem dX11_isLike_132 : decode cX11_isLike 132 = .ok (.if_icmp .ne 22, 3) := by decide +kernel
theorem dX11_isLike_135 : decode cX11_isLike 135 = .ok (.aload_n 0, 1) := by decide +kernel
theorem dX11_isLike_136 : decode cX11_isLike 136 = .ok (.aload_n 0, 1) := by decide +kernel
theorem dX11_isLike_137 : decode cX11_isLike 137 = .ok (.getfield 59, 3) := by decide +kernel
theorem dX11_isLike_140 : decode cX11_isLike 140 = .ok (.iload 8, 2) := by decide +kernel
theorem dX11_isLike_142 : decode cX11_isLike 142 = .ok (.aload_n 0, 1) := by decide +kernel
theorem dX11_isLike_143 : decode cX11_isLike 143 = .ok (.getfield 59, 3) := by decide +kernel
theorem dX11_isLike_146 : decode cX11_isLike 146 = .ok (.iload 9, 2) := by decide +kernel
theorem dX11_isLike_148 : decode cX11_isLike 148 = .ok (.invokevirtual 275, 3) := by decide +kernel
theorem dX11_isLike_151 : decode cX11_isLike 151 = .ok (.ifCond .eq 7, 3) := by decide +kernel
theorem dX11_isLike_154 : decode cX11_isLike 154 = .ok (.iconst 1, 1) := by decide +kernel
theorem dX11_isLike_155 : decode cX11_isLike 155 = .ok (.goto 4, 3) := by decide +kernel
theorem dX11_isLike_158 : decode cX11_isLike 158 = .ok (.iconst 0, 1) := by decide +kernel
theorem dX11_isLike_159 : decode cX11_isLike 159 = .ok (.istore 6, 2) := by decide +kernel
theorem dX11_isLike_161 : decode cX11_isLike 161 = .ok (.iinc 7 1, 3) := by decide +kernel
theorem dX11_isLike_164 : decode cX11_isLike 164 = .ok (.goto (-99), 3) := by decide +kernel
theorem dX11_isLike_167 : decode cX11_isLike 167 = .ok (.iload 6, 2) := by decide +kernel
theorem dX11_isLike_169 : decode cX11_isLike 169 = .ok (.ireturn, 1) := by decide +kernel
abbrev wmX11_isLike : List Cond := .code yX11_isLike cX11_isLike 10 (some .boolean) :: mBig
def f_X11_isLike_L65 (M7 : gM) (a1 : Int32) (a2 : Int32) (a3 : Int32) : Nat → Int32 → Int32 → Option Int32
  | 0, _, _ => none
  | n8 + 1, x5, x6 => lt (M7 m_o 6) (fun v9 => (if v9 ≤ x6 then gz x5 (some x5) else (if x5 = 0 then gz x5 (some x5) else o1 (f_X11_isChild M7 x6 a3) (fun v15 => jn (fun (b16 : Int32) => lt (x6 + 1) (fun x17 => f_X11_isLike_L65 M7 a1 a2 a3 n8 b16 x17)) (fun J161 => (if v15 = 0 then J161 x5 else lt ((((48 : Int32) * a1) + x6)) (fun x19 => lt ((((48 : Int32) * a2) + x6)) (fun x20 => rd M7 m_entry 192 x19 (fun v21 => rd M7 m_entry 192 x20 (fun v22 => jn (fun (b23 : Int32) => J161 b23) (fun J159 => jn (fun (_ : Unit) => J159 (0 : Int32)) (fun J158 => (if v21 = v22 then rd M7 m_entry 192 x19 (fun v25 => jn (fun (_ : Unit) => J159 (1 : Int32)) (fun J154 => (if v25 = (2 : Int32) then o1 (f_X11_isSame M7 m_gone x19 m_gone x20) (fun v28 => (if v28 = 0 then J158 () else J154 ())) else J154 ()))) else J158 ())))))))))))))
def f_X11_isLike (M : gM) (a1 : Int32) (a2 : Int32) (a3 : Int32) : Option Int32 :=
  lt ((((48 : Int32) * a1) + a3)) (fun x1 => lt ((((48 : Int32) * a2) + a3)) (fun x2 => rd M m_has 192 x1 (fun v3 => jn (fun (b4 : Int32) => f_X11_isLike_L65 M a1 a2 a3 100 b4 (1 : Int32)) (fun J60 => jn (fun (_ : Unit) => J60 (0 : Int32)) (fun J59 => (if v3 = 0 then J59 () else rd M m_has 192 x2 (fun v31 => (if v31 = 0 then J59 () else o1 (f_X11_isSame M m_vector x1 m_vector x2) (fun v34 => (if v34 = 0 then J59 () else J60 (1 : Int32)))))))))))
set_option maxHeartbeats 4000000 in
set_option maxRecDepth 100000 in
theorem t_X11_isLike (l : Launch) (D : va_G) (dA : Nat → ClassId) (A : gI → Nat) (hJ : gJ mLive A) {M : gM} {a1 : Int32} {a2 : Int32} {a3 : Int32}  {y : Int32} (h : f_X11_isLike M a1 a2 a3 = some y) : mMi l yX11_isLike wmX11_isLike ({ frames := 1, cells := 0, slots := 0, locals := 25 } : Room) D dA A [.ref (A m_o), .int a1, .int a2, .int a3] M y M := by
  refine Met.ofW (cc := cX11_isLike) (maxL := 10) (ret := (some .boolean)) (by decide) rfl ?_
  intro p e s m args below meth c s₁ B hml hv
  obtain ⟨rfl, hP, hK⟩ := hv
  generalize hargs : ([.ref (A m_o), .int a1, .int a2, .int a3] : List Value).toArray = args at B ⊢
  have S : CallFix p m c cX11_isLike 10 s args wmX11_isLike RX11 := ⟨B.exec, B.bytes, hml, findClass_of_methodNamed B.named, atoms_spec (ws := wmX11_isLike) B.pre⟩
  obtain ⟨hx, hb, -, hown, hts⟩ := id S
  have hr := B.returns
  have hlocks := B.notSynchronized
  have X : gX D vwCl dA mLive A (gA mLive A) s := ⟨hK, hJ, fun i hi => ⟨i, hi, rfl⟩⟩
  have Z : gZ D mLay dA mLive A (gA mLive A) s.heap M s.heap [] := ⟨hP, va_S.rf⟩
  have hin : ∀ w ∈ wsX110, w ∈ wmX11_isLike := m_in
  have hl_32 := hts (.fieldLink RX11 32 "ReplicaFilesModel" "has" "[Z") (mBc 12 rfl)
  have hl_41 := hts (.fieldLink RX11 41 "ReplicaFilesModel" "vector" "[I") (mBc 15 rfl)
  have hl_56 := hts (.fieldLink RX11 56 "ReplicaFilesModel" "entry" "[I") (mBc 20 rfl)
  have hl_59 := hts (.fieldLink RX11 59 "ReplicaFilesModel" "gone" "[I") (mBc 21 rfl)
  have hl_162 := hts (.fieldLink RX11 162 "ReplicaFilesModel" "made" "I") (mBc 55 rfl)
  have hl := lv_entry ([.ref (A m_o), .int a1, .int a2, .int a3]) (n := 10) (Nat.le_of_ble_eq_true rfl)
  rw [← hargs, lg_entry_eq, hargs]
  generalize (lg_sl ([.ref (A m_o), .int a1, .int a2, .int a3]) ++ List.replicate (10 - (lg_sl ([.ref (A m_o), .int a1, .int a2, .int a3])).length) Slot.unset).toArray = ls at hl ⊢
  have hl : lv_has ls 10 [(0, .ref (A m_o)), (1, .int a1), (2, .int a2), (3, .int a3)] := hl
  unfold f_X11_isLike at h
  refine lv_bipush (v := (48 : Int32)) hx hb dX11_isLike_0 (by decide) ?_
  refine lv_iload_n hx hb dX11_isLike_2 rfl (lv_at hl 1 rfl) ?_
  refine lv_imul hx hb dX11_isLike_3 ?_
  refine lv_iload_n hx hb dX11_isLike_4 rfl (lv_at hl 3 rfl) ?_
  refine lv_iadd hx hb dX11_isLike_5 ?_
  refine g_topi h (fun x1 h => ?_)
  refine lv_istore (lv' := [(4, .int x1), (0, .ref (A m_o)), (1, .int a1), (2, .int a2), (3, .int a3)]) hx hb dX11_isLike_6 hl (by decide) rfl (fun ls hl => ?_)
  refine lv_bipush (v := (48 : Int32)) hx hb dX11_isLike_8 (by decide) ?_
  refine lv_iload_n hx hb dX11_isLike_10 rfl (lv_at hl 3 rfl) ?_
  refine lv_imul hx hb dX11_isLike_11 ?_
  refine lv_iload_n hx hb dX11_isLike_12 rfl (lv_at hl 4 rfl) ?_
  refine lv_iadd hx hb dX11_isLike_13 ?_
  refine g_topi h (fun x2 h => ?_)
  refine lv_istore (lv' := [(5, .int x2), (4, .int x1), (0, .ref (A m_o)), (1, .int a1), (2, .int a2), (3, .int a3)]) hx hb dX11_isLike_14 hl (by decide) rfl (fun ls hl => ?_)
  refine lv_aload_n hx hb dX11_isLike_16 rfl (lv_at hl 2 rfl) ?_
  refine mr_has S X Z hin hl_32 dX11_isLike_17 ?_
  refine lv_iload hx hb dX11_isLike_20 (lv_at hl 1 rfl) ?_
  refine g_zald S X Z ml_has rfl dX11_isLike_22 h (fun v3 h => ?_)
  obtain ⟨J60, eJ60, h⟩ := jn_e h
  have hJ60 : ∀ (b4 : Int32) (H : Heap) (locs : List Loc) (ls : Array Slot), gZ D mLay dA mLive A (gA mLive A) s.heap M H locs → lv_has ls 10 [(0, .ref (A m_o)), (1, .int a1), (2, .int a2), (3, .int a3)] → J60 b4 = some y → W p l e (headSpec wmX11_isLike ({ frames := 1, cells := 0, slots := 0, locals := 25 } : Room)).room s m args below meth c H locs 0 0 (MQ below (mQi D dA A (y, M)) args s 0 0 (gA mLive A)) (F0 m 60 ls [.int b4]) := by
    intro b4 H locs ls Z hl h
    rw [eJ60] at h
    try dsimp only at h
    refine lv_istore (lv' := [(6, .int b4), (0, .ref (A m_o)), (1, .int a1), (2, .int a2), (3, .int a3)]) hx hb dX11_isLike_60 hl (by decide) rfl (fun ls hl => ?_)
    refine lv_iconst (v := (1 : Int32)) hx hb dX11_isLike_62 (by decide) ?_
    refine lv_istore (lv' := [(7, .int (1 : Int32)), (6, .int b4), (0, .ref (A m_o)), (1, .int a1), (2, .int a2), (3, .int a3)]) hx hb dX11_isLike_63 hl (by decide) rfl (fun ls hl => ?_)
    have hL65 : ∀ (n : Nat) (x5 : Int32) (x6 : Int32) (H : Heap) (locs : List Loc) (ls : Array Slot), gZ D mLay dA mLive A (gA mLive A) s.heap M H locs → lv_has ls 10 [(0, .ref (A m_o)), (1, .int a1), (2, .int a2), (3, .int a3), (6, .int x5), (7, .int x6)] → f_X11_isLike_L65 M a1 a2 a3 n x5 x6 = some y → W p l e (headSpec wmX11_isLike ({ frames := 1, cells := 0, slots := 0, locals := 25 } : Room)).room s m args below meth c H locs 0 0 (MQ below (mQi D dA A (y, M)) args s 0 0 (gA mLive A)) (F0 m 65 ls []) := by
      intro n
      induction n with
      | zero =>
        intro x5 x6 H locs ls Z hl h
        rw [f_X11_isLike_L65] at h
        cases h
      | succ n8 ih65 =>
        intro x5 x6 H locs ls Z hl h
        rw [f_X11_isLike_L65] at h
        refine lv_iload hx hb dX11_isLike_65 (lv_at hl 5 rfl) ?_
        refine lv_aload_n hx hb dX11_isLike_67 rfl (lv_at hl 0 rfl) ?_
        refine mr_made S X Z hin hl_162 dX11_isLike_68 h (fun v9 h => ?_)
        refine lv_icmp_ge (tgt := 167) hx hb dX11_isLike_71 (by decide) (fun c10 => ?_) (fun c10 => ?_)
        · have h := if_t c10 h
          refine lv_iload hx hb dX11_isLike_167 (lv_at hl 4 rfl) ?_
          obtain ⟨z11, h⟩ := gz_e h
          have hy := Option.some.inj h
          subst hy
          exact g_rz (z11) S Z hr hlocks dX11_isLike_169
        · have h := if_f c10 h
          refine lv_iload hx hb dX11_isLike_74 (lv_at hl 4 rfl) ?_
          refine lv_if_eq (tgt := 167) hx hb dX11_isLike_76 (by decide) (fun c12 => ?_) (fun c12 => ?_)
          · have h := if_t c12 h
            refine lv_iload hx hb dX11_isLike_167 (lv_at hl 4 rfl) ?_
            obtain ⟨z13, h⟩ := gz_e h
            have hy := Option.some.inj h
            subst hy
            exact g_rz (z13) S Z hr hlocks dX11_isLike_169
          · have h := if_f c12 h
            refine lv_aload_n hx hb dX11_isLike_79 rfl (lv_at hl 0 rfl) ?_
            refine lv_iload hx hb dX11_isLike_80 (lv_at hl 5 rfl) ?_
            refine lv_iload_n hx hb dX11_isLike_82 rfl (lv_at hl 3 rfl) ?_
            obtain ⟨v15, hc14, h⟩ := o1_e h
            refine g_Vi (As := [.int x6, .int a3]) (rest := []) S X Z mlv_o rfl rfl (t_X11_isChild l D dA A hJ  hc14) (cwV 2 hts (mGV (mB 104 rfl) (mB 105 rfl) (mB 106 rfl) (mB 63 rfl) (mB 102 rfl)) rfl rfl rfl (by decide +kernel) ⟨Nat.le_of_ble_eq_true rfl, Nat.le_of_ble_eq_true rfl⟩) rfl hl.1 rfl (Nat.le_of_ble_eq_true rfl) dX11_isLike_83 ⟨Nat.zero_le _, Nat.zero_le _⟩ (fun H locs Z => ?_)
            obtain ⟨J161, eJ161, h⟩ := jn_e h
            have hJ161 : ∀ (b16 : Int32) (H : Heap) (locs : List Loc) (ls : Array Slot), gZ D mLay dA mLive A (gA mLive A) s.heap M H locs → lv_has ls 10 [(0, .ref (A m_o)), (1, .int a1), (2, .int a2), (3, .int a3), (6, .int b16), (7, .int x6)] → J161 b16 = some y → W p l e (headSpec wmX11_isLike ({ frames := 1, cells := 0, slots := 0, locals := 25 } : Room)).room s m args below meth c H locs 0 0 (MQ below (mQi D dA A (y, M)) args s 0 0 (gA mLive A)) (F0 m 161 ls []) := by
              intro b16 H locs ls Z hl h
              rw [eJ161] at h
              try dsimp only at h
              obtain ⟨x17, ex17, h⟩ := lt_e h
              refine lv_iinc (v := x17) (lv' := [(7, .int x17), (0, .ref (A m_o)), (1, .int a1), (2, .int a2), (3, .int a3), (6, .int b16)]) hx hb dX11_isLike_161 hl (k := 5) rfl (by rw [ex17]; rfl) (by decide) rfl (fun ls hl => ?_)
              refine lv_goto (tgt := 65) hx hb dX11_isLike_164 (by decide) ?_
              exact ih65 b16 x17 _ _ _ Z (lv_sub hl [1, 2, 3, 4, 5, 0] rfl) h
            refine lv_if_eq (tgt := 161) hx hb dX11_isLike_86 (by decide) (fun c18 => ?_) (fun c18 => ?_)
            · have h := if_t c18 h
              exact hJ161 x5 _ _ _ Z (lv_sub hl [0, 1, 2, 3, 4, 5] rfl) h
            · have h := if_f c18 h
              refine lv_bipush (v := (48 : Int32)) hx hb dX11_isLike_89 (by decide) ?_
              refine lv_iload_n hx hb dX11_isLike_91 rfl (lv_at hl 1 rfl) ?_
              refine lv_imul hx hb dX11_isLike_92 ?_
              refine lv_iload hx hb dX11_isLike_93 (lv_at hl 5 rfl) ?_
              refine lv_iadd hx hb dX11_isLike_95 ?_
              refine g_topi h (fun x19 h => ?_)
              refine lv_istore (lv' := [(8, .int x19), (0, .ref (A m_o)), (1, .int a1), (2, .int a2), (3, .int a3), (6, .int x5), (7, .int x6)]) hx hb dX11_isLike_96 hl (by decide) rfl (fun ls hl => ?_)
              refine lv_bipush (v := (48 : Int32)) hx hb dX11_isLike_98 (by decide) ?_
              refine lv_iload_n hx hb dX11_isLike_100 rfl (lv_at hl 3 rfl) ?_
              refine lv_imul hx hb dX11_isLike_101 ?_
              refine lv_iload hx hb dX11_isLike_102 (lv_at hl 6 rfl) ?_
              refine lv_iadd hx hb dX11_isLike_104 ?_
              refine g_topi h (fun x20 h => ?_)
              refine lv_istore (lv' := [(9, .int x20), (8, .int x19), (0, .ref (A m_o)), (1, .int a1), (2, .int a2), (3, .int a3), (6, .int x5), (7, .int x6)]) hx hb dX11_isLike_105 hl (by decide) rfl (fun ls hl => ?_)
              refine lv_aload_n hx hb dX11_isLike_107 rfl (lv_at hl 2 rfl) ?_
              refine mr_entry S X Z hin hl_56 dX11_isLike_108 ?_
              refine lv_iload hx hb dX11_isLike_111 (lv_at hl 1 rfl) ?_
              refine g_iald S X Z ml_entry rfl dX11_isLike_113 h (fun v21 h => ?_)
              refine lv_aload_n hx hb dX11_isLike_114 rfl (lv_at hl 2 rfl) ?_
              refine mr_entry S X Z hin hl_56 dX11_isLike_115 ?_
              refine lv_iload hx hb dX11_isLike_118 (lv_at hl 0 rfl) ?_
              refine g_iald S X Z ml_entry rfl dX11_isLike_120 h (fun v22 h => ?_)
              obtain ⟨J159, eJ159, h⟩ := jn_e h
              have hJ159 : ∀ (b23 : Int32) (H : Heap) (locs : List Loc) (ls : Array Slot), gZ D mLay dA mLive A (gA mLive A) s.heap M H locs → lv_has ls 10 [(0, .ref (A m_o)), (1, .int a1), (2, .int a2), (3, .int a3), (7, .int x6)] → J159 b23 = some y → W p l e (headSpec wmX11_isLike ({ frames := 1, cells := 0, slots := 0, locals := 25 } : Room)).room s m args below meth c H locs 0 0 (MQ below (mQi D dA A (y, M)) args s 0 0 (gA mLive A)) (F0 m 159 ls [.int b23]) := by
                intro b23 H locs ls Z hl h
                rw [eJ159] at h
                try dsimp only at h
                refine lv_istore (lv' := [(6, .int b23), (0, .ref (A m_o)), (1, .int a1), (2, .int a2), (3, .int a3), (7, .int x6)]) hx hb dX11_isLike_159 hl (by decide) rfl (fun ls hl => ?_)
                exact hJ161 b23 _ _ _ Z (lv_sub hl [1, 2, 3, 4, 0, 5] rfl) h
              obtain ⟨J158, eJ158, h⟩ := jn_e h
              have hJ158 : ∀  (H : Heap) (locs : List Loc) (ls : Array Slot), gZ D mLay dA mLive A (gA mLive A) s.heap M H locs → lv_has ls 10 [(0, .ref (A m_o)), (1, .int a1), (2, .int a2), (3, .int a3), (7, .int x6)] → J158 () = some y → W p l e (headSpec wmX11_isLike ({ frames := 1, cells := 0, slots := 0, locals := 25 } : Room)).room s m args below meth c H locs 0 0 (MQ below (mQi D dA A (y, M)) args s 0 0 (gA mLive A)) (F0 m 158 ls []) := by
                intro  H locs ls Z hl h
                rw [eJ158] at h
                try dsimp only at h
                refine lv_iconst (v := (0 : Int32)) hx hb dX11_isLike_158 (by decide) ?_
                exact hJ159 (0 : Int32) _ _ _ Z (lv_sub hl [0, 1, 2, 3, 4] rfl) h
              refine lv_icmp_ne (tgt := 158) hx hb dX11_isLike_121 (by decide) (fun c24 => ?_) (fun c24 => ?_)
              · have h := if_f c24 h
                exact hJ158  _ _ _ Z (lv_sub hl [2, 3, 4, 5, 7] rfl) h
              · have h := if_t c24 h
                refine lv_aload_n hx hb dX11_isLike_124 rfl (lv_at hl 2 rfl) ?_
                refine mr_entry S X Z hin hl_56 dX11_isLike_125 ?_
                refine lv_iload hx hb dX11_isLike_128 (lv_at hl 1 rfl) ?_
                refine g_iald S X Z ml_entry rfl dX11_isLike_130 h (fun v25 h => ?_)
                refine lv_iconst (v := (2 : Int32)) hx hb dX11_isLike_131 (by decide) ?_
                obtain ⟨J154, eJ154, h⟩ := jn_e h
                have hJ154 : ∀  (H : Heap) (locs : List Loc) (ls : Array Slot), gZ D mLay dA mLive A (gA mLive A) s.heap M H locs → lv_has ls 10 [(0, .ref (A m_o)), (1, .int a1), (2, .int a2), (3, .int a3), (7, .int x6)] → J154 () = some y → W p l e (headSpec wmX11_isLike ({ frames := 1, cells := 0, slots := 0, locals := 25 } : Room)).room s m args below meth c H locs 0 0 (MQ below (mQi D dA A (y, M)) args s 0 0 (gA mLive A)) (F0 m 154 ls []) := by
                  intro  H locs ls Z hl h
                  rw [eJ154] at h
                  try dsimp only at h
                  refine lv_iconst (v := (1 : Int32)) hx hb dX11_isLike_154 (by decide) ?_
                  refine lv_goto (tgt := 159) hx hb dX11_isLike_155 (by decide) ?_
                  exact hJ159 (1 : Int32) _ _ _ Z (lv_sub hl [0, 1, 2, 3, 4] rfl) h
                refine lv_icmp_ne (tgt := 154) hx hb dX11_isLike_132 (by decide) (fun c26 => ?_) (fun c26 => ?_)
                · have h := if_f c26 h
                  exact hJ154  _ _ _ Z (lv_sub hl [2, 3, 4, 5, 7] rfl) h
                · have h := if_t c26 h
                  refine lv_aload_n hx hb dX11_isLike_135 rfl (lv_at hl 2 rfl) ?_
                  refine lv_aload_n hx hb dX11_isLike_136 rfl (lv_at hl 2 rfl) ?_
                  refine mr_gone S X Z hin hl_59 dX11_isLike_137 ?_
                  refine lv_iload hx hb dX11_isLike_140 (lv_at hl 1 rfl) ?_
                  refine lv_aload_n hx hb dX11_isLike_142 rfl (lv_at hl 2 rfl) ?_
                  refine mr_gone S X Z hin hl_59 dX11_isLike_143 ?_
                  refine lv_iload hx hb dX11_isLike_146 (lv_at hl 0 rfl) ?_
                  obtain ⟨v28, hc27, h⟩ := o1_e h
                  refine g_Vi (As := [.ref (A m_gone), .int x19, .ref (A m_gone), .int x20]) (rest := []) S X Z mlv_o rfl rfl (t_X11_isSame l D dA A hJ ⟨ml_gone, rfl⟩ ⟨ml_gone, rfl⟩ hc27) (cwV 4 hts (mGV (mB 150 rfl) (mB 151 rfl) (mB 152 rfl) (mB 63 rfl) (mB 96 rfl)) rfl rfl rfl (by decide +kernel) ⟨Nat.le_of_ble_eq_true rfl, Nat.le_of_ble_eq_true rfl⟩) rfl hl.1 rfl (Nat.le_of_ble_eq_true rfl) dX11_isLike_148 ⟨Nat.zero_le _, Nat.zero_le _⟩ (fun H locs Z => ?_)
                  refine lv_if_eq (tgt := 158) hx hb dX11_isLike_151 (by decide) (fun c29 => ?_) (fun c29 => ?_)
                  · have h := if_t c29 h
                    exact hJ158  _ _ _ Z (lv_sub hl [2, 3, 4, 5, 7] rfl) h
                  · have h := if_f c29 h
                    exact hJ154  _ _ _ Z (lv_sub hl [2, 3, 4, 5, 7] rfl) h
    exact hL65 100 b4 (1 : Int32) _ _ _ Z (lv_sub hl [2, 3, 4, 5, 1, 0] rfl) h
  obtain ⟨J59, eJ59, h⟩ := jn_e h
  have hJ59 : ∀  (H : Heap) (locs : List Loc) (ls : Array Slot), gZ D mLay dA mLive A (gA mLive A) s.heap M H locs → lv_has ls 10 [(0, .ref (A m_o)), (1, .int a1), (2, .int a2), (3, .int a3)] → J59 () = some y → W p l e (headSpec wmX11_isLike ({ frames := 1, cells := 0, slots := 0, locals := 25 } : Room)).room s m args below meth c H locs 0 0 (MQ below (mQi D dA A (y, M)) args s 0 0 (gA mLive A)) (F0 m 59 ls []) := by
    intro  H locs ls Z hl h
    rw [eJ59] at h
    try dsimp only at h
    refine lv_iconst (v := (0 : Int32)) hx hb dX11_isLike_59 (by decide) ?_
    exact hJ60 (0 : Int32) _ _ _ Z (lv_sub hl [0, 1, 2, 3] rfl) h
  refine lv_if_eq (tgt := 59) hx hb dX11_isLike_23 (by decide) (fun c30 => ?_) (fun c30 => ?_)
  · have h := if_t c30 h
    exact hJ59  _ _ _ Z (lv_sub hl [2, 3, 4, 5] rfl) h
  · have h := if_f c30 h
    refine lv_aload_n hx hb dX11_isLike_26 rfl (lv_at hl 2 rfl) ?_
    refine mr_has S X Z hin hl_32 dX11_isLike_27 ?_
    refine lv_iload hx hb dX11_isLike_30 (lv_at hl 0 rfl) ?_
    refine g_zald S X Z ml_has rfl dX11_isLike_32 h (fun v31 h => ?_)
    refine lv_if_eq (tgt := 59) hx hb dX11_isLike_33 (by decide) (fun c32 => ?_) (fun c32 => ?_)
    · have h := if_t c32 h
      exact hJ59  _ _ _ Z (lv_sub hl [2, 3, 4, 5] rfl) h
    · have h := if_f c32 h
      refine lv_aload_n hx hb dX11_isLike_36 rfl (lv_at hl 2 rfl) ?_
      refine lv_aload_n hx hb dX11_isLike_37 rfl (lv_at hl 2 rfl) ?_
      refine mr_vector S X Z hin hl_41 dX11_isLike_38 ?_
      refine lv_iload hx hb dX11_isLike_41 (lv_at hl 1 rfl) ?_
      refine lv_aload_n hx hb dX11_isLike_43 rfl (lv_at hl 2 rfl) ?_
      refine mr_vector S X Z hin hl_41 dX11_isLike_44 ?_
      refine lv_iload hx hb dX11_isLike_47 (lv_at hl 0 rfl) ?_
      obtain ⟨v34, hc33, h⟩ := o1_e h
      refine g_Vi (As := [.ref (A m_vector), .int x1, .ref (A m_vector), .int x2]) (rest := []) S X Z mlv_o rfl rfl (t_X11_isSame l D dA A hJ ⟨ml_vector, rfl⟩ ⟨ml_vector, rfl⟩ hc33) (cwV 4 hts (mGV (mB 150 rfl) (mB 151 rfl) (mB 152 rfl) (mB 63 rfl) (mB 96 rfl)) rfl rfl rfl (by decide +kernel) ⟨Nat.le_of_ble_eq_true rfl, Nat.le_of_ble_eq_true rfl⟩) rfl hl.1 rfl (Nat.le_of_ble_eq_true rfl) dX11_isLike_49 ⟨Nat.zero_le _, Nat.zero_le _⟩ (fun H locs Z => ?_)
      refine lv_if_eq (tgt := 59) hx hb dX11_isLike_52 (by decide) (fun c35 => ?_) (fun c35 => ?_)
      · have h := if_t c35 h
        exact hJ59  _ _ _ Z (lv_sub hl [2, 3, 4, 5] rfl) h
      · have h := if_f c35 h
        refine lv_iconst (v := (1 : Int32)) hx hb dX11_isLike_55 (by decide) ?_
        refine lv_goto (tgt := 60) hx hb dX11_isLike_56 (by decide) ?_
        exact hJ60 (1 : Int32) _ _ _ Z (lv_sub hl [2, 3, 4, 5] rfl) h
-- X11_mergeEntry (II)V: 95 instructions
theorem dX11_mergeEntry_0 : decode cX11_mergeEntry 0 = .ok (.iconst 0, 1) := by decide +kernel
theorem dX11_mergeEntry_1 : decode cX11_mergeEntry 1 = .ok (.istore_n 3, 1) := by decide +kernel
theorem dX11_mergeEntry_2 : decode cX11_mergeEntry 2 = .ok (.aload_n 0, 1) := by decide +kernel
theorem dX11_mergeEntry_3 : decode cX11_mergeEntry 3 = .ok (.aload_n 0, 1) := by decide +kernel
theorem dX11_mergeEntry_4 : decode cX11_mergeEntry 4 = .ok (.getfield 134, 3) := by decide +kernel
theorem dX11_mergeEntry_7 : decode cX11_mergeEntry 7 = .ok (.iload_n 2, 1) := by decide +kernel
theorem dX11_mergeEntry_8 : decode cX11_mergeEntry 8 = .ok (.invokevirtual 200, 3) := by decide +kernel
theorem dX11_mergeEntry_11 : decode cX11_mergeEntry 11 = .ok (.iconst 0, 1) := by decide +kernel
theorem dX11_mergeEntry_12 : decode cX11_mergeEntry 12 = .ok (.istore 4, 2) := by decide +kernel
theorem dX11_mergeEntry_14 : decode cX11_mergeEntry 14 = .ok (.iload 4, 2) := by decide +kernel
theorem dX11_mergeEntry_16 : decode cX11_mergeEntry 16 = .ok (.aload_n 0, 1) := by decide +kernel
theorem dX11_mergeEntry_17 : decode cX11_mergeEntry 17 = .ok (.getfield 155, 3) := by decide +kernel
theorem dX11_mergeEntry_20 : decode cX11_mergeEntry 20 = .ok (.if_icmp .ge 91, 3) := by decide +kernel
theorem dX11_mergeEntry_23 : decode cX11_mergeEntry 23 = .ok (.bipush 48, 2) := by decide +kernel
theorem dX11_mergeEntry_25 : decode cX11_mergeEntry 25 = .ok (.iload 4, 2) := by decide +kernel
theorem dX11_mergeEntry_27 : decode cX11_mergeEntry 27 = .ok (.imul, 1) := by decide +kernel
theorem dX11_mergeEntry_28 : decode cX11_mergeEntry 28 = .ok (.iload_n 2, 1) := by decide +kernel
theorem dX11_mergeEntry_29 : decode cX11_mergeEntry 29 = .ok (.iadd, 1) := by decide +kernel
theorem dX11_mergeEntry_30 : decode cX11_mergeEntry 30 = .ok (.istore 5, 2) := by decide +kernel
theorem dX11_mergeEntry_32 : decode cX11_mergeEntry 32 = .ok (.aload_n 0, 1) := by decide +kernel
theorem dX11_mergeEntry_33 : decode cX11_mergeEntry 33 = .ok (.iload 4, 2) := by decide +kernel
theorem dX11_mergeEntry_35 : decode cX11_mergeEntry 35 = .ok (.invokevirtual 406, 3) := by decide +kernel
theorem dX11_mergeEntry_38 : decode cX11_mergeEntry 38 = .ok (.ifCond .eq 67, 3) := by decide +kernel
theorem dX11_mergeEntry_41 : decode cX11_mergeEntry 41 = .ok (.aload_n 0, 1) := by decide +kernel
theorem dX11_mergeEntry_42 : decode cX11_mergeEntry 42 = .ok (.getfield 32, 3) := by decide +kernel
theorem dX11_mergeEntry_45 : decode cX11_mergeEntry 45 = .ok (.bipush 48, 2) := by decide +kernel
theorem dX11_mergeEntry_47 : decode cX11_mergeEntry 47 = .ok (.iload 4, 2) := by decide +kernel
theorem dX11_mergeEntry_49 : decode cX11_mergeEntry 49 = .ok (.imul, 1) := by decide +kernel
theorem dX11_mergeEntry_50 : decode cX11_mergeEntry 50 = .ok (.iload_n 1, 1) := by decide +kernel
theorem dX11_mergeEntry_51 : decode cX11_mergeEntry 51 = .ok (.iadd, 1) := by decide +kernel
theorem dX11_mergeEntry_52 : decode cX11_mergeEntry 52 = .ok (.baload, 1) := by decide +kernel
theorem dX11_mergeEntry_53 : decode cX11_mergeEntry 53 = .ok (.ifCond .eq 52, 3) := by decide +kernel
theorem dX11_mergeEntry_56 : decode cX11_mergeEntry 56 = .ok (.aload_n 0, 1) := by decide +kernel
theorem dX11_mergeEntry_57 : decode cX11_mergeEntry 57 = .ok (.getfield 56, 3) := by decide +kernel
theorem dX11_mergeEntry_60 : decode cX11_mergeEntry 60 = .ok (.iload 5, 2) := by decide +kernel
theorem dX11_mergeEntry_62 : decode cX11_mergeEntry 62 = .ok (.iaload, 1) := by decide +kernel
theorem dX11_mergeEntry_63 : decode cX11_mergeEntry 63 = .ok (.iload_n 3, 1) := by decide +kernel
theorem dX11_mergeEntry_64 : decode cX11_mergeEntry 64 = .ok (.if_icmp .le 13, 3) := by decide +kernel
theorem dX11_mergeEntry_67 : decode cX11_mergeEntry 67 = .ok (.aload_n 0, 1) := by decide +kernel
theorem dX11_mergeEntry_68 : decode cX11_mergeEntry 68 = .ok (.getfield 56, 3) := by decide +kernel
theorem dX11_mergeEntry_71 : decode cX11_mergeEntry 71 = .ok (.iload 5, 2) := by decide +kernel
theorem dX11_mergeEntry_73 : decode cX11_mergeEntry 73 = .ok (.iaload, 1) := by decide +kernel
theorem dX11_mergeEntry_74 : decode cX11_mergeEntry 74 = .ok (.goto 4, 3) := by decide +kernel
theorem dX11_mergeEntry_77 : decode cX11_mergeEntry 77 = .ok (.iload_n 3, 1) := by decide +kernel
theorem dX11_mergeEntry_78 : decode cX11_mergeEntry 78 = .ok (.istore_n 3, 1) := by decide +kernel
theorem dX11_mergeEntry_79 : decode cX11_mergeEntry 79 = .ok (.aload_n 0, 1) := by decide +kernel
theorem dX11_mergeEntry_80 : decode cX11_mergeEntry 80 = .ok (.getfield 56, 3) := by decide +kernel
theorem dX11_mergeEntry_83 : decode cX11_mergeEntry 83 = .ok (.iload 5, 2) := by decide +kernel
theorem dX11_mergeEntry_85 : decode cX11_mergeEntry 85 = .ok (.iaload, 1) := by decide +kernel
theorem dX11_mergeEntry_86 : decode cX11_mergeEntry 86 = .ok (.iconst 2, 1) := by decide +kernel
theorem dX11_mergeEntry_87 : decode cX11_mergeEntry 87 = .ok (.if_icmp .ne 18, 3) := by decide +kernel
theorem dX11_mergeEntry_90 : decode cX11_mergeEntry 90 = .ok (.aload_n 0, 1) := by decide +kernel
theorem dX11_mergeEntry_91 : decode cX11_mergeEntry 91 = .ok (.aload_n 0, 1) := by decide +kernel
theorem dX11_mergeEntry_92 : decode cX11_mergeEntry 92 = .ok (.getfield 59, 3) := by decide +kernel
theorem dX11_mergeEntry_95 : decode cX11_mergeEntry 95 = .ok (.iload 5, 2) := by decide +kernel
theorem dX11_mergeEntry_97 : decode cX11_mergeEntry 97 = .ok (.aload_n 0, 1) := by decide +kernel
theorem dX11_mergeEntry_98 : decode cX11_mergeEntry 98 = .ok (.getfield 134, 3) := by decide +kernel
theorem dX11_mergeEntry_101 : decode cX11_mergeEntry 101 = .ok (.iload_n 2, 1) := by decide +kernel
theorem dX11_mergeEntry_102 : decode cX11_mergeEntry 102 = .ok (.invokevirtual 388, 3) := by decide +kernel
theorem dX11_mergeEntry_105 : decode cX11_mergeEntry 105 = .ok (.iinc 4 1, 3) := by decide +kernel
theorem dX11_mergeEntry_108 : decode cX11_mergeEntry 108 = .ok (.goto (-94), 3) := by decide +kernel
theorem dX11_mergeEntry_111 : decode cX11_mergeEntry 111 = .ok (.iconst 0, 1) := by decide +kernel
theorem dX11_mergeEntry_112 : decode cX11_mergeEntry 112 = .ok (.istore 4, 2) := by decide +kernel
theorem dX11_mergeEntry_114 : decode cX11_mergeEntry 114 = .ok (.iload 4, 2) := by decide +kernel
theorem dX11_mergeEntry_116 : decode cX11_mergeEntry 116 = .ok (.aload_n 0, 1) := by decide +kernel
theorem dX11_mergeEntry_117 : decode cX11_mergeEntry 117 = .ok (.getfield 155, 3) := by decide +kernel
theorem dX11_mergeEntry_120 : decode cX11_mergeEntry 120 = .ok (.if_icmp .ge 51, 3) := by decide +kernel
theorem dX11_mergeEntry_123 : decode cX11_mergeEntry 123 = .ok (.aload_n 0, 1) := by decide +kernel
theorem dX11_mergeEntry_124 : decode cX11_mergeEntry 124 = .ok (.iload 4, 2) := by decide +kernel
theorem dX11_mergeEntry_126 : decode cX11_mergeEntry 126 = .ok (.invokevirtual 406, 3) := by decide +kernel
theorem dX11_mergeEntry_129 : decode cX11_mergeEntry 129 = .ok (.ifCond .eq 36, 3) := by decide +kernel
theorem dX11_mergeEntry_132 : decode cX11_mergeEntry 132 = .ok (.aload_n 0, 1) := by decide +kernel
theorem dX11_mergeEntry_133 : decode cX11_mergeEntry 133 = .ok (.getfield 56, 3) := by decide +kernel
theorem dX11_mergeEntry_136 : decode cX11_mergeEntry 136 = .ok (.bipush 48, 2) := by decide +kernel
theorem dX11_mergeEntry_138 : decode cX11_mergeEntry 138 = .ok (.iload 4, 2) := by decide +kernel
theorem dX11_mergeEntry_140 : decode cX11_mergeEntry 140 = .ok (.imul, 1) := by decide +kernel
theorem dX11_mergeEntry_141 : decode cX11_mergeEntry 141 = .ok (.iload_n 2, 1) := by decide +kernel
theorem dX11_mergeEntry_142 : decode cX11_mergeEntry 142 = .ok (.iadd, 1) := by decide +kernel
theorem dX11_mergeEntry_143 : decode cX11_mergeEntry 143 = .ok (.iload_n 3, 1) := by decide +kernel
theorem dX11_mergeEntry_144 : decode cX11_mergeEntry 144 = .ok (.iastore, 1) := by decide +kernel
theorem dX11_mergeEntry_145 : decode cX11_mergeEntry 145 = .ok (.aload_n 0, 1) := by decide +kernel
theorem dX11_mergeEntry_146 : decode cX11_mergeEntry 146 = .ok (.aload_n 0, 1) := by decide +kernel
theorem dX11_mergeEntry_147 : decode cX11_mergeEntry 147 = .ok (.getfield 134, 3) := by decide +kernel
theorem dX11_mergeEntry_150 : decode cX11_mergeEntry 150 = .ok (.iload_n 2, 1) := by decide +kernel
theorem dX11_mergeEntry_151 : decode cX11_mergeEntry 151 = .ok (.aload_n 0, 1) := by decide +kernel
theorem dX11_mergeEntry_152 : decode cX11_mergeEntry 152 = .ok (.getfield 59, 3) := by decide +kernel
theorem dX11_mergeEntry_155 : decode cX11_mergeEntry 155 = .ok (.bipush 48, 2) := by decide +kernel
theorem dX11_mergeEntry_157 : decode cX11_mergeEntry 157 = .ok (.iload 4, 2) := by decide +kernel
theorem dX11_mergeEntry_159 : decode cX11_mergeEntry 159 = .ok (.imul, 1) := by decide +kernel
theorem dX11_mergeEntry_160 : decode cX11_mergeEntry 160 = .ok (.iload_n 2, 1) := by decide +kernel
theorem dX11_mergeEntry_161 : decode cX11_mergeEntry 161 = .ok (.iadd, 1) := by decide +kernel
theorem dX11_mergeEntry_162 : decode cX11_mergeEntry 162 = .ok (.invokevirtual 234, 3) := by decide +kernel
theorem dX11_mergeEntry_165 : decode cX11_mergeEntry 165 = .ok (.iinc 4 1, 3) := by decide +kernel
theorem dX11_mergeEntry_168 : decode cX11_mergeEntry 168 = .ok (.goto (-54), 3) := by decide +kernel
theorem dX11_mergeEntry_171 : decode cX11_mergeEntry 171 = .ok (.return_, 1) := by decide +kernel
abbrev wmX11_mergeEntry : List Cond := .code yX11_mergeEntry cX11_mergeEntry 6 none :: mBig
def f_X11_mergeEntry_L114 (a2 : Int32) (b3 : Int32) : Nat → Int32 → gM → Option gM
  | 0, _, _ => none
  | n7 + 1, x5, M6 => lt (M6 m_o 0) (fun v8 => (if v8 ≤ x5 then some M6 else o1 (f_X11_isOf M6 x5) (fun v11 => jn (fun (M12 : gM) => lt (x5 + 1) (fun x13 => f_X11_mergeEntry_L114 a2 b3 n7 x13 M12)) (fun J165 => (if v11 = 0 then J165 M6 else wr M6 m_entry 192 (((48 : Int32) * x5) + a2) b3 (fun M15 => o1 (f_X11_copyTo M15 m_mergedGone a2 m_gone (((48 : Int32) * x5) + a2)) (fun M17 => J165 M17)))))))
def f_X11_mergeEntry_L14 (a1 : Int32) (a2 : Int32) (J111 : (Int32 × gM) → Option gM) : Nat → Int32 → Int32 → gM → Option gM
  | 0, _, _, _ => none
  | n21 + 1, x18, x19, M20 => lt (M20 m_o 0) (fun v22 => (if v22 ≤ x19 then J111 (x18, M20) else lt ((((48 : Int32) * x19) + a2)) (fun x24 => o1 (f_X11_isOf M20 x19) (fun v26 => jn (fun (q : (Int32 × gM)) => match q with | (b27, M28) => lt (x19 + 1) (fun x29 => f_X11_mergeEntry_L14 a1 a2 J111 n21 b27 x29 M28)) (fun J105 => (if v26 = 0 then J105 (x18, M20) else rd M20 m_has 192 (((48 : Int32) * x19) + a1) (fun v31 => (if v31 = 0 then J105 (x18, M20) else rd M20 m_entry 192 x24 (fun v33 => jn (fun (q : (Int32 × gM)) => match q with | (b34, M35) => rd M35 m_entry 192 x24 (fun v36 => (if v36 = (2 : Int32) then o1 (f_X11_raise M35 m_gone x24 m_mergedGone a2) (fun M39 => J105 (b34, M39)) else J105 (b34, M35)))) (fun J78 => (if v33 ≤ x18 then J78 (x18, M20) else rd M20 m_entry 192 x24 (fun v41 => J78 (v41, M20)))))))))))))
def f_X11_mergeEntry (M : gM) (a1 : Int32) (a2 : Int32) : Option gM :=
  o1 (f_X11_clearRow M m_mergedGone a2) (fun M2 => jn (fun (q : (Int32 × gM)) => match q with | (b3, M4) => f_X11_mergeEntry_L114 a2 b3 100 (0 : Int32) M4) (fun J111 => f_X11_mergeEntry_L14 a1 a2 J111 100 (0 : Int32) (0 : Int32) M2))
set_option maxHeartbeats 4000000 in
set_option maxRecDepth 100000 in
theorem t_X11_mergeEntry (l : Launch) (D : va_G) (dA : Nat → ClassId) (A : gI → Nat) (hJ : gJ mLive A) {M : gM} {a1 : Int32} {a2 : Int32}  {y : gM} (h : f_X11_mergeEntry M a1 a2 = some y) : mMv l yX11_mergeEntry wmX11_mergeEntry ({ frames := 1, cells := 0, slots := 0, locals := 25 } : Room) D dA A [.ref (A m_o), .int a1, .int a2] M y := by
  refine Met.ofW (cc := cX11_mergeEntry) (maxL := 6) (ret := none) (by decide) rfl ?_
  intro p e s m args below meth c s₁ B hml hv
  obtain ⟨rfl, hP, hK⟩ := hv
  generalize hargs : ([.ref (A m_o), .int a1, .int a2] : List Value).toArray = args at B ⊢
  have S : CallFix p m c cX11_mergeEntry 6 s args wmX11_mergeEntry RX11 := ⟨B.exec, B.bytes, hml, findClass_of_methodNamed B.named, atoms_spec (ws := wmX11_mergeEntry) B.pre⟩
  obtain ⟨hx, hb, -, hown, hts⟩ := id S
  have hr := B.returns
  have hlocks := B.notSynchronized
  have X : gX D vwCl dA mLive A (gA mLive A) s := ⟨hK, hJ, fun i hi => ⟨i, hi, rfl⟩⟩
  have Z : gZ D mLay dA mLive A (gA mLive A) s.heap M s.heap [] := ⟨hP, va_S.rf⟩
  have hin : ∀ w ∈ wsX110, w ∈ wmX11_mergeEntry := m_in
  have hl_32 := hts (.fieldLink RX11 32 "ReplicaFilesModel" "has" "[Z") (mBc 12 rfl)
  have hl_56 := hts (.fieldLink RX11 56 "ReplicaFilesModel" "entry" "[I") (mBc 20 rfl)
  have hl_59 := hts (.fieldLink RX11 59 "ReplicaFilesModel" "gone" "[I") (mBc 21 rfl)
  have hl_134 := hts (.fieldLink RX11 134 "ReplicaFilesModel" "mergedGone" "[I") (mBc 46 rfl)
  have hl_155 := hts (.fieldLink RX11 155 "ReplicaFilesModel" "servers" "I") (mBc 53 rfl)
  have hl := lv_entry ([.ref (A m_o), .int a1, .int a2]) (n := 6) (Nat.le_of_ble_eq_true rfl)
  rw [← hargs, lg_entry_eq, hargs]
  generalize (lg_sl ([.ref (A m_o), .int a1, .int a2]) ++ List.replicate (6 - (lg_sl ([.ref (A m_o), .int a1, .int a2])).length) Slot.unset).toArray = ls at hl ⊢
  have hl : lv_has ls 6 [(0, .ref (A m_o)), (1, .int a1), (2, .int a2)] := hl
  unfold f_X11_mergeEntry at h
  refine lv_iconst (v := (0 : Int32)) hx hb dX11_mergeEntry_0 (by decide) ?_
  refine lv_istore_n (lv' := [(3, .int (0 : Int32)), (0, .ref (A m_o)), (1, .int a1), (2, .int a2)]) hx hb dX11_mergeEntry_1 rfl hl (by decide) rfl (fun ls hl => ?_)
  refine lv_aload_n hx hb dX11_mergeEntry_2 rfl (lv_at hl 1 rfl) ?_
  refine lv_aload_n hx hb dX11_mergeEntry_3 rfl (lv_at hl 1 rfl) ?_
  refine mr_mergedGone S X Z hin hl_134 dX11_mergeEntry_4 ?_
  refine lv_iload_n hx hb dX11_mergeEntry_7 rfl (lv_at hl 3 rfl) ?_
  obtain ⟨M2, hc1, h⟩ := o1_e h
  refine g_Vv (As := [.ref (A m_mergedGone), .int a2]) (rest := []) S X Z mlv_o rfl rfl (t_X11_clearRow l D dA A hJ ⟨ml_mergedGone, rfl⟩ hc1) (cwV 2 hts (mGV (mB 108 rfl) (mB 109 rfl) (mB 110 rfl) (mB 63 rfl) (mB 99 rfl)) rfl rfl rfl (by decide +kernel) ⟨Nat.le_of_ble_eq_true rfl, Nat.le_of_ble_eq_true rfl⟩) rfl hl.1 rfl (Nat.le_of_ble_eq_true rfl) dX11_mergeEntry_8 ⟨Nat.zero_le _, Nat.zero_le _⟩ (fun H locs Z => ?_)
  refine lv_iconst (v := (0 : Int32)) hx hb dX11_mergeEntry_11 (by decide) ?_
  refine lv_istore (lv' := [(4, .int (0 : Int32)), (3, .int (0 : Int32)), (0, .ref (A m_o)), (1, .int a1), (2, .int a2)]) hx hb dX11_mergeEntry_12 hl (by decide) rfl (fun ls hl => ?_)
  obtain ⟨J111, eJ111, h⟩ := jn_e h
  have hJ111 : ∀ (b3 : Int32) (M4 : gM) (H : Heap) (locs : List Loc) (ls : Array Slot), gZ D mLay dA mLive A (gA mLive A) s.heap M4 H locs → lv_has ls 6 [(0, .ref (A m_o)), (2, .int a2), (3, .int b3)] → J111 (b3, M4) = some y → W p l e (headSpec wmX11_mergeEntry ({ frames := 1, cells := 0, slots := 0, locals := 25 } : Room)).room s m args below meth c H locs 0 0 (MQ below (mQv D dA A y) args s 0 0 (gA mLive A)) (F0 m 111 ls []) := by
    intro b3 M4 H locs ls Z hl h
    rw [eJ111] at h
    try dsimp only at h
    refine lv_iconst (v := (0 : Int32)) hx hb dX11_mergeEntry_111 (by decide) ?_
    refine lv_istore (lv' := [(4, .int (0 : Int32)), (0, .ref (A m_o)), (2, .int a2), (3, .int b3)]) hx hb dX11_mergeEntry_112 hl (by decide) rfl (fun ls hl => ?_)
    have hL114 : ∀ (n : Nat) (x5 : Int32) (M6 : gM) (H : Heap) (locs : List Loc) (ls : Array Slot), gZ D mLay dA mLive A (gA mLive A) s.heap M6 H locs → lv_has ls 6 [(0, .ref (A m_o)), (2, .int a2), (3, .int b3), (4, .int x5)] → f_X11_mergeEntry_L114 a2 b3 n x5 M6 = some y → W p l e (headSpec wmX11_mergeEntry ({ frames := 1, cells := 0, slots := 0, locals := 25 } : Room)).room s m args below meth c H locs 0 0 (MQ below (mQv D dA A y) args s 0 0 (gA mLive A)) (F0 m 114 ls []) := by
      intro n
      induction n with
      | zero =>
        intro x5 M6 H locs ls Z hl h
        rw [f_X11_mergeEntry_L114] at h
        cases h
      | succ n7 ih114 =>
        intro x5 M6 H locs ls Z hl h
        rw [f_X11_mergeEntry_L114] at h
        refine lv_iload hx hb dX11_mergeEntry_114 (lv_at hl 3 rfl) ?_
        refine lv_aload_n hx hb dX11_mergeEntry_116 rfl (lv_at hl 0 rfl) ?_
        refine mr_servers S X Z hin hl_155 dX11_mergeEntry_117 h (fun v8 h => ?_)
        refine lv_icmp_ge (tgt := 171) hx hb dX11_mergeEntry_120 (by decide) (fun c9 => ?_) (fun c9 => ?_)
        · have h := if_t c9 h
          have hy := Option.some.inj h
          subst hy
          exact g_rv S Z hr hlocks dX11_mergeEntry_171
        · have h := if_f c9 h
          refine lv_aload_n hx hb dX11_mergeEntry_123 rfl (lv_at hl 0 rfl) ?_
          refine lv_iload hx hb dX11_mergeEntry_124 (lv_at hl 3 rfl) ?_
          obtain ⟨v11, hc10, h⟩ := o1_e h
          refine g_Vi (As := [.int x5]) (rest := []) S X Z mlv_o rfl rfl (t_X11_isOf l D dA A hJ  hc10) (cwV 1 hts (mGV (mB 293 rfl) (mB 294 rfl) (mB 295 rfl) (mB 63 rfl) (mB 290 rfl)) rfl rfl rfl (by decide +kernel) ⟨Nat.le_of_ble_eq_true rfl, Nat.le_of_ble_eq_true rfl⟩) rfl hl.1 rfl (Nat.le_of_ble_eq_true rfl) dX11_mergeEntry_126 ⟨Nat.zero_le _, Nat.zero_le _⟩ (fun H locs Z => ?_)
          obtain ⟨J165, eJ165, h⟩ := jn_e h
          have hJ165 : ∀ (M12 : gM) (H : Heap) (locs : List Loc) (ls : Array Slot), gZ D mLay dA mLive A (gA mLive A) s.heap M12 H locs → lv_has ls 6 [(0, .ref (A m_o)), (2, .int a2), (3, .int b3), (4, .int x5)] → J165 M12 = some y → W p l e (headSpec wmX11_mergeEntry ({ frames := 1, cells := 0, slots := 0, locals := 25 } : Room)).room s m args below meth c H locs 0 0 (MQ below (mQv D dA A y) args s 0 0 (gA mLive A)) (F0 m 165 ls []) := by
            intro M12 H locs ls Z hl h
            rw [eJ165] at h
            try dsimp only at h
            obtain ⟨x13, ex13, h⟩ := lt_e h
            refine lv_iinc (v := x13) (lv' := [(4, .int x13), (0, .ref (A m_o)), (2, .int a2), (3, .int b3)]) hx hb dX11_mergeEntry_165 hl (k := 3) rfl (by rw [ex13]; rfl) (by decide) rfl (fun ls hl => ?_)
            refine lv_goto (tgt := 114) hx hb dX11_mergeEntry_168 (by decide) ?_
            exact ih114 x13 M12 _ _ _ Z (lv_sub hl [1, 2, 3, 0] rfl) h
          refine lv_if_eq (tgt := 165) hx hb dX11_mergeEntry_129 (by decide) (fun c14 => ?_) (fun c14 => ?_)
          · have h := if_t c14 h
            exact hJ165 M6 _ _ _ Z (lv_sub hl [0, 1, 2, 3] rfl) h
          · have h := if_f c14 h
            refine lv_aload_n hx hb dX11_mergeEntry_132 rfl (lv_at hl 0 rfl) ?_
            refine mr_entry S X Z hin hl_56 dX11_mergeEntry_133 ?_
            refine lv_bipush (v := (48 : Int32)) hx hb dX11_mergeEntry_136 (by decide) ?_
            refine lv_iload hx hb dX11_mergeEntry_138 (lv_at hl 3 rfl) ?_
            refine lv_imul hx hb dX11_mergeEntry_140 ?_
            refine lv_iload_n hx hb dX11_mergeEntry_141 rfl (lv_at hl 1 rfl) ?_
            refine lv_iadd hx hb dX11_mergeEntry_142 ?_
            refine lv_iload_n hx hb dX11_mergeEntry_143 rfl (lv_at hl 2 rfl) ?_
            refine g_iast S X Z ml_entry rfl dX11_mergeEntry_144 h (fun M15 H locs Z h => ?_)
            refine lv_aload_n hx hb dX11_mergeEntry_145 rfl (lv_at hl 0 rfl) ?_
            refine lv_aload_n hx hb dX11_mergeEntry_146 rfl (lv_at hl 0 rfl) ?_
            refine mr_mergedGone S X Z hin hl_134 dX11_mergeEntry_147 ?_
            refine lv_iload_n hx hb dX11_mergeEntry_150 rfl (lv_at hl 1 rfl) ?_
            refine lv_aload_n hx hb dX11_mergeEntry_151 rfl (lv_at hl 0 rfl) ?_
            refine mr_gone S X Z hin hl_59 dX11_mergeEntry_152 ?_
            refine lv_bipush (v := (48 : Int32)) hx hb dX11_mergeEntry_155 (by decide) ?_
            refine lv_iload hx hb dX11_mergeEntry_157 (lv_at hl 3 rfl) ?_
            refine lv_imul hx hb dX11_mergeEntry_159 ?_
            refine lv_iload_n hx hb dX11_mergeEntry_160 rfl (lv_at hl 1 rfl) ?_
            refine lv_iadd hx hb dX11_mergeEntry_161 ?_
            obtain ⟨M17, hc16, h⟩ := o1_e h
            refine g_Vv (As := [.ref (A m_mergedGone), .int a2, .ref (A m_gone), .int (((48 : Int32) * x5) + a2)]) (rest := []) S X Z mlv_o rfl rfl (t_X11_copyTo l D dA A hJ ⟨ml_mergedGone, rfl⟩ ⟨ml_gone, rfl⟩ hc16) (cwV 4 hts (mGV (mB 139 rfl) (mB 140 rfl) (mB 141 rfl) (mB 63 rfl) (mB 97 rfl)) rfl rfl rfl (by decide +kernel) ⟨Nat.le_of_ble_eq_true rfl, Nat.le_of_ble_eq_true rfl⟩) rfl hl.1 rfl (Nat.le_of_ble_eq_true rfl) dX11_mergeEntry_162 ⟨Nat.zero_le _, Nat.zero_le _⟩ (fun H locs Z => ?_)
            exact hJ165 M17 _ _ _ Z (lv_sub hl [0, 1, 2, 3] rfl) h
    exact hL114 100 (0 : Int32) M4 _ _ _ Z (lv_sub hl [1, 2, 3, 0] rfl) h
  have hL14 : ∀ (n : Nat) (x18 : Int32) (x19 : Int32) (M20 : gM) (H : Heap) (locs : List Loc) (ls : Array Slot), gZ D mLay dA mLive A (gA mLive A) s.heap M20 H locs → lv_has ls 6 [(0, .ref (A m_o)), (1, .int a1), (2, .int a2), (3, .int x18), (4, .int x19)] → f_X11_mergeEntry_L14 a1 a2 J111 n x18 x19 M20 = some y → W p l e (headSpec wmX11_mergeEntry ({ frames := 1, cells := 0, slots := 0, locals := 25 } : Room)).room s m args below meth c H locs 0 0 (MQ below (mQv D dA A y) args s 0 0 (gA mLive A)) (F0 m 14 ls []) := by
    intro n
    induction n with
    | zero =>
      intro x18 x19 M20 H locs ls Z hl h
      rw [f_X11_mergeEntry_L14] at h
      cases h
    | succ n21 ih14 =>
      intro x18 x19 M20 H locs ls Z hl h
      rw [f_X11_mergeEntry_L14] at h
      refine lv_iload hx hb dX11_mergeEntry_14 (lv_at hl 4 rfl) ?_
      refine lv_aload_n hx hb dX11_mergeEntry_16 rfl (lv_at hl 0 rfl) ?_
      refine mr_servers S X Z hin hl_155 dX11_mergeEntry_17 h (fun v22 h => ?_)
      refine lv_icmp_ge (tgt := 111) hx hb dX11_mergeEntry_20 (by decide) (fun c23 => ?_) (fun c23 => ?_)
      · have h := if_t c23 h
        exact hJ111 x18 M20 _ _ _ Z (lv_sub hl [0, 2, 3] rfl) h
      · have h := if_f c23 h
        refine lv_bipush (v := (48 : Int32)) hx hb dX11_mergeEntry_23 (by decide) ?_
        refine lv_iload hx hb dX11_mergeEntry_25 (lv_at hl 4 rfl) ?_
        refine lv_imul hx hb dX11_mergeEntry_27 ?_
        refine lv_iload_n hx hb dX11_mergeEntry_28 rfl (lv_at hl 2 rfl) ?_
        refine lv_iadd hx hb dX11_mergeEntry_29 ?_
        refine g_topi h (fun x24 h => ?_)
        refine lv_istore (lv' := [(5, .int x24), (0, .ref (A m_o)), (1, .int a1), (2, .int a2), (3, .int x18), (4, .int x19)]) hx hb dX11_mergeEntry_30 hl (by decide) rfl (fun ls hl => ?_)
        refine lv_aload_n hx hb dX11_mergeEntry_32 rfl (lv_at hl 1 rfl) ?_
        refine lv_iload hx hb dX11_mergeEntry_33 (lv_at hl 5 rfl) ?_
        obtain ⟨v26, hc25, h⟩ := o1_e h
        refine g_Vi (As := [.int x19]) (rest := []) S X Z mlv_o rfl rfl (t_X11_isOf l D dA A hJ  hc25) (cwV 1 hts (mGV (mB 293 rfl) (mB 294 rfl) (mB 295 rfl) (mB 63 rfl) (mB 290 rfl)) rfl rfl rfl (by decide +kernel) ⟨Nat.le_of_ble_eq_true rfl, Nat.le_of_ble_eq_true rfl⟩) rfl hl.1 rfl (Nat.le_of_ble_eq_true rfl) dX11_mergeEntry_35 ⟨Nat.zero_le _, Nat.zero_le _⟩ (fun H locs Z => ?_)
        obtain ⟨J105, eJ105, h⟩ := jn_e h
        have hJ105 : ∀ (b27 : Int32) (M28 : gM) (H : Heap) (locs : List Loc) (ls : Array Slot), gZ D mLay dA mLive A (gA mLive A) s.heap M28 H locs → lv_has ls 6 [(0, .ref (A m_o)), (1, .int a1), (2, .int a2), (3, .int b27), (4, .int x19)] → J105 (b27, M28) = some y → W p l e (headSpec wmX11_mergeEntry ({ frames := 1, cells := 0, slots := 0, locals := 25 } : Room)).room s m args below meth c H locs 0 0 (MQ below (mQv D dA A y) args s 0 0 (gA mLive A)) (F0 m 105 ls []) := by
          intro b27 M28 H locs ls Z hl h
          rw [eJ105] at h
          try dsimp only at h
          obtain ⟨x29, ex29, h⟩ := lt_e h
          refine lv_iinc (v := x29) (lv' := [(4, .int x29), (0, .ref (A m_o)), (1, .int a1), (2, .int a2), (3, .int b27)]) hx hb dX11_mergeEntry_105 hl (k := 4) rfl (by rw [ex29]; rfl) (by decide) rfl (fun ls hl => ?_)
          refine lv_goto (tgt := 14) hx hb dX11_mergeEntry_108 (by decide) ?_
          exact ih14 b27 x29 M28 _ _ _ Z (lv_sub hl [1, 2, 3, 4, 0] rfl) h
        refine lv_if_eq (tgt := 105) hx hb dX11_mergeEntry_38 (by decide) (fun c30 => ?_) (fun c30 => ?_)
        · have h := if_t c30 h
          exact hJ105 x18 M20 _ _ _ Z (lv_sub hl [1, 2, 3, 4, 5] rfl) h
        · have h := if_f c30 h
          refine lv_aload_n hx hb dX11_mergeEntry_41 rfl (lv_at hl 1 rfl) ?_
          refine mr_has S X Z hin hl_32 dX11_mergeEntry_42 ?_
          refine lv_bipush (v := (48 : Int32)) hx hb dX11_mergeEntry_45 (by decide) ?_
          refine lv_iload hx hb dX11_mergeEntry_47 (lv_at hl 5 rfl) ?_
          refine lv_imul hx hb dX11_mergeEntry_49 ?_
          refine lv_iload_n hx hb dX11_mergeEntry_50 rfl (lv_at hl 2 rfl) ?_
          refine lv_iadd hx hb dX11_mergeEntry_51 ?_
          refine g_zald S X Z ml_has rfl dX11_mergeEntry_52 h (fun v31 h => ?_)
          refine lv_if_eq (tgt := 105) hx hb dX11_mergeEntry_53 (by decide) (fun c32 => ?_) (fun c32 => ?_)
          · have h := if_t c32 h
            exact hJ105 x18 M20 _ _ _ Z (lv_sub hl [1, 2, 3, 4, 5] rfl) h
          · have h := if_f c32 h
            refine lv_aload_n hx hb dX11_mergeEntry_56 rfl (lv_at hl 1 rfl) ?_
            refine mr_entry S X Z hin hl_56 dX11_mergeEntry_57 ?_
            refine lv_iload hx hb dX11_mergeEntry_60 (lv_at hl 0 rfl) ?_
            refine g_iald S X Z ml_entry rfl dX11_mergeEntry_62 h (fun v33 h => ?_)
            refine lv_iload_n hx hb dX11_mergeEntry_63 rfl (lv_at hl 4 rfl) ?_
            obtain ⟨J78, eJ78, h⟩ := jn_e h
            have hJ78 : ∀ (b34 : Int32) (M35 : gM) (H : Heap) (locs : List Loc) (ls : Array Slot), gZ D mLay dA mLive A (gA mLive A) s.heap M35 H locs → lv_has ls 6 [(0, .ref (A m_o)), (1, .int a1), (2, .int a2), (4, .int x19), (5, .int x24)] → J78 (b34, M35) = some y → W p l e (headSpec wmX11_mergeEntry ({ frames := 1, cells := 0, slots := 0, locals := 25 } : Room)).room s m args below meth c H locs 0 0 (MQ below (mQv D dA A y) args s 0 0 (gA mLive A)) (F0 m 78 ls [.int b34]) := by
              intro b34 M35 H locs ls Z hl h
              rw [eJ78] at h
              try dsimp only at h
              refine lv_istore_n (lv' := [(3, .int b34), (0, .ref (A m_o)), (1, .int a1), (2, .int a2), (4, .int x19), (5, .int x24)]) hx hb dX11_mergeEntry_78 rfl hl (by decide) rfl (fun ls hl => ?_)
              refine lv_aload_n hx hb dX11_mergeEntry_79 rfl (lv_at hl 1 rfl) ?_
              refine mr_entry S X Z hin hl_56 dX11_mergeEntry_80 ?_
              refine lv_iload hx hb dX11_mergeEntry_83 (lv_at hl 5 rfl) ?_
              refine g_iald S X Z ml_entry rfl dX11_mergeEntry_85 h (fun v36 h => ?_)
              refine lv_iconst (v := (2 : Int32)) hx hb dX11_mergeEntry_86 (by decide) ?_
              refine lv_icmp_ne (tgt := 105) hx hb dX11_mergeEntry_87 (by decide) (fun c37 => ?_) (fun c37 => ?_)
              · have h := if_f c37 h
                exact hJ105 b34 M35 _ _ _ Z (lv_sub hl [1, 2, 3, 0, 4] rfl) h
              · have h := if_t c37 h
                refine lv_aload_n hx hb dX11_mergeEntry_90 rfl (lv_at hl 1 rfl) ?_
                refine lv_aload_n hx hb dX11_mergeEntry_91 rfl (lv_at hl 1 rfl) ?_
                refine mr_gone S X Z hin hl_59 dX11_mergeEntry_92 ?_
                refine lv_iload hx hb dX11_mergeEntry_95 (lv_at hl 5 rfl) ?_
                refine lv_aload_n hx hb dX11_mergeEntry_97 rfl (lv_at hl 1 rfl) ?_
                refine mr_mergedGone S X Z hin hl_134 dX11_mergeEntry_98 ?_
                refine lv_iload_n hx hb dX11_mergeEntry_101 rfl (lv_at hl 3 rfl) ?_
                obtain ⟨M39, hc38, h⟩ := o1_e h
                refine g_Vv (As := [.ref (A m_gone), .int x24, .ref (A m_mergedGone), .int a2]) (rest := []) S X Z mlv_o rfl rfl (t_X11_raise l D dA A hJ ⟨ml_gone, rfl⟩ ⟨ml_mergedGone, rfl⟩ hc38) (cwV 4 hts (mGV (mB 269 rfl) (mB 270 rfl) (mB 271 rfl) (mB 63 rfl) (mB 98 rfl)) rfl rfl rfl (by decide +kernel) ⟨Nat.le_of_ble_eq_true rfl, Nat.le_of_ble_eq_true rfl⟩) rfl hl.1 rfl (Nat.le_of_ble_eq_true rfl) dX11_mergeEntry_102 ⟨Nat.zero_le _, Nat.zero_le _⟩ (fun H locs Z => ?_)
                exact hJ105 b34 M39 _ _ _ Z (lv_sub hl [1, 2, 3, 0, 4] rfl) h
            refine lv_icmp_le (tgt := 77) hx hb dX11_mergeEntry_64 (by decide) (fun c40 => ?_) (fun c40 => ?_)
            · have h := if_t c40 h
              refine lv_iload_n hx hb dX11_mergeEntry_77 rfl (lv_at hl 4 rfl) ?_
              exact hJ78 x18 M20 _ _ _ Z (lv_sub hl [1, 2, 3, 5, 0] rfl) h
            · have h := if_f c40 h
              refine lv_aload_n hx hb dX11_mergeEntry_67 rfl (lv_at hl 1 rfl) ?_
              refine mr_entry S X Z hin hl_56 dX11_mergeEntry_68 ?_
              refine lv_iload hx hb dX11_mergeEntry_71 (lv_at hl 0 rfl) ?_
              refine g_iald S X Z ml_entry rfl dX11_mergeEntry_73 h (fun v41 h => ?_)
              refine lv_goto (tgt := 78) hx hb dX11_mergeEntry_74 (by decide) ?_
              exact hJ78 v41 M20 _ _ _ Z (lv_sub hl [1, 2, 3, 5, 0] rfl) h
  exact hL14 100 (0 : Int32) (0 : Int32) M2 _ _ _ Z (lv_sub hl [2, 3, 4, 1, 0] rfl) h
