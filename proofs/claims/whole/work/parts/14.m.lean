-- X11_follow (II)V: 37 instructions
theorem dX11_follow_0 : decode cX11_follow 0 = .ok (.bipush 48, 2) := by decide +kernel
theorem dX11_follow_2 : decode cX11_follow 2 = .ok (.iload_n 1, 1) := by decide +kernel
theorem dX11_follow_3 : decode cX11_follow 3 = .ok (.imul, 1) := by decide +kernel
theorem dX11_follow_4 : decode cX11_follow 4 = .ok (.iload_n 2, 1) := by decide +kernel
theorem dX11_follow_5 : decode cX11_follow 5 = .ok (.iadd, 1) := by decide +kernel
theorem dX11_follow_6 : decode cX11_follow 6 = .ok (.istore_n 3, 1) := by decide +kernel
theorem dX11_follow_7 : decode cX11_follow 7 = .ok (.aload_n 0, 1) := by decide +kernel
theorem dX11_follow_8 : decode cX11_follow 8 = .ok (.getfield 65, 3) := by decide +kernel
theorem dX11_follow_11 : decode cX11_follow 11 = .ok (.iload_n 3, 1) := by decide +kernel
theorem dX11_follow_12 : decode cX11_follow 12 = .ok (.baload, 1) := by decide +kernel
theorem dX11_follow_13 : decode cX11_follow 13 = .ok (.ifCond .eq 34, 3) := by decide +kernel
theorem dX11_follow_16 : decode cX11_follow 16 = .ok (.aload_n 0, 1) := by decide +kernel
theorem dX11_follow_17 : decode cX11_follow 17 = .ok (.aload_n 0, 1) := by decide +kernel
theorem dX11_follow_18 : decode cX11_follow 18 = .ok (.getfield 74, 3) := by decide +kernel
theorem dX11_follow_21 : decode cX11_follow 21 = .ok (.iload_n 3, 1) := by decide +kernel
theorem dX11_follow_22 : decode cX11_follow 22 = .ok (.aload_n 0, 1) := by decide +kernel
theorem dX11_follow_23 : decode cX11_follow 23 = .ok (.getfield 289, 3) := by decide +kernel
theorem dX11_follow_26 : decode cX11_follow 26 = .ok (.iload_n 2, 1) := by decide +kernel
theorem dX11_follow_27 : decode cX11_follow 27 = .ok (.invokevirtual 298, 3) := by decide +kernel
theorem dX11_follow_30 : decode cX11_follow 30 = .ok (.aload_n 0, 1) := by decide +kernel
theorem dX11_follow_31 : decode cX11_follow 31 = .ok (.getfield 77, 3) := by decide +kernel
theorem dX11_follow_34 : decode cX11_follow 34 = .ok (.iload_n 3, 1) := by decide +kernel
theorem dX11_follow_35 : decode cX11_follow 35 = .ok (.aload_n 0, 1) := by decide +kernel
theorem dX11_follow_36 : decode cX11_follow 36 = .ok (.getfield 289, 3) := by decide +kernel
theorem dX11_follow_39 : decode cX11_follow 39 = .ok (.aload_n 0, 1) := by decide +kernel
theorem dX11_follow_40 : decode cX11_follow 40 = .ok (.getfield 286, 3) := by decide +kernel
theorem dX11_follow_43 : decode cX11_follow 43 = .ok (.iconst (-1), 1) := by decide +kernel
theorem dX11_follow_44 : decode cX11_follow 44 = .ok (.ixor, 1) := by decide +kernel
theorem dX11_follow_45 : decode cX11_follow 45 = .ok (.iand, 1) := by decide +kernel
theorem dX11_follow_46 : decode cX11_follow 46 = .ok (.iastore, 1) := by decide +kernel
theorem dX11_follow_47 : decode cX11_follow 47 = .ok (.aload_n 0, 1) := by decide +kernel
theorem dX11_follow_48 : decode cX11_follow 48 = .ok (.iload_n 2, 1) := by decide +kernel
theorem dX11_follow_49 : decode cX11_follow 49 = .ok (.aload_n 0, 1) := by decide +kernel
theorem dX11_follow_50 : decode cX11_follow 50 = .ok (.getfield 289, 3) := by decide +kernel
theorem dX11_follow_53 : decode cX11_follow 53 = .ok (.iload_n 1, 1) := by decide +kernel
theorem dX11_follow_54 : decode cX11_follow 54 = .ok (.invokevirtual 315, 3) := by decide +kernel
theorem dX11_follow_57 : decode cX11_follow 57 = .ok (.return_, 1) := by decide +kernel
abbrev wmX11_follow : List Cond := .code yX11_follow cX11_follow 4 none :: mBig
def f_X11_follow (M : gM) (a1 : Int32) (a2 : Int32) : Option gM :=
  lt ((((48 : Int32) * a1) + a2)) (fun x1 => rd M m_kept 192 x1 (fun v2 => jn (fun (M3 : gM) => lt (M3 m_o 51) (fun v4 => o1 (f_X11_endPromises M3 a2 v4 a1) (fun M6 => some M6))) (fun J47 => (if v2 = 0 then J47 M else lt (M m_o 51) (fun v8 => o1 (f_X11_count M m_keptVector x1 v8 a2) (fun M10 => lt (M10 m_o 51) (fun v11 => lt (M10 m_o 52) (fun v12 => wr M10 m_promised 192 x1 (v11 &&& (v12 ^^^ (-1 : Int32))) (fun M13 => J47 M13)))))))))
set_option maxHeartbeats 4000000 in
set_option maxRecDepth 100000 in
theorem t_X11_follow (l : Launch) (D : va_G) (dA : Nat → ClassId) (A : gI → Nat) (hJ : gJ mLive A) {M : gM} {a1 : Int32} {a2 : Int32}  {y : gM} (h : f_X11_follow M a1 a2 = some y) : mMv l yX11_follow wmX11_follow ({ frames := 1, cells := 0, slots := 0, locals := 25 } : Room) D dA A [.ref (A m_o), .int a1, .int a2] M y := by
  refine Met.ofW (cc := cX11_follow) (maxL := 4) (ret := none) (by decide) rfl ?_
  intro p e s m args below meth c s₁ B hml hv
  obtain ⟨rfl, hP, hK⟩ := hv
  generalize hargs : ([.ref (A m_o), .int a1, .int a2] : List Value).toArray = args at B ⊢
  have S : CallFix p m c cX11_follow 4 s args wmX11_follow RX11 := ⟨B.exec, B.bytes, hml, findClass_of_methodNamed B.named, atoms_spec (ws := wmX11_follow) B.pre⟩
  obtain ⟨hx, hb, -, hown, hts⟩ := id S
  have hr := B.returns
  have hlocks := B.notSynchronized
  have X : gX D vwCl dA mLive A (gA mLive A) s := ⟨hK, hJ, fun i hi => ⟨i, hi, rfl⟩⟩
  have Z : gZ D mLay dA mLive A (gA mLive A) s.heap M s.heap [] := ⟨hP, va_S.rf⟩
  have hin : ∀ w ∈ wsX110, w ∈ wmX11_follow := m_in
  have hl_65 := hts (.fieldLink RX11 65 "ReplicaFilesModel" "kept" "[Z") (mBc 23 rfl)
  have hl_74 := hts (.fieldLink RX11 74 "ReplicaFilesModel" "keptVector" "[I") (mBc 26 rfl)
  have hl_77 := hts (.fieldLink RX11 77 "ReplicaFilesModel" "promised" "[I") (mBc 27 rfl)
  have hl_286 := hts (.fieldLink RX11 286 "ReplicaFilesModel" "setLost" "I") (mBc 187 rfl)
  have hl_289 := hts (.fieldLink RX11 289 "ReplicaFilesModel" "set" "I") (mBc 188 rfl)
  have hl := lv_entry ([.ref (A m_o), .int a1, .int a2]) (n := 4) (Nat.le_of_ble_eq_true rfl)
  rw [← hargs, lg_entry_eq, hargs]
  generalize (lg_sl ([.ref (A m_o), .int a1, .int a2]) ++ List.replicate (4 - (lg_sl ([.ref (A m_o), .int a1, .int a2])).length) Slot.unset).toArray = ls at hl ⊢
  have hl : lv_has ls 4 [(0, .ref (A m_o)), (1, .int a1), (2, .int a2)] := hl
  unfold f_X11_follow at h
  refine lv_bipush (v := (48 : Int32)) hx hb dX11_follow_0 (by decide) ?_
  refine lv_iload_n hx hb dX11_follow_2 rfl (lv_at hl 1 rfl) ?_
  refine lv_imul hx hb dX11_follow_3 ?_
  refine lv_iload_n hx hb dX11_follow_4 rfl (lv_at hl 2 rfl) ?_
  refine lv_iadd hx hb dX11_follow_5 ?_
  refine g_topi h (fun x1 h => ?_)
  refine lv_istore_n (lv' := [(3, .int x1), (0, .ref (A m_o)), (1, .int a1), (2, .int a2)]) hx hb dX11_follow_6 rfl hl (by decide) rfl (fun ls hl => ?_)
  refine lv_aload_n hx hb dX11_follow_7 rfl (lv_at hl 1 rfl) ?_
  refine mr_kept S X Z hin hl_65 dX11_follow_8 ?_
  refine lv_iload_n hx hb dX11_follow_11 rfl (lv_at hl 0 rfl) ?_
  refine g_zald S X Z ml_kept rfl dX11_follow_12 h (fun v2 h => ?_)
  obtain ⟨J47, eJ47, h⟩ := jn_e h
  have hJ47 : ∀ (M3 : gM) (H : Heap) (locs : List Loc) (ls : Array Slot), gZ D mLay dA mLive A (gA mLive A) s.heap M3 H locs → lv_has ls 4 [(0, .ref (A m_o)), (1, .int a1), (2, .int a2)] → J47 M3 = some y → W p l e (headSpec wmX11_follow ({ frames := 1, cells := 0, slots := 0, locals := 25 } : Room)).room s m args below meth c H locs 0 0 (MQ below (mQv D dA A y) args s 0 0 (gA mLive A)) (F0 m 47 ls []) := by
    intro M3 H locs ls Z hl h
    rw [eJ47] at h
    try dsimp only at h
    refine lv_aload_n hx hb dX11_follow_47 rfl (lv_at hl 0 rfl) ?_
    refine lv_iload_n hx hb dX11_follow_48 rfl (lv_at hl 2 rfl) ?_
    refine lv_aload_n hx hb dX11_follow_49 rfl (lv_at hl 0 rfl) ?_
    refine mr_set S X Z hin hl_289 dX11_follow_50 h (fun v4 h => ?_)
    refine lv_iload_n hx hb dX11_follow_53 rfl (lv_at hl 1 rfl) ?_
    obtain ⟨M6, hc5, h⟩ := o1_e h
    refine g_Vv (As := [.int a2, .int v4, .int a1]) (rest := []) S X Z mlv_o rfl rfl (t_X11_endPromises l D dA A hJ  hc5) (cwV 3 hts (mGV (mB 211 rfl) (mB 212 rfl) (mB 213 rfl) (mB 63 rfl) (mB 196 rfl)) rfl rfl rfl (by decide +kernel) ⟨Nat.le_of_ble_eq_true rfl, Nat.le_of_ble_eq_true rfl⟩) rfl hl.1 rfl (Nat.le_of_ble_eq_true rfl) dX11_follow_54 ⟨Nat.zero_le _, Nat.zero_le _⟩ (fun H locs Z => ?_)
    have hy := Option.some.inj h
    subst hy
    exact g_rv S Z hr hlocks dX11_follow_57
  refine lv_if_eq (tgt := 47) hx hb dX11_follow_13 (by decide) (fun c7 => ?_) (fun c7 => ?_)
  · have h := if_t c7 h
    exact hJ47 M _ _ _ Z (lv_sub hl [1, 2, 3] rfl) h
  · have h := if_f c7 h
    refine lv_aload_n hx hb dX11_follow_16 rfl (lv_at hl 1 rfl) ?_
    refine lv_aload_n hx hb dX11_follow_17 rfl (lv_at hl 1 rfl) ?_
    refine mr_keptVector S X Z hin hl_74 dX11_follow_18 ?_
    refine lv_iload_n hx hb dX11_follow_21 rfl (lv_at hl 0 rfl) ?_
    refine lv_aload_n hx hb dX11_follow_22 rfl (lv_at hl 1 rfl) ?_
    refine mr_set S X Z hin hl_289 dX11_follow_23 h (fun v8 h => ?_)
    refine lv_iload_n hx hb dX11_follow_26 rfl (lv_at hl 3 rfl) ?_
    obtain ⟨M10, hc9, h⟩ := o1_e h
    refine g_Vv (As := [.ref (A m_keptVector), .int x1, .int v8, .int a2]) (rest := []) S X Z mlv_o rfl rfl (t_X11_count l D dA A hJ ⟨ml_keptVector, rfl⟩ hc9) (cwV 4 hts (mGV (mB 193 rfl) (mB 194 rfl) (mB 195 rfl) (mB 63 rfl) (mB 101 rfl)) rfl rfl rfl (by decide +kernel) ⟨Nat.le_of_ble_eq_true rfl, Nat.le_of_ble_eq_true rfl⟩) rfl hl.1 rfl (Nat.le_of_ble_eq_true rfl) dX11_follow_27 ⟨Nat.zero_le _, Nat.zero_le _⟩ (fun H locs Z => ?_)
    refine lv_aload_n hx hb dX11_follow_30 rfl (lv_at hl 1 rfl) ?_
    refine mr_promised S X Z hin hl_77 dX11_follow_31 ?_
    refine lv_iload_n hx hb dX11_follow_34 rfl (lv_at hl 0 rfl) ?_
    refine lv_aload_n hx hb dX11_follow_35 rfl (lv_at hl 1 rfl) ?_
    refine mr_set S X Z hin hl_289 dX11_follow_36 h (fun v11 h => ?_)
    refine lv_aload_n hx hb dX11_follow_39 rfl (lv_at hl 1 rfl) ?_
    refine mr_setLost S X Z hin hl_286 dX11_follow_40 h (fun v12 h => ?_)
    refine lv_iconst (v := (-1 : Int32)) hx hb dX11_follow_43 (by decide) ?_
    refine lv_ixor hx hb dX11_follow_44 ?_
    refine lv_iand hx hb dX11_follow_45 ?_
    refine g_iast S X Z ml_promised rfl dX11_follow_46 h (fun M13 H locs Z h => ?_)
    exact hJ47 M13 _ _ _ Z (lv_sub hl [1, 2, 3] rfl) h
-- X11_recordOf (III)I: 34 instructions
theorem dX11_recordOf_0 : decode cX11_recordOf 0 = .ok (.iconst 0, 1) := by decide +kernel
theorem dX11_recordOf_1 : decode cX11_recordOf 1 = .ok (.istore 4, 2) := by decide +kernel
theorem dX11_recordOf_3 : decode cX11_recordOf 3 = .ok (.iload 4, 2) := by decide +kernel
theorem dX11_recordOf_5 : decode cX11_recordOf 5 = .ok (.aload_n 0, 1) := by decide +kernel
theorem dX11_recordOf_6 : decode cX11_recordOf 6 = .ok (.getfield 98, 3) := by decide +kernel
theorem dX11_recordOf_9 : decode cX11_recordOf 9 = .ok (.iload_n 1, 1) := by decide +kernel
theorem dX11_recordOf_10 : decode cX11_recordOf 10 = .ok (.iaload, 1) := by decide +kernel
theorem dX11_recordOf_11 : decode cX11_recordOf 11 = .ok (.if_icmp .ge 44, 3) := by decide +kernel
theorem dX11_recordOf_14 : decode cX11_recordOf 14 = .ok (.aload_n 0, 1) := by decide +kernel
theorem dX11_recordOf_15 : decode cX11_recordOf 15 = .ok (.getfield 101, 3) := by decide +kernel
theorem dX11_recordOf_18 : decode cX11_recordOf 18 = .ok (.bipush 12, 2) := by decide +kernel
theorem dX11_recordOf_20 : decode cX11_recordOf 20 = .ok (.iload_n 1, 1) := by decide +kernel
theorem dX11_recordOf_21 : decode cX11_recordOf 21 = .ok (.imul, 1) := by decide +kernel
theorem dX11_recordOf_22 : decode cX11_recordOf 22 = .ok (.iload 4, 2) := by decide +kernel
theorem dX11_recordOf_24 : decode cX11_recordOf 24 = .ok (.iadd, 1) := by decide +kernel
theorem dX11_recordOf_25 : decode cX11_recordOf 25 = .ok (.iaload, 1) := by decide +kernel
theorem dX11_recordOf_26 : decode cX11_recordOf 26 = .ok (.iload_n 2, 1) := by decide +kernel
theorem dX11_recordOf_27 : decode cX11_recordOf 27 = .ok (.if_icmp .ne 22, 3) := by decide +kernel
theorem dX11_recordOf_30 : decode cX11_recordOf 30 = .ok (.aload_n 0, 1) := by decide +kernel
theorem dX11_recordOf_31 : decode cX11_recordOf 31 = .ok (.getfield 104, 3) := by decide +kernel
theorem dX11_recordOf_34 : decode cX11_recordOf 34 = .ok (.bipush 12, 2) := by decide +kernel
theorem dX11_recordOf_36 : decode cX11_recordOf 36 = .ok (.iload_n 1, 1) := by decide +kernel
theorem dX11_recordOf_37 : decode cX11_recordOf 37 = .ok (.imul, 1) := by decide +kernel
theorem dX11_recordOf_38 : decode cX11_recordOf 38 = .ok (.iload 4, 2) := by decide +kernel
theorem dX11_recordOf_40 : decode cX11_recordOf 40 = .ok (.iadd, 1) := by decide +kernel
theorem dX11_recordOf_41 : decode cX11_recordOf 41 = .ok (.iaload, 1) := by decide +kernel
theorem dX11_recordOf_42 : decode cX11_recordOf 42 = .ok (.iload_n 3, 1) := by decide +kernel
theorem dX11_recordOf_43 : decode cX11_recordOf 43 = .ok (.if_icmp .ne 6, 3) := by decide +kernel
theorem dX11_recordOf_46 : decode cX11_recordOf 46 = .ok (.iload 4, 2) := by decide +kernel
theorem dX11_recordOf_48 : decode cX11_recordOf 48 = .ok (.ireturn, 1) := by decide +kernel
theorem dX11_recordOf_49 : decode cX11_recordOf 49 = .ok (.iinc 4 1, 3) := by decide +kernel
theorem dX11_recordOf_52 : decode cX11_recordOf 52 = .ok (.goto (-49), 3) := by decide +kernel
theorem dX11_recordOf_55 : decode cX11_recordOf 55 = .ok (.iconst (-1), 1) := by decide +kernel
theorem dX11_recordOf_56 : decode cX11_recordOf 56 = .ok (.ireturn, 1) := by decide +kernel
abbrev wmX11_recordOf : List Cond := .code yX11_recordOf cX11_recordOf 5 (some .int) :: mBig
def f_X11_recordOf_L3 (M2 : gM) (a1 : Int32) (a2 : Int32) (a3 : Int32) : Nat → Int32 → Option Int32
  | 0, _ => none
  | n3 + 1, x1 => rd M2 m_records 4 a1 (fun v4 => (if v4 ≤ x1 then some (-1 : Int32) else rd M2 m_recordKind 48 (((12 : Int32) * a1) + x1) (fun v6 => jn (fun (_ : Unit) => lt (x1 + 1) (fun x7 => f_X11_recordOf_L3 M2 a1 a2 a3 n3 x7)) (fun J49 => (if v6 = a2 then rd M2 m_recordObject 48 (((12 : Int32) * a1) + x1) (fun v9 => (if v9 = a3 then some x1 else J49 ())) else J49 ())))))
def f_X11_recordOf (M : gM) (a1 : Int32) (a2 : Int32) (a3 : Int32) : Option Int32 :=
  f_X11_recordOf_L3 M a1 a2 a3 100 (0 : Int32)
set_option maxHeartbeats 4000000 in
set_option maxRecDepth 100000 in
theorem t_X11_recordOf (l : Launch) (D : va_G) (dA : Nat → ClassId) (A : gI → Nat) (hJ : gJ mLive A) {M : gM} {a1 : Int32} {a2 : Int32} {a3 : Int32}  {y : Int32} (h : f_X11_recordOf M a1 a2 a3 = some y) : mMi l yX11_recordOf wmX11_recordOf ({ frames := 0, cells := 0, slots := 0, locals := 0 } : Room) D dA A [.ref (A m_o), .int a1, .int a2, .int a3] M y M := by
  refine Met.ofW (cc := cX11_recordOf) (maxL := 5) (ret := (some .int)) (by decide) rfl ?_
  intro p e s m args below meth c s₁ B hml hv
  obtain ⟨rfl, hP, hK⟩ := hv
  generalize hargs : ([.ref (A m_o), .int a1, .int a2, .int a3] : List Value).toArray = args at B ⊢
  have S : CallFix p m c cX11_recordOf 5 s args wmX11_recordOf RX11 := ⟨B.exec, B.bytes, hml, findClass_of_methodNamed B.named, atoms_spec (ws := wmX11_recordOf) B.pre⟩
  obtain ⟨hx, hb, -, hown, hts⟩ := id S
  have hr := B.returns
  have hlocks := B.notSynchronized
  have X : gX D vwCl dA mLive A (gA mLive A) s := ⟨hK, hJ, fun i hi => ⟨i, hi, rfl⟩⟩
  have Z : gZ D mLay dA mLive A (gA mLive A) s.heap M s.heap [] := ⟨hP, va_S.rf⟩
  have hin : ∀ w ∈ wsX110, w ∈ wmX11_recordOf := m_in
  have hl_98 := hts (.fieldLink RX11 98 "ReplicaFilesModel" "records" "[I") (mBc 34 rfl)
  have hl_101 := hts (.fieldLink RX11 101 "ReplicaFilesModel" "recordKind" "[I") (mBc 35 rfl)
  have hl_104 := hts (.fieldLink RX11 104 "ReplicaFilesModel" "recordObject" "[I") (mBc 36 rfl)
  have hl := lv_entry ([.ref (A m_o), .int a1, .int a2, .int a3]) (n := 5) (Nat.le_of_ble_eq_true rfl)
  rw [← hargs, lg_entry_eq, hargs]
  generalize (lg_sl ([.ref (A m_o), .int a1, .int a2, .int a3]) ++ List.replicate (5 - (lg_sl ([.ref (A m_o), .int a1, .int a2, .int a3])).length) Slot.unset).toArray = ls at hl ⊢
  have hl : lv_has ls 5 [(0, .ref (A m_o)), (1, .int a1), (2, .int a2), (3, .int a3)] := hl
  unfold f_X11_recordOf at h
  refine lv_iconst (v := (0 : Int32)) hx hb dX11_recordOf_0 (by decide) ?_
  refine lv_istore (lv' := [(4, .int (0 : Int32)), (0, .ref (A m_o)), (1, .int a1), (2, .int a2), (3, .int a3)]) hx hb dX11_recordOf_1 hl (by decide) rfl (fun ls hl => ?_)
  have hL3 : ∀ (n : Nat) (x1 : Int32) (H : Heap) (locs : List Loc) (ls : Array Slot), gZ D mLay dA mLive A (gA mLive A) s.heap M H locs → lv_has ls 5 [(0, .ref (A m_o)), (1, .int a1), (2, .int a2), (3, .int a3), (4, .int x1)] → f_X11_recordOf_L3 M a1 a2 a3 n x1 = some y → W p l e (headSpec wmX11_recordOf ({ frames := 0, cells := 0, slots := 0, locals := 0 } : Room)).room s m args below meth c H locs 0 0 (MQ below (mQi D dA A (y, M)) args s 0 0 (gA mLive A)) (F0 m 3 ls []) := by
    intro n
    induction n with
    | zero =>
      intro x1 H locs ls Z hl h
      rw [f_X11_recordOf_L3] at h
      cases h
    | succ n3 ih3 =>
      intro x1 H locs ls Z hl h
      rw [f_X11_recordOf_L3] at h
      refine lv_iload hx hb dX11_recordOf_3 (lv_at hl 4 rfl) ?_
      refine lv_aload_n hx hb dX11_recordOf_5 rfl (lv_at hl 0 rfl) ?_
      refine mr_records S X Z hin hl_98 dX11_recordOf_6 ?_
      refine lv_iload_n hx hb dX11_recordOf_9 rfl (lv_at hl 1 rfl) ?_
      refine g_iald S X Z ml_records rfl dX11_recordOf_10 h (fun v4 h => ?_)
      refine lv_icmp_ge (tgt := 55) hx hb dX11_recordOf_11 (by decide) (fun c5 => ?_) (fun c5 => ?_)
      · have h := if_t c5 h
        refine lv_iconst (v := (-1 : Int32)) hx hb dX11_recordOf_55 (by decide) ?_
        have hy := Option.some.inj h
        subst hy
        exact g_ri S Z hr hlocks dX11_recordOf_56
      · have h := if_f c5 h
        refine lv_aload_n hx hb dX11_recordOf_14 rfl (lv_at hl 0 rfl) ?_
        refine mr_recordKind S X Z hin hl_101 dX11_recordOf_15 ?_
        refine lv_bipush (v := (12 : Int32)) hx hb dX11_recordOf_18 (by decide) ?_
        refine lv_iload_n hx hb dX11_recordOf_20 rfl (lv_at hl 1 rfl) ?_
        refine lv_imul hx hb dX11_recordOf_21 ?_
        refine lv_iload hx hb dX11_recordOf_22 (lv_at hl 4 rfl) ?_
        refine lv_iadd hx hb dX11_recordOf_24 ?_
        refine g_iald S X Z ml_recordKind rfl dX11_recordOf_25 h (fun v6 h => ?_)
        refine lv_iload_n hx hb dX11_recordOf_26 rfl (lv_at hl 2 rfl) ?_
        obtain ⟨J49, eJ49, h⟩ := jn_e h
        have hJ49 : ∀  (H : Heap) (locs : List Loc) (ls : Array Slot), gZ D mLay dA mLive A (gA mLive A) s.heap M H locs → lv_has ls 5 [(0, .ref (A m_o)), (1, .int a1), (2, .int a2), (3, .int a3), (4, .int x1)] → J49 () = some y → W p l e (headSpec wmX11_recordOf ({ frames := 0, cells := 0, slots := 0, locals := 0 } : Room)).room s m args below meth c H locs 0 0 (MQ below (mQi D dA A (y, M)) args s 0 0 (gA mLive A)) (F0 m 49 ls []) := by
          intro  H locs ls Z hl h
          rw [eJ49] at h
          try dsimp only at h
          obtain ⟨x7, ex7, h⟩ := lt_e h
          refine lv_iinc (v := x7) (lv' := [(4, .int x7), (0, .ref (A m_o)), (1, .int a1), (2, .int a2), (3, .int a3)]) hx hb dX11_recordOf_49 hl (k := 4) rfl (by rw [ex7]; rfl) (by decide) rfl (fun ls hl => ?_)
          refine lv_goto (tgt := 3) hx hb dX11_recordOf_52 (by decide) ?_
          exact ih3 x7 _ _ _ Z (lv_sub hl [1, 2, 3, 4, 0] rfl) h
        refine lv_icmp_ne (tgt := 49) hx hb dX11_recordOf_27 (by decide) (fun c8 => ?_) (fun c8 => ?_)
        · have h := if_f c8 h
          exact hJ49  _ _ _ Z (lv_sub hl [0, 1, 2, 3, 4] rfl) h
        · have h := if_t c8 h
          refine lv_aload_n hx hb dX11_recordOf_30 rfl (lv_at hl 0 rfl) ?_
          refine mr_recordObject S X Z hin hl_104 dX11_recordOf_31 ?_
          refine lv_bipush (v := (12 : Int32)) hx hb dX11_recordOf_34 (by decide) ?_
          refine lv_iload_n hx hb dX11_recordOf_36 rfl (lv_at hl 1 rfl) ?_
          refine lv_imul hx hb dX11_recordOf_37 ?_
          refine lv_iload hx hb dX11_recordOf_38 (lv_at hl 4 rfl) ?_
          refine lv_iadd hx hb dX11_recordOf_40 ?_
          refine g_iald S X Z ml_recordObject rfl dX11_recordOf_41 h (fun v9 h => ?_)
          refine lv_iload_n hx hb dX11_recordOf_42 rfl (lv_at hl 3 rfl) ?_
          refine lv_icmp_ne (tgt := 49) hx hb dX11_recordOf_43 (by decide) (fun c10 => ?_) (fun c10 => ?_)
          · have h := if_f c10 h
            exact hJ49  _ _ _ Z (lv_sub hl [0, 1, 2, 3, 4] rfl) h
          · have h := if_t c10 h
            refine lv_iload hx hb dX11_recordOf_46 (lv_at hl 4 rfl) ?_
            have hy := Option.some.inj h
            subst hy
            exact g_ri S Z hr hlocks dX11_recordOf_48
  exact hL3 100 (0 : Int32) _ _ _ Z (lv_sub hl [1, 2, 3, 4, 0] rfl) h
-- X11_addRecord (IIII)V: 45 instructions
theorem dX11_addRecord_0 : decode cX11_addRecord 0 = .ok (.bipush 12, 2) := by decide +kernel
theorem dX11_addRecord_2 : decode cX11_addRecord 2 = .ok (.iload_n 1, 1) := by decide +kernel
theorem dX11_addRecord_3 : decode cX11_addRecord 3 = .ok (.imul, 1) := by decide +kernel
theorem dX11_addRecord_4 : decode cX11_addRecord 4 = .ok (.aload_n 0, 1) := by decide +kernel
theorem dX11_addRecord_5 : decode cX11_addRecord 5 = .ok (.getfield 98, 3) := by decide +kernel
theorem dX11_addRecord_8 : decode cX11_addRecord 8 = .ok (.iload_n 1, 1) := by decide +kernel
theorem dX11_addRecord_9 : decode cX11_addRecord 9 = .ok (.iaload, 1) := by decide +kernel
theorem dX11_addRecord_10 : decode cX11_addRecord 10 = .ok (.iadd, 1) := by decide +kernel
theorem dX11_addRecord_11 : decode cX11_addRecord 11 = .ok (.istore 5, 2) := by decide +kernel
theorem dX11_addRecord_13 : decode cX11_addRecord 13 = .ok (.aload_n 0, 1) := by decide +kernel
theorem dX11_addRecord_14 : decode cX11_addRecord 14 = .ok (.getfield 101, 3) := by decide +kernel
theorem dX11_addRecord_17 : decode cX11_addRecord 17 = .ok (.iload 5, 2) := by decide +kernel
theorem dX11_addRecord_19 : decode cX11_addRecord 19 = .ok (.iload_n 2, 1) := by decide +kernel
theorem dX11_addRecord_20 : decode cX11_addRecord 20 = .ok (.iastore, 1) := by decide +kernel
theorem dX11_addRecord_21 : decode cX11_addRecord 21 = .ok (.aload_n 0, 1) := by decide +kernel
theorem dX11_addRecord_22 : decode cX11_addRecord 22 = .ok (.getfield 104, 3) := by decide +kernel
theorem dX11_addRecord_25 : decode cX11_addRecord 25 = .ok (.iload 5, 2) := by decide +kernel
theorem dX11_addRecord_27 : decode cX11_addRecord 27 = .ok (.iload_n 3, 1) := by decide +kernel
theorem dX11_addRecord_28 : decode cX11_addRecord 28 = .ok (.iastore, 1) := by decide +kernel
theorem dX11_addRecord_29 : decode cX11_addRecord 29 = .ok (.aload_n 0, 1) := by decide +kernel
theorem dX11_addRecord_30 : decode cX11_addRecord 30 = .ok (.getfield 107, 3) := by decide +kernel
theorem dX11_addRecord_33 : decode cX11_addRecord 33 = .ok (.iload 5, 2) := by decide +kernel
theorem dX11_addRecord_35 : decode cX11_addRecord 35 = .ok (.iload 4, 2) := by decide +kernel
theorem dX11_addRecord_37 : decode cX11_addRecord 37 = .ok (.iastore, 1) := by decide +kernel
theorem dX11_addRecord_38 : decode cX11_addRecord 38 = .ok (.aload_n 0, 1) := by decide +kernel
theorem dX11_addRecord_39 : decode cX11_addRecord 39 = .ok (.aload_n 0, 1) := by decide +kernel
theorem dX11_addRecord_40 : decode cX11_addRecord 40 = .ok (.getfield 74, 3) := by decide +kernel
theorem dX11_addRecord_43 : decode cX11_addRecord 43 = .ok (.bipush 48, 2) := by decide +kernel
theorem dX11_addRecord_45 : decode cX11_addRecord 45 = .ok (.iload_n 1, 1) := by decide +kernel
theorem dX11_addRecord_46 : decode cX11_addRecord 46 = .ok (.imul, 1) := by decide +kernel
theorem dX11_addRecord_47 : decode cX11_addRecord 47 = .ok (.iload_n 3, 1) := by decide +kernel
theorem dX11_addRecord_48 : decode cX11_addRecord 48 = .ok (.iadd, 1) := by decide +kernel
theorem dX11_addRecord_49 : decode cX11_addRecord 49 = .ok (.aload_n 0, 1) := by decide +kernel
theorem dX11_addRecord_50 : decode cX11_addRecord 50 = .ok (.getfield 110, 3) := by decide +kernel
theorem dX11_addRecord_53 : decode cX11_addRecord 53 = .ok (.iload 5, 2) := by decide +kernel
theorem dX11_addRecord_55 : decode cX11_addRecord 55 = .ok (.invokevirtual 234, 3) := by decide +kernel
theorem dX11_addRecord_58 : decode cX11_addRecord 58 = .ok (.aload_n 0, 1) := by decide +kernel
theorem dX11_addRecord_59 : decode cX11_addRecord 59 = .ok (.getfield 98, 3) := by decide +kernel
theorem dX11_addRecord_62 : decode cX11_addRecord 62 = .ok (.iload_n 1, 1) := by decide +kernel
theorem dX11_addRecord_63 : decode cX11_addRecord 63 = .ok (.dup2, 1) := by decide +kernel
theorem dX11_addRecord_64 : decode cX11_addRecord 64 = .ok (.iaload, 1) := by decide +kernel
theorem dX11_addRecord_65 : decode cX11_addRecord 65 = .ok (.iconst 1, 1) := by decide +kernel
theorem dX11_addRecord_66 : decode cX11_addRecord 66 = .ok (.iadd, 1) := by decide +kernel
theorem dX11_addRecord_67 : decode cX11_addRecord 67 = .ok (.iastore, 1) := by decide +kernel
theorem dX11_addRecord_68 : decode cX11_addRecord 68 = .ok (.return_, 1) := by decide +kernel
abbrev wmX11_addRecord : List Cond := .code yX11_addRecord cX11_addRecord 6 none :: mBig
def f_X11_addRecord (M : gM) (a1 : Int32) (a2 : Int32) (a3 : Int32) (a4 : Int32) : Option gM :=
  rd M m_records 4 a1 (fun v1 => lt ((((12 : Int32) * a1) + v1)) (fun x2 => wr M m_recordKind 48 x2 a2 (fun M3 => wr M3 m_recordObject 48 x2 a3 (fun M4 => wr M4 m_recordDirectory 48 x2 a4 (fun M5 => o1 (f_X11_copyTo M5 m_keptVector (((48 : Int32) * a1) + a3) m_recordVector x2) (fun M7 => rd M7 m_records 4 a1 (fun v8 => wr M7 m_records 4 a1 (v8 + (1 : Int32)) (fun M9 => some M9))))))))
set_option maxHeartbeats 4000000 in
set_option maxRecDepth 100000 in
theorem t_X11_addRecord (l : Launch) (D : va_G) (dA : Nat → ClassId) (A : gI → Nat) (hJ : gJ mLive A) {M : gM} {a1 : Int32} {a2 : Int32} {a3 : Int32} {a4 : Int32}  {y : gM} (h : f_X11_addRecord M a1 a2 a3 a4 = some y) : mMv l yX11_addRecord wmX11_addRecord ({ frames := 1, cells := 0, slots := 0, locals := 25 } : Room) D dA A [.ref (A m_o), .int a1, .int a2, .int a3, .int a4] M y := by
  refine Met.ofW (cc := cX11_addRecord) (maxL := 6) (ret := none) (by decide) rfl ?_
  intro p e s m args below meth c s₁ B hml hv
  obtain ⟨rfl, hP, hK⟩ := hv
  generalize hargs : ([.ref (A m_o), .int a1, .int a2, .int a3, .int a4] : List Value).toArray = args at B ⊢
  have S : CallFix p m c cX11_addRecord 6 s args wmX11_addRecord RX11 := ⟨B.exec, B.bytes, hml, findClass_of_methodNamed B.named, atoms_spec (ws := wmX11_addRecord) B.pre⟩
  obtain ⟨hx, hb, -, hown, hts⟩ := id S
  have hr := B.returns
  have hlocks := B.notSynchronized
  have X : gX D vwCl dA mLive A (gA mLive A) s := ⟨hK, hJ, fun i hi => ⟨i, hi, rfl⟩⟩
  have Z : gZ D mLay dA mLive A (gA mLive A) s.heap M s.heap [] := ⟨hP, va_S.rf⟩
  have hin : ∀ w ∈ wsX110, w ∈ wmX11_addRecord := m_in
  have hl_74 := hts (.fieldLink RX11 74 "ReplicaFilesModel" "keptVector" "[I") (mBc 26 rfl)
  have hl_98 := hts (.fieldLink RX11 98 "ReplicaFilesModel" "records" "[I") (mBc 34 rfl)
  have hl_101 := hts (.fieldLink RX11 101 "ReplicaFilesModel" "recordKind" "[I") (mBc 35 rfl)
  have hl_104 := hts (.fieldLink RX11 104 "ReplicaFilesModel" "recordObject" "[I") (mBc 36 rfl)
  have hl_107 := hts (.fieldLink RX11 107 "ReplicaFilesModel" "recordDirectory" "[I") (mBc 37 rfl)
  have hl_110 := hts (.fieldLink RX11 110 "ReplicaFilesModel" "recordVector" "[I") (mBc 38 rfl)
  have hl := lv_entry ([.ref (A m_o), .int a1, .int a2, .int a3, .int a4]) (n := 6) (Nat.le_of_ble_eq_true rfl)
  rw [← hargs, lg_entry_eq, hargs]
  generalize (lg_sl ([.ref (A m_o), .int a1, .int a2, .int a3, .int a4]) ++ List.replicate (6 - (lg_sl ([.ref (A m_o), .int a1, .int a2, .int a3, .int a4])).length) Slot.unset).toArray = ls at hl ⊢
  have hl : lv_has ls 6 [(0, .ref (A m_o)), (1, .int a1), (2, .int a2), (3, .int a3), (4, .int a4)] := hl
  unfold f_X11_addRecord at h
  refine lv_bipush (v := (12 : Int32)) hx hb dX11_addRecord_0 (by decide) ?_
  refine lv_iload_n hx hb dX11_addRecord_2 rfl (lv_at hl 1 rfl) ?_
  refine lv_imul hx hb dX11_addRecord_3 ?_
  refine lv_aload_n hx hb dX11_addRecord_4 rfl (lv_at hl 0 rfl) ?_
  refine mr_records S X Z hin hl_98 dX11_addRecord_5 ?_
  refine lv_iload_n hx hb dX11_addRecord_8 rfl (lv_at hl 1 rfl) ?_
  refine g_iald S X Z ml_records rfl dX11_addRecord_9 h (fun v1 h => ?_)
  refine lv_iadd hx hb dX11_addRecord_10 ?_
  refine g_topi h (fun x2 h => ?_)
  refine lv_istore (lv' := [(5, .int x2), (0, .ref (A m_o)), (1, .int a1), (2, .int a2), (3, .int a3), (4, .int a4)]) hx hb dX11_addRecord_11 hl (by decide) rfl (fun ls hl => ?_)
  refine lv_aload_n hx hb dX11_addRecord_13 rfl (lv_at hl 1 rfl) ?_
  refine mr_recordKind S X Z hin hl_101 dX11_addRecord_14 ?_
  refine lv_iload hx hb dX11_addRecord_17 (lv_at hl 0 rfl) ?_
  refine lv_iload_n hx hb dX11_addRecord_19 rfl (lv_at hl 3 rfl) ?_
  refine g_iast S X Z ml_recordKind rfl dX11_addRecord_20 h (fun M3 H locs Z h => ?_)
  refine lv_aload_n hx hb dX11_addRecord_21 rfl (lv_at hl 1 rfl) ?_
  refine mr_recordObject S X Z hin hl_104 dX11_addRecord_22 ?_
  refine lv_iload hx hb dX11_addRecord_25 (lv_at hl 0 rfl) ?_
  refine lv_iload_n hx hb dX11_addRecord_27 rfl (lv_at hl 4 rfl) ?_
  refine g_iast S X Z ml_recordObject rfl dX11_addRecord_28 h (fun M4 H locs Z h => ?_)
  refine lv_aload_n hx hb dX11_addRecord_29 rfl (lv_at hl 1 rfl) ?_
  refine mr_recordDirectory S X Z hin hl_107 dX11_addRecord_30 ?_
  refine lv_iload hx hb dX11_addRecord_33 (lv_at hl 0 rfl) ?_
  refine lv_iload hx hb dX11_addRecord_35 (lv_at hl 5 rfl) ?_
  refine g_iast S X Z ml_recordDirectory rfl dX11_addRecord_37 h (fun M5 H locs Z h => ?_)
  refine lv_aload_n hx hb dX11_addRecord_38 rfl (lv_at hl 1 rfl) ?_
  refine lv_aload_n hx hb dX11_addRecord_39 rfl (lv_at hl 1 rfl) ?_
  refine mr_keptVector S X Z hin hl_74 dX11_addRecord_40 ?_
  refine lv_bipush (v := (48 : Int32)) hx hb dX11_addRecord_43 (by decide) ?_
  refine lv_iload_n hx hb dX11_addRecord_45 rfl (lv_at hl 2 rfl) ?_
  refine lv_imul hx hb dX11_addRecord_46 ?_
  refine lv_iload_n hx hb dX11_addRecord_47 rfl (lv_at hl 4 rfl) ?_
  refine lv_iadd hx hb dX11_addRecord_48 ?_
  refine lv_aload_n hx hb dX11_addRecord_49 rfl (lv_at hl 1 rfl) ?_
  refine mr_recordVector S X Z hin hl_110 dX11_addRecord_50 ?_
  refine lv_iload hx hb dX11_addRecord_53 (lv_at hl 0 rfl) ?_
  obtain ⟨M7, hc6, h⟩ := o1_e h
  refine g_Vv (As := [.ref (A m_keptVector), .int (((48 : Int32) * a1) + a3), .ref (A m_recordVector), .int x2]) (rest := []) S X Z mlv_o rfl rfl (t_X11_copyTo l D dA A hJ ⟨ml_keptVector, rfl⟩ ⟨ml_recordVector, rfl⟩ hc6) (cwV 4 hts (mGV (mB 139 rfl) (mB 140 rfl) (mB 141 rfl) (mB 63 rfl) (mB 97 rfl)) rfl rfl rfl (by decide +kernel) ⟨Nat.le_of_ble_eq_true rfl, Nat.le_of_ble_eq_true rfl⟩) rfl hl.1 rfl (Nat.le_of_ble_eq_true rfl) dX11_addRecord_55 ⟨Nat.zero_le _, Nat.zero_le _⟩ (fun H locs Z => ?_)
  refine lv_aload_n hx hb dX11_addRecord_58 rfl (lv_at hl 1 rfl) ?_
  refine mr_records S X Z hin hl_98 dX11_addRecord_59 ?_
  refine lv_iload_n hx hb dX11_addRecord_62 rfl (lv_at hl 2 rfl) ?_
  refine lv_dup2_11 hx hb dX11_addRecord_63 rfl rfl ?_
  refine g_iald S X Z ml_records rfl dX11_addRecord_64 h (fun v8 h => ?_)
  refine lv_iconst (v := (1 : Int32)) hx hb dX11_addRecord_65 (by decide) ?_
  refine lv_iadd hx hb dX11_addRecord_66 ?_
  refine g_iast S X Z ml_records rfl dX11_addRecord_67 h (fun M9 H locs Z h => ?_)
  have hy := Option.some.inj h
  subst hy
  exact g_rv S Z hr hlocks dX11_addRecord_68
-- X11_writeAlone (IIII)J: 81 instructions
theorem dX11_writeAlone_0 : decode cX11_writeAlone 0 = .ok (.aload_n 0, 1) := by decide +kernel
theorem dX11_writeAlone_1 : decode cX11_writeAlone 1 = .ok (.iload_n 1, 1) := by decide +kernel
theorem dX11_writeAlone_2 : decode cX11_writeAlone 2 = .ok (.iload_n 2, 1) := by decide +kernel
theorem dX11_writeAlone_3 : decode cX11_writeAlone 3 = .ok (.bipush 10, 2) := by decide +kernel
theorem dX11_writeAlone_5 : decode cX11_writeAlone 5 = .ok (.invokevirtual 282, 3) := by decide +kernel
theorem dX11_writeAlone_8 : decode cX11_writeAlone 8 = .ok (.lstore 5, 2) := by decide +kernel
theorem dX11_writeAlone_10 : decode cX11_writeAlone 10 = .ok (.lload 5, 2) := by decide +kernel
theorem dX11_writeAlone_12 : decode cX11_writeAlone 12 = .ok (.lconst 0, 1) := by decide +kernel
theorem dX11_writeAlone_13 : decode cX11_writeAlone 13 = .ok (.lcmp, 1) := by decide +kernel
theorem dX11_writeAlone_14 : decode cX11_writeAlone 14 = .ok (.ifCond .eq 6, 3) := by decide +kernel
theorem dX11_writeAlone_17 : decode cX11_writeAlone 17 = .ok (.lload 5, 2) := by decide +kernel
theorem dX11_writeAlone_19 : decode cX11_writeAlone 19 = .ok (.lreturn, 1) := by decide +kernel
theorem dX11_writeAlone_20 : decode cX11_writeAlone 20 = .ok (.aload_n 0, 1) := by decide +kernel
theorem dX11_writeAlone_21 : decode cX11_writeAlone 21 = .ok (.iload_n 1, 1) := by decide +kernel
theorem dX11_writeAlone_22 : decode cX11_writeAlone 22 = .ok (.iconst 0, 1) := by decide +kernel
theorem dX11_writeAlone_23 : decode cX11_writeAlone 23 = .ok (.iload_n 2, 1) := by decide +kernel
theorem dX11_writeAlone_24 : decode cX11_writeAlone 24 = .ok (.invokevirtual 358, 3) := by decide +kernel
theorem dX11_writeAlone_27 : decode cX11_writeAlone 27 = .ok (.iconst (-1), 1) := by decide +kernel
theorem dX11_writeAlone_28 : decode cX11_writeAlone 28 = .ok (.if_icmp .ne 7, 3) := by decide +kernel
theorem dX11_writeAlone_31 : decode cX11_writeAlone 31 = .ok (.iconst 1, 1) := by decide +kernel
theorem dX11_writeAlone_32 : decode cX11_writeAlone 32 = .ok (.goto 4, 3) := by decide +kernel
theorem dX11_writeAlone_35 : decode cX11_writeAlone 35 = .ok (.iconst 0, 1) := by decide +kernel
theorem dX11_writeAlone_36 : decode cX11_writeAlone 36 = .ok (.istore 7, 2) := by decide +kernel
theorem dX11_writeAlone_38 : decode cX11_writeAlone 38 = .ok (.iload 7, 2) := by decide +kernel
theorem dX11_writeAlone_40 : decode cX11_writeAlone 40 = .ok (.ifCond .eq 18, 3) := by decide +kernel
theorem dX11_writeAlone_43 : decode cX11_writeAlone 43 = .ok (.aload_n 0, 1) := by decide +kernel
theorem dX11_writeAlone_44 : decode cX11_writeAlone 44 = .ok (.getfield 98, 3) := by decide +kernel
theorem dX11_writeAlone_47 : decode cX11_writeAlone 47 = .ok (.iload_n 1, 1) := by decide +kernel
theorem dX11_writeAlone_48 : decode cX11_writeAlone 48 = .ok (.iaload, 1) := by decide +kernel
theorem dX11_writeAlone_49 : decode cX11_writeAlone 49 = .ok (.bipush 12, 2) := by decide +kernel
theorem dX11_writeAlone_51 : decode cX11_writeAlone 51 = .ok (.if_icmp .ne 7, 3) := by decide +kernel
theorem dX11_writeAlone_54 : decode cX11_writeAlone 54 = .ok (.ldc2_w 336, 3) := by decide +kernel
theorem dX11_writeAlone_57 : decode cX11_writeAlone 57 = .ok (.lreturn, 1) := by decide +kernel
theorem dX11_writeAlone_58 : decode cX11_writeAlone 58 = .ok (.aload_n 0, 1) := by decide +kernel
theorem dX11_writeAlone_59 : decode cX11_writeAlone 59 = .ok (.iload_n 1, 1) := by decide +kernel
theorem dX11_writeAlone_60 : decode cX11_writeAlone 60 = .ok (.aload_n 0, 1) := by decide +kernel
theorem dX11_writeAlone_61 : decode cX11_writeAlone 61 = .ok (.iload_n 2, 1) := by decide +kernel
theorem dX11_writeAlone_62 : decode cX11_writeAlone 62 = .ok (.iload 4, 2) := by decide +kernel
theorem dX11_writeAlone_64 : decode cX11_writeAlone 64 = .ok (.invokevirtual 204, 3) := by decide +kernel
theorem dX11_writeAlone_67 : decode cX11_writeAlone 67 = .ok (.aload_n 0, 1) := by decide +kernel
theorem dX11_writeAlone_68 : decode cX11_writeAlone 68 = .ok (.iload_n 1, 1) := by decide +kernel
theorem dX11_writeAlone_69 : decode cX11_writeAlone 69 = .ok (.iload_n 2, 1) := by decide +kernel
theorem dX11_writeAlone_70 : decode cX11_writeAlone 70 = .ok (.invokevirtual 214, 3) := by decide +kernel
theorem dX11_writeAlone_73 : decode cX11_writeAlone 73 = .ok (.isub, 1) := by decide +kernel
theorem dX11_writeAlone_74 : decode cX11_writeAlone 74 = .ok (.iload_n 2, 1) := by decide +kernel
theorem dX11_writeAlone_75 : decode cX11_writeAlone 75 = .ok (.bipush 10, 2) := by decide +kernel
theorem dX11_writeAlone_77 : decode cX11_writeAlone 77 = .ok (.invokevirtual 269, 3) := by decide +kernel
theorem dX11_writeAlone_80 : decode cX11_writeAlone 80 = .ok (.ifCond .ne 7, 3) := by decide +kernel
theorem dX11_writeAlone_83 : decode cX11_writeAlone 83 = .ok (.ldc2_w 362, 3) := by decide +kernel
theorem dX11_writeAlone_86 : decode cX11_writeAlone 86 = .ok (.lreturn, 1) := by decide +kernel
theorem dX11_writeAlone_87 : decode cX11_writeAlone 87 = .ok (.bipush 48, 2) := by decide +kernel
theorem dX11_writeAlone_89 : decode cX11_writeAlone 89 = .ok (.iload_n 1, 1) := by decide +kernel
theorem dX11_writeAlone_90 : decode cX11_writeAlone 90 = .ok (.imul, 1) := by decide +kernel
theorem dX11_writeAlone_91 : decode cX11_writeAlone 91 = .ok (.iload_n 2, 1) := by decide +kernel
theorem dX11_writeAlone_92 : decode cX11_writeAlone 92 = .ok (.iadd, 1) := by decide +kernel
theorem dX11_writeAlone_93 : decode cX11_writeAlone 93 = .ok (.istore 8, 2) := by decide +kernel
theorem dX11_writeAlone_95 : decode cX11_writeAlone 95 = .ok (.aload_n 0, 1) := by decide +kernel
theorem dX11_writeAlone_96 : decode cX11_writeAlone 96 = .ok (.getfield 68, 3) := by decide +kernel
theorem dX11_writeAlone_99 : decode cX11_writeAlone 99 = .ok (.iload 8, 2) := by decide +kernel
theorem dX11_writeAlone_101 : decode cX11_writeAlone 101 = .ok (.iload_n 3, 1) := by decide +kernel
theorem dX11_writeAlone_102 : decode cX11_writeAlone 102 = .ok (.iastore, 1) := by decide +kernel
theorem dX11_writeAlone_103 : decode cX11_writeAlone 103 = .ok (.aload_n 0, 1) := by decide +kernel
theorem dX11_writeAlone_104 : decode cX11_writeAlone 104 = .ok (.getfield 71, 3) := by decide +kernel
theorem dX11_writeAlone_107 : decode cX11_writeAlone 107 = .ok (.iload 8, 2) := by decide +kernel
theorem dX11_writeAlone_109 : decode cX11_writeAlone 109 = .ok (.iload 4, 2) := by decide +kernel
theorem dX11_writeAlone_111 : decode cX11_writeAlone 111 = .ok (.iastore, 1) := by decide +kernel
theorem dX11_writeAlone_112 : decode cX11_writeAlone 112 = .ok (.aload_n 0, 1) := by decide +kernel
theorem dX11_writeAlone_113 : decode cX11_writeAlone 113 = .ok (.getfield 80, 3) := by decide +kernel
theorem dX11_writeAlone_116 : decode cX11_writeAlone 116 = .ok (.iload 8, 2) := by decide +kernel
theorem dX11_writeAlone_118 : decode cX11_writeAlone 118 = .ok (.iconst 1, 1) := by decide +kernel
theorem dX11_writeAlone_119 : decode cX11_writeAlone 119 = .ok (.bastore, 1) := by decide +kernel
theorem dX11_writeAlone_120 : decode cX11_writeAlone 120 = .ok (.iload 7, 2) := by decide +kernel
theorem dX11_writeAlone_122 : decode cX11_writeAlone 122 = .ok (.ifCond .eq 11, 3) := by decide +kernel
theorem dX11_writeAlone_125 : decode cX11_writeAlone 125 = .ok (.aload_n 0, 1) := by decide +kernel
theorem dX11_writeAlone_126 : decode cX11_writeAlone 126 = .ok (.iload_n 1, 1) := by decide +kernel
theorem dX11_writeAlone_127 : decode cX11_writeAlone 127 = .ok (.iconst 0, 1) := by decide +kernel
theorem dX11_writeAlone_128 : decode cX11_writeAlone 128 = .ok (.iload_n 2, 1) := by decide +kernel
theorem dX11_writeAlone_129 : decode cX11_writeAlone 129 = .ok (.iconst (-1), 1) := by decide +kernel
theorem dX11_writeAlone_130 : decode cX11_writeAlone 130 = .ok (.invokevirtual 364, 3) := by decide +kernel
theorem dX11_writeAlone_133 : decode cX11_writeAlone 133 = .ok (.lconst 0, 1) := by decide +kernel
theorem dX11_writeAlone_134 : decode cX11_writeAlone 134 = .ok (.lreturn, 1) := by decide +kernel
abbrev wmX11_writeAlone : List Cond := .code yX11_writeAlone cX11_writeAlone 9 (some .long) :: mBig
def f_X11_writeAlone (M : gM) (a1 : Int32) (a2 : Int32) (a3 : Int32) (a4 : Int32) : Option (Int64 × gM) :=
  ob (f_X11_get M a1 a2 (10 : Int32)) (fun v3 M2 => (if (lg_cmp v3 (0 : Int64)) = 0 then o1 (f_X11_recordOf M2 a1 (0 : Int32) a2) (fun v6 => jn (fun (q : (Int32 × gM)) => match q with | (b7, M8) => jn (fun (M9 : gM) => o1 (f_X11_weight M9 a2 a4) (fun v11 => o1 (f_X11_weightKept M9 a1 a2) (fun v13 => ob (f_X11_makeRoom M9 a1 (v11 - v13) a2 (10 : Int32)) (fun v16 M15 => (if v16 = 0 then some ((-2199023255558 : Int64), M15) else lt ((((48 : Int32) * a1) + a2)) (fun x18 => wr M15 m_keptValue 192 x18 a3 (fun M19 => wr M19 m_keptSize 192 x18 a4 (fun M20 => wz M20 m_dirty 192 x18 (1 : Int32) (fun M21 => (if b7 = 0 then some ((0 : Int64), M21) else o1 (f_X11_addRecord M21 a1 (0 : Int32) a2 (-1 : Int32)) (fun M24 => some ((0 : Int64), M24)))))))))))) (fun J58 => (if b7 = 0 then J58 M8 else rd M8 m_records 4 a1 (fun v26 => (if v26 = (12 : Int32) then some ((-2199023255557 : Int64), M8) else J58 M8))))) (fun J36 => (if v6 = (-1 : Int32) then J36 ((1 : Int32), M2) else J36 ((0 : Int32), M2)))) else some (v3, M2)))
set_option maxHeartbeats 4000000 in
set_option maxRecDepth 100000 in
theorem t_X11_writeAlone (l : Launch) (D : va_G) (dA : Nat → ClassId) (A : gI → Nat) (hJ : gJ mLive A) {M : gM} {a1 : Int32} {a2 : Int32} {a3 : Int32} {a4 : Int32}  {y : (Int64 × gM)} (h : f_X11_writeAlone M a1 a2 a3 a4 = some y) : mMl l yX11_writeAlone wmX11_writeAlone ({ frames := 5, cells := 0, slots := 0, locals := 129 } : Room) D dA A [.ref (A m_o), .int a1, .int a2, .int a3, .int a4] M y.1 y.2 := by
  refine Met.ofW (cc := cX11_writeAlone) (maxL := 9) (ret := (some .long)) (by decide) rfl ?_
  intro p e s m args below meth c s₁ B hml hv
  obtain ⟨rfl, hP, hK⟩ := hv
  generalize hargs : ([.ref (A m_o), .int a1, .int a2, .int a3, .int a4] : List Value).toArray = args at B ⊢
  have S : CallFix p m c cX11_writeAlone 9 s args wmX11_writeAlone RX11 := ⟨B.exec, B.bytes, hml, findClass_of_methodNamed B.named, atoms_spec (ws := wmX11_writeAlone) B.pre⟩
  obtain ⟨hx, hb, -, hown, hts⟩ := id S
  have hr := B.returns
  have hlocks := B.notSynchronized
  have X : gX D vwCl dA mLive A (gA mLive A) s := ⟨hK, hJ, fun i hi => ⟨i, hi, rfl⟩⟩
  have Z : gZ D mLay dA mLive A (gA mLive A) s.heap M s.heap [] := ⟨hP, va_S.rf⟩
  have hin : ∀ w ∈ wsX110, w ∈ wmX11_writeAlone := m_in
  have hl_68 := hts (.fieldLink RX11 68 "ReplicaFilesModel" "keptValue" "[I") (mBc 24 rfl)
  have hl_71 := hts (.fieldLink RX11 71 "ReplicaFilesModel" "keptSize" "[I") (mBc 25 rfl)
  have hl_80 := hts (.fieldLink RX11 80 "ReplicaFilesModel" "dirty" "[Z") (mBc 28 rfl)
  have hl_98 := hts (.fieldLink RX11 98 "ReplicaFilesModel" "records" "[I") (mBc 34 rfl)
  have hc_336 := hts (.constantLong RX11 336 (-2199023255557)) (mBc 216 rfl)
  have hc_362 := hts (.constantLong RX11 362 (-2199023255558)) (mBc 217 rfl)
  have hl := lv_entry ([.ref (A m_o), .int a1, .int a2, .int a3, .int a4]) (n := 9) (Nat.le_of_ble_eq_true rfl)
  rw [← hargs, lg_entry_eq, hargs]
  generalize (lg_sl ([.ref (A m_o), .int a1, .int a2, .int a3, .int a4]) ++ List.replicate (9 - (lg_sl ([.ref (A m_o), .int a1, .int a2, .int a3, .int a4])).length) Slot.unset).toArray = ls at hl ⊢
  have hl : lv_has ls 9 [(0, .ref (A m_o)), (1, .int a1), (2, .int a2), (3, .int a3), (4, .int a4)] := hl
  unfold f_X11_writeAlone at h
  refine lv_aload_n hx hb dX11_writeAlone_0 rfl (lv_at hl 0 rfl) ?_
  refine lv_iload_n hx hb dX11_writeAlone_1 rfl (lv_at hl 1 rfl) ?_
  refine lv_iload_n hx hb dX11_writeAlone_2 rfl (lv_at hl 2 rfl) ?_
  refine lv_bipush (v := (10 : Int32)) hx hb dX11_writeAlone_3 (by decide) ?_
  obtain ⟨v3, M2, hc1, h⟩ := ob_e h
  refine g_Vl (As := [.int a1, .int a2, .int (10 : Int32)]) (rest := []) S X Z mlv_o rfl rfl (t_X11_get l D dA A hJ  hc1) (cwV 3 hts (mGV (mB 180 rfl) (mB 181 rfl) (mB 182 rfl) (mB 63 rfl) (mB 176 rfl)) rfl rfl rfl (by decide +kernel) ⟨Nat.le_of_ble_eq_true rfl, Nat.le_of_ble_eq_true rfl⟩) rfl hl.1 rfl (Nat.le_of_ble_eq_true rfl) dX11_writeAlone_5 ⟨Nat.zero_le _, Nat.zero_le _⟩ (fun H locs Z => ?_)
  refine lv_lstore (lv' := [(5, .long v3), (0, .ref (A m_o)), (1, .int a1), (2, .int a2), (3, .int a3), (4, .int a4)]) hx hb dX11_writeAlone_8 hl (by decide) rfl (fun ls hl => ?_)
  refine lv_lload hx hb dX11_writeAlone_10 (lv_at hl 0 rfl) ?_
  refine lv_lconst (v := (0 : Int64)) hx hb dX11_writeAlone_12 (by decide) ?_
  refine W.lcmp hx hb dX11_writeAlone_13 ?_
  refine lv_if_eq (tgt := 20) hx hb dX11_writeAlone_14 (by decide) (fun c4 => ?_) (fun c4 => ?_)
  · have h := if_t c4 h
    refine lv_aload_n hx hb dX11_writeAlone_20 rfl (lv_at hl 1 rfl) ?_
    refine lv_iload_n hx hb dX11_writeAlone_21 rfl (lv_at hl 2 rfl) ?_
    refine lv_iconst (v := (0 : Int32)) hx hb dX11_writeAlone_22 (by decide) ?_
    refine lv_iload_n hx hb dX11_writeAlone_23 rfl (lv_at hl 3 rfl) ?_
    obtain ⟨v6, hc5, h⟩ := o1_e h
    refine g_Vi (As := [.int a1, .int (0 : Int32), .int a2]) (rest := []) S X Z mlv_o rfl rfl (t_X11_recordOf l D dA A hJ  hc5) (cwV 3 hts (mGV (mB 218 rfl) (mB 219 rfl) (mB 220 rfl) (mB 63 rfl) (mB 214 rfl)) rfl rfl rfl (by decide +kernel) ⟨Nat.le_of_ble_eq_true rfl, Nat.le_of_ble_eq_true rfl⟩) rfl hl.1 rfl (Nat.le_of_ble_eq_true rfl) dX11_writeAlone_24 ⟨Nat.zero_le _, Nat.zero_le _⟩ (fun H locs Z => ?_)
    refine lv_iconst (v := (-1 : Int32)) hx hb dX11_writeAlone_27 (by decide) ?_
    obtain ⟨J36, eJ36, h⟩ := jn_e h
    have hJ36 : ∀ (b7 : Int32) (M8 : gM) (H : Heap) (locs : List Loc) (ls : Array Slot), gZ D mLay dA mLive A (gA mLive A) s.heap M8 H locs → lv_has ls 9 [(0, .ref (A m_o)), (1, .int a1), (2, .int a2), (3, .int a3), (4, .int a4)] → J36 (b7, M8) = some y → W p l e (headSpec wmX11_writeAlone ({ frames := 5, cells := 0, slots := 0, locals := 129 } : Room)).room s m args below meth c H locs 0 0 (MQ below (mQl D dA A y) args s 0 0 (gA mLive A)) (F0 m 36 ls [.int b7]) := by
      intro b7 M8 H locs ls Z hl h
      rw [eJ36] at h
      try dsimp only at h
      refine lv_istore (lv' := [(7, .int b7), (0, .ref (A m_o)), (1, .int a1), (2, .int a2), (3, .int a3), (4, .int a4)]) hx hb dX11_writeAlone_36 hl (by decide) rfl (fun ls hl => ?_)
      refine lv_iload hx hb dX11_writeAlone_38 (lv_at hl 0 rfl) ?_
      obtain ⟨J58, eJ58, h⟩ := jn_e h
      have hJ58 : ∀ (M9 : gM) (H : Heap) (locs : List Loc) (ls : Array Slot), gZ D mLay dA mLive A (gA mLive A) s.heap M9 H locs → lv_has ls 9 [(0, .ref (A m_o)), (1, .int a1), (2, .int a2), (3, .int a3), (4, .int a4), (7, .int b7)] → J58 M9 = some y → W p l e (headSpec wmX11_writeAlone ({ frames := 5, cells := 0, slots := 0, locals := 129 } : Room)).room s m args below meth c H locs 0 0 (MQ below (mQl D dA A y) args s 0 0 (gA mLive A)) (F0 m 58 ls []) := by
        intro M9 H locs ls Z hl h
        rw [eJ58] at h
        try dsimp only at h
        refine lv_aload_n hx hb dX11_writeAlone_58 rfl (lv_at hl 0 rfl) ?_
        refine lv_iload_n hx hb dX11_writeAlone_59 rfl (lv_at hl 1 rfl) ?_
        refine lv_aload_n hx hb dX11_writeAlone_60 rfl (lv_at hl 0 rfl) ?_
        refine lv_iload_n hx hb dX11_writeAlone_61 rfl (lv_at hl 2 rfl) ?_
        refine lv_iload hx hb dX11_writeAlone_62 (lv_at hl 4 rfl) ?_
        obtain ⟨v11, hc10, h⟩ := o1_e h
        refine g_Vi (As := [.int a2, .int a4]) (rest := [.int a1, .ref (A m_o)]) S X Z mlv_o rfl rfl (t_X11_weight l D dA A hJ  hc10) (cwV 2 hts (mGV (mB 114 rfl) (mB 115 rfl) (mB 116 rfl) (mB 63 rfl) (mB 112 rfl)) rfl rfl rfl (by decide +kernel) ⟨Nat.le_of_ble_eq_true rfl, Nat.le_of_ble_eq_true rfl⟩) rfl hl.1 rfl (Nat.le_of_ble_eq_true rfl) dX11_writeAlone_64 ⟨Nat.zero_le _, Nat.zero_le _⟩ (fun H locs Z => ?_)
        refine lv_aload_n hx hb dX11_writeAlone_67 rfl (lv_at hl 0 rfl) ?_
        refine lv_iload_n hx hb dX11_writeAlone_68 rfl (lv_at hl 1 rfl) ?_
        refine lv_iload_n hx hb dX11_writeAlone_69 rfl (lv_at hl 2 rfl) ?_
        obtain ⟨v13, hc12, h⟩ := o1_e h
        refine g_Vi (As := [.int a1, .int a2]) (rest := [.int v11, .int a1, .ref (A m_o)]) S X Z mlv_o rfl rfl (t_X11_weightKept l D dA A hJ  hc12) (cwV 2 hts (mGV (mB 123 rfl) (mB 124 rfl) (mB 125 rfl) (mB 63 rfl) (mB 113 rfl)) rfl rfl rfl (by decide +kernel) ⟨Nat.le_of_ble_eq_true rfl, Nat.le_of_ble_eq_true rfl⟩) rfl hl.1 rfl (Nat.le_of_ble_eq_true rfl) dX11_writeAlone_70 ⟨Nat.zero_le _, Nat.zero_le _⟩ (fun H locs Z => ?_)
        refine lv_isub hx hb dX11_writeAlone_73 ?_
        refine lv_iload_n hx hb dX11_writeAlone_74 rfl (lv_at hl 2 rfl) ?_
        refine lv_bipush (v := (10 : Int32)) hx hb dX11_writeAlone_75 (by decide) ?_
        obtain ⟨v16, M15, hc14, h⟩ := ob_e h
        refine g_Vi (As := [.int a1, .int (v11 - v13), .int a2, .int (10 : Int32)]) (rest := []) S X Z mlv_o rfl rfl (t_X11_makeRoom l D dA A hJ  hc14) (cwV 4 hts (mGV (mB 147 rfl) (mB 148 rfl) (mB 149 rfl) (mB 63 rfl) (mB 135 rfl)) rfl rfl rfl (by decide +kernel) ⟨Nat.le_of_ble_eq_true rfl, Nat.le_of_ble_eq_true rfl⟩) rfl hl.1 rfl (Nat.le_of_ble_eq_true rfl) dX11_writeAlone_77 ⟨Nat.zero_le _, Nat.zero_le _⟩ (fun H locs Z => ?_)
        refine lv_if_ne (tgt := 87) hx hb dX11_writeAlone_80 (by decide) (fun c17 => ?_) (fun c17 => ?_)
        · have h := if_f c17 h
          refine lv_bipush (v := (48 : Int32)) hx hb dX11_writeAlone_87 (by decide) ?_
          refine lv_iload_n hx hb dX11_writeAlone_89 rfl (lv_at hl 1 rfl) ?_
          refine lv_imul hx hb dX11_writeAlone_90 ?_
          refine lv_iload_n hx hb dX11_writeAlone_91 rfl (lv_at hl 2 rfl) ?_
          refine lv_iadd hx hb dX11_writeAlone_92 ?_
          refine g_topi h (fun x18 h => ?_)
          refine lv_istore (lv' := [(8, .int x18), (0, .ref (A m_o)), (1, .int a1), (2, .int a2), (3, .int a3), (4, .int a4), (7, .int b7)]) hx hb dX11_writeAlone_93 hl (by decide) rfl (fun ls hl => ?_)
          refine lv_aload_n hx hb dX11_writeAlone_95 rfl (lv_at hl 1 rfl) ?_
          refine mr_keptValue S X Z hin hl_68 dX11_writeAlone_96 ?_
          refine lv_iload hx hb dX11_writeAlone_99 (lv_at hl 0 rfl) ?_
          refine lv_iload_n hx hb dX11_writeAlone_101 rfl (lv_at hl 4 rfl) ?_
          refine g_iast S X Z ml_keptValue rfl dX11_writeAlone_102 h (fun M19 H locs Z h => ?_)
          refine lv_aload_n hx hb dX11_writeAlone_103 rfl (lv_at hl 1 rfl) ?_
          refine mr_keptSize S X Z hin hl_71 dX11_writeAlone_104 ?_
          refine lv_iload hx hb dX11_writeAlone_107 (lv_at hl 0 rfl) ?_
          refine lv_iload hx hb dX11_writeAlone_109 (lv_at hl 5 rfl) ?_
          refine g_iast S X Z ml_keptSize rfl dX11_writeAlone_111 h (fun M20 H locs Z h => ?_)
          refine lv_aload_n hx hb dX11_writeAlone_112 rfl (lv_at hl 1 rfl) ?_
          refine mr_dirty S X Z hin hl_80 dX11_writeAlone_113 ?_
          refine lv_iload hx hb dX11_writeAlone_116 (lv_at hl 0 rfl) ?_
          refine lv_iconst (v := (1 : Int32)) hx hb dX11_writeAlone_118 (by decide) ?_
          refine g_zast S X Z ml_dirty rfl dX11_writeAlone_119 h (fun M21 H locs Z h => ?_)
          refine lv_iload hx hb dX11_writeAlone_120 (lv_at hl 6 rfl) ?_
          refine lv_if_eq (tgt := 133) hx hb dX11_writeAlone_122 (by decide) (fun c22 => ?_) (fun c22 => ?_)
          · have h := if_t c22 h
            refine lv_lconst (v := (0 : Int64)) hx hb dX11_writeAlone_133 (by decide) ?_
            have hy := Option.some.inj h
            subst hy
            exact g_rl S Z hr hlocks dX11_writeAlone_134
          · have h := if_f c22 h
            refine lv_aload_n hx hb dX11_writeAlone_125 rfl (lv_at hl 1 rfl) ?_
            refine lv_iload_n hx hb dX11_writeAlone_126 rfl (lv_at hl 2 rfl) ?_
            refine lv_iconst (v := (0 : Int32)) hx hb dX11_writeAlone_127 (by decide) ?_
            refine lv_iload_n hx hb dX11_writeAlone_128 rfl (lv_at hl 3 rfl) ?_
            refine lv_iconst (v := (-1 : Int32)) hx hb dX11_writeAlone_129 (by decide) ?_
            obtain ⟨M24, hc23, h⟩ := o1_e h
            refine g_Vv (As := [.int a1, .int (0 : Int32), .int a2, .int (-1 : Int32)]) (rest := []) S X Z mlv_o rfl rfl (t_X11_addRecord l D dA A hJ  hc23) (cwV 4 hts (mGV (mB 221 rfl) (mB 222 rfl) (mB 223 rfl) (mB 63 rfl) (mB 215 rfl)) rfl rfl rfl (by decide +kernel) ⟨Nat.le_of_ble_eq_true rfl, Nat.le_of_ble_eq_true rfl⟩) rfl hl.1 rfl (Nat.le_of_ble_eq_true rfl) dX11_writeAlone_130 ⟨Nat.zero_le _, Nat.zero_le _⟩ (fun H locs Z => ?_)
            refine lv_lconst (v := (0 : Int64)) hx hb dX11_writeAlone_133 (by decide) ?_
            have hy := Option.some.inj h
            subst hy
            exact g_rl S Z hr hlocks dX11_writeAlone_134
        · have h := if_t c17 h
          refine lv_ldc2 hx hb hown hc_362 dX11_writeAlone_83 ?_
          have hy := Option.some.inj h
          subst hy
          exact g_rl S Z hr hlocks dX11_writeAlone_86
      refine lv_if_eq (tgt := 58) hx hb dX11_writeAlone_40 (by decide) (fun c25 => ?_) (fun c25 => ?_)
      · have h := if_t c25 h
        exact hJ58 M8 _ _ _ Z (lv_sub hl [1, 2, 3, 4, 5, 0] rfl) h
      · have h := if_f c25 h
        refine lv_aload_n hx hb dX11_writeAlone_43 rfl (lv_at hl 1 rfl) ?_
        refine mr_records S X Z hin hl_98 dX11_writeAlone_44 ?_
        refine lv_iload_n hx hb dX11_writeAlone_47 rfl (lv_at hl 2 rfl) ?_
        refine g_iald S X Z ml_records rfl dX11_writeAlone_48 h (fun v26 h => ?_)
        refine lv_bipush (v := (12 : Int32)) hx hb dX11_writeAlone_49 (by decide) ?_
        refine lv_icmp_ne (tgt := 58) hx hb dX11_writeAlone_51 (by decide) (fun c27 => ?_) (fun c27 => ?_)
        · have h := if_f c27 h
          exact hJ58 M8 _ _ _ Z (lv_sub hl [1, 2, 3, 4, 5, 0] rfl) h
        · have h := if_t c27 h
          refine lv_ldc2 hx hb hown hc_336 dX11_writeAlone_54 ?_
          have hy := Option.some.inj h
          subst hy
          exact g_rl S Z hr hlocks dX11_writeAlone_57
    refine lv_icmp_ne (tgt := 35) hx hb dX11_writeAlone_28 (by decide) (fun c28 => ?_) (fun c28 => ?_)
    · have h := if_f c28 h
      refine lv_iconst (v := (0 : Int32)) hx hb dX11_writeAlone_35 (by decide) ?_
      exact hJ36 (0 : Int32) M2 _ _ _ Z (lv_sub hl [1, 2, 3, 4, 5] rfl) h
    · have h := if_t c28 h
      refine lv_iconst (v := (1 : Int32)) hx hb dX11_writeAlone_31 (by decide) ?_
      refine lv_goto (tgt := 36) hx hb dX11_writeAlone_32 (by decide) ?_
      exact hJ36 (1 : Int32) M2 _ _ _ Z (lv_sub hl [1, 2, 3, 4, 5] rfl) h
  · have h := if_f c4 h
    refine lv_lload hx hb dX11_writeAlone_17 (lv_at hl 0 rfl) ?_
    have hy := Option.some.inj h
    subst hy
    exact g_rl S Z hr hlocks dX11_writeAlone_19
-- X11_write (IIII)J: 132 instructions
theorem dX11_write_0 : decode cX11_write 0 = .ok (.aload_n 0, 1) := by decide +kernel
theorem dX11_write_1 : decode cX11_write 1 = .ok (.iload_n 1, 1) := by decide +kernel
theorem dX11_write_2 : decode cX11_write 2 = .ok (.invokestatic 191, 3) := by decide +kernel
theorem dX11_write_5 : decode cX11_write 5 = .ok (.ifCond .eq 10, 3) := by decide +kernel
theorem dX11_write_8 : decode cX11_write 8 = .ok (.iload_n 2, 1) := by decide +kernel
theorem dX11_write_9 : decode cX11_write 9 = .ok (.invokestatic 194, 3) := by decide +kernel
theorem dX11_write_12 : decode cX11_write 12 = .ok (.ifCond .ne 7, 3) := by decide +kernel
theorem dX11_write_15 : decode cX11_write 15 = .ok (.iconst 1, 1) := by decide +kernel
theorem dX11_write_16 : decode cX11_write 16 = .ok (.goto 19, 3) := by decide +kernel
theorem dX11_write_19 : decode cX11_write 19 = .ok (.iload 4, 2) := by decide +kernel
theorem dX11_write_21 : decode cX11_write 21 = .ok (.iconst 0, 1) := by decide +kernel
theorem dX11_write_22 : decode cX11_write 22 = .ok (.bipush 6, 2) := by decide +kernel
theorem dX11_write_24 : decode cX11_write 24 = .ok (.invokestatic 168, 3) := by decide +kernel
theorem dX11_write_27 : decode cX11_write 27 = .ok (.ifCond .eq 7, 3) := by decide +kernel
theorem dX11_write_30 : decode cX11_write 30 = .ok (.iconst 0, 1) := by decide +kernel
theorem dX11_write_31 : decode cX11_write 31 = .ok (.goto 4, 3) := by decide +kernel
theorem dX11_write_34 : decode cX11_write 34 = .ok (.iconst 2, 1) := by decide +kernel
theorem dX11_write_35 : decode cX11_write 35 = .ok (.putfield 165, 3) := by decide +kernel
theorem dX11_write_38 : decode cX11_write 38 = .ok (.aload_n 0, 1) := by decide +kernel
theorem dX11_write_39 : decode cX11_write 39 = .ok (.getfield 165, 3) := by decide +kernel
theorem dX11_write_42 : decode cX11_write 42 = .ok (.ifCond .le 5, 3) := by decide +kernel
theorem dX11_write_45 : decode cX11_write 45 = .ok (.lconst 0, 1) := by decide +kernel
theorem dX11_write_46 : decode cX11_write 46 = .ok (.lreturn, 1) := by decide +kernel
theorem dX11_write_47 : decode cX11_write 47 = .ok (.aload_n 0, 1) := by decide +kernel
theorem dX11_write_48 : decode cX11_write 48 = .ok (.iload_n 2, 1) := by decide +kernel
theorem dX11_write_49 : decode cX11_write 49 = .ok (.iconst 0, 1) := by decide +kernel
theorem dX11_write_50 : decode cX11_write 50 = .ok (.invokevirtual 278, 3) := by decide +kernel
theorem dX11_write_53 : decode cX11_write 53 = .ok (.lstore 5, 2) := by decide +kernel
theorem dX11_write_55 : decode cX11_write 55 = .ok (.lload 5, 2) := by decide +kernel
theorem dX11_write_57 : decode cX11_write 57 = .ok (.lconst 0, 1) := by decide +kernel
theorem dX11_write_58 : decode cX11_write 58 = .ok (.lcmp, 1) := by decide +kernel
theorem dX11_write_59 : decode cX11_write 59 = .ok (.ifCond .eq 6, 3) := by decide +kernel
theorem dX11_write_62 : decode cX11_write 62 = .ok (.lload 5, 2) := by decide +kernel
theorem dX11_write_64 : decode cX11_write 64 = .ok (.lreturn, 1) := by decide +kernel
theorem dX11_write_65 : decode cX11_write 65 = .ok (.aload_n 0, 1) := by decide +kernel
theorem dX11_write_66 : decode cX11_write 66 = .ok (.dup, 1) := by decide +kernel
theorem dX11_write_67 : decode cX11_write 67 = .ok (.getfield 211, 3) := by decide +kernel
theorem dX11_write_70 : decode cX11_write 70 = .ok (.iconst 1, 1) := by decide +kernel
theorem dX11_write_71 : decode cX11_write 71 = .ok (.iadd, 1) := by decide +kernel
theorem dX11_write_72 : decode cX11_write 72 = .ok (.putfield 211, 3) := by decide +kernel
theorem dX11_write_75 : decode cX11_write 75 = .ok (.aload_n 0, 1) := by decide +kernel
theorem dX11_write_76 : decode cX11_write 76 = .ok (.iload_n 1, 1) := by decide +kernel
theorem dX11_write_77 : decode cX11_write 77 = .ok (.invokevirtual 238, 3) := by decide +kernel
theorem dX11_write_80 : decode cX11_write 80 = .ok (.ifCond .eq 13, 3) := by decide +kernel
theorem dX11_write_83 : decode cX11_write 83 = .ok (.aload_n 0, 1) := by decide +kernel
theorem dX11_write_84 : decode cX11_write 84 = .ok (.iload_n 1, 1) := by decide +kernel
theorem dX11_write_85 : decode cX11_write 85 = .ok (.iload_n 2, 1) := by decide +kernel
theorem dX11_write_86 : decode cX11_write 86 = .ok (.iload_n 3, 1) := by decide +kernel
theorem dX11_write_87 : decode cX11_write 87 = .ok (.iload 4, 2) := by decide +kernel
theorem dX11_write_89 : decode cX11_write 89 = .ok (.invokevirtual 319, 3) := by decide +kernel
theorem dX11_write_92 : decode cX11_write 92 = .ok (.lreturn, 1) := by decide +kernel
theorem dX11_write_93 : decode cX11_write 93 = .ok (.aload_n 0, 1) := by decide +kernel
theorem dX11_write_94 : decode cX11_write 94 = .ok (.iload_n 1, 1) := by decide +kernel
theorem dX11_write_95 : decode cX11_write 95 = .ok (.iload_n 2, 1) := by decide +kernel
theorem dX11_write_96 : decode cX11_write 96 = .ok (.bipush 10, 2) := by decide +kernel
theorem dX11_write_98 : decode cX11_write 98 = .ok (.invokevirtual 282, 3) := by decide +kernel
theorem dX11_write_101 : decode cX11_write 101 = .ok (.lstore 7, 2) := by decide +kernel
theorem dX11_write_103 : decode cX11_write 103 = .ok (.lload 7, 2) := by decide +kernel
theorem dX11_write_105 : decode cX11_write 105 = .ok (.lconst 0, 1) := by decide +kernel
theorem dX11_write_106 : decode cX11_write 106 = .ok (.lcmp, 1) := by decide +kernel
theorem dX11_write_107 : decode cX11_write 107 = .ok (.ifCond .eq 6, 3) := by decide +kernel
theorem dX11_write_110 : decode cX11_write 110 = .ok (.lload 7, 2) := by decide +kernel
theorem dX11_write_112 : decode cX11_write 112 = .ok (.lreturn, 1) := by decide +kernel
theorem dX11_write_113 : decode cX11_write 113 = .ok (.aload_n 0, 1) := by decide +kernel
theorem dX11_write_114 : decode cX11_write 114 = .ok (.aload_n 0, 1) := by decide +kernel
theorem dX11_write_115 : decode cX11_write 115 = .ok (.aload_n 0, 1) := by decide +kernel
theorem dX11_write_116 : decode cX11_write 116 = .ok (.iload_n 1, 1) := by decide +kernel
theorem dX11_write_117 : decode cX11_write 117 = .ok (.invokevirtual 180, 3) := by decide +kernel
theorem dX11_write_120 : decode cX11_write 120 = .ok (.iload_n 2, 1) := by decide +kernel
theorem dX11_write_121 : decode cX11_write 121 = .ok (.aload_n 0, 1) := by decide +kernel
theorem dX11_write_122 : decode cX11_write 122 = .ok (.getfield 116, 3) := by decide +kernel
theorem dX11_write_125 : decode cX11_write 125 = .ok (.invokevirtual 323, 3) := by decide +kernel
theorem dX11_write_128 : decode cX11_write 128 = .ok (.putfield 289, 3) := by decide +kernel
theorem dX11_write_131 : decode cX11_write 131 = .ok (.aload_n 0, 1) := by decide +kernel
theorem dX11_write_132 : decode cX11_write 132 = .ok (.iload_n 2, 1) := by decide +kernel
theorem dX11_write_133 : decode cX11_write 133 = .ok (.iload_n 3, 1) := by decide +kernel
theorem dX11_write_134 : decode cX11_write 134 = .ok (.iload 4, 2) := by decide +kernel
theorem dX11_write_136 : decode cX11_write 136 = .ok (.invokevirtual 327, 3) := by decide +kernel
theorem dX11_write_139 : decode cX11_write 139 = .ok (.bipush 48, 2) := by decide +kernel
theorem dX11_write_141 : decode cX11_write 141 = .ok (.iload_n 1, 1) := by decide +kernel
theorem dX11_write_142 : decode cX11_write 142 = .ok (.imul, 1) := by decide +kernel
theorem dX11_write_143 : decode cX11_write 143 = .ok (.iload_n 2, 1) := by decide +kernel
theorem dX11_write_144 : decode cX11_write 144 = .ok (.iadd, 1) := by decide +kernel
theorem dX11_write_145 : decode cX11_write 145 = .ok (.istore 9, 2) := by decide +kernel
theorem dX11_write_147 : decode cX11_write 147 = .ok (.aload_n 0, 1) := by decide +kernel
theorem dX11_write_148 : decode cX11_write 148 = .ok (.getfield 65, 3) := by decide +kernel
theorem dX11_write_151 : decode cX11_write 151 = .ok (.iload 9, 2) := by decide +kernel
theorem dX11_write_153 : decode cX11_write 153 = .ok (.baload, 1) := by decide +kernel
theorem dX11_write_154 : decode cX11_write 154 = .ok (.ifCond .eq 34, 3) := by decide +kernel
theorem dX11_write_157 : decode cX11_write 157 = .ok (.aload_n 0, 1) := by decide +kernel
theorem dX11_write_158 : decode cX11_write 158 = .ok (.iload_n 1, 1) := by decide +kernel
theorem dX11_write_159 : decode cX11_write 159 = .ok (.aload_n 0, 1) := by decide +kernel
theorem dX11_write_160 : decode cX11_write 160 = .ok (.iload_n 2, 1) := by decide +kernel
theorem dX11_write_161 : decode cX11_write 161 = .ok (.iload 4, 2) := by decide +kernel
theorem dX11_write_163 : decode cX11_write 163 = .ok (.invokevirtual 204, 3) := by decide +kernel
theorem dX11_write_166 : decode cX11_write 166 = .ok (.aload_n 0, 1) := by decide +kernel
theorem dX11_write_167 : decode cX11_write 167 = .ok (.iload_n 1, 1) := by decide +kernel
theorem dX11_write_168 : decode cX11_write 168 = .ok (.iload_n 2, 1) := by decide +kernel
theorem dX11_write_169 : decode cX11_write 169 = .ok (.invokevirtual 214, 3) := by decide +kernel
theorem dX11_write_172 : decode cX11_write 172 = .ok (.isub, 1) := by decide +kernel
theorem dX11_write_173 : decode cX11_write 173 = .ok (.iload_n 2, 1) := by decide +kernel
theorem dX11_write_174 : decode cX11_write 174 = .ok (.bipush 10, 2) := by decide +kernel
theorem dX11_write_176 : decode cX11_write 176 = .ok (.invokevirtual 269, 3) := by decide +kernel
theorem dX11_write_179 : decode cX11_write 179 = .ok (.ifCond .ne 9, 3) := by decide +kernel
theorem dX11_write_182 : decode cX11_write 182 = .ok (.aload_n 0, 1) := by decide +kernel
theorem dX11_write_183 : decode cX11_write 183 = .ok (.iload_n 1, 1) := by decide +kernel
theorem dX11_write_184 : decode cX11_write 184 = .ok (.iload_n 2, 1) := by decide +kernel
theorem dX11_write_185 : decode cX11_write 185 = .ok (.invokevirtual 224, 3) := by decide +kernel
theorem dX11_write_188 : decode cX11_write 188 = .ok (.aload_n 0, 1) := by decide +kernel
theorem dX11_write_189 : decode cX11_write 189 = .ok (.getfield 65, 3) := by decide +kernel
theorem dX11_write_192 : decode cX11_write 192 = .ok (.iload 9, 2) := by decide +kernel
theorem dX11_write_194 : decode cX11_write 194 = .ok (.baload, 1) := by decide +kernel
theorem dX11_write_195 : decode cX11_write 195 = .ok (.ifCond .eq 20, 3) := by decide +kernel
theorem dX11_write_198 : decode cX11_write 198 = .ok (.aload_n 0, 1) := by decide +kernel
theorem dX11_write_199 : decode cX11_write 199 = .ok (.getfield 68, 3) := by decide +kernel
theorem dX11_write_202 : decode cX11_write 202 = .ok (.iload 9, 2) := by decide +kernel
theorem dX11_write_204 : decode cX11_write 204 = .ok (.iload_n 3, 1) := by decide +kernel
theorem dX11_write_205 : decode cX11_write 205 = .ok (.iastore, 1) := by decide +kernel
theorem dX11_write_206 : decode cX11_write 206 = .ok (.aload_n 0, 1) := by decide +kernel
theorem dX11_write_207 : decode cX11_write 207 = .ok (.getfield 71, 3) := by decide +kernel
theorem dX11_write_210 : decode cX11_write 210 = .ok (.iload 9, 2) := by decide +kernel
theorem dX11_write_212 : decode cX11_write 212 = .ok (.iload 4, 2) := by decide +kernel
theorem dX11_write_214 : decode cX11_write 214 = .ok (.iastore, 1) := by decide +kernel
theorem dX11_write_215 : decode cX11_write 215 = .ok (.aload_n 0, 1) := by decide +kernel
theorem dX11_write_216 : decode cX11_write 216 = .ok (.iload_n 1, 1) := by decide +kernel
theorem dX11_write_217 : decode cX11_write 217 = .ok (.iload_n 2, 1) := by decide +kernel
theorem dX11_write_218 : decode cX11_write 218 = .ok (.invokevirtual 330, 3) := by decide +kernel
theorem dX11_write_221 : decode cX11_write 221 = .ok (.aload_n 0, 1) := by decide +kernel
theorem dX11_write_222 : decode cX11_write 222 = .ok (.getfield 289, 3) := by decide +kernel
theorem dX11_write_225 : decode cX11_write 225 = .ok (.invokestatic 333, 3) := by decide +kernel
theorem dX11_write_228 : decode cX11_write 228 = .ok (.i2l, 1) := by decide +kernel
theorem dX11_write_229 : decode cX11_write 229 = .ok (.lreturn, 1) := by decide +kernel
abbrev wmX11_write : List Cond := .code yX11_write cX11_write 10 (some .long) :: mBig
def f_X11_write (M : gM) (a1 : Int32) (a2 : Int32) (a3 : Int32) (a4 : Int32) : Option (Int64 × gM) :=
  o1 (f_X11_isClient M a1) (fun v2 => jn (fun (q : (Int32 × gM)) => match q with | (b3, M4) => lt (gset M4 m_o 66 b3) (fun M5 => lt (M5 m_o 66) (fun v6 => (if v6 ≤ 0 then o1 (f_X11_kindOf M5 a2 (0 : Int32)) (fun v9 => (if (lg_cmp v9 (0 : Int64)) = 0 then lt (M5 m_o 33) (fun v11 => lt (gset M5 m_o 33 (v11 + (1 : Int32))) (fun M12 => o1 (f_X11_isAlone M12 a1) (fun v14 => (if v14 = 0 then ob (f_X11_get M12 a1 a2 (10 : Int32)) (fun v18 M17 => (if (lg_cmp v18 (0 : Int64)) = 0 then o1 (f_X11_nearSet M17 a1) (fun v21 => o1 (f_X11_setOf M17 v21 a2 m_gotVector) (fun v23 => lt (gset M17 m_o 51 v23) (fun M24 => o1 (f_X11_putValue M24 a2 a3 a4) (fun M26 => lt ((((48 : Int32) * a1) + a2)) (fun x27 => rd M26 m_kept 192 x27 (fun v28 => jn (fun (M29 : gM) => rd M29 m_kept 192 x27 (fun v30 => jn (fun (M31 : gM) => o1 (f_X11_follow M31 a1 a2) (fun M33 => lt (M33 m_o 51) (fun v34 => o1 (f_X11_manyOf M33 v34) (fun v36 => some (v36.toInt64, M33))))) (fun J215 => (if v30 = 0 then J215 M29 else wr M29 m_keptValue 192 x27 a3 (fun M38 => wr M38 m_keptSize 192 x27 a4 (fun M39 => J215 M39)))))) (fun J188 => (if v28 = 0 then J188 M26 else o1 (f_X11_weight M26 a2 a4) (fun v42 => o1 (f_X11_weightKept M26 a1 a2) (fun v44 => ob (f_X11_makeRoom M26 a1 (v42 - v44) a2 (10 : Int32)) (fun v47 M46 => (if v47 = 0 then o1 (f_X11_forget M46 a1 a2) (fun M50 => J188 M50) else J188 M46)))))))))))) else some (v18, M17))) else ob (f_X11_writeAlone M12 a1 a2 a3 a4) (fun v53 M52 => some (v53, M52)))))) else some (v9, M5))) else some ((0 : Int64), M5))))) (fun J35 => jn (fun (M54 : gM) => J35 ((1 : Int32), M54)) (fun J15 => (if v2 = 0 then J15 M else o1 (f_X11_isObject M a2) (fun v57 => (if v57 = 0 then J15 M else o1 (f_X11_in M a4 (0 : Int32) (6 : Int32)) (fun v60 => (if v60 = 0 then J35 ((2 : Int32), M) else J35 ((0 : Int32), M)))))))))
set_option maxHeartbeats 4000000 in
set_option maxRecDepth 100000 in
theorem t_X11_write (l : Launch) (D : va_G) (dA : Nat → ClassId) (A : gI → Nat) (hJ : gJ mLive A) {M : gM} {a1 : Int32} {a2 : Int32} {a3 : Int32} {a4 : Int32}  {y : (Int64 × gM)} (h : f_X11_write M a1 a2 a3 a4 = some y) : mMl l yX11_write wmX11_write ({ frames := 6, cells := 0, slots := 0, locals := 157 } : Room) D dA A [.ref (A m_o), .int a1, .int a2, .int a3, .int a4] M y.1 y.2 := by
  refine Met.ofW (cc := cX11_write) (maxL := 10) (ret := (some .long)) (by decide) rfl ?_
  intro p e s m args below meth c s₁ B hml hv
  obtain ⟨rfl, hP, hK⟩ := hv
  generalize hargs : ([.ref (A m_o), .int a1, .int a2, .int a3, .int a4] : List Value).toArray = args at B ⊢
  have S : CallFix p m c cX11_write 10 s args wmX11_write RX11 := ⟨B.exec, B.bytes, hml, findClass_of_methodNamed B.named, atoms_spec (ws := wmX11_write) B.pre⟩
  obtain ⟨hx, hb, -, hown, hts⟩ := id S
  have hr := B.returns
  have hlocks := B.notSynchronized
  have X : gX D vwCl dA mLive A (gA mLive A) s := ⟨hK, hJ, fun i hi => ⟨i, hi, rfl⟩⟩
  have Z : gZ D mLay dA mLive A (gA mLive A) s.heap M s.heap [] := ⟨hP, va_S.rf⟩
  have hin : ∀ w ∈ wsX110, w ∈ wmX11_write := m_in
  have hl_65 := hts (.fieldLink RX11 65 "ReplicaFilesModel" "kept" "[Z") (mBc 23 rfl)
  have hl_68 := hts (.fieldLink RX11 68 "ReplicaFilesModel" "keptValue" "[I") (mBc 24 rfl)
  have hl_71 := hts (.fieldLink RX11 71 "ReplicaFilesModel" "keptSize" "[I") (mBc 25 rfl)
  have hl_116 := hts (.fieldLink RX11 116 "ReplicaFilesModel" "gotVector" "[I") (mBc 40 rfl)
  have hl_165 := hts (.fieldLink RX11 165 "ReplicaFilesModel" "thrown" "I") (mBc 58 rfl)
  have hl_211 := hts (.fieldLink RX11 211 "ReplicaFilesModel" "call" "I") (mBc 119 rfl)
  have hl_289 := hts (.fieldLink RX11 289 "ReplicaFilesModel" "set" "I") (mBc 188 rfl)
  have hl := lv_entry ([.ref (A m_o), .int a1, .int a2, .int a3, .int a4]) (n := 10) (Nat.le_of_ble_eq_true rfl)
  rw [← hargs, lg_entry_eq, hargs]
  generalize (lg_sl ([.ref (A m_o), .int a1, .int a2, .int a3, .int a4]) ++ List.replicate (10 - (lg_sl ([.ref (A m_o), .int a1, .int a2, .int a3, .int a4])).length) Slot.unset).toArray = ls at hl ⊢
  have hl : lv_has ls 10 [(0, .ref (A m_o)), (1, .int a1), (2, .int a2), (3, .int a3), (4, .int a4)] := hl
  unfold f_X11_write at h
  refine lv_aload_n hx hb dX11_write_0 rfl (lv_at hl 0 rfl) ?_
  refine lv_iload_n hx hb dX11_write_1 rfl (lv_at hl 1 rfl) ?_
  obtain ⟨v2, hc1, h⟩ := o1_e h
  refine g_Si (As := [.int a1]) (rest := [.ref (A m_o)]) S X Z (t_X11_isClient l D dA A hJ  hc1) (va_cwS 1 hts (mGS (mB 91 rfl) (mB 92 rfl) (mB 63 rfl) (mB 64 rfl)) rfl rfl rfl (by decide +kernel) ⟨Nat.le_of_ble_eq_true rfl, Nat.le_of_ble_eq_true rfl⟩) rfl hl.1 rfl (Nat.le_of_ble_eq_true rfl) dX11_write_2 ⟨Nat.zero_le _, Nat.zero_le _⟩ (fun H locs Z => ?_)
  obtain ⟨J35, eJ35, h⟩ := jn_e h
  have hJ35 : ∀ (b3 : Int32) (M4 : gM) (H : Heap) (locs : List Loc) (ls : Array Slot), gZ D mLay dA mLive A (gA mLive A) s.heap M4 H locs → lv_has ls 10 [(0, .ref (A m_o)), (1, .int a1), (2, .int a2), (3, .int a3), (4, .int a4)] → J35 (b3, M4) = some y → W p l e (headSpec wmX11_write ({ frames := 6, cells := 0, slots := 0, locals := 157 } : Room)).room s m args below meth c H locs 0 0 (MQ below (mQl D dA A y) args s 0 0 (gA mLive A)) (F0 m 35 ls [.int b3, .ref (A m_o)]) := by
    intro b3 M4 H locs ls Z hl h
    rw [eJ35] at h
    try dsimp only at h
    refine mp_thrown S X Z hin hl_165 dX11_write_35 h (fun M5 H locs Z h => ?_)
    refine lv_aload_n hx hb dX11_write_38 rfl (lv_at hl 0 rfl) ?_
    refine mr_thrown S X Z hin hl_165 dX11_write_39 h (fun v6 h => ?_)
    refine lv_if_le (tgt := 47) hx hb dX11_write_42 (by decide) (fun c7 => ?_) (fun c7 => ?_)
    · have h := if_t c7 h
      refine lv_aload_n hx hb dX11_write_47 rfl (lv_at hl 0 rfl) ?_
      refine lv_iload_n hx hb dX11_write_48 rfl (lv_at hl 2 rfl) ?_
      refine lv_iconst (v := (0 : Int32)) hx hb dX11_write_49 (by decide) ?_
      obtain ⟨v9, hc8, h⟩ := o1_e h
      refine g_Vl (As := [.int a2, .int (0 : Int32)]) (rest := []) S X Z mlv_o rfl rfl (t_X11_kindOf l D dA A hJ  hc8) (cwV 2 hts (mGV (mB 177 rfl) (mB 178 rfl) (mB 179 rfl) (mB 63 rfl) (mB 66 rfl)) rfl rfl rfl (by decide +kernel) ⟨Nat.le_of_ble_eq_true rfl, Nat.le_of_ble_eq_true rfl⟩) rfl hl.1 rfl (Nat.le_of_ble_eq_true rfl) dX11_write_50 ⟨Nat.zero_le _, Nat.zero_le _⟩ (fun H locs Z => ?_)
      refine lv_lstore (lv' := [(5, .long v9), (0, .ref (A m_o)), (1, .int a1), (2, .int a2), (3, .int a3), (4, .int a4)]) hx hb dX11_write_53 hl (by decide) rfl (fun ls hl => ?_)
      refine lv_lload hx hb dX11_write_55 (lv_at hl 0 rfl) ?_
      refine lv_lconst (v := (0 : Int64)) hx hb dX11_write_57 (by decide) ?_
      refine W.lcmp hx hb dX11_write_58 ?_
      refine lv_if_eq (tgt := 65) hx hb dX11_write_59 (by decide) (fun c10 => ?_) (fun c10 => ?_)
      · have h := if_t c10 h
        refine lv_aload_n hx hb dX11_write_65 rfl (lv_at hl 1 rfl) ?_
        refine lv_dup hx hb dX11_write_66 rfl ?_
        refine mr_call S X Z hin hl_211 dX11_write_67 h (fun v11 h => ?_)
        refine lv_iconst (v := (1 : Int32)) hx hb dX11_write_70 (by decide) ?_
        refine lv_iadd hx hb dX11_write_71 ?_
        refine mp_call S X Z hin hl_211 dX11_write_72 h (fun M12 H locs Z h => ?_)
        refine lv_aload_n hx hb dX11_write_75 rfl (lv_at hl 1 rfl) ?_
        refine lv_iload_n hx hb dX11_write_76 rfl (lv_at hl 2 rfl) ?_
        obtain ⟨v14, hc13, h⟩ := o1_e h
        refine g_Vi (As := [.int a1]) (rest := []) S X Z mlv_o rfl rfl (t_X11_isAlone l D dA A hJ  hc13) (cwV 1 hts (mGV (mB 161 rfl) (mB 162 rfl) (mB 163 rfl) (mB 63 rfl) (mB 74 rfl)) rfl rfl rfl (by decide +kernel) ⟨Nat.le_of_ble_eq_true rfl, Nat.le_of_ble_eq_true rfl⟩) rfl hl.1 rfl (Nat.le_of_ble_eq_true rfl) dX11_write_77 ⟨Nat.zero_le _, Nat.zero_le _⟩ (fun H locs Z => ?_)
        refine lv_if_eq (tgt := 93) hx hb dX11_write_80 (by decide) (fun c15 => ?_) (fun c15 => ?_)
        · have h := if_t c15 h
          refine lv_aload_n hx hb dX11_write_93 rfl (lv_at hl 1 rfl) ?_
          refine lv_iload_n hx hb dX11_write_94 rfl (lv_at hl 2 rfl) ?_
          refine lv_iload_n hx hb dX11_write_95 rfl (lv_at hl 3 rfl) ?_
          refine lv_bipush (v := (10 : Int32)) hx hb dX11_write_96 (by decide) ?_
          obtain ⟨v18, M17, hc16, h⟩ := ob_e h
          refine g_Vl (As := [.int a1, .int a2, .int (10 : Int32)]) (rest := []) S X Z mlv_o rfl rfl (t_X11_get l D dA A hJ  hc16) (cwV 3 hts (mGV (mB 180 rfl) (mB 181 rfl) (mB 182 rfl) (mB 63 rfl) (mB 176 rfl)) rfl rfl rfl (by decide +kernel) ⟨Nat.le_of_ble_eq_true rfl, Nat.le_of_ble_eq_true rfl⟩) rfl hl.1 rfl (Nat.le_of_ble_eq_true rfl) dX11_write_98 ⟨Nat.zero_le _, Nat.zero_le _⟩ (fun H locs Z => ?_)
          refine lv_lstore (lv' := [(7, .long v18), (5, .long v9), (0, .ref (A m_o)), (1, .int a1), (2, .int a2), (3, .int a3), (4, .int a4)]) hx hb dX11_write_101 hl (by decide) rfl (fun ls hl => ?_)
          refine lv_lload hx hb dX11_write_103 (lv_at hl 0 rfl) ?_
          refine lv_lconst (v := (0 : Int64)) hx hb dX11_write_105 (by decide) ?_
          refine W.lcmp hx hb dX11_write_106 ?_
          refine lv_if_eq (tgt := 113) hx hb dX11_write_107 (by decide) (fun c19 => ?_) (fun c19 => ?_)
          · have h := if_t c19 h
            refine lv_aload_n hx hb dX11_write_113 rfl (lv_at hl 2 rfl) ?_
            refine lv_aload_n hx hb dX11_write_114 rfl (lv_at hl 2 rfl) ?_
            refine lv_aload_n hx hb dX11_write_115 rfl (lv_at hl 2 rfl) ?_
            refine lv_iload_n hx hb dX11_write_116 rfl (lv_at hl 3 rfl) ?_
            obtain ⟨v21, hc20, h⟩ := o1_e h
            refine g_Vi (As := [.int a1]) (rest := [.ref (A m_o), .ref (A m_o)]) S X Z mlv_o rfl rfl (t_X11_nearSet l D dA A hJ  hc20) (cwV 1 hts (mGV (mB 75 rfl) (mB 76 rfl) (mB 77 rfl) (mB 63 rfl) (mB 70 rfl)) rfl rfl rfl (by decide +kernel) ⟨Nat.le_of_ble_eq_true rfl, Nat.le_of_ble_eq_true rfl⟩) rfl hl.1 rfl (Nat.le_of_ble_eq_true rfl) dX11_write_117 ⟨Nat.zero_le _, Nat.zero_le _⟩ (fun H locs Z => ?_)
            refine lv_iload_n hx hb dX11_write_120 rfl (lv_at hl 4 rfl) ?_
            refine lv_aload_n hx hb dX11_write_121 rfl (lv_at hl 2 rfl) ?_
            refine mr_gotVector S X Z hin hl_116 dX11_write_122 ?_
            obtain ⟨v23, hc22, h⟩ := o1_e h
            refine g_Vi (As := [.int v21, .int a2, .ref (A m_gotVector)]) (rest := [.ref (A m_o)]) S X Z mlv_o rfl rfl (t_X11_setOf l D dA A hJ ⟨ml_gotVector, rfl⟩ hc22) (cwV 3 hts (mGV (mB 228 rfl) (mB 229 rfl) (mB 230 rfl) (mB 63 rfl) (mB 185 rfl)) rfl rfl rfl (by decide +kernel) ⟨Nat.le_of_ble_eq_true rfl, Nat.le_of_ble_eq_true rfl⟩) rfl hl.1 rfl (Nat.le_of_ble_eq_true rfl) dX11_write_125 ⟨Nat.zero_le _, Nat.zero_le _⟩ (fun H locs Z => ?_)
            refine mp_set S X Z hin hl_289 dX11_write_128 h (fun M24 H locs Z h => ?_)
            refine lv_aload_n hx hb dX11_write_131 rfl (lv_at hl 2 rfl) ?_
            refine lv_iload_n hx hb dX11_write_132 rfl (lv_at hl 4 rfl) ?_
            refine lv_iload_n hx hb dX11_write_133 rfl (lv_at hl 5 rfl) ?_
            refine lv_iload hx hb dX11_write_134 (lv_at hl 6 rfl) ?_
            obtain ⟨M26, hc25, h⟩ := o1_e h
            refine g_Vv (As := [.int a2, .int a3, .int a4]) (rest := []) S X Z mlv_o rfl rfl (t_X11_putValue l D dA A hJ  hc25) (cwV 3 hts (mGV (mB 231 rfl) (mB 232 rfl) (mB 233 rfl) (mB 63 rfl) (mB 197 rfl)) rfl rfl rfl (by decide +kernel) ⟨Nat.le_of_ble_eq_true rfl, Nat.le_of_ble_eq_true rfl⟩) rfl hl.1 rfl (Nat.le_of_ble_eq_true rfl) dX11_write_136 ⟨Nat.zero_le _, Nat.zero_le _⟩ (fun H locs Z => ?_)
            refine lv_bipush (v := (48 : Int32)) hx hb dX11_write_139 (by decide) ?_
            refine lv_iload_n hx hb dX11_write_141 rfl (lv_at hl 3 rfl) ?_
            refine lv_imul hx hb dX11_write_142 ?_
            refine lv_iload_n hx hb dX11_write_143 rfl (lv_at hl 4 rfl) ?_
            refine lv_iadd hx hb dX11_write_144 ?_
            refine g_topi h (fun x27 h => ?_)
            refine lv_istore (lv' := [(9, .int x27), (7, .long v18), (5, .long v9), (0, .ref (A m_o)), (1, .int a1), (2, .int a2), (3, .int a3), (4, .int a4)]) hx hb dX11_write_145 hl (by decide) rfl (fun ls hl => ?_)
            refine lv_aload_n hx hb dX11_write_147 rfl (lv_at hl 3 rfl) ?_
            refine mr_kept S X Z hin hl_65 dX11_write_148 ?_
            refine lv_iload hx hb dX11_write_151 (lv_at hl 0 rfl) ?_
            refine g_zald S X Z ml_kept rfl dX11_write_153 h (fun v28 h => ?_)
            obtain ⟨J188, eJ188, h⟩ := jn_e h
            have hJ188 : ∀ (M29 : gM) (H : Heap) (locs : List Loc) (ls : Array Slot), gZ D mLay dA mLive A (gA mLive A) s.heap M29 H locs → lv_has ls 10 [(0, .ref (A m_o)), (1, .int a1), (2, .int a2), (3, .int a3), (4, .int a4), (9, .int x27)] → J188 M29 = some y → W p l e (headSpec wmX11_write ({ frames := 6, cells := 0, slots := 0, locals := 157 } : Room)).room s m args below meth c H locs 0 0 (MQ below (mQl D dA A y) args s 0 0 (gA mLive A)) (F0 m 188 ls []) := by
              intro M29 H locs ls Z hl h
              rw [eJ188] at h
              try dsimp only at h
              refine lv_aload_n hx hb dX11_write_188 rfl (lv_at hl 0 rfl) ?_
              refine mr_kept S X Z hin hl_65 dX11_write_189 ?_
              refine lv_iload hx hb dX11_write_192 (lv_at hl 5 rfl) ?_
              refine g_zald S X Z ml_kept rfl dX11_write_194 h (fun v30 h => ?_)
              obtain ⟨J215, eJ215, h⟩ := jn_e h
              have hJ215 : ∀ (M31 : gM) (H : Heap) (locs : List Loc) (ls : Array Slot), gZ D mLay dA mLive A (gA mLive A) s.heap M31 H locs → lv_has ls 10 [(0, .ref (A m_o)), (1, .int a1), (2, .int a2)] → J215 M31 = some y → W p l e (headSpec wmX11_write ({ frames := 6, cells := 0, slots := 0, locals := 157 } : Room)).room s m args below meth c H locs 0 0 (MQ below (mQl D dA A y) args s 0 0 (gA mLive A)) (F0 m 215 ls []) := by
                intro M31 H locs ls Z hl h
                rw [eJ215] at h
                try dsimp only at h
                refine lv_aload_n hx hb dX11_write_215 rfl (lv_at hl 0 rfl) ?_
                refine lv_iload_n hx hb dX11_write_216 rfl (lv_at hl 1 rfl) ?_
                refine lv_iload_n hx hb dX11_write_217 rfl (lv_at hl 2 rfl) ?_
                obtain ⟨M33, hc32, h⟩ := o1_e h
                refine g_Vv (As := [.int a1, .int a2]) (rest := []) S X Z mlv_o rfl rfl (t_X11_follow l D dA A hJ  hc32) (cwV 2 hts (mGV (mB 234 rfl) (mB 235 rfl) (mB 236 rfl) (mB 63 rfl) (mB 210 rfl)) rfl rfl rfl (by decide +kernel) ⟨Nat.le_of_ble_eq_true rfl, Nat.le_of_ble_eq_true rfl⟩) rfl hl.1 rfl (Nat.le_of_ble_eq_true rfl) dX11_write_218 ⟨Nat.zero_le _, Nat.zero_le _⟩ (fun H locs Z => ?_)
                refine lv_aload_n hx hb dX11_write_221 rfl (lv_at hl 0 rfl) ?_
                refine mr_set S X Z hin hl_289 dX11_write_222 h (fun v34 h => ?_)
                obtain ⟨v36, hc35, h⟩ := o1_e h
                refine g_Si (As := [.int v34]) (rest := []) S X Z (t_X11_manyOf l D dA A hJ  hc35) (va_cwS 1 hts (mGS (mB 237 rfl) (mB 238 rfl) (mB 63 rfl) (mB 79 rfl)) rfl rfl rfl (by decide +kernel) ⟨Nat.le_of_ble_eq_true rfl, Nat.le_of_ble_eq_true rfl⟩) rfl hl.1 rfl (Nat.le_of_ble_eq_true rfl) dX11_write_225 ⟨Nat.zero_le _, Nat.zero_le _⟩ (fun H locs Z => ?_)
                refine lv_i2l hx hb dX11_write_228 rfl ?_
                have hy := Option.some.inj h
                subst hy
                exact g_rl S Z hr hlocks dX11_write_229
              refine lv_if_eq (tgt := 215) hx hb dX11_write_195 (by decide) (fun c37 => ?_) (fun c37 => ?_)
              · have h := if_t c37 h
                exact hJ215 M29 _ _ _ Z (lv_sub hl [0, 1, 2] rfl) h
              · have h := if_f c37 h
                refine lv_aload_n hx hb dX11_write_198 rfl (lv_at hl 0 rfl) ?_
                refine mr_keptValue S X Z hin hl_68 dX11_write_199 ?_
                refine lv_iload hx hb dX11_write_202 (lv_at hl 5 rfl) ?_
                refine lv_iload_n hx hb dX11_write_204 rfl (lv_at hl 3 rfl) ?_
                refine g_iast S X Z ml_keptValue rfl dX11_write_205 h (fun M38 H locs Z h => ?_)
                refine lv_aload_n hx hb dX11_write_206 rfl (lv_at hl 0 rfl) ?_
                refine mr_keptSize S X Z hin hl_71 dX11_write_207 ?_
                refine lv_iload hx hb dX11_write_210 (lv_at hl 5 rfl) ?_
                refine lv_iload hx hb dX11_write_212 (lv_at hl 4 rfl) ?_
                refine g_iast S X Z ml_keptSize rfl dX11_write_214 h (fun M39 H locs Z h => ?_)
                exact hJ215 M39 _ _ _ Z (lv_sub hl [0, 1, 2] rfl) h
            refine lv_if_eq (tgt := 188) hx hb dX11_write_154 (by decide) (fun c40 => ?_) (fun c40 => ?_)
            · have h := if_t c40 h
              exact hJ188 M26 _ _ _ Z (lv_sub hl [3, 4, 5, 6, 7, 0] rfl) h
            · have h := if_f c40 h
              refine lv_aload_n hx hb dX11_write_157 rfl (lv_at hl 3 rfl) ?_
              refine lv_iload_n hx hb dX11_write_158 rfl (lv_at hl 4 rfl) ?_
              refine lv_aload_n hx hb dX11_write_159 rfl (lv_at hl 3 rfl) ?_
              refine lv_iload_n hx hb dX11_write_160 rfl (lv_at hl 5 rfl) ?_
              refine lv_iload hx hb dX11_write_161 (lv_at hl 7 rfl) ?_
              obtain ⟨v42, hc41, h⟩ := o1_e h
              refine g_Vi (As := [.int a2, .int a4]) (rest := [.int a1, .ref (A m_o)]) S X Z mlv_o rfl rfl (t_X11_weight l D dA A hJ  hc41) (cwV 2 hts (mGV (mB 114 rfl) (mB 115 rfl) (mB 116 rfl) (mB 63 rfl) (mB 112 rfl)) rfl rfl rfl (by decide +kernel) ⟨Nat.le_of_ble_eq_true rfl, Nat.le_of_ble_eq_true rfl⟩) rfl hl.1 rfl (Nat.le_of_ble_eq_true rfl) dX11_write_163 ⟨Nat.zero_le _, Nat.zero_le _⟩ (fun H locs Z => ?_)
              refine lv_aload_n hx hb dX11_write_166 rfl (lv_at hl 3 rfl) ?_
              refine lv_iload_n hx hb dX11_write_167 rfl (lv_at hl 4 rfl) ?_
              refine lv_iload_n hx hb dX11_write_168 rfl (lv_at hl 5 rfl) ?_
              obtain ⟨v44, hc43, h⟩ := o1_e h
              refine g_Vi (As := [.int a1, .int a2]) (rest := [.int v42, .int a1, .ref (A m_o)]) S X Z mlv_o rfl rfl (t_X11_weightKept l D dA A hJ  hc43) (cwV 2 hts (mGV (mB 123 rfl) (mB 124 rfl) (mB 125 rfl) (mB 63 rfl) (mB 113 rfl)) rfl rfl rfl (by decide +kernel) ⟨Nat.le_of_ble_eq_true rfl, Nat.le_of_ble_eq_true rfl⟩) rfl hl.1 rfl (Nat.le_of_ble_eq_true rfl) dX11_write_169 ⟨Nat.zero_le _, Nat.zero_le _⟩ (fun H locs Z => ?_)
              refine lv_isub hx hb dX11_write_172 ?_
              refine lv_iload_n hx hb dX11_write_173 rfl (lv_at hl 5 rfl) ?_
              refine lv_bipush (v := (10 : Int32)) hx hb dX11_write_174 (by decide) ?_
              obtain ⟨v47, M46, hc45, h⟩ := ob_e h
              refine g_Vi (As := [.int a1, .int (v42 - v44), .int a2, .int (10 : Int32)]) (rest := []) S X Z mlv_o rfl rfl (t_X11_makeRoom l D dA A hJ  hc45) (cwV 4 hts (mGV (mB 147 rfl) (mB 148 rfl) (mB 149 rfl) (mB 63 rfl) (mB 135 rfl)) rfl rfl rfl (by decide +kernel) ⟨Nat.le_of_ble_eq_true rfl, Nat.le_of_ble_eq_true rfl⟩) rfl hl.1 rfl (Nat.le_of_ble_eq_true rfl) dX11_write_176 ⟨Nat.zero_le _, Nat.zero_le _⟩ (fun H locs Z => ?_)
              refine lv_if_ne (tgt := 188) hx hb dX11_write_179 (by decide) (fun c48 => ?_) (fun c48 => ?_)
              · have h := if_f c48 h
                exact hJ188 M46 _ _ _ Z (lv_sub hl [3, 4, 5, 6, 7, 0] rfl) h
              · have h := if_t c48 h
                refine lv_aload_n hx hb dX11_write_182 rfl (lv_at hl 3 rfl) ?_
                refine lv_iload_n hx hb dX11_write_183 rfl (lv_at hl 4 rfl) ?_
                refine lv_iload_n hx hb dX11_write_184 rfl (lv_at hl 5 rfl) ?_
                obtain ⟨M50, hc49, h⟩ := o1_e h
                refine g_Vv (As := [.int a1, .int a2]) (rest := []) S X Z mlv_o rfl rfl (t_X11_forget l D dA A hJ  hc49) (cwV 2 hts (mGV (mB 132 rfl) (mB 133 rfl) (mB 134 rfl) (mB 63 rfl) (mB 111 rfl)) rfl rfl rfl (by decide +kernel) ⟨Nat.le_of_ble_eq_true rfl, Nat.le_of_ble_eq_true rfl⟩) rfl hl.1 rfl (Nat.le_of_ble_eq_true rfl) dX11_write_185 ⟨Nat.zero_le _, Nat.zero_le _⟩ (fun H locs Z => ?_)
                exact hJ188 M50 _ _ _ Z (lv_sub hl [3, 4, 5, 6, 7, 0] rfl) h
          · have h := if_f c19 h
            refine lv_lload hx hb dX11_write_110 (lv_at hl 0 rfl) ?_
            have hy := Option.some.inj h
            subst hy
            exact g_rl S Z hr hlocks dX11_write_112
        · have h := if_f c15 h
          refine lv_aload_n hx hb dX11_write_83 rfl (lv_at hl 1 rfl) ?_
          refine lv_iload_n hx hb dX11_write_84 rfl (lv_at hl 2 rfl) ?_
          refine lv_iload_n hx hb dX11_write_85 rfl (lv_at hl 3 rfl) ?_
          refine lv_iload_n hx hb dX11_write_86 rfl (lv_at hl 4 rfl) ?_
          refine lv_iload hx hb dX11_write_87 (lv_at hl 5 rfl) ?_
          obtain ⟨v53, M52, hc51, h⟩ := ob_e h
          refine g_Vl (As := [.int a1, .int a2, .int a3, .int a4]) (rest := []) S X Z mlv_o rfl rfl (t_X11_writeAlone l D dA A hJ  hc51) (cwV 4 hts (mGV (mB 225 rfl) (mB 226 rfl) (mB 227 rfl) (mB 63 rfl) (mB 224 rfl)) rfl rfl rfl (by decide +kernel) ⟨Nat.le_of_ble_eq_true rfl, Nat.le_of_ble_eq_true rfl⟩) rfl hl.1 rfl (Nat.le_of_ble_eq_true rfl) dX11_write_89 ⟨Nat.zero_le _, Nat.zero_le _⟩ (fun H locs Z => ?_)
          have hy := Option.some.inj h
          subst hy
          exact g_rl S Z hr hlocks dX11_write_92
      · have h := if_f c10 h
        refine lv_lload hx hb dX11_write_62 (lv_at hl 0 rfl) ?_
        have hy := Option.some.inj h
        subst hy
        exact g_rl S Z hr hlocks dX11_write_64
    · have h := if_f c7 h
      refine lv_lconst (v := (0 : Int64)) hx hb dX11_write_45 (by decide) ?_
      have hy := Option.some.inj h
      subst hy
      exact g_rl S Z hr hlocks dX11_write_46
  obtain ⟨J15, eJ15, h⟩ := jn_e h
  have hJ15 : ∀ (M54 : gM) (H : Heap) (locs : List Loc) (ls : Array Slot), gZ D mLay dA mLive A (gA mLive A) s.heap M54 H locs → lv_has ls 10 [(0, .ref (A m_o)), (1, .int a1), (2, .int a2), (3, .int a3), (4, .int a4)] → J15 M54 = some y → W p l e (headSpec wmX11_write ({ frames := 6, cells := 0, slots := 0, locals := 157 } : Room)).room s m args below meth c H locs 0 0 (MQ below (mQl D dA A y) args s 0 0 (gA mLive A)) (F0 m 15 ls [.ref (A m_o)]) := by
    intro M54 H locs ls Z hl h
    rw [eJ15] at h
    try dsimp only at h
    refine lv_iconst (v := (1 : Int32)) hx hb dX11_write_15 (by decide) ?_
    refine lv_goto (tgt := 35) hx hb dX11_write_16 (by decide) ?_
    exact hJ35 (1 : Int32) M54 _ _ _ Z (lv_sub hl [0, 1, 2, 3, 4] rfl) h
  refine lv_if_eq (tgt := 15) hx hb dX11_write_5 (by decide) (fun c55 => ?_) (fun c55 => ?_)
  · have h := if_t c55 h
    exact hJ15 M _ _ _ Z (lv_sub hl [0, 1, 2, 3, 4] rfl) h
  · have h := if_f c55 h
    refine lv_iload_n hx hb dX11_write_8 rfl (lv_at hl 2 rfl) ?_
    obtain ⟨v57, hc56, h⟩ := o1_e h
    refine g_Si (As := [.int a2]) (rest := [.ref (A m_o)]) S X Z (t_X11_isObject l D dA A hJ  hc56) (va_cwS 1 hts (mGS (mB 93 rfl) (mB 94 rfl) (mB 63 rfl) (mB 65 rfl)) rfl rfl rfl (by decide +kernel) ⟨Nat.le_of_ble_eq_true rfl, Nat.le_of_ble_eq_true rfl⟩) rfl hl.1 rfl (Nat.le_of_ble_eq_true rfl) dX11_write_9 ⟨Nat.zero_le _, Nat.zero_le _⟩ (fun H locs Z => ?_)
    refine lv_if_ne (tgt := 19) hx hb dX11_write_12 (by decide) (fun c58 => ?_) (fun c58 => ?_)
    · have h := if_f c58 h
      refine lv_iload hx hb dX11_write_19 (lv_at hl 4 rfl) ?_
      refine lv_iconst (v := (0 : Int32)) hx hb dX11_write_21 (by decide) ?_
      refine lv_bipush (v := (6 : Int32)) hx hb dX11_write_22 (by decide) ?_
      obtain ⟨v60, hc59, h⟩ := o1_e h
      refine g_Si (As := [.int a4, .int (0 : Int32), .int (6 : Int32)]) (rest := [.ref (A m_o)]) S X Z (t_X11_in l D dA A hJ  hc59) (va_cwS 3 hts (mGS (mB 61 rfl) (mB 62 rfl) (mB 63 rfl) (mB 59 rfl)) rfl rfl rfl (by decide +kernel) ⟨Nat.le_of_ble_eq_true rfl, Nat.le_of_ble_eq_true rfl⟩) rfl hl.1 rfl (Nat.le_of_ble_eq_true rfl) dX11_write_24 ⟨Nat.zero_le _, Nat.zero_le _⟩ (fun H locs Z => ?_)
      refine lv_if_eq (tgt := 34) hx hb dX11_write_27 (by decide) (fun c61 => ?_) (fun c61 => ?_)
      · have h := if_t c61 h
        refine lv_iconst (v := (2 : Int32)) hx hb dX11_write_34 (by decide) ?_
        exact hJ35 (2 : Int32) M _ _ _ Z (lv_sub hl [0, 1, 2, 3, 4] rfl) h
      · have h := if_f c61 h
        refine lv_iconst (v := (0 : Int32)) hx hb dX11_write_30 (by decide) ?_
        refine lv_goto (tgt := 35) hx hb dX11_write_31 (by decide) ?_
        exact hJ35 (0 : Int32) M _ _ _ Z (lv_sub hl [0, 1, 2, 3, 4] rfl) h
    · have h := if_t c58 h
      exact hJ15 M _ _ _ Z (lv_sub hl [0, 1, 2, 3, 4] rfl) h
-- X11_newObject (IIZ)I: 26 instructions
theorem dX11_newObject_0 : decode cX11_newObject 0 = .ok (.aload_n 0, 1) := by decide +kernel
theorem dX11_newObject_1 : decode cX11_newObject 1 = .ok (.getfield 162, 3) := by decide +kernel
theorem dX11_newObject_4 : decode cX11_newObject 4 = .ok (.istore 4, 2) := by decide +kernel
theorem dX11_newObject_6 : decode cX11_newObject 6 = .ok (.aload_n 0, 1) := by decide +kernel
theorem dX11_newObject_7 : decode cX11_newObject 7 = .ok (.dup, 1) := by decide +kernel
theorem dX11_newObject_8 : decode cX11_newObject 8 = .ok (.getfield 162, 3) := by decide +kernel
theorem dX11_newObject_11 : decode cX11_newObject 11 = .ok (.iconst 1, 1) := by decide +kernel
theorem dX11_newObject_12 : decode cX11_newObject 12 = .ok (.iadd, 1) := by decide +kernel
theorem dX11_newObject_13 : decode cX11_newObject 13 = .ok (.putfield 162, 3) := by decide +kernel
theorem dX11_newObject_16 : decode cX11_newObject 16 = .ok (.aload_n 0, 1) := by decide +kernel
theorem dX11_newObject_17 : decode cX11_newObject 17 = .ok (.getfield 22, 3) := by decide +kernel
theorem dX11_newObject_20 : decode cX11_newObject 20 = .ok (.iload 4, 2) := by decide +kernel
theorem dX11_newObject_22 : decode cX11_newObject 22 = .ok (.iload_n 1, 1) := by decide +kernel
theorem dX11_newObject_23 : decode cX11_newObject 23 = .ok (.iastore, 1) := by decide +kernel
theorem dX11_newObject_24 : decode cX11_newObject 24 = .ok (.aload_n 0, 1) := by decide +kernel
theorem dX11_newObject_25 : decode cX11_newObject 25 = .ok (.getfield 26, 3) := by decide +kernel
theorem dX11_newObject_28 : decode cX11_newObject 28 = .ok (.iload 4, 2) := by decide +kernel
theorem dX11_newObject_30 : decode cX11_newObject 30 = .ok (.iload_n 2, 1) := by decide +kernel
theorem dX11_newObject_31 : decode cX11_newObject 31 = .ok (.iastore, 1) := by decide +kernel
theorem dX11_newObject_32 : decode cX11_newObject 32 = .ok (.aload_n 0, 1) := by decide +kernel
theorem dX11_newObject_33 : decode cX11_newObject 33 = .ok (.getfield 29, 3) := by decide +kernel
theorem dX11_newObject_36 : decode cX11_newObject 36 = .ok (.iload 4, 2) := by decide +kernel
theorem dX11_newObject_38 : decode cX11_newObject 38 = .ok (.iload_n 3, 1) := by decide +kernel
theorem dX11_newObject_39 : decode cX11_newObject 39 = .ok (.bastore, 1) := by decide +kernel
theorem dX11_newObject_40 : decode cX11_newObject 40 = .ok (.iload 4, 2) := by decide +kernel
theorem dX11_newObject_42 : decode cX11_newObject 42 = .ok (.ireturn, 1) := by decide +kernel
abbrev wmX11_newObject : List Cond := .code yX11_newObject cX11_newObject 5 (some .int) :: mBig
def f_X11_newObject (M : gM) (a1 : Int32) (a2 : Int32) (a3 : Int32) : Option (Int32 × gM) :=
  lt (M m_o 6) (fun v1 => lt (M m_o 6) (fun v2 => lt (gset M m_o 6 (v2 + (1 : Int32))) (fun M3 => wr M3 m_parent 48 v1 a1 (fun M4 => wr M4 m_name 48 v1 a2 (fun M5 => wz M5 m_isDirectory 48 v1 a3 (fun M6 => some (v1, M6)))))))
set_option maxHeartbeats 4000000 in
set_option maxRecDepth 100000 in
theorem t_X11_newObject (l : Launch) (D : va_G) (dA : Nat → ClassId) (A : gI → Nat) (hJ : gJ mLive A) {M : gM} {a1 : Int32} {a2 : Int32} {a3 : Int32}  {y : (Int32 × gM)} (h : f_X11_newObject M a1 a2 a3 = some y) : mMi l yX11_newObject wmX11_newObject ({ frames := 0, cells := 0, slots := 0, locals := 0 } : Room) D dA A [.ref (A m_o), .int a1, .int a2, .int a3] M y.1 y.2 := by
  refine Met.ofW (cc := cX11_newObject) (maxL := 5) (ret := (some .int)) (by decide) rfl ?_
  intro p e s m args below meth c s₁ B hml hv
  obtain ⟨rfl, hP, hK⟩ := hv
  generalize hargs : ([.ref (A m_o), .int a1, .int a2, .int a3] : List Value).toArray = args at B ⊢
  have S : CallFix p m c cX11_newObject 5 s args wmX11_newObject RX11 := ⟨B.exec, B.bytes, hml, findClass_of_methodNamed B.named, atoms_spec (ws := wmX11_newObject) B.pre⟩
  obtain ⟨hx, hb, -, hown, hts⟩ := id S
  have hr := B.returns
  have hlocks := B.notSynchronized
  have X : gX D vwCl dA mLive A (gA mLive A) s := ⟨hK, hJ, fun i hi => ⟨i, hi, rfl⟩⟩
  have Z : gZ D mLay dA mLive A (gA mLive A) s.heap M s.heap [] := ⟨hP, va_S.rf⟩
  have hin : ∀ w ∈ wsX110, w ∈ wmX11_newObject := m_in
  have hl_22 := hts (.fieldLink RX11 22 "ReplicaFilesModel" "parent" "[I") (mBc 9 rfl)
  have hl_26 := hts (.fieldLink RX11 26 "ReplicaFilesModel" "name" "[I") (mBc 10 rfl)
  have hl_29 := hts (.fieldLink RX11 29 "ReplicaFilesModel" "isDirectory" "[Z") (mBc 11 rfl)
  have hl_162 := hts (.fieldLink RX11 162 "ReplicaFilesModel" "made" "I") (mBc 55 rfl)
  have hl := lv_entry ([.ref (A m_o), .int a1, .int a2, .int a3]) (n := 5) (Nat.le_of_ble_eq_true rfl)
  rw [← hargs, lg_entry_eq, hargs]
  generalize (lg_sl ([.ref (A m_o), .int a1, .int a2, .int a3]) ++ List.replicate (5 - (lg_sl ([.ref (A m_o), .int a1, .int a2, .int a3])).length) Slot.unset).toArray = ls at hl ⊢
  have hl : lv_has ls 5 [(0, .ref (A m_o)), (1, .int a1), (2, .int a2), (3, .int a3)] := hl
  unfold f_X11_newObject at h
  refine lv_aload_n hx hb dX11_newObject_0 rfl (lv_at hl 0 rfl) ?_
  refine mr_made S X Z hin hl_162 dX11_newObject_1 h (fun v1 h => ?_)
  refine lv_istore (lv' := [(4, .int v1), (0, .ref (A m_o)), (1, .int a1), (2, .int a2), (3, .int a3)]) hx hb dX11_newObject_4 hl (by decide) rfl (fun ls hl => ?_)
  refine lv_aload_n hx hb dX11_newObject_6 rfl (lv_at hl 1 rfl) ?_
  refine lv_dup hx hb dX11_newObject_7 rfl ?_
  refine mr_made S X Z hin hl_162 dX11_newObject_8 h (fun v2 h => ?_)
  refine lv_iconst (v := (1 : Int32)) hx hb dX11_newObject_11 (by decide) ?_
  refine lv_iadd hx hb dX11_newObject_12 ?_
  refine mp_made S X Z hin hl_162 dX11_newObject_13 h (fun M3 H locs Z h => ?_)
  refine lv_aload_n hx hb dX11_newObject_16 rfl (lv_at hl 1 rfl) ?_
  refine mr_parent S X Z hin hl_22 dX11_newObject_17 ?_
  refine lv_iload hx hb dX11_newObject_20 (lv_at hl 0 rfl) ?_
  refine lv_iload_n hx hb dX11_newObject_22 rfl (lv_at hl 2 rfl) ?_
  refine g_iast S X Z ml_parent rfl dX11_newObject_23 h (fun M4 H locs Z h => ?_)
  refine lv_aload_n hx hb dX11_newObject_24 rfl (lv_at hl 1 rfl) ?_
  refine mr_name S X Z hin hl_26 dX11_newObject_25 ?_
  refine lv_iload hx hb dX11_newObject_28 (lv_at hl 0 rfl) ?_
  refine lv_iload_n hx hb dX11_newObject_30 rfl (lv_at hl 3 rfl) ?_
  refine g_iast S X Z ml_name rfl dX11_newObject_31 h (fun M5 H locs Z h => ?_)
  refine lv_aload_n hx hb dX11_newObject_32 rfl (lv_at hl 1 rfl) ?_
  refine mr_isDirectory S X Z hin hl_29 dX11_newObject_33 ?_
  refine lv_iload hx hb dX11_newObject_36 (lv_at hl 0 rfl) ?_
  refine lv_iload_n hx hb dX11_newObject_38 rfl (lv_at hl 4 rfl) ?_
  refine g_zast S X Z ml_isDirectory rfl dX11_newObject_39 h (fun M6 H locs Z h => ?_)
  refine lv_iload hx hb dX11_newObject_40 (lv_at hl 0 rfl) ?_
  have hy := Option.some.inj h
  subst hy
  exact g_ri S Z hr hlocks dX11_newObject_42
-- X11_keepNew (II)V: 41 instructions
theorem dX11_keepNew_0 : decode cX11_keepNew 0 = .ok (.bipush 48, 2) := by decide +kernel
theorem dX11_keepNew_2 : decode cX11_keepNew 2 = .ok (.iload_n 1, 1) := by decide +kernel
theorem dX11_keepNew_3 : decode cX11_keepNew 3 = .ok (.imul, 1) := by decide +kernel
theorem dX11_keepNew_4 : decode cX11_keepNew 4 = .ok (.iload_n 2, 1) := by decide +kernel
theorem dX11_keepNew_5 : decode cX11_keepNew 5 = .ok (.iadd, 1) := by decide +kernel
theorem dX11_keepNew_6 : decode cX11_keepNew 6 = .ok (.istore_n 3, 1) := by decide +kernel
theorem dX11_keepNew_7 : decode cX11_keepNew 7 = .ok (.aload_n 0, 1) := by decide +kernel
theorem dX11_keepNew_8 : decode cX11_keepNew 8 = .ok (.getfield 65, 3) := by decide +kernel
theorem dX11_keepNew_11 : decode cX11_keepNew 11 = .ok (.iload_n 3, 1) := by decide +kernel
theorem dX11_keepNew_12 : decode cX11_keepNew 12 = .ok (.iconst 1, 1) := by decide +kernel
theorem dX11_keepNew_13 : decode cX11_keepNew 13 = .ok (.bastore, 1) := by decide +kernel
theorem dX11_keepNew_14 : decode cX11_keepNew 14 = .ok (.aload_n 0, 1) := by decide +kernel
theorem dX11_keepNew_15 : decode cX11_keepNew 15 = .ok (.getfield 80, 3) := by decide +kernel
theorem dX11_keepNew_18 : decode cX11_keepNew 18 = .ok (.iload_n 3, 1) := by decide +kernel
theorem dX11_keepNew_19 : decode cX11_keepNew 19 = .ok (.iconst 0, 1) := by decide +kernel
theorem dX11_keepNew_20 : decode cX11_keepNew 20 = .ok (.bastore, 1) := by decide +kernel
theorem dX11_keepNew_21 : decode cX11_keepNew 21 = .ok (.aload_n 0, 1) := by decide +kernel
theorem dX11_keepNew_22 : decode cX11_keepNew 22 = .ok (.getfield 68, 3) := by decide +kernel
theorem dX11_keepNew_25 : decode cX11_keepNew 25 = .ok (.iload_n 3, 1) := by decide +kernel
theorem dX11_keepNew_26 : decode cX11_keepNew 26 = .ok (.iconst 0, 1) := by decide +kernel
theorem dX11_keepNew_27 : decode cX11_keepNew 27 = .ok (.iastore, 1) := by decide +kernel
theorem dX11_keepNew_28 : decode cX11_keepNew 28 = .ok (.aload_n 0, 1) := by decide +kernel
theorem dX11_keepNew_29 : decode cX11_keepNew 29 = .ok (.getfield 71, 3) := by decide +kernel
theorem dX11_keepNew_32 : decode cX11_keepNew 32 = .ok (.iload_n 3, 1) := by decide +kernel
theorem dX11_keepNew_33 : decode cX11_keepNew 33 = .ok (.iconst 0, 1) := by decide +kernel
theorem dX11_keepNew_34 : decode cX11_keepNew 34 = .ok (.iastore, 1) := by decide +kernel
theorem dX11_keepNew_35 : decode cX11_keepNew 35 = .ok (.aload_n 0, 1) := by decide +kernel
theorem dX11_keepNew_36 : decode cX11_keepNew 36 = .ok (.aload_n 0, 1) := by decide +kernel
theorem dX11_keepNew_37 : decode cX11_keepNew 37 = .ok (.getfield 74, 3) := by decide +kernel
theorem dX11_keepNew_40 : decode cX11_keepNew 40 = .ok (.iload_n 3, 1) := by decide +kernel
theorem dX11_keepNew_41 : decode cX11_keepNew 41 = .ok (.invokevirtual 200, 3) := by decide +kernel
theorem dX11_keepNew_44 : decode cX11_keepNew 44 = .ok (.aload_n 0, 1) := by decide +kernel
theorem dX11_keepNew_45 : decode cX11_keepNew 45 = .ok (.getfield 77, 3) := by decide +kernel
theorem dX11_keepNew_48 : decode cX11_keepNew 48 = .ok (.iload_n 3, 1) := by decide +kernel
theorem dX11_keepNew_49 : decode cX11_keepNew 49 = .ok (.iconst 0, 1) := by decide +kernel
theorem dX11_keepNew_50 : decode cX11_keepNew 50 = .ok (.iastore, 1) := by decide +kernel
theorem dX11_keepNew_51 : decode cX11_keepNew 51 = .ok (.aload_n 0, 1) := by decide +kernel
theorem dX11_keepNew_52 : decode cX11_keepNew 52 = .ok (.iload_n 1, 1) := by decide +kernel
theorem dX11_keepNew_53 : decode cX11_keepNew 53 = .ok (.iload_n 2, 1) := by decide +kernel
theorem dX11_keepNew_54 : decode cX11_keepNew 54 = .ok (.invokevirtual 243, 3) := by decide +kernel
theorem dX11_keepNew_57 : decode cX11_keepNew 57 = .ok (.return_, 1) := by decide +kernel
abbrev wmX11_keepNew : List Cond := .code yX11_keepNew cX11_keepNew 4 none :: mBig
def f_X11_keepNew (M : gM) (a1 : Int32) (a2 : Int32) : Option gM :=
  lt ((((48 : Int32) * a1) + a2)) (fun x1 => wz M m_kept 192 x1 (1 : Int32) (fun M2 => wz M2 m_dirty 192 x1 (0 : Int32) (fun M3 => wr M3 m_keptValue 192 x1 (0 : Int32) (fun M4 => wr M4 m_keptSize 192 x1 (0 : Int32) (fun M5 => o1 (f_X11_clearRow M5 m_keptVector x1) (fun M7 => wr M7 m_promised 192 x1 (0 : Int32) (fun M8 => o1 (f_X11_use M8 a1 a2) (fun M10 => some M10))))))))
set_option maxHeartbeats 4000000 in
set_option maxRecDepth 100000 in
theorem t_X11_keepNew (l : Launch) (D : va_G) (dA : Nat → ClassId) (A : gI → Nat) (hJ : gJ mLive A) {M : gM} {a1 : Int32} {a2 : Int32}  {y : gM} (h : f_X11_keepNew M a1 a2 = some y) : mMv l yX11_keepNew wmX11_keepNew ({ frames := 1, cells := 0, slots := 0, locals := 23 } : Room) D dA A [.ref (A m_o), .int a1, .int a2] M y := by
  refine Met.ofW (cc := cX11_keepNew) (maxL := 4) (ret := none) (by decide) rfl ?_
  intro p e s m args below meth c s₁ B hml hv
  obtain ⟨rfl, hP, hK⟩ := hv
  generalize hargs : ([.ref (A m_o), .int a1, .int a2] : List Value).toArray = args at B ⊢
  have S : CallFix p m c cX11_keepNew 4 s args wmX11_keepNew RX11 := ⟨B.exec, B.bytes, hml, findClass_of_methodNamed B.named, atoms_spec (ws := wmX11_keepNew) B.pre⟩
  obtain ⟨hx, hb, -, hown, hts⟩ := id S
  have hr := B.returns
  have hlocks := B.notSynchronized
  have X : gX D vwCl dA mLive A (gA mLive A) s := ⟨hK, hJ, fun i hi => ⟨i, hi, rfl⟩⟩
  have Z : gZ D mLay dA mLive A (gA mLive A) s.heap M s.heap [] := ⟨hP, va_S.rf⟩
  have hin : ∀ w ∈ wsX110, w ∈ wmX11_keepNew := m_in
  have hl_65 := hts (.fieldLink RX11 65 "ReplicaFilesModel" "kept" "[Z") (mBc 23 rfl)
  have hl_68 := hts (.fieldLink RX11 68 "ReplicaFilesModel" "keptValue" "[I") (mBc 24 rfl)
  have hl_71 := hts (.fieldLink RX11 71 "ReplicaFilesModel" "keptSize" "[I") (mBc 25 rfl)
  have hl_74 := hts (.fieldLink RX11 74 "ReplicaFilesModel" "keptVector" "[I") (mBc 26 rfl)
  have hl_77 := hts (.fieldLink RX11 77 "ReplicaFilesModel" "promised" "[I") (mBc 27 rfl)
  have hl_80 := hts (.fieldLink RX11 80 "ReplicaFilesModel" "dirty" "[Z") (mBc 28 rfl)
  have hl := lv_entry ([.ref (A m_o), .int a1, .int a2]) (n := 4) (Nat.le_of_ble_eq_true rfl)
  rw [← hargs, lg_entry_eq, hargs]
  generalize (lg_sl ([.ref (A m_o), .int a1, .int a2]) ++ List.replicate (4 - (lg_sl ([.ref (A m_o), .int a1, .int a2])).length) Slot.unset).toArray = ls at hl ⊢
  have hl : lv_has ls 4 [(0, .ref (A m_o)), (1, .int a1), (2, .int a2)] := hl
  unfold f_X11_keepNew at h
  refine lv_bipush (v := (48 : Int32)) hx hb dX11_keepNew_0 (by decide) ?_
  refine lv_iload_n hx hb dX11_keepNew_2 rfl (lv_at hl 1 rfl) ?_
  refine lv_imul hx hb dX11_keepNew_3 ?_
  refine lv_iload_n hx hb dX11_keepNew_4 rfl (lv_at hl 2 rfl) ?_
  refine lv_iadd hx hb dX11_keepNew_5 ?_
  refine g_topi h (fun x1 h => ?_)
  refine lv_istore_n (lv' := [(3, .int x1), (0, .ref (A m_o)), (1, .int a1), (2, .int a2)]) hx hb dX11_keepNew_6 rfl hl (by decide) rfl (fun ls hl => ?_)
  refine lv_aload_n hx hb dX11_keepNew_7 rfl (lv_at hl 1 rfl) ?_
  refine mr_kept S X Z hin hl_65 dX11_keepNew_8 ?_
  refine lv_iload_n hx hb dX11_keepNew_11 rfl (lv_at hl 0 rfl) ?_
  refine lv_iconst (v := (1 : Int32)) hx hb dX11_keepNew_12 (by decide) ?_
  refine g_zast S X Z ml_kept rfl dX11_keepNew_13 h (fun M2 H locs Z h => ?_)
  refine lv_aload_n hx hb dX11_keepNew_14 rfl (lv_at hl 1 rfl) ?_
  refine mr_dirty S X Z hin hl_80 dX11_keepNew_15 ?_
  refine lv_iload_n hx hb dX11_keepNew_18 rfl (lv_at hl 0 rfl) ?_
  refine lv_iconst (v := (0 : Int32)) hx hb dX11_keepNew_19 (by decide) ?_
  refine g_zast S X Z ml_dirty rfl dX11_keepNew_20 h (fun M3 H locs Z h => ?_)
  refine lv_aload_n hx hb dX11_keepNew_21 rfl (lv_at hl 1 rfl) ?_
  refine mr_keptValue S X Z hin hl_68 dX11_keepNew_22 ?_
  refine lv_iload_n hx hb dX11_keepNew_25 rfl (lv_at hl 0 rfl) ?_
  refine lv_iconst (v := (0 : Int32)) hx hb dX11_keepNew_26 (by decide) ?_
  refine g_iast S X Z ml_keptValue rfl dX11_keepNew_27 h (fun M4 H locs Z h => ?_)
  refine lv_aload_n hx hb dX11_keepNew_28 rfl (lv_at hl 1 rfl) ?_
  refine mr_keptSize S X Z hin hl_71 dX11_keepNew_29 ?_
  refine lv_iload_n hx hb dX11_keepNew_32 rfl (lv_at hl 0 rfl) ?_
  refine lv_iconst (v := (0 : Int32)) hx hb dX11_keepNew_33 (by decide) ?_
  refine g_iast S X Z ml_keptSize rfl dX11_keepNew_34 h (fun M5 H locs Z h => ?_)
  refine lv_aload_n hx hb dX11_keepNew_35 rfl (lv_at hl 1 rfl) ?_
  refine lv_aload_n hx hb dX11_keepNew_36 rfl (lv_at hl 1 rfl) ?_
  refine mr_keptVector S X Z hin hl_74 dX11_keepNew_37 ?_
  refine lv_iload_n hx hb dX11_keepNew_40 rfl (lv_at hl 0 rfl) ?_
  obtain ⟨M7, hc6, h⟩ := o1_e h
  refine g_Vv (As := [.ref (A m_keptVector), .int x1]) (rest := []) S X Z mlv_o rfl rfl (t_X11_clearRow l D dA A hJ ⟨ml_keptVector, rfl⟩ hc6) (cwV 2 hts (mGV (mB 108 rfl) (mB 109 rfl) (mB 110 rfl) (mB 63 rfl) (mB 99 rfl)) rfl rfl rfl (by decide +kernel) ⟨Nat.le_of_ble_eq_true rfl, Nat.le_of_ble_eq_true rfl⟩) rfl hl.1 rfl (Nat.le_of_ble_eq_true rfl) dX11_keepNew_41 ⟨Nat.zero_le _, Nat.zero_le _⟩ (fun H locs Z => ?_)
  refine lv_aload_n hx hb dX11_keepNew_44 rfl (lv_at hl 1 rfl) ?_
  refine mr_promised S X Z hin hl_77 dX11_keepNew_45 ?_
  refine lv_iload_n hx hb dX11_keepNew_48 rfl (lv_at hl 0 rfl) ?_
  refine lv_iconst (v := (0 : Int32)) hx hb dX11_keepNew_49 (by decide) ?_
  refine g_iast S X Z ml_promised rfl dX11_keepNew_50 h (fun M8 H locs Z h => ?_)
  refine lv_aload_n hx hb dX11_keepNew_51 rfl (lv_at hl 1 rfl) ?_
  refine lv_iload_n hx hb dX11_keepNew_52 rfl (lv_at hl 2 rfl) ?_
  refine lv_iload_n hx hb dX11_keepNew_53 rfl (lv_at hl 3 rfl) ?_
  obtain ⟨M10, hc9, h⟩ := o1_e h
  refine g_Vv (As := [.int a1, .int a2]) (rest := []) S X Z mlv_o rfl rfl (t_X11_use l D dA A hJ  hc9) (cwV 2 hts (mGV (mB 153 rfl) (mB 154 rfl) (mB 155 rfl) (mB 63 rfl) (mB 117 rfl)) rfl rfl rfl (by decide +kernel) ⟨Nat.le_of_ble_eq_true rfl, Nat.le_of_ble_eq_true rfl⟩) rfl hl.1 rfl (Nat.le_of_ble_eq_true rfl) dX11_keepNew_54 ⟨Nat.zero_le _, Nat.zero_le _⟩ (fun H locs Z => ?_)
  have hy := Option.some.inj h
  subst hy
  exact g_rv S Z hr hlocks dX11_keepNew_57
-- X11_makeAlone (IIIZ)J: 67 instructions
theorem dX11_makeAlone_0 : decode cX11_makeAlone 0 = .ok (.aload_n 0, 1) := by decide +kernel
theorem dX11_makeAlone_1 : decode cX11_makeAlone 1 = .ok (.getfield 98, 3) := by decide +kernel
theorem dX11_makeAlone_4 : decode cX11_makeAlone 4 = .ok (.iload_n 1, 1) := by decide +kernel
theorem dX11_makeAlone_5 : decode cX11_makeAlone 5 = .ok (.iaload, 1) := by decide +kernel
theorem dX11_makeAlone_6 : decode cX11_makeAlone 6 = .ok (.bipush 12, 2) := by decide +kernel
theorem dX11_makeAlone_8 : decode cX11_makeAlone 8 = .ok (.if_icmp .ne 7, 3) := by decide +kernel
theorem dX11_makeAlone_11 : decode cX11_makeAlone 11 = .ok (.ldc2_w 336, 3) := by decide +kernel
theorem dX11_makeAlone_14 : decode cX11_makeAlone 14 = .ok (.lreturn, 1) := by decide +kernel
theorem dX11_makeAlone_15 : decode cX11_makeAlone 15 = .ok (.aload_n 0, 1) := by decide +kernel
theorem dX11_makeAlone_16 : decode cX11_makeAlone 16 = .ok (.iload_n 1, 1) := by decide +kernel
theorem dX11_makeAlone_17 : decode cX11_makeAlone 17 = .ok (.iload 4, 2) := by decide +kernel
theorem dX11_makeAlone_19 : decode cX11_makeAlone 19 = .ok (.ifCond .eq 7, 3) := by decide +kernel
theorem dX11_makeAlone_22 : decode cX11_makeAlone 22 = .ok (.iconst 2, 1) := by decide +kernel
theorem dX11_makeAlone_23 : decode cX11_makeAlone 23 = .ok (.goto 4, 3) := by decide +kernel
theorem dX11_makeAlone_26 : decode cX11_makeAlone 26 = .ok (.iconst 1, 1) := by decide +kernel
theorem dX11_makeAlone_27 : decode cX11_makeAlone 27 = .ok (.iconst (-1), 1) := by decide +kernel
theorem dX11_makeAlone_28 : decode cX11_makeAlone 28 = .ok (.bipush 10, 2) := by decide +kernel
theorem dX11_makeAlone_30 : decode cX11_makeAlone 30 = .ok (.invokevirtual 269, 3) := by decide +kernel
theorem dX11_makeAlone_33 : decode cX11_makeAlone 33 = .ok (.ifCond .ne 7, 3) := by decide +kernel
theorem dX11_makeAlone_36 : decode cX11_makeAlone 36 = .ok (.ldc2_w 362, 3) := by decide +kernel
theorem dX11_makeAlone_39 : decode cX11_makeAlone 39 = .ok (.lreturn, 1) := by decide +kernel
theorem dX11_makeAlone_40 : decode cX11_makeAlone 40 = .ok (.aload_n 0, 1) := by decide +kernel
theorem dX11_makeAlone_41 : decode cX11_makeAlone 41 = .ok (.iload_n 2, 1) := by decide +kernel
theorem dX11_makeAlone_42 : decode cX11_makeAlone 42 = .ok (.iload_n 3, 1) := by decide +kernel
theorem dX11_makeAlone_43 : decode cX11_makeAlone 43 = .ok (.iload 4, 2) := by decide +kernel
theorem dX11_makeAlone_45 : decode cX11_makeAlone 45 = .ok (.invokevirtual 342, 3) := by decide +kernel
theorem dX11_makeAlone_48 : decode cX11_makeAlone 48 = .ok (.istore 5, 2) := by decide +kernel
theorem dX11_makeAlone_50 : decode cX11_makeAlone 50 = .ok (.aload_n 0, 1) := by decide +kernel
theorem dX11_makeAlone_51 : decode cX11_makeAlone 51 = .ok (.getfield 89, 3) := by decide +kernel
theorem dX11_makeAlone_54 : decode cX11_makeAlone 54 = .ok (.bipush 48, 2) := by decide +kernel
theorem dX11_makeAlone_56 : decode cX11_makeAlone 56 = .ok (.iload_n 1, 1) := by decide +kernel
theorem dX11_makeAlone_57 : decode cX11_makeAlone 57 = .ok (.imul, 1) := by decide +kernel
theorem dX11_makeAlone_58 : decode cX11_makeAlone 58 = .ok (.iload 5, 2) := by decide +kernel
theorem dX11_makeAlone_60 : decode cX11_makeAlone 60 = .ok (.iadd, 1) := by decide +kernel
theorem dX11_makeAlone_61 : decode cX11_makeAlone 61 = .ok (.iconst 1, 1) := by decide +kernel
theorem dX11_makeAlone_62 : decode cX11_makeAlone 62 = .ok (.iastore, 1) := by decide +kernel
theorem dX11_makeAlone_63 : decode cX11_makeAlone 63 = .ok (.aload_n 0, 1) := by decide +kernel
theorem dX11_makeAlone_64 : decode cX11_makeAlone 64 = .ok (.iload_n 1, 1) := by decide +kernel
theorem dX11_makeAlone_65 : decode cX11_makeAlone 65 = .ok (.iload 5, 2) := by decide +kernel
theorem dX11_makeAlone_67 : decode cX11_makeAlone 67 = .ok (.invokevirtual 349, 3) := by decide +kernel
theorem dX11_makeAlone_70 : decode cX11_makeAlone 70 = .ok (.aload_n 0, 1) := by decide +kernel
theorem dX11_makeAlone_71 : decode cX11_makeAlone 71 = .ok (.getfield 80, 3) := by decide +kernel
theorem dX11_makeAlone_74 : decode cX11_makeAlone 74 = .ok (.bipush 48, 2) := by decide +kernel
theorem dX11_makeAlone_76 : decode cX11_makeAlone 76 = .ok (.iload_n 1, 1) := by decide +kernel
theorem dX11_makeAlone_77 : decode cX11_makeAlone 77 = .ok (.imul, 1) := by decide +kernel
theorem dX11_makeAlone_78 : decode cX11_makeAlone 78 = .ok (.iload 5, 2) := by decide +kernel
theorem dX11_makeAlone_80 : decode cX11_makeAlone 80 = .ok (.iadd, 1) := by decide +kernel
theorem dX11_makeAlone_81 : decode cX11_makeAlone 81 = .ok (.iconst 1, 1) := by decide +kernel
theorem dX11_makeAlone_82 : decode cX11_makeAlone 82 = .ok (.bastore, 1) := by decide +kernel
theorem dX11_makeAlone_83 : decode cX11_makeAlone 83 = .ok (.aload_n 0, 1) := by decide +kernel
theorem dX11_makeAlone_84 : decode cX11_makeAlone 84 = .ok (.getfield 80, 3) := by decide +kernel
theorem dX11_makeAlone_87 : decode cX11_makeAlone 87 = .ok (.bipush 48, 2) := by decide +kernel
theorem dX11_makeAlone_89 : decode cX11_makeAlone 89 = .ok (.iload_n 1, 1) := by decide +kernel
theorem dX11_makeAlone_90 : decode cX11_makeAlone 90 = .ok (.imul, 1) := by decide +kernel
theorem dX11_makeAlone_91 : decode cX11_makeAlone 91 = .ok (.iload_n 2, 1) := by decide +kernel
theorem dX11_makeAlone_92 : decode cX11_makeAlone 92 = .ok (.iadd, 1) := by decide +kernel
theorem dX11_makeAlone_93 : decode cX11_makeAlone 93 = .ok (.iconst 1, 1) := by decide +kernel
theorem dX11_makeAlone_94 : decode cX11_makeAlone 94 = .ok (.bastore, 1) := by decide +kernel
theorem dX11_makeAlone_95 : decode cX11_makeAlone 95 = .ok (.aload_n 0, 1) := by decide +kernel
theorem dX11_makeAlone_96 : decode cX11_makeAlone 96 = .ok (.iload_n 1, 1) := by decide +kernel
theorem dX11_makeAlone_97 : decode cX11_makeAlone 97 = .ok (.iconst 1, 1) := by decide +kernel
theorem dX11_makeAlone_98 : decode cX11_makeAlone 98 = .ok (.iload 5, 2) := by decide +kernel
theorem dX11_makeAlone_100 : decode cX11_makeAlone 100 = .ok (.iload_n 2, 1) := by decide +kernel
theorem dX11_makeAlone_101 : decode cX11_makeAlone 101 = .ok (.invokevirtual 364, 3) := by decide +kernel
theorem dX11_makeAlone_104 : decode cX11_makeAlone 104 = .ok (.iload 5, 2) := by decide +kernel
theorem dX11_makeAlone_106 : decode cX11_makeAlone 106 = .ok (.i2l, 1) := by decide +kernel
theorem dX11_makeAlone_107 : decode cX11_makeAlone 107 = .ok (.lreturn, 1) := by decide +kernel
abbrev wmX11_makeAlone : List Cond := .code yX11_makeAlone cX11_makeAlone 6 (some .long) :: mBig
def f_X11_makeAlone (M : gM) (a1 : Int32) (a2 : Int32) (a3 : Int32) (a4 : Int32) : Option (Int64 × gM) :=
  rd M m_records 4 a1 (fun v1 => (if v1 = (12 : Int32) then some ((-2199023255557 : Int64), M) else jn (fun (q : (Int32 × gM)) => match q with | (b3, M4) => ob (f_X11_makeRoom M4 a1 b3 (-1 : Int32) (10 : Int32)) (fun v7 M6 => (if v7 = 0 then some ((-2199023255558 : Int64), M6) else ob (f_X11_newObject M6 a2 a3 a4) (fun v11 M10 => wr M10 m_keptEntry 192 (((48 : Int32) * a1) + v11) (1 : Int32) (fun M12 => o1 (f_X11_keepNew M12 a1 v11) (fun M14 => wz M14 m_dirty 192 (((48 : Int32) * a1) + v11) (1 : Int32) (fun M15 => wz M15 m_dirty 192 (((48 : Int32) * a1) + a2) (1 : Int32) (fun M16 => o1 (f_X11_addRecord M16 a1 (1 : Int32) v11 a2) (fun M18 => some (v11.toInt64, M18)))))))))) (fun J27 => (if a4 = 0 then J27 ((1 : Int32), M) else J27 ((2 : Int32), M)))))
set_option maxHeartbeats 4000000 in
set_option maxRecDepth 100000 in
theorem t_X11_makeAlone (l : Launch) (D : va_G) (dA : Nat → ClassId) (A : gI → Nat) (hJ : gJ mLive A) {M : gM} {a1 : Int32} {a2 : Int32} {a3 : Int32} {a4 : Int32}  {y : (Int64 × gM)} (h : f_X11_makeAlone M a1 a2 a3 a4 = some y) : mMl l yX11_makeAlone wmX11_makeAlone ({ frames := 3, cells := 0, slots := 0, locals := 73 } : Room) D dA A [.ref (A m_o), .int a1, .int a2, .int a3, .int a4] M y.1 y.2 := by
  refine Met.ofW (cc := cX11_makeAlone) (maxL := 6) (ret := (some .long)) (by decide) rfl ?_
  intro p e s m args below meth c s₁ B hml hv
  obtain ⟨rfl, hP, hK⟩ := hv
  generalize hargs : ([.ref (A m_o), .int a1, .int a2, .int a3, .int a4] : List Value).toArray = args at B ⊢
  have S : CallFix p m c cX11_makeAlone 6 s args wmX11_makeAlone RX11 := ⟨B.exec, B.bytes, hml, findClass_of_methodNamed B.named, atoms_spec (ws := wmX11_makeAlone) B.pre⟩
  obtain ⟨hx, hb, -, hown, hts⟩ := id S
  have hr := B.returns
  have hlocks := B.notSynchronized
  have X : gX D vwCl dA mLive A (gA mLive A) s := ⟨hK, hJ, fun i hi => ⟨i, hi, rfl⟩⟩
  have Z : gZ D mLay dA mLive A (gA mLive A) s.heap M s.heap [] := ⟨hP, va_S.rf⟩
  have hin : ∀ w ∈ wsX110, w ∈ wmX11_makeAlone := m_in
  have hl_80 := hts (.fieldLink RX11 80 "ReplicaFilesModel" "dirty" "[Z") (mBc 28 rfl)
  have hl_89 := hts (.fieldLink RX11 89 "ReplicaFilesModel" "keptEntry" "[I") (mBc 31 rfl)
  have hl_98 := hts (.fieldLink RX11 98 "ReplicaFilesModel" "records" "[I") (mBc 34 rfl)
  have hc_336 := hts (.constantLong RX11 336 (-2199023255557)) (mBc 216 rfl)
  have hc_362 := hts (.constantLong RX11 362 (-2199023255558)) (mBc 217 rfl)
  have hl := lv_entry ([.ref (A m_o), .int a1, .int a2, .int a3, .int a4]) (n := 6) (Nat.le_of_ble_eq_true rfl)
  rw [← hargs, lg_entry_eq, hargs]
  generalize (lg_sl ([.ref (A m_o), .int a1, .int a2, .int a3, .int a4]) ++ List.replicate (6 - (lg_sl ([.ref (A m_o), .int a1, .int a2, .int a3, .int a4])).length) Slot.unset).toArray = ls at hl ⊢
  have hl : lv_has ls 6 [(0, .ref (A m_o)), (1, .int a1), (2, .int a2), (3, .int a3), (4, .int a4)] := hl
  unfold f_X11_makeAlone at h
  refine lv_aload_n hx hb dX11_makeAlone_0 rfl (lv_at hl 0 rfl) ?_
  refine mr_records S X Z hin hl_98 dX11_makeAlone_1 ?_
  refine lv_iload_n hx hb dX11_makeAlone_4 rfl (lv_at hl 1 rfl) ?_
  refine g_iald S X Z ml_records rfl dX11_makeAlone_5 h (fun v1 h => ?_)
  refine lv_bipush (v := (12 : Int32)) hx hb dX11_makeAlone_6 (by decide) ?_
  refine lv_icmp_ne (tgt := 15) hx hb dX11_makeAlone_8 (by decide) (fun c2 => ?_) (fun c2 => ?_)
  · have h := if_f c2 h
    refine lv_aload_n hx hb dX11_makeAlone_15 rfl (lv_at hl 0 rfl) ?_
    refine lv_iload_n hx hb dX11_makeAlone_16 rfl (lv_at hl 1 rfl) ?_
    refine lv_iload hx hb dX11_makeAlone_17 (lv_at hl 4 rfl) ?_
    obtain ⟨J27, eJ27, h⟩ := jn_e h
    have hJ27 : ∀ (b3 : Int32) (M4 : gM) (H : Heap) (locs : List Loc) (ls : Array Slot), gZ D mLay dA mLive A (gA mLive A) s.heap M4 H locs → lv_has ls 6 [(0, .ref (A m_o)), (1, .int a1), (2, .int a2), (3, .int a3), (4, .int a4)] → J27 (b3, M4) = some y → W p l e (headSpec wmX11_makeAlone ({ frames := 3, cells := 0, slots := 0, locals := 73 } : Room)).room s m args below meth c H locs 0 0 (MQ below (mQl D dA A y) args s 0 0 (gA mLive A)) (F0 m 27 ls [.int b3, .int a1, .ref (A m_o)]) := by
      intro b3 M4 H locs ls Z hl h
      rw [eJ27] at h
      try dsimp only at h
      refine lv_iconst (v := (-1 : Int32)) hx hb dX11_makeAlone_27 (by decide) ?_
      refine lv_bipush (v := (10 : Int32)) hx hb dX11_makeAlone_28 (by decide) ?_
      obtain ⟨v7, M6, hc5, h⟩ := ob_e h
      refine g_Vi (As := [.int a1, .int b3, .int (-1 : Int32), .int (10 : Int32)]) (rest := []) S X Z mlv_o rfl rfl (t_X11_makeRoom l D dA A hJ  hc5) (cwV 4 hts (mGV (mB 147 rfl) (mB 148 rfl) (mB 149 rfl) (mB 63 rfl) (mB 135 rfl)) rfl rfl rfl (by decide +kernel) ⟨Nat.le_of_ble_eq_true rfl, Nat.le_of_ble_eq_true rfl⟩) rfl hl.1 rfl (Nat.le_of_ble_eq_true rfl) dX11_makeAlone_30 ⟨Nat.zero_le _, Nat.zero_le _⟩ (fun H locs Z => ?_)
      refine lv_if_ne (tgt := 40) hx hb dX11_makeAlone_33 (by decide) (fun c8 => ?_) (fun c8 => ?_)
      · have h := if_f c8 h
        refine lv_aload_n hx hb dX11_makeAlone_40 rfl (lv_at hl 0 rfl) ?_
        refine lv_iload_n hx hb dX11_makeAlone_41 rfl (lv_at hl 2 rfl) ?_
        refine lv_iload_n hx hb dX11_makeAlone_42 rfl (lv_at hl 3 rfl) ?_
        refine lv_iload hx hb dX11_makeAlone_43 (lv_at hl 4 rfl) ?_
        obtain ⟨v11, M10, hc9, h⟩ := ob_e h
        refine g_Vi (As := [.int a2, .int a3, .int a4]) (rest := []) S X Z mlv_o rfl rfl (t_X11_newObject l D dA A hJ  hc9) (cwV 3 hts (mGV (mB 242 rfl) (mB 243 rfl) (mB 244 rfl) (mB 63 rfl) (mB 240 rfl)) rfl rfl rfl (by decide +kernel) ⟨Nat.le_of_ble_eq_true rfl, Nat.le_of_ble_eq_true rfl⟩) rfl hl.1 rfl (Nat.le_of_ble_eq_true rfl) dX11_makeAlone_45 ⟨Nat.zero_le _, Nat.zero_le _⟩ (fun H locs Z => ?_)
        refine lv_istore (lv' := [(5, .int v11), (0, .ref (A m_o)), (1, .int a1), (2, .int a2), (3, .int a3), (4, .int a4)]) hx hb dX11_makeAlone_48 hl (by decide) rfl (fun ls hl => ?_)
        refine lv_aload_n hx hb dX11_makeAlone_50 rfl (lv_at hl 1 rfl) ?_
        refine mr_keptEntry S X Z hin hl_89 dX11_makeAlone_51 ?_
        refine lv_bipush (v := (48 : Int32)) hx hb dX11_makeAlone_54 (by decide) ?_
        refine lv_iload_n hx hb dX11_makeAlone_56 rfl (lv_at hl 2 rfl) ?_
        refine lv_imul hx hb dX11_makeAlone_57 ?_
        refine lv_iload hx hb dX11_makeAlone_58 (lv_at hl 0 rfl) ?_
        refine lv_iadd hx hb dX11_makeAlone_60 ?_
        refine lv_iconst (v := (1 : Int32)) hx hb dX11_makeAlone_61 (by decide) ?_
        refine g_iast S X Z ml_keptEntry rfl dX11_makeAlone_62 h (fun M12 H locs Z h => ?_)
        refine lv_aload_n hx hb dX11_makeAlone_63 rfl (lv_at hl 1 rfl) ?_
        refine lv_iload_n hx hb dX11_makeAlone_64 rfl (lv_at hl 2 rfl) ?_
        refine lv_iload hx hb dX11_makeAlone_65 (lv_at hl 0 rfl) ?_
        obtain ⟨M14, hc13, h⟩ := o1_e h
        refine g_Vv (As := [.int a1, .int v11]) (rest := []) S X Z mlv_o rfl rfl (t_X11_keepNew l D dA A hJ  hc13) (cwV 2 hts (mGV (mB 245 rfl) (mB 246 rfl) (mB 247 rfl) (mB 63 rfl) (mB 241 rfl)) rfl rfl rfl (by decide +kernel) ⟨Nat.le_of_ble_eq_true rfl, Nat.le_of_ble_eq_true rfl⟩) rfl hl.1 rfl (Nat.le_of_ble_eq_true rfl) dX11_makeAlone_67 ⟨Nat.zero_le _, Nat.zero_le _⟩ (fun H locs Z => ?_)
        refine lv_aload_n hx hb dX11_makeAlone_70 rfl (lv_at hl 1 rfl) ?_
        refine mr_dirty S X Z hin hl_80 dX11_makeAlone_71 ?_
        refine lv_bipush (v := (48 : Int32)) hx hb dX11_makeAlone_74 (by decide) ?_
        refine lv_iload_n hx hb dX11_makeAlone_76 rfl (lv_at hl 2 rfl) ?_
        refine lv_imul hx hb dX11_makeAlone_77 ?_
        refine lv_iload hx hb dX11_makeAlone_78 (lv_at hl 0 rfl) ?_
        refine lv_iadd hx hb dX11_makeAlone_80 ?_
        refine lv_iconst (v := (1 : Int32)) hx hb dX11_makeAlone_81 (by decide) ?_
        refine g_zast S X Z ml_dirty rfl dX11_makeAlone_82 h (fun M15 H locs Z h => ?_)
        refine lv_aload_n hx hb dX11_makeAlone_83 rfl (lv_at hl 1 rfl) ?_
        refine mr_dirty S X Z hin hl_80 dX11_makeAlone_84 ?_
        refine lv_bipush (v := (48 : Int32)) hx hb dX11_makeAlone_87 (by decide) ?_
        refine lv_iload_n hx hb dX11_makeAlone_89 rfl (lv_at hl 2 rfl) ?_
        refine lv_imul hx hb dX11_makeAlone_90 ?_
        refine lv_iload_n hx hb dX11_makeAlone_91 rfl (lv_at hl 3 rfl) ?_
        refine lv_iadd hx hb dX11_makeAlone_92 ?_
        refine lv_iconst (v := (1 : Int32)) hx hb dX11_makeAlone_93 (by decide) ?_
        refine g_zast S X Z ml_dirty rfl dX11_makeAlone_94 h (fun M16 H locs Z h => ?_)
        refine lv_aload_n hx hb dX11_makeAlone_95 rfl (lv_at hl 1 rfl) ?_
        refine lv_iload_n hx hb dX11_makeAlone_96 rfl (lv_at hl 2 rfl) ?_
        refine lv_iconst (v := (1 : Int32)) hx hb dX11_makeAlone_97 (by decide) ?_
        refine lv_iload hx hb dX11_makeAlone_98 (lv_at hl 0 rfl) ?_
        refine lv_iload_n hx hb dX11_makeAlone_100 rfl (lv_at hl 3 rfl) ?_
        obtain ⟨M18, hc17, h⟩ := o1_e h
        refine g_Vv (As := [.int a1, .int (1 : Int32), .int v11, .int a2]) (rest := []) S X Z mlv_o rfl rfl (t_X11_addRecord l D dA A hJ  hc17) (cwV 4 hts (mGV (mB 221 rfl) (mB 222 rfl) (mB 223 rfl) (mB 63 rfl) (mB 215 rfl)) rfl rfl rfl (by decide +kernel) ⟨Nat.le_of_ble_eq_true rfl, Nat.le_of_ble_eq_true rfl⟩) rfl hl.1 rfl (Nat.le_of_ble_eq_true rfl) dX11_makeAlone_101 ⟨Nat.zero_le _, Nat.zero_le _⟩ (fun H locs Z => ?_)
        refine lv_iload hx hb dX11_makeAlone_104 (lv_at hl 0 rfl) ?_
        refine lv_i2l hx hb dX11_makeAlone_106 rfl ?_
        have hy := Option.some.inj h
        subst hy
        exact g_rl S Z hr hlocks dX11_makeAlone_107
      · have h := if_t c8 h
        refine lv_ldc2 hx hb hown hc_362 dX11_makeAlone_36 ?_
        have hy := Option.some.inj h
        subst hy
        exact g_rl S Z hr hlocks dX11_makeAlone_39
    refine lv_if_eq (tgt := 26) hx hb dX11_makeAlone_19 (by decide) (fun c19 => ?_) (fun c19 => ?_)
    · have h := if_t c19 h
      refine lv_iconst (v := (1 : Int32)) hx hb dX11_makeAlone_26 (by decide) ?_
      exact hJ27 (1 : Int32) M _ _ _ Z (lv_sub hl [0, 1, 2, 3, 4] rfl) h
    · have h := if_f c19 h
      refine lv_iconst (v := (2 : Int32)) hx hb dX11_makeAlone_22 (by decide) ?_
      refine lv_goto (tgt := 27) hx hb dX11_makeAlone_23 (by decide) ?_
      exact hJ27 (2 : Int32) M _ _ _ Z (lv_sub hl [0, 1, 2, 3, 4] rfl) h
  · have h := if_t c2 h
    refine lv_ldc2 hx hb hown hc_336 dX11_makeAlone_11 ?_
    have hy := Option.some.inj h
    subst hy
    exact g_rl S Z hr hlocks dX11_makeAlone_14
