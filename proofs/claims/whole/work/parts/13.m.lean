-- X11_addRecord (IIII)V: 45 instructions
set_option maxRecDepth 20000 in
theorem ggX11_addRecord_X11_copyTo : GoodIn wsX11_addRecord wsX11_copyTo := goodIn_r _ [11] (by decide +kernel) (by decide +kernel)
set_option maxRecDepth 20000 in
theorem gX11_addRecord_X11_copyTo : GoodIn wsX11_addRecord (wsV RX11 234 RX11 yX11_copyTo wsX11_copyTo) := goodIn_app (goodIn_of _ (by decide +kernel)) ggX11_addRecord_X11_copyTo
theorem dX11_addRecord_0 : decode cX11_addRecord 0 = .ok (.bipush 12, 2) := by decide +kernel
theorem dX11_addRecord_2 : decode cX11_addRecord 2 = .ok (.iload_n 1, 1) := by decide +kernel
theorem dX11_addRecord_3 : decode cX11_addRecord 3 = .ok (.imul, 1) := by decide +kernel
theorem dX11_addRecord_4 : decode cX11_addRecord 4 = .ok (.aload_n 0, 1) := by decide +kernel
theorem dX11_addRecord_5 : decode cX11_addRecord 5 = .ok (.getfield 98, 3) := by decide +kernel
theorem dX11_addRecord_8 : decode cX11_addRecord 8 = .ok (.iload_n 1, 1) := by decide +kernel
theorem dX11_addRecord_9 : decode cX11_addRecord 9 = .ok (.iaload, 1) := by decide +kernel
theorem dX11_addRecord_10 : decode cX11_addRecord 10 = .ok (.iadd, 1) := by decide +kernel
theorem dX11_addRecord_11 : decode cX11_addRecord 11 = .ok (.istore 5, 2) := by decide +kernel
theorem dX11_addRecord_13 : decode cX11_addRecord 13 = .ok (.aload_n 0, 1) := by decide +kernel
theorem dX11_addRecord_14 : decode cX11_addRecord 14 = .ok (.getfield 101, 3) := by decide +kernel
theorem dX11_addRecord_17 : decode cX11_addRecord 17 = .ok (.iload 5, 2) := by decide +kernel
theorem dX11_addRecord_19 : decode cX11_addRecord 19 = .ok (.iload_n 2, 1) := by decide +kernel
theorem dX11_addRecord_20 : decode cX11_addRecord 20 = .ok (.iastore, 1) := by decide +kernel
theorem dX11_addRecord_21 : decode cX11_addRecord 21 = .ok (.aload_n 0, 1) := by decide +kernel
theorem dX11_addRecord_22 : decode cX11_addRecord 22 = .ok (.getfield 104, 3) := by decide +kernel
theorem dX11_addRecord_25 : decode cX11_addRecord 25 = .ok (.iload 5, 2) := by decide +kernel
theorem dX11_addRecord_27 : decode cX11_addRecord 27 = .ok (.iload_n 3, 1) := by decide +kernel
theorem dX11_addRecord_28 : decode cX11_addRecord 28 = .ok (.iastore, 1) := by decide +kernel
theorem dX11_addRecord_29 : decode cX11_addRecord 29 = .ok (.aload_n 0, 1) := by decide +kernel
theorem dX11_addRecord_30 : decode cX11_addRecord 30 = .ok (.getfield 107, 3) := by decide +kernel
theorem dX11_addRecord_33 : decode cX11_addRecord 33 = .ok (.iload 5, 2) := by decide +kernel
theorem dX11_addRecord_35 : decode cX11_addRecord 35 = .ok (.iload 4, 2) := by decide +kernel
theorem dX11_addRecord_37 : decode cX11_addRecord 37 = .ok (.iastore, 1) := by decide +kernel
theorem dX11_addRecord_38 : decode cX11_addRecord 38 = .ok (.aload_n 0, 1) := by decide +kernel
theorem dX11_addRecord_39 : decode cX11_addRecord 39 = .ok (.aload_n 0, 1) := by decide +kernel
theorem dX11_addRecord_40 : decode cX11_addRecord 40 = .ok (.getfield 74, 3) := by decide +kernel
theorem dX11_addRecord_43 : decode cX11_addRecord 43 = .ok (.bipush 48, 2) := by decide +kernel
theorem dX11_addRecord_45 : decode cX11_addRecord 45 = .ok (.iload_n 1, 1) := by decide +kernel
theorem dX11_addRecord_46 : decode cX11_addRecord 46 = .ok (.imul, 1) := by decide +kernel
theorem dX11_addRecord_47 : decode cX11_addRecord 47 = .ok (.iload_n 3, 1) := by decide +kernel
theorem dX11_addRecord_48 : decode cX11_addRecord 48 = .ok (.iadd, 1) := by decide +kernel
theorem dX11_addRecord_49 : decode cX11_addRecord 49 = .ok (.aload_n 0, 1) := by decide +kernel
theorem dX11_addRecord_50 : decode cX11_addRecord 50 = .ok (.getfield 110, 3) := by decide +kernel
theorem dX11_addRecord_53 : decode cX11_addRecord 53 = .ok (.iload 5, 2) := by decide +kernel
theorem dX11_addRecord_55 : decode cX11_addRecord 55 = .ok (.invokevirtual 234, 3) := by decide +kernel
theorem dX11_addRecord_58 : decode cX11_addRecord 58 = .ok (.aload_n 0, 1) := by decide +kernel
theorem dX11_addRecord_59 : decode cX11_addRecord 59 = .ok (.getfield 98, 3) := by decide +kernel
theorem dX11_addRecord_62 : decode cX11_addRecord 62 = .ok (.iload_n 1, 1) := by decide +kernel
theorem dX11_addRecord_63 : decode cX11_addRecord 63 = .ok (.dup2, 1) := by decide +kernel
theorem dX11_addRecord_64 : decode cX11_addRecord 64 = .ok (.iaload, 1) := by decide +kernel
theorem dX11_addRecord_65 : decode cX11_addRecord 65 = .ok (.iconst 1, 1) := by decide +kernel
theorem dX11_addRecord_66 : decode cX11_addRecord 66 = .ok (.iadd, 1) := by decide +kernel
theorem dX11_addRecord_67 : decode cX11_addRecord 67 = .ok (.iastore, 1) := by decide +kernel
theorem dX11_addRecord_68 : decode cX11_addRecord 68 = .ok (.return_, 1) := by decide +kernel
def f_X11_addRecord (M : gM) (a1 : Int32) (a2 : Int32) (a3 : Int32) (a4 : Int32) : Option gM :=
  rd M m_records 4 a1 (fun v1 => lt ((((12 : Int32) * a1) + v1)) (fun x2 => wr M m_recordKind 48 x2 a2 (fun M3 => wr M3 m_recordObject 48 x2 a3 (fun M4 => wr M4 m_recordDirectory 48 x2 a4 (fun M5 => o1 (f_X11_copyTo M5 m_keptVector (((48 : Int32) * a1) + a3) m_recordVector x2) (fun M7 => rd M7 m_records 4 a1 (fun v8 => wr M7 m_records 4 a1 (v8 + (1 : Int32)) (fun M9 => some M9))))))))
set_option maxHeartbeats 4000000 in
set_option maxRecDepth 100000 in
theorem t_X11_addRecord (l : Launch) (D : va_G) (dA : Nat → ClassId) (A : gI → Nat) (hJ : gJ mLive A) {M : gM} {a1 : Int32} {a2 : Int32} {a3 : Int32} {a4 : Int32}  {y : gM} (h : f_X11_addRecord M a1 a2 a3 a4 = some y) : mMv l yX11_addRecord wsX11_addRecord ({ frames := 1, cells := 0, slots := 0, locals := 25 } : Room) D dA A [.ref (A m_o), .int a1, .int a2, .int a3, .int a4] M y := by
  refine Met.ofW (cc := cX11_addRecord) (maxL := 6) (ret := none) (by decide) rfl ?_
  intro p e s m args below meth c s₁ B hml hv
  obtain ⟨rfl, hP, hK⟩ := hv
  generalize hargs : ([.ref (A m_o), .int a1, .int a2, .int a3, .int a4] : List Value).toArray = args at B ⊢
  have S : CallFix p m c cX11_addRecord 6 s args wsX11_addRecord RX11 := ⟨B.exec, B.bytes, hml, findClass_of_methodNamed B.named, atoms_spec (ws := wsX11_addRecord) B.pre⟩
  obtain ⟨hx, hb, -, hown, hts⟩ := id S
  have hr := B.returns
  have hlocks := B.notSynchronized
  have X : gX D vwCl dA mLive A (gA mLive A) s := ⟨hK, hJ, fun i hi => ⟨i, hi, rfl⟩⟩
  have Z : gZ D mLay dA mLive A (gA mLive A) s.heap M s.heap [] := ⟨hP, va_S.rf⟩
  have hin : ∀ w ∈ wsX110, w ∈ wsX11_addRecord := fun w h => List.mem_cons_of_mem _ (List.mem_append_right _ h)
  have hl_74 := hts (.fieldLink RX11 74 "ReplicaFilesModel" "keptVector" "[I") (by decide +kernel)
  have hl_98 := hts (.fieldLink RX11 98 "ReplicaFilesModel" "records" "[I") (by decide +kernel)
  have hl_101 := hts (.fieldLink RX11 101 "ReplicaFilesModel" "recordKind" "[I") (by decide +kernel)
  have hl_104 := hts (.fieldLink RX11 104 "ReplicaFilesModel" "recordObject" "[I") (by decide +kernel)
  have hl_107 := hts (.fieldLink RX11 107 "ReplicaFilesModel" "recordDirectory" "[I") (by decide +kernel)
  have hl_110 := hts (.fieldLink RX11 110 "ReplicaFilesModel" "recordVector" "[I") (by decide +kernel)
  have hl := lv_entry ([.ref (A m_o), .int a1, .int a2, .int a3, .int a4]) (n := 6) (Nat.le_of_ble_eq_true rfl)
  rw [← hargs, lg_entry_eq, hargs]
  generalize (lg_sl ([.ref (A m_o), .int a1, .int a2, .int a3, .int a4]) ++ List.replicate (6 - (lg_sl ([.ref (A m_o), .int a1, .int a2, .int a3, .int a4])).length) Slot.unset).toArray = ls at hl ⊢
  have hl : lv_has ls 6 [(0, .ref (A m_o)), (1, .int a1), (2, .int a2), (3, .int a3), (4, .int a4)] := hl
  unfold f_X11_addRecord at h
  refine lv_bipush (v := (12 : Int32)) hx hb dX11_addRecord_0 (by decide) ?_
  refine lv_iload_n hx hb dX11_addRecord_2 rfl (lv_at hl 1 rfl) ?_
  refine lv_imul hx hb dX11_addRecord_3 ?_
  refine lv_aload_n hx hb dX11_addRecord_4 rfl (lv_at hl 0 rfl) ?_
  refine mr_records S X Z hin hl_98 dX11_addRecord_5 ?_
  refine lv_iload_n hx hb dX11_addRecord_8 rfl (lv_at hl 1 rfl) ?_
  refine g_iald S X Z ml_records rfl dX11_addRecord_9 h (fun v1 h => ?_)
  refine lv_iadd hx hb dX11_addRecord_10 ?_
  refine g_topi h (fun x2 h => ?_)
  refine lv_istore (lv' := [(5, .int x2), (0, .ref (A m_o)), (1, .int a1), (2, .int a2), (3, .int a3), (4, .int a4)]) hx hb dX11_addRecord_11 hl (by decide) rfl (fun ls hl => ?_)
  refine lv_aload_n hx hb dX11_addRecord_13 rfl (lv_at hl 1 rfl) ?_
  refine mr_recordKind S X Z hin hl_101 dX11_addRecord_14 ?_
  refine lv_iload hx hb dX11_addRecord_17 (lv_at hl 0 rfl) ?_
  refine lv_iload_n hx hb dX11_addRecord_19 rfl (lv_at hl 3 rfl) ?_
  refine g_iast S X Z ml_recordKind rfl dX11_addRecord_20 h (fun M3 H locs Z h => ?_)
  refine lv_aload_n hx hb dX11_addRecord_21 rfl (lv_at hl 1 rfl) ?_
  refine mr_recordObject S X Z hin hl_104 dX11_addRecord_22 ?_
  refine lv_iload hx hb dX11_addRecord_25 (lv_at hl 0 rfl) ?_
  refine lv_iload_n hx hb dX11_addRecord_27 rfl (lv_at hl 4 rfl) ?_
  refine g_iast S X Z ml_recordObject rfl dX11_addRecord_28 h (fun M4 H locs Z h => ?_)
  refine lv_aload_n hx hb dX11_addRecord_29 rfl (lv_at hl 1 rfl) ?_
  refine mr_recordDirectory S X Z hin hl_107 dX11_addRecord_30 ?_
  refine lv_iload hx hb dX11_addRecord_33 (lv_at hl 0 rfl) ?_
  refine lv_iload hx hb dX11_addRecord_35 (lv_at hl 5 rfl) ?_
  refine g_iast S X Z ml_recordDirectory rfl dX11_addRecord_37 h (fun M5 H locs Z h => ?_)
  refine lv_aload_n hx hb dX11_addRecord_38 rfl (lv_at hl 1 rfl) ?_
  refine lv_aload_n hx hb dX11_addRecord_39 rfl (lv_at hl 1 rfl) ?_
  refine mr_keptVector S X Z hin hl_74 dX11_addRecord_40 ?_
  refine lv_bipush (v := (48 : Int32)) hx hb dX11_addRecord_43 (by decide) ?_
  refine lv_iload_n hx hb dX11_addRecord_45 rfl (lv_at hl 2 rfl) ?_
  refine lv_imul hx hb dX11_addRecord_46 ?_
  refine lv_iload_n hx hb dX11_addRecord_47 rfl (lv_at hl 4 rfl) ?_
  refine lv_iadd hx hb dX11_addRecord_48 ?_
  refine lv_aload_n hx hb dX11_addRecord_49 rfl (lv_at hl 1 rfl) ?_
  refine mr_recordVector S X Z hin hl_110 dX11_addRecord_50 ?_
  refine lv_iload hx hb dX11_addRecord_53 (lv_at hl 0 rfl) ?_
  obtain ⟨M7, hc6, h⟩ := o1_e h
  refine g_Vv (As := [.ref (A m_keptVector), .int (((48 : Int32) * a1) + a3), .ref (A m_recordVector), .int x2]) (rest := []) S X Z mlv_o rfl rfl (t_X11_copyTo l D dA A hJ ⟨ml_keptVector, rfl⟩ ⟨ml_recordVector, rfl⟩ hc6) (cwV 4 hts gX11_addRecord_X11_copyTo rfl rfl rfl (by decide +kernel) ⟨Nat.le_of_ble_eq_true rfl, Nat.le_of_ble_eq_true rfl⟩) rfl hl.1 rfl (Nat.le_of_ble_eq_true rfl) dX11_addRecord_55 ⟨Nat.zero_le _, Nat.zero_le _⟩ (fun H locs Z => ?_)
  refine lv_aload_n hx hb dX11_addRecord_58 rfl (lv_at hl 1 rfl) ?_
  refine mr_records S X Z hin hl_98 dX11_addRecord_59 ?_
  refine lv_iload_n hx hb dX11_addRecord_62 rfl (lv_at hl 2 rfl) ?_
  refine lv_dup2_11 hx hb dX11_addRecord_63 rfl rfl ?_
  refine g_iald S X Z ml_records rfl dX11_addRecord_64 h (fun v8 h => ?_)
  refine lv_iconst (v := (1 : Int32)) hx hb dX11_addRecord_65 (by decide) ?_
  refine lv_iadd hx hb dX11_addRecord_66 ?_
  refine g_iast S X Z ml_records rfl dX11_addRecord_67 h (fun M9 H locs Z h => ?_)
  have hy := Option.some.inj h
  subst hy
  exact g_rv S Z hr hlocks dX11_addRecord_68
-- X11_writeAlone (IIII)J: 81 instructions
set_option maxRecDepth 20000 in
theorem ggX11_writeAlone_X11_get : GoodIn wsX11_writeAlone wsX11_get := goodIn_r _ [11, 12, 13, 14, 15, 16, 17, 18, 19, 20, 21, 22, 10, 23, 1, 24, 25, 26, 27, 28, 29, 30, 31, 32, 33, 34, 35, 36, 37, 38, 39, 40, 41, 42, 43, 44, 45, 4, 46, 47, 48, 49, 50, 51, 52, 53, 54, 55, 56, 57, 58, 59, 60, 61, 62, 63, 64, 65, 66, 67, 68, 69, 6, 70, 71, 72, 73, 74, 75, 76, 77, 78, 79, 80, 81, 82, 83, 84, 85, 86, 87, 5, 88, 89, 90, 91, 92, 93, 94, 95, 96, 97, 98, 99, 100, 101, 102, 103, 104, 105, 106, 107, 108, 109, 110, 111, 112, 113, 114, 115, 116, 129, 130, 131, 132, 133, 134, 135, 136, 137, 138, 139, 140, 141, 142, 143, 144, 145, 146, 147, 148, 149, 150, 151, 152, 153, 154, 155, 156, 157, 158, 159, 160, 161, 162, 163, 164, 165, 166, 167, 168, 169, 170, 171, 172, 173, 174, 175, 176, 177, 178, 179, 180, 181, 182, 183, 184, 185, 186, 187, 188, 189, 190, 191, 192, 193, 194, 195] (by decide +kernel) (by decide +kernel)
set_option maxRecDepth 20000 in
theorem gX11_writeAlone_X11_get : GoodIn wsX11_writeAlone (wsV RX11 282 RX11 yX11_get wsX11_get) := goodIn_app (goodIn_of _ (by decide +kernel)) ggX11_writeAlone_X11_get
set_option maxRecDepth 20000 in
theorem ggX11_writeAlone_X11_recordOf : GoodIn wsX11_writeAlone wsX11_recordOf := goodIn_r _ [120, 1, 121, 122, 129, 130, 131, 132, 133, 134, 135, 136, 137, 138, 139, 140, 141, 142, 143, 144, 145, 146, 147, 148, 149, 150, 151, 152, 153, 154, 155, 156, 157, 158, 159, 160, 161, 162, 163, 164, 165, 166, 167, 168, 169, 170, 171, 172, 173, 174, 175, 176, 177, 178, 179, 180, 181, 182, 183, 184, 185, 186, 187, 188, 189, 190, 191, 192, 193, 194, 195] (by decide +kernel) (by decide +kernel)
set_option maxRecDepth 20000 in
theorem gX11_writeAlone_X11_recordOf : GoodIn wsX11_writeAlone (wsV RX11 358 RX11 yX11_recordOf wsX11_recordOf) := goodIn_app (goodIn_of _ (by decide +kernel)) ggX11_writeAlone_X11_recordOf
set_option maxRecDepth 20000 in
theorem ggX11_writeAlone_X11_weight : GoodIn wsX11_writeAlone wsX11_weight := goodIn_r _ [93, 94, 129, 130, 131, 132, 133, 134, 135, 136, 137, 138, 139, 140, 141, 142, 143, 144, 145, 146, 147, 148, 149, 150, 151, 152, 153, 154, 155, 156, 157, 158, 159, 160, 161, 162, 163, 164, 165, 166, 167, 168, 169, 170, 171, 172, 173, 174, 175, 176, 177, 178, 179, 180, 181, 182, 183, 184, 185, 186, 187, 188, 189, 190, 191, 192, 193, 194, 195] (by decide +kernel) (by decide +kernel)
set_option maxRecDepth 20000 in
theorem gX11_writeAlone_X11_weight : GoodIn wsX11_writeAlone (wsV RX11 204 RX11 yX11_weight wsX11_weight) := goodIn_app (goodIn_of _ (by decide +kernel)) ggX11_writeAlone_X11_weight
set_option maxRecDepth 20000 in
theorem ggX11_writeAlone_X11_weightKept : GoodIn wsX11_writeAlone wsX11_weightKept := goodIn_r _ [98, 12, 5, 90, 91, 92, 10, 93, 94, 129, 130, 131, 132, 133, 134, 135, 136, 137, 138, 139, 140, 141, 142, 143, 144, 145, 146, 147, 148, 149, 150, 151, 152, 153, 154, 155, 156, 157, 158, 159, 160, 161, 162, 163, 164, 165, 166, 167, 168, 169, 170, 171, 172, 173, 174, 175, 176, 177, 178, 179, 180, 181, 182, 183, 184, 185, 186, 187, 188, 189, 190, 191, 192, 193, 194, 195] (by decide +kernel) (by decide +kernel)
set_option maxRecDepth 20000 in
theorem gX11_writeAlone_X11_weightKept : GoodIn wsX11_writeAlone (wsV RX11 214 RX11 yX11_weightKept wsX11_weightKept) := goodIn_app (goodIn_of _ (by decide +kernel)) ggX11_writeAlone_X11_weightKept
set_option maxRecDepth 20000 in
theorem ggX11_writeAlone_X11_makeRoom : GoodIn wsX11_writeAlone wsX11_makeRoom := goodIn_r _ [102, 103, 95, 96, 97, 10, 98, 12, 5, 90, 91, 92, 93, 94, 104, 105, 106, 107, 6, 40, 41, 108, 109, 110, 111, 112, 39, 66, 67, 68, 69, 65, 59, 50, 55, 56, 57, 58, 60, 129, 130, 131, 132, 133, 134, 135, 136, 137, 138, 139, 140, 141, 142, 143, 144, 145, 146, 147, 148, 149, 150, 151, 152, 153, 154, 155, 156, 157, 158, 159, 160, 161, 162, 163, 164, 165, 166, 167, 168, 169, 170, 171, 172, 173, 174, 175, 176, 177, 178, 179, 180, 181, 182, 183, 184, 185, 186, 187, 188, 189, 190, 191, 192, 193, 194, 195] (by decide +kernel) (by decide +kernel)
set_option maxRecDepth 20000 in
theorem gX11_writeAlone_X11_makeRoom : GoodIn wsX11_writeAlone (wsV RX11 269 RX11 yX11_makeRoom wsX11_makeRoom) := goodIn_app (goodIn_of _ (by decide +kernel)) ggX11_writeAlone_X11_makeRoom
set_option maxRecDepth 20000 in
theorem ggX11_writeAlone_X11_addRecord : GoodIn wsX11_writeAlone wsX11_addRecord := goodIn_r _ [126, 1, 121, 122, 127, 47, 128, 51, 52, 53, 10, 54, 129, 130, 131, 132, 133, 134, 135, 136, 137, 138, 139, 140, 141, 142, 143, 144, 145, 146, 147, 148, 149, 150, 151, 152, 153, 154, 155, 156, 157, 158, 159, 160, 161, 162, 163, 164, 165, 166, 167, 168, 169, 170, 171, 172, 173, 174, 175, 176, 177, 178, 179, 180, 181, 182, 183, 184, 185, 186, 187, 188, 189, 190, 191, 192, 193, 194, 195] (by decide +kernel) (by decide +kernel)
set_option maxRecDepth 20000 in
theorem gX11_writeAlone_X11_addRecord : GoodIn wsX11_writeAlone (wsV RX11 364 RX11 yX11_addRecord wsX11_addRecord) := goodIn_app (goodIn_of _ (by decide +kernel)) ggX11_writeAlone_X11_addRecord
theorem dX11_writeAlone_0 : decode cX11_writeAlone 0 = .ok (.aload_n 0, 1) := by decide +kernel
theorem dX11_writeAlone_1 : decode cX11_writeAlone 1 = .ok (.iload_n 1, 1) := by decide +kernel
theorem dX11_writeAlone_2 : decode cX11_writeAlone 2 = .ok (.iload_n 2, 1) := by decide +kernel
theorem dX11_writeAlone_3 : decode cX11_writeAlone 3 = .ok (.bipush 10, 2) := by decide +kernel
theorem dX11_writeAlone_5 : decode cX11_writeAlone 5 = .ok (.invokevirtual 282, 3) := by decide +kernel
theorem dX11_writeAlone_8 : decode cX11_writeAlone 8 = .ok (.lstore 5, 2) := by decide +kernel
theorem dX11_writeAlone_10 : decode cX11_writeAlone 10 = .ok (.lload 5, 2) := by decide +kernel
theorem dX11_writeAlone_12 : decode cX11_writeAlone 12 = .ok (.lconst 0, 1) := by decide +kernel
theorem dX11_writeAlone_13 : decode cX11_writeAlone 13 = .ok (.lcmp, 1) := by decide +kernel
theorem dX11_writeAlone_14 : decode cX11_writeAlone 14 = .ok (.ifCond .eq 6, 3) := by decide +kernel
theorem dX11_writeAlone_17 : decode cX11_writeAlone 17 = .ok (.lload 5, 2) := by decide +kernel
theorem dX11_writeAlone_19 : decode cX11_writeAlone 19 = .ok (.lreturn, 1) := by decide +kernel
theorem dX11_writeAlone_20 : decode cX11_writeAlone 20 = .ok (.aload_n 0, 1) := by decide +kernel
theorem dX11_writeAlone_21 : decode cX11_writeAlone 21 = .ok (.iload_n 1, 1) := by decide +kernel
theorem dX11_writeAlone_22 : decode cX11_writeAlone 22 = .ok (.iconst 0, 1) := by decide +kernel
theorem dX11_writeAlone_23 : decode cX11_writeAlone 23 = .ok (.iload_n 2, 1) := by decide +kernel
theorem dX11_writeAlone_24 : decode cX11_writeAlone 24 = .ok (.invokevirtual 358, 3) := by decide +kernel
theorem dX11_writeAlone_27 : decode cX11_writeAlone 27 = .ok (.iconst (-1), 1) := by decide +kernel
theorem dX11_writeAlone_28 : decode cX11_writeAlone 28 = .ok (.if_icmp .ne 7, 3) := by decide +kernel
theorem dX11_writeAlone_31 : decode cX11_writeAlone 31 = .ok (.iconst 1, 1) := by decide +kernel
theorem dX11_writeAlone_32 : decode cX11_writeAlone 32 = .ok (.goto 4, 3) := by decide +kernel
theorem dX11_writeAlone_35 : decode cX11_writeAlone 35 = .ok (.iconst 0, 1) := by decide +kernel
theorem dX11_writeAlone_36 : decode cX11_writeAlone 36 = .ok (.istore 7, 2) := by decide +kernel
theorem dX11_writeAlone_38 : decode cX11_writeAlone 38 = .ok (.iload 7, 2) := by decide +kernel
theorem dX11_writeAlone_40 : decode cX11_writeAlone 40 = .ok (.ifCond .eq 18, 3) := by decide +kernel
theorem dX11_writeAlone_43 : decode cX11_writeAlone 43 = .ok (.aload_n 0, 1) := by decide +kernel
theorem dX11_writeAlone_44 : decode cX11_writeAlone 44 = .ok (.getfield 98, 3) := by decide +kernel
theorem dX11_writeAlone_47 : decode cX11_writeAlone 47 = .ok (.iload_n 1, 1) := by decide +kernel
theorem dX11_writeAlone_48 : decode cX11_writeAlone 48 = .ok (.iaload, 1) := by decide +kernel
theorem dX11_writeAlone_49 : decode cX11_writeAlone 49 = .ok (.bipush 12, 2) := by decide +kernel
theorem dX11_writeAlone_51 : decode cX11_writeAlone 51 = .ok (.if_icmp .ne 7, 3) := by decide +kernel
theorem dX11_writeAlone_54 : decode cX11_writeAlone 54 = .ok (.ldc2_w 336, 3) := by decide +kernel
theorem dX11_writeAlone_57 : decode cX11_writeAlone 57 = .ok (.lreturn, 1) := by decide +kernel
theorem dX11_writeAlone_58 : decode cX11_writeAlone 58 = .ok (.aload_n 0, 1) := by decide +kernel
theorem dX11_writeAlone_59 : decode cX11_writeAlone 59 = .ok (.iload_n 1, 1) := by decide +kernel
theorem dX11_writeAlone_60 : decode cX11_writeAlone 60 = .ok (.aload_n 0, 1) := by decide +kernel
theorem dX11_writeAlone_61 : decode cX11_writeAlone 61 = .ok (.iload_n 2, 1) := by decide +kernel
theorem dX11_writeAlone_62 : decode cX11_writeAlone 62 = .ok (.iload 4, 2) := by decide +kernel
theorem dX11_writeAlone_64 : decode cX11_writeAlone 64 = .ok (.invokevirtual 204, 3) := by decide +kernel
theorem dX11_writeAlone_67 : decode cX11_writeAlone 67 = .ok (.aload_n 0, 1) := by decide +kernel
theorem dX11_writeAlone_68 : decode cX11_writeAlone 68 = .ok (.iload_n 1, 1) := by decide +kernel
theorem dX11_writeAlone_69 : decode cX11_writeAlone 69 = .ok (.iload_n 2, 1) := by decide +kernel
theorem dX11_writeAlone_70 : decode cX11_writeAlone 70 = .ok (.invokevirtual 214, 3) := by decide +kernel
theorem dX11_writeAlone_73 : decode cX11_writeAlone 73 = .ok (.isub, 1) := by decide +kernel
theorem dX11_writeAlone_74 : decode cX11_writeAlone 74 = .ok (.iload_n 2, 1) := by decide +kernel
theorem dX11_writeAlone_75 : decode cX11_writeAlone 75 = .ok (.bipush 10, 2) := by decide +kernel
theorem dX11_writeAlone_77 : decode cX11_writeAlone 77 = .ok (.invokevirtual 269, 3) := by decide +kernel
theorem dX11_writeAlone_80 : decode cX11_writeAlone 80 = .ok (.ifCond .ne 7, 3) := by decide +kernel
theorem dX11_writeAlone_83 : decode cX11_writeAlone 83 = .ok (.ldc2_w 362, 3) := by decide +kernel
theorem dX11_writeAlone_86 : decode cX11_writeAlone 86 = .ok (.lreturn, 1) := by decide +kernel
theorem dX11_writeAlone_87 : decode cX11_writeAlone 87 = .ok (.bipush 48, 2) := by decide +kernel
theorem dX11_writeAlone_89 : decode cX11_writeAlone 89 = .ok (.iload_n 1, 1) := by decide +kernel
theorem dX11_writeAlone_90 : decode cX11_writeAlone 90 = .ok (.imul, 1) := by decide +kernel
theorem dX11_writeAlone_91 : decode cX11_writeAlone 91 = .ok (.iload_n 2, 1) := by decide +kernel
theorem dX11_writeAlone_92 : decode cX11_writeAlone 92 = .ok (.iadd, 1) := by decide +kernel
theorem dX11_writeAlone_93 : decode cX11_writeAlone 93 = .ok (.istore 8, 2) := by decide +kernel
theorem dX11_writeAlone_95 : decode cX11_writeAlone 95 = .ok (.aload_n 0, 1) := by decide +kernel
theorem dX11_writeAlone_96 : decode cX11_writeAlone 96 = .ok (.getfield 68, 3) := by decide +kernel
theorem dX11_writeAlone_99 : decode cX11_writeAlone 99 = .ok (.iload 8, 2) := by decide +kernel
theorem dX11_writeAlone_101 : decode cX11_writeAlone 101 = .ok (.iload_n 3, 1) := by decide +kernel
theorem dX11_writeAlone_102 : decode cX11_writeAlone 102 = .ok (.iastore, 1) := by decide +kernel
theorem dX11_writeAlone_103 : decode cX11_writeAlone 103 = .ok (.aload_n 0, 1) := by decide +kernel
theorem dX11_writeAlone_104 : decode cX11_writeAlone 104 = .ok (.getfield 71, 3) := by decide +kernel
theorem dX11_writeAlone_107 : decode cX11_writeAlone 107 = .ok (.iload 8, 2) := by decide +kernel
theorem dX11_writeAlone_109 : decode cX11_writeAlone 109 = .ok (.iload 4, 2) := by decide +kernel
theorem dX11_writeAlone_111 : decode cX11_writeAlone 111 = .ok (.iastore, 1) := by decide +kernel
theorem dX11_writeAlone_112 : decode cX11_writeAlone 112 = .ok (.aload_n 0, 1) := by decide +kernel
theorem dX11_writeAlone_113 : decode cX11_writeAlone 113 = .ok (.getfield 80, 3) := by decide +kernel
theorem dX11_writeAlone_116 : decode cX11_writeAlone 116 = .ok (.iload 8, 2) := by decide +kernel
theorem dX11_writeAlone_118 : decode cX11_writeAlone 118 = .ok (.iconst 1, 1) := by decide +kernel
theorem dX11_writeAlone_119 : decode cX11_writeAlone 119 = .ok (.bastore, 1) := by decide +kernel
theorem dX11_writeAlone_120 : decode cX11_writeAlone 120 = .ok (.iload 7, 2) := by decide +kernel
theorem dX11_writeAlone_122 : decode cX11_writeAlone 122 = .ok (.ifCond .eq 11, 3) := by decide +kernel
theorem dX11_writeAlone_125 : decode cX11_writeAlone 125 = .ok (.aload_n 0, 1) := by decide +kernel
theorem dX11_writeAlone_126 : decode cX11_writeAlone 126 = .ok (.iload_n 1, 1) := by decide +kernel
theorem dX11_writeAlone_127 : decode cX11_writeAlone 127 = .ok (.iconst 0, 1) := by decide +kernel
theorem dX11_writeAlone_128 : decode cX11_writeAlone 128 = .ok (.iload_n 2, 1) := by decide +kernel
theorem dX11_writeAlone_129 : decode cX11_writeAlone 129 = .ok (.iconst (-1), 1) := by decide +kernel
theorem dX11_writeAlone_130 : decode cX11_writeAlone 130 = .ok (.invokevirtual 364, 3) := by decide +kernel
theorem dX11_writeAlone_133 : decode cX11_writeAlone 133 = .ok (.lconst 0, 1) := by decide +kernel
theorem dX11_writeAlone_134 : decode cX11_writeAlone 134 = .ok (.lreturn, 1) := by decide +kernel
def f_X11_writeAlone (M : gM) (a1 : Int32) (a2 : Int32) (a3 : Int32) (a4 : Int32) : Option (Int64 × gM) :=
  ob (f_X11_get M a1 a2 (10 : Int32)) (fun v3 M2 => (if (lg_cmp v3 (0 : Int64)) = 0 then o1 (f_X11_recordOf M2 a1 (0 : Int32) a2) (fun v6 => jn (fun (q : (Int32 × gM)) => match q with | (b7, M8) => jn (fun (M9 : gM) => o1 (f_X11_weight M9 a2 a4) (fun v11 => o1 (f_X11_weightKept M9 a1 a2) (fun v13 => ob (f_X11_makeRoom M9 a1 (v11 - v13) a2 (10 : Int32)) (fun v16 M15 => (if v16 = 0 then some ((-2199023255558 : Int64), M15) else lt ((((48 : Int32) * a1) + a2)) (fun x18 => wr M15 m_keptValue 192 x18 a3 (fun M19 => wr M19 m_keptSize 192 x18 a4 (fun M20 => wz M20 m_dirty 192 x18 (1 : Int32) (fun M21 => (if b7 = 0 then some ((0 : Int64), M21) else o1 (f_X11_addRecord M21 a1 (0 : Int32) a2 (-1 : Int32)) (fun M24 => some ((0 : Int64), M24)))))))))))) (fun J58 => (if b7 = 0 then J58 M8 else rd M8 m_records 4 a1 (fun v26 => (if v26 = (12 : Int32) then some ((-2199023255557 : Int64), M8) else J58 M8))))) (fun J36 => (if v6 = (-1 : Int32) then J36 ((1 : Int32), M2) else J36 ((0 : Int32), M2)))) else some (v3, M2)))
set_option maxHeartbeats 4000000 in
set_option maxRecDepth 100000 in
theorem t_X11_writeAlone (l : Launch) (D : va_G) (dA : Nat → ClassId) (A : gI → Nat) (hJ : gJ mLive A) {M : gM} {a1 : Int32} {a2 : Int32} {a3 : Int32} {a4 : Int32}  {y : (Int64 × gM)} (h : f_X11_writeAlone M a1 a2 a3 a4 = some y) : mMl l yX11_writeAlone wsX11_writeAlone ({ frames := 5, cells := 0, slots := 0, locals := 129 } : Room) D dA A [.ref (A m_o), .int a1, .int a2, .int a3, .int a4] M y.1 y.2 := by
  refine Met.ofW (cc := cX11_writeAlone) (maxL := 9) (ret := (some .long)) (by decide) rfl ?_
  intro p e s m args below meth c s₁ B hml hv
  obtain ⟨rfl, hP, hK⟩ := hv
  generalize hargs : ([.ref (A m_o), .int a1, .int a2, .int a3, .int a4] : List Value).toArray = args at B ⊢
  have S : CallFix p m c cX11_writeAlone 9 s args wsX11_writeAlone RX11 := ⟨B.exec, B.bytes, hml, findClass_of_methodNamed B.named, atoms_spec (ws := wsX11_writeAlone) B.pre⟩
  obtain ⟨hx, hb, -, hown, hts⟩ := id S
  have hr := B.returns
  have hlocks := B.notSynchronized
  have X : gX D vwCl dA mLive A (gA mLive A) s := ⟨hK, hJ, fun i hi => ⟨i, hi, rfl⟩⟩
  have Z : gZ D mLay dA mLive A (gA mLive A) s.heap M s.heap [] := ⟨hP, va_S.rf⟩
  have hin : ∀ w ∈ wsX110, w ∈ wsX11_writeAlone := fun w h => List.mem_cons_of_mem _ (List.mem_append_right _ h)
  have hl_68 := hts (.fieldLink RX11 68 "ReplicaFilesModel" "keptValue" "[I") (by decide +kernel)
  have hl_71 := hts (.fieldLink RX11 71 "ReplicaFilesModel" "keptSize" "[I") (by decide +kernel)
  have hl_80 := hts (.fieldLink RX11 80 "ReplicaFilesModel" "dirty" "[Z") (by decide +kernel)
  have hl_98 := hts (.fieldLink RX11 98 "ReplicaFilesModel" "records" "[I") (by decide +kernel)
  have hc_336 := hts (.constantLong RX11 336 (-2199023255557)) (by decide +kernel)
  have hc_362 := hts (.constantLong RX11 362 (-2199023255558)) (by decide +kernel)
  have hl := lv_entry ([.ref (A m_o), .int a1, .int a2, .int a3, .int a4]) (n := 9) (Nat.le_of_ble_eq_true rfl)
  rw [← hargs, lg_entry_eq, hargs]
  generalize (lg_sl ([.ref (A m_o), .int a1, .int a2, .int a3, .int a4]) ++ List.replicate (9 - (lg_sl ([.ref (A m_o), .int a1, .int a2, .int a3, .int a4])).length) Slot.unset).toArray = ls at hl ⊢
  have hl : lv_has ls 9 [(0, .ref (A m_o)), (1, .int a1), (2, .int a2), (3, .int a3), (4, .int a4)] := hl
  unfold f_X11_writeAlone at h
  refine lv_aload_n hx hb dX11_writeAlone_0 rfl (lv_at hl 0 rfl) ?_
  refine lv_iload_n hx hb dX11_writeAlone_1 rfl (lv_at hl 1 rfl) ?_
  refine lv_iload_n hx hb dX11_writeAlone_2 rfl (lv_at hl 2 rfl) ?_
  refine lv_bipush (v := (10 : Int32)) hx hb dX11_writeAlone_3 (by decide) ?_
  obtain ⟨v3, M2, hc1, h⟩ := ob_e h
  refine g_Vl (As := [.int a1, .int a2, .int (10 : Int32)]) (rest := []) S X Z mlv_o rfl rfl (t_X11_get l D dA A hJ  hc1) (cwV 3 hts gX11_writeAlone_X11_get rfl rfl rfl (by decide +kernel) ⟨Nat.le_of_ble_eq_true rfl, Nat.le_of_ble_eq_true rfl⟩) rfl hl.1 rfl (Nat.le_of_ble_eq_true rfl) dX11_writeAlone_5 ⟨Nat.zero_le _, Nat.zero_le _⟩ (fun H locs Z => ?_)
  refine lv_lstore (lv' := [(5, .long v3), (0, .ref (A m_o)), (1, .int a1), (2, .int a2), (3, .int a3), (4, .int a4)]) hx hb dX11_writeAlone_8 hl (by decide) rfl (fun ls hl => ?_)
  refine lv_lload hx hb dX11_writeAlone_10 (lv_at hl 0 rfl) ?_
  refine lv_lconst (v := (0 : Int64)) hx hb dX11_writeAlone_12 (by decide) ?_
  refine W.lcmp hx hb dX11_writeAlone_13 ?_
  refine lv_if_eq (tgt := 20) hx hb dX11_writeAlone_14 (by decide) (fun c4 => ?_) (fun c4 => ?_)
  · have h := if_t c4 h
    refine lv_aload_n hx hb dX11_writeAlone_20 rfl (lv_at hl 1 rfl) ?_
    refine lv_iload_n hx hb dX11_writeAlone_21 rfl (lv_at hl 2 rfl) ?_
    refine lv_iconst (v := (0 : Int32)) hx hb dX11_writeAlone_22 (by decide) ?_
    refine lv_iload_n hx hb dX11_writeAlone_23 rfl (lv_at hl 3 rfl) ?_
    obtain ⟨v6, hc5, h⟩ := o1_e h
    refine g_Vi (As := [.int a1, .int (0 : Int32), .int a2]) (rest := []) S X Z mlv_o rfl rfl (t_X11_recordOf l D dA A hJ  hc5) (cwV 3 hts gX11_writeAlone_X11_recordOf rfl rfl rfl (by decide +kernel) ⟨Nat.le_of_ble_eq_true rfl, Nat.le_of_ble_eq_true rfl⟩) rfl hl.1 rfl (Nat.le_of_ble_eq_true rfl) dX11_writeAlone_24 ⟨Nat.zero_le _, Nat.zero_le _⟩ (fun H locs Z => ?_)
    refine lv_iconst (v := (-1 : Int32)) hx hb dX11_writeAlone_27 (by decide) ?_
    obtain ⟨J36, eJ36, h⟩ := jn_e h
    have hJ36 : ∀ (b7 : Int32) (M8 : gM) (H : Heap) (locs : List Loc) (ls : Array Slot), gZ D mLay dA mLive A (gA mLive A) s.heap M8 H locs → lv_has ls 9 [(0, .ref (A m_o)), (1, .int a1), (2, .int a2), (3, .int a3), (4, .int a4)] → J36 (b7, M8) = some y → W p l e (headSpec wsX11_writeAlone ({ frames := 5, cells := 0, slots := 0, locals := 129 } : Room)).room s m args below meth c H locs 0 0 (MQ below (mQl D dA A y) args s 0 0 (gA mLive A)) (F0 m 36 ls [.int b7]) := by
      intro b7 M8 H locs ls Z hl h
      rw [eJ36] at h
      try dsimp only at h
      refine lv_istore (lv' := [(7, .int b7), (0, .ref (A m_o)), (1, .int a1), (2, .int a2), (3, .int a3), (4, .int a4)]) hx hb dX11_writeAlone_36 hl (by decide) rfl (fun ls hl => ?_)
      refine lv_iload hx hb dX11_writeAlone_38 (lv_at hl 0 rfl) ?_
      obtain ⟨J58, eJ58, h⟩ := jn_e h
      have hJ58 : ∀ (M9 : gM) (H : Heap) (locs : List Loc) (ls : Array Slot), gZ D mLay dA mLive A (gA mLive A) s.heap M9 H locs → lv_has ls 9 [(0, .ref (A m_o)), (1, .int a1), (2, .int a2), (3, .int a3), (4, .int a4), (7, .int b7)] → J58 M9 = some y → W p l e (headSpec wsX11_writeAlone ({ frames := 5, cells := 0, slots := 0, locals := 129 } : Room)).room s m args below meth c H locs 0 0 (MQ below (mQl D dA A y) args s 0 0 (gA mLive A)) (F0 m 58 ls []) := by
        intro M9 H locs ls Z hl h
        rw [eJ58] at h
        try dsimp only at h
        refine lv_aload_n hx hb dX11_writeAlone_58 rfl (lv_at hl 0 rfl) ?_
        refine lv_iload_n hx hb dX11_writeAlone_59 rfl (lv_at hl 1 rfl) ?_
        refine lv_aload_n hx hb dX11_writeAlone_60 rfl (lv_at hl 0 rfl) ?_
        refine lv_iload_n hx hb dX11_writeAlone_61 rfl (lv_at hl 2 rfl) ?_
        refine lv_iload hx hb dX11_writeAlone_62 (lv_at hl 4 rfl) ?_
        obtain ⟨v11, hc10, h⟩ := o1_e h
        refine g_Vi (As := [.int a2, .int a4]) (rest := [.int a1, .ref (A m_o)]) S X Z mlv_o rfl rfl (t_X11_weight l D dA A hJ  hc10) (cwV 2 hts gX11_writeAlone_X11_weight rfl rfl rfl (by decide +kernel) ⟨Nat.le_of_ble_eq_true rfl, Nat.le_of_ble_eq_true rfl⟩) rfl hl.1 rfl (Nat.le_of_ble_eq_true rfl) dX11_writeAlone_64 ⟨Nat.zero_le _, Nat.zero_le _⟩ (fun H locs Z => ?_)
        refine lv_aload_n hx hb dX11_writeAlone_67 rfl (lv_at hl 0 rfl) ?_
        refine lv_iload_n hx hb dX11_writeAlone_68 rfl (lv_at hl 1 rfl) ?_
        refine lv_iload_n hx hb dX11_writeAlone_69 rfl (lv_at hl 2 rfl) ?_
        obtain ⟨v13, hc12, h⟩ := o1_e h
        refine g_Vi (As := [.int a1, .int a2]) (rest := [.int v11, .int a1, .ref (A m_o)]) S X Z mlv_o rfl rfl (t_X11_weightKept l D dA A hJ  hc12) (cwV 2 hts gX11_writeAlone_X11_weightKept rfl rfl rfl (by decide +kernel) ⟨Nat.le_of_ble_eq_true rfl, Nat.le_of_ble_eq_true rfl⟩) rfl hl.1 rfl (Nat.le_of_ble_eq_true rfl) dX11_writeAlone_70 ⟨Nat.zero_le _, Nat.zero_le _⟩ (fun H locs Z => ?_)
        refine lv_isub hx hb dX11_writeAlone_73 ?_
        refine lv_iload_n hx hb dX11_writeAlone_74 rfl (lv_at hl 2 rfl) ?_
        refine lv_bipush (v := (10 : Int32)) hx hb dX11_writeAlone_75 (by decide) ?_
        obtain ⟨v16, M15, hc14, h⟩ := ob_e h
        refine g_Vi (As := [.int a1, .int (v11 - v13), .int a2, .int (10 : Int32)]) (rest := []) S X Z mlv_o rfl rfl (t_X11_makeRoom l D dA A hJ  hc14) (cwV 4 hts gX11_writeAlone_X11_makeRoom rfl rfl rfl (by decide +kernel) ⟨Nat.le_of_ble_eq_true rfl, Nat.le_of_ble_eq_true rfl⟩) rfl hl.1 rfl (Nat.le_of_ble_eq_true rfl) dX11_writeAlone_77 ⟨Nat.zero_le _, Nat.zero_le _⟩ (fun H locs Z => ?_)
        refine lv_if_ne (tgt := 87) hx hb dX11_writeAlone_80 (by decide) (fun c17 => ?_) (fun c17 => ?_)
        · have h := if_f c17 h
          refine lv_bipush (v := (48 : Int32)) hx hb dX11_writeAlone_87 (by decide) ?_
          refine lv_iload_n hx hb dX11_writeAlone_89 rfl (lv_at hl 1 rfl) ?_
          refine lv_imul hx hb dX11_writeAlone_90 ?_
          refine lv_iload_n hx hb dX11_writeAlone_91 rfl (lv_at hl 2 rfl) ?_
          refine lv_iadd hx hb dX11_writeAlone_92 ?_
          refine g_topi h (fun x18 h => ?_)
          refine lv_istore (lv' := [(8, .int x18), (0, .ref (A m_o)), (1, .int a1), (2, .int a2), (3, .int a3), (4, .int a4), (7, .int b7)]) hx hb dX11_writeAlone_93 hl (by decide) rfl (fun ls hl => ?_)
          refine lv_aload_n hx hb dX11_writeAlone_95 rfl (lv_at hl 1 rfl) ?_
          refine mr_keptValue S X Z hin hl_68 dX11_writeAlone_96 ?_
          refine lv_iload hx hb dX11_writeAlone_99 (lv_at hl 0 rfl) ?_
          refine lv_iload_n hx hb dX11_writeAlone_101 rfl (lv_at hl 4 rfl) ?_
          refine g_iast S X Z ml_keptValue rfl dX11_writeAlone_102 h (fun M19 H locs Z h => ?_)
          refine lv_aload_n hx hb dX11_writeAlone_103 rfl (lv_at hl 1 rfl) ?_
          refine mr_keptSize S X Z hin hl_71 dX11_writeAlone_104 ?_
          refine lv_iload hx hb dX11_writeAlone_107 (lv_at hl 0 rfl) ?_
          refine lv_iload hx hb dX11_writeAlone_109 (lv_at hl 5 rfl) ?_
          refine g_iast S X Z ml_keptSize rfl dX11_writeAlone_111 h (fun M20 H locs Z h => ?_)
          refine lv_aload_n hx hb dX11_writeAlone_112 rfl (lv_at hl 1 rfl) ?_
          refine mr_dirty S X Z hin hl_80 dX11_writeAlone_113 ?_
          refine lv_iload hx hb dX11_writeAlone_116 (lv_at hl 0 rfl) ?_
          refine lv_iconst (v := (1 : Int32)) hx hb dX11_writeAlone_118 (by decide) ?_
          refine g_zast S X Z ml_dirty rfl dX11_writeAlone_119 h (fun M21 H locs Z h => ?_)
          refine lv_iload hx hb dX11_writeAlone_120 (lv_at hl 6 rfl) ?_
          refine lv_if_eq (tgt := 133) hx hb dX11_writeAlone_122 (by decide) (fun c22 => ?_) (fun c22 => ?_)
          · have h := if_t c22 h
            refine lv_lconst (v := (0 : Int64)) hx hb dX11_writeAlone_133 (by decide) ?_
            have hy := Option.some.inj h
            subst hy
            exact g_rl S Z hr hlocks dX11_writeAlone_134
          · have h := if_f c22 h
            refine lv_aload_n hx hb dX11_writeAlone_125 rfl (lv_at hl 1 rfl) ?_
            refine lv_iload_n hx hb dX11_writeAlone_126 rfl (lv_at hl 2 rfl) ?_
            refine lv_iconst (v := (0 : Int32)) hx hb dX11_writeAlone_127 (by decide) ?_
            refine lv_iload_n hx hb dX11_writeAlone_128 rfl (lv_at hl 3 rfl) ?_
            refine lv_iconst (v := (-1 : Int32)) hx hb dX11_writeAlone_129 (by decide) ?_
            obtain ⟨M24, hc23, h⟩ := o1_e h
            refine g_Vv (As := [.int a1, .int (0 : Int32), .int a2, .int (-1 : Int32)]) (rest := []) S X Z mlv_o rfl rfl (t_X11_addRecord l D dA A hJ  hc23) (cwV 4 hts gX11_writeAlone_X11_addRecord rfl rfl rfl (by decide +kernel) ⟨Nat.le_of_ble_eq_true rfl, Nat.le_of_ble_eq_true rfl⟩) rfl hl.1 rfl (Nat.le_of_ble_eq_true rfl) dX11_writeAlone_130 ⟨Nat.zero_le _, Nat.zero_le _⟩ (fun H locs Z => ?_)
            refine lv_lconst (v := (0 : Int64)) hx hb dX11_writeAlone_133 (by decide) ?_
            have hy := Option.some.inj h
            subst hy
            exact g_rl S Z hr hlocks dX11_writeAlone_134
        · have h := if_t c17 h
          refine lv_ldc2 hx hb hown hc_362 dX11_writeAlone_83 ?_
          have hy := Option.some.inj h
          subst hy
          exact g_rl S Z hr hlocks dX11_writeAlone_86
      refine lv_if_eq (tgt := 58) hx hb dX11_writeAlone_40 (by decide) (fun c25 => ?_) (fun c25 => ?_)
      · have h := if_t c25 h
        exact hJ58 M8 _ _ _ Z (lv_sub hl [1, 2, 3, 4, 5, 0] rfl) h
      · have h := if_f c25 h
        refine lv_aload_n hx hb dX11_writeAlone_43 rfl (lv_at hl 1 rfl) ?_
        refine mr_records S X Z hin hl_98 dX11_writeAlone_44 ?_
        refine lv_iload_n hx hb dX11_writeAlone_47 rfl (lv_at hl 2 rfl) ?_
        refine g_iald S X Z ml_records rfl dX11_writeAlone_48 h (fun v26 h => ?_)
        refine lv_bipush (v := (12 : Int32)) hx hb dX11_writeAlone_49 (by decide) ?_
        refine lv_icmp_ne (tgt := 58) hx hb dX11_writeAlone_51 (by decide) (fun c27 => ?_) (fun c27 => ?_)
        · have h := if_f c27 h
          exact hJ58 M8 _ _ _ Z (lv_sub hl [1, 2, 3, 4, 5, 0] rfl) h
        · have h := if_t c27 h
          refine lv_ldc2 hx hb hown hc_336 dX11_writeAlone_54 ?_
          have hy := Option.some.inj h
          subst hy
          exact g_rl S Z hr hlocks dX11_writeAlone_57
    refine lv_icmp_ne (tgt := 35) hx hb dX11_writeAlone_28 (by decide) (fun c28 => ?_) (fun c28 => ?_)
    · have h := if_f c28 h
      refine lv_iconst (v := (0 : Int32)) hx hb dX11_writeAlone_35 (by decide) ?_
      exact hJ36 (0 : Int32) M2 _ _ _ Z (lv_sub hl [1, 2, 3, 4, 5] rfl) h
    · have h := if_t c28 h
      refine lv_iconst (v := (1 : Int32)) hx hb dX11_writeAlone_31 (by decide) ?_
      refine lv_goto (tgt := 36) hx hb dX11_writeAlone_32 (by decide) ?_
      exact hJ36 (1 : Int32) M2 _ _ _ Z (lv_sub hl [1, 2, 3, 4, 5] rfl) h
  · have h := if_f c4 h
    refine lv_lload hx hb dX11_writeAlone_17 (lv_at hl 0 rfl) ?_
    have hy := Option.some.inj h
    subst hy
    exact g_rl S Z hr hlocks dX11_writeAlone_19
-- X11_write (IIII)J: 132 instructions
set_option maxRecDepth 20000 in
theorem ggX11_write_X11_isClient : GoodIn wsX11_write wsX11_isClient := goodIn_r _ [11, 12, 13, 10, 14] (by decide +kernel) (by decide +kernel)
set_option maxRecDepth 20000 in
theorem gX11_write_X11_isClient : GoodIn wsX11_write (va_wsS RX11 191 yX11_isClient wsX11_isClient) := goodIn_app (goodIn_of _ (by decide +kernel)) ggX11_write_X11_isClient
set_option maxRecDepth 20000 in
theorem ggX11_write_X11_isObject : GoodIn wsX11_write wsX11_isObject := goodIn_r _ [17, 12, 13, 10, 14] (by decide +kernel) (by decide +kernel)
set_option maxRecDepth 20000 in
theorem gX11_write_X11_isObject : GoodIn wsX11_write (va_wsS RX11 194 yX11_isObject wsX11_isObject) := goodIn_app (goodIn_of _ (by decide +kernel)) ggX11_write_X11_isObject
set_option maxRecDepth 20000 in
theorem ggX11_write_X11_in : GoodIn wsX11_write wsX11_in := goodIn_r _ [14] (by decide +kernel) (by decide +kernel)
set_option maxRecDepth 20000 in
theorem gX11_write_X11_in : GoodIn wsX11_write (va_wsS RX11 168 yX11_in wsX11_in) := goodIn_app (goodIn_of _ (by decide +kernel)) ggX11_write_X11_in
set_option maxRecDepth 20000 in
theorem ggX11_write_X11_kindOf : GoodIn wsX11_write wsX11_kindOf := goodIn_r _ [21, 22, 23, 24, 25, 186, 187, 188, 189, 190, 191, 192, 193, 194, 195, 196, 197, 198, 199, 200, 201, 202, 203, 204, 205, 206, 207, 208, 209, 210, 211, 212, 213, 214, 215, 216, 217, 218, 219, 220, 221, 222, 223, 224, 225, 226, 227, 228, 229, 230, 231, 232, 233, 234, 235, 236, 237, 238, 239, 240, 241, 242, 243, 244, 245, 246, 247, 248, 249, 250, 251, 252] (by decide +kernel) (by decide +kernel)
set_option maxRecDepth 20000 in
theorem gX11_write_X11_kindOf : GoodIn wsX11_write (wsV RX11 278 RX11 yX11_kindOf wsX11_kindOf) := goodIn_app (goodIn_of _ (by decide +kernel)) ggX11_write_X11_kindOf
set_option maxRecDepth 20000 in
theorem ggX11_write_X11_isAlone : GoodIn wsX11_write wsX11_isAlone := goodIn_r _ [29, 30, 31, 32, 33, 10, 34, 35, 36, 37, 38, 39, 40, 41, 186, 187, 188, 189, 190, 191, 192, 193, 194, 195, 196, 197, 198, 199, 200, 201, 202, 203, 204, 205, 206, 207, 208, 209, 210, 211, 212, 213, 214, 215, 216, 217, 218, 219, 220, 221, 222, 223, 224, 225, 226, 227, 228, 229, 230, 231, 232, 233, 234, 235, 236, 237, 238, 239, 240, 241, 242, 243, 244, 245, 246, 247, 248, 249, 250, 251, 252] (by decide +kernel) (by decide +kernel)
set_option maxRecDepth 20000 in
theorem gX11_write_X11_isAlone : GoodIn wsX11_write (wsV RX11 238 RX11 yX11_isAlone wsX11_isAlone) := goodIn_app (goodIn_of _ (by decide +kernel)) ggX11_write_X11_isAlone
set_option maxRecDepth 20000 in
theorem ggX11_write_X11_writeAlone : GoodIn wsX11_write wsX11_writeAlone := goodIn_r _ [45, 30, 46, 47, 6, 7, 48, 49, 50, 51, 10, 52, 5, 53, 35, 54, 55, 56, 57, 58, 26, 27, 28, 29, 31, 32, 33, 34, 36, 37, 38, 39, 40, 41, 59, 60, 61, 62, 63, 64, 65, 2, 66, 67, 68, 69, 70, 71, 3, 72, 73, 74, 75, 76, 77, 78, 79, 80, 81, 22, 82, 83, 84, 85, 86, 87, 88, 89, 90, 91, 92, 93, 94, 95, 96, 97, 98, 99, 100, 101, 102, 103, 104, 105, 106, 107, 108, 109, 110, 111, 112, 113, 114, 115, 24, 116, 117, 118, 119, 120, 121, 122, 123, 124, 125, 126, 127, 128, 129, 130, 131, 132, 133, 134, 135, 136, 137, 138, 139, 140, 141, 142, 143, 144, 145, 146, 147, 148, 149, 186, 187, 188, 189, 190, 191, 192, 193, 194, 195, 196, 197, 198, 199, 200, 201, 202, 203, 204, 205, 206, 207, 208, 209, 210, 211, 212, 213, 214, 215, 216, 217, 218, 219, 220, 221, 222, 223, 224, 225, 226, 227, 228, 229, 230, 231, 232, 233, 234, 235, 236, 237, 238, 239, 240, 241, 242, 243, 244, 245, 246, 247, 248, 249, 250, 251, 252] (by decide +kernel) (by decide +kernel)
set_option maxRecDepth 20000 in
theorem gX11_write_X11_writeAlone : GoodIn wsX11_write (wsV RX11 319 RX11 yX11_writeAlone wsX11_writeAlone) := goodIn_app (goodIn_of _ (by decide +kernel)) ggX11_write_X11_writeAlone
set_option maxRecDepth 20000 in
theorem ggX11_write_X11_get : GoodIn wsX11_write wsX11_get := goodIn_r _ [52, 5, 53, 35, 54, 55, 56, 57, 58, 26, 27, 28, 10, 29, 30, 31, 32, 33, 34, 36, 37, 38, 39, 40, 41, 59, 60, 61, 62, 63, 64, 65, 2, 66, 67, 68, 69, 6, 70, 71, 3, 72, 73, 74, 75, 76, 77, 78, 79, 80, 81, 22, 82, 83, 84, 85, 86, 87, 88, 89, 90, 91, 48, 92, 93, 94, 95, 96, 97, 98, 99, 100, 101, 102, 103, 104, 105, 106, 107, 108, 109, 7, 110, 111, 112, 113, 114, 115, 24, 116, 117, 118, 119, 120, 121, 122, 123, 124, 125, 126, 127, 128, 129, 130, 131, 132, 133, 134, 135, 136, 137, 186, 187, 188, 189, 190, 191, 192, 193, 194, 195, 196, 197, 198, 199, 200, 201, 202, 203, 204, 205, 206, 207, 208, 209, 210, 211, 212, 213, 214, 215, 216, 217, 218, 219, 220, 221, 222, 223, 224, 225, 226, 227, 228, 229, 230, 231, 232, 233, 234, 235, 236, 237, 238, 239, 240, 241, 242, 243, 244, 245, 246, 247, 248, 249, 250, 251, 252] (by decide +kernel) (by decide +kernel)
set_option maxRecDepth 20000 in
theorem gX11_write_X11_get : GoodIn wsX11_write (wsV RX11 282 RX11 yX11_get wsX11_get) := goodIn_app (goodIn_of _ (by decide +kernel)) ggX11_write_X11_get
set_option maxRecDepth 20000 in
theorem ggX11_write_X11_nearSet : GoodIn wsX11_write wsX11_nearSet := goodIn_r _ [34, 35, 36, 37, 38, 10, 39, 40, 41, 186, 187, 188, 189, 190, 191, 192, 193, 194, 195, 196, 197, 198, 199, 200, 201, 202, 203, 204, 205, 206, 207, 208, 209, 210, 211, 212, 213, 214, 215, 216, 217, 218, 219, 220, 221, 222, 223, 224, 225, 226, 227, 228, 229, 230, 231, 232, 233, 234, 235, 236, 237, 238, 239, 240, 241, 242, 243, 244, 245, 246, 247, 248, 249, 250, 251, 252] (by decide +kernel) (by decide +kernel)
set_option maxRecDepth 20000 in
theorem gX11_write_X11_nearSet : GoodIn wsX11_write (wsV RX11 180 RX11 yX11_nearSet wsX11_nearSet) := goodIn_app (goodIn_of _ (by decide +kernel)) ggX11_write_X11_nearSet
set_option maxRecDepth 20000 in
theorem ggX11_write_X11_setOf : GoodIn wsX11_write wsX11_setOf := goodIn_r _ [153, 35, 54, 57, 96, 134, 135, 136, 10, 137, 101, 186, 187, 188, 189, 190, 191, 192, 193, 194, 195, 196, 197, 198, 199, 200, 201, 202, 203, 204, 205, 206, 207, 208, 209, 210, 211, 212, 213, 214, 215, 216, 217, 218, 219, 220, 221, 222, 223, 224, 225, 226, 227, 228, 229, 230, 231, 232, 233, 234, 235, 236, 237, 238, 239, 240, 241, 242, 243, 244, 245, 246, 247, 248, 249, 250, 251, 252] (by decide +kernel) (by decide +kernel)
set_option maxRecDepth 20000 in
theorem gX11_write_X11_setOf : GoodIn wsX11_write (wsV RX11 323 RX11 yX11_setOf wsX11_setOf) := goodIn_app (goodIn_of _ (by decide +kernel)) ggX11_write_X11_setOf
set_option maxRecDepth 20000 in
theorem ggX11_write_X11_putValue : GoodIn wsX11_write wsX11_putValue := goodIn_r _ [157, 35, 4, 106, 108, 158, 159, 160, 161, 10, 162, 163, 164, 165, 96, 166, 167, 168, 169, 170, 171, 172, 173, 174, 186, 187, 188, 189, 190, 191, 192, 193, 194, 195, 196, 197, 198, 199, 200, 201, 202, 203, 204, 205, 206, 207, 208, 209, 210, 211, 212, 213, 214, 215, 216, 217, 218, 219, 220, 221, 222, 223, 224, 225, 226, 227, 228, 229, 230, 231, 232, 233, 234, 235, 236, 237, 238, 239, 240, 241, 242, 243, 244, 245, 246, 247, 248, 249, 250, 251, 252] (by decide +kernel) (by decide +kernel)
set_option maxRecDepth 20000 in
theorem gX11_write_X11_putValue : GoodIn wsX11_write (wsV RX11 327 RX11 yX11_putValue wsX11_putValue) := goodIn_app (goodIn_of _ (by decide +kernel)) ggX11_write_X11_putValue
set_option maxRecDepth 20000 in
theorem ggX11_write_X11_weight : GoodIn wsX11_write wsX11_weight := goodIn_r _ [115, 24, 186, 187, 188, 189, 190, 191, 192, 193, 194, 195, 196, 197, 198, 199, 200, 201, 202, 203, 204, 205, 206, 207, 208, 209, 210, 211, 212, 213, 214, 215, 216, 217, 218, 219, 220, 221, 222, 223, 224, 225, 226, 227, 228, 229, 230, 231, 232, 233, 234, 235, 236, 237, 238, 239, 240, 241, 242, 243, 244, 245, 246, 247, 248, 249, 250, 251, 252] (by decide +kernel) (by decide +kernel)
set_option maxRecDepth 20000 in
theorem gX11_write_X11_weight : GoodIn wsX11_write (wsV RX11 204 RX11 yX11_weight wsX11_weight) := goodIn_app (goodIn_of _ (by decide +kernel)) ggX11_write_X11_weight
set_option maxRecDepth 20000 in
theorem ggX11_write_X11_weightKept : GoodIn wsX11_write wsX11_weightKept := goodIn_r _ [119, 5, 7, 112, 113, 114, 10, 115, 24, 186, 187, 188, 189, 190, 191, 192, 193, 194, 195, 196, 197, 198, 199, 200, 201, 202, 203, 204, 205, 206, 207, 208, 209, 210, 211, 212, 213, 214, 215, 216, 217, 218, 219, 220, 221, 222, 223, 224, 225, 226, 227, 228, 229, 230, 231, 232, 233, 234, 235, 236, 237, 238, 239, 240, 241, 242, 243, 244, 245, 246, 247, 248, 249, 250, 251, 252] (by decide +kernel) (by decide +kernel)
set_option maxRecDepth 20000 in
theorem gX11_write_X11_weightKept : GoodIn wsX11_write (wsV RX11 214 RX11 yX11_weightKept wsX11_weightKept) := goodIn_app (goodIn_of _ (by decide +kernel)) ggX11_write_X11_weightKept
set_option maxRecDepth 20000 in
theorem ggX11_write_X11_makeRoom : GoodIn wsX11_write wsX11_makeRoom := goodIn_r _ [123, 124, 116, 117, 118, 10, 119, 5, 7, 112, 113, 114, 115, 24, 125, 126, 127, 128, 48, 65, 2, 129, 130, 131, 132, 133, 64, 88, 89, 90, 91, 87, 22, 73, 78, 79, 80, 81, 82, 186, 187, 188, 189, 190, 191, 192, 193, 194, 195, 196, 197, 198, 199, 200, 201, 202, 203, 204, 205, 206, 207, 208, 209, 210, 211, 212, 213, 214, 215, 216, 217, 218, 219, 220, 221, 222, 223, 224, 225, 226, 227, 228, 229, 230, 231, 232, 233, 234, 235, 236, 237, 238, 239, 240, 241, 242, 243, 244, 245, 246, 247, 248, 249, 250, 251, 252] (by decide +kernel) (by decide +kernel)
set_option maxRecDepth 20000 in
theorem gX11_write_X11_makeRoom : GoodIn wsX11_write (wsV RX11 269 RX11 yX11_makeRoom wsX11_makeRoom) := goodIn_app (goodIn_of _ (by decide +kernel)) ggX11_write_X11_makeRoom
set_option maxRecDepth 20000 in
theorem ggX11_write_X11_forget : GoodIn wsX11_write wsX11_forget := goodIn_r _ [91, 5, 48, 87, 22, 73, 78, 79, 80, 10, 81, 82, 186, 187, 188, 189, 190, 191, 192, 193, 194, 195, 196, 197, 198, 199, 200, 201, 202, 203, 204, 205, 206, 207, 208, 209, 210, 211, 212, 213, 214, 215, 216, 217, 218, 219, 220, 221, 222, 223, 224, 225, 226, 227, 228, 229, 230, 231, 232, 233, 234, 235, 236, 237, 238, 239, 240, 241, 242, 243, 244, 245, 246, 247, 248, 249, 250, 251, 252] (by decide +kernel) (by decide +kernel)
set_option maxRecDepth 20000 in
theorem gX11_write_X11_forget : GoodIn wsX11_write (wsV RX11 224 RX11 yX11_forget wsX11_forget) := goodIn_app (goodIn_of _ (by decide +kernel)) ggX11_write_X11_forget
set_option maxRecDepth 20000 in
theorem ggX11_write_X11_follow : GoodIn wsX11_write wsX11_follow := goodIn_r _ [178, 5, 71, 4, 87, 163, 171, 172, 173, 10, 174, 35, 170, 179, 180, 181, 182, 186, 187, 188, 189, 190, 191, 192, 193, 194, 195, 196, 197, 198, 199, 200, 201, 202, 203, 204, 205, 206, 207, 208, 209, 210, 211, 212, 213, 214, 215, 216, 217, 218, 219, 220, 221, 222, 223, 224, 225, 226, 227, 228, 229, 230, 231, 232, 233, 234, 235, 236, 237, 238, 239, 240, 241, 242, 243, 244, 245, 246, 247, 248, 249, 250, 251, 252] (by decide +kernel) (by decide +kernel)
set_option maxRecDepth 20000 in
theorem gX11_write_X11_follow : GoodIn wsX11_write (wsV RX11 330 RX11 yX11_follow wsX11_follow) := goodIn_app (goodIn_of _ (by decide +kernel)) ggX11_write_X11_follow
set_option maxRecDepth 20000 in
theorem ggX11_write_X11_manyOf : GoodIn wsX11_write wsX11_manyOf := goodIn_r _ [185] (by decide +kernel) (by decide +kernel)
set_option maxRecDepth 20000 in
theorem gX11_write_X11_manyOf : GoodIn wsX11_write (va_wsS RX11 333 yX11_manyOf wsX11_manyOf) := goodIn_app (goodIn_of _ (by decide +kernel)) ggX11_write_X11_manyOf
theorem dX11_write_0 : decode cX11_write 0 = .ok (.aload_n 0, 1) := by decide +kernel
theorem dX11_write_1 : decode cX11_write 1 = .ok (.iload_n 1, 1) := by decide +kernel
theorem dX11_write_2 : decode cX11_write 2 = .ok (.invokestatic 191, 3) := by decide +kernel
theorem dX11_write_5 : decode cX11_write 5 = .ok (.ifCond .eq 10, 3) := by decide +kernel
theorem dX11_write_8 : decode cX11_write 8 = .ok (.iload_n 2, 1) := by decide +kernel
theorem dX11_write_9 : decode cX11_write 9 = .ok (.invokestatic 194, 3) := by decide +kernel
theorem dX11_write_12 : decode cX11_write 12 = .ok (.ifCond .ne 7, 3) := by decide +kernel
theorem dX11_write_15 : decode cX11_write 15 = .ok (.iconst 1, 1) := by decide +kernel
theorem dX11_write_16 : decode cX11_write 16 = .ok (.goto 19, 3) := by decide +kernel
theorem dX11_write_19 : decode cX11_write 19 = .ok (.iload 4, 2) := by decide +kernel
theorem dX11_write_21 : decode cX11_write 21 = .ok (.iconst 0, 1) := by decide +kernel
theorem dX11_write_22 : decode cX11_write 22 = .ok (.bipush 6, 2) := by decide +kernel
theorem dX11_write_24 : decode cX11_write 24 = .ok (.invokestatic 168, 3) := by decide +kernel
theorem dX11_write_27 : decode cX11_write 27 = .ok (.ifCond .eq 7, 3) := by decide +kernel
theorem dX11_write_30 : decode cX11_write 30 = .ok (.iconst 0, 1) := by decide +kernel
theorem dX11_write_31 : decode cX11_write 31 = .ok (.goto 4, 3) := by decide +kernel
theorem dX11_write_34 : decode cX11_write 34 = .ok (.iconst 2, 1) := by decide +kernel
theorem dX11_write_35 : decode cX11_write 35 = .ok (.putfield 165, 3) := by decide +kernel
theorem dX11_write_38 : decode cX11_write 38 = .ok (.aload_n 0, 1) := by decide +kernel
theorem dX11_write_39 : decode cX11_write 39 = .ok (.getfield 165, 3) := by decide +kernel
theorem dX11_write_42 : decode cX11_write 42 = .ok (.ifCond .le 5, 3) := by decide +kernel
theorem dX11_write_45 : decode cX11_write 45 = .ok (.lconst 0, 1) := by decide +kernel
theorem dX11_write_46 : decode cX11_write 46 = .ok (.lreturn, 1) := by decide +kernel
theorem dX11_write_47 : decode cX11_write 47 = .ok (.aload_n 0, 1) := by decide +kernel
theorem dX11_write_48 : decode cX11_write 48 = .ok (.iload_n 2, 1) := by decide +kernel
theorem dX11_write_49 : decode cX11_write 49 = .ok (.iconst 0, 1) := by decide +kernel
theorem dX11_write_50 : decode cX11_write 50 = .ok (.invokevirtual 278, 3) := by decide +kernel
theorem dX11_write_53 : decode cX11_write 53 = .ok (.lstore 5, 2) := by decide +kernel
theorem dX11_write_55 : decode cX11_write 55 = .ok (.lload 5, 2) := by decide +kernel
theorem dX11_write_57 : decode cX11_write 57 = .ok (.lconst 0, 1) := by decide +kernel
theorem dX11_write_58 : decode cX11_write 58 = .ok (.lcmp, 1) := by decide +kernel
theorem dX11_write_59 : decode cX11_write 59 = .ok (.ifCond .eq 6, 3) := by decide +kernel
theorem dX11_write_62 : decode cX11_write 62 = .ok (.lload 5, 2) := by decide +kernel
theorem dX11_write_64 : decode cX11_write 64 = .ok (.lreturn, 1) := by decide +kernel
theorem dX11_write_65 : decode cX11_write 65 = .ok (.aload_n 0, 1) := by decide +kernel
theorem dX11_write_66 : decode cX11_write 66 = .ok (.dup, 1) := by decide +kernel
theorem dX11_write_67 : decode cX11_write 67 = .ok (.getfield 211, 3) := by decide +kernel
theorem dX11_write_70 : decode cX11_write 70 = .ok (.iconst 1, 1) := by decide +kernel
theorem dX11_write_71 : decode cX11_write 71 = .ok (.iadd, 1) := by decide +kernel
theorem dX11_write_72 : decode cX11_write 72 = .ok (.putfield 211, 3) := by decide +kernel
theorem dX11_write_75 : decode cX11_write 75 = .ok (.aload_n 0, 1) := by decide +kernel
theorem dX11_write_76 : decode cX11_write 76 = .ok (.iload_n 1, 1) := by decide +kernel
theorem dX11_write_77 : decode cX11_write 77 = .ok (.invokevirtual 238, 3) := by decide +kernel
theorem dX11_write_80 : decode cX11_write 80 = .ok (.ifCond .eq 13, 3) := by decide +kernel
theorem dX11_write_83 : decode cX11_write 83 = .ok (.aload_n 0, 1) := by decide +kernel
theorem dX11_write_84 : decode cX11_write 84 = .ok (.iload_n 1, 1) := by decide +kernel
theorem dX11_write_85 : decode cX11_write 85 = .ok (.iload_n 2, 1) := by decide +kernel
theorem dX11_write_86 : decode cX11_write 86 = .ok (.iload_n 3, 1) := by decide +kernel
theorem dX11_write_87 : decode cX11_write 87 = .ok (.iload 4, 2) := by decide +kernel
theorem dX11_write_89 : decode cX11_write 89 = .ok (.invokevirtual 319, 3) := by decide +kernel
theorem dX11_write_92 : decode cX11_write 92 = .ok (.lreturn, 1) := by decide +kernel
theorem dX11_write_93 : decode cX11_write 93 = .ok (.aload_n 0, 1) := by decide +kernel
theorem dX11_write_94 : decode cX11_write 94 = .ok (.iload_n 1, 1) := by decide +kernel
theorem dX11_write_95 : decode cX11_write 95 = .ok (.iload_n 2, 1) := by decide +kernel
theorem dX11_write_96 : decode cX11_write 96 = .ok (.bipush 10, 2) := by decide +kernel
theorem dX11_write_98 : decode cX11_write 98 = .ok (.invokevirtual 282, 3) := by decide +kernel
theorem dX11_write_101 : decode cX11_write 101 = .ok (.lstore 7, 2) := by decide +kernel
theorem dX11_write_103 : decode cX11_write 103 = .ok (.lload 7, 2) := by decide +kernel
theorem dX11_write_105 : decode cX11_write 105 = .ok (.lconst 0, 1) := by decide +kernel
theorem dX11_write_106 : decode cX11_write 106 = .ok (.lcmp, 1) := by decide +kernel
theorem dX11_write_107 : decode cX11_write 107 = .ok (.ifCond .eq 6, 3) := by decide +kernel
theorem dX11_write_110 : decode cX11_write 110 = .ok (.lload 7, 2) := by decide +kernel
theorem dX11_write_112 : decode cX11_write 112 = .ok (.lreturn, 1) := by decide +kernel
theorem dX11_write_113 : decode cX11_write 113 = .ok (.aload_n 0, 1) := by decide +kernel
theorem dX11_write_114 : decode cX11_write 114 = .ok (.aload_n 0, 1) := by decide +kernel
theorem dX11_write_115 : decode cX11_write 115 = .ok (.aload_n 0, 1) := by decide +kernel
theorem dX11_write_116 : decode cX11_write 116 = .ok (.iload_n 1, 1) := by decide +kernel
theorem dX11_write_117 : decode cX11_write 117 = .ok (.invokevirtual 180, 3) := by decide +kernel
theorem dX11_write_120 : decode cX11_write 120 = .ok (.iload_n 2, 1) := by decide +kernel
theorem dX11_write_121 : decode cX11_write 121 = .ok (.aload_n 0, 1) := by decide +kernel
theorem dX11_write_122 : decode cX11_write 122 = .ok (.getfield 116, 3) := by decide +kernel
theorem dX11_write_125 : decode cX11_write 125 = .ok (.invokevirtual 323, 3) := by decide +kernel
theorem dX11_write_128 : decode cX11_write 128 = .ok (.putfield 289, 3) := by decide +kernel
theorem dX11_write_131 : decode cX11_write 131 = .ok (.aload_n 0, 1) := by decide +kernel
theorem dX11_write_132 : decode cX11_write 132 = .ok (.iload_n 2, 1) := by decide +kernel
theorem dX11_write_133 : decode cX11_write 133 = .ok (.iload_n 3, 1) := by decide +kernel
theorem dX11_write_134 : decode cX11_write 134 = .ok (.iload 4, 2) := by decide +kernel
theorem dX11_write_136 : decode cX11_write 136 = .ok (.invokevirtual 327, 3) := by decide +kernel
theorem dX11_write_139 : decode cX11_write 139 = .ok (.bipush 48, 2) := by decide +kernel
theorem dX11_write_141 : decode cX11_write 141 = .ok (.iload_n 1, 1) := by decide +kernel
theorem dX11_write_142 : decode cX11_write 142 = .ok (.imul, 1) := by decide +kernel
theorem dX11_write_143 : decode cX11_write 143 = .ok (.iload_n 2, 1) := by decide +kernel
theorem dX11_write_144 : decode cX11_write 144 = .ok (.iadd, 1) := by decide +kernel
theorem dX11_write_145 : decode cX11_write 145 = .ok (.istore 9, 2) := by decide +kernel
theorem dX11_write_147 : decode cX11_write 147 = .ok (.aload_n 0, 1) := by decide +kernel
theorem dX11_write_148 : decode cX11_write 148 = .ok (.getfield 65, 3) := by decide +kernel
theorem dX11_write_151 : decode cX11_write 151 = .ok (.iload 9, 2) := by decide +kernel
theorem dX11_write_153 : decode cX11_write 153 = .ok (.baload, 1) := by decide +kernel
theorem dX11_write_154 : decode cX11_write 154 = .ok (.ifCond .eq 34, 3) := by decide +kernel
theorem dX11_write_157 : decode cX11_write 157 = .ok (.aload_n 0, 1) := by decide +kernel
theorem dX11_write_158 : decode cX11_write 158 = .ok (.iload_n 1, 1) := by decide +kernel
theorem dX11_write_159 : decode cX11_write 159 = .ok (.aload_n 0, 1) := by decide +kernel
theorem dX11_write_160 : decode cX11_write 160 = .ok (.iload_n 2, 1) := by decide +kernel
theorem dX11_write_161 : decode cX11_write 161 = .ok (.iload 4, 2) := by decide +kernel
theorem dX11_write_163 : decode cX11_write 163 = .ok (.invokevirtual 204, 3) := by decide +kernel
theorem dX11_write_166 : decode cX11_write 166 = .ok (.aload_n 0, 1) := by decide +kernel
theorem dX11_write_167 : decode cX11_write 167 = .ok (.iload_n 1, 1) := by decide +kernel
theorem dX11_write_168 : decode cX11_write 168 = .ok (.iload_n 2, 1) := by decide +kernel
theorem dX11_write_169 : decode cX11_write 169 = .ok (.invokevirtual 214, 3) := by decide +kernel
theorem dX11_write_172 : decode cX11_write 172 = .ok (.isub, 1) := by decide +kernel
theorem dX11_write_173 : decode cX11_write 173 = .ok (.iload_n 2, 1) := by decide +kernel
theorem dX11_write_174 : decode cX11_write 174 = .ok (.bipush 10, 2) := by decide +kernel
theorem dX11_write_176 : decode cX11_write 176 = .ok (.invokevirtual 269, 3) := by decide +kernel
theorem dX11_write_179 : decode cX11_write 179 = .ok (.ifCond .ne 9, 3) := by decide +kernel
theorem dX11_write_182 : decode cX11_write 182 = .ok (.aload_n 0, 1) := by decide +kernel
theorem dX11_write_183 : decode cX11_write 183 = .ok (.iload_n 1, 1) := by decide +kernel
theorem dX11_write_184 : decode cX11_write 184 = .ok (.iload_n 2, 1) := by decide +kernel
theorem dX11_write_185 : decode cX11_write 185 = .ok (.invokevirtual 224, 3) := by decide +kernel
theorem dX11_write_188 : decode cX11_write 188 = .ok (.aload_n 0, 1) := by decide +kernel
theorem dX11_write_189 : decode cX11_write 189 = .ok (.getfield 65, 3) := by decide +kernel
theorem dX11_write_192 : decode cX11_write 192 = .ok (.iload 9, 2) := by decide +kernel
theorem dX11_write_194 : decode cX11_write 194 = .ok (.baload, 1) := by decide +kernel
theorem dX11_write_195 : decode cX11_write 195 = .ok (.ifCond .eq 20, 3) := by decide +kernel
theorem dX11_write_198 : decode cX11_write 198 = .ok (.aload_n 0, 1) := by decide +kernel
theorem dX11_write_199 : decode cX11_write 199 = .ok (.getfield 68, 3) := by decide +kernel
theorem dX11_write_202 : decode cX11_write 202 = .ok (.iload 9, 2) := by decide +kernel
theorem dX11_write_204 : decode cX11_write 204 = .ok (.iload_n 3, 1) := by decide +kernel
theorem dX11_write_205 : decode cX11_write 205 = .ok (.iastore, 1) := by decide +kernel
theorem dX11_write_206 : decode cX11_write 206 = .ok (.aload_n 0, 1) := by decide +kernel
theorem dX11_write_207 : decode cX11_write 207 = .ok (.getfield 71, 3) := by decide +kernel
theorem dX11_write_210 : decode cX11_write 210 = .ok (.iload 9, 2) := by decide +kernel
theorem dX11_write_212 : decode cX11_write 212 = .ok (.iload 4, 2) := by decide +kernel
theorem dX11_write_214 : decode cX11_write 214 = .ok (.iastore, 1) := by decide +kernel
theorem dX11_write_215 : decode cX11_write 215 = .ok (.aload_n 0, 1) := by decide +kernel
theorem dX11_write_216 : decode cX11_write 216 = .ok (.iload_n 1, 1) := by decide +kernel
theorem dX11_write_217 : decode cX11_write 217 = .ok (.iload_n 2, 1) := by decide +kernel
theorem dX11_write_218 : decode cX11_write 218 = .ok (.invokevirtual 330, 3) := by decide +kernel
theorem dX11_write_221 : decode cX11_write 221 = .ok (.aload_n 0, 1) := by decide +kernel
theorem dX11_write_222 : decode cX11_write 222 = .ok (.getfield 289, 3) := by decide +kernel
theorem dX11_write_225 : decode cX11_write 225 = .ok (.invokestatic 333, 3) := by decide +kernel
theorem dX11_write_228 : decode cX11_write 228 = .ok (.i2l, 1) := by decide +kernel
theorem dX11_write_229 : decode cX11_write 229 = .ok (.lreturn, 1) := by decide +kernel
def f_X11_write (M : gM) (a1 : Int32) (a2 : Int32) (a3 : Int32) (a4 : Int32) : Option (Int64 × gM) :=
  o1 (f_X11_isClient M a1) (fun v2 => jn (fun (q : (Int32 × gM)) => match q with | (b3, M4) => lt (gset M4 m_o 66 b3) (fun M5 => lt (M5 m_o 66) (fun v6 => (if v6 ≤ 0 then o1 (f_X11_kindOf M5 a2 (0 : Int32)) (fun v9 => (if (lg_cmp v9 (0 : Int64)) = 0 then lt (M5 m_o 33) (fun v11 => lt (gset M5 m_o 33 (v11 + (1 : Int32))) (fun M12 => o1 (f_X11_isAlone M12 a1) (fun v14 => (if v14 = 0 then ob (f_X11_get M12 a1 a2 (10 : Int32)) (fun v18 M17 => (if (lg_cmp v18 (0 : Int64)) = 0 then o1 (f_X11_nearSet M17 a1) (fun v21 => o1 (f_X11_setOf M17 v21 a2 m_gotVector) (fun v23 => lt (gset M17 m_o 51 v23) (fun M24 => o1 (f_X11_putValue M24 a2 a3 a4) (fun M26 => lt ((((48 : Int32) * a1) + a2)) (fun x27 => rd M26 m_kept 192 x27 (fun v28 => jn (fun (M29 : gM) => rd M29 m_kept 192 x27 (fun v30 => jn (fun (M31 : gM) => o1 (f_X11_follow M31 a1 a2) (fun M33 => lt (M33 m_o 51) (fun v34 => o1 (f_X11_manyOf M33 v34) (fun v36 => some (v36.toInt64, M33))))) (fun J215 => (if v30 = 0 then J215 M29 else wr M29 m_keptValue 192 x27 a3 (fun M38 => wr M38 m_keptSize 192 x27 a4 (fun M39 => J215 M39)))))) (fun J188 => (if v28 = 0 then J188 M26 else o1 (f_X11_weight M26 a2 a4) (fun v42 => o1 (f_X11_weightKept M26 a1 a2) (fun v44 => ob (f_X11_makeRoom M26 a1 (v42 - v44) a2 (10 : Int32)) (fun v47 M46 => (if v47 = 0 then o1 (f_X11_forget M46 a1 a2) (fun M50 => J188 M50) else J188 M46)))))))))))) else some (v18, M17))) else ob (f_X11_writeAlone M12 a1 a2 a3 a4) (fun v53 M52 => some (v53, M52)))))) else some (v9, M5))) else some ((0 : Int64), M5))))) (fun J35 => jn (fun (M54 : gM) => J35 ((1 : Int32), M54)) (fun J15 => (if v2 = 0 then J15 M else o1 (f_X11_isObject M a2) (fun v57 => (if v57 = 0 then J15 M else o1 (f_X11_in M a4 (0 : Int32) (6 : Int32)) (fun v60 => (if v60 = 0 then J35 ((2 : Int32), M) else J35 ((0 : Int32), M)))))))))
set_option maxHeartbeats 4000000 in
set_option maxRecDepth 100000 in
theorem t_X11_write (l : Launch) (D : va_G) (dA : Nat → ClassId) (A : gI → Nat) (hJ : gJ mLive A) {M : gM} {a1 : Int32} {a2 : Int32} {a3 : Int32} {a4 : Int32}  {y : (Int64 × gM)} (h : f_X11_write M a1 a2 a3 a4 = some y) : mMl l yX11_write wsX11_write ({ frames := 6, cells := 0, slots := 0, locals := 157 } : Room) D dA A [.ref (A m_o), .int a1, .int a2, .int a3, .int a4] M y.1 y.2 := by
  refine Met.ofW (cc := cX11_write) (maxL := 10) (ret := (some .long)) (by decide) rfl ?_
  intro p e s m args below meth c s₁ B hml hv
  obtain ⟨rfl, hP, hK⟩ := hv
  generalize hargs : ([.ref (A m_o), .int a1, .int a2, .int a3, .int a4] : List Value).toArray = args at B ⊢
  have S : CallFix p m c cX11_write 10 s args wsX11_write RX11 := ⟨B.exec, B.bytes, hml, findClass_of_methodNamed B.named, atoms_spec (ws := wsX11_write) B.pre⟩
  obtain ⟨hx, hb, -, hown, hts⟩ := id S
  have hr := B.returns
  have hlocks := B.notSynchronized
  have X : gX D vwCl dA mLive A (gA mLive A) s := ⟨hK, hJ, fun i hi => ⟨i, hi, rfl⟩⟩
  have Z : gZ D mLay dA mLive A (gA mLive A) s.heap M s.heap [] := ⟨hP, va_S.rf⟩
  have hin : ∀ w ∈ wsX110, w ∈ wsX11_write := fun w h => List.mem_cons_of_mem _ (List.mem_append_right _ h)
  have hl_65 := hts (.fieldLink RX11 65 "ReplicaFilesModel" "kept" "[Z") (by decide +kernel)
  have hl_68 := hts (.fieldLink RX11 68 "ReplicaFilesModel" "keptValue" "[I") (by decide +kernel)
  have hl_71 := hts (.fieldLink RX11 71 "ReplicaFilesModel" "keptSize" "[I") (by decide +kernel)
  have hl_116 := hts (.fieldLink RX11 116 "ReplicaFilesModel" "gotVector" "[I") (by decide +kernel)
  have hl_165 := hts (.fieldLink RX11 165 "ReplicaFilesModel" "thrown" "I") (by decide +kernel)
  have hl_211 := hts (.fieldLink RX11 211 "ReplicaFilesModel" "call" "I") (by decide +kernel)
  have hl_289 := hts (.fieldLink RX11 289 "ReplicaFilesModel" "set" "I") (by decide +kernel)
  have hl := lv_entry ([.ref (A m_o), .int a1, .int a2, .int a3, .int a4]) (n := 10) (Nat.le_of_ble_eq_true rfl)
  rw [← hargs, lg_entry_eq, hargs]
  generalize (lg_sl ([.ref (A m_o), .int a1, .int a2, .int a3, .int a4]) ++ List.replicate (10 - (lg_sl ([.ref (A m_o), .int a1, .int a2, .int a3, .int a4])).length) Slot.unset).toArray = ls at hl ⊢
  have hl : lv_has ls 10 [(0, .ref (A m_o)), (1, .int a1), (2, .int a2), (3, .int a3), (4, .int a4)] := hl
  unfold f_X11_write at h
  refine lv_aload_n hx hb dX11_write_0 rfl (lv_at hl 0 rfl) ?_
  refine lv_iload_n hx hb dX11_write_1 rfl (lv_at hl 1 rfl) ?_
  obtain ⟨v2, hc1, h⟩ := o1_e h
  refine g_Si (As := [.int a1]) (rest := [.ref (A m_o)]) S X Z (t_X11_isClient l D dA A hJ  hc1) (va_cwS 1 hts gX11_write_X11_isClient rfl rfl rfl (by decide +kernel) ⟨Nat.le_of_ble_eq_true rfl, Nat.le_of_ble_eq_true rfl⟩) rfl hl.1 rfl (Nat.le_of_ble_eq_true rfl) dX11_write_2 ⟨Nat.zero_le _, Nat.zero_le _⟩ (fun H locs Z => ?_)
  obtain ⟨J35, eJ35, h⟩ := jn_e h
  have hJ35 : ∀ (b3 : Int32) (M4 : gM) (H : Heap) (locs : List Loc) (ls : Array Slot), gZ D mLay dA mLive A (gA mLive A) s.heap M4 H locs → lv_has ls 10 [(0, .ref (A m_o)), (1, .int a1), (2, .int a2), (3, .int a3), (4, .int a4)] → J35 (b3, M4) = some y → W p l e (headSpec wsX11_write ({ frames := 6, cells := 0, slots := 0, locals := 157 } : Room)).room s m args below meth c H locs 0 0 (MQ below (mQl D dA A y) args s 0 0 (gA mLive A)) (F0 m 35 ls [.int b3, .ref (A m_o)]) := by
    intro b3 M4 H locs ls Z hl h
    rw [eJ35] at h
    try dsimp only at h
    refine mp_thrown S X Z hin hl_165 dX11_write_35 h (fun M5 H locs Z h => ?_)
    refine lv_aload_n hx hb dX11_write_38 rfl (lv_at hl 0 rfl) ?_
    refine mr_thrown S X Z hin hl_165 dX11_write_39 h (fun v6 h => ?_)
    refine lv_if_le (tgt := 47) hx hb dX11_write_42 (by decide) (fun c7 => ?_) (fun c7 => ?_)
    · have h := if_t c7 h
      refine lv_aload_n hx hb dX11_write_47 rfl (lv_at hl 0 rfl) ?_
      refine lv_iload_n hx hb dX11_write_48 rfl (lv_at hl 2 rfl) ?_
      refine lv_iconst (v := (0 : Int32)) hx hb dX11_write_49 (by decide) ?_
      obtain ⟨v9, hc8, h⟩ := o1_e h
      refine g_Vl (As := [.int a2, .int (0 : Int32)]) (rest := []) S X Z mlv_o rfl rfl (t_X11_kindOf l D dA A hJ  hc8) (cwV 2 hts gX11_write_X11_kindOf rfl rfl rfl (by decide +kernel) ⟨Nat.le_of_ble_eq_true rfl, Nat.le_of_ble_eq_true rfl⟩) rfl hl.1 rfl (Nat.le_of_ble_eq_true rfl) dX11_write_50 ⟨Nat.zero_le _, Nat.zero_le _⟩ (fun H locs Z => ?_)
      refine lv_lstore (lv' := [(5, .long v9), (0, .ref (A m_o)), (1, .int a1), (2, .int a2), (3, .int a3), (4, .int a4)]) hx hb dX11_write_53 hl (by decide) rfl (fun ls hl => ?_)
      refine lv_lload hx hb dX11_write_55 (lv_at hl 0 rfl) ?_
      refine lv_lconst (v := (0 : Int64)) hx hb dX11_write_57 (by decide) ?_
      refine W.lcmp hx hb dX11_write_58 ?_
      refine lv_if_eq (tgt := 65) hx hb dX11_write_59 (by decide) (fun c10 => ?_) (fun c10 => ?_)
      · have h := if_t c10 h
        refine lv_aload_n hx hb dX11_write_65 rfl (lv_at hl 1 rfl) ?_
        refine lv_dup hx hb dX11_write_66 rfl ?_
        refine mr_call S X Z hin hl_211 dX11_write_67 h (fun v11 h => ?_)
        refine lv_iconst (v := (1 : Int32)) hx hb dX11_write_70 (by decide) ?_
        refine lv_iadd hx hb dX11_write_71 ?_
        refine mp_call S X Z hin hl_211 dX11_write_72 h (fun M12 H locs Z h => ?_)
        refine lv_aload_n hx hb dX11_write_75 rfl (lv_at hl 1 rfl) ?_
        refine lv_iload_n hx hb dX11_write_76 rfl (lv_at hl 2 rfl) ?_
        obtain ⟨v14, hc13, h⟩ := o1_e h
        refine g_Vi (As := [.int a1]) (rest := []) S X Z mlv_o rfl rfl (t_X11_isAlone l D dA A hJ  hc13) (cwV 1 hts gX11_write_X11_isAlone rfl rfl rfl (by decide +kernel) ⟨Nat.le_of_ble_eq_true rfl, Nat.le_of_ble_eq_true rfl⟩) rfl hl.1 rfl (Nat.le_of_ble_eq_true rfl) dX11_write_77 ⟨Nat.zero_le _, Nat.zero_le _⟩ (fun H locs Z => ?_)
        refine lv_if_eq (tgt := 93) hx hb dX11_write_80 (by decide) (fun c15 => ?_) (fun c15 => ?_)
        · have h := if_t c15 h
          refine lv_aload_n hx hb dX11_write_93 rfl (lv_at hl 1 rfl) ?_
          refine lv_iload_n hx hb dX11_write_94 rfl (lv_at hl 2 rfl) ?_
          refine lv_iload_n hx hb dX11_write_95 rfl (lv_at hl 3 rfl) ?_
          refine lv_bipush (v := (10 : Int32)) hx hb dX11_write_96 (by decide) ?_
          obtain ⟨v18, M17, hc16, h⟩ := ob_e h
          refine g_Vl (As := [.int a1, .int a2, .int (10 : Int32)]) (rest := []) S X Z mlv_o rfl rfl (t_X11_get l D dA A hJ  hc16) (cwV 3 hts gX11_write_X11_get rfl rfl rfl (by decide +kernel) ⟨Nat.le_of_ble_eq_true rfl, Nat.le_of_ble_eq_true rfl⟩) rfl hl.1 rfl (Nat.le_of_ble_eq_true rfl) dX11_write_98 ⟨Nat.zero_le _, Nat.zero_le _⟩ (fun H locs Z => ?_)
          refine lv_lstore (lv' := [(7, .long v18), (5, .long v9), (0, .ref (A m_o)), (1, .int a1), (2, .int a2), (3, .int a3), (4, .int a4)]) hx hb dX11_write_101 hl (by decide) rfl (fun ls hl => ?_)
          refine lv_lload hx hb dX11_write_103 (lv_at hl 0 rfl) ?_
          refine lv_lconst (v := (0 : Int64)) hx hb dX11_write_105 (by decide) ?_
          refine W.lcmp hx hb dX11_write_106 ?_
          refine lv_if_eq (tgt := 113) hx hb dX11_write_107 (by decide) (fun c19 => ?_) (fun c19 => ?_)
          · have h := if_t c19 h
            refine lv_aload_n hx hb dX11_write_113 rfl (lv_at hl 2 rfl) ?_
            refine lv_aload_n hx hb dX11_write_114 rfl (lv_at hl 2 rfl) ?_
            refine lv_aload_n hx hb dX11_write_115 rfl (lv_at hl 2 rfl) ?_
            refine lv_iload_n hx hb dX11_write_116 rfl (lv_at hl 3 rfl) ?_
            obtain ⟨v21, hc20, h⟩ := o1_e h
            refine g_Vi (As := [.int a1]) (rest := [.ref (A m_o), .ref (A m_o)]) S X Z mlv_o rfl rfl (t_X11_nearSet l D dA A hJ  hc20) (cwV 1 hts gX11_write_X11_nearSet rfl rfl rfl (by decide +kernel) ⟨Nat.le_of_ble_eq_true rfl, Nat.le_of_ble_eq_true rfl⟩) rfl hl.1 rfl (Nat.le_of_ble_eq_true rfl) dX11_write_117 ⟨Nat.zero_le _, Nat.zero_le _⟩ (fun H locs Z => ?_)
            refine lv_iload_n hx hb dX11_write_120 rfl (lv_at hl 4 rfl) ?_
            refine lv_aload_n hx hb dX11_write_121 rfl (lv_at hl 2 rfl) ?_
            refine mr_gotVector S X Z hin hl_116 dX11_write_122 ?_
            obtain ⟨v23, hc22, h⟩ := o1_e h
            refine g_Vi (As := [.int v21, .int a2, .ref (A m_gotVector)]) (rest := [.ref (A m_o)]) S X Z mlv_o rfl rfl (t_X11_setOf l D dA A hJ ⟨ml_gotVector, rfl⟩ hc22) (cwV 3 hts gX11_write_X11_setOf rfl rfl rfl (by decide +kernel) ⟨Nat.le_of_ble_eq_true rfl, Nat.le_of_ble_eq_true rfl⟩) rfl hl.1 rfl (Nat.le_of_ble_eq_true rfl) dX11_write_125 ⟨Nat.zero_le _, Nat.zero_le _⟩ (fun H locs Z => ?_)
            refine mp_set S X Z hin hl_289 dX11_write_128 h (fun M24 H locs Z h => ?_)
            refine lv_aload_n hx hb dX11_write_131 rfl (lv_at hl 2 rfl) ?_
            refine lv_iload_n hx hb dX11_write_132 rfl (lv_at hl 4 rfl) ?_
            refine lv_iload_n hx hb dX11_write_133 rfl (lv_at hl 5 rfl) ?_
            refine lv_iload hx hb dX11_write_134 (lv_at hl 6 rfl) ?_
            obtain ⟨M26, hc25, h⟩ := o1_e h
            refine g_Vv (As := [.int a2, .int a3, .int a4]) (rest := []) S X Z mlv_o rfl rfl (t_X11_putValue l D dA A hJ  hc25) (cwV 3 hts gX11_write_X11_putValue rfl rfl rfl (by decide +kernel) ⟨Nat.le_of_ble_eq_true rfl, Nat.le_of_ble_eq_true rfl⟩) rfl hl.1 rfl (Nat.le_of_ble_eq_true rfl) dX11_write_136 ⟨Nat.zero_le _, Nat.zero_le _⟩ (fun H locs Z => ?_)
            refine lv_bipush (v := (48 : Int32)) hx hb dX11_write_139 (by decide) ?_
            refine lv_iload_n hx hb dX11_write_141 rfl (lv_at hl 3 rfl) ?_
            refine lv_imul hx hb dX11_write_142 ?_
            refine lv_iload_n hx hb dX11_write_143 rfl (lv_at hl 4 rfl) ?_
            refine lv_iadd hx hb dX11_write_144 ?_
            refine g_topi h (fun x27 h => ?_)
            refine lv_istore (lv' := [(9, .int x27), (7, .long v18), (5, .long v9), (0, .ref (A m_o)), (1, .int a1), (2, .int a2), (3, .int a3), (4, .int a4)]) hx hb dX11_write_145 hl (by decide) rfl (fun ls hl => ?_)
            refine lv_aload_n hx hb dX11_write_147 rfl (lv_at hl 3 rfl) ?_
            refine mr_kept S X Z hin hl_65 dX11_write_148 ?_
            refine lv_iload hx hb dX11_write_151 (lv_at hl 0 rfl) ?_
            refine g_zald S X Z ml_kept rfl dX11_write_153 h (fun v28 h => ?_)
            obtain ⟨J188, eJ188, h⟩ := jn_e h
            have hJ188 : ∀ (M29 : gM) (H : Heap) (locs : List Loc) (ls : Array Slot), gZ D mLay dA mLive A (gA mLive A) s.heap M29 H locs → lv_has ls 10 [(0, .ref (A m_o)), (1, .int a1), (2, .int a2), (3, .int a3), (4, .int a4), (9, .int x27)] → J188 M29 = some y → W p l e (headSpec wsX11_write ({ frames := 6, cells := 0, slots := 0, locals := 157 } : Room)).room s m args below meth c H locs 0 0 (MQ below (mQl D dA A y) args s 0 0 (gA mLive A)) (F0 m 188 ls []) := by
              intro M29 H locs ls Z hl h
              rw [eJ188] at h
              try dsimp only at h
              refine lv_aload_n hx hb dX11_write_188 rfl (lv_at hl 0 rfl) ?_
              refine mr_kept S X Z hin hl_65 dX11_write_189 ?_
              refine lv_iload hx hb dX11_write_192 (lv_at hl 5 rfl) ?_
              refine g_zald S X Z ml_kept rfl dX11_write_194 h (fun v30 h => ?_)
              obtain ⟨J215, eJ215, h⟩ := jn_e h
              have hJ215 : ∀ (M31 : gM) (H : Heap) (locs : List Loc) (ls : Array Slot), gZ D mLay dA mLive A (gA mLive A) s.heap M31 H locs → lv_has ls 10 [(0, .ref (A m_o)), (1, .int a1), (2, .int a2)] → J215 M31 = some y → W p l e (headSpec wsX11_write ({ frames := 6, cells := 0, slots := 0, locals := 157 } : Room)).room s m args below meth c H locs 0 0 (MQ below (mQl D dA A y) args s 0 0 (gA mLive A)) (F0 m 215 ls []) := by
                intro M31 H locs ls Z hl h
                rw [eJ215] at h
                try dsimp only at h
                refine lv_aload_n hx hb dX11_write_215 rfl (lv_at hl 0 rfl) ?_
                refine lv_iload_n hx hb dX11_write_216 rfl (lv_at hl 1 rfl) ?_
                refine lv_iload_n hx hb dX11_write_217 rfl (lv_at hl 2 rfl) ?_
                obtain ⟨M33, hc32, h⟩ := o1_e h
                refine g_Vv (As := [.int a1, .int a2]) (rest := []) S X Z mlv_o rfl rfl (t_X11_follow l D dA A hJ  hc32) (cwV 2 hts gX11_write_X11_follow rfl rfl rfl (by decide +kernel) ⟨Nat.le_of_ble_eq_true rfl, Nat.le_of_ble_eq_true rfl⟩) rfl hl.1 rfl (Nat.le_of_ble_eq_true rfl) dX11_write_218 ⟨Nat.zero_le _, Nat.zero_le _⟩ (fun H locs Z => ?_)
                refine lv_aload_n hx hb dX11_write_221 rfl (lv_at hl 0 rfl) ?_
                refine mr_set S X Z hin hl_289 dX11_write_222 h (fun v34 h => ?_)
                obtain ⟨v36, hc35, h⟩ := o1_e h
                refine g_Si (As := [.int v34]) (rest := []) S X Z (t_X11_manyOf l D dA A hJ  hc35) (va_cwS 1 hts gX11_write_X11_manyOf rfl rfl rfl (by decide +kernel) ⟨Nat.le_of_ble_eq_true rfl, Nat.le_of_ble_eq_true rfl⟩) rfl hl.1 rfl (Nat.le_of_ble_eq_true rfl) dX11_write_225 ⟨Nat.zero_le _, Nat.zero_le _⟩ (fun H locs Z => ?_)
                refine lv_i2l hx hb dX11_write_228 rfl ?_
                have hy := Option.some.inj h
                subst hy
                exact g_rl S Z hr hlocks dX11_write_229
              refine lv_if_eq (tgt := 215) hx hb dX11_write_195 (by decide) (fun c37 => ?_) (fun c37 => ?_)
              · have h := if_t c37 h
                exact hJ215 M29 _ _ _ Z (lv_sub hl [0, 1, 2] rfl) h
              · have h := if_f c37 h
                refine lv_aload_n hx hb dX11_write_198 rfl (lv_at hl 0 rfl) ?_
                refine mr_keptValue S X Z hin hl_68 dX11_write_199 ?_
                refine lv_iload hx hb dX11_write_202 (lv_at hl 5 rfl) ?_
                refine lv_iload_n hx hb dX11_write_204 rfl (lv_at hl 3 rfl) ?_
                refine g_iast S X Z ml_keptValue rfl dX11_write_205 h (fun M38 H locs Z h => ?_)
                refine lv_aload_n hx hb dX11_write_206 rfl (lv_at hl 0 rfl) ?_
                refine mr_keptSize S X Z hin hl_71 dX11_write_207 ?_
                refine lv_iload hx hb dX11_write_210 (lv_at hl 5 rfl) ?_
                refine lv_iload hx hb dX11_write_212 (lv_at hl 4 rfl) ?_
                refine g_iast S X Z ml_keptSize rfl dX11_write_214 h (fun M39 H locs Z h => ?_)
                exact hJ215 M39 _ _ _ Z (lv_sub hl [0, 1, 2] rfl) h
            refine lv_if_eq (tgt := 188) hx hb dX11_write_154 (by decide) (fun c40 => ?_) (fun c40 => ?_)
            · have h := if_t c40 h
              exact hJ188 M26 _ _ _ Z (lv_sub hl [3, 4, 5, 6, 7, 0] rfl) h
            · have h := if_f c40 h
              refine lv_aload_n hx hb dX11_write_157 rfl (lv_at hl 3 rfl) ?_
              refine lv_iload_n hx hb dX11_write_158 rfl (lv_at hl 4 rfl) ?_
              refine lv_aload_n hx hb dX11_write_159 rfl (lv_at hl 3 rfl) ?_
              refine lv_iload_n hx hb dX11_write_160 rfl (lv_at hl 5 rfl) ?_
              refine lv_iload hx hb dX11_write_161 (lv_at hl 7 rfl) ?_
              obtain ⟨v42, hc41, h⟩ := o1_e h
              refine g_Vi (As := [.int a2, .int a4]) (rest := [.int a1, .ref (A m_o)]) S X Z mlv_o rfl rfl (t_X11_weight l D dA A hJ  hc41) (cwV 2 hts gX11_write_X11_weight rfl rfl rfl (by decide +kernel) ⟨Nat.le_of_ble_eq_true rfl, Nat.le_of_ble_eq_true rfl⟩) rfl hl.1 rfl (Nat.le_of_ble_eq_true rfl) dX11_write_163 ⟨Nat.zero_le _, Nat.zero_le _⟩ (fun H locs Z => ?_)
              refine lv_aload_n hx hb dX11_write_166 rfl (lv_at hl 3 rfl) ?_
              refine lv_iload_n hx hb dX11_write_167 rfl (lv_at hl 4 rfl) ?_
              refine lv_iload_n hx hb dX11_write_168 rfl (lv_at hl 5 rfl) ?_
              obtain ⟨v44, hc43, h⟩ := o1_e h
              refine g_Vi (As := [.int a1, .int a2]) (rest := [.int v42, .int a1, .ref (A m_o)]) S X Z mlv_o rfl rfl (t_X11_weightKept l D dA A hJ  hc43) (cwV 2 hts gX11_write_X11_weightKept rfl rfl rfl (by decide +kernel) ⟨Nat.le_of_ble_eq_true rfl, Nat.le_of_ble_eq_true rfl⟩) rfl hl.1 rfl (Nat.le_of_ble_eq_true rfl) dX11_write_169 ⟨Nat.zero_le _, Nat.zero_le _⟩ (fun H locs Z => ?_)
              refine lv_isub hx hb dX11_write_172 ?_
              refine lv_iload_n hx hb dX11_write_173 rfl (lv_at hl 5 rfl) ?_
              refine lv_bipush (v := (10 : Int32)) hx hb dX11_write_174 (by decide) ?_
              obtain ⟨v47, M46, hc45, h⟩ := ob_e h
              refine g_Vi (As := [.int a1, .int (v42 - v44), .int a2, .int (10 : Int32)]) (rest := []) S X Z mlv_o rfl rfl (t_X11_makeRoom l D dA A hJ  hc45) (cwV 4 hts gX11_write_X11_makeRoom rfl rfl rfl (by decide +kernel) ⟨Nat.le_of_ble_eq_true rfl, Nat.le_of_ble_eq_true rfl⟩) rfl hl.1 rfl (Nat.le_of_ble_eq_true rfl) dX11_write_176 ⟨Nat.zero_le _, Nat.zero_le _⟩ (fun H locs Z => ?_)
              refine lv_if_ne (tgt := 188) hx hb dX11_write_179 (by decide) (fun c48 => ?_) (fun c48 => ?_)
              · have h := if_f c48 h
                exact hJ188 M46 _ _ _ Z (lv_sub hl [3, 4, 5, 6, 7, 0] rfl) h
              · have h := if_t c48 h
                refine lv_aload_n hx hb dX11_write_182 rfl (lv_at hl 3 rfl) ?_
                refine lv_iload_n hx hb dX11_write_183 rfl (lv_at hl 4 rfl) ?_
                refine lv_iload_n hx hb dX11_write_184 rfl (lv_at hl 5 rfl) ?_
                obtain ⟨M50, hc49, h⟩ := o1_e h
                refine g_Vv (As := [.int a1, .int a2]) (rest := []) S X Z mlv_o rfl rfl (t_X11_forget l D dA A hJ  hc49) (cwV 2 hts gX11_write_X11_forget rfl rfl rfl (by decide +kernel) ⟨Nat.le_of_ble_eq_true rfl, Nat.le_of_ble_eq_true rfl⟩) rfl hl.1 rfl (Nat.le_of_ble_eq_true rfl) dX11_write_185 ⟨Nat.zero_le _, Nat.zero_le _⟩ (fun H locs Z => ?_)
                exact hJ188 M50 _ _ _ Z (lv_sub hl [3, 4, 5, 6, 7, 0] rfl) h
          · have h := if_f c19 h
            refine lv_lload hx hb dX11_write_110 (lv_at hl 0 rfl) ?_
            have hy := Option.some.inj h
            subst hy
            exact g_rl S Z hr hlocks dX11_write_112
        · have h := if_f c15 h
          refine lv_aload_n hx hb dX11_write_83 rfl (lv_at hl 1 rfl) ?_
          refine lv_iload_n hx hb dX11_write_84 rfl (lv_at hl 2 rfl) ?_
          refine lv_iload_n hx hb dX11_write_85 rfl (lv_at hl 3 rfl) ?_
          refine lv_iload_n hx hb dX11_write_86 rfl (lv_at hl 4 rfl) ?_
          refine lv_iload hx hb dX11_write_87 (lv_at hl 5 rfl) ?_
          obtain ⟨v53, M52, hc51, h⟩ := ob_e h
          refine g_Vl (As := [.int a1, .int a2, .int a3, .int a4]) (rest := []) S X Z mlv_o rfl rfl (t_X11_writeAlone l D dA A hJ  hc51) (cwV 4 hts gX11_write_X11_writeAlone rfl rfl rfl (by decide +kernel) ⟨Nat.le_of_ble_eq_true rfl, Nat.le_of_ble_eq_true rfl⟩) rfl hl.1 rfl (Nat.le_of_ble_eq_true rfl) dX11_write_89 ⟨Nat.zero_le _, Nat.zero_le _⟩ (fun H locs Z => ?_)
          have hy := Option.some.inj h
          subst hy
          exact g_rl S Z hr hlocks dX11_write_92
      · have h := if_f c10 h
        refine lv_lload hx hb dX11_write_62 (lv_at hl 0 rfl) ?_
        have hy := Option.some.inj h
        subst hy
        exact g_rl S Z hr hlocks dX11_write_64
    · have h := if_f c7 h
      refine lv_lconst (v := (0 : Int64)) hx hb dX11_write_45 (by decide) ?_
      have hy := Option.some.inj h
      subst hy
      exact g_rl S Z hr hlocks dX11_write_46
  obtain ⟨J15, eJ15, h⟩ := jn_e h
  have hJ15 : ∀ (M54 : gM) (H : Heap) (locs : List Loc) (ls : Array Slot), gZ D mLay dA mLive A (gA mLive A) s.heap M54 H locs → lv_has ls 10 [(0, .ref (A m_o)), (1, .int a1), (2, .int a2), (3, .int a3), (4, .int a4)] → J15 M54 = some y → W p l e (headSpec wsX11_write ({ frames := 6, cells := 0, slots := 0, locals := 157 } : Room)).room s m args below meth c H locs 0 0 (MQ below (mQl D dA A y) args s 0 0 (gA mLive A)) (F0 m 15 ls [.ref (A m_o)]) := by
    intro M54 H locs ls Z hl h
    rw [eJ15] at h
    try dsimp only at h
    refine lv_iconst (v := (1 : Int32)) hx hb dX11_write_15 (by decide) ?_
    refine lv_goto (tgt := 35) hx hb dX11_write_16 (by decide) ?_
    exact hJ35 (1 : Int32) M54 _ _ _ Z (lv_sub hl [0, 1, 2, 3, 4] rfl) h
  refine lv_if_eq (tgt := 15) hx hb dX11_write_5 (by decide) (fun c55 => ?_) (fun c55 => ?_)
  · have h := if_t c55 h
    exact hJ15 M _ _ _ Z (lv_sub hl [0, 1, 2, 3, 4] rfl) h
  · have h := if_f c55 h
    refine lv_iload_n hx hb dX11_write_8 rfl (lv_at hl 2 rfl) ?_
    obtain ⟨v57, hc56, h⟩ := o1_e h
    refine g_Si (As := [.int a2]) (rest := [.ref (A m_o)]) S X Z (t_X11_isObject l D dA A hJ  hc56) (va_cwS 1 hts gX11_write_X11_isObject rfl rfl rfl (by decide +kernel) ⟨Nat.le_of_ble_eq_true rfl, Nat.le_of_ble_eq_true rfl⟩) rfl hl.1 rfl (Nat.le_of_ble_eq_true rfl) dX11_write_9 ⟨Nat.zero_le _, Nat.zero_le _⟩ (fun H locs Z => ?_)
    refine lv_if_ne (tgt := 19) hx hb dX11_write_12 (by decide) (fun c58 => ?_) (fun c58 => ?_)
    · have h := if_f c58 h
      refine lv_iload hx hb dX11_write_19 (lv_at hl 4 rfl) ?_
      refine lv_iconst (v := (0 : Int32)) hx hb dX11_write_21 (by decide) ?_
      refine lv_bipush (v := (6 : Int32)) hx hb dX11_write_22 (by decide) ?_
      obtain ⟨v60, hc59, h⟩ := o1_e h
      refine g_Si (As := [.int a4, .int (0 : Int32), .int (6 : Int32)]) (rest := [.ref (A m_o)]) S X Z (t_X11_in l D dA A hJ  hc59) (va_cwS 3 hts gX11_write_X11_in rfl rfl rfl (by decide +kernel) ⟨Nat.le_of_ble_eq_true rfl, Nat.le_of_ble_eq_true rfl⟩) rfl hl.1 rfl (Nat.le_of_ble_eq_true rfl) dX11_write_24 ⟨Nat.zero_le _, Nat.zero_le _⟩ (fun H locs Z => ?_)
      refine lv_if_eq (tgt := 34) hx hb dX11_write_27 (by decide) (fun c61 => ?_) (fun c61 => ?_)
      · have h := if_t c61 h
        refine lv_iconst (v := (2 : Int32)) hx hb dX11_write_34 (by decide) ?_
        exact hJ35 (2 : Int32) M _ _ _ Z (lv_sub hl [0, 1, 2, 3, 4] rfl) h
      · have h := if_f c61 h
        refine lv_iconst (v := (0 : Int32)) hx hb dX11_write_30 (by decide) ?_
        refine lv_goto (tgt := 35) hx hb dX11_write_31 (by decide) ?_
        exact hJ35 (0 : Int32) M _ _ _ Z (lv_sub hl [0, 1, 2, 3, 4] rfl) h
    · have h := if_t c58 h
      exact hJ15 M _ _ _ Z (lv_sub hl [0, 1, 2, 3, 4] rfl) h
-- X11_newObject (IIZ)I: 26 instructions
theorem dX11_newObject_0 : decode cX11_newObject 0 = .ok (.aload_n 0, 1) := by decide +kernel
theorem dX11_newObject_1 : decode cX11_newObject 1 = .ok (.getfield 162, 3) := by decide +kernel
theorem dX11_newObject_4 : decode cX11_newObject 4 = .ok (.istore 4, 2) := by decide +kernel
theorem dX11_newObject_6 : decode cX11_newObject 6 = .ok (.aload_n 0, 1) := by decide +kernel
theorem dX11_newObject_7 : decode cX11_newObject 7 = .ok (.dup, 1) := by decide +kernel
theorem dX11_newObject_8 : decode cX11_newObject 8 = .ok (.getfield 162, 3) := by decide +kernel
theorem dX11_newObject_11 : decode cX11_newObject 11 = .ok (.iconst 1, 1) := by decide +kernel
theorem dX11_newObject_12 : decode cX11_newObject 12 = .ok (.iadd, 1) := by decide +kernel
theorem dX11_newObject_13 : decode cX11_newObject 13 = .ok (.putfield 162, 3) := by decide +kernel
theorem dX11_newObject_16 : decode cX11_newObject 16 = .ok (.aload_n 0, 1) := by decide +kernel
theorem dX11_newObject_17 : decode cX11_newObject 17 = .ok (.getfield 22, 3) := by decide +kernel
theorem dX11_newObject_20 : decode cX11_newObject 20 = .ok (.iload 4, 2) := by decide +kernel
theorem dX11_newObject_22 : decode cX11_newObject 22 = .ok (.iload_n 1, 1) := by decide +kernel
theorem dX11_newObject_23 : decode cX11_newObject 23 = .ok (.iastore, 1) := by decide +kernel
theorem dX11_newObject_24 : decode cX11_newObject 24 = .ok (.aload_n 0, 1) := by decide +kernel
theorem dX11_newObject_25 : decode cX11_newObject 25 = .ok (.getfield 26, 3) := by decide +kernel
theorem dX11_newObject_28 : decode cX11_newObject 28 = .ok (.iload 4, 2) := by decide +kernel
theorem dX11_newObject_30 : decode cX11_newObject 30 = .ok (.iload_n 2, 1) := by decide +kernel
theorem dX11_newObject_31 : decode cX11_newObject 31 = .ok (.iastore, 1) := by decide +kernel
theorem dX11_newObject_32 : decode cX11_newObject 32 = .ok (.aload_n 0, 1) := by decide +kernel
theorem dX11_newObject_33 : decode cX11_newObject 33 = .ok (.getfield 29, 3) := by decide +kernel
theorem dX11_newObject_36 : decode cX11_newObject 36 = .ok (.iload 4, 2) := by decide +kernel
theorem dX11_newObject_38 : decode cX11_newObject 38 = .ok (.iload_n 3, 1) := by decide +kernel
theorem dX11_newObject_39 : decode cX11_newObject 39 = .ok (.bastore, 1) := by decide +kernel
theorem dX11_newObject_40 : decode cX11_newObject 40 = .ok (.iload 4, 2) := by decide +kernel
theorem dX11_newObject_42 : decode cX11_newObject 42 = .ok (.ireturn, 1) := by decide +kernel
def f_X11_newObject (M : gM) (a1 : Int32) (a2 : Int32) (a3 : Int32) : Option (Int32 × gM) :=
  lt (M m_o 6) (fun v1 => lt (M m_o 6) (fun v2 => lt (gset M m_o 6 (v2 + (1 : Int32))) (fun M3 => wr M3 m_parent 48 v1 a1 (fun M4 => wr M4 m_name 48 v1 a2 (fun M5 => wz M5 m_isDirectory 48 v1 a3 (fun M6 => some (v1, M6)))))))
set_option maxHeartbeats 4000000 in
set_option maxRecDepth 100000 in
theorem t_X11_newObject (l : Launch) (D : va_G) (dA : Nat → ClassId) (A : gI → Nat) (hJ : gJ mLive A) {M : gM} {a1 : Int32} {a2 : Int32} {a3 : Int32}  {y : (Int32 × gM)} (h : f_X11_newObject M a1 a2 a3 = some y) : mMi l yX11_newObject wsX11_newObject ({ frames := 0, cells := 0, slots := 0, locals := 0 } : Room) D dA A [.ref (A m_o), .int a1, .int a2, .int a3] M y.1 y.2 := by
  refine Met.ofW (cc := cX11_newObject) (maxL := 5) (ret := (some .int)) (by decide) rfl ?_
  intro p e s m args below meth c s₁ B hml hv
  obtain ⟨rfl, hP, hK⟩ := hv
  generalize hargs : ([.ref (A m_o), .int a1, .int a2, .int a3] : List Value).toArray = args at B ⊢
  have S : CallFix p m c cX11_newObject 5 s args wsX11_newObject RX11 := ⟨B.exec, B.bytes, hml, findClass_of_methodNamed B.named, atoms_spec (ws := wsX11_newObject) B.pre⟩
  obtain ⟨hx, hb, -, hown, hts⟩ := id S
  have hr := B.returns
  have hlocks := B.notSynchronized
  have X : gX D vwCl dA mLive A (gA mLive A) s := ⟨hK, hJ, fun i hi => ⟨i, hi, rfl⟩⟩
  have Z : gZ D mLay dA mLive A (gA mLive A) s.heap M s.heap [] := ⟨hP, va_S.rf⟩
  have hin : ∀ w ∈ wsX110, w ∈ wsX11_newObject := fun w h => List.mem_cons_of_mem _ (List.mem_append_right _ h)
  have hl_22 := hts (.fieldLink RX11 22 "ReplicaFilesModel" "parent" "[I") (by decide +kernel)
  have hl_26 := hts (.fieldLink RX11 26 "ReplicaFilesModel" "name" "[I") (by decide +kernel)
  have hl_29 := hts (.fieldLink RX11 29 "ReplicaFilesModel" "isDirectory" "[Z") (by decide +kernel)
  have hl_162 := hts (.fieldLink RX11 162 "ReplicaFilesModel" "made" "I") (by decide +kernel)
  have hl := lv_entry ([.ref (A m_o), .int a1, .int a2, .int a3]) (n := 5) (Nat.le_of_ble_eq_true rfl)
  rw [← hargs, lg_entry_eq, hargs]
  generalize (lg_sl ([.ref (A m_o), .int a1, .int a2, .int a3]) ++ List.replicate (5 - (lg_sl ([.ref (A m_o), .int a1, .int a2, .int a3])).length) Slot.unset).toArray = ls at hl ⊢
  have hl : lv_has ls 5 [(0, .ref (A m_o)), (1, .int a1), (2, .int a2), (3, .int a3)] := hl
  unfold f_X11_newObject at h
  refine lv_aload_n hx hb dX11_newObject_0 rfl (lv_at hl 0 rfl) ?_
  refine mr_made S X Z hin hl_162 dX11_newObject_1 h (fun v1 h => ?_)
  refine lv_istore (lv' := [(4, .int v1), (0, .ref (A m_o)), (1, .int a1), (2, .int a2), (3, .int a3)]) hx hb dX11_newObject_4 hl (by decide) rfl (fun ls hl => ?_)
  refine lv_aload_n hx hb dX11_newObject_6 rfl (lv_at hl 1 rfl) ?_
  refine lv_dup hx hb dX11_newObject_7 rfl ?_
  refine mr_made S X Z hin hl_162 dX11_newObject_8 h (fun v2 h => ?_)
  refine lv_iconst (v := (1 : Int32)) hx hb dX11_newObject_11 (by decide) ?_
  refine lv_iadd hx hb dX11_newObject_12 ?_
  refine mp_made S X Z hin hl_162 dX11_newObject_13 h (fun M3 H locs Z h => ?_)
  refine lv_aload_n hx hb dX11_newObject_16 rfl (lv_at hl 1 rfl) ?_
  refine mr_parent S X Z hin hl_22 dX11_newObject_17 ?_
  refine lv_iload hx hb dX11_newObject_20 (lv_at hl 0 rfl) ?_
  refine lv_iload_n hx hb dX11_newObject_22 rfl (lv_at hl 2 rfl) ?_
  refine g_iast S X Z ml_parent rfl dX11_newObject_23 h (fun M4 H locs Z h => ?_)
  refine lv_aload_n hx hb dX11_newObject_24 rfl (lv_at hl 1 rfl) ?_
  refine mr_name S X Z hin hl_26 dX11_newObject_25 ?_
  refine lv_iload hx hb dX11_newObject_28 (lv_at hl 0 rfl) ?_
  refine lv_iload_n hx hb dX11_newObject_30 rfl (lv_at hl 3 rfl) ?_
  refine g_iast S X Z ml_name rfl dX11_newObject_31 h (fun M5 H locs Z h => ?_)
  refine lv_aload_n hx hb dX11_newObject_32 rfl (lv_at hl 1 rfl) ?_
  refine mr_isDirectory S X Z hin hl_29 dX11_newObject_33 ?_
  refine lv_iload hx hb dX11_newObject_36 (lv_at hl 0 rfl) ?_
  refine lv_iload_n hx hb dX11_newObject_38 rfl (lv_at hl 4 rfl) ?_
  refine g_zast S X Z ml_isDirectory rfl dX11_newObject_39 h (fun M6 H locs Z h => ?_)
  refine lv_iload hx hb dX11_newObject_40 (lv_at hl 0 rfl) ?_
  have hy := Option.some.inj h
  subst hy
  exact g_ri S Z hr hlocks dX11_newObject_42
-- X11_keepNew (II)V: 41 instructions
set_option maxRecDepth 20000 in
theorem ggX11_keepNew_X11_clearRow : GoodIn wsX11_keepNew wsX11_clearRow := goodIn_r _ [11] (by decide +kernel) (by decide +kernel)
set_option maxRecDepth 20000 in
theorem gX11_keepNew_X11_clearRow : GoodIn wsX11_keepNew (wsV RX11 200 RX11 yX11_clearRow wsX11_clearRow) := goodIn_app (goodIn_of _ (by decide +kernel)) ggX11_keepNew_X11_clearRow
set_option maxRecDepth 20000 in
theorem ggX11_keepNew_X11_use : GoodIn wsX11_keepNew wsX11_use := goodIn_r _ [15, 16, 17, 18, 19, 20, 21, 22, 23, 24, 25, 26, 27, 28, 29, 30, 31, 32, 33, 34, 35, 36, 37, 38, 39, 40, 41, 42, 43, 44, 45, 46, 47, 48, 49, 50, 51, 52, 53, 54, 55, 56, 57, 58, 59, 60, 61, 62, 63, 64, 65, 66, 67, 68, 69, 70, 71, 72, 73, 74, 75, 76, 77, 78, 79, 80, 81, 82, 83, 84, 85, 86] (by decide +kernel) (by decide +kernel)
set_option maxRecDepth 20000 in
theorem gX11_keepNew_X11_use : GoodIn wsX11_keepNew (wsV RX11 243 RX11 yX11_use wsX11_use) := goodIn_app (goodIn_of _ (by decide +kernel)) ggX11_keepNew_X11_use
theorem dX11_keepNew_0 : decode cX11_keepNew 0 = .ok (.bipush 48, 2) := by decide +kernel
theorem dX11_keepNew_2 : decode cX11_keepNew 2 = .ok (.iload_n 1, 1) := by decide +kernel
theorem dX11_keepNew_3 : decode cX11_keepNew 3 = .ok (.imul, 1) := by decide +kernel
theorem dX11_keepNew_4 : decode cX11_keepNew 4 = .ok (.iload_n 2, 1) := by decide +kernel
theorem dX11_keepNew_5 : decode cX11_keepNew 5 = .ok (.iadd, 1) := by decide +kernel
theorem dX11_keepNew_6 : decode cX11_keepNew 6 = .ok (.istore_n 3, 1) := by decide +kernel
theorem dX11_keepNew_7 : decode cX11_keepNew 7 = .ok (.aload_n 0, 1) := by decide +kernel
theorem dX11_keepNew_8 : decode cX11_keepNew 8 = .ok (.getfield 65, 3) := by decide +kernel
theorem dX11_keepNew_11 : decode cX11_keepNew 11 = .ok (.iload_n 3, 1) := by decide +kernel
theorem dX11_keepNew_12 : decode cX11_keepNew 12 = .ok (.iconst 1, 1) := by decide +kernel
theorem dX11_keepNew_13 : decode cX11_keepNew 13 = .ok (.bastore, 1) := by decide +kernel
theorem dX11_keepNew_14 : decode cX11_keepNew 14 = .ok (.aload_n 0, 1) := by decide +kernel
theorem dX11_keepNew_15 : decode cX11_keepNew 15 = .ok (.getfield 80, 3) := by decide +kernel
theorem dX11_keepNew_18 : decode cX11_keepNew 18 = .ok (.iload_n 3, 1) := by decide +kernel
theorem dX11_keepNew_19 : decode cX11_keepNew 19 = .ok (.iconst 0, 1) := by decide +kernel
theorem dX11_keepNew_20 : decode cX11_keepNew 20 = .ok (.bastore, 1) := by decide +kernel
theorem dX11_keepNew_21 : decode cX11_keepNew 21 = .ok (.aload_n 0, 1) := by decide +kernel
theorem dX11_keepNew_22 : decode cX11_keepNew 22 = .ok (.getfield 68, 3) := by decide +kernel
theorem dX11_keepNew_25 : decode cX11_keepNew 25 = .ok (.iload_n 3, 1) := by decide +kernel
theorem dX11_keepNew_26 : decode cX11_keepNew 26 = .ok (.iconst 0, 1) := by decide +kernel
theorem dX11_keepNew_27 : decode cX11_keepNew 27 = .ok (.iastore, 1) := by decide +kernel
theorem dX11_keepNew_28 : decode cX11_keepNew 28 = .ok (.aload_n 0, 1) := by decide +kernel
theorem dX11_keepNew_29 : decode cX11_keepNew 29 = .ok (.getfield 71, 3) := by decide +kernel
theorem dX11_keepNew_32 : decode cX11_keepNew 32 = .ok (.iload_n 3, 1) := by decide +kernel
theorem dX11_keepNew_33 : decode cX11_keepNew 33 = .ok (.iconst 0, 1) := by decide +kernel
theorem dX11_keepNew_34 : decode cX11_keepNew 34 = .ok (.iastore, 1) := by decide +kernel
theorem dX11_keepNew_35 : decode cX11_keepNew 35 = .ok (.aload_n 0, 1) := by decide +kernel
theorem dX11_keepNew_36 : decode cX11_keepNew 36 = .ok (.aload_n 0, 1) := by decide +kernel
theorem dX11_keepNew_37 : decode cX11_keepNew 37 = .ok (.getfield 74, 3) := by decide +kernel
theorem dX11_keepNew_40 : decode cX11_keepNew 40 = .ok (.iload_n 3, 1) := by decide +kernel
theorem dX11_keepNew_41 : decode cX11_keepNew 41 = .ok (.invokevirtual 200, 3) := by decide +kernel
theorem dX11_keepNew_44 : decode cX11_keepNew 44 = .ok (.aload_n 0, 1) := by decide +kernel
theorem dX11_keepNew_45 : decode cX11_keepNew 45 = .ok (.getfield 77, 3) := by decide +kernel
theorem dX11_keepNew_48 : decode cX11_keepNew 48 = .ok (.iload_n 3, 1) := by decide +kernel
theorem dX11_keepNew_49 : decode cX11_keepNew 49 = .ok (.iconst 0, 1) := by decide +kernel
theorem dX11_keepNew_50 : decode cX11_keepNew 50 = .ok (.iastore, 1) := by decide +kernel
theorem dX11_keepNew_51 : decode cX11_keepNew 51 = .ok (.aload_n 0, 1) := by decide +kernel
theorem dX11_keepNew_52 : decode cX11_keepNew 52 = .ok (.iload_n 1, 1) := by decide +kernel
theorem dX11_keepNew_53 : decode cX11_keepNew 53 = .ok (.iload_n 2, 1) := by decide +kernel
theorem dX11_keepNew_54 : decode cX11_keepNew 54 = .ok (.invokevirtual 243, 3) := by decide +kernel
theorem dX11_keepNew_57 : decode cX11_keepNew 57 = .ok (.return_, 1) := by decide +kernel
def f_X11_keepNew (M : gM) (a1 : Int32) (a2 : Int32) : Option gM :=
  lt ((((48 : Int32) * a1) + a2)) (fun x1 => wz M m_kept 192 x1 (1 : Int32) (fun M2 => wz M2 m_dirty 192 x1 (0 : Int32) (fun M3 => wr M3 m_keptValue 192 x1 (0 : Int32) (fun M4 => wr M4 m_keptSize 192 x1 (0 : Int32) (fun M5 => o1 (f_X11_clearRow M5 m_keptVector x1) (fun M7 => wr M7 m_promised 192 x1 (0 : Int32) (fun M8 => o1 (f_X11_use M8 a1 a2) (fun M10 => some M10))))))))
set_option maxHeartbeats 4000000 in
set_option maxRecDepth 100000 in
theorem t_X11_keepNew (l : Launch) (D : va_G) (dA : Nat → ClassId) (A : gI → Nat) (hJ : gJ mLive A) {M : gM} {a1 : Int32} {a2 : Int32}  {y : gM} (h : f_X11_keepNew M a1 a2 = some y) : mMv l yX11_keepNew wsX11_keepNew ({ frames := 1, cells := 0, slots := 0, locals := 23 } : Room) D dA A [.ref (A m_o), .int a1, .int a2] M y := by
  refine Met.ofW (cc := cX11_keepNew) (maxL := 4) (ret := none) (by decide) rfl ?_
  intro p e s m args below meth c s₁ B hml hv
  obtain ⟨rfl, hP, hK⟩ := hv
  generalize hargs : ([.ref (A m_o), .int a1, .int a2] : List Value).toArray = args at B ⊢
  have S : CallFix p m c cX11_keepNew 4 s args wsX11_keepNew RX11 := ⟨B.exec, B.bytes, hml, findClass_of_methodNamed B.named, atoms_spec (ws := wsX11_keepNew) B.pre⟩
  obtain ⟨hx, hb, -, hown, hts⟩ := id S
  have hr := B.returns
  have hlocks := B.notSynchronized
  have X : gX D vwCl dA mLive A (gA mLive A) s := ⟨hK, hJ, fun i hi => ⟨i, hi, rfl⟩⟩
  have Z : gZ D mLay dA mLive A (gA mLive A) s.heap M s.heap [] := ⟨hP, va_S.rf⟩
  have hin : ∀ w ∈ wsX110, w ∈ wsX11_keepNew := fun w h => List.mem_cons_of_mem _ (List.mem_append_right _ h)
  have hl_65 := hts (.fieldLink RX11 65 "ReplicaFilesModel" "kept" "[Z") (by decide +kernel)
  have hl_68 := hts (.fieldLink RX11 68 "ReplicaFilesModel" "keptValue" "[I") (by decide +kernel)
  have hl_71 := hts (.fieldLink RX11 71 "ReplicaFilesModel" "keptSize" "[I") (by decide +kernel)
  have hl_74 := hts (.fieldLink RX11 74 "ReplicaFilesModel" "keptVector" "[I") (by decide +kernel)
  have hl_77 := hts (.fieldLink RX11 77 "ReplicaFilesModel" "promised" "[I") (by decide +kernel)
  have hl_80 := hts (.fieldLink RX11 80 "ReplicaFilesModel" "dirty" "[Z") (by decide +kernel)
  have hl := lv_entry ([.ref (A m_o), .int a1, .int a2]) (n := 4) (Nat.le_of_ble_eq_true rfl)
  rw [← hargs, lg_entry_eq, hargs]
  generalize (lg_sl ([.ref (A m_o), .int a1, .int a2]) ++ List.replicate (4 - (lg_sl ([.ref (A m_o), .int a1, .int a2])).length) Slot.unset).toArray = ls at hl ⊢
  have hl : lv_has ls 4 [(0, .ref (A m_o)), (1, .int a1), (2, .int a2)] := hl
  unfold f_X11_keepNew at h
  refine lv_bipush (v := (48 : Int32)) hx hb dX11_keepNew_0 (by decide) ?_
  refine lv_iload_n hx hb dX11_keepNew_2 rfl (lv_at hl 1 rfl) ?_
  refine lv_imul hx hb dX11_keepNew_3 ?_
  refine lv_iload_n hx hb dX11_keepNew_4 rfl (lv_at hl 2 rfl) ?_
  refine lv_iadd hx hb dX11_keepNew_5 ?_
  refine g_topi h (fun x1 h => ?_)
  refine lv_istore_n (lv' := [(3, .int x1), (0, .ref (A m_o)), (1, .int a1), (2, .int a2)]) hx hb dX11_keepNew_6 rfl hl (by decide) rfl (fun ls hl => ?_)
  refine lv_aload_n hx hb dX11_keepNew_7 rfl (lv_at hl 1 rfl) ?_
  refine mr_kept S X Z hin hl_65 dX11_keepNew_8 ?_
  refine lv_iload_n hx hb dX11_keepNew_11 rfl (lv_at hl 0 rfl) ?_
  refine lv_iconst (v := (1 : Int32)) hx hb dX11_keepNew_12 (by decide) ?_
  refine g_zast S X Z ml_kept rfl dX11_keepNew_13 h (fun M2 H locs Z h => ?_)
  refine lv_aload_n hx hb dX11_keepNew_14 rfl (lv_at hl 1 rfl) ?_
  refine mr_dirty S X Z hin hl_80 dX11_keepNew_15 ?_
  refine lv_iload_n hx hb dX11_keepNew_18 rfl (lv_at hl 0 rfl) ?_
  refine lv_iconst (v := (0 : Int32)) hx hb dX11_keepNew_19 (by decide) ?_
  refine g_zast S X Z ml_dirty rfl dX11_keepNew_20 h (fun M3 H locs Z h => ?_)
  refine lv_aload_n hx hb dX11_keepNew_21 rfl (lv_at hl 1 rfl) ?_
  refine mr_keptValue S X Z hin hl_68 dX11_keepNew_22 ?_
  refine lv_iload_n hx hb dX11_keepNew_25 rfl (lv_at hl 0 rfl) ?_
  refine lv_iconst (v := (0 : Int32)) hx hb dX11_keepNew_26 (by decide) ?_
  refine g_iast S X Z ml_keptValue rfl dX11_keepNew_27 h (fun M4 H locs Z h => ?_)
  refine lv_aload_n hx hb dX11_keepNew_28 rfl (lv_at hl 1 rfl) ?_
  refine mr_keptSize S X Z hin hl_71 dX11_keepNew_29 ?_
  refine lv_iload_n hx hb dX11_keepNew_32 rfl (lv_at hl 0 rfl) ?_
  refine lv_iconst (v := (0 : Int32)) hx hb dX11_keepNew_33 (by decide) ?_
  refine g_iast S X Z ml_keptSize rfl dX11_keepNew_34 h (fun M5 H locs Z h => ?_)
  refine lv_aload_n hx hb dX11_keepNew_35 rfl (lv_at hl 1 rfl) ?_
  refine lv_aload_n hx hb dX11_keepNew_36 rfl (lv_at hl 1 rfl) ?_
  refine mr_keptVector S X Z hin hl_74 dX11_keepNew_37 ?_
  refine lv_iload_n hx hb dX11_keepNew_40 rfl (lv_at hl 0 rfl) ?_
  obtain ⟨M7, hc6, h⟩ := o1_e h
  refine g_Vv (As := [.ref (A m_keptVector), .int x1]) (rest := []) S X Z mlv_o rfl rfl (t_X11_clearRow l D dA A hJ ⟨ml_keptVector, rfl⟩ hc6) (cwV 2 hts gX11_keepNew_X11_clearRow rfl rfl rfl (by decide +kernel) ⟨Nat.le_of_ble_eq_true rfl, Nat.le_of_ble_eq_true rfl⟩) rfl hl.1 rfl (Nat.le_of_ble_eq_true rfl) dX11_keepNew_41 ⟨Nat.zero_le _, Nat.zero_le _⟩ (fun H locs Z => ?_)
  refine lv_aload_n hx hb dX11_keepNew_44 rfl (lv_at hl 1 rfl) ?_
  refine mr_promised S X Z hin hl_77 dX11_keepNew_45 ?_
  refine lv_iload_n hx hb dX11_keepNew_48 rfl (lv_at hl 0 rfl) ?_
  refine lv_iconst (v := (0 : Int32)) hx hb dX11_keepNew_49 (by decide) ?_
  refine g_iast S X Z ml_promised rfl dX11_keepNew_50 h (fun M8 H locs Z h => ?_)
  refine lv_aload_n hx hb dX11_keepNew_51 rfl (lv_at hl 1 rfl) ?_
  refine lv_iload_n hx hb dX11_keepNew_52 rfl (lv_at hl 2 rfl) ?_
  refine lv_iload_n hx hb dX11_keepNew_53 rfl (lv_at hl 3 rfl) ?_
  obtain ⟨M10, hc9, h⟩ := o1_e h
  refine g_Vv (As := [.int a1, .int a2]) (rest := []) S X Z mlv_o rfl rfl (t_X11_use l D dA A hJ  hc9) (cwV 2 hts gX11_keepNew_X11_use rfl rfl rfl (by decide +kernel) ⟨Nat.le_of_ble_eq_true rfl, Nat.le_of_ble_eq_true rfl⟩) rfl hl.1 rfl (Nat.le_of_ble_eq_true rfl) dX11_keepNew_54 ⟨Nat.zero_le _, Nat.zero_le _⟩ (fun H locs Z => ?_)
  have hy := Option.some.inj h
  subst hy
  exact g_rv S Z hr hlocks dX11_keepNew_57
-- X11_makeAlone (IIIZ)J: 67 instructions
set_option maxRecDepth 20000 in
theorem ggX11_makeAlone_X11_makeRoom : GoodIn wsX11_makeAlone wsX11_makeRoom := goodIn_r _ [10, 11, 12, 13, 14, 9, 15, 16, 17, 18, 19, 20, 21, 22, 23, 24, 25, 26, 5, 27, 28, 29, 30, 31, 32, 33, 34, 35, 36, 37, 38, 39, 40, 4, 41, 42, 43, 44, 45, 78, 79, 80, 81, 82, 83, 84, 85, 86, 87, 88, 89, 90, 91, 92, 93, 94, 95, 96, 97, 98, 99, 100, 101, 102, 103, 104, 105, 106, 107, 108, 109, 110, 111, 112, 113, 114, 115, 116, 117, 118, 119, 120, 121, 122, 123, 124, 125, 126, 127, 128, 129, 130, 131, 132, 133, 134, 135, 136, 137, 138, 139, 140, 141, 142, 143, 144] (by decide +kernel) (by decide +kernel)
set_option maxRecDepth 20000 in
theorem gX11_makeAlone_X11_makeRoom : GoodIn wsX11_makeAlone (wsV RX11 269 RX11 yX11_makeRoom wsX11_makeRoom) := goodIn_app (goodIn_of _ (by decide +kernel)) ggX11_makeAlone_X11_makeRoom
set_option maxRecDepth 20000 in
theorem ggX11_makeAlone_X11_newObject : GoodIn wsX11_makeAlone wsX11_newObject := goodIn_r _ [49, 40, 45, 50, 22, 78, 79, 80, 81, 82, 83, 84, 85, 86, 87, 88, 89, 90, 91, 92, 93, 94, 95, 96, 97, 98, 99, 100, 101, 102, 103, 104, 105, 106, 107, 108, 109, 110, 111, 112, 113, 114, 115, 116, 117, 118, 119, 120, 121, 122, 123, 124, 125, 126, 127, 128, 129, 130, 131, 132, 133, 134, 135, 136, 137, 138, 139, 140, 141, 142, 143, 144] (by decide +kernel) (by decide +kernel)
set_option maxRecDepth 20000 in
theorem gX11_makeAlone_X11_newObject : GoodIn wsX11_makeAlone (wsV RX11 342 RX11 yX11_newObject wsX11_newObject) := goodIn_app (goodIn_of _ (by decide +kernel)) ggX11_makeAlone_X11_newObject
set_option maxRecDepth 20000 in
theorem ggX11_makeAlone_X11_keepNew : GoodIn wsX11_makeAlone wsX11_keepNew := goodIn_r _ [54, 16, 5, 55, 17, 56, 39, 57, 58, 59, 9, 60, 61, 62, 63, 64, 65, 34, 27, 28, 78, 79, 80, 81, 82, 83, 84, 85, 86, 87, 88, 89, 90, 91, 92, 93, 94, 95, 96, 97, 98, 99, 100, 101, 102, 103, 104, 105, 106, 107, 108, 109, 110, 111, 112, 113, 114, 115, 116, 117, 118, 119, 120, 121, 122, 123, 124, 125, 126, 127, 128, 129, 130, 131, 132, 133, 134, 135, 136, 137, 138, 139, 140, 141, 142, 143, 144] (by decide +kernel) (by decide +kernel)
set_option maxRecDepth 20000 in
theorem gX11_makeAlone_X11_keepNew : GoodIn wsX11_makeAlone (wsV RX11 349 RX11 yX11_keepNew wsX11_keepNew) := goodIn_app (goodIn_of _ (by decide +kernel)) ggX11_makeAlone_X11_keepNew
set_option maxRecDepth 20000 in
theorem ggX11_makeAlone_X11_addRecord : GoodIn wsX11_makeAlone wsX11_addRecord := goodIn_r _ [69, 1, 70, 71, 72, 56, 73, 74, 75, 76, 9, 77, 78, 79, 80, 81, 82, 83, 84, 85, 86, 87, 88, 89, 90, 91, 92, 93, 94, 95, 96, 97, 98, 99, 100, 101, 102, 103, 104, 105, 106, 107, 108, 109, 110, 111, 112, 113, 114, 115, 116, 117, 118, 119, 120, 121, 122, 123, 124, 125, 126, 127, 128, 129, 130, 131, 132, 133, 134, 135, 136, 137, 138, 139, 140, 141, 142, 143, 144] (by decide +kernel) (by decide +kernel)
set_option maxRecDepth 20000 in
theorem gX11_makeAlone_X11_addRecord : GoodIn wsX11_makeAlone (wsV RX11 364 RX11 yX11_addRecord wsX11_addRecord) := goodIn_app (goodIn_of _ (by decide +kernel)) ggX11_makeAlone_X11_addRecord
theorem dX11_makeAlone_0 : decode cX11_makeAlone 0 = .ok (.aload_n 0, 1) := by decide +kernel
theorem dX11_makeAlone_1 : decode cX11_makeAlone 1 = .ok (.getfield 98, 3) := by decide +kernel
theorem dX11_makeAlone_4 : decode cX11_makeAlone 4 = .ok (.iload_n 1, 1) := by decide +kernel
theorem dX11_makeAlone_5 : decode cX11_makeAlone 5 = .ok (.iaload, 1) := by decide +kernel
theorem dX11_makeAlone_6 : decode cX11_makeAlone 6 = .ok (.bipush 12, 2) := by decide +kernel
theorem dX11_makeAlone_8 : decode cX11_makeAlone 8 = .ok (.if_icmp .ne 7, 3) := by decide +kernel
theorem dX11_makeAlone_11 : decode cX11_makeAlone 11 = .ok (.ldc2_w 336, 3) := by decide +kernel
theorem dX11_makeAlone_14 : decode cX11_makeAlone 14 = .ok (.lreturn, 1) := by decide +kernel
theorem dX11_makeAlone_15 : decode cX11_makeAlone 15 = .ok (.aload_n 0, 1) := by decide +kernel
theorem dX11_makeAlone_16 : decode cX11_makeAlone 16 = .ok (.iload_n 1, 1) := by decide +kernel
theorem dX11_makeAlone_17 : decode cX11_makeAlone 17 = .ok (.iload 4, 2) := by decide +kernel
theorem dX11_makeAlone_19 : decode cX11_makeAlone 19 = .ok (.ifCond .eq 7, 3) := by decide +kernel
theorem dX11_makeAlone_22 : decode cX11_makeAlone 22 = .ok (.iconst 2, 1) := by decide +kernel
theorem dX11_makeAlone_23 : decode cX11_makeAlone 23 = .ok (.goto 4, 3) := by decide +kernel
theorem dX11_makeAlone_26 : decode cX11_makeAlone 26 = .ok (.iconst 1, 1) := by decide +kernel
theorem dX11_makeAlone_27 : decode cX11_makeAlone 27 = .ok (.iconst (-1), 1) := by decide +kernel
theorem dX11_makeAlone_28 : decode cX11_makeAlone 28 = .ok (.bipush 10, 2) := by decide +kernel
theorem dX11_makeAlone_30 : decode cX11_makeAlone 30 = .ok (.invokevirtual 269, 3) := by decide +kernel
theorem dX11_makeAlone_33 : decode cX11_makeAlone 33 = .ok (.ifCond .ne 7, 3) := by decide +kernel
theorem dX11_makeAlone_36 : decode cX11_makeAlone 36 = .ok (.ldc2_w 362, 3) := by decide +kernel
theorem dX11_makeAlone_39 : decode cX11_makeAlone 39 = .ok (.lreturn, 1) := by decide +kernel
theorem dX11_makeAlone_40 : decode cX11_makeAlone 40 = .ok (.aload_n 0, 1) := by decide +kernel
theorem dX11_makeAlone_41 : decode cX11_makeAlone 41 = .ok (.iload_n 2, 1) := by decide +kernel
theorem dX11_makeAlone_42 : decode cX11_makeAlone 42 = .ok (.iload_n 3, 1) := by decide +kernel
theorem dX11_makeAlone_43 : decode cX11_makeAlone 43 = .ok (.iload 4, 2) := by decide +kernel
theorem dX11_makeAlone_45 : decode cX11_makeAlone 45 = .ok (.invokevirtual 342, 3) := by decide +kernel
theorem dX11_makeAlone_48 : decode cX11_makeAlone 48 = .ok (.istore 5, 2) := by decide +kernel
theorem dX11_makeAlone_50 : decode cX11_makeAlone 50 = .ok (.aload_n 0, 1) := by decide +kernel
theorem dX11_makeAlone_51 : decode cX11_makeAlone 51 = .ok (.getfield 89, 3) := by decide +kernel
theorem dX11_makeAlone_54 : decode cX11_makeAlone 54 = .ok (.bipush 48, 2) := by decide +kernel
theorem dX11_makeAlone_56 : decode cX11_makeAlone 56 = .ok (.iload_n 1, 1) := by decide +kernel
theorem dX11_makeAlone_57 : decode cX11_makeAlone 57 = .ok (.imul, 1) := by decide +kernel
theorem dX11_makeAlone_58 : decode cX11_makeAlone 58 = .ok (.iload 5, 2) := by decide +kernel
theorem dX11_makeAlone_60 : decode cX11_makeAlone 60 = .ok (.iadd, 1) := by decide +kernel
theorem dX11_makeAlone_61 : decode cX11_makeAlone 61 = .ok (.iconst 1, 1) := by decide +kernel
theorem dX11_makeAlone_62 : decode cX11_makeAlone 62 = .ok (.iastore, 1) := by decide +kernel
theorem dX11_makeAlone_63 : decode cX11_makeAlone 63 = .ok (.aload_n 0, 1) := by decide +kernel
theorem dX11_makeAlone_64 : decode cX11_makeAlone 64 = .ok (.iload_n 1, 1) := by decide +kernel
theorem dX11_makeAlone_65 : decode cX11_makeAlone 65 = .ok (.iload 5, 2) := by decide +kernel
theorem dX11_makeAlone_67 : decode cX11_makeAlone 67 = .ok (.invokevirtual 349, 3) := by decide +kernel
theorem dX11_makeAlone_70 : decode cX11_makeAlone 70 = .ok (.aload_n 0, 1) := by decide +kernel
theorem dX11_makeAlone_71 : decode cX11_makeAlone 71 = .ok (.getfield 80, 3) := by decide +kernel
theorem dX11_makeAlone_74 : decode cX11_makeAlone 74 = .ok (.bipush 48, 2) := by decide +kernel
theorem dX11_makeAlone_76 : decode cX11_makeAlone 76 = .ok (.iload_n 1, 1) := by decide +kernel
theorem dX11_makeAlone_77 : decode cX11_makeAlone 77 = .ok (.imul, 1) := by decide +kernel
theorem dX11_makeAlone_78 : decode cX11_makeAlone 78 = .ok (.iload 5, 2) := by decide +kernel
theorem dX11_makeAlone_80 : decode cX11_makeAlone 80 = .ok (.iadd, 1) := by decide +kernel
theorem dX11_makeAlone_81 : decode cX11_makeAlone 81 = .ok (.iconst 1, 1) := by decide +kernel
theorem dX11_makeAlone_82 : decode cX11_makeAlone 82 = .ok (.bastore, 1) := by decide +kernel
theorem dX11_makeAlone_83 : decode cX11_makeAlone 83 = .ok (.aload_n 0, 1) := by decide +kernel
theorem dX11_makeAlone_84 : decode cX11_makeAlone 84 = .ok (.getfield 80, 3) := by decide +kernel
theorem dX11_makeAlone_87 : decode cX11_makeAlone 87 = .ok (.bipush 48, 2) := by decide +kernel
theorem dX11_makeAlone_89 : decode cX11_makeAlone 89 = .ok (.iload_n 1, 1) := by decide +kernel
theorem dX11_makeAlone_90 : decode cX11_makeAlone 90 = .ok (.imul, 1) := by decide +kernel
theorem dX11_makeAlone_91 : decode cX11_makeAlone 91 = .ok (.iload_n 2, 1) := by decide +kernel
theorem dX11_makeAlone_92 : decode cX11_makeAlone 92 = .ok (.iadd, 1) := by decide +kernel
theorem dX11_makeAlone_93 : decode cX11_makeAlone 93 = .ok (.iconst 1, 1) := by decide +kernel
theorem dX11_makeAlone_94 : decode cX11_makeAlone 94 = .ok (.bastore, 1) := by decide +kernel
theorem dX11_makeAlone_95 : decode cX11_makeAlone 95 = .ok (.aload_n 0, 1) := by decide +kernel
theorem dX11_makeAlone_96 : decode cX11_makeAlone 96 = .ok (.iload_n 1, 1) := by decide +kernel
theorem dX11_makeAlone_97 : decode cX11_makeAlone 97 = .ok (.iconst 1, 1) := by decide +kernel
theorem dX11_makeAlone_98 : decode cX11_makeAlone 98 = .ok (.iload 5, 2) := by decide +kernel
theorem dX11_makeAlone_100 : decode cX11_makeAlone 100 = .ok (.iload_n 2, 1) := by decide +kernel
theorem dX11_makeAlone_101 : decode cX11_makeAlone 101 = .ok (.invokevirtual 364, 3) := by decide +kernel
theorem dX11_makeAlone_104 : decode cX11_makeAlone 104 = .ok (.iload 5, 2) := by decide +kernel
theorem dX11_makeAlone_106 : decode cX11_makeAlone 106 = .ok (.i2l, 1) := by decide +kernel
theorem dX11_makeAlone_107 : decode cX11_makeAlone 107 = .ok (.lreturn, 1) := by decide +kernel
def f_X11_makeAlone (M : gM) (a1 : Int32) (a2 : Int32) (a3 : Int32) (a4 : Int32) : Option (Int64 × gM) :=
  rd M m_records 4 a1 (fun v1 => (if v1 = (12 : Int32) then some ((-2199023255557 : Int64), M) else jn (fun (q : (Int32 × gM)) => match q with | (b3, M4) => ob (f_X11_makeRoom M4 a1 b3 (-1 : Int32) (10 : Int32)) (fun v7 M6 => (if v7 = 0 then some ((-2199023255558 : Int64), M6) else ob (f_X11_newObject M6 a2 a3 a4) (fun v11 M10 => wr M10 m_keptEntry 192 (((48 : Int32) * a1) + v11) (1 : Int32) (fun M12 => o1 (f_X11_keepNew M12 a1 v11) (fun M14 => wz M14 m_dirty 192 (((48 : Int32) * a1) + v11) (1 : Int32) (fun M15 => wz M15 m_dirty 192 (((48 : Int32) * a1) + a2) (1 : Int32) (fun M16 => o1 (f_X11_addRecord M16 a1 (1 : Int32) v11 a2) (fun M18 => some (v11.toInt64, M18)))))))))) (fun J27 => (if a4 = 0 then J27 ((1 : Int32), M) else J27 ((2 : Int32), M)))))
set_option maxHeartbeats 4000000 in
set_option maxRecDepth 100000 in
theorem t_X11_makeAlone (l : Launch) (D : va_G) (dA : Nat → ClassId) (A : gI → Nat) (hJ : gJ mLive A) {M : gM} {a1 : Int32} {a2 : Int32} {a3 : Int32} {a4 : Int32}  {y : (Int64 × gM)} (h : f_X11_makeAlone M a1 a2 a3 a4 = some y) : mMl l yX11_makeAlone wsX11_makeAlone ({ frames := 3, cells := 0, slots := 0, locals := 73 } : Room) D dA A [.ref (A m_o), .int a1, .int a2, .int a3, .int a4] M y.1 y.2 := by
  refine Met.ofW (cc := cX11_makeAlone) (maxL := 6) (ret := (some .long)) (by decide) rfl ?_
  intro p e s m args below meth c s₁ B hml hv
  obtain ⟨rfl, hP, hK⟩ := hv
  generalize hargs : ([.ref (A m_o), .int a1, .int a2, .int a3, .int a4] : List Value).toArray = args at B ⊢
  have S : CallFix p m c cX11_makeAlone 6 s args wsX11_makeAlone RX11 := ⟨B.exec, B.bytes, hml, findClass_of_methodNamed B.named, atoms_spec (ws := wsX11_makeAlone) B.pre⟩
  obtain ⟨hx, hb, -, hown, hts⟩ := id S
  have hr := B.returns
  have hlocks := B.notSynchronized
  have X : gX D vwCl dA mLive A (gA mLive A) s := ⟨hK, hJ, fun i hi => ⟨i, hi, rfl⟩⟩
  have Z : gZ D mLay dA mLive A (gA mLive A) s.heap M s.heap [] := ⟨hP, va_S.rf⟩
  have hin : ∀ w ∈ wsX110, w ∈ wsX11_makeAlone := fun w h => List.mem_cons_of_mem _ (List.mem_append_right _ h)
  have hl_80 := hts (.fieldLink RX11 80 "ReplicaFilesModel" "dirty" "[Z") (by decide +kernel)
  have hl_89 := hts (.fieldLink RX11 89 "ReplicaFilesModel" "keptEntry" "[I") (by decide +kernel)
  have hl_98 := hts (.fieldLink RX11 98 "ReplicaFilesModel" "records" "[I") (by decide +kernel)
  have hc_336 := hts (.constantLong RX11 336 (-2199023255557)) (by decide +kernel)
  have hc_362 := hts (.constantLong RX11 362 (-2199023255558)) (by decide +kernel)
  have hl := lv_entry ([.ref (A m_o), .int a1, .int a2, .int a3, .int a4]) (n := 6) (Nat.le_of_ble_eq_true rfl)
  rw [← hargs, lg_entry_eq, hargs]
  generalize (lg_sl ([.ref (A m_o), .int a1, .int a2, .int a3, .int a4]) ++ List.replicate (6 - (lg_sl ([.ref (A m_o), .int a1, .int a2, .int a3, .int a4])).length) Slot.unset).toArray = ls at hl ⊢
  have hl : lv_has ls 6 [(0, .ref (A m_o)), (1, .int a1), (2, .int a2), (3, .int a3), (4, .int a4)] := hl
  unfold f_X11_makeAlone at h
  refine lv_aload_n hx hb dX11_makeAlone_0 rfl (lv_at hl 0 rfl) ?_
  refine mr_records S X Z hin hl_98 dX11_makeAlone_1 ?_
  refine lv_iload_n hx hb dX11_makeAlone_4 rfl (lv_at hl 1 rfl) ?_
  refine g_iald S X Z ml_records rfl dX11_makeAlone_5 h (fun v1 h => ?_)
  refine lv_bipush (v := (12 : Int32)) hx hb dX11_makeAlone_6 (by decide) ?_
  refine lv_icmp_ne (tgt := 15) hx hb dX11_makeAlone_8 (by decide) (fun c2 => ?_) (fun c2 => ?_)
  · have h := if_f c2 h
    refine lv_aload_n hx hb dX11_makeAlone_15 rfl (lv_at hl 0 rfl) ?_
    refine lv_iload_n hx hb dX11_makeAlone_16 rfl (lv_at hl 1 rfl) ?_
    refine lv_iload hx hb dX11_makeAlone_17 (lv_at hl 4 rfl) ?_
    obtain ⟨J27, eJ27, h⟩ := jn_e h
    have hJ27 : ∀ (b3 : Int32) (M4 : gM) (H : Heap) (locs : List Loc) (ls : Array Slot), gZ D mLay dA mLive A (gA mLive A) s.heap M4 H locs → lv_has ls 6 [(0, .ref (A m_o)), (1, .int a1), (2, .int a2), (3, .int a3), (4, .int a4)] → J27 (b3, M4) = some y → W p l e (headSpec wsX11_makeAlone ({ frames := 3, cells := 0, slots := 0, locals := 73 } : Room)).room s m args below meth c H locs 0 0 (MQ below (mQl D dA A y) args s 0 0 (gA mLive A)) (F0 m 27 ls [.int b3, .int a1, .ref (A m_o)]) := by
      intro b3 M4 H locs ls Z hl h
      rw [eJ27] at h
      try dsimp only at h
      refine lv_iconst (v := (-1 : Int32)) hx hb dX11_makeAlone_27 (by decide) ?_
      refine lv_bipush (v := (10 : Int32)) hx hb dX11_makeAlone_28 (by decide) ?_
      obtain ⟨v7, M6, hc5, h⟩ := ob_e h
      refine g_Vi (As := [.int a1, .int b3, .int (-1 : Int32), .int (10 : Int32)]) (rest := []) S X Z mlv_o rfl rfl (t_X11_makeRoom l D dA A hJ  hc5) (cwV 4 hts gX11_makeAlone_X11_makeRoom rfl rfl rfl (by decide +kernel) ⟨Nat.le_of_ble_eq_true rfl, Nat.le_of_ble_eq_true rfl⟩) rfl hl.1 rfl (Nat.le_of_ble_eq_true rfl) dX11_makeAlone_30 ⟨Nat.zero_le _, Nat.zero_le _⟩ (fun H locs Z => ?_)
      refine lv_if_ne (tgt := 40) hx hb dX11_makeAlone_33 (by decide) (fun c8 => ?_) (fun c8 => ?_)
      · have h := if_f c8 h
        refine lv_aload_n hx hb dX11_makeAlone_40 rfl (lv_at hl 0 rfl) ?_
        refine lv_iload_n hx hb dX11_makeAlone_41 rfl (lv_at hl 2 rfl) ?_
        refine lv_iload_n hx hb dX11_makeAlone_42 rfl (lv_at hl 3 rfl) ?_
        refine lv_iload hx hb dX11_makeAlone_43 (lv_at hl 4 rfl) ?_
        obtain ⟨v11, M10, hc9, h⟩ := ob_e h
        refine g_Vi (As := [.int a2, .int a3, .int a4]) (rest := []) S X Z mlv_o rfl rfl (t_X11_newObject l D dA A hJ  hc9) (cwV 3 hts gX11_makeAlone_X11_newObject rfl rfl rfl (by decide +kernel) ⟨Nat.le_of_ble_eq_true rfl, Nat.le_of_ble_eq_true rfl⟩) rfl hl.1 rfl (Nat.le_of_ble_eq_true rfl) dX11_makeAlone_45 ⟨Nat.zero_le _, Nat.zero_le _⟩ (fun H locs Z => ?_)
        refine lv_istore (lv' := [(5, .int v11), (0, .ref (A m_o)), (1, .int a1), (2, .int a2), (3, .int a3), (4, .int a4)]) hx hb dX11_makeAlone_48 hl (by decide) rfl (fun ls hl => ?_)
        refine lv_aload_n hx hb dX11_makeAlone_50 rfl (lv_at hl 1 rfl) ?_
        refine mr_keptEntry S X Z hin hl_89 dX11_makeAlone_51 ?_
        refine lv_bipush (v := (48 : Int32)) hx hb dX11_makeAlone_54 (by decide) ?_
        refine lv_iload_n hx hb dX11_makeAlone_56 rfl (lv_at hl 2 rfl) ?_
        refine lv_imul hx hb dX11_makeAlone_57 ?_
        refine lv_iload hx hb dX11_makeAlone_58 (lv_at hl 0 rfl) ?_
        refine lv_iadd hx hb dX11_makeAlone_60 ?_
        refine lv_iconst (v := (1 : Int32)) hx hb dX11_makeAlone_61 (by decide) ?_
        refine g_iast S X Z ml_keptEntry rfl dX11_makeAlone_62 h (fun M12 H locs Z h => ?_)
        refine lv_aload_n hx hb dX11_makeAlone_63 rfl (lv_at hl 1 rfl) ?_
        refine lv_iload_n hx hb dX11_makeAlone_64 rfl (lv_at hl 2 rfl) ?_
        refine lv_iload hx hb dX11_makeAlone_65 (lv_at hl 0 rfl) ?_
        obtain ⟨M14, hc13, h⟩ := o1_e h
        refine g_Vv (As := [.int a1, .int v11]) (rest := []) S X Z mlv_o rfl rfl (t_X11_keepNew l D dA A hJ  hc13) (cwV 2 hts gX11_makeAlone_X11_keepNew rfl rfl rfl (by decide +kernel) ⟨Nat.le_of_ble_eq_true rfl, Nat.le_of_ble_eq_true rfl⟩) rfl hl.1 rfl (Nat.le_of_ble_eq_true rfl) dX11_makeAlone_67 ⟨Nat.zero_le _, Nat.zero_le _⟩ (fun H locs Z => ?_)
        refine lv_aload_n hx hb dX11_makeAlone_70 rfl (lv_at hl 1 rfl) ?_
        refine mr_dirty S X Z hin hl_80 dX11_makeAlone_71 ?_
        refine lv_bipush (v := (48 : Int32)) hx hb dX11_makeAlone_74 (by decide) ?_
        refine lv_iload_n hx hb dX11_makeAlone_76 rfl (lv_at hl 2 rfl) ?_
        refine lv_imul hx hb dX11_makeAlone_77 ?_
        refine lv_iload hx hb dX11_makeAlone_78 (lv_at hl 0 rfl) ?_
        refine lv_iadd hx hb dX11_makeAlone_80 ?_
        refine lv_iconst (v := (1 : Int32)) hx hb dX11_makeAlone_81 (by decide) ?_
        refine g_zast S X Z ml_dirty rfl dX11_makeAlone_82 h (fun M15 H locs Z h => ?_)
        refine lv_aload_n hx hb dX11_makeAlone_83 rfl (lv_at hl 1 rfl) ?_
        refine mr_dirty S X Z hin hl_80 dX11_makeAlone_84 ?_
        refine lv_bipush (v := (48 : Int32)) hx hb dX11_makeAlone_87 (by decide) ?_
        refine lv_iload_n hx hb dX11_makeAlone_89 rfl (lv_at hl 2 rfl) ?_
        refine lv_imul hx hb dX11_makeAlone_90 ?_
        refine lv_iload_n hx hb dX11_makeAlone_91 rfl (lv_at hl 3 rfl) ?_
        refine lv_iadd hx hb dX11_makeAlone_92 ?_
        refine lv_iconst (v := (1 : Int32)) hx hb dX11_makeAlone_93 (by decide) ?_
        refine g_zast S X Z ml_dirty rfl dX11_makeAlone_94 h (fun M16 H locs Z h => ?_)
        refine lv_aload_n hx hb dX11_makeAlone_95 rfl (lv_at hl 1 rfl) ?_
        refine lv_iload_n hx hb dX11_makeAlone_96 rfl (lv_at hl 2 rfl) ?_
        refine lv_iconst (v := (1 : Int32)) hx hb dX11_makeAlone_97 (by decide) ?_
        refine lv_iload hx hb dX11_makeAlone_98 (lv_at hl 0 rfl) ?_
        refine lv_iload_n hx hb dX11_makeAlone_100 rfl (lv_at hl 3 rfl) ?_
        obtain ⟨M18, hc17, h⟩ := o1_e h
        refine g_Vv (As := [.int a1, .int (1 : Int32), .int v11, .int a2]) (rest := []) S X Z mlv_o rfl rfl (t_X11_addRecord l D dA A hJ  hc17) (cwV 4 hts gX11_makeAlone_X11_addRecord rfl rfl rfl (by decide +kernel) ⟨Nat.le_of_ble_eq_true rfl, Nat.le_of_ble_eq_true rfl⟩) rfl hl.1 rfl (Nat.le_of_ble_eq_true rfl) dX11_makeAlone_101 ⟨Nat.zero_le _, Nat.zero_le _⟩ (fun H locs Z => ?_)
        refine lv_iload hx hb dX11_makeAlone_104 (lv_at hl 0 rfl) ?_
        refine lv_i2l hx hb dX11_makeAlone_106 rfl ?_
        have hy := Option.some.inj h
        subst hy
        exact g_rl S Z hr hlocks dX11_makeAlone_107
      · have h := if_t c8 h
        refine lv_ldc2 hx hb hown hc_362 dX11_makeAlone_36 ?_
        have hy := Option.some.inj h
        subst hy
        exact g_rl S Z hr hlocks dX11_makeAlone_39
    refine lv_if_eq (tgt := 26) hx hb dX11_makeAlone_19 (by decide) (fun c19 => ?_) (fun c19 => ?_)
    · have h := if_t c19 h
      refine lv_iconst (v := (1 : Int32)) hx hb dX11_makeAlone_26 (by decide) ?_
      exact hJ27 (1 : Int32) M _ _ _ Z (lv_sub hl [0, 1, 2, 3, 4] rfl) h
    · have h := if_f c19 h
      refine lv_iconst (v := (2 : Int32)) hx hb dX11_makeAlone_22 (by decide) ?_
      refine lv_goto (tgt := 27) hx hb dX11_makeAlone_23 (by decide) ?_
      exact hJ27 (2 : Int32) M _ _ _ Z (lv_sub hl [0, 1, 2, 3, 4] rfl) h
  · have h := if_t c2 h
    refine lv_ldc2 hx hb hown hc_336 dX11_makeAlone_11 ?_
    have hy := Option.some.inj h
    subst hy
    exact g_rl S Z hr hlocks dX11_makeAlone_14
-- X11_make (IIIZ)J: 140 instructions
set_option maxRecDepth 20000 in
theorem ggX11_make_X11_isClient : GoodIn wsX11_make wsX11_isClient := goodIn_r _ [13, 14, 15, 12, 16] (by decide +kernel) (by decide +kernel)
set_option maxRecDepth 20000 in
theorem gX11_make_X11_isClient : GoodIn wsX11_make (va_wsS RX11 191 yX11_isClient wsX11_isClient) := goodIn_app (goodIn_of _ (by decide +kernel)) ggX11_make_X11_isClient
set_option maxRecDepth 20000 in
theorem ggX11_make_X11_isObject : GoodIn wsX11_make wsX11_isObject := goodIn_r _ [19, 14, 15, 12, 16] (by decide +kernel) (by decide +kernel)
set_option maxRecDepth 20000 in
theorem gX11_make_X11_isObject : GoodIn wsX11_make (va_wsS RX11 194 yX11_isObject wsX11_isObject) := goodIn_app (goodIn_of _ (by decide +kernel)) ggX11_make_X11_isObject
set_option maxRecDepth 20000 in
theorem ggX11_make_X11_in : GoodIn wsX11_make wsX11_in := goodIn_r _ [16] (by decide +kernel) (by decide +kernel)
set_option maxRecDepth 20000 in
theorem gX11_make_X11_in : GoodIn wsX11_make (va_wsS RX11 168 yX11_in wsX11_in) := goodIn_app (goodIn_of _ (by decide +kernel)) ggX11_make_X11_in
set_option maxRecDepth 20000 in
theorem ggX11_make_X11_kindOf : GoodIn wsX11_make wsX11_kindOf := goodIn_r _ [23, 3, 24, 25, 26, 196, 197, 198, 199, 200, 201, 202, 203, 204, 205, 206, 207, 208, 209, 210, 211, 212, 213, 214, 215, 216, 217, 218, 219, 220, 221, 222, 223, 224, 225, 226, 227, 228, 229, 230, 231, 232, 233, 234, 235, 236, 237, 238, 239, 240, 241, 242, 243, 244, 245, 246, 247, 248, 249, 250, 251, 252, 253, 254, 255, 256, 257, 258, 259, 260, 261, 262] (by decide +kernel) (by decide +kernel)
set_option maxRecDepth 20000 in
theorem gX11_make_X11_kindOf : GoodIn wsX11_make (wsV RX11 278 RX11 yX11_kindOf wsX11_kindOf) := goodIn_app (goodIn_of _ (by decide +kernel)) ggX11_make_X11_kindOf
set_option maxRecDepth 20000 in
theorem ggX11_make_X11_isAlone : GoodIn wsX11_make wsX11_isAlone := goodIn_r _ [30, 31, 32, 33, 34, 12, 35, 36, 37, 38, 39, 40, 41, 42, 196, 197, 198, 199, 200, 201, 202, 203, 204, 205, 206, 207, 208, 209, 210, 211, 212, 213, 214, 215, 216, 217, 218, 219, 220, 221, 222, 223, 224, 225, 226, 227, 228, 229, 230, 231, 232, 233, 234, 235, 236, 237, 238, 239, 240, 241, 242, 243, 244, 245, 246, 247, 248, 249, 250, 251, 252, 253, 254, 255, 256, 257, 258, 259, 260, 261, 262] (by decide +kernel) (by decide +kernel)
set_option maxRecDepth 20000 in
theorem gX11_make_X11_isAlone : GoodIn wsX11_make (wsV RX11 238 RX11 yX11_isAlone wsX11_isAlone) := goodIn_app (goodIn_of _ (by decide +kernel)) ggX11_make_X11_isAlone
set_option maxRecDepth 20000 in
theorem ggX11_make_X11_get : GoodIn wsX11_make wsX11_get := goodIn_r _ [46, 7, 47, 36, 48, 49, 50, 51, 52, 27, 28, 29, 12, 30, 31, 32, 33, 34, 35, 37, 38, 39, 40, 41, 42, 53, 54, 55, 56, 57, 58, 59, 2, 60, 61, 62, 63, 64, 65, 66, 5, 67, 8, 68, 69, 70, 71, 72, 73, 74, 75, 3, 76, 77, 78, 79, 80, 9, 81, 82, 83, 84, 85, 86, 87, 88, 89, 90, 91, 92, 93, 94, 95, 96, 97, 98, 99, 100, 101, 102, 103, 104, 105, 106, 107, 108, 109, 110, 25, 111, 112, 113, 114, 115, 116, 117, 118, 119, 120, 121, 122, 123, 124, 125, 126, 127, 128, 129, 130, 131, 132, 196, 197, 198, 199, 200, 201, 202, 203, 204, 205, 206, 207, 208, 209, 210, 211, 212, 213, 214, 215, 216, 217, 218, 219, 220, 221, 222, 223, 224, 225, 226, 227, 228, 229, 230, 231, 232, 233, 234, 235, 236, 237, 238, 239, 240, 241, 242, 243, 244, 245, 246, 247, 248, 249, 250, 251, 252, 253, 254, 255, 256, 257, 258, 259, 260, 261, 262] (by decide +kernel) (by decide +kernel)
set_option maxRecDepth 20000 in
theorem gX11_make_X11_get : GoodIn wsX11_make (wsV RX11 282 RX11 yX11_get wsX11_get) := goodIn_app (goodIn_of _ (by decide +kernel)) ggX11_make_X11_get
set_option maxRecDepth 20000 in
theorem ggX11_make_X11_makeAlone : GoodIn wsX11_make wsX11_makeAlone := goodIn_r _ [136, 31, 4, 137, 8, 85, 115, 116, 117, 12, 118, 119, 111, 112, 113, 114, 7, 104, 107, 108, 109, 110, 25, 120, 121, 122, 123, 59, 2, 124, 125, 126, 127, 128, 58, 81, 82, 83, 84, 9, 3, 72, 73, 74, 75, 76, 138, 139, 140, 141, 142, 143, 144, 145, 146, 64, 66, 147, 148, 149, 150, 53, 54, 55, 56, 57, 151, 152, 153, 154, 155, 156, 157, 158, 68, 69, 70, 71, 196, 197, 198, 199, 200, 201, 202, 203, 204, 205, 206, 207, 208, 209, 210, 211, 212, 213, 214, 215, 216, 217, 218, 219, 220, 221, 222, 223, 224, 225, 226, 227, 228, 229, 230, 231, 232, 233, 234, 235, 236, 237, 238, 239, 240, 241, 242, 243, 244, 245, 246, 247, 248, 249, 250, 251, 252, 253, 254, 255, 256, 257, 258, 259, 260, 261, 262] (by decide +kernel) (by decide +kernel)
set_option maxRecDepth 20000 in
theorem gX11_make_X11_makeAlone : GoodIn wsX11_make (wsV RX11 338 RX11 yX11_makeAlone wsX11_makeAlone) := goodIn_app (goodIn_of _ (by decide +kernel)) ggX11_make_X11_makeAlone
set_option maxRecDepth 20000 in
theorem ggX11_make_X11_nearSet : GoodIn wsX11_make wsX11_nearSet := goodIn_r _ [35, 36, 37, 38, 39, 12, 40, 41, 42, 196, 197, 198, 199, 200, 201, 202, 203, 204, 205, 206, 207, 208, 209, 210, 211, 212, 213, 214, 215, 216, 217, 218, 219, 220, 221, 222, 223, 224, 225, 226, 227, 228, 229, 230, 231, 232, 233, 234, 235, 236, 237, 238, 239, 240, 241, 242, 243, 244, 245, 246, 247, 248, 249, 250, 251, 252, 253, 254, 255, 256, 257, 258, 259, 260, 261, 262] (by decide +kernel) (by decide +kernel)
set_option maxRecDepth 20000 in
theorem gX11_make_X11_nearSet : GoodIn wsX11_make (wsV RX11 180 RX11 yX11_nearSet wsX11_nearSet) := goodIn_app (goodIn_of _ (by decide +kernel)) ggX11_make_X11_nearSet
set_option maxRecDepth 20000 in
theorem ggX11_make_X11_setOf : GoodIn wsX11_make wsX11_setOf := goodIn_r _ [162, 36, 48, 51, 90, 129, 130, 131, 12, 132, 95, 196, 197, 198, 199, 200, 201, 202, 203, 204, 205, 206, 207, 208, 209, 210, 211, 212, 213, 214, 215, 216, 217, 218, 219, 220, 221, 222, 223, 224, 225, 226, 227, 228, 229, 230, 231, 232, 233, 234, 235, 236, 237, 238, 239, 240, 241, 242, 243, 244, 245, 246, 247, 248, 249, 250, 251, 252, 253, 254, 255, 256, 257, 258, 259, 260, 261, 262] (by decide +kernel) (by decide +kernel)
set_option maxRecDepth 20000 in
theorem gX11_make_X11_setOf : GoodIn wsX11_make (wsV RX11 323 RX11 yX11_setOf wsX11_setOf) := goodIn_app (goodIn_of _ (by decide +kernel)) ggX11_make_X11_setOf
set_option maxRecDepth 20000 in
theorem ggX11_make_X11_newObject : GoodIn wsX11_make wsX11_newObject := goodIn_r _ [141, 3, 76, 142, 25, 196, 197, 198, 199, 200, 201, 202, 203, 204, 205, 206, 207, 208, 209, 210, 211, 212, 213, 214, 215, 216, 217, 218, 219, 220, 221, 222, 223, 224, 225, 226, 227, 228, 229, 230, 231, 232, 233, 234, 235, 236, 237, 238, 239, 240, 241, 242, 243, 244, 245, 246, 247, 248, 249, 250, 251, 252, 253, 254, 255, 256, 257, 258, 259, 260, 261, 262] (by decide +kernel) (by decide +kernel)
set_option maxRecDepth 20000 in
theorem gX11_make_X11_newObject : GoodIn wsX11_make (wsV RX11 342 RX11 yX11_newObject wsX11_newObject) := goodIn_app (goodIn_of _ (by decide +kernel)) ggX11_make_X11_newObject
set_option maxRecDepth 20000 in
theorem ggX11_make_X11_putEntry : GoodIn wsX11_make wsX11_putEntry := goodIn_r _ [166, 36, 6, 101, 105, 167, 147, 148, 149, 12, 150, 168, 169, 170, 171, 48, 100, 102, 51, 90, 172, 173, 174, 175, 176, 177, 178, 179, 180, 181, 182, 183, 184, 185, 186, 187, 196, 197, 198, 199, 200, 201, 202, 203, 204, 205, 206, 207, 208, 209, 210, 211, 212, 213, 214, 215, 216, 217, 218, 219, 220, 221, 222, 223, 224, 225, 226, 227, 228, 229, 230, 231, 232, 233, 234, 235, 236, 237, 238, 239, 240, 241, 242, 243, 244, 245, 246, 247, 248, 249, 250, 251, 252, 253, 254, 255, 256, 257, 258, 259, 260, 261, 262] (by decide +kernel) (by decide +kernel)
set_option maxRecDepth 20000 in
theorem gX11_make_X11_putEntry : GoodIn wsX11_make (wsV RX11 346 RX11 yX11_putEntry wsX11_putEntry) := goodIn_app (goodIn_of _ (by decide +kernel)) ggX11_make_X11_putEntry
set_option maxRecDepth 20000 in
theorem ggX11_make_X11_follow : GoodIn wsX11_make wsX11_follow := goodIn_r _ [191, 7, 66, 6, 9, 176, 184, 185, 186, 12, 187, 36, 183, 192, 193, 194, 195, 196, 197, 198, 199, 200, 201, 202, 203, 204, 205, 206, 207, 208, 209, 210, 211, 212, 213, 214, 215, 216, 217, 218, 219, 220, 221, 222, 223, 224, 225, 226, 227, 228, 229, 230, 231, 232, 233, 234, 235, 236, 237, 238, 239, 240, 241, 242, 243, 244, 245, 246, 247, 248, 249, 250, 251, 252, 253, 254, 255, 256, 257, 258, 259, 260, 261, 262] (by decide +kernel) (by decide +kernel)
set_option maxRecDepth 20000 in
theorem gX11_make_X11_follow : GoodIn wsX11_make (wsV RX11 330 RX11 yX11_follow wsX11_follow) := goodIn_app (goodIn_of _ (by decide +kernel)) ggX11_make_X11_follow
set_option maxRecDepth 20000 in
theorem ggX11_make_X11_weight : GoodIn wsX11_make wsX11_weight := goodIn_r _ [110, 25, 196, 197, 198, 199, 200, 201, 202, 203, 204, 205, 206, 207, 208, 209, 210, 211, 212, 213, 214, 215, 216, 217, 218, 219, 220, 221, 222, 223, 224, 225, 226, 227, 228, 229, 230, 231, 232, 233, 234, 235, 236, 237, 238, 239, 240, 241, 242, 243, 244, 245, 246, 247, 248, 249, 250, 251, 252, 253, 254, 255, 256, 257, 258, 259, 260, 261, 262] (by decide +kernel) (by decide +kernel)
set_option maxRecDepth 20000 in
theorem gX11_make_X11_weight : GoodIn wsX11_make (wsV RX11 204 RX11 yX11_weight wsX11_weight) := goodIn_app (goodIn_of _ (by decide +kernel)) ggX11_make_X11_weight
set_option maxRecDepth 20000 in
theorem ggX11_make_X11_makeRoom : GoodIn wsX11_make wsX11_makeRoom := goodIn_r _ [118, 119, 111, 112, 113, 12, 114, 7, 104, 107, 108, 109, 110, 25, 120, 121, 122, 123, 85, 59, 2, 124, 125, 126, 127, 128, 58, 81, 82, 83, 84, 9, 3, 8, 72, 73, 74, 75, 76, 196, 197, 198, 199, 200, 201, 202, 203, 204, 205, 206, 207, 208, 209, 210, 211, 212, 213, 214, 215, 216, 217, 218, 219, 220, 221, 222, 223, 224, 225, 226, 227, 228, 229, 230, 231, 232, 233, 234, 235, 236, 237, 238, 239, 240, 241, 242, 243, 244, 245, 246, 247, 248, 249, 250, 251, 252, 253, 254, 255, 256, 257, 258, 259, 260, 261, 262] (by decide +kernel) (by decide +kernel)
set_option maxRecDepth 20000 in
theorem gX11_make_X11_makeRoom : GoodIn wsX11_make (wsV RX11 269 RX11 yX11_makeRoom wsX11_makeRoom) := goodIn_app (goodIn_of _ (by decide +kernel)) ggX11_make_X11_makeRoom
set_option maxRecDepth 20000 in
theorem ggX11_make_X11_keepNew : GoodIn wsX11_make wsX11_keepNew := goodIn_r _ [146, 7, 85, 64, 104, 66, 9, 147, 148, 149, 12, 150, 53, 54, 55, 56, 57, 58, 59, 2, 196, 197, 198, 199, 200, 201, 202, 203, 204, 205, 206, 207, 208, 209, 210, 211, 212, 213, 214, 215, 216, 217, 218, 219, 220, 221, 222, 223, 224, 225, 226, 227, 228, 229, 230, 231, 232, 233, 234, 235, 236, 237, 238, 239, 240, 241, 242, 243, 244, 245, 246, 247, 248, 249, 250, 251, 252, 253, 254, 255, 256, 257, 258, 259, 260, 261, 262] (by decide +kernel) (by decide +kernel)
set_option maxRecDepth 20000 in
theorem gX11_make_X11_keepNew : GoodIn wsX11_make (wsV RX11 349 RX11 yX11_keepNew wsX11_keepNew) := goodIn_app (goodIn_of _ (by decide +kernel)) ggX11_make_X11_keepNew
theorem dX11_make_0 : decode cX11_make 0 = .ok (.aload_n 0, 1) := by decide +kernel
theorem dX11_make_1 : decode cX11_make 1 = .ok (.iload_n 1, 1) := by decide +kernel
theorem dX11_make_2 : decode cX11_make 2 = .ok (.invokestatic 191, 3) := by decide +kernel
theorem dX11_make_5 : decode cX11_make 5 = .ok (.ifCond .eq 10, 3) := by decide +kernel
theorem dX11_make_8 : decode cX11_make 8 = .ok (.iload_n 2, 1) := by decide +kernel
theorem dX11_make_9 : decode cX11_make 9 = .ok (.invokestatic 194, 3) := by decide +kernel
theorem dX11_make_12 : decode cX11_make 12 = .ok (.ifCond .ne 7, 3) := by decide +kernel
theorem dX11_make_15 : decode cX11_make 15 = .ok (.iconst 1, 1) := by decide +kernel
theorem dX11_make_16 : decode cX11_make 16 = .ok (.goto 18, 3) := by decide +kernel
theorem dX11_make_19 : decode cX11_make 19 = .ok (.iload_n 3, 1) := by decide +kernel
theorem dX11_make_20 : decode cX11_make 20 = .ok (.iconst 0, 1) := by decide +kernel
theorem dX11_make_21 : decode cX11_make 21 = .ok (.bipush 15, 2) := by decide +kernel
theorem dX11_make_23 : decode cX11_make 23 = .ok (.invokestatic 168, 3) := by decide +kernel
theorem dX11_make_26 : decode cX11_make 26 = .ok (.ifCond .eq 7, 3) := by decide +kernel
theorem dX11_make_29 : decode cX11_make 29 = .ok (.iconst 0, 1) := by decide +kernel
theorem dX11_make_30 : decode cX11_make 30 = .ok (.goto 4, 3) := by decide +kernel
theorem dX11_make_33 : decode cX11_make 33 = .ok (.iconst 2, 1) := by decide +kernel
theorem dX11_make_34 : decode cX11_make 34 = .ok (.putfield 165, 3) := by decide +kernel
theorem dX11_make_37 : decode cX11_make 37 = .ok (.aload_n 0, 1) := by decide +kernel
theorem dX11_make_38 : decode cX11_make 38 = .ok (.getfield 165, 3) := by decide +kernel
theorem dX11_make_41 : decode cX11_make 41 = .ok (.ifCond .le 5, 3) := by decide +kernel
theorem dX11_make_44 : decode cX11_make 44 = .ok (.lconst 0, 1) := by decide +kernel
theorem dX11_make_45 : decode cX11_make 45 = .ok (.lreturn, 1) := by decide +kernel
theorem dX11_make_46 : decode cX11_make 46 = .ok (.aload_n 0, 1) := by decide +kernel
theorem dX11_make_47 : decode cX11_make 47 = .ok (.iload_n 2, 1) := by decide +kernel
theorem dX11_make_48 : decode cX11_make 48 = .ok (.iconst 1, 1) := by decide +kernel
theorem dX11_make_49 : decode cX11_make 49 = .ok (.invokevirtual 278, 3) := by decide +kernel
theorem dX11_make_52 : decode cX11_make 52 = .ok (.lstore 5, 2) := by decide +kernel
theorem dX11_make_54 : decode cX11_make 54 = .ok (.lload 5, 2) := by decide +kernel
theorem dX11_make_56 : decode cX11_make 56 = .ok (.lconst 0, 1) := by decide +kernel
theorem dX11_make_57 : decode cX11_make 57 = .ok (.lcmp, 1) := by decide +kernel
theorem dX11_make_58 : decode cX11_make 58 = .ok (.ifCond .eq 6, 3) := by decide +kernel
theorem dX11_make_61 : decode cX11_make 61 = .ok (.lload 5, 2) := by decide +kernel
theorem dX11_make_63 : decode cX11_make 63 = .ok (.lreturn, 1) := by decide +kernel
theorem dX11_make_64 : decode cX11_make 64 = .ok (.aload_n 0, 1) := by decide +kernel
theorem dX11_make_65 : decode cX11_make 65 = .ok (.dup, 1) := by decide +kernel
theorem dX11_make_66 : decode cX11_make 66 = .ok (.getfield 211, 3) := by decide +kernel
theorem dX11_make_69 : decode cX11_make 69 = .ok (.iconst 1, 1) := by decide +kernel
theorem dX11_make_70 : decode cX11_make 70 = .ok (.iadd, 1) := by decide +kernel
theorem dX11_make_71 : decode cX11_make 71 = .ok (.putfield 211, 3) := by decide +kernel
theorem dX11_make_74 : decode cX11_make 74 = .ok (.aload_n 0, 1) := by decide +kernel
theorem dX11_make_75 : decode cX11_make 75 = .ok (.iload_n 1, 1) := by decide +kernel
theorem dX11_make_76 : decode cX11_make 76 = .ok (.invokevirtual 238, 3) := by decide +kernel
theorem dX11_make_79 : decode cX11_make 79 = .ok (.istore 7, 2) := by decide +kernel
theorem dX11_make_81 : decode cX11_make 81 = .ok (.aload_n 0, 1) := by decide +kernel
theorem dX11_make_82 : decode cX11_make 82 = .ok (.iload_n 1, 1) := by decide +kernel
theorem dX11_make_83 : decode cX11_make 83 = .ok (.iload_n 2, 1) := by decide +kernel
theorem dX11_make_84 : decode cX11_make 84 = .ok (.bipush 10, 2) := by decide +kernel
theorem dX11_make_86 : decode cX11_make 86 = .ok (.invokevirtual 282, 3) := by decide +kernel
theorem dX11_make_89 : decode cX11_make 89 = .ok (.lstore 8, 2) := by decide +kernel
theorem dX11_make_91 : decode cX11_make 91 = .ok (.lload 8, 2) := by decide +kernel
theorem dX11_make_93 : decode cX11_make 93 = .ok (.lconst 0, 1) := by decide +kernel
theorem dX11_make_94 : decode cX11_make 94 = .ok (.lcmp, 1) := by decide +kernel
theorem dX11_make_95 : decode cX11_make 95 = .ok (.ifCond .eq 6, 3) := by decide +kernel
theorem dX11_make_98 : decode cX11_make 98 = .ok (.lload 8, 2) := by decide +kernel
theorem dX11_make_100 : decode cX11_make 100 = .ok (.lreturn, 1) := by decide +kernel
theorem dX11_make_101 : decode cX11_make 101 = .ok (.aload_n 0, 1) := by decide +kernel
theorem dX11_make_102 : decode cX11_make 102 = .ok (.getfield 162, 3) := by decide +kernel
theorem dX11_make_105 : decode cX11_make 105 = .ok (.bipush 48, 2) := by decide +kernel
theorem dX11_make_107 : decode cX11_make 107 = .ok (.if_icmp .ne 7, 3) := by decide +kernel
theorem dX11_make_110 : decode cX11_make 110 = .ok (.ldc2_w 336, 3) := by decide +kernel
theorem dX11_make_113 : decode cX11_make 113 = .ok (.lreturn, 1) := by decide +kernel
theorem dX11_make_114 : decode cX11_make 114 = .ok (.iload 7, 2) := by decide +kernel
theorem dX11_make_116 : decode cX11_make 116 = .ok (.ifCond .eq 13, 3) := by decide +kernel
theorem dX11_make_119 : decode cX11_make 119 = .ok (.aload_n 0, 1) := by decide +kernel
theorem dX11_make_120 : decode cX11_make 120 = .ok (.iload_n 1, 1) := by decide +kernel
theorem dX11_make_121 : decode cX11_make 121 = .ok (.iload_n 2, 1) := by decide +kernel
theorem dX11_make_122 : decode cX11_make 122 = .ok (.iload_n 3, 1) := by decide +kernel
theorem dX11_make_123 : decode cX11_make 123 = .ok (.iload 4, 2) := by decide +kernel
theorem dX11_make_125 : decode cX11_make 125 = .ok (.invokevirtual 338, 3) := by decide +kernel
theorem dX11_make_128 : decode cX11_make 128 = .ok (.lreturn, 1) := by decide +kernel
theorem dX11_make_129 : decode cX11_make 129 = .ok (.aload_n 0, 1) := by decide +kernel
theorem dX11_make_130 : decode cX11_make 130 = .ok (.aload_n 0, 1) := by decide +kernel
theorem dX11_make_131 : decode cX11_make 131 = .ok (.aload_n 0, 1) := by decide +kernel
theorem dX11_make_132 : decode cX11_make 132 = .ok (.iload_n 1, 1) := by decide +kernel
theorem dX11_make_133 : decode cX11_make 133 = .ok (.invokevirtual 180, 3) := by decide +kernel
theorem dX11_make_136 : decode cX11_make 136 = .ok (.iload_n 2, 1) := by decide +kernel
theorem dX11_make_137 : decode cX11_make 137 = .ok (.aload_n 0, 1) := by decide +kernel
theorem dX11_make_138 : decode cX11_make 138 = .ok (.getfield 116, 3) := by decide +kernel
theorem dX11_make_141 : decode cX11_make 141 = .ok (.invokevirtual 323, 3) := by decide +kernel
theorem dX11_make_144 : decode cX11_make 144 = .ok (.putfield 289, 3) := by decide +kernel
theorem dX11_make_147 : decode cX11_make 147 = .ok (.aload_n 0, 1) := by decide +kernel
theorem dX11_make_148 : decode cX11_make 148 = .ok (.iload_n 2, 1) := by decide +kernel
theorem dX11_make_149 : decode cX11_make 149 = .ok (.iload_n 3, 1) := by decide +kernel
theorem dX11_make_150 : decode cX11_make 150 = .ok (.iload 4, 2) := by decide +kernel
theorem dX11_make_152 : decode cX11_make 152 = .ok (.invokevirtual 342, 3) := by decide +kernel
theorem dX11_make_155 : decode cX11_make 155 = .ok (.istore 10, 2) := by decide +kernel
theorem dX11_make_157 : decode cX11_make 157 = .ok (.aload_n 0, 1) := by decide +kernel
theorem dX11_make_158 : decode cX11_make 158 = .ok (.iload_n 2, 1) := by decide +kernel
theorem dX11_make_159 : decode cX11_make 159 = .ok (.iload 10, 2) := by decide +kernel
theorem dX11_make_161 : decode cX11_make 161 = .ok (.invokevirtual 346, 3) := by decide +kernel
theorem dX11_make_164 : decode cX11_make 164 = .ok (.aload_n 0, 1) := by decide +kernel
theorem dX11_make_165 : decode cX11_make 165 = .ok (.getfield 65, 3) := by decide +kernel
theorem dX11_make_168 : decode cX11_make 168 = .ok (.bipush 48, 2) := by decide +kernel
theorem dX11_make_170 : decode cX11_make 170 = .ok (.iload_n 1, 1) := by decide +kernel
theorem dX11_make_171 : decode cX11_make 171 = .ok (.imul, 1) := by decide +kernel
theorem dX11_make_172 : decode cX11_make 172 = .ok (.iload_n 2, 1) := by decide +kernel
theorem dX11_make_173 : decode cX11_make 173 = .ok (.iadd, 1) := by decide +kernel
theorem dX11_make_174 : decode cX11_make 174 = .ok (.baload, 1) := by decide +kernel
theorem dX11_make_175 : decode cX11_make 175 = .ok (.ifCond .eq 16, 3) := by decide +kernel
theorem dX11_make_178 : decode cX11_make 178 = .ok (.aload_n 0, 1) := by decide +kernel
theorem dX11_make_179 : decode cX11_make 179 = .ok (.getfield 89, 3) := by decide +kernel
theorem dX11_make_182 : decode cX11_make 182 = .ok (.bipush 48, 2) := by decide +kernel
theorem dX11_make_184 : decode cX11_make 184 = .ok (.iload_n 1, 1) := by decide +kernel
theorem dX11_make_185 : decode cX11_make 185 = .ok (.imul, 1) := by decide +kernel
theorem dX11_make_186 : decode cX11_make 186 = .ok (.iload 10, 2) := by decide +kernel
theorem dX11_make_188 : decode cX11_make 188 = .ok (.iadd, 1) := by decide +kernel
theorem dX11_make_189 : decode cX11_make 189 = .ok (.iconst 1, 1) := by decide +kernel
theorem dX11_make_190 : decode cX11_make 190 = .ok (.iastore, 1) := by decide +kernel
theorem dX11_make_191 : decode cX11_make 191 = .ok (.aload_n 0, 1) := by decide +kernel
theorem dX11_make_192 : decode cX11_make 192 = .ok (.iload_n 1, 1) := by decide +kernel
theorem dX11_make_193 : decode cX11_make 193 = .ok (.iload_n 2, 1) := by decide +kernel
theorem dX11_make_194 : decode cX11_make 194 = .ok (.invokevirtual 330, 3) := by decide +kernel
theorem dX11_make_197 : decode cX11_make 197 = .ok (.aload_n 0, 1) := by decide +kernel
theorem dX11_make_198 : decode cX11_make 198 = .ok (.iload_n 1, 1) := by decide +kernel
theorem dX11_make_199 : decode cX11_make 199 = .ok (.aload_n 0, 1) := by decide +kernel
theorem dX11_make_200 : decode cX11_make 200 = .ok (.iload 10, 2) := by decide +kernel
theorem dX11_make_202 : decode cX11_make 202 = .ok (.iconst 0, 1) := by decide +kernel
theorem dX11_make_203 : decode cX11_make 203 = .ok (.invokevirtual 204, 3) := by decide +kernel
theorem dX11_make_206 : decode cX11_make 206 = .ok (.iload 10, 2) := by decide +kernel
theorem dX11_make_208 : decode cX11_make 208 = .ok (.bipush 10, 2) := by decide +kernel
theorem dX11_make_210 : decode cX11_make 210 = .ok (.invokevirtual 269, 3) := by decide +kernel
theorem dX11_make_213 : decode cX11_make 213 = .ok (.ifCond .eq 26, 3) := by decide +kernel
theorem dX11_make_216 : decode cX11_make 216 = .ok (.aload_n 0, 1) := by decide +kernel
theorem dX11_make_217 : decode cX11_make 217 = .ok (.iload_n 1, 1) := by decide +kernel
theorem dX11_make_218 : decode cX11_make 218 = .ok (.iload 10, 2) := by decide +kernel
theorem dX11_make_220 : decode cX11_make 220 = .ok (.invokevirtual 349, 3) := by decide +kernel
theorem dX11_make_223 : decode cX11_make 223 = .ok (.aload_n 0, 1) := by decide +kernel
theorem dX11_make_224 : decode cX11_make 224 = .ok (.getfield 77, 3) := by decide +kernel
theorem dX11_make_227 : decode cX11_make 227 = .ok (.bipush 48, 2) := by decide +kernel
theorem dX11_make_229 : decode cX11_make 229 = .ok (.iload_n 1, 1) := by decide +kernel
theorem dX11_make_230 : decode cX11_make 230 = .ok (.imul, 1) := by decide +kernel
theorem dX11_make_231 : decode cX11_make 231 = .ok (.iload 10, 2) := by decide +kernel
theorem dX11_make_233 : decode cX11_make 233 = .ok (.iadd, 1) := by decide +kernel
theorem dX11_make_234 : decode cX11_make 234 = .ok (.aload_n 0, 1) := by decide +kernel
theorem dX11_make_235 : decode cX11_make 235 = .ok (.getfield 289, 3) := by decide +kernel
theorem dX11_make_238 : decode cX11_make 238 = .ok (.iastore, 1) := by decide +kernel
theorem dX11_make_239 : decode cX11_make 239 = .ok (.iload 10, 2) := by decide +kernel
theorem dX11_make_241 : decode cX11_make 241 = .ok (.i2l, 1) := by decide +kernel
theorem dX11_make_242 : decode cX11_make 242 = .ok (.lreturn, 1) := by decide +kernel
def f_X11_make (M : gM) (a1 : Int32) (a2 : Int32) (a3 : Int32) (a4 : Int32) : Option (Int64 × gM) :=
  o1 (f_X11_isClient M a1) (fun v2 => jn (fun (q : (Int32 × gM)) => match q with | (b3, M4) => lt (gset M4 m_o 66 b3) (fun M5 => lt (M5 m_o 66) (fun v6 => (if v6 ≤ 0 then o1 (f_X11_kindOf M5 a2 (1 : Int32)) (fun v9 => (if (lg_cmp v9 (0 : Int64)) = 0 then lt (M5 m_o 33) (fun v11 => lt (gset M5 m_o 33 (v11 + (1 : Int32))) (fun M12 => o1 (f_X11_isAlone M12 a1) (fun v14 => ob (f_X11_get M12 a1 a2 (10 : Int32)) (fun v17 M16 => (if (lg_cmp v17 (0 : Int64)) = 0 then lt (M16 m_o 6) (fun v19 => (if v19 = (48 : Int32) then some ((-2199023255557 : Int64), M16) else (if v14 = 0 then o1 (f_X11_nearSet M16 a1) (fun v23 => o1 (f_X11_setOf M16 v23 a2 m_gotVector) (fun v25 => lt (gset M16 m_o 51 v25) (fun M26 => ob (f_X11_newObject M26 a2 a3 a4) (fun v29 M28 => o1 (f_X11_putEntry M28 a2 v29) (fun M31 => rd M31 m_kept 192 (((48 : Int32) * a1) + a2) (fun v32 => jn (fun (M33 : gM) => o1 (f_X11_follow M33 a1 a2) (fun M35 => o1 (f_X11_weight M35 v29 (0 : Int32)) (fun v37 => ob (f_X11_makeRoom M35 a1 v37 v29 (10 : Int32)) (fun v40 M39 => (if v40 = 0 then some (v29.toInt64, M39) else o1 (f_X11_keepNew M39 a1 v29) (fun M43 => lt (M43 m_o 51) (fun v44 => wr M43 m_promised 192 (((48 : Int32) * a1) + v29) v44 (fun M45 => some (v29.toInt64, M45))))))))) (fun J191 => (if v32 = 0 then J191 M31 else wr M31 m_keptEntry 192 (((48 : Int32) * a1) + v29) (1 : Int32) (fun M47 => J191 M47))))))))) else ob (f_X11_makeAlone M16 a1 a2 a3 a4) (fun v50 M49 => some (v50, M49))))) else some (v17, M16)))))) else some (v9, M5))) else some ((0 : Int64), M5))))) (fun J34 => jn (fun (M51 : gM) => J34 ((1 : Int32), M51)) (fun J15 => (if v2 = 0 then J15 M else o1 (f_X11_isObject M a2) (fun v54 => (if v54 = 0 then J15 M else o1 (f_X11_in M a3 (0 : Int32) (15 : Int32)) (fun v57 => (if v57 = 0 then J34 ((2 : Int32), M) else J34 ((0 : Int32), M)))))))))
set_option maxHeartbeats 4000000 in
set_option maxRecDepth 100000 in
theorem t_X11_make (l : Launch) (D : va_G) (dA : Nat → ClassId) (A : gI → Nat) (hJ : gJ mLive A) {M : gM} {a1 : Int32} {a2 : Int32} {a3 : Int32} {a4 : Int32}  {y : (Int64 × gM)} (h : f_X11_make M a1 a2 a3 a4 = some y) : mMl l yX11_make wsX11_make ({ frames := 5, cells := 0, slots := 0, locals := 129 } : Room) D dA A [.ref (A m_o), .int a1, .int a2, .int a3, .int a4] M y.1 y.2 := by
  refine Met.ofW (cc := cX11_make) (maxL := 11) (ret := (some .long)) (by decide) rfl ?_
  intro p e s m args below meth c s₁ B hml hv
  obtain ⟨rfl, hP, hK⟩ := hv
  generalize hargs : ([.ref (A m_o), .int a1, .int a2, .int a3, .int a4] : List Value).toArray = args at B ⊢
  have S : CallFix p m c cX11_make 11 s args wsX11_make RX11 := ⟨B.exec, B.bytes, hml, findClass_of_methodNamed B.named, atoms_spec (ws := wsX11_make) B.pre⟩
  obtain ⟨hx, hb, -, hown, hts⟩ := id S
  have hr := B.returns
  have hlocks := B.notSynchronized
  have X : gX D vwCl dA mLive A (gA mLive A) s := ⟨hK, hJ, fun i hi => ⟨i, hi, rfl⟩⟩
  have Z : gZ D mLay dA mLive A (gA mLive A) s.heap M s.heap [] := ⟨hP, va_S.rf⟩
  have hin : ∀ w ∈ wsX110, w ∈ wsX11_make := fun w h => List.mem_cons_of_mem _ (List.mem_append_right _ h)
  have hl_65 := hts (.fieldLink RX11 65 "ReplicaFilesModel" "kept" "[Z") (by decide +kernel)
  have hl_77 := hts (.fieldLink RX11 77 "ReplicaFilesModel" "promised" "[I") (by decide +kernel)
  have hl_89 := hts (.fieldLink RX11 89 "ReplicaFilesModel" "keptEntry" "[I") (by decide +kernel)
  have hl_116 := hts (.fieldLink RX11 116 "ReplicaFilesModel" "gotVector" "[I") (by decide +kernel)
  have hl_162 := hts (.fieldLink RX11 162 "ReplicaFilesModel" "made" "I") (by decide +kernel)
  have hl_165 := hts (.fieldLink RX11 165 "ReplicaFilesModel" "thrown" "I") (by decide +kernel)
  have hl_211 := hts (.fieldLink RX11 211 "ReplicaFilesModel" "call" "I") (by decide +kernel)
  have hl_289 := hts (.fieldLink RX11 289 "ReplicaFilesModel" "set" "I") (by decide +kernel)
  have hc_336 := hts (.constantLong RX11 336 (-2199023255557)) (by decide +kernel)
  have hl := lv_entry ([.ref (A m_o), .int a1, .int a2, .int a3, .int a4]) (n := 11) (Nat.le_of_ble_eq_true rfl)
  rw [← hargs, lg_entry_eq, hargs]
  generalize (lg_sl ([.ref (A m_o), .int a1, .int a2, .int a3, .int a4]) ++ List.replicate (11 - (lg_sl ([.ref (A m_o), .int a1, .int a2, .int a3, .int a4])).length) Slot.unset).toArray = ls at hl ⊢
  have hl : lv_has ls 11 [(0, .ref (A m_o)), (1, .int a1), (2, .int a2), (3, .int a3), (4, .int a4)] := hl
  unfold f_X11_make at h
  refine lv_aload_n hx hb dX11_make_0 rfl (lv_at hl 0 rfl) ?_
  refine lv_iload_n hx hb dX11_make_1 rfl (lv_at hl 1 rfl) ?_
  obtain ⟨v2, hc1, h⟩ := o1_e h
  refine g_Si (As := [.int a1]) (rest := [.ref (A m_o)]) S X Z (t_X11_isClient l D dA A hJ  hc1) (va_cwS 1 hts gX11_make_X11_isClient rfl rfl rfl (by decide +kernel) ⟨Nat.le_of_ble_eq_true rfl, Nat.le_of_ble_eq_true rfl⟩) rfl hl.1 rfl (Nat.le_of_ble_eq_true rfl) dX11_make_2 ⟨Nat.zero_le _, Nat.zero_le _⟩ (fun H locs Z => ?_)
  obtain ⟨J34, eJ34, h⟩ := jn_e h
  have hJ34 : ∀ (b3 : Int32) (M4 : gM) (H : Heap) (locs : List Loc) (ls : Array Slot), gZ D mLay dA mLive A (gA mLive A) s.heap M4 H locs → lv_has ls 11 [(0, .ref (A m_o)), (1, .int a1), (2, .int a2), (3, .int a3), (4, .int a4)] → J34 (b3, M4) = some y → W p l e (headSpec wsX11_make ({ frames := 5, cells := 0, slots := 0, locals := 129 } : Room)).room s m args below meth c H locs 0 0 (MQ below (mQl D dA A y) args s 0 0 (gA mLive A)) (F0 m 34 ls [.int b3, .ref (A m_o)]) := by
    intro b3 M4 H locs ls Z hl h
    rw [eJ34] at h
    try dsimp only at h
    refine mp_thrown S X Z hin hl_165 dX11_make_34 h (fun M5 H locs Z h => ?_)
    refine lv_aload_n hx hb dX11_make_37 rfl (lv_at hl 0 rfl) ?_
    refine mr_thrown S X Z hin hl_165 dX11_make_38 h (fun v6 h => ?_)
    refine lv_if_le (tgt := 46) hx hb dX11_make_41 (by decide) (fun c7 => ?_) (fun c7 => ?_)
    · have h := if_t c7 h
      refine lv_aload_n hx hb dX11_make_46 rfl (lv_at hl 0 rfl) ?_
      refine lv_iload_n hx hb dX11_make_47 rfl (lv_at hl 2 rfl) ?_
      refine lv_iconst (v := (1 : Int32)) hx hb dX11_make_48 (by decide) ?_
      obtain ⟨v9, hc8, h⟩ := o1_e h
      refine g_Vl (As := [.int a2, .int (1 : Int32)]) (rest := []) S X Z mlv_o rfl rfl (t_X11_kindOf l D dA A hJ  hc8) (cwV 2 hts gX11_make_X11_kindOf rfl rfl rfl (by decide +kernel) ⟨Nat.le_of_ble_eq_true rfl, Nat.le_of_ble_eq_true rfl⟩) rfl hl.1 rfl (Nat.le_of_ble_eq_true rfl) dX11_make_49 ⟨Nat.zero_le _, Nat.zero_le _⟩ (fun H locs Z => ?_)
      refine lv_lstore (lv' := [(5, .long v9), (0, .ref (A m_o)), (1, .int a1), (2, .int a2), (3, .int a3), (4, .int a4)]) hx hb dX11_make_52 hl (by decide) rfl (fun ls hl => ?_)
      refine lv_lload hx hb dX11_make_54 (lv_at hl 0 rfl) ?_
      refine lv_lconst (v := (0 : Int64)) hx hb dX11_make_56 (by decide) ?_
      refine W.lcmp hx hb dX11_make_57 ?_
      refine lv_if_eq (tgt := 64) hx hb dX11_make_58 (by decide) (fun c10 => ?_) (fun c10 => ?_)
      · have h := if_t c10 h
        refine lv_aload_n hx hb dX11_make_64 rfl (lv_at hl 1 rfl) ?_
        refine lv_dup hx hb dX11_make_65 rfl ?_
        refine mr_call S X Z hin hl_211 dX11_make_66 h (fun v11 h => ?_)
        refine lv_iconst (v := (1 : Int32)) hx hb dX11_make_69 (by decide) ?_
        refine lv_iadd hx hb dX11_make_70 ?_
        refine mp_call S X Z hin hl_211 dX11_make_71 h (fun M12 H locs Z h => ?_)
        refine lv_aload_n hx hb dX11_make_74 rfl (lv_at hl 1 rfl) ?_
        refine lv_iload_n hx hb dX11_make_75 rfl (lv_at hl 2 rfl) ?_
        obtain ⟨v14, hc13, h⟩ := o1_e h
        refine g_Vi (As := [.int a1]) (rest := []) S X Z mlv_o rfl rfl (t_X11_isAlone l D dA A hJ  hc13) (cwV 1 hts gX11_make_X11_isAlone rfl rfl rfl (by decide +kernel) ⟨Nat.le_of_ble_eq_true rfl, Nat.le_of_ble_eq_true rfl⟩) rfl hl.1 rfl (Nat.le_of_ble_eq_true rfl) dX11_make_76 ⟨Nat.zero_le _, Nat.zero_le _⟩ (fun H locs Z => ?_)
        refine lv_istore (lv' := [(7, .int v14), (5, .long v9), (0, .ref (A m_o)), (1, .int a1), (2, .int a2), (3, .int a3), (4, .int a4)]) hx hb dX11_make_79 hl (by decide) rfl (fun ls hl => ?_)
        refine lv_aload_n hx hb dX11_make_81 rfl (lv_at hl 2 rfl) ?_
        refine lv_iload_n hx hb dX11_make_82 rfl (lv_at hl 3 rfl) ?_
        refine lv_iload_n hx hb dX11_make_83 rfl (lv_at hl 4 rfl) ?_
        refine lv_bipush (v := (10 : Int32)) hx hb dX11_make_84 (by decide) ?_
        obtain ⟨v17, M16, hc15, h⟩ := ob_e h
        refine g_Vl (As := [.int a1, .int a2, .int (10 : Int32)]) (rest := []) S X Z mlv_o rfl rfl (t_X11_get l D dA A hJ  hc15) (cwV 3 hts gX11_make_X11_get rfl rfl rfl (by decide +kernel) ⟨Nat.le_of_ble_eq_true rfl, Nat.le_of_ble_eq_true rfl⟩) rfl hl.1 rfl (Nat.le_of_ble_eq_true rfl) dX11_make_86 ⟨Nat.zero_le _, Nat.zero_le _⟩ (fun H locs Z => ?_)
        refine lv_lstore (lv' := [(8, .long v17), (7, .int v14), (5, .long v9), (0, .ref (A m_o)), (1, .int a1), (2, .int a2), (3, .int a3), (4, .int a4)]) hx hb dX11_make_89 hl (by decide) rfl (fun ls hl => ?_)
        refine lv_lload hx hb dX11_make_91 (lv_at hl 0 rfl) ?_
        refine lv_lconst (v := (0 : Int64)) hx hb dX11_make_93 (by decide) ?_
        refine W.lcmp hx hb dX11_make_94 ?_
        refine lv_if_eq (tgt := 101) hx hb dX11_make_95 (by decide) (fun c18 => ?_) (fun c18 => ?_)
        · have h := if_t c18 h
          refine lv_aload_n hx hb dX11_make_101 rfl (lv_at hl 3 rfl) ?_
          refine mr_made S X Z hin hl_162 dX11_make_102 h (fun v19 h => ?_)
          refine lv_bipush (v := (48 : Int32)) hx hb dX11_make_105 (by decide) ?_
          refine lv_icmp_ne (tgt := 114) hx hb dX11_make_107 (by decide) (fun c20 => ?_) (fun c20 => ?_)
          · have h := if_f c20 h
            refine lv_iload hx hb dX11_make_114 (lv_at hl 1 rfl) ?_
            refine lv_if_eq (tgt := 129) hx hb dX11_make_116 (by decide) (fun c21 => ?_) (fun c21 => ?_)
            · have h := if_t c21 h
              refine lv_aload_n hx hb dX11_make_129 rfl (lv_at hl 3 rfl) ?_
              refine lv_aload_n hx hb dX11_make_130 rfl (lv_at hl 3 rfl) ?_
              refine lv_aload_n hx hb dX11_make_131 rfl (lv_at hl 3 rfl) ?_
              refine lv_iload_n hx hb dX11_make_132 rfl (lv_at hl 4 rfl) ?_
              obtain ⟨v23, hc22, h⟩ := o1_e h
              refine g_Vi (As := [.int a1]) (rest := [.ref (A m_o), .ref (A m_o)]) S X Z mlv_o rfl rfl (t_X11_nearSet l D dA A hJ  hc22) (cwV 1 hts gX11_make_X11_nearSet rfl rfl rfl (by decide +kernel) ⟨Nat.le_of_ble_eq_true rfl, Nat.le_of_ble_eq_true rfl⟩) rfl hl.1 rfl (Nat.le_of_ble_eq_true rfl) dX11_make_133 ⟨Nat.zero_le _, Nat.zero_le _⟩ (fun H locs Z => ?_)
              refine lv_iload_n hx hb dX11_make_136 rfl (lv_at hl 5 rfl) ?_
              refine lv_aload_n hx hb dX11_make_137 rfl (lv_at hl 3 rfl) ?_
              refine mr_gotVector S X Z hin hl_116 dX11_make_138 ?_
              obtain ⟨v25, hc24, h⟩ := o1_e h
              refine g_Vi (As := [.int v23, .int a2, .ref (A m_gotVector)]) (rest := [.ref (A m_o)]) S X Z mlv_o rfl rfl (t_X11_setOf l D dA A hJ ⟨ml_gotVector, rfl⟩ hc24) (cwV 3 hts gX11_make_X11_setOf rfl rfl rfl (by decide +kernel) ⟨Nat.le_of_ble_eq_true rfl, Nat.le_of_ble_eq_true rfl⟩) rfl hl.1 rfl (Nat.le_of_ble_eq_true rfl) dX11_make_141 ⟨Nat.zero_le _, Nat.zero_le _⟩ (fun H locs Z => ?_)
              refine mp_set S X Z hin hl_289 dX11_make_144 h (fun M26 H locs Z h => ?_)
              refine lv_aload_n hx hb dX11_make_147 rfl (lv_at hl 3 rfl) ?_
              refine lv_iload_n hx hb dX11_make_148 rfl (lv_at hl 5 rfl) ?_
              refine lv_iload_n hx hb dX11_make_149 rfl (lv_at hl 6 rfl) ?_
              refine lv_iload hx hb dX11_make_150 (lv_at hl 7 rfl) ?_
              obtain ⟨v29, M28, hc27, h⟩ := ob_e h
              refine g_Vi (As := [.int a2, .int a3, .int a4]) (rest := []) S X Z mlv_o rfl rfl (t_X11_newObject l D dA A hJ  hc27) (cwV 3 hts gX11_make_X11_newObject rfl rfl rfl (by decide +kernel) ⟨Nat.le_of_ble_eq_true rfl, Nat.le_of_ble_eq_true rfl⟩) rfl hl.1 rfl (Nat.le_of_ble_eq_true rfl) dX11_make_152 ⟨Nat.zero_le _, Nat.zero_le _⟩ (fun H locs Z => ?_)
              refine lv_istore (lv' := [(10, .int v29), (8, .long v17), (7, .int v14), (5, .long v9), (0, .ref (A m_o)), (1, .int a1), (2, .int a2), (3, .int a3), (4, .int a4)]) hx hb dX11_make_155 hl (by decide) rfl (fun ls hl => ?_)
              refine lv_aload_n hx hb dX11_make_157 rfl (lv_at hl 4 rfl) ?_
              refine lv_iload_n hx hb dX11_make_158 rfl (lv_at hl 6 rfl) ?_
              refine lv_iload hx hb dX11_make_159 (lv_at hl 0 rfl) ?_
              obtain ⟨M31, hc30, h⟩ := o1_e h
              refine g_Vv (As := [.int a2, .int v29]) (rest := []) S X Z mlv_o rfl rfl (t_X11_putEntry l D dA A hJ  hc30) (cwV 2 hts gX11_make_X11_putEntry rfl rfl rfl (by decide +kernel) ⟨Nat.le_of_ble_eq_true rfl, Nat.le_of_ble_eq_true rfl⟩) rfl hl.1 rfl (Nat.le_of_ble_eq_true rfl) dX11_make_161 ⟨Nat.zero_le _, Nat.zero_le _⟩ (fun H locs Z => ?_)
              refine lv_aload_n hx hb dX11_make_164 rfl (lv_at hl 4 rfl) ?_
              refine mr_kept S X Z hin hl_65 dX11_make_165 ?_
              refine lv_bipush (v := (48 : Int32)) hx hb dX11_make_168 (by decide) ?_
              refine lv_iload_n hx hb dX11_make_170 rfl (lv_at hl 5 rfl) ?_
              refine lv_imul hx hb dX11_make_171 ?_
              refine lv_iload_n hx hb dX11_make_172 rfl (lv_at hl 6 rfl) ?_
              refine lv_iadd hx hb dX11_make_173 ?_
              refine g_zald S X Z ml_kept rfl dX11_make_174 h (fun v32 h => ?_)
              obtain ⟨J191, eJ191, h⟩ := jn_e h
              have hJ191 : ∀ (M33 : gM) (H : Heap) (locs : List Loc) (ls : Array Slot), gZ D mLay dA mLive A (gA mLive A) s.heap M33 H locs → lv_has ls 11 [(0, .ref (A m_o)), (1, .int a1), (2, .int a2), (10, .int v29)] → J191 M33 = some y → W p l e (headSpec wsX11_make ({ frames := 5, cells := 0, slots := 0, locals := 129 } : Room)).room s m args below meth c H locs 0 0 (MQ below (mQl D dA A y) args s 0 0 (gA mLive A)) (F0 m 191 ls []) := by
                intro M33 H locs ls Z hl h
                rw [eJ191] at h
                try dsimp only at h
                refine lv_aload_n hx hb dX11_make_191 rfl (lv_at hl 0 rfl) ?_
                refine lv_iload_n hx hb dX11_make_192 rfl (lv_at hl 1 rfl) ?_
                refine lv_iload_n hx hb dX11_make_193 rfl (lv_at hl 2 rfl) ?_
                obtain ⟨M35, hc34, h⟩ := o1_e h
                refine g_Vv (As := [.int a1, .int a2]) (rest := []) S X Z mlv_o rfl rfl (t_X11_follow l D dA A hJ  hc34) (cwV 2 hts gX11_make_X11_follow rfl rfl rfl (by decide +kernel) ⟨Nat.le_of_ble_eq_true rfl, Nat.le_of_ble_eq_true rfl⟩) rfl hl.1 rfl (Nat.le_of_ble_eq_true rfl) dX11_make_194 ⟨Nat.zero_le _, Nat.zero_le _⟩ (fun H locs Z => ?_)
                refine lv_aload_n hx hb dX11_make_197 rfl (lv_at hl 0 rfl) ?_
                refine lv_iload_n hx hb dX11_make_198 rfl (lv_at hl 1 rfl) ?_
                refine lv_aload_n hx hb dX11_make_199 rfl (lv_at hl 0 rfl) ?_
                refine lv_iload hx hb dX11_make_200 (lv_at hl 3 rfl) ?_
                refine lv_iconst (v := (0 : Int32)) hx hb dX11_make_202 (by decide) ?_
                obtain ⟨v37, hc36, h⟩ := o1_e h
                refine g_Vi (As := [.int v29, .int (0 : Int32)]) (rest := [.int a1, .ref (A m_o)]) S X Z mlv_o rfl rfl (t_X11_weight l D dA A hJ  hc36) (cwV 2 hts gX11_make_X11_weight rfl rfl rfl (by decide +kernel) ⟨Nat.le_of_ble_eq_true rfl, Nat.le_of_ble_eq_true rfl⟩) rfl hl.1 rfl (Nat.le_of_ble_eq_true rfl) dX11_make_203 ⟨Nat.zero_le _, Nat.zero_le _⟩ (fun H locs Z => ?_)
                refine lv_iload hx hb dX11_make_206 (lv_at hl 3 rfl) ?_
                refine lv_bipush (v := (10 : Int32)) hx hb dX11_make_208 (by decide) ?_
                obtain ⟨v40, M39, hc38, h⟩ := ob_e h
                refine g_Vi (As := [.int a1, .int v37, .int v29, .int (10 : Int32)]) (rest := []) S X Z mlv_o rfl rfl (t_X11_makeRoom l D dA A hJ  hc38) (cwV 4 hts gX11_make_X11_makeRoom rfl rfl rfl (by decide +kernel) ⟨Nat.le_of_ble_eq_true rfl, Nat.le_of_ble_eq_true rfl⟩) rfl hl.1 rfl (Nat.le_of_ble_eq_true rfl) dX11_make_210 ⟨Nat.zero_le _, Nat.zero_le _⟩ (fun H locs Z => ?_)
                refine lv_if_eq (tgt := 239) hx hb dX11_make_213 (by decide) (fun c41 => ?_) (fun c41 => ?_)
                · have h := if_t c41 h
                  refine lv_iload hx hb dX11_make_239 (lv_at hl 3 rfl) ?_
                  refine lv_i2l hx hb dX11_make_241 rfl ?_
                  have hy := Option.some.inj h
                  subst hy
                  exact g_rl S Z hr hlocks dX11_make_242
                · have h := if_f c41 h
                  refine lv_aload_n hx hb dX11_make_216 rfl (lv_at hl 0 rfl) ?_
                  refine lv_iload_n hx hb dX11_make_217 rfl (lv_at hl 1 rfl) ?_
                  refine lv_iload hx hb dX11_make_218 (lv_at hl 3 rfl) ?_
                  obtain ⟨M43, hc42, h⟩ := o1_e h
                  refine g_Vv (As := [.int a1, .int v29]) (rest := []) S X Z mlv_o rfl rfl (t_X11_keepNew l D dA A hJ  hc42) (cwV 2 hts gX11_make_X11_keepNew rfl rfl rfl (by decide +kernel) ⟨Nat.le_of_ble_eq_true rfl, Nat.le_of_ble_eq_true rfl⟩) rfl hl.1 rfl (Nat.le_of_ble_eq_true rfl) dX11_make_220 ⟨Nat.zero_le _, Nat.zero_le _⟩ (fun H locs Z => ?_)
                  refine lv_aload_n hx hb dX11_make_223 rfl (lv_at hl 0 rfl) ?_
                  refine mr_promised S X Z hin hl_77 dX11_make_224 ?_
                  refine lv_bipush (v := (48 : Int32)) hx hb dX11_make_227 (by decide) ?_
                  refine lv_iload_n hx hb dX11_make_229 rfl (lv_at hl 1 rfl) ?_
                  refine lv_imul hx hb dX11_make_230 ?_
                  refine lv_iload hx hb dX11_make_231 (lv_at hl 3 rfl) ?_
                  refine lv_iadd hx hb dX11_make_233 ?_
                  refine lv_aload_n hx hb dX11_make_234 rfl (lv_at hl 0 rfl) ?_
                  refine mr_set S X Z hin hl_289 dX11_make_235 h (fun v44 h => ?_)
                  refine g_iast S X Z ml_promised rfl dX11_make_238 h (fun M45 H locs Z h => ?_)
                  refine lv_iload hx hb dX11_make_239 (lv_at hl 3 rfl) ?_
                  refine lv_i2l hx hb dX11_make_241 rfl ?_
                  have hy := Option.some.inj h
                  subst hy
                  exact g_rl S Z hr hlocks dX11_make_242
              refine lv_if_eq (tgt := 191) hx hb dX11_make_175 (by decide) (fun c46 => ?_) (fun c46 => ?_)
              · have h := if_t c46 h
                exact hJ191 M31 _ _ _ Z (lv_sub hl [4, 5, 6, 0] rfl) h
              · have h := if_f c46 h
                refine lv_aload_n hx hb dX11_make_178 rfl (lv_at hl 4 rfl) ?_
                refine mr_keptEntry S X Z hin hl_89 dX11_make_179 ?_
                refine lv_bipush (v := (48 : Int32)) hx hb dX11_make_182 (by decide) ?_
                refine lv_iload_n hx hb dX11_make_184 rfl (lv_at hl 5 rfl) ?_
                refine lv_imul hx hb dX11_make_185 ?_
                refine lv_iload hx hb dX11_make_186 (lv_at hl 0 rfl) ?_
                refine lv_iadd hx hb dX11_make_188 ?_
                refine lv_iconst (v := (1 : Int32)) hx hb dX11_make_189 (by decide) ?_
                refine g_iast S X Z ml_keptEntry rfl dX11_make_190 h (fun M47 H locs Z h => ?_)
                exact hJ191 M47 _ _ _ Z (lv_sub hl [4, 5, 6, 0] rfl) h
            · have h := if_f c21 h
              refine lv_aload_n hx hb dX11_make_119 rfl (lv_at hl 3 rfl) ?_
              refine lv_iload_n hx hb dX11_make_120 rfl (lv_at hl 4 rfl) ?_
              refine lv_iload_n hx hb dX11_make_121 rfl (lv_at hl 5 rfl) ?_
              refine lv_iload_n hx hb dX11_make_122 rfl (lv_at hl 6 rfl) ?_
              refine lv_iload hx hb dX11_make_123 (lv_at hl 7 rfl) ?_
              obtain ⟨v50, M49, hc48, h⟩ := ob_e h
              refine g_Vl (As := [.int a1, .int a2, .int a3, .int a4]) (rest := []) S X Z mlv_o rfl rfl (t_X11_makeAlone l D dA A hJ  hc48) (cwV 4 hts gX11_make_X11_makeAlone rfl rfl rfl (by decide +kernel) ⟨Nat.le_of_ble_eq_true rfl, Nat.le_of_ble_eq_true rfl⟩) rfl hl.1 rfl (Nat.le_of_ble_eq_true rfl) dX11_make_125 ⟨Nat.zero_le _, Nat.zero_le _⟩ (fun H locs Z => ?_)
              have hy := Option.some.inj h
              subst hy
              exact g_rl S Z hr hlocks dX11_make_128
          · have h := if_t c20 h
            refine lv_ldc2 hx hb hown hc_336 dX11_make_110 ?_
            have hy := Option.some.inj h
            subst hy
            exact g_rl S Z hr hlocks dX11_make_113
        · have h := if_f c18 h
          refine lv_lload hx hb dX11_make_98 (lv_at hl 0 rfl) ?_
          have hy := Option.some.inj h
          subst hy
          exact g_rl S Z hr hlocks dX11_make_100
      · have h := if_f c10 h
        refine lv_lload hx hb dX11_make_61 (lv_at hl 0 rfl) ?_
        have hy := Option.some.inj h
        subst hy
        exact g_rl S Z hr hlocks dX11_make_63
    · have h := if_f c7 h
      refine lv_lconst (v := (0 : Int64)) hx hb dX11_make_44 (by decide) ?_
      have hy := Option.some.inj h
      subst hy
      exact g_rl S Z hr hlocks dX11_make_45
  obtain ⟨J15, eJ15, h⟩ := jn_e h
  have hJ15 : ∀ (M51 : gM) (H : Heap) (locs : List Loc) (ls : Array Slot), gZ D mLay dA mLive A (gA mLive A) s.heap M51 H locs → lv_has ls 11 [(0, .ref (A m_o)), (1, .int a1), (2, .int a2), (3, .int a3), (4, .int a4)] → J15 M51 = some y → W p l e (headSpec wsX11_make ({ frames := 5, cells := 0, slots := 0, locals := 129 } : Room)).room s m args below meth c H locs 0 0 (MQ below (mQl D dA A y) args s 0 0 (gA mLive A)) (F0 m 15 ls [.ref (A m_o)]) := by
    intro M51 H locs ls Z hl h
    rw [eJ15] at h
    try dsimp only at h
    refine lv_iconst (v := (1 : Int32)) hx hb dX11_make_15 (by decide) ?_
    refine lv_goto (tgt := 34) hx hb dX11_make_16 (by decide) ?_
    exact hJ34 (1 : Int32) M51 _ _ _ Z (lv_sub hl [0, 1, 2, 3, 4] rfl) h
  refine lv_if_eq (tgt := 15) hx hb dX11_make_5 (by decide) (fun c52 => ?_) (fun c52 => ?_)
  · have h := if_t c52 h
    exact hJ15 M _ _ _ Z (lv_sub hl [0, 1, 2, 3, 4] rfl) h
  · have h := if_f c52 h
    refine lv_iload_n hx hb dX11_make_8 rfl (lv_at hl 2 rfl) ?_
    obtain ⟨v54, hc53, h⟩ := o1_e h
    refine g_Si (As := [.int a2]) (rest := [.ref (A m_o)]) S X Z (t_X11_isObject l D dA A hJ  hc53) (va_cwS 1 hts gX11_make_X11_isObject rfl rfl rfl (by decide +kernel) ⟨Nat.le_of_ble_eq_true rfl, Nat.le_of_ble_eq_true rfl⟩) rfl hl.1 rfl (Nat.le_of_ble_eq_true rfl) dX11_make_9 ⟨Nat.zero_le _, Nat.zero_le _⟩ (fun H locs Z => ?_)
    refine lv_if_ne (tgt := 19) hx hb dX11_make_12 (by decide) (fun c55 => ?_) (fun c55 => ?_)
    · have h := if_f c55 h
      refine lv_iload_n hx hb dX11_make_19 rfl (lv_at hl 3 rfl) ?_
      refine lv_iconst (v := (0 : Int32)) hx hb dX11_make_20 (by decide) ?_
      refine lv_bipush (v := (15 : Int32)) hx hb dX11_make_21 (by decide) ?_
      obtain ⟨v57, hc56, h⟩ := o1_e h
      refine g_Si (As := [.int a3, .int (0 : Int32), .int (15 : Int32)]) (rest := [.ref (A m_o)]) S X Z (t_X11_in l D dA A hJ  hc56) (va_cwS 3 hts gX11_make_X11_in rfl rfl rfl (by decide +kernel) ⟨Nat.le_of_ble_eq_true rfl, Nat.le_of_ble_eq_true rfl⟩) rfl hl.1 rfl (Nat.le_of_ble_eq_true rfl) dX11_make_23 ⟨Nat.zero_le _, Nat.zero_le _⟩ (fun H locs Z => ?_)
      refine lv_if_eq (tgt := 33) hx hb dX11_make_26 (by decide) (fun c58 => ?_) (fun c58 => ?_)
      · have h := if_t c58 h
        refine lv_iconst (v := (2 : Int32)) hx hb dX11_make_33 (by decide) ?_
        exact hJ34 (2 : Int32) M _ _ _ Z (lv_sub hl [0, 1, 2, 3, 4] rfl) h
      · have h := if_f c58 h
        refine lv_iconst (v := (0 : Int32)) hx hb dX11_make_29 (by decide) ?_
        refine lv_goto (tgt := 34) hx hb dX11_make_30 (by decide) ?_
        exact hJ34 (0 : Int32) M _ _ _ Z (lv_sub hl [0, 1, 2, 3, 4] rfl) h
    · have h := if_t c55 h
      exact hJ15 M _ _ _ Z (lv_sub hl [0, 1, 2, 3, 4] rfl) h
-- X11_takeOut (II)V: 71 instructions
set_option maxRecDepth 20000 in
theorem ggX11_takeOut_X11_copyTo : GoodIn wsX11_takeOut wsX11_copyTo := goodIn_r _ [10] (by decide +kernel) (by decide +kernel)
set_option maxRecDepth 20000 in
theorem gX11_takeOut_X11_copyTo : GoodIn wsX11_takeOut (wsV RX11 234 RX11 yX11_copyTo wsX11_copyTo) := goodIn_app (goodIn_of _ (by decide +kernel)) ggX11_takeOut_X11_copyTo
theorem dX11_takeOut_0 : decode cX11_takeOut 0 = .ok (.iload_n 2, 1) := by decide +kernel
theorem dX11_takeOut_1 : decode cX11_takeOut 1 = .ok (.iconst (-1), 1) := by decide +kernel
theorem dX11_takeOut_2 : decode cX11_takeOut 2 = .ok (.if_icmp .ne 4, 3) := by decide +kernel
theorem dX11_takeOut_5 : decode cX11_takeOut 5 = .ok (.return_, 1) := by decide +kernel
theorem dX11_takeOut_6 : decode cX11_takeOut 6 = .ok (.iload_n 2, 1) := by decide +kernel
theorem dX11_takeOut_7 : decode cX11_takeOut 7 = .ok (.istore_n 3, 1) := by decide +kernel
theorem dX11_takeOut_8 : decode cX11_takeOut 8 = .ok (.iload_n 3, 1) := by decide +kernel
theorem dX11_takeOut_9 : decode cX11_takeOut 9 = .ok (.aload_n 0, 1) := by decide +kernel
theorem dX11_takeOut_10 : decode cX11_takeOut 10 = .ok (.getfield 98, 3) := by decide +kernel
theorem dX11_takeOut_13 : decode cX11_takeOut 13 = .ok (.iload_n 1, 1) := by decide +kernel
theorem dX11_takeOut_14 : decode cX11_takeOut 14 = .ok (.iaload, 1) := by decide +kernel
theorem dX11_takeOut_15 : decode cX11_takeOut 15 = .ok (.iconst 1, 1) := by decide +kernel
theorem dX11_takeOut_16 : decode cX11_takeOut 16 = .ok (.isub, 1) := by decide +kernel
theorem dX11_takeOut_17 : decode cX11_takeOut 17 = .ok (.if_icmp .ge 83, 3) := by decide +kernel
theorem dX11_takeOut_20 : decode cX11_takeOut 20 = .ok (.bipush 12, 2) := by decide +kernel
theorem dX11_takeOut_22 : decode cX11_takeOut 22 = .ok (.iload_n 1, 1) := by decide +kernel
theorem dX11_takeOut_23 : decode cX11_takeOut 23 = .ok (.imul, 1) := by decide +kernel
theorem dX11_takeOut_24 : decode cX11_takeOut 24 = .ok (.iload_n 3, 1) := by decide +kernel
theorem dX11_takeOut_25 : decode cX11_takeOut 25 = .ok (.iadd, 1) := by decide +kernel
theorem dX11_takeOut_26 : decode cX11_takeOut 26 = .ok (.istore 4, 2) := by decide +kernel
theorem dX11_takeOut_28 : decode cX11_takeOut 28 = .ok (.aload_n 0, 1) := by decide +kernel
theorem dX11_takeOut_29 : decode cX11_takeOut 29 = .ok (.getfield 101, 3) := by decide +kernel
theorem dX11_takeOut_32 : decode cX11_takeOut 32 = .ok (.iload 4, 2) := by decide +kernel
theorem dX11_takeOut_34 : decode cX11_takeOut 34 = .ok (.aload_n 0, 1) := by decide +kernel
theorem dX11_takeOut_35 : decode cX11_takeOut 35 = .ok (.getfield 101, 3) := by decide +kernel
theorem dX11_takeOut_38 : decode cX11_takeOut 38 = .ok (.iload 4, 2) := by decide +kernel
theorem dX11_takeOut_40 : decode cX11_takeOut 40 = .ok (.iconst 1, 1) := by decide +kernel
theorem dX11_takeOut_41 : decode cX11_takeOut 41 = .ok (.iadd, 1) := by decide +kernel
theorem dX11_takeOut_42 : decode cX11_takeOut 42 = .ok (.iaload, 1) := by decide +kernel
theorem dX11_takeOut_43 : decode cX11_takeOut 43 = .ok (.iastore, 1) := by decide +kernel
theorem dX11_takeOut_44 : decode cX11_takeOut 44 = .ok (.aload_n 0, 1) := by decide +kernel
theorem dX11_takeOut_45 : decode cX11_takeOut 45 = .ok (.getfield 104, 3) := by decide +kernel
theorem dX11_takeOut_48 : decode cX11_takeOut 48 = .ok (.iload 4, 2) := by decide +kernel
theorem dX11_takeOut_50 : decode cX11_takeOut 50 = .ok (.aload_n 0, 1) := by decide +kernel
theorem dX11_takeOut_51 : decode cX11_takeOut 51 = .ok (.getfield 104, 3) := by decide +kernel
theorem dX11_takeOut_54 : decode cX11_takeOut 54 = .ok (.iload 4, 2) := by decide +kernel
theorem dX11_takeOut_56 : decode cX11_takeOut 56 = .ok (.iconst 1, 1) := by decide +kernel
theorem dX11_takeOut_57 : decode cX11_takeOut 57 = .ok (.iadd, 1) := by decide +kernel
theorem dX11_takeOut_58 : decode cX11_takeOut 58 = .ok (.iaload, 1) := by decide +kernel
theorem dX11_takeOut_59 : decode cX11_takeOut 59 = .ok (.iastore, 1) := by decide +kernel
theorem dX11_takeOut_60 : decode cX11_takeOut 60 = .ok (.aload_n 0, 1) := by decide +kernel
theorem dX11_takeOut_61 : decode cX11_takeOut 61 = .ok (.getfield 107, 3) := by decide +kernel
theorem dX11_takeOut_64 : decode cX11_takeOut 64 = .ok (.iload 4, 2) := by decide +kernel
theorem dX11_takeOut_66 : decode cX11_takeOut 66 = .ok (.aload_n 0, 1) := by decide +kernel
theorem dX11_takeOut_67 : decode cX11_takeOut 67 = .ok (.getfield 107, 3) := by decide +kernel
theorem dX11_takeOut_70 : decode cX11_takeOut 70 = .ok (.iload 4, 2) := by decide +kernel
theorem dX11_takeOut_72 : decode cX11_takeOut 72 = .ok (.iconst 1, 1) := by decide +kernel
theorem dX11_takeOut_73 : decode cX11_takeOut 73 = .ok (.iadd, 1) := by decide +kernel
theorem dX11_takeOut_74 : decode cX11_takeOut 74 = .ok (.iaload, 1) := by decide +kernel
theorem dX11_takeOut_75 : decode cX11_takeOut 75 = .ok (.iastore, 1) := by decide +kernel
theorem dX11_takeOut_76 : decode cX11_takeOut 76 = .ok (.aload_n 0, 1) := by decide +kernel
theorem dX11_takeOut_77 : decode cX11_takeOut 77 = .ok (.aload_n 0, 1) := by decide +kernel
theorem dX11_takeOut_78 : decode cX11_takeOut 78 = .ok (.getfield 110, 3) := by decide +kernel
theorem dX11_takeOut_81 : decode cX11_takeOut 81 = .ok (.iload 4, 2) := by decide +kernel
theorem dX11_takeOut_83 : decode cX11_takeOut 83 = .ok (.iconst 1, 1) := by decide +kernel
theorem dX11_takeOut_84 : decode cX11_takeOut 84 = .ok (.iadd, 1) := by decide +kernel
theorem dX11_takeOut_85 : decode cX11_takeOut 85 = .ok (.aload_n 0, 1) := by decide +kernel
theorem dX11_takeOut_86 : decode cX11_takeOut 86 = .ok (.getfield 110, 3) := by decide +kernel
theorem dX11_takeOut_89 : decode cX11_takeOut 89 = .ok (.iload 4, 2) := by decide +kernel
theorem dX11_takeOut_91 : decode cX11_takeOut 91 = .ok (.invokevirtual 234, 3) := by decide +kernel
theorem dX11_takeOut_94 : decode cX11_takeOut 94 = .ok (.iinc 3 1, 3) := by decide +kernel
theorem dX11_takeOut_97 : decode cX11_takeOut 97 = .ok (.goto (-89), 3) := by decide +kernel
theorem dX11_takeOut_100 : decode cX11_takeOut 100 = .ok (.aload_n 0, 1) := by decide +kernel
theorem dX11_takeOut_101 : decode cX11_takeOut 101 = .ok (.getfield 98, 3) := by decide +kernel
theorem dX11_takeOut_104 : decode cX11_takeOut 104 = .ok (.iload_n 1, 1) := by decide +kernel
theorem dX11_takeOut_105 : decode cX11_takeOut 105 = .ok (.dup2, 1) := by decide +kernel
theorem dX11_takeOut_106 : decode cX11_takeOut 106 = .ok (.iaload, 1) := by decide +kernel
theorem dX11_takeOut_107 : decode cX11_takeOut 107 = .ok (.iconst 1, 1) := by decide +kernel
theorem dX11_takeOut_108 : decode cX11_takeOut 108 = .ok (.isub, 1) := by decide +kernel
theorem dX11_takeOut_109 : decode cX11_takeOut 109 = .ok (.iastore, 1) := by decide +kernel
theorem dX11_takeOut_110 : decode cX11_takeOut 110 = .ok (.return_, 1) := by decide +kernel
def f_X11_takeOut_L8 (a1 : Int32) (J100 : gM → Option gM) : Nat → Int32 → gM → Option gM
  | 0, _, _ => none
  | n7 + 1, x5, M6 => rd M6 m_records 4 a1 (fun v8 => (if (v8 - (1 : Int32)) ≤ x5 then J100 M6 else lt ((((12 : Int32) * a1) + x5)) (fun x10 => rd M6 m_recordKind 48 (x10 + (1 : Int32)) (fun v11 => wr M6 m_recordKind 48 x10 v11 (fun M12 => rd M12 m_recordObject 48 (x10 + (1 : Int32)) (fun v13 => wr M12 m_recordObject 48 x10 v13 (fun M14 => rd M14 m_recordDirectory 48 (x10 + (1 : Int32)) (fun v15 => wr M14 m_recordDirectory 48 x10 v15 (fun M16 => o1 (f_X11_copyTo M16 m_recordVector (x10 + (1 : Int32)) m_recordVector x10) (fun M18 => lt (x5 + 1) (fun x19 => f_X11_takeOut_L8 a1 J100 n7 x19 M18)))))))))))
def f_X11_takeOut (M : gM) (a1 : Int32) (a2 : Int32) : Option gM :=
  (if a2 = (-1 : Int32) then some M else jn (fun (M2 : gM) => rd M2 m_records 4 a1 (fun v3 => wr M2 m_records 4 a1 (v3 - (1 : Int32)) (fun M4 => some M4))) (fun J100 => f_X11_takeOut_L8 a1 J100 100 a2 M))
set_option maxHeartbeats 4000000 in
set_option maxRecDepth 100000 in
theorem t_X11_takeOut (l : Launch) (D : va_G) (dA : Nat → ClassId) (A : gI → Nat) (hJ : gJ mLive A) {M : gM} {a1 : Int32} {a2 : Int32}  {y : gM} (h : f_X11_takeOut M a1 a2 = some y) : mMv l yX11_takeOut wsX11_takeOut ({ frames := 1, cells := 0, slots := 0, locals := 25 } : Room) D dA A [.ref (A m_o), .int a1, .int a2] M y := by
  refine Met.ofW (cc := cX11_takeOut) (maxL := 5) (ret := none) (by decide) rfl ?_
  intro p e s m args below meth c s₁ B hml hv
  obtain ⟨rfl, hP, hK⟩ := hv
  generalize hargs : ([.ref (A m_o), .int a1, .int a2] : List Value).toArray = args at B ⊢
  have S : CallFix p m c cX11_takeOut 5 s args wsX11_takeOut RX11 := ⟨B.exec, B.bytes, hml, findClass_of_methodNamed B.named, atoms_spec (ws := wsX11_takeOut) B.pre⟩
  obtain ⟨hx, hb, -, hown, hts⟩ := id S
  have hr := B.returns
  have hlocks := B.notSynchronized
  have X : gX D vwCl dA mLive A (gA mLive A) s := ⟨hK, hJ, fun i hi => ⟨i, hi, rfl⟩⟩
  have Z : gZ D mLay dA mLive A (gA mLive A) s.heap M s.heap [] := ⟨hP, va_S.rf⟩
  have hin : ∀ w ∈ wsX110, w ∈ wsX11_takeOut := fun w h => List.mem_cons_of_mem _ (List.mem_append_right _ h)
  have hl_98 := hts (.fieldLink RX11 98 "ReplicaFilesModel" "records" "[I") (by decide +kernel)
  have hl_101 := hts (.fieldLink RX11 101 "ReplicaFilesModel" "recordKind" "[I") (by decide +kernel)
  have hl_104 := hts (.fieldLink RX11 104 "ReplicaFilesModel" "recordObject" "[I") (by decide +kernel)
  have hl_107 := hts (.fieldLink RX11 107 "ReplicaFilesModel" "recordDirectory" "[I") (by decide +kernel)
  have hl_110 := hts (.fieldLink RX11 110 "ReplicaFilesModel" "recordVector" "[I") (by decide +kernel)
  have hl := lv_entry ([.ref (A m_o), .int a1, .int a2]) (n := 5) (Nat.le_of_ble_eq_true rfl)
  rw [← hargs, lg_entry_eq, hargs]
  generalize (lg_sl ([.ref (A m_o), .int a1, .int a2]) ++ List.replicate (5 - (lg_sl ([.ref (A m_o), .int a1, .int a2])).length) Slot.unset).toArray = ls at hl ⊢
  have hl : lv_has ls 5 [(0, .ref (A m_o)), (1, .int a1), (2, .int a2)] := hl
  unfold f_X11_takeOut at h
  refine lv_iload_n hx hb dX11_takeOut_0 rfl (lv_at hl 2 rfl) ?_
  refine lv_iconst (v := (-1 : Int32)) hx hb dX11_takeOut_1 (by decide) ?_
  refine lv_icmp_ne (tgt := 6) hx hb dX11_takeOut_2 (by decide) (fun c1 => ?_) (fun c1 => ?_)
  · have h := if_f c1 h
    refine lv_iload_n hx hb dX11_takeOut_6 rfl (lv_at hl 2 rfl) ?_
    refine lv_istore_n (lv' := [(3, .int a2), (0, .ref (A m_o)), (1, .int a1), (2, .int a2)]) hx hb dX11_takeOut_7 rfl hl (by decide) rfl (fun ls hl => ?_)
    obtain ⟨J100, eJ100, h⟩ := jn_e h
    have hJ100 : ∀ (M2 : gM) (H : Heap) (locs : List Loc) (ls : Array Slot), gZ D mLay dA mLive A (gA mLive A) s.heap M2 H locs → lv_has ls 5 [(0, .ref (A m_o)), (1, .int a1)] → J100 M2 = some y → W p l e (headSpec wsX11_takeOut ({ frames := 1, cells := 0, slots := 0, locals := 25 } : Room)).room s m args below meth c H locs 0 0 (MQ below (mQv D dA A y) args s 0 0 (gA mLive A)) (F0 m 100 ls []) := by
      intro M2 H locs ls Z hl h
      rw [eJ100] at h
      try dsimp only at h
      refine lv_aload_n hx hb dX11_takeOut_100 rfl (lv_at hl 0 rfl) ?_
      refine mr_records S X Z hin hl_98 dX11_takeOut_101 ?_
      refine lv_iload_n hx hb dX11_takeOut_104 rfl (lv_at hl 1 rfl) ?_
      refine lv_dup2_11 hx hb dX11_takeOut_105 rfl rfl ?_
      refine g_iald S X Z ml_records rfl dX11_takeOut_106 h (fun v3 h => ?_)
      refine lv_iconst (v := (1 : Int32)) hx hb dX11_takeOut_107 (by decide) ?_
      refine lv_isub hx hb dX11_takeOut_108 ?_
      refine g_iast S X Z ml_records rfl dX11_takeOut_109 h (fun M4 H locs Z h => ?_)
      have hy := Option.some.inj h
      subst hy
      exact g_rv S Z hr hlocks dX11_takeOut_110
    have hL8 : ∀ (n : Nat) (x5 : Int32) (M6 : gM) (H : Heap) (locs : List Loc) (ls : Array Slot), gZ D mLay dA mLive A (gA mLive A) s.heap M6 H locs → lv_has ls 5 [(0, .ref (A m_o)), (1, .int a1), (3, .int x5)] → f_X11_takeOut_L8 a1 J100 n x5 M6 = some y → W p l e (headSpec wsX11_takeOut ({ frames := 1, cells := 0, slots := 0, locals := 25 } : Room)).room s m args below meth c H locs 0 0 (MQ below (mQv D dA A y) args s 0 0 (gA mLive A)) (F0 m 8 ls []) := by
      intro n
      induction n with
      | zero =>
        intro x5 M6 H locs ls Z hl h
        rw [f_X11_takeOut_L8] at h
        cases h
      | succ n7 ih8 =>
        intro x5 M6 H locs ls Z hl h
        rw [f_X11_takeOut_L8] at h
        refine lv_iload_n hx hb dX11_takeOut_8 rfl (lv_at hl 2 rfl) ?_
        refine lv_aload_n hx hb dX11_takeOut_9 rfl (lv_at hl 0 rfl) ?_
        refine mr_records S X Z hin hl_98 dX11_takeOut_10 ?_
        refine lv_iload_n hx hb dX11_takeOut_13 rfl (lv_at hl 1 rfl) ?_
        refine g_iald S X Z ml_records rfl dX11_takeOut_14 h (fun v8 h => ?_)
        refine lv_iconst (v := (1 : Int32)) hx hb dX11_takeOut_15 (by decide) ?_
        refine lv_isub hx hb dX11_takeOut_16 ?_
        refine lv_icmp_ge (tgt := 100) hx hb dX11_takeOut_17 (by decide) (fun c9 => ?_) (fun c9 => ?_)
        · have h := if_t c9 h
          exact hJ100 M6 _ _ _ Z (lv_sub hl [0, 1] rfl) h
        · have h := if_f c9 h
          refine lv_bipush (v := (12 : Int32)) hx hb dX11_takeOut_20 (by decide) ?_
          refine lv_iload_n hx hb dX11_takeOut_22 rfl (lv_at hl 1 rfl) ?_
          refine lv_imul hx hb dX11_takeOut_23 ?_
          refine lv_iload_n hx hb dX11_takeOut_24 rfl (lv_at hl 2 rfl) ?_
          refine lv_iadd hx hb dX11_takeOut_25 ?_
          refine g_topi h (fun x10 h => ?_)
          refine lv_istore (lv' := [(4, .int x10), (0, .ref (A m_o)), (1, .int a1), (3, .int x5)]) hx hb dX11_takeOut_26 hl (by decide) rfl (fun ls hl => ?_)
          refine lv_aload_n hx hb dX11_takeOut_28 rfl (lv_at hl 1 rfl) ?_
          refine mr_recordKind S X Z hin hl_101 dX11_takeOut_29 ?_
          refine lv_iload hx hb dX11_takeOut_32 (lv_at hl 0 rfl) ?_
          refine lv_aload_n hx hb dX11_takeOut_34 rfl (lv_at hl 1 rfl) ?_
          refine mr_recordKind S X Z hin hl_101 dX11_takeOut_35 ?_
          refine lv_iload hx hb dX11_takeOut_38 (lv_at hl 0 rfl) ?_
          refine lv_iconst (v := (1 : Int32)) hx hb dX11_takeOut_40 (by decide) ?_
          refine lv_iadd hx hb dX11_takeOut_41 ?_
          refine g_iald S X Z ml_recordKind rfl dX11_takeOut_42 h (fun v11 h => ?_)
          refine g_iast S X Z ml_recordKind rfl dX11_takeOut_43 h (fun M12 H locs Z h => ?_)
          refine lv_aload_n hx hb dX11_takeOut_44 rfl (lv_at hl 1 rfl) ?_
          refine mr_recordObject S X Z hin hl_104 dX11_takeOut_45 ?_
          refine lv_iload hx hb dX11_takeOut_48 (lv_at hl 0 rfl) ?_
          refine lv_aload_n hx hb dX11_takeOut_50 rfl (lv_at hl 1 rfl) ?_
          refine mr_recordObject S X Z hin hl_104 dX11_takeOut_51 ?_
          refine lv_iload hx hb dX11_takeOut_54 (lv_at hl 0 rfl) ?_
          refine lv_iconst (v := (1 : Int32)) hx hb dX11_takeOut_56 (by decide) ?_
          refine lv_iadd hx hb dX11_takeOut_57 ?_
          refine g_iald S X Z ml_recordObject rfl dX11_takeOut_58 h (fun v13 h => ?_)
          refine g_iast S X Z ml_recordObject rfl dX11_takeOut_59 h (fun M14 H locs Z h => ?_)
          refine lv_aload_n hx hb dX11_takeOut_60 rfl (lv_at hl 1 rfl) ?_
          refine mr_recordDirectory S X Z hin hl_107 dX11_takeOut_61 ?_
          refine lv_iload hx hb dX11_takeOut_64 (lv_at hl 0 rfl) ?_
          refine lv_aload_n hx hb dX11_takeOut_66 rfl (lv_at hl 1 rfl) ?_
          refine mr_recordDirectory S X Z hin hl_107 dX11_takeOut_67 ?_
          refine lv_iload hx hb dX11_takeOut_70 (lv_at hl 0 rfl) ?_
          refine lv_iconst (v := (1 : Int32)) hx hb dX11_takeOut_72 (by decide) ?_
          refine lv_iadd hx hb dX11_takeOut_73 ?_
          refine g_iald S X Z ml_recordDirectory rfl dX11_takeOut_74 h (fun v15 h => ?_)
          refine g_iast S X Z ml_recordDirectory rfl dX11_takeOut_75 h (fun M16 H locs Z h => ?_)
          refine lv_aload_n hx hb dX11_takeOut_76 rfl (lv_at hl 1 rfl) ?_
          refine lv_aload_n hx hb dX11_takeOut_77 rfl (lv_at hl 1 rfl) ?_
          refine mr_recordVector S X Z hin hl_110 dX11_takeOut_78 ?_
          refine lv_iload hx hb dX11_takeOut_81 (lv_at hl 0 rfl) ?_
          refine lv_iconst (v := (1 : Int32)) hx hb dX11_takeOut_83 (by decide) ?_
          refine lv_iadd hx hb dX11_takeOut_84 ?_
          refine lv_aload_n hx hb dX11_takeOut_85 rfl (lv_at hl 1 rfl) ?_
          refine mr_recordVector S X Z hin hl_110 dX11_takeOut_86 ?_
          refine lv_iload hx hb dX11_takeOut_89 (lv_at hl 0 rfl) ?_
          obtain ⟨M18, hc17, h⟩ := o1_e h
          refine g_Vv (As := [.ref (A m_recordVector), .int (x10 + (1 : Int32)), .ref (A m_recordVector), .int x10]) (rest := []) S X Z mlv_o rfl rfl (t_X11_copyTo l D dA A hJ ⟨ml_recordVector, rfl⟩ ⟨ml_recordVector, rfl⟩ hc17) (cwV 4 hts gX11_takeOut_X11_copyTo rfl rfl rfl (by decide +kernel) ⟨Nat.le_of_ble_eq_true rfl, Nat.le_of_ble_eq_true rfl⟩) rfl hl.1 rfl (Nat.le_of_ble_eq_true rfl) dX11_takeOut_91 ⟨Nat.zero_le _, Nat.zero_le _⟩ (fun H locs Z => ?_)
          obtain ⟨x19, ex19, h⟩ := lt_e h
          refine lv_iinc (v := x19) (lv' := [(3, .int x19), (4, .int x10), (0, .ref (A m_o)), (1, .int a1)]) hx hb dX11_takeOut_94 hl (k := 3) rfl (by rw [ex19]; rfl) (by decide) rfl (fun ls hl => ?_)
          refine lv_goto (tgt := 8) hx hb dX11_takeOut_97 (by decide) ?_
          exact ih8 x19 M18 _ _ _ Z (lv_sub hl [2, 3, 0] rfl) h
    exact hL8 100 a2 M _ _ _ Z (lv_sub hl [1, 2, 0] rfl) h
  · have h := if_t c1 h
    have hy := Option.some.inj h
    subst hy
    exact g_rv S Z hr hlocks dX11_takeOut_5
