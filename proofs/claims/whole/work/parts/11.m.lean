-- X11_forget (II)V: 50 instructions
set_option maxRecDepth 20000 in
theorem ggX11_forget_X11_isChild : GoodIn wsX11_forget wsX11_isChild := goodIn_r _ [10, 4, 11, 12, 13, 14, 15, 16, 17, 18, 19, 20, 21, 22, 23, 24, 25, 26, 27, 28, 29, 30, 31, 32, 33, 34, 35, 36, 37, 38, 39, 40, 41, 42, 43, 44, 45, 46, 47, 48, 49, 50, 51, 52, 53, 54, 55, 56, 57, 58, 59, 60, 61, 62, 63, 64, 65, 66, 67, 68, 69, 70, 71, 72, 73, 74, 75, 76, 77, 78] (by decide +kernel) (by decide +kernel)
set_option maxRecDepth 20000 in
theorem gX11_forget_X11_isChild : GoodIn wsX11_forget (wsV RX11 197 RX11 yX11_isChild wsX11_isChild) := goodIn_app (goodIn_of _ (by decide +kernel)) ggX11_forget_X11_isChild
theorem dX11_forget_0 : decode cX11_forget 0 = .ok (.aload_n 0, 1) := by decide +kernel
theorem dX11_forget_1 : decode cX11_forget 1 = .ok (.getfield 65, 3) := by decide +kernel
theorem dX11_forget_4 : decode cX11_forget 4 = .ok (.bipush 48, 2) := by decide +kernel
theorem dX11_forget_6 : decode cX11_forget 6 = .ok (.iload_n 1, 1) := by decide +kernel
theorem dX11_forget_7 : decode cX11_forget 7 = .ok (.imul, 1) := by decide +kernel
theorem dX11_forget_8 : decode cX11_forget 8 = .ok (.iload_n 2, 1) := by decide +kernel
theorem dX11_forget_9 : decode cX11_forget 9 = .ok (.iadd, 1) := by decide +kernel
theorem dX11_forget_10 : decode cX11_forget 10 = .ok (.iconst 0, 1) := by decide +kernel
theorem dX11_forget_11 : decode cX11_forget 11 = .ok (.bastore, 1) := by decide +kernel
theorem dX11_forget_12 : decode cX11_forget 12 = .ok (.aload_n 0, 1) := by decide +kernel
theorem dX11_forget_13 : decode cX11_forget 13 = .ok (.getfield 80, 3) := by decide +kernel
theorem dX11_forget_16 : decode cX11_forget 16 = .ok (.bipush 48, 2) := by decide +kernel
theorem dX11_forget_18 : decode cX11_forget 18 = .ok (.iload_n 1, 1) := by decide +kernel
theorem dX11_forget_19 : decode cX11_forget 19 = .ok (.imul, 1) := by decide +kernel
theorem dX11_forget_20 : decode cX11_forget 20 = .ok (.iload_n 2, 1) := by decide +kernel
theorem dX11_forget_21 : decode cX11_forget 21 = .ok (.iadd, 1) := by decide +kernel
theorem dX11_forget_22 : decode cX11_forget 22 = .ok (.iconst 0, 1) := by decide +kernel
theorem dX11_forget_23 : decode cX11_forget 23 = .ok (.bastore, 1) := by decide +kernel
theorem dX11_forget_24 : decode cX11_forget 24 = .ok (.aload_n 0, 1) := by decide +kernel
theorem dX11_forget_25 : decode cX11_forget 25 = .ok (.getfield 77, 3) := by decide +kernel
theorem dX11_forget_28 : decode cX11_forget 28 = .ok (.bipush 48, 2) := by decide +kernel
theorem dX11_forget_30 : decode cX11_forget 30 = .ok (.iload_n 1, 1) := by decide +kernel
theorem dX11_forget_31 : decode cX11_forget 31 = .ok (.imul, 1) := by decide +kernel
theorem dX11_forget_32 : decode cX11_forget 32 = .ok (.iload_n 2, 1) := by decide +kernel
theorem dX11_forget_33 : decode cX11_forget 33 = .ok (.iadd, 1) := by decide +kernel
theorem dX11_forget_34 : decode cX11_forget 34 = .ok (.iconst 0, 1) := by decide +kernel
theorem dX11_forget_35 : decode cX11_forget 35 = .ok (.iastore, 1) := by decide +kernel
theorem dX11_forget_36 : decode cX11_forget 36 = .ok (.iconst 1, 1) := by decide +kernel
theorem dX11_forget_37 : decode cX11_forget 37 = .ok (.istore_n 3, 1) := by decide +kernel
theorem dX11_forget_38 : decode cX11_forget 38 = .ok (.iload_n 3, 1) := by decide +kernel
theorem dX11_forget_39 : decode cX11_forget 39 = .ok (.aload_n 0, 1) := by decide +kernel
theorem dX11_forget_40 : decode cX11_forget 40 = .ok (.getfield 162, 3) := by decide +kernel
theorem dX11_forget_43 : decode cX11_forget 43 = .ok (.if_icmp .ge 30, 3) := by decide +kernel
theorem dX11_forget_46 : decode cX11_forget 46 = .ok (.aload_n 0, 1) := by decide +kernel
theorem dX11_forget_47 : decode cX11_forget 47 = .ok (.iload_n 3, 1) := by decide +kernel
theorem dX11_forget_48 : decode cX11_forget 48 = .ok (.iload_n 2, 1) := by decide +kernel
theorem dX11_forget_49 : decode cX11_forget 49 = .ok (.invokevirtual 197, 3) := by decide +kernel
theorem dX11_forget_52 : decode cX11_forget 52 = .ok (.ifCond .eq 15, 3) := by decide +kernel
theorem dX11_forget_55 : decode cX11_forget 55 = .ok (.aload_n 0, 1) := by decide +kernel
theorem dX11_forget_56 : decode cX11_forget 56 = .ok (.getfield 89, 3) := by decide +kernel
theorem dX11_forget_59 : decode cX11_forget 59 = .ok (.bipush 48, 2) := by decide +kernel
theorem dX11_forget_61 : decode cX11_forget 61 = .ok (.iload_n 1, 1) := by decide +kernel
theorem dX11_forget_62 : decode cX11_forget 62 = .ok (.imul, 1) := by decide +kernel
theorem dX11_forget_63 : decode cX11_forget 63 = .ok (.iload_n 3, 1) := by decide +kernel
theorem dX11_forget_64 : decode cX11_forget 64 = .ok (.iadd, 1) := by decide +kernel
theorem dX11_forget_65 : decode cX11_forget 65 = .ok (.iconst 0, 1) := by decide +kernel
theorem dX11_forget_66 : decode cX11_forget 66 = .ok (.iastore, 1) := by decide +kernel
theorem dX11_forget_67 : decode cX11_forget 67 = .ok (.iinc 3 1, 3) := by decide +kernel
theorem dX11_forget_70 : decode cX11_forget 70 = .ok (.goto (-32), 3) := by decide +kernel
theorem dX11_forget_73 : decode cX11_forget 73 = .ok (.return_, 1) := by decide +kernel
def f_X11_forget_L38 (a1 : Int32) (a2 : Int32) : Nat → Int32 → gM → Option gM
  | 0, _, _ => none
  | n6 + 1, x4, M5 => lt (M5 m_o 6) (fun v7 => (if v7 ≤ x4 then some M5 else o1 (f_X11_isChild M5 x4 a2) (fun v10 => jn (fun (M11 : gM) => lt (x4 + 1) (fun x12 => f_X11_forget_L38 a1 a2 n6 x12 M11)) (fun J67 => (if v10 = 0 then J67 M5 else wr M5 m_keptEntry 192 (((48 : Int32) * a1) + x4) (0 : Int32) (fun M14 => J67 M14))))))
def f_X11_forget (M : gM) (a1 : Int32) (a2 : Int32) : Option gM :=
  wz M m_kept 192 (((48 : Int32) * a1) + a2) (0 : Int32) (fun M1 => wz M1 m_dirty 192 (((48 : Int32) * a1) + a2) (0 : Int32) (fun M2 => wr M2 m_promised 192 (((48 : Int32) * a1) + a2) (0 : Int32) (fun M3 => f_X11_forget_L38 a1 a2 100 (1 : Int32) M3)))
set_option maxHeartbeats 4000000 in
set_option maxRecDepth 100000 in
theorem t_X11_forget (l : Launch) (D : va_G) (dA : Nat → ClassId) (A : gI → Nat) (hJ : gJ mLive A) {M : gM} {a1 : Int32} {a2 : Int32}  {y : gM} (h : f_X11_forget M a1 a2 = some y) : mMv l yX11_forget wsX11_forget ({ frames := 1, cells := 0, slots := 0, locals := 22 } : Room) D dA A [.ref (A m_o), .int a1, .int a2] M y := by
  refine Met.ofW (cc := cX11_forget) (maxL := 4) (ret := none) (by decide) rfl ?_
  intro p e s m args below meth c s₁ B hml hv
  obtain ⟨rfl, hP, hK⟩ := hv
  generalize hargs : ([.ref (A m_o), .int a1, .int a2] : List Value).toArray = args at B ⊢
  have S : CallFix p m c cX11_forget 4 s args wsX11_forget RX11 := ⟨B.exec, B.bytes, hml, findClass_of_methodNamed B.named, atoms_spec (ws := wsX11_forget) B.pre⟩
  obtain ⟨hx, hb, -, hown, hts⟩ := id S
  have hr := B.returns
  have hlocks := B.notSynchronized
  have X : gX D vwCl dA mLive A (gA mLive A) s := ⟨hK, hJ, fun i hi => ⟨i, hi, rfl⟩⟩
  have Z : gZ D mLay dA mLive A (gA mLive A) s.heap M s.heap [] := ⟨hP, va_S.rf⟩
  have hin : ∀ w ∈ wsX110, w ∈ wsX11_forget := fun w h => List.mem_cons_of_mem _ (List.mem_append_right _ h)
  have hl_65 := hts (.fieldLink RX11 65 "ReplicaFilesModel" "kept" "[Z") (by decide +kernel)
  have hl_77 := hts (.fieldLink RX11 77 "ReplicaFilesModel" "promised" "[I") (by decide +kernel)
  have hl_80 := hts (.fieldLink RX11 80 "ReplicaFilesModel" "dirty" "[Z") (by decide +kernel)
  have hl_89 := hts (.fieldLink RX11 89 "ReplicaFilesModel" "keptEntry" "[I") (by decide +kernel)
  have hl_162 := hts (.fieldLink RX11 162 "ReplicaFilesModel" "made" "I") (by decide +kernel)
  have hl := lv_entry ([.ref (A m_o), .int a1, .int a2]) (n := 4) (Nat.le_of_ble_eq_true rfl)
  rw [← hargs, lg_entry_eq, hargs]
  generalize (lg_sl ([.ref (A m_o), .int a1, .int a2]) ++ List.replicate (4 - (lg_sl ([.ref (A m_o), .int a1, .int a2])).length) Slot.unset).toArray = ls at hl ⊢
  have hl : lv_has ls 4 [(0, .ref (A m_o)), (1, .int a1), (2, .int a2)] := hl
  unfold f_X11_forget at h
  refine lv_aload_n hx hb dX11_forget_0 rfl (lv_at hl 0 rfl) ?_
  refine mr_kept S X Z hin hl_65 dX11_forget_1 ?_
  refine lv_bipush (v := (48 : Int32)) hx hb dX11_forget_4 (by decide) ?_
  refine lv_iload_n hx hb dX11_forget_6 rfl (lv_at hl 1 rfl) ?_
  refine lv_imul hx hb dX11_forget_7 ?_
  refine lv_iload_n hx hb dX11_forget_8 rfl (lv_at hl 2 rfl) ?_
  refine lv_iadd hx hb dX11_forget_9 ?_
  refine lv_iconst (v := (0 : Int32)) hx hb dX11_forget_10 (by decide) ?_
  refine g_zast S X Z ml_kept rfl dX11_forget_11 h (fun M1 H locs Z h => ?_)
  refine lv_aload_n hx hb dX11_forget_12 rfl (lv_at hl 0 rfl) ?_
  refine mr_dirty S X Z hin hl_80 dX11_forget_13 ?_
  refine lv_bipush (v := (48 : Int32)) hx hb dX11_forget_16 (by decide) ?_
  refine lv_iload_n hx hb dX11_forget_18 rfl (lv_at hl 1 rfl) ?_
  refine lv_imul hx hb dX11_forget_19 ?_
  refine lv_iload_n hx hb dX11_forget_20 rfl (lv_at hl 2 rfl) ?_
  refine lv_iadd hx hb dX11_forget_21 ?_
  refine lv_iconst (v := (0 : Int32)) hx hb dX11_forget_22 (by decide) ?_
  refine g_zast S X Z ml_dirty rfl dX11_forget_23 h (fun M2 H locs Z h => ?_)
  refine lv_aload_n hx hb dX11_forget_24 rfl (lv_at hl 0 rfl) ?_
  refine mr_promised S X Z hin hl_77 dX11_forget_25 ?_
  refine lv_bipush (v := (48 : Int32)) hx hb dX11_forget_28 (by decide) ?_
  refine lv_iload_n hx hb dX11_forget_30 rfl (lv_at hl 1 rfl) ?_
  refine lv_imul hx hb dX11_forget_31 ?_
  refine lv_iload_n hx hb dX11_forget_32 rfl (lv_at hl 2 rfl) ?_
  refine lv_iadd hx hb dX11_forget_33 ?_
  refine lv_iconst (v := (0 : Int32)) hx hb dX11_forget_34 (by decide) ?_
  refine g_iast S X Z ml_promised rfl dX11_forget_35 h (fun M3 H locs Z h => ?_)
  refine lv_iconst (v := (1 : Int32)) hx hb dX11_forget_36 (by decide) ?_
  refine lv_istore_n (lv' := [(3, .int (1 : Int32)), (0, .ref (A m_o)), (1, .int a1), (2, .int a2)]) hx hb dX11_forget_37 rfl hl (by decide) rfl (fun ls hl => ?_)
  have hL38 : ∀ (n : Nat) (x4 : Int32) (M5 : gM) (H : Heap) (locs : List Loc) (ls : Array Slot), gZ D mLay dA mLive A (gA mLive A) s.heap M5 H locs → lv_has ls 4 [(0, .ref (A m_o)), (1, .int a1), (2, .int a2), (3, .int x4)] → f_X11_forget_L38 a1 a2 n x4 M5 = some y → W p l e (headSpec wsX11_forget ({ frames := 1, cells := 0, slots := 0, locals := 22 } : Room)).room s m args below meth c H locs 0 0 (MQ below (mQv D dA A y) args s 0 0 (gA mLive A)) (F0 m 38 ls []) := by
    intro n
    induction n with
    | zero =>
      intro x4 M5 H locs ls Z hl h
      rw [f_X11_forget_L38] at h
      cases h
    | succ n6 ih38 =>
      intro x4 M5 H locs ls Z hl h
      rw [f_X11_forget_L38] at h
      refine lv_iload_n hx hb dX11_forget_38 rfl (lv_at hl 3 rfl) ?_
      refine lv_aload_n hx hb dX11_forget_39 rfl (lv_at hl 0 rfl) ?_
      refine mr_made S X Z hin hl_162 dX11_forget_40 h (fun v7 h => ?_)
      refine lv_icmp_ge (tgt := 73) hx hb dX11_forget_43 (by decide) (fun c8 => ?_) (fun c8 => ?_)
      · have h := if_t c8 h
        have hy := Option.some.inj h
        subst hy
        exact g_rv S Z hr hlocks dX11_forget_73
      · have h := if_f c8 h
        refine lv_aload_n hx hb dX11_forget_46 rfl (lv_at hl 0 rfl) ?_
        refine lv_iload_n hx hb dX11_forget_47 rfl (lv_at hl 3 rfl) ?_
        refine lv_iload_n hx hb dX11_forget_48 rfl (lv_at hl 2 rfl) ?_
        obtain ⟨v10, hc9, h⟩ := o1_e h
        refine g_Vi (As := [.int x4, .int a2]) (rest := []) S X Z mlv_o rfl rfl (t_X11_isChild l D dA A hJ  hc9) (cwV 2 hts gX11_forget_X11_isChild rfl rfl rfl (by decide +kernel) ⟨Nat.le_of_ble_eq_true rfl, Nat.le_of_ble_eq_true rfl⟩) rfl hl.1 rfl (Nat.le_of_ble_eq_true rfl) dX11_forget_49 ⟨Nat.zero_le _, Nat.zero_le _⟩ (fun H locs Z => ?_)
        obtain ⟨J67, eJ67, h⟩ := jn_e h
        have hJ67 : ∀ (M11 : gM) (H : Heap) (locs : List Loc) (ls : Array Slot), gZ D mLay dA mLive A (gA mLive A) s.heap M11 H locs → lv_has ls 4 [(0, .ref (A m_o)), (1, .int a1), (2, .int a2), (3, .int x4)] → J67 M11 = some y → W p l e (headSpec wsX11_forget ({ frames := 1, cells := 0, slots := 0, locals := 22 } : Room)).room s m args below meth c H locs 0 0 (MQ below (mQv D dA A y) args s 0 0 (gA mLive A)) (F0 m 67 ls []) := by
          intro M11 H locs ls Z hl h
          rw [eJ67] at h
          try dsimp only at h
          obtain ⟨x12, ex12, h⟩ := lt_e h
          refine lv_iinc (v := x12) (lv' := [(3, .int x12), (0, .ref (A m_o)), (1, .int a1), (2, .int a2)]) hx hb dX11_forget_67 hl (k := 3) rfl (by rw [ex12]; rfl) (by decide) rfl (fun ls hl => ?_)
          refine lv_goto (tgt := 38) hx hb dX11_forget_70 (by decide) ?_
          exact ih38 x12 M11 _ _ _ Z (lv_sub hl [1, 2, 3, 0] rfl) h
        refine lv_if_eq (tgt := 67) hx hb dX11_forget_52 (by decide) (fun c13 => ?_) (fun c13 => ?_)
        · have h := if_t c13 h
          exact hJ67 M5 _ _ _ Z (lv_sub hl [0, 1, 2, 3] rfl) h
        · have h := if_f c13 h
          refine lv_aload_n hx hb dX11_forget_55 rfl (lv_at hl 0 rfl) ?_
          refine mr_keptEntry S X Z hin hl_89 dX11_forget_56 ?_
          refine lv_bipush (v := (48 : Int32)) hx hb dX11_forget_59 (by decide) ?_
          refine lv_iload_n hx hb dX11_forget_61 rfl (lv_at hl 1 rfl) ?_
          refine lv_imul hx hb dX11_forget_62 ?_
          refine lv_iload_n hx hb dX11_forget_63 rfl (lv_at hl 3 rfl) ?_
          refine lv_iadd hx hb dX11_forget_64 ?_
          refine lv_iconst (v := (0 : Int32)) hx hb dX11_forget_65 (by decide) ?_
          refine g_iast S X Z ml_keptEntry rfl dX11_forget_66 h (fun M14 H locs Z h => ?_)
          exact hJ67 M14 _ _ _ Z (lv_sub hl [0, 1, 2, 3] rfl) h
  exact hL38 100 (1 : Int32) M3 _ _ _ Z (lv_sub hl [1, 2, 3, 0] rfl) h
-- X11_weight (II)I: 11 instructions
theorem dX11_weight_0 : decode cX11_weight 0 = .ok (.aload_n 0, 1) := by decide +kernel
theorem dX11_weight_1 : decode cX11_weight 1 = .ok (.getfield 29, 3) := by decide +kernel
theorem dX11_weight_4 : decode cX11_weight 4 = .ok (.iload_n 1, 1) := by decide +kernel
theorem dX11_weight_5 : decode cX11_weight 5 = .ok (.baload, 1) := by decide +kernel
theorem dX11_weight_6 : decode cX11_weight 6 = .ok (.ifCond .eq 7, 3) := by decide +kernel
theorem dX11_weight_9 : decode cX11_weight 9 = .ok (.iconst 2, 1) := by decide +kernel
theorem dX11_weight_10 : decode cX11_weight 10 = .ok (.goto 6, 3) := by decide +kernel
theorem dX11_weight_13 : decode cX11_weight 13 = .ok (.iconst 1, 1) := by decide +kernel
theorem dX11_weight_14 : decode cX11_weight 14 = .ok (.iload_n 2, 1) := by decide +kernel
theorem dX11_weight_15 : decode cX11_weight 15 = .ok (.iadd, 1) := by decide +kernel
theorem dX11_weight_16 : decode cX11_weight 16 = .ok (.ireturn, 1) := by decide +kernel
def f_X11_weight (M : gM) (a1 : Int32) (a2 : Int32) : Option Int32 :=
  rd M m_isDirectory 48 a1 (fun v1 => (if v1 = 0 then some ((1 : Int32) + a2) else some (2 : Int32)))
set_option maxHeartbeats 4000000 in
set_option maxRecDepth 100000 in
theorem t_X11_weight (l : Launch) (D : va_G) (dA : Nat → ClassId) (A : gI → Nat) (hJ : gJ mLive A) {M : gM} {a1 : Int32} {a2 : Int32}  {y : Int32} (h : f_X11_weight M a1 a2 = some y) : mMi l yX11_weight wsX11_weight ({ frames := 0, cells := 0, slots := 0, locals := 0 } : Room) D dA A [.ref (A m_o), .int a1, .int a2] M y M := by
  refine Met.ofW (cc := cX11_weight) (maxL := 3) (ret := (some .int)) (by decide) rfl ?_
  intro p e s m args below meth c s₁ B hml hv
  obtain ⟨rfl, hP, hK⟩ := hv
  generalize hargs : ([.ref (A m_o), .int a1, .int a2] : List Value).toArray = args at B ⊢
  have S : CallFix p m c cX11_weight 3 s args wsX11_weight RX11 := ⟨B.exec, B.bytes, hml, findClass_of_methodNamed B.named, atoms_spec (ws := wsX11_weight) B.pre⟩
  obtain ⟨hx, hb, -, hown, hts⟩ := id S
  have hr := B.returns
  have hlocks := B.notSynchronized
  have X : gX D vwCl dA mLive A (gA mLive A) s := ⟨hK, hJ, fun i hi => ⟨i, hi, rfl⟩⟩
  have Z : gZ D mLay dA mLive A (gA mLive A) s.heap M s.heap [] := ⟨hP, va_S.rf⟩
  have hin : ∀ w ∈ wsX110, w ∈ wsX11_weight := fun w h => List.mem_cons_of_mem _ (List.mem_append_right _ h)
  have hl_29 := hts (.fieldLink RX11 29 "ReplicaFilesModel" "isDirectory" "[Z") (by decide +kernel)
  have hl := lv_entry ([.ref (A m_o), .int a1, .int a2]) (n := 3) (Nat.le_of_ble_eq_true rfl)
  rw [← hargs, lg_entry_eq, hargs]
  generalize (lg_sl ([.ref (A m_o), .int a1, .int a2]) ++ List.replicate (3 - (lg_sl ([.ref (A m_o), .int a1, .int a2])).length) Slot.unset).toArray = ls at hl ⊢
  have hl : lv_has ls 3 [(0, .ref (A m_o)), (1, .int a1), (2, .int a2)] := hl
  unfold f_X11_weight at h
  refine lv_aload_n hx hb dX11_weight_0 rfl (lv_at hl 0 rfl) ?_
  refine mr_isDirectory S X Z hin hl_29 dX11_weight_1 ?_
  refine lv_iload_n hx hb dX11_weight_4 rfl (lv_at hl 1 rfl) ?_
  refine g_zald S X Z ml_isDirectory rfl dX11_weight_5 h (fun v1 h => ?_)
  refine lv_if_eq (tgt := 13) hx hb dX11_weight_6 (by decide) (fun c2 => ?_) (fun c2 => ?_)
  · have h := if_t c2 h
    refine lv_iconst (v := (1 : Int32)) hx hb dX11_weight_13 (by decide) ?_
    refine lv_iload_n hx hb dX11_weight_14 rfl (lv_at hl 2 rfl) ?_
    refine lv_iadd hx hb dX11_weight_15 ?_
    have hy := Option.some.inj h
    subst hy
    exact g_ri S Z hr hlocks dX11_weight_16
  · have h := if_f c2 h
    refine lv_iconst (v := (2 : Int32)) hx hb dX11_weight_9 (by decide) ?_
    refine lv_goto (tgt := 16) hx hb dX11_weight_10 (by decide) ?_
    have hy := Option.some.inj h
    subst hy
    exact g_ri S Z hr hlocks dX11_weight_16
-- X11_weightKept (II)I: 23 instructions
set_option maxRecDepth 20000 in
theorem ggX11_weightKept_X11_weight : GoodIn wsX11_weightKept wsX11_weight := goodIn_r _ [7, 8, 9, 10, 11, 12, 13, 14, 15, 16, 17, 18, 19, 20, 21, 22, 23, 24, 25, 26, 27, 28, 29, 30, 31, 32, 33, 34, 35, 36, 37, 38, 39, 40, 41, 42, 43, 44, 45, 46, 47, 48, 49, 50, 51, 52, 53, 54, 55, 56, 57, 58, 59, 60, 61, 62, 63, 64, 65, 66, 67, 68, 69, 70, 71, 72, 73, 74, 75] (by decide +kernel) (by decide +kernel)
set_option maxRecDepth 20000 in
theorem gX11_weightKept_X11_weight : GoodIn wsX11_weightKept (wsV RX11 204 RX11 yX11_weight wsX11_weight) := goodIn_app (goodIn_of _ (by decide +kernel)) ggX11_weightKept_X11_weight
theorem dX11_weightKept_0 : decode cX11_weightKept 0 = .ok (.aload_n 0, 1) := by decide +kernel
theorem dX11_weightKept_1 : decode cX11_weightKept 1 = .ok (.getfield 65, 3) := by decide +kernel
theorem dX11_weightKept_4 : decode cX11_weightKept 4 = .ok (.bipush 48, 2) := by decide +kernel
theorem dX11_weightKept_6 : decode cX11_weightKept 6 = .ok (.iload_n 1, 1) := by decide +kernel
theorem dX11_weightKept_7 : decode cX11_weightKept 7 = .ok (.imul, 1) := by decide +kernel
theorem dX11_weightKept_8 : decode cX11_weightKept 8 = .ok (.iload_n 2, 1) := by decide +kernel
theorem dX11_weightKept_9 : decode cX11_weightKept 9 = .ok (.iadd, 1) := by decide +kernel
theorem dX11_weightKept_10 : decode cX11_weightKept 10 = .ok (.baload, 1) := by decide +kernel
theorem dX11_weightKept_11 : decode cX11_weightKept 11 = .ok (.ifCond .eq 22, 3) := by decide +kernel
theorem dX11_weightKept_14 : decode cX11_weightKept 14 = .ok (.aload_n 0, 1) := by decide +kernel
theorem dX11_weightKept_15 : decode cX11_weightKept 15 = .ok (.iload_n 2, 1) := by decide +kernel
theorem dX11_weightKept_16 : decode cX11_weightKept 16 = .ok (.aload_n 0, 1) := by decide +kernel
theorem dX11_weightKept_17 : decode cX11_weightKept 17 = .ok (.getfield 71, 3) := by decide +kernel
theorem dX11_weightKept_20 : decode cX11_weightKept 20 = .ok (.bipush 48, 2) := by decide +kernel
theorem dX11_weightKept_22 : decode cX11_weightKept 22 = .ok (.iload_n 1, 1) := by decide +kernel
theorem dX11_weightKept_23 : decode cX11_weightKept 23 = .ok (.imul, 1) := by decide +kernel
theorem dX11_weightKept_24 : decode cX11_weightKept 24 = .ok (.iload_n 2, 1) := by decide +kernel
theorem dX11_weightKept_25 : decode cX11_weightKept 25 = .ok (.iadd, 1) := by decide +kernel
theorem dX11_weightKept_26 : decode cX11_weightKept 26 = .ok (.iaload, 1) := by decide +kernel
theorem dX11_weightKept_27 : decode cX11_weightKept 27 = .ok (.invokevirtual 204, 3) := by decide +kernel
theorem dX11_weightKept_30 : decode cX11_weightKept 30 = .ok (.goto 4, 3) := by decide +kernel
theorem dX11_weightKept_33 : decode cX11_weightKept 33 = .ok (.iconst 0, 1) := by decide +kernel
theorem dX11_weightKept_34 : decode cX11_weightKept 34 = .ok (.ireturn, 1) := by decide +kernel
def f_X11_weightKept (M : gM) (a1 : Int32) (a2 : Int32) : Option Int32 :=
  rd M m_kept 192 (((48 : Int32) * a1) + a2) (fun v1 => (if v1 = 0 then some (0 : Int32) else rd M m_keptSize 192 (((48 : Int32) * a1) + a2) (fun v3 => o1 (f_X11_weight M a2 v3) (fun v5 => some v5))))
set_option maxHeartbeats 4000000 in
set_option maxRecDepth 100000 in
theorem t_X11_weightKept (l : Launch) (D : va_G) (dA : Nat → ClassId) (A : gI → Nat) (hJ : gJ mLive A) {M : gM} {a1 : Int32} {a2 : Int32}  {y : Int32} (h : f_X11_weightKept M a1 a2 = some y) : mMi l yX11_weightKept wsX11_weightKept ({ frames := 1, cells := 0, slots := 0, locals := 22 } : Room) D dA A [.ref (A m_o), .int a1, .int a2] M y M := by
  refine Met.ofW (cc := cX11_weightKept) (maxL := 3) (ret := (some .int)) (by decide) rfl ?_
  intro p e s m args below meth c s₁ B hml hv
  obtain ⟨rfl, hP, hK⟩ := hv
  generalize hargs : ([.ref (A m_o), .int a1, .int a2] : List Value).toArray = args at B ⊢
  have S : CallFix p m c cX11_weightKept 3 s args wsX11_weightKept RX11 := ⟨B.exec, B.bytes, hml, findClass_of_methodNamed B.named, atoms_spec (ws := wsX11_weightKept) B.pre⟩
  obtain ⟨hx, hb, -, hown, hts⟩ := id S
  have hr := B.returns
  have hlocks := B.notSynchronized
  have X : gX D vwCl dA mLive A (gA mLive A) s := ⟨hK, hJ, fun i hi => ⟨i, hi, rfl⟩⟩
  have Z : gZ D mLay dA mLive A (gA mLive A) s.heap M s.heap [] := ⟨hP, va_S.rf⟩
  have hin : ∀ w ∈ wsX110, w ∈ wsX11_weightKept := fun w h => List.mem_cons_of_mem _ (List.mem_append_right _ h)
  have hl_65 := hts (.fieldLink RX11 65 "ReplicaFilesModel" "kept" "[Z") (by decide +kernel)
  have hl_71 := hts (.fieldLink RX11 71 "ReplicaFilesModel" "keptSize" "[I") (by decide +kernel)
  have hl := lv_entry ([.ref (A m_o), .int a1, .int a2]) (n := 3) (Nat.le_of_ble_eq_true rfl)
  rw [← hargs, lg_entry_eq, hargs]
  generalize (lg_sl ([.ref (A m_o), .int a1, .int a2]) ++ List.replicate (3 - (lg_sl ([.ref (A m_o), .int a1, .int a2])).length) Slot.unset).toArray = ls at hl ⊢
  have hl : lv_has ls 3 [(0, .ref (A m_o)), (1, .int a1), (2, .int a2)] := hl
  unfold f_X11_weightKept at h
  refine lv_aload_n hx hb dX11_weightKept_0 rfl (lv_at hl 0 rfl) ?_
  refine mr_kept S X Z hin hl_65 dX11_weightKept_1 ?_
  refine lv_bipush (v := (48 : Int32)) hx hb dX11_weightKept_4 (by decide) ?_
  refine lv_iload_n hx hb dX11_weightKept_6 rfl (lv_at hl 1 rfl) ?_
  refine lv_imul hx hb dX11_weightKept_7 ?_
  refine lv_iload_n hx hb dX11_weightKept_8 rfl (lv_at hl 2 rfl) ?_
  refine lv_iadd hx hb dX11_weightKept_9 ?_
  refine g_zald S X Z ml_kept rfl dX11_weightKept_10 h (fun v1 h => ?_)
  refine lv_if_eq (tgt := 33) hx hb dX11_weightKept_11 (by decide) (fun c2 => ?_) (fun c2 => ?_)
  · have h := if_t c2 h
    refine lv_iconst (v := (0 : Int32)) hx hb dX11_weightKept_33 (by decide) ?_
    have hy := Option.some.inj h
    subst hy
    exact g_ri S Z hr hlocks dX11_weightKept_34
  · have h := if_f c2 h
    refine lv_aload_n hx hb dX11_weightKept_14 rfl (lv_at hl 0 rfl) ?_
    refine lv_iload_n hx hb dX11_weightKept_15 rfl (lv_at hl 2 rfl) ?_
    refine lv_aload_n hx hb dX11_weightKept_16 rfl (lv_at hl 0 rfl) ?_
    refine mr_keptSize S X Z hin hl_71 dX11_weightKept_17 ?_
    refine lv_bipush (v := (48 : Int32)) hx hb dX11_weightKept_20 (by decide) ?_
    refine lv_iload_n hx hb dX11_weightKept_22 rfl (lv_at hl 1 rfl) ?_
    refine lv_imul hx hb dX11_weightKept_23 ?_
    refine lv_iload_n hx hb dX11_weightKept_24 rfl (lv_at hl 2 rfl) ?_
    refine lv_iadd hx hb dX11_weightKept_25 ?_
    refine g_iald S X Z ml_keptSize rfl dX11_weightKept_26 h (fun v3 h => ?_)
    obtain ⟨v5, hc4, h⟩ := o1_e h
    refine g_Vi (As := [.int a2, .int v3]) (rest := []) S X Z mlv_o rfl rfl (t_X11_weight l D dA A hJ  hc4) (cwV 2 hts gX11_weightKept_X11_weight rfl rfl rfl (by decide +kernel) ⟨Nat.le_of_ble_eq_true rfl, Nat.le_of_ble_eq_true rfl⟩) rfl hl.1 rfl (Nat.le_of_ble_eq_true rfl) dX11_weightKept_27 ⟨Nat.zero_le _, Nat.zero_le _⟩ (fun H locs Z => ?_)
    refine lv_goto (tgt := 34) hx hb dX11_weightKept_30 (by decide) ?_
    have hy := Option.some.inj h
    subst hy
    exact g_ri S Z hr hlocks dX11_weightKept_34
-- X11_use (II)V: 27 instructions
theorem dX11_use_0 : decode cX11_use 0 = .ok (.aload_n 0, 1) := by decide +kernel
theorem dX11_use_1 : decode cX11_use 1 = .ok (.dup, 1) := by decide +kernel
theorem dX11_use_2 : decode cX11_use 2 = .ok (.getfield 208, 3) := by decide +kernel
theorem dX11_use_5 : decode cX11_use 5 = .ok (.iconst 1, 1) := by decide +kernel
theorem dX11_use_6 : decode cX11_use 6 = .ok (.iadd, 1) := by decide +kernel
theorem dX11_use_7 : decode cX11_use 7 = .ok (.putfield 208, 3) := by decide +kernel
theorem dX11_use_10 : decode cX11_use 10 = .ok (.aload_n 0, 1) := by decide +kernel
theorem dX11_use_11 : decode cX11_use 11 = .ok (.getfield 83, 3) := by decide +kernel
theorem dX11_use_14 : decode cX11_use 14 = .ok (.bipush 48, 2) := by decide +kernel
theorem dX11_use_16 : decode cX11_use 16 = .ok (.iload_n 1, 1) := by decide +kernel
theorem dX11_use_17 : decode cX11_use 17 = .ok (.imul, 1) := by decide +kernel
theorem dX11_use_18 : decode cX11_use 18 = .ok (.iload_n 2, 1) := by decide +kernel
theorem dX11_use_19 : decode cX11_use 19 = .ok (.iadd, 1) := by decide +kernel
theorem dX11_use_20 : decode cX11_use 20 = .ok (.aload_n 0, 1) := by decide +kernel
theorem dX11_use_21 : decode cX11_use 21 = .ok (.getfield 208, 3) := by decide +kernel
theorem dX11_use_24 : decode cX11_use 24 = .ok (.iastore, 1) := by decide +kernel
theorem dX11_use_25 : decode cX11_use 25 = .ok (.aload_n 0, 1) := by decide +kernel
theorem dX11_use_26 : decode cX11_use 26 = .ok (.getfield 86, 3) := by decide +kernel
theorem dX11_use_29 : decode cX11_use 29 = .ok (.bipush 48, 2) := by decide +kernel
theorem dX11_use_31 : decode cX11_use 31 = .ok (.iload_n 1, 1) := by decide +kernel
theorem dX11_use_32 : decode cX11_use 32 = .ok (.imul, 1) := by decide +kernel
theorem dX11_use_33 : decode cX11_use 33 = .ok (.iload_n 2, 1) := by decide +kernel
theorem dX11_use_34 : decode cX11_use 34 = .ok (.iadd, 1) := by decide +kernel
theorem dX11_use_35 : decode cX11_use 35 = .ok (.aload_n 0, 1) := by decide +kernel
theorem dX11_use_36 : decode cX11_use 36 = .ok (.getfield 211, 3) := by decide +kernel
theorem dX11_use_39 : decode cX11_use 39 = .ok (.iastore, 1) := by decide +kernel
theorem dX11_use_40 : decode cX11_use 40 = .ok (.return_, 1) := by decide +kernel
def f_X11_use (M : gM) (a1 : Int32) (a2 : Int32) : Option gM :=
  lt (M m_o 32) (fun v1 => lt (gset M m_o 32 (v1 + (1 : Int32))) (fun M2 => lt (M2 m_o 32) (fun v3 => wr M2 m_usedAt 192 (((48 : Int32) * a1) + a2) v3 (fun M4 => lt (M4 m_o 33) (fun v5 => wr M4 m_usedBy 192 (((48 : Int32) * a1) + a2) v5 (fun M6 => some M6))))))
set_option maxHeartbeats 4000000 in
set_option maxRecDepth 100000 in
theorem t_X11_use (l : Launch) (D : va_G) (dA : Nat → ClassId) (A : gI → Nat) (hJ : gJ mLive A) {M : gM} {a1 : Int32} {a2 : Int32}  {y : gM} (h : f_X11_use M a1 a2 = some y) : mMv l yX11_use wsX11_use ({ frames := 0, cells := 0, slots := 0, locals := 0 } : Room) D dA A [.ref (A m_o), .int a1, .int a2] M y := by
  refine Met.ofW (cc := cX11_use) (maxL := 3) (ret := none) (by decide) rfl ?_
  intro p e s m args below meth c s₁ B hml hv
  obtain ⟨rfl, hP, hK⟩ := hv
  generalize hargs : ([.ref (A m_o), .int a1, .int a2] : List Value).toArray = args at B ⊢
  have S : CallFix p m c cX11_use 3 s args wsX11_use RX11 := ⟨B.exec, B.bytes, hml, findClass_of_methodNamed B.named, atoms_spec (ws := wsX11_use) B.pre⟩
  obtain ⟨hx, hb, -, hown, hts⟩ := id S
  have hr := B.returns
  have hlocks := B.notSynchronized
  have X : gX D vwCl dA mLive A (gA mLive A) s := ⟨hK, hJ, fun i hi => ⟨i, hi, rfl⟩⟩
  have Z : gZ D mLay dA mLive A (gA mLive A) s.heap M s.heap [] := ⟨hP, va_S.rf⟩
  have hin : ∀ w ∈ wsX110, w ∈ wsX11_use := fun w h => List.mem_cons_of_mem _ (List.mem_append_right _ h)
  have hl_83 := hts (.fieldLink RX11 83 "ReplicaFilesModel" "usedAt" "[I") (by decide +kernel)
  have hl_86 := hts (.fieldLink RX11 86 "ReplicaFilesModel" "usedBy" "[I") (by decide +kernel)
  have hl_208 := hts (.fieldLink RX11 208 "ReplicaFilesModel" "clock" "I") (by decide +kernel)
  have hl_211 := hts (.fieldLink RX11 211 "ReplicaFilesModel" "call" "I") (by decide +kernel)
  have hl := lv_entry ([.ref (A m_o), .int a1, .int a2]) (n := 3) (Nat.le_of_ble_eq_true rfl)
  rw [← hargs, lg_entry_eq, hargs]
  generalize (lg_sl ([.ref (A m_o), .int a1, .int a2]) ++ List.replicate (3 - (lg_sl ([.ref (A m_o), .int a1, .int a2])).length) Slot.unset).toArray = ls at hl ⊢
  have hl : lv_has ls 3 [(0, .ref (A m_o)), (1, .int a1), (2, .int a2)] := hl
  unfold f_X11_use at h
  refine lv_aload_n hx hb dX11_use_0 rfl (lv_at hl 0 rfl) ?_
  refine lv_dup hx hb dX11_use_1 rfl ?_
  refine mr_clock S X Z hin hl_208 dX11_use_2 h (fun v1 h => ?_)
  refine lv_iconst (v := (1 : Int32)) hx hb dX11_use_5 (by decide) ?_
  refine lv_iadd hx hb dX11_use_6 ?_
  refine mp_clock S X Z hin hl_208 dX11_use_7 h (fun M2 H locs Z h => ?_)
  refine lv_aload_n hx hb dX11_use_10 rfl (lv_at hl 0 rfl) ?_
  refine mr_usedAt S X Z hin hl_83 dX11_use_11 ?_
  refine lv_bipush (v := (48 : Int32)) hx hb dX11_use_14 (by decide) ?_
  refine lv_iload_n hx hb dX11_use_16 rfl (lv_at hl 1 rfl) ?_
  refine lv_imul hx hb dX11_use_17 ?_
  refine lv_iload_n hx hb dX11_use_18 rfl (lv_at hl 2 rfl) ?_
  refine lv_iadd hx hb dX11_use_19 ?_
  refine lv_aload_n hx hb dX11_use_20 rfl (lv_at hl 0 rfl) ?_
  refine mr_clock S X Z hin hl_208 dX11_use_21 h (fun v3 h => ?_)
  refine g_iast S X Z ml_usedAt rfl dX11_use_24 h (fun M4 H locs Z h => ?_)
  refine lv_aload_n hx hb dX11_use_25 rfl (lv_at hl 0 rfl) ?_
  refine mr_usedBy S X Z hin hl_86 dX11_use_26 ?_
  refine lv_bipush (v := (48 : Int32)) hx hb dX11_use_29 (by decide) ?_
  refine lv_iload_n hx hb dX11_use_31 rfl (lv_at hl 1 rfl) ?_
  refine lv_imul hx hb dX11_use_32 ?_
  refine lv_iload_n hx hb dX11_use_33 rfl (lv_at hl 2 rfl) ?_
  refine lv_iadd hx hb dX11_use_34 ?_
  refine lv_aload_n hx hb dX11_use_35 rfl (lv_at hl 0 rfl) ?_
  refine mr_call S X Z hin hl_211 dX11_use_36 h (fun v5 h => ?_)
  refine g_iast S X Z ml_usedBy rfl dX11_use_39 h (fun M6 H locs Z h => ?_)
  have hy := Option.some.inj h
  subst hy
  exact g_rv S Z hr hlocks dX11_use_40
-- X11_mayGo (IIII)Z: 36 instructions
theorem dX11_mayGo_0 : decode cX11_mayGo 0 = .ok (.bipush 48, 2) := by decide +kernel
theorem dX11_mayGo_2 : decode cX11_mayGo 2 = .ok (.iload_n 1, 1) := by decide +kernel
theorem dX11_mayGo_3 : decode cX11_mayGo 3 = .ok (.imul, 1) := by decide +kernel
theorem dX11_mayGo_4 : decode cX11_mayGo 4 = .ok (.iload_n 2, 1) := by decide +kernel
theorem dX11_mayGo_5 : decode cX11_mayGo 5 = .ok (.iadd, 1) := by decide +kernel
theorem dX11_mayGo_6 : decode cX11_mayGo 6 = .ok (.istore 5, 2) := by decide +kernel
theorem dX11_mayGo_8 : decode cX11_mayGo 8 = .ok (.aload_n 0, 1) := by decide +kernel
theorem dX11_mayGo_9 : decode cX11_mayGo 9 = .ok (.getfield 65, 3) := by decide +kernel
theorem dX11_mayGo_12 : decode cX11_mayGo 12 = .ok (.iload 5, 2) := by decide +kernel
theorem dX11_mayGo_14 : decode cX11_mayGo 14 = .ok (.baload, 1) := by decide +kernel
theorem dX11_mayGo_15 : decode cX11_mayGo 15 = .ok (.ifCond .eq 48, 3) := by decide +kernel
theorem dX11_mayGo_18 : decode cX11_mayGo 18 = .ok (.aload_n 0, 1) := by decide +kernel
theorem dX11_mayGo_19 : decode cX11_mayGo 19 = .ok (.getfield 80, 3) := by decide +kernel
theorem dX11_mayGo_22 : decode cX11_mayGo 22 = .ok (.iload 5, 2) := by decide +kernel
theorem dX11_mayGo_24 : decode cX11_mayGo 24 = .ok (.baload, 1) := by decide +kernel
theorem dX11_mayGo_25 : decode cX11_mayGo 25 = .ok (.ifCond .ne 38, 3) := by decide +kernel
theorem dX11_mayGo_28 : decode cX11_mayGo 28 = .ok (.aload_n 0, 1) := by decide +kernel
theorem dX11_mayGo_29 : decode cX11_mayGo 29 = .ok (.getfield 86, 3) := by decide +kernel
theorem dX11_mayGo_32 : decode cX11_mayGo 32 = .ok (.iload 5, 2) := by decide +kernel
theorem dX11_mayGo_34 : decode cX11_mayGo 34 = .ok (.iaload, 1) := by decide +kernel
theorem dX11_mayGo_35 : decode cX11_mayGo 35 = .ok (.aload_n 0, 1) := by decide +kernel
theorem dX11_mayGo_36 : decode cX11_mayGo 36 = .ok (.getfield 211, 3) := by decide +kernel
theorem dX11_mayGo_39 : decode cX11_mayGo 39 = .ok (.if_icmp .eq 24, 3) := by decide +kernel
theorem dX11_mayGo_42 : decode cX11_mayGo 42 = .ok (.iload_n 2, 1) := by decide +kernel
theorem dX11_mayGo_43 : decode cX11_mayGo 43 = .ok (.iload_n 3, 1) := by decide +kernel
theorem dX11_mayGo_44 : decode cX11_mayGo 44 = .ok (.if_icmp .eq 19, 3) := by decide +kernel
theorem dX11_mayGo_47 : decode cX11_mayGo 47 = .ok (.aload_n 0, 1) := by decide +kernel
theorem dX11_mayGo_48 : decode cX11_mayGo 48 = .ok (.getfield 95, 3) := by decide +kernel
theorem dX11_mayGo_51 : decode cX11_mayGo 51 = .ok (.iload 5, 2) := by decide +kernel
theorem dX11_mayGo_53 : decode cX11_mayGo 53 = .ok (.iaload, 1) := by decide +kernel
theorem dX11_mayGo_54 : decode cX11_mayGo 54 = .ok (.iload 4, 2) := by decide +kernel
theorem dX11_mayGo_56 : decode cX11_mayGo 56 = .ok (.if_icmp .ge 7, 3) := by decide +kernel
theorem dX11_mayGo_59 : decode cX11_mayGo 59 = .ok (.iconst 1, 1) := by decide +kernel
theorem dX11_mayGo_60 : decode cX11_mayGo 60 = .ok (.goto 4, 3) := by decide +kernel
theorem dX11_mayGo_63 : decode cX11_mayGo 63 = .ok (.iconst 0, 1) := by decide +kernel
theorem dX11_mayGo_64 : decode cX11_mayGo 64 = .ok (.ireturn, 1) := by decide +kernel
def f_X11_mayGo (M : gM) (a1 : Int32) (a2 : Int32) (a3 : Int32) (a4 : Int32) : Option Int32 :=
  lt ((((48 : Int32) * a1) + a2)) (fun x1 => rd M m_kept 192 x1 (fun v2 => (if v2 = 0 then some (0 : Int32) else rd M m_dirty 192 x1 (fun v4 => (if v4 = 0 then rd M m_usedBy 192 x1 (fun v6 => lt (M m_o 33) (fun v7 => (if v6 = v7 then some (0 : Int32) else (if a2 = a3 then some (0 : Int32) else rd M m_priorities 192 x1 (fun v10 => (if a4 ≤ v10 then some (0 : Int32) else some (1 : Int32))))))) else some (0 : Int32))))))
set_option maxHeartbeats 4000000 in
set_option maxRecDepth 100000 in
theorem t_X11_mayGo (l : Launch) (D : va_G) (dA : Nat → ClassId) (A : gI → Nat) (hJ : gJ mLive A) {M : gM} {a1 : Int32} {a2 : Int32} {a3 : Int32} {a4 : Int32}  {y : Int32} (h : f_X11_mayGo M a1 a2 a3 a4 = some y) : mMi l yX11_mayGo wsX11_mayGo ({ frames := 0, cells := 0, slots := 0, locals := 0 } : Room) D dA A [.ref (A m_o), .int a1, .int a2, .int a3, .int a4] M y M := by
  refine Met.ofW (cc := cX11_mayGo) (maxL := 6) (ret := (some .boolean)) (by decide) rfl ?_
  intro p e s m args below meth c s₁ B hml hv
  obtain ⟨rfl, hP, hK⟩ := hv
  generalize hargs : ([.ref (A m_o), .int a1, .int a2, .int a3, .int a4] : List Value).toArray = args at B ⊢
  have S : CallFix p m c cX11_mayGo 6 s args wsX11_mayGo RX11 := ⟨B.exec, B.bytes, hml, findClass_of_methodNamed B.named, atoms_spec (ws := wsX11_mayGo) B.pre⟩
  obtain ⟨hx, hb, -, hown, hts⟩ := id S
  have hr := B.returns
  have hlocks := B.notSynchronized
  have X : gX D vwCl dA mLive A (gA mLive A) s := ⟨hK, hJ, fun i hi => ⟨i, hi, rfl⟩⟩
  have Z : gZ D mLay dA mLive A (gA mLive A) s.heap M s.heap [] := ⟨hP, va_S.rf⟩
  have hin : ∀ w ∈ wsX110, w ∈ wsX11_mayGo := fun w h => List.mem_cons_of_mem _ (List.mem_append_right _ h)
  have hl_65 := hts (.fieldLink RX11 65 "ReplicaFilesModel" "kept" "[Z") (by decide +kernel)
  have hl_80 := hts (.fieldLink RX11 80 "ReplicaFilesModel" "dirty" "[Z") (by decide +kernel)
  have hl_86 := hts (.fieldLink RX11 86 "ReplicaFilesModel" "usedBy" "[I") (by decide +kernel)
  have hl_95 := hts (.fieldLink RX11 95 "ReplicaFilesModel" "priorities" "[I") (by decide +kernel)
  have hl_211 := hts (.fieldLink RX11 211 "ReplicaFilesModel" "call" "I") (by decide +kernel)
  have hl := lv_entry ([.ref (A m_o), .int a1, .int a2, .int a3, .int a4]) (n := 6) (Nat.le_of_ble_eq_true rfl)
  rw [← hargs, lg_entry_eq, hargs]
  generalize (lg_sl ([.ref (A m_o), .int a1, .int a2, .int a3, .int a4]) ++ List.replicate (6 - (lg_sl ([.ref (A m_o), .int a1, .int a2, .int a3, .int a4])).length) Slot.unset).toArray = ls at hl ⊢
  have hl : lv_has ls 6 [(0, .ref (A m_o)), (1, .int a1), (2, .int a2), (3, .int a3), (4, .int a4)] := hl
  unfold f_X11_mayGo at h
  refine lv_bipush (v := (48 : Int32)) hx hb dX11_mayGo_0 (by decide) ?_
  refine lv_iload_n hx hb dX11_mayGo_2 rfl (lv_at hl 1 rfl) ?_
  refine lv_imul hx hb dX11_mayGo_3 ?_
  refine lv_iload_n hx hb dX11_mayGo_4 rfl (lv_at hl 2 rfl) ?_
  refine lv_iadd hx hb dX11_mayGo_5 ?_
  refine g_topi h (fun x1 h => ?_)
  refine lv_istore (lv' := [(5, .int x1), (0, .ref (A m_o)), (1, .int a1), (2, .int a2), (3, .int a3), (4, .int a4)]) hx hb dX11_mayGo_6 hl (by decide) rfl (fun ls hl => ?_)
  refine lv_aload_n hx hb dX11_mayGo_8 rfl (lv_at hl 1 rfl) ?_
  refine mr_kept S X Z hin hl_65 dX11_mayGo_9 ?_
  refine lv_iload hx hb dX11_mayGo_12 (lv_at hl 0 rfl) ?_
  refine g_zald S X Z ml_kept rfl dX11_mayGo_14 h (fun v2 h => ?_)
  refine lv_if_eq (tgt := 63) hx hb dX11_mayGo_15 (by decide) (fun c3 => ?_) (fun c3 => ?_)
  · have h := if_t c3 h
    refine lv_iconst (v := (0 : Int32)) hx hb dX11_mayGo_63 (by decide) ?_
    have hy := Option.some.inj h
    subst hy
    exact g_rz (Or.inl rfl) S Z hr hlocks dX11_mayGo_64
  · have h := if_f c3 h
    refine lv_aload_n hx hb dX11_mayGo_18 rfl (lv_at hl 1 rfl) ?_
    refine mr_dirty S X Z hin hl_80 dX11_mayGo_19 ?_
    refine lv_iload hx hb dX11_mayGo_22 (lv_at hl 0 rfl) ?_
    refine g_zald S X Z ml_dirty rfl dX11_mayGo_24 h (fun v4 h => ?_)
    refine lv_if_ne (tgt := 63) hx hb dX11_mayGo_25 (by decide) (fun c5 => ?_) (fun c5 => ?_)
    · have h := if_f c5 h
      refine lv_iconst (v := (0 : Int32)) hx hb dX11_mayGo_63 (by decide) ?_
      have hy := Option.some.inj h
      subst hy
      exact g_rz (Or.inl rfl) S Z hr hlocks dX11_mayGo_64
    · have h := if_t c5 h
      refine lv_aload_n hx hb dX11_mayGo_28 rfl (lv_at hl 1 rfl) ?_
      refine mr_usedBy S X Z hin hl_86 dX11_mayGo_29 ?_
      refine lv_iload hx hb dX11_mayGo_32 (lv_at hl 0 rfl) ?_
      refine g_iald S X Z ml_usedBy rfl dX11_mayGo_34 h (fun v6 h => ?_)
      refine lv_aload_n hx hb dX11_mayGo_35 rfl (lv_at hl 1 rfl) ?_
      refine mr_call S X Z hin hl_211 dX11_mayGo_36 h (fun v7 h => ?_)
      refine lv_icmp_eq (tgt := 63) hx hb dX11_mayGo_39 (by decide) (fun c8 => ?_) (fun c8 => ?_)
      · have h := if_t c8 h
        refine lv_iconst (v := (0 : Int32)) hx hb dX11_mayGo_63 (by decide) ?_
        have hy := Option.some.inj h
        subst hy
        exact g_rz (Or.inl rfl) S Z hr hlocks dX11_mayGo_64
      · have h := if_f c8 h
        refine lv_iload_n hx hb dX11_mayGo_42 rfl (lv_at hl 3 rfl) ?_
        refine lv_iload_n hx hb dX11_mayGo_43 rfl (lv_at hl 4 rfl) ?_
        refine lv_icmp_eq (tgt := 63) hx hb dX11_mayGo_44 (by decide) (fun c9 => ?_) (fun c9 => ?_)
        · have h := if_t c9 h
          refine lv_iconst (v := (0 : Int32)) hx hb dX11_mayGo_63 (by decide) ?_
          have hy := Option.some.inj h
          subst hy
          exact g_rz (Or.inl rfl) S Z hr hlocks dX11_mayGo_64
        · have h := if_f c9 h
          refine lv_aload_n hx hb dX11_mayGo_47 rfl (lv_at hl 1 rfl) ?_
          refine mr_priorities S X Z hin hl_95 dX11_mayGo_48 ?_
          refine lv_iload hx hb dX11_mayGo_51 (lv_at hl 0 rfl) ?_
          refine g_iald S X Z ml_priorities rfl dX11_mayGo_53 h (fun v10 h => ?_)
          refine lv_iload hx hb dX11_mayGo_54 (lv_at hl 5 rfl) ?_
          refine lv_icmp_ge (tgt := 63) hx hb dX11_mayGo_56 (by decide) (fun c11 => ?_) (fun c11 => ?_)
          · have h := if_t c11 h
            refine lv_iconst (v := (0 : Int32)) hx hb dX11_mayGo_63 (by decide) ?_
            have hy := Option.some.inj h
            subst hy
            exact g_rz (Or.inl rfl) S Z hr hlocks dX11_mayGo_64
          · have h := if_f c11 h
            refine lv_iconst (v := (1 : Int32)) hx hb dX11_mayGo_59 (by decide) ?_
            refine lv_goto (tgt := 64) hx hb dX11_mayGo_60 (by decide) ?_
            have hy := Option.some.inj h
            subst hy
            exact g_rz (Or.inr rfl) S Z hr hlocks dX11_mayGo_64
-- X11_goesBefore (II)Z: 35 instructions
theorem dX11_goesBefore_0 : decode cX11_goesBefore 0 = .ok (.aload_n 0, 1) := by decide +kernel
theorem dX11_goesBefore_1 : decode cX11_goesBefore 1 = .ok (.getfield 95, 3) := by decide +kernel
theorem dX11_goesBefore_4 : decode cX11_goesBefore 4 = .ok (.iload_n 1, 1) := by decide +kernel
theorem dX11_goesBefore_5 : decode cX11_goesBefore 5 = .ok (.iaload, 1) := by decide +kernel
theorem dX11_goesBefore_6 : decode cX11_goesBefore 6 = .ok (.aload_n 0, 1) := by decide +kernel
theorem dX11_goesBefore_7 : decode cX11_goesBefore 7 = .ok (.getfield 95, 3) := by decide +kernel
theorem dX11_goesBefore_10 : decode cX11_goesBefore 10 = .ok (.iload_n 2, 1) := by decide +kernel
theorem dX11_goesBefore_11 : decode cX11_goesBefore 11 = .ok (.iaload, 1) := by decide +kernel
theorem dX11_goesBefore_12 : decode cX11_goesBefore 12 = .ok (.if_icmp .eq 26, 3) := by decide +kernel
theorem dX11_goesBefore_15 : decode cX11_goesBefore 15 = .ok (.aload_n 0, 1) := by decide +kernel
theorem dX11_goesBefore_16 : decode cX11_goesBefore 16 = .ok (.getfield 95, 3) := by decide +kernel
theorem dX11_goesBefore_19 : decode cX11_goesBefore 19 = .ok (.iload_n 1, 1) := by decide +kernel
theorem dX11_goesBefore_20 : decode cX11_goesBefore 20 = .ok (.iaload, 1) := by decide +kernel
theorem dX11_goesBefore_21 : decode cX11_goesBefore 21 = .ok (.aload_n 0, 1) := by decide +kernel
theorem dX11_goesBefore_22 : decode cX11_goesBefore 22 = .ok (.getfield 95, 3) := by decide +kernel
theorem dX11_goesBefore_25 : decode cX11_goesBefore 25 = .ok (.iload_n 2, 1) := by decide +kernel
theorem dX11_goesBefore_26 : decode cX11_goesBefore 26 = .ok (.iaload, 1) := by decide +kernel
theorem dX11_goesBefore_27 : decode cX11_goesBefore 27 = .ok (.if_icmp .ge 7, 3) := by decide +kernel
theorem dX11_goesBefore_30 : decode cX11_goesBefore 30 = .ok (.iconst 1, 1) := by decide +kernel
theorem dX11_goesBefore_31 : decode cX11_goesBefore 31 = .ok (.goto 27, 3) := by decide +kernel
theorem dX11_goesBefore_34 : decode cX11_goesBefore 34 = .ok (.iconst 0, 1) := by decide +kernel
theorem dX11_goesBefore_35 : decode cX11_goesBefore 35 = .ok (.goto 23, 3) := by decide +kernel
theorem dX11_goesBefore_38 : decode cX11_goesBefore 38 = .ok (.aload_n 0, 1) := by decide +kernel
theorem dX11_goesBefore_39 : decode cX11_goesBefore 39 = .ok (.getfield 83, 3) := by decide +kernel
theorem dX11_goesBefore_42 : decode cX11_goesBefore 42 = .ok (.iload_n 1, 1) := by decide +kernel
theorem dX11_goesBefore_43 : decode cX11_goesBefore 43 = .ok (.iaload, 1) := by decide +kernel
theorem dX11_goesBefore_44 : decode cX11_goesBefore 44 = .ok (.aload_n 0, 1) := by decide +kernel
theorem dX11_goesBefore_45 : decode cX11_goesBefore 45 = .ok (.getfield 83, 3) := by decide +kernel
theorem dX11_goesBefore_48 : decode cX11_goesBefore 48 = .ok (.iload_n 2, 1) := by decide +kernel
theorem dX11_goesBefore_49 : decode cX11_goesBefore 49 = .ok (.iaload, 1) := by decide +kernel
theorem dX11_goesBefore_50 : decode cX11_goesBefore 50 = .ok (.if_icmp .ge 7, 3) := by decide +kernel
theorem dX11_goesBefore_53 : decode cX11_goesBefore 53 = .ok (.iconst 1, 1) := by decide +kernel
theorem dX11_goesBefore_54 : decode cX11_goesBefore 54 = .ok (.goto 4, 3) := by decide +kernel
theorem dX11_goesBefore_57 : decode cX11_goesBefore 57 = .ok (.iconst 0, 1) := by decide +kernel
theorem dX11_goesBefore_58 : decode cX11_goesBefore 58 = .ok (.ireturn, 1) := by decide +kernel
def f_X11_goesBefore (M : gM) (a1 : Int32) (a2 : Int32) : Option Int32 :=
  rd M m_priorities 192 a1 (fun v1 => rd M m_priorities 192 a2 (fun v2 => (if v1 = v2 then rd M m_usedAt 192 a1 (fun v4 => rd M m_usedAt 192 a2 (fun v5 => (if v5 ≤ v4 then some (0 : Int32) else some (1 : Int32)))) else rd M m_priorities 192 a1 (fun v7 => rd M m_priorities 192 a2 (fun v8 => (if v8 ≤ v7 then some (0 : Int32) else some (1 : Int32)))))))
set_option maxHeartbeats 4000000 in
set_option maxRecDepth 100000 in
theorem t_X11_goesBefore (l : Launch) (D : va_G) (dA : Nat → ClassId) (A : gI → Nat) (hJ : gJ mLive A) {M : gM} {a1 : Int32} {a2 : Int32}  {y : Int32} (h : f_X11_goesBefore M a1 a2 = some y) : mMi l yX11_goesBefore wsX11_goesBefore ({ frames := 0, cells := 0, slots := 0, locals := 0 } : Room) D dA A [.ref (A m_o), .int a1, .int a2] M y M := by
  refine Met.ofW (cc := cX11_goesBefore) (maxL := 3) (ret := (some .boolean)) (by decide) rfl ?_
  intro p e s m args below meth c s₁ B hml hv
  obtain ⟨rfl, hP, hK⟩ := hv
  generalize hargs : ([.ref (A m_o), .int a1, .int a2] : List Value).toArray = args at B ⊢
  have S : CallFix p m c cX11_goesBefore 3 s args wsX11_goesBefore RX11 := ⟨B.exec, B.bytes, hml, findClass_of_methodNamed B.named, atoms_spec (ws := wsX11_goesBefore) B.pre⟩
  obtain ⟨hx, hb, -, hown, hts⟩ := id S
  have hr := B.returns
  have hlocks := B.notSynchronized
  have X : gX D vwCl dA mLive A (gA mLive A) s := ⟨hK, hJ, fun i hi => ⟨i, hi, rfl⟩⟩
  have Z : gZ D mLay dA mLive A (gA mLive A) s.heap M s.heap [] := ⟨hP, va_S.rf⟩
  have hin : ∀ w ∈ wsX110, w ∈ wsX11_goesBefore := fun w h => List.mem_cons_of_mem _ (List.mem_append_right _ h)
  have hl_83 := hts (.fieldLink RX11 83 "ReplicaFilesModel" "usedAt" "[I") (by decide +kernel)
  have hl_95 := hts (.fieldLink RX11 95 "ReplicaFilesModel" "priorities" "[I") (by decide +kernel)
  have hl := lv_entry ([.ref (A m_o), .int a1, .int a2]) (n := 3) (Nat.le_of_ble_eq_true rfl)
  rw [← hargs, lg_entry_eq, hargs]
  generalize (lg_sl ([.ref (A m_o), .int a1, .int a2]) ++ List.replicate (3 - (lg_sl ([.ref (A m_o), .int a1, .int a2])).length) Slot.unset).toArray = ls at hl ⊢
  have hl : lv_has ls 3 [(0, .ref (A m_o)), (1, .int a1), (2, .int a2)] := hl
  unfold f_X11_goesBefore at h
  refine lv_aload_n hx hb dX11_goesBefore_0 rfl (lv_at hl 0 rfl) ?_
  refine mr_priorities S X Z hin hl_95 dX11_goesBefore_1 ?_
  refine lv_iload_n hx hb dX11_goesBefore_4 rfl (lv_at hl 1 rfl) ?_
  refine g_iald S X Z ml_priorities rfl dX11_goesBefore_5 h (fun v1 h => ?_)
  refine lv_aload_n hx hb dX11_goesBefore_6 rfl (lv_at hl 0 rfl) ?_
  refine mr_priorities S X Z hin hl_95 dX11_goesBefore_7 ?_
  refine lv_iload_n hx hb dX11_goesBefore_10 rfl (lv_at hl 2 rfl) ?_
  refine g_iald S X Z ml_priorities rfl dX11_goesBefore_11 h (fun v2 h => ?_)
  refine lv_icmp_eq (tgt := 38) hx hb dX11_goesBefore_12 (by decide) (fun c3 => ?_) (fun c3 => ?_)
  · have h := if_t c3 h
    refine lv_aload_n hx hb dX11_goesBefore_38 rfl (lv_at hl 0 rfl) ?_
    refine mr_usedAt S X Z hin hl_83 dX11_goesBefore_39 ?_
    refine lv_iload_n hx hb dX11_goesBefore_42 rfl (lv_at hl 1 rfl) ?_
    refine g_iald S X Z ml_usedAt rfl dX11_goesBefore_43 h (fun v4 h => ?_)
    refine lv_aload_n hx hb dX11_goesBefore_44 rfl (lv_at hl 0 rfl) ?_
    refine mr_usedAt S X Z hin hl_83 dX11_goesBefore_45 ?_
    refine lv_iload_n hx hb dX11_goesBefore_48 rfl (lv_at hl 2 rfl) ?_
    refine g_iald S X Z ml_usedAt rfl dX11_goesBefore_49 h (fun v5 h => ?_)
    refine lv_icmp_ge (tgt := 57) hx hb dX11_goesBefore_50 (by decide) (fun c6 => ?_) (fun c6 => ?_)
    · have h := if_t c6 h
      refine lv_iconst (v := (0 : Int32)) hx hb dX11_goesBefore_57 (by decide) ?_
      have hy := Option.some.inj h
      subst hy
      exact g_rz (Or.inl rfl) S Z hr hlocks dX11_goesBefore_58
    · have h := if_f c6 h
      refine lv_iconst (v := (1 : Int32)) hx hb dX11_goesBefore_53 (by decide) ?_
      refine lv_goto (tgt := 58) hx hb dX11_goesBefore_54 (by decide) ?_
      have hy := Option.some.inj h
      subst hy
      exact g_rz (Or.inr rfl) S Z hr hlocks dX11_goesBefore_58
  · have h := if_f c3 h
    refine lv_aload_n hx hb dX11_goesBefore_15 rfl (lv_at hl 0 rfl) ?_
    refine mr_priorities S X Z hin hl_95 dX11_goesBefore_16 ?_
    refine lv_iload_n hx hb dX11_goesBefore_19 rfl (lv_at hl 1 rfl) ?_
    refine g_iald S X Z ml_priorities rfl dX11_goesBefore_20 h (fun v7 h => ?_)
    refine lv_aload_n hx hb dX11_goesBefore_21 rfl (lv_at hl 0 rfl) ?_
    refine mr_priorities S X Z hin hl_95 dX11_goesBefore_22 ?_
    refine lv_iload_n hx hb dX11_goesBefore_25 rfl (lv_at hl 2 rfl) ?_
    refine g_iald S X Z ml_priorities rfl dX11_goesBefore_26 h (fun v8 h => ?_)
    refine lv_icmp_ge (tgt := 34) hx hb dX11_goesBefore_27 (by decide) (fun c9 => ?_) (fun c9 => ?_)
    · have h := if_t c9 h
      refine lv_iconst (v := (0 : Int32)) hx hb dX11_goesBefore_34 (by decide) ?_
      refine lv_goto (tgt := 58) hx hb dX11_goesBefore_35 (by decide) ?_
      have hy := Option.some.inj h
      subst hy
      exact g_rz (Or.inl rfl) S Z hr hlocks dX11_goesBefore_58
    · have h := if_f c9 h
      refine lv_iconst (v := (1 : Int32)) hx hb dX11_goesBefore_30 (by decide) ?_
      refine lv_goto (tgt := 58) hx hb dX11_goesBefore_31 (by decide) ?_
      have hy := Option.some.inj h
      subst hy
      exact g_rz (Or.inr rfl) S Z hr hlocks dX11_goesBefore_58
-- X11_makeRoom (IIII)Z: 98 instructions
set_option maxRecDepth 20000 in
theorem ggX11_makeRoom_X11_weightKept : GoodIn wsX11_makeRoom wsX11_weightKept := goodIn_r _ [6, 7, 8, 9, 10, 11, 5, 12, 13, 39, 40, 41, 42, 43, 44, 45, 46, 47, 48, 49, 50, 51, 52, 53, 54, 55, 56, 57, 58, 59, 60, 61, 62, 63, 64, 65, 66, 67, 68, 69, 70, 71, 72, 73, 74, 75, 76, 77, 78, 79, 80, 81, 82, 83, 84, 85, 86, 87, 88, 89, 90, 91, 92, 93, 94, 95, 96, 97, 98, 99, 100, 101, 102, 103, 104, 105] (by decide +kernel) (by decide +kernel)
set_option maxRecDepth 20000 in
theorem gX11_makeRoom_X11_weightKept : GoodIn wsX11_makeRoom (wsV RX11 214 RX11 yX11_weightKept wsX11_weightKept) := goodIn_app (goodIn_of _ (by decide +kernel)) ggX11_makeRoom_X11_weightKept
set_option maxRecDepth 20000 in
theorem ggX11_makeRoom_X11_mayGo : GoodIn wsX11_makeRoom wsX11_mayGo := goodIn_r _ [17, 7, 18, 19, 20, 21, 39, 40, 41, 42, 43, 44, 45, 46, 47, 48, 49, 50, 51, 52, 53, 54, 55, 56, 57, 58, 59, 60, 61, 62, 63, 64, 65, 66, 67, 68, 69, 70, 71, 72, 73, 74, 75, 76, 77, 78, 79, 80, 81, 82, 83, 84, 85, 86, 87, 88, 89, 90, 91, 92, 93, 94, 95, 96, 97, 98, 99, 100, 101, 102, 103, 104, 105] (by decide +kernel) (by decide +kernel)
set_option maxRecDepth 20000 in
theorem gX11_makeRoom_X11_mayGo : GoodIn wsX11_makeRoom (wsV RX11 217 RX11 yX11_mayGo wsX11_mayGo) := goodIn_app (goodIn_of _ (by decide +kernel)) ggX11_makeRoom_X11_mayGo
set_option maxRecDepth 20000 in
theorem ggX11_makeRoom_X11_goesBefore : GoodIn wsX11_makeRoom wsX11_goesBefore := goodIn_r _ [25, 21, 26, 39, 40, 41, 42, 43, 44, 45, 46, 47, 48, 49, 50, 51, 52, 53, 54, 55, 56, 57, 58, 59, 60, 61, 62, 63, 64, 65, 66, 67, 68, 69, 70, 71, 72, 73, 74, 75, 76, 77, 78, 79, 80, 81, 82, 83, 84, 85, 86, 87, 88, 89, 90, 91, 92, 93, 94, 95, 96, 97, 98, 99, 100, 101, 102, 103, 104, 105] (by decide +kernel) (by decide +kernel)
set_option maxRecDepth 20000 in
theorem gX11_makeRoom_X11_goesBefore : GoodIn wsX11_makeRoom (wsV RX11 221 RX11 yX11_goesBefore wsX11_goesBefore) := goodIn_app (goodIn_of _ (by decide +kernel)) ggX11_makeRoom_X11_goesBefore
set_option maxRecDepth 20000 in
theorem ggX11_makeRoom_X11_forget : GoodIn wsX11_makeRoom wsX11_forget := goodIn_r _ [30, 7, 18, 31, 32, 33, 34, 35, 36, 5, 37, 38, 39, 40, 41, 42, 43, 44, 45, 46, 47, 48, 49, 50, 51, 52, 53, 54, 55, 56, 57, 58, 59, 60, 61, 62, 63, 64, 65, 66, 67, 68, 69, 70, 71, 72, 73, 74, 75, 76, 77, 78, 79, 80, 81, 82, 83, 84, 85, 86, 87, 88, 89, 90, 91, 92, 93, 94, 95, 96, 97, 98, 99, 100, 101, 102, 103, 104, 105] (by decide +kernel) (by decide +kernel)
set_option maxRecDepth 20000 in
theorem gX11_makeRoom_X11_forget : GoodIn wsX11_makeRoom (wsV RX11 224 RX11 yX11_forget wsX11_forget) := goodIn_app (goodIn_of _ (by decide +kernel)) ggX11_makeRoom_X11_forget
theorem dX11_makeRoom_0 : decode cX11_makeRoom 0 = .ok (.iload_n 2, 1) := by decide +kernel
theorem dX11_makeRoom_1 : decode cX11_makeRoom 1 = .ok (.istore 5, 2) := by decide +kernel
theorem dX11_makeRoom_3 : decode cX11_makeRoom 3 = .ok (.iconst 0, 1) := by decide +kernel
theorem dX11_makeRoom_4 : decode cX11_makeRoom 4 = .ok (.istore 6, 2) := by decide +kernel
theorem dX11_makeRoom_6 : decode cX11_makeRoom 6 = .ok (.iconst 0, 1) := by decide +kernel
theorem dX11_makeRoom_7 : decode cX11_makeRoom 7 = .ok (.istore 7, 2) := by decide +kernel
theorem dX11_makeRoom_9 : decode cX11_makeRoom 9 = .ok (.iload 7, 2) := by decide +kernel
theorem dX11_makeRoom_11 : decode cX11_makeRoom 11 = .ok (.bipush 48, 2) := by decide +kernel
theorem dX11_makeRoom_13 : decode cX11_makeRoom 13 = .ok (.if_icmp .ge 50, 3) := by decide +kernel
theorem dX11_makeRoom_16 : decode cX11_makeRoom 16 = .ok (.iload 5, 2) := by decide +kernel
theorem dX11_makeRoom_18 : decode cX11_makeRoom 18 = .ok (.aload_n 0, 1) := by decide +kernel
theorem dX11_makeRoom_19 : decode cX11_makeRoom 19 = .ok (.iload_n 1, 1) := by decide +kernel
theorem dX11_makeRoom_20 : decode cX11_makeRoom 20 = .ok (.iload 7, 2) := by decide +kernel
theorem dX11_makeRoom_22 : decode cX11_makeRoom 22 = .ok (.invokevirtual 214, 3) := by decide +kernel
theorem dX11_makeRoom_25 : decode cX11_makeRoom 25 = .ok (.iadd, 1) := by decide +kernel
theorem dX11_makeRoom_26 : decode cX11_makeRoom 26 = .ok (.istore 5, 2) := by decide +kernel
theorem dX11_makeRoom_28 : decode cX11_makeRoom 28 = .ok (.iload 6, 2) := by decide +kernel
theorem dX11_makeRoom_30 : decode cX11_makeRoom 30 = .ok (.aload_n 0, 1) := by decide +kernel
theorem dX11_makeRoom_31 : decode cX11_makeRoom 31 = .ok (.iload_n 1, 1) := by decide +kernel
theorem dX11_makeRoom_32 : decode cX11_makeRoom 32 = .ok (.iload 7, 2) := by decide +kernel
theorem dX11_makeRoom_34 : decode cX11_makeRoom 34 = .ok (.iload_n 3, 1) := by decide +kernel
theorem dX11_makeRoom_35 : decode cX11_makeRoom 35 = .ok (.iload 4, 2) := by decide +kernel
theorem dX11_makeRoom_37 : decode cX11_makeRoom 37 = .ok (.invokevirtual 217, 3) := by decide +kernel
theorem dX11_makeRoom_40 : decode cX11_makeRoom 40 = .ok (.ifCond .eq 13, 3) := by decide +kernel
theorem dX11_makeRoom_43 : decode cX11_makeRoom 43 = .ok (.aload_n 0, 1) := by decide +kernel
theorem dX11_makeRoom_44 : decode cX11_makeRoom 44 = .ok (.iload_n 1, 1) := by decide +kernel
theorem dX11_makeRoom_45 : decode cX11_makeRoom 45 = .ok (.iload 7, 2) := by decide +kernel
theorem dX11_makeRoom_47 : decode cX11_makeRoom 47 = .ok (.invokevirtual 214, 3) := by decide +kernel
theorem dX11_makeRoom_50 : decode cX11_makeRoom 50 = .ok (.goto 4, 3) := by decide +kernel
theorem dX11_makeRoom_53 : decode cX11_makeRoom 53 = .ok (.iconst 0, 1) := by decide +kernel
theorem dX11_makeRoom_54 : decode cX11_makeRoom 54 = .ok (.iadd, 1) := by decide +kernel
theorem dX11_makeRoom_55 : decode cX11_makeRoom 55 = .ok (.istore 6, 2) := by decide +kernel
theorem dX11_makeRoom_57 : decode cX11_makeRoom 57 = .ok (.iinc 7 1, 3) := by decide +kernel
theorem dX11_makeRoom_60 : decode cX11_makeRoom 60 = .ok (.goto (-51), 3) := by decide +kernel
theorem dX11_makeRoom_63 : decode cX11_makeRoom 63 = .ok (.iload 5, 2) := by decide +kernel
theorem dX11_makeRoom_65 : decode cX11_makeRoom 65 = .ok (.iload 6, 2) := by decide +kernel
theorem dX11_makeRoom_67 : decode cX11_makeRoom 67 = .ok (.isub, 1) := by decide +kernel
theorem dX11_makeRoom_68 : decode cX11_makeRoom 68 = .ok (.bipush 24, 2) := by decide +kernel
theorem dX11_makeRoom_70 : decode cX11_makeRoom 70 = .ok (.if_icmp .le 5, 3) := by decide +kernel
theorem dX11_makeRoom_73 : decode cX11_makeRoom 73 = .ok (.iconst 0, 1) := by decide +kernel
theorem dX11_makeRoom_74 : decode cX11_makeRoom 74 = .ok (.ireturn, 1) := by decide +kernel
theorem dX11_makeRoom_75 : decode cX11_makeRoom 75 = .ok (.iload 5, 2) := by decide +kernel
theorem dX11_makeRoom_77 : decode cX11_makeRoom 77 = .ok (.bipush 24, 2) := by decide +kernel
theorem dX11_makeRoom_79 : decode cX11_makeRoom 79 = .ok (.if_icmp .le 98, 3) := by decide +kernel
theorem dX11_makeRoom_82 : decode cX11_makeRoom 82 = .ok (.iconst (-1), 1) := by decide +kernel
theorem dX11_makeRoom_83 : decode cX11_makeRoom 83 = .ok (.istore 7, 2) := by decide +kernel
theorem dX11_makeRoom_85 : decode cX11_makeRoom 85 = .ok (.iconst 0, 1) := by decide +kernel
theorem dX11_makeRoom_86 : decode cX11_makeRoom 86 = .ok (.istore 8, 2) := by decide +kernel
theorem dX11_makeRoom_88 : decode cX11_makeRoom 88 = .ok (.iload 8, 2) := by decide +kernel
theorem dX11_makeRoom_90 : decode cX11_makeRoom 90 = .ok (.bipush 48, 2) := by decide +kernel
theorem dX11_makeRoom_92 : decode cX11_makeRoom 92 = .ok (.if_icmp .ge 53, 3) := by decide +kernel
theorem dX11_makeRoom_95 : decode cX11_makeRoom 95 = .ok (.aload_n 0, 1) := by decide +kernel
theorem dX11_makeRoom_96 : decode cX11_makeRoom 96 = .ok (.iload_n 1, 1) := by decide +kernel
theorem dX11_makeRoom_97 : decode cX11_makeRoom 97 = .ok (.iload 8, 2) := by decide +kernel
theorem dX11_makeRoom_99 : decode cX11_makeRoom 99 = .ok (.iload_n 3, 1) := by decide +kernel
theorem dX11_makeRoom_100 : decode cX11_makeRoom 100 = .ok (.iload 4, 2) := by decide +kernel
theorem dX11_makeRoom_102 : decode cX11_makeRoom 102 = .ok (.invokevirtual 217, 3) := by decide +kernel
theorem dX11_makeRoom_105 : decode cX11_makeRoom 105 = .ok (.ifCond .eq 34, 3) := by decide +kernel
theorem dX11_makeRoom_108 : decode cX11_makeRoom 108 = .ok (.iload 7, 2) := by decide +kernel
theorem dX11_makeRoom_110 : decode cX11_makeRoom 110 = .ok (.iconst (-1), 1) := by decide +kernel
theorem dX11_makeRoom_111 : decode cX11_makeRoom 111 = .ok (.if_icmp .eq 24, 3) := by decide +kernel
theorem dX11_makeRoom_114 : decode cX11_makeRoom 114 = .ok (.aload_n 0, 1) := by decide +kernel
theorem dX11_makeRoom_115 : decode cX11_makeRoom 115 = .ok (.bipush 48, 2) := by decide +kernel
theorem dX11_makeRoom_117 : decode cX11_makeRoom 117 = .ok (.iload_n 1, 1) := by decide +kernel
theorem dX11_makeRoom_118 : decode cX11_makeRoom 118 = .ok (.imul, 1) := by decide +kernel
theorem dX11_makeRoom_119 : decode cX11_makeRoom 119 = .ok (.iload 8, 2) := by decide +kernel
theorem dX11_makeRoom_121 : decode cX11_makeRoom 121 = .ok (.iadd, 1) := by decide +kernel
theorem dX11_makeRoom_122 : decode cX11_makeRoom 122 = .ok (.bipush 48, 2) := by decide +kernel
theorem dX11_makeRoom_124 : decode cX11_makeRoom 124 = .ok (.iload_n 1, 1) := by decide +kernel
theorem dX11_makeRoom_125 : decode cX11_makeRoom 125 = .ok (.imul, 1) := by decide +kernel
theorem dX11_makeRoom_126 : decode cX11_makeRoom 126 = .ok (.iload 7, 2) := by decide +kernel
theorem dX11_makeRoom_128 : decode cX11_makeRoom 128 = .ok (.iadd, 1) := by decide +kernel
theorem dX11_makeRoom_129 : decode cX11_makeRoom 129 = .ok (.invokevirtual 221, 3) := by decide +kernel
theorem dX11_makeRoom_132 : decode cX11_makeRoom 132 = .ok (.ifCond .eq 7, 3) := by decide +kernel
theorem dX11_makeRoom_135 : decode cX11_makeRoom 135 = .ok (.iload 8, 2) := by decide +kernel
theorem dX11_makeRoom_137 : decode cX11_makeRoom 137 = .ok (.istore 7, 2) := by decide +kernel
theorem dX11_makeRoom_139 : decode cX11_makeRoom 139 = .ok (.iinc 8 1, 3) := by decide +kernel
theorem dX11_makeRoom_142 : decode cX11_makeRoom 142 = .ok (.goto (-54), 3) := by decide +kernel
theorem dX11_makeRoom_145 : decode cX11_makeRoom 145 = .ok (.iload 5, 2) := by decide +kernel
theorem dX11_makeRoom_147 : decode cX11_makeRoom 147 = .ok (.aload_n 0, 1) := by decide +kernel
theorem dX11_makeRoom_148 : decode cX11_makeRoom 148 = .ok (.iload_n 1, 1) := by decide +kernel
theorem dX11_makeRoom_149 : decode cX11_makeRoom 149 = .ok (.iload 7, 2) := by decide +kernel
theorem dX11_makeRoom_151 : decode cX11_makeRoom 151 = .ok (.invokevirtual 214, 3) := by decide +kernel
theorem dX11_makeRoom_154 : decode cX11_makeRoom 154 = .ok (.isub, 1) := by decide +kernel
theorem dX11_makeRoom_155 : decode cX11_makeRoom 155 = .ok (.istore 5, 2) := by decide +kernel
theorem dX11_makeRoom_157 : decode cX11_makeRoom 157 = .ok (.aload_n 0, 1) := by decide +kernel
theorem dX11_makeRoom_158 : decode cX11_makeRoom 158 = .ok (.iload_n 1, 1) := by decide +kernel
theorem dX11_makeRoom_159 : decode cX11_makeRoom 159 = .ok (.iload 7, 2) := by decide +kernel
theorem dX11_makeRoom_161 : decode cX11_makeRoom 161 = .ok (.invokevirtual 224, 3) := by decide +kernel
theorem dX11_makeRoom_164 : decode cX11_makeRoom 164 = .ok (.aload_n 0, 1) := by decide +kernel
theorem dX11_makeRoom_165 : decode cX11_makeRoom 165 = .ok (.dup, 1) := by decide +kernel
theorem dX11_makeRoom_166 : decode cX11_makeRoom 166 = .ok (.getfield 228, 3) := by decide +kernel
theorem dX11_makeRoom_169 : decode cX11_makeRoom 169 = .ok (.iconst 1, 1) := by decide +kernel
theorem dX11_makeRoom_170 : decode cX11_makeRoom 170 = .ok (.iadd, 1) := by decide +kernel
theorem dX11_makeRoom_171 : decode cX11_makeRoom 171 = .ok (.putfield 228, 3) := by decide +kernel
theorem dX11_makeRoom_174 : decode cX11_makeRoom 174 = .ok (.goto (-99), 3) := by decide +kernel
theorem dX11_makeRoom_177 : decode cX11_makeRoom 177 = .ok (.iconst 1, 1) := by decide +kernel
theorem dX11_makeRoom_178 : decode cX11_makeRoom 178 = .ok (.ireturn, 1) := by decide +kernel
def f_X11_makeRoom_L88 (a1 : Int32) (a3 : Int32) (a4 : Int32) (x5 : Int32) (J145 : (Int32 × gM) → Option (Int32 × gM)) : Nat → Int32 → Int32 → gM → Option (Int32 × gM)
  | 0, _, _, _ => none
  | n21 + 1, x18, x19, M20 => (if (48 : Int32) ≤ x19 then J145 (x18, M20) else o1 (f_X11_mayGo M20 a1 x19 a3 a4) (fun v24 => jn (fun (q : (Int32 × gM)) => match q with | (b25, M26) => lt (x19 + 1) (fun x27 => f_X11_makeRoom_L88 a1 a3 a4 x5 J145 n21 b25 x27 M26)) (fun J139 => (if v24 = 0 then J139 (x18, M20) else jn (fun (M29 : gM) => J139 (x19, M29)) (fun J135 => (if x18 = (-1 : Int32) then J135 M20 else o1 (f_X11_goesBefore M20 (((48 : Int32) * a1) + x19) (((48 : Int32) * a1) + x18)) (fun v32 => (if v32 = 0 then J139 (x18, M20) else J135 M20))))))))
def f_X11_makeRoom_L75 (a1 : Int32) (a3 : Int32) (a4 : Int32) : Nat → Int32 → gM → Option (Int32 × gM)
  | 0, _, _ => none
  | n7 + 1, x5, M6 => (if x5 ≤ (24 : Int32) then some ((1 : Int32), M6) else jn (fun (q : (Int32 × gM)) => match q with | (b9, M10) => o1 (f_X11_weightKept M10 a1 b9) (fun v12 => lt ((x5 - v12)) (fun x13 => o1 (f_X11_forget M10 a1 b9) (fun M15 => lt (M15 m_o 50) (fun v16 => lt (gset M15 m_o 50 (v16 + (1 : Int32))) (fun M17 => f_X11_makeRoom_L75 a1 a3 a4 n7 x13 M17)))))) (fun J145 => f_X11_makeRoom_L88 a1 a3 a4 x5 J145 100 (-1 : Int32) (0 : Int32) M6))
def f_X11_makeRoom_L9 (a1 : Int32) (a3 : Int32) (a4 : Int32) (J63 : (Int32 × Int32 × gM) → Option (Int32 × gM)) : Nat → Int32 → Int32 → Int32 → gM → Option (Int32 × gM)
  | 0, _, _, _, _ => none
  | n38 + 1, x34, x35, x36, M37 => (if (48 : Int32) ≤ x36 then J63 (x34, x35, M37) else o1 (f_X11_weightKept M37 a1 x36) (fun v41 => lt ((x34 + v41)) (fun x42 => o1 (f_X11_mayGo M37 a1 x36 a3 a4) (fun v44 => jn (fun (q : (Int32 × gM)) => match q with | (b45, M46) => lt ((x35 + b45)) (fun x47 => lt (x36 + 1) (fun x48 => f_X11_makeRoom_L9 a1 a3 a4 J63 n38 x42 x47 x48 M46))) (fun J54 => (if v44 = 0 then J54 ((0 : Int32), M37) else o1 (f_X11_weightKept M37 a1 x36) (fun v51 => J54 (v51, M37))))))))
def f_X11_makeRoom (M : gM) (a1 : Int32) (a2 : Int32) (a3 : Int32) (a4 : Int32) : Option (Int32 × gM) :=
  jn (fun (q : (Int32 × Int32 × gM)) => match q with | (b1, b2, M3) => (if (b1 - b2) ≤ (24 : Int32) then f_X11_makeRoom_L75 a1 a3 a4 100 b1 M3 else some ((0 : Int32), M3))) (fun J63 => f_X11_makeRoom_L9 a1 a3 a4 J63 100 a2 (0 : Int32) (0 : Int32) M)
set_option maxHeartbeats 4000000 in
set_option maxRecDepth 100000 in
theorem t_X11_makeRoom (l : Launch) (D : va_G) (dA : Nat → ClassId) (A : gI → Nat) (hJ : gJ mLive A) {M : gM} {a1 : Int32} {a2 : Int32} {a3 : Int32} {a4 : Int32}  {y : (Int32 × gM)} (h : f_X11_makeRoom M a1 a2 a3 a4 = some y) : mMi l yX11_makeRoom wsX11_makeRoom ({ frames := 2, cells := 0, slots := 0, locals := 45 } : Room) D dA A [.ref (A m_o), .int a1, .int a2, .int a3, .int a4] M y.1 y.2 := by
  refine Met.ofW (cc := cX11_makeRoom) (maxL := 9) (ret := (some .boolean)) (by decide) rfl ?_
  intro p e s m args below meth c s₁ B hml hv
  obtain ⟨rfl, hP, hK⟩ := hv
  generalize hargs : ([.ref (A m_o), .int a1, .int a2, .int a3, .int a4] : List Value).toArray = args at B ⊢
  have S : CallFix p m c cX11_makeRoom 9 s args wsX11_makeRoom RX11 := ⟨B.exec, B.bytes, hml, findClass_of_methodNamed B.named, atoms_spec (ws := wsX11_makeRoom) B.pre⟩
  obtain ⟨hx, hb, -, hown, hts⟩ := id S
  have hr := B.returns
  have hlocks := B.notSynchronized
  have X : gX D vwCl dA mLive A (gA mLive A) s := ⟨hK, hJ, fun i hi => ⟨i, hi, rfl⟩⟩
  have Z : gZ D mLay dA mLive A (gA mLive A) s.heap M s.heap [] := ⟨hP, va_S.rf⟩
  have hin : ∀ w ∈ wsX110, w ∈ wsX11_makeRoom := fun w h => List.mem_cons_of_mem _ (List.mem_append_right _ h)
  have hl_228 := hts (.fieldLink RX11 228 "ReplicaFilesModel" "went" "I") (by decide +kernel)
  have hl := lv_entry ([.ref (A m_o), .int a1, .int a2, .int a3, .int a4]) (n := 9) (Nat.le_of_ble_eq_true rfl)
  rw [← hargs, lg_entry_eq, hargs]
  generalize (lg_sl ([.ref (A m_o), .int a1, .int a2, .int a3, .int a4]) ++ List.replicate (9 - (lg_sl ([.ref (A m_o), .int a1, .int a2, .int a3, .int a4])).length) Slot.unset).toArray = ls at hl ⊢
  have hl : lv_has ls 9 [(0, .ref (A m_o)), (1, .int a1), (2, .int a2), (3, .int a3), (4, .int a4)] := hl
  unfold f_X11_makeRoom at h
  refine lv_iload_n hx hb dX11_makeRoom_0 rfl (lv_at hl 2 rfl) ?_
  refine lv_istore (lv' := [(5, .int a2), (0, .ref (A m_o)), (1, .int a1), (2, .int a2), (3, .int a3), (4, .int a4)]) hx hb dX11_makeRoom_1 hl (by decide) rfl (fun ls hl => ?_)
  refine lv_iconst (v := (0 : Int32)) hx hb dX11_makeRoom_3 (by decide) ?_
  refine lv_istore (lv' := [(6, .int (0 : Int32)), (5, .int a2), (0, .ref (A m_o)), (1, .int a1), (2, .int a2), (3, .int a3), (4, .int a4)]) hx hb dX11_makeRoom_4 hl (by decide) rfl (fun ls hl => ?_)
  refine lv_iconst (v := (0 : Int32)) hx hb dX11_makeRoom_6 (by decide) ?_
  refine lv_istore (lv' := [(7, .int (0 : Int32)), (6, .int (0 : Int32)), (5, .int a2), (0, .ref (A m_o)), (1, .int a1), (2, .int a2), (3, .int a3), (4, .int a4)]) hx hb dX11_makeRoom_7 hl (by decide) rfl (fun ls hl => ?_)
  obtain ⟨J63, eJ63, h⟩ := jn_e h
  have hJ63 : ∀ (b1 : Int32) (b2 : Int32) (M3 : gM) (H : Heap) (locs : List Loc) (ls : Array Slot), gZ D mLay dA mLive A (gA mLive A) s.heap M3 H locs → lv_has ls 9 [(0, .ref (A m_o)), (1, .int a1), (3, .int a3), (4, .int a4), (5, .int b1), (6, .int b2)] → J63 (b1, b2, M3) = some y → W p l e (headSpec wsX11_makeRoom ({ frames := 2, cells := 0, slots := 0, locals := 45 } : Room)).room s m args below meth c H locs 0 0 (MQ below (mQi D dA A y) args s 0 0 (gA mLive A)) (F0 m 63 ls []) := by
    intro b1 b2 M3 H locs ls Z hl h
    rw [eJ63] at h
    try dsimp only at h
    refine lv_iload hx hb dX11_makeRoom_63 (lv_at hl 4 rfl) ?_
    refine lv_iload hx hb dX11_makeRoom_65 (lv_at hl 5 rfl) ?_
    refine lv_isub hx hb dX11_makeRoom_67 ?_
    refine lv_bipush (v := (24 : Int32)) hx hb dX11_makeRoom_68 (by decide) ?_
    refine lv_icmp_le (tgt := 75) hx hb dX11_makeRoom_70 (by decide) (fun c4 => ?_) (fun c4 => ?_)
    · have h := if_t c4 h
      have hL75 : ∀ (n : Nat) (x5 : Int32) (M6 : gM) (H : Heap) (locs : List Loc) (ls : Array Slot), gZ D mLay dA mLive A (gA mLive A) s.heap M6 H locs → lv_has ls 9 [(0, .ref (A m_o)), (1, .int a1), (3, .int a3), (4, .int a4), (5, .int x5)] → f_X11_makeRoom_L75 a1 a3 a4 n x5 M6 = some y → W p l e (headSpec wsX11_makeRoom ({ frames := 2, cells := 0, slots := 0, locals := 45 } : Room)).room s m args below meth c H locs 0 0 (MQ below (mQi D dA A y) args s 0 0 (gA mLive A)) (F0 m 75 ls []) := by
        intro n
        induction n with
        | zero =>
          intro x5 M6 H locs ls Z hl h
          rw [f_X11_makeRoom_L75] at h
          cases h
        | succ n7 ih75 =>
          intro x5 M6 H locs ls Z hl h
          rw [f_X11_makeRoom_L75] at h
          refine lv_iload hx hb dX11_makeRoom_75 (lv_at hl 4 rfl) ?_
          refine lv_bipush (v := (24 : Int32)) hx hb dX11_makeRoom_77 (by decide) ?_
          refine lv_icmp_le (tgt := 177) hx hb dX11_makeRoom_79 (by decide) (fun c8 => ?_) (fun c8 => ?_)
          · have h := if_t c8 h
            refine lv_iconst (v := (1 : Int32)) hx hb dX11_makeRoom_177 (by decide) ?_
            have hy := Option.some.inj h
            subst hy
            exact g_rz (Or.inr rfl) S Z hr hlocks dX11_makeRoom_178
          · have h := if_f c8 h
            refine lv_iconst (v := (-1 : Int32)) hx hb dX11_makeRoom_82 (by decide) ?_
            refine lv_istore (lv' := [(7, .int (-1 : Int32)), (0, .ref (A m_o)), (1, .int a1), (3, .int a3), (4, .int a4), (5, .int x5)]) hx hb dX11_makeRoom_83 hl (by decide) rfl (fun ls hl => ?_)
            refine lv_iconst (v := (0 : Int32)) hx hb dX11_makeRoom_85 (by decide) ?_
            refine lv_istore (lv' := [(8, .int (0 : Int32)), (7, .int (-1 : Int32)), (0, .ref (A m_o)), (1, .int a1), (3, .int a3), (4, .int a4), (5, .int x5)]) hx hb dX11_makeRoom_86 hl (by decide) rfl (fun ls hl => ?_)
            obtain ⟨J145, eJ145, h⟩ := jn_e h
            have hJ145 : ∀ (b9 : Int32) (M10 : gM) (H : Heap) (locs : List Loc) (ls : Array Slot), gZ D mLay dA mLive A (gA mLive A) s.heap M10 H locs → lv_has ls 9 [(0, .ref (A m_o)), (1, .int a1), (3, .int a3), (4, .int a4), (5, .int x5), (7, .int b9)] → J145 (b9, M10) = some y → W p l e (headSpec wsX11_makeRoom ({ frames := 2, cells := 0, slots := 0, locals := 45 } : Room)).room s m args below meth c H locs 0 0 (MQ below (mQi D dA A y) args s 0 0 (gA mLive A)) (F0 m 145 ls []) := by
              intro b9 M10 H locs ls Z hl h
              rw [eJ145] at h
              try dsimp only at h
              refine lv_iload hx hb dX11_makeRoom_145 (lv_at hl 4 rfl) ?_
              refine lv_aload_n hx hb dX11_makeRoom_147 rfl (lv_at hl 0 rfl) ?_
              refine lv_iload_n hx hb dX11_makeRoom_148 rfl (lv_at hl 1 rfl) ?_
              refine lv_iload hx hb dX11_makeRoom_149 (lv_at hl 5 rfl) ?_
              obtain ⟨v12, hc11, h⟩ := o1_e h
              refine g_Vi (As := [.int a1, .int b9]) (rest := [.int x5]) S X Z mlv_o rfl rfl (t_X11_weightKept l D dA A hJ  hc11) (cwV 2 hts gX11_makeRoom_X11_weightKept rfl rfl rfl (by decide +kernel) ⟨Nat.le_of_ble_eq_true rfl, Nat.le_of_ble_eq_true rfl⟩) rfl hl.1 rfl (Nat.le_of_ble_eq_true rfl) dX11_makeRoom_151 ⟨Nat.zero_le _, Nat.zero_le _⟩ (fun H locs Z => ?_)
              refine lv_isub hx hb dX11_makeRoom_154 ?_
              refine g_topi h (fun x13 h => ?_)
              refine lv_istore (lv' := [(5, .int x13), (0, .ref (A m_o)), (1, .int a1), (3, .int a3), (4, .int a4), (7, .int b9)]) hx hb dX11_makeRoom_155 hl (by decide) rfl (fun ls hl => ?_)
              refine lv_aload_n hx hb dX11_makeRoom_157 rfl (lv_at hl 1 rfl) ?_
              refine lv_iload_n hx hb dX11_makeRoom_158 rfl (lv_at hl 2 rfl) ?_
              refine lv_iload hx hb dX11_makeRoom_159 (lv_at hl 5 rfl) ?_
              obtain ⟨M15, hc14, h⟩ := o1_e h
              refine g_Vv (As := [.int a1, .int b9]) (rest := []) S X Z mlv_o rfl rfl (t_X11_forget l D dA A hJ  hc14) (cwV 2 hts gX11_makeRoom_X11_forget rfl rfl rfl (by decide +kernel) ⟨Nat.le_of_ble_eq_true rfl, Nat.le_of_ble_eq_true rfl⟩) rfl hl.1 rfl (Nat.le_of_ble_eq_true rfl) dX11_makeRoom_161 ⟨Nat.zero_le _, Nat.zero_le _⟩ (fun H locs Z => ?_)
              refine lv_aload_n hx hb dX11_makeRoom_164 rfl (lv_at hl 1 rfl) ?_
              refine lv_dup hx hb dX11_makeRoom_165 rfl ?_
              refine mr_went S X Z hin hl_228 dX11_makeRoom_166 h (fun v16 h => ?_)
              refine lv_iconst (v := (1 : Int32)) hx hb dX11_makeRoom_169 (by decide) ?_
              refine lv_iadd hx hb dX11_makeRoom_170 ?_
              refine mp_went S X Z hin hl_228 dX11_makeRoom_171 h (fun M17 H locs Z h => ?_)
              refine lv_goto (tgt := 75) hx hb dX11_makeRoom_174 (by decide) ?_
              exact ih75 x13 M17 _ _ _ Z (lv_sub hl [1, 2, 3, 4, 0] rfl) h
            have hL88 : ∀ (n : Nat) (x18 : Int32) (x19 : Int32) (M20 : gM) (H : Heap) (locs : List Loc) (ls : Array Slot), gZ D mLay dA mLive A (gA mLive A) s.heap M20 H locs → lv_has ls 9 [(0, .ref (A m_o)), (1, .int a1), (3, .int a3), (4, .int a4), (5, .int x5), (7, .int x18), (8, .int x19)] → f_X11_makeRoom_L88 a1 a3 a4 x5 J145 n x18 x19 M20 = some y → W p l e (headSpec wsX11_makeRoom ({ frames := 2, cells := 0, slots := 0, locals := 45 } : Room)).room s m args below meth c H locs 0 0 (MQ below (mQi D dA A y) args s 0 0 (gA mLive A)) (F0 m 88 ls []) := by
              intro n
              induction n with
              | zero =>
                intro x18 x19 M20 H locs ls Z hl h
                rw [f_X11_makeRoom_L88] at h
                cases h
              | succ n21 ih88 =>
                intro x18 x19 M20 H locs ls Z hl h
                rw [f_X11_makeRoom_L88] at h
                refine lv_iload hx hb dX11_makeRoom_88 (lv_at hl 6 rfl) ?_
                refine lv_bipush (v := (48 : Int32)) hx hb dX11_makeRoom_90 (by decide) ?_
                refine lv_icmp_ge (tgt := 145) hx hb dX11_makeRoom_92 (by decide) (fun c22 => ?_) (fun c22 => ?_)
                · have h := if_t c22 h
                  exact hJ145 x18 M20 _ _ _ Z (lv_sub hl [0, 1, 2, 3, 4, 5] rfl) h
                · have h := if_f c22 h
                  refine lv_aload_n hx hb dX11_makeRoom_95 rfl (lv_at hl 0 rfl) ?_
                  refine lv_iload_n hx hb dX11_makeRoom_96 rfl (lv_at hl 1 rfl) ?_
                  refine lv_iload hx hb dX11_makeRoom_97 (lv_at hl 6 rfl) ?_
                  refine lv_iload_n hx hb dX11_makeRoom_99 rfl (lv_at hl 2 rfl) ?_
                  refine lv_iload hx hb dX11_makeRoom_100 (lv_at hl 3 rfl) ?_
                  obtain ⟨v24, hc23, h⟩ := o1_e h
                  refine g_Vi (As := [.int a1, .int x19, .int a3, .int a4]) (rest := []) S X Z mlv_o rfl rfl (t_X11_mayGo l D dA A hJ  hc23) (cwV 4 hts gX11_makeRoom_X11_mayGo rfl rfl rfl (by decide +kernel) ⟨Nat.le_of_ble_eq_true rfl, Nat.le_of_ble_eq_true rfl⟩) rfl hl.1 rfl (Nat.le_of_ble_eq_true rfl) dX11_makeRoom_102 ⟨Nat.zero_le _, Nat.zero_le _⟩ (fun H locs Z => ?_)
                  obtain ⟨J139, eJ139, h⟩ := jn_e h
                  have hJ139 : ∀ (b25 : Int32) (M26 : gM) (H : Heap) (locs : List Loc) (ls : Array Slot), gZ D mLay dA mLive A (gA mLive A) s.heap M26 H locs → lv_has ls 9 [(0, .ref (A m_o)), (1, .int a1), (3, .int a3), (4, .int a4), (5, .int x5), (7, .int b25), (8, .int x19)] → J139 (b25, M26) = some y → W p l e (headSpec wsX11_makeRoom ({ frames := 2, cells := 0, slots := 0, locals := 45 } : Room)).room s m args below meth c H locs 0 0 (MQ below (mQi D dA A y) args s 0 0 (gA mLive A)) (F0 m 139 ls []) := by
                    intro b25 M26 H locs ls Z hl h
                    rw [eJ139] at h
                    try dsimp only at h
                    obtain ⟨x27, ex27, h⟩ := lt_e h
                    refine lv_iinc (v := x27) (lv' := [(8, .int x27), (0, .ref (A m_o)), (1, .int a1), (3, .int a3), (4, .int a4), (5, .int x5), (7, .int b25)]) hx hb dX11_makeRoom_139 hl (k := 6) rfl (by rw [ex27]; rfl) (by decide) rfl (fun ls hl => ?_)
                    refine lv_goto (tgt := 88) hx hb dX11_makeRoom_142 (by decide) ?_
                    exact ih88 b25 x27 M26 _ _ _ Z (lv_sub hl [1, 2, 3, 4, 5, 6, 0] rfl) h
                  refine lv_if_eq (tgt := 139) hx hb dX11_makeRoom_105 (by decide) (fun c28 => ?_) (fun c28 => ?_)
                  · have h := if_t c28 h
                    exact hJ139 x18 M20 _ _ _ Z (lv_sub hl [0, 1, 2, 3, 4, 5, 6] rfl) h
                  · have h := if_f c28 h
                    refine lv_iload hx hb dX11_makeRoom_108 (lv_at hl 5 rfl) ?_
                    refine lv_iconst (v := (-1 : Int32)) hx hb dX11_makeRoom_110 (by decide) ?_
                    obtain ⟨J135, eJ135, h⟩ := jn_e h
                    have hJ135 : ∀ (M29 : gM) (H : Heap) (locs : List Loc) (ls : Array Slot), gZ D mLay dA mLive A (gA mLive A) s.heap M29 H locs → lv_has ls 9 [(0, .ref (A m_o)), (1, .int a1), (3, .int a3), (4, .int a4), (5, .int x5), (8, .int x19)] → J135 M29 = some y → W p l e (headSpec wsX11_makeRoom ({ frames := 2, cells := 0, slots := 0, locals := 45 } : Room)).room s m args below meth c H locs 0 0 (MQ below (mQi D dA A y) args s 0 0 (gA mLive A)) (F0 m 135 ls []) := by
                      intro M29 H locs ls Z hl h
                      rw [eJ135] at h
                      try dsimp only at h
                      refine lv_iload hx hb dX11_makeRoom_135 (lv_at hl 5 rfl) ?_
                      refine lv_istore (lv' := [(7, .int x19), (0, .ref (A m_o)), (1, .int a1), (3, .int a3), (4, .int a4), (5, .int x5), (8, .int x19)]) hx hb dX11_makeRoom_137 hl (by decide) rfl (fun ls hl => ?_)
                      exact hJ139 x19 M29 _ _ _ Z (lv_sub hl [1, 2, 3, 4, 5, 0, 6] rfl) h
                    refine lv_icmp_eq (tgt := 135) hx hb dX11_makeRoom_111 (by decide) (fun c30 => ?_) (fun c30 => ?_)
                    · have h := if_t c30 h
                      exact hJ135 M20 _ _ _ Z (lv_sub hl [0, 1, 2, 3, 4, 6] rfl) h
                    · have h := if_f c30 h
                      refine lv_aload_n hx hb dX11_makeRoom_114 rfl (lv_at hl 0 rfl) ?_
                      refine lv_bipush (v := (48 : Int32)) hx hb dX11_makeRoom_115 (by decide) ?_
                      refine lv_iload_n hx hb dX11_makeRoom_117 rfl (lv_at hl 1 rfl) ?_
                      refine lv_imul hx hb dX11_makeRoom_118 ?_
                      refine lv_iload hx hb dX11_makeRoom_119 (lv_at hl 6 rfl) ?_
                      refine lv_iadd hx hb dX11_makeRoom_121 ?_
                      refine lv_bipush (v := (48 : Int32)) hx hb dX11_makeRoom_122 (by decide) ?_
                      refine lv_iload_n hx hb dX11_makeRoom_124 rfl (lv_at hl 1 rfl) ?_
                      refine lv_imul hx hb dX11_makeRoom_125 ?_
                      refine lv_iload hx hb dX11_makeRoom_126 (lv_at hl 5 rfl) ?_
                      refine lv_iadd hx hb dX11_makeRoom_128 ?_
                      obtain ⟨v32, hc31, h⟩ := o1_e h
                      refine g_Vi (As := [.int (((48 : Int32) * a1) + x19), .int (((48 : Int32) * a1) + x18)]) (rest := []) S X Z mlv_o rfl rfl (t_X11_goesBefore l D dA A hJ  hc31) (cwV 2 hts gX11_makeRoom_X11_goesBefore rfl rfl rfl (by decide +kernel) ⟨Nat.le_of_ble_eq_true rfl, Nat.le_of_ble_eq_true rfl⟩) rfl hl.1 rfl (Nat.le_of_ble_eq_true rfl) dX11_makeRoom_129 ⟨Nat.zero_le _, Nat.zero_le _⟩ (fun H locs Z => ?_)
                      refine lv_if_eq (tgt := 139) hx hb dX11_makeRoom_132 (by decide) (fun c33 => ?_) (fun c33 => ?_)
                      · have h := if_t c33 h
                        exact hJ139 x18 M20 _ _ _ Z (lv_sub hl [0, 1, 2, 3, 4, 5, 6] rfl) h
                      · have h := if_f c33 h
                        exact hJ135 M20 _ _ _ Z (lv_sub hl [0, 1, 2, 3, 4, 6] rfl) h
            exact hL88 100 (-1 : Int32) (0 : Int32) M6 _ _ _ Z (lv_sub hl [2, 3, 4, 5, 6, 1, 0] rfl) h
      exact hL75 100 b1 M3 _ _ _ Z (lv_sub hl [0, 1, 2, 3, 4] rfl) h
    · have h := if_f c4 h
      refine lv_iconst (v := (0 : Int32)) hx hb dX11_makeRoom_73 (by decide) ?_
      have hy := Option.some.inj h
      subst hy
      exact g_rz (Or.inl rfl) S Z hr hlocks dX11_makeRoom_74
  have hL9 : ∀ (n : Nat) (x34 : Int32) (x35 : Int32) (x36 : Int32) (M37 : gM) (H : Heap) (locs : List Loc) (ls : Array Slot), gZ D mLay dA mLive A (gA mLive A) s.heap M37 H locs → lv_has ls 9 [(0, .ref (A m_o)), (1, .int a1), (3, .int a3), (4, .int a4), (5, .int x34), (6, .int x35), (7, .int x36)] → f_X11_makeRoom_L9 a1 a3 a4 J63 n x34 x35 x36 M37 = some y → W p l e (headSpec wsX11_makeRoom ({ frames := 2, cells := 0, slots := 0, locals := 45 } : Room)).room s m args below meth c H locs 0 0 (MQ below (mQi D dA A y) args s 0 0 (gA mLive A)) (F0 m 9 ls []) := by
    intro n
    induction n with
    | zero =>
      intro x34 x35 x36 M37 H locs ls Z hl h
      rw [f_X11_makeRoom_L9] at h
      cases h
    | succ n38 ih9 =>
      intro x34 x35 x36 M37 H locs ls Z hl h
      rw [f_X11_makeRoom_L9] at h
      refine lv_iload hx hb dX11_makeRoom_9 (lv_at hl 6 rfl) ?_
      refine lv_bipush (v := (48 : Int32)) hx hb dX11_makeRoom_11 (by decide) ?_
      refine lv_icmp_ge (tgt := 63) hx hb dX11_makeRoom_13 (by decide) (fun c39 => ?_) (fun c39 => ?_)
      · have h := if_t c39 h
        exact hJ63 x34 x35 M37 _ _ _ Z (lv_sub hl [0, 1, 2, 3, 4, 5] rfl) h
      · have h := if_f c39 h
        refine lv_iload hx hb dX11_makeRoom_16 (lv_at hl 4 rfl) ?_
        refine lv_aload_n hx hb dX11_makeRoom_18 rfl (lv_at hl 0 rfl) ?_
        refine lv_iload_n hx hb dX11_makeRoom_19 rfl (lv_at hl 1 rfl) ?_
        refine lv_iload hx hb dX11_makeRoom_20 (lv_at hl 6 rfl) ?_
        obtain ⟨v41, hc40, h⟩ := o1_e h
        refine g_Vi (As := [.int a1, .int x36]) (rest := [.int x34]) S X Z mlv_o rfl rfl (t_X11_weightKept l D dA A hJ  hc40) (cwV 2 hts gX11_makeRoom_X11_weightKept rfl rfl rfl (by decide +kernel) ⟨Nat.le_of_ble_eq_true rfl, Nat.le_of_ble_eq_true rfl⟩) rfl hl.1 rfl (Nat.le_of_ble_eq_true rfl) dX11_makeRoom_22 ⟨Nat.zero_le _, Nat.zero_le _⟩ (fun H locs Z => ?_)
        refine lv_iadd hx hb dX11_makeRoom_25 ?_
        refine g_topi h (fun x42 h => ?_)
        refine lv_istore (lv' := [(5, .int x42), (0, .ref (A m_o)), (1, .int a1), (3, .int a3), (4, .int a4), (6, .int x35), (7, .int x36)]) hx hb dX11_makeRoom_26 hl (by decide) rfl (fun ls hl => ?_)
        refine lv_iload hx hb dX11_makeRoom_28 (lv_at hl 5 rfl) ?_
        refine lv_aload_n hx hb dX11_makeRoom_30 rfl (lv_at hl 1 rfl) ?_
        refine lv_iload_n hx hb dX11_makeRoom_31 rfl (lv_at hl 2 rfl) ?_
        refine lv_iload hx hb dX11_makeRoom_32 (lv_at hl 6 rfl) ?_
        refine lv_iload_n hx hb dX11_makeRoom_34 rfl (lv_at hl 3 rfl) ?_
        refine lv_iload hx hb dX11_makeRoom_35 (lv_at hl 4 rfl) ?_
        obtain ⟨v44, hc43, h⟩ := o1_e h
        refine g_Vi (As := [.int a1, .int x36, .int a3, .int a4]) (rest := [.int x35]) S X Z mlv_o rfl rfl (t_X11_mayGo l D dA A hJ  hc43) (cwV 4 hts gX11_makeRoom_X11_mayGo rfl rfl rfl (by decide +kernel) ⟨Nat.le_of_ble_eq_true rfl, Nat.le_of_ble_eq_true rfl⟩) rfl hl.1 rfl (Nat.le_of_ble_eq_true rfl) dX11_makeRoom_37 ⟨Nat.zero_le _, Nat.zero_le _⟩ (fun H locs Z => ?_)
        obtain ⟨J54, eJ54, h⟩ := jn_e h
        have hJ54 : ∀ (b45 : Int32) (M46 : gM) (H : Heap) (locs : List Loc) (ls : Array Slot), gZ D mLay dA mLive A (gA mLive A) s.heap M46 H locs → lv_has ls 9 [(0, .ref (A m_o)), (1, .int a1), (3, .int a3), (4, .int a4), (5, .int x42), (7, .int x36)] → J54 (b45, M46) = some y → W p l e (headSpec wsX11_makeRoom ({ frames := 2, cells := 0, slots := 0, locals := 45 } : Room)).room s m args below meth c H locs 0 0 (MQ below (mQi D dA A y) args s 0 0 (gA mLive A)) (F0 m 54 ls [.int b45, .int x35]) := by
          intro b45 M46 H locs ls Z hl h
          rw [eJ54] at h
          try dsimp only at h
          refine lv_iadd hx hb dX11_makeRoom_54 ?_
          refine g_topi h (fun x47 h => ?_)
          refine lv_istore (lv' := [(6, .int x47), (0, .ref (A m_o)), (1, .int a1), (3, .int a3), (4, .int a4), (5, .int x42), (7, .int x36)]) hx hb dX11_makeRoom_55 hl (by decide) rfl (fun ls hl => ?_)
          obtain ⟨x48, ex48, h⟩ := lt_e h
          refine lv_iinc (v := x48) (lv' := [(7, .int x48), (6, .int x47), (0, .ref (A m_o)), (1, .int a1), (3, .int a3), (4, .int a4), (5, .int x42)]) hx hb dX11_makeRoom_57 hl (k := 6) rfl (by rw [ex48]; rfl) (by decide) rfl (fun ls hl => ?_)
          refine lv_goto (tgt := 9) hx hb dX11_makeRoom_60 (by decide) ?_
          exact ih9 x42 x47 x48 M46 _ _ _ Z (lv_sub hl [2, 3, 4, 5, 6, 1, 0] rfl) h
        refine lv_if_eq (tgt := 53) hx hb dX11_makeRoom_40 (by decide) (fun c49 => ?_) (fun c49 => ?_)
        · have h := if_t c49 h
          refine lv_iconst (v := (0 : Int32)) hx hb dX11_makeRoom_53 (by decide) ?_
          exact hJ54 (0 : Int32) M37 _ _ _ Z (lv_sub hl [1, 2, 3, 4, 0, 6] rfl) h
        · have h := if_f c49 h
          refine lv_aload_n hx hb dX11_makeRoom_43 rfl (lv_at hl 1 rfl) ?_
          refine lv_iload_n hx hb dX11_makeRoom_44 rfl (lv_at hl 2 rfl) ?_
          refine lv_iload hx hb dX11_makeRoom_45 (lv_at hl 6 rfl) ?_
          obtain ⟨v51, hc50, h⟩ := o1_e h
          refine g_Vi (As := [.int a1, .int x36]) (rest := [.int x35]) S X Z mlv_o rfl rfl (t_X11_weightKept l D dA A hJ  hc50) (cwV 2 hts gX11_makeRoom_X11_weightKept rfl rfl rfl (by decide +kernel) ⟨Nat.le_of_ble_eq_true rfl, Nat.le_of_ble_eq_true rfl⟩) rfl hl.1 rfl (Nat.le_of_ble_eq_true rfl) dX11_makeRoom_47 ⟨Nat.zero_le _, Nat.zero_le _⟩ (fun H locs Z => ?_)
          refine lv_goto (tgt := 54) hx hb dX11_makeRoom_50 (by decide) ?_
          exact hJ54 v51 M37 _ _ _ Z (lv_sub hl [1, 2, 3, 4, 0, 6] rfl) h
  exact hL9 100 a2 (0 : Int32) (0 : Int32) M _ _ _ Z (lv_sub hl [3, 4, 6, 7, 2, 1, 0] rfl) h
-- X11_isGood (II)Z: 31 instructions
set_option maxRecDepth 20000 in
theorem ggX11_isGood_X11_nearSet : GoodIn wsX11_isGood wsX11_nearSet := goodIn_r _ [7, 8, 9, 10, 11, 6, 12, 13, 14, 15, 16, 17, 18, 19, 20, 21, 22, 23, 24, 25, 26, 27, 28, 29, 30, 31, 32, 33, 34, 35, 36, 37, 38, 39, 40, 41, 42, 43, 44, 45, 46, 47, 48, 49, 50, 51, 52, 53, 54, 55, 56, 57, 58, 59, 60, 61, 62, 63, 64, 65, 66, 67, 68, 69, 70, 71, 72, 73, 74, 75, 76, 77, 78, 79, 80, 81] (by decide +kernel) (by decide +kernel)
set_option maxRecDepth 20000 in
theorem gX11_isGood_X11_nearSet : GoodIn wsX11_isGood (wsV RX11 180 RX11 yX11_nearSet wsX11_nearSet) := goodIn_app (goodIn_of _ (by decide +kernel)) ggX11_isGood_X11_nearSet
theorem dX11_isGood_0 : decode cX11_isGood 0 = .ok (.aload_n 0, 1) := by decide +kernel
theorem dX11_isGood_1 : decode cX11_isGood 1 = .ok (.iload_n 1, 1) := by decide +kernel
theorem dX11_isGood_2 : decode cX11_isGood 2 = .ok (.invokevirtual 180, 3) := by decide +kernel
theorem dX11_isGood_5 : decode cX11_isGood 5 = .ok (.istore_n 3, 1) := by decide +kernel
theorem dX11_isGood_6 : decode cX11_isGood 6 = .ok (.aload_n 0, 1) := by decide +kernel
theorem dX11_isGood_7 : decode cX11_isGood 7 = .ok (.getfield 65, 3) := by decide +kernel
theorem dX11_isGood_10 : decode cX11_isGood 10 = .ok (.bipush 48, 2) := by decide +kernel
theorem dX11_isGood_12 : decode cX11_isGood 12 = .ok (.iload_n 1, 1) := by decide +kernel
theorem dX11_isGood_13 : decode cX11_isGood 13 = .ok (.imul, 1) := by decide +kernel
theorem dX11_isGood_14 : decode cX11_isGood 14 = .ok (.iload_n 2, 1) := by decide +kernel
theorem dX11_isGood_15 : decode cX11_isGood 15 = .ok (.iadd, 1) := by decide +kernel
theorem dX11_isGood_16 : decode cX11_isGood 16 = .ok (.baload, 1) := by decide +kernel
theorem dX11_isGood_17 : decode cX11_isGood 17 = .ok (.ifCond .eq 28, 3) := by decide +kernel
theorem dX11_isGood_20 : decode cX11_isGood 20 = .ok (.iload_n 3, 1) := by decide +kernel
theorem dX11_isGood_21 : decode cX11_isGood 21 = .ok (.ifCond .eq 24, 3) := by decide +kernel
theorem dX11_isGood_24 : decode cX11_isGood 24 = .ok (.aload_n 0, 1) := by decide +kernel
theorem dX11_isGood_25 : decode cX11_isGood 25 = .ok (.getfield 77, 3) := by decide +kernel
theorem dX11_isGood_28 : decode cX11_isGood 28 = .ok (.bipush 48, 2) := by decide +kernel
theorem dX11_isGood_30 : decode cX11_isGood 30 = .ok (.iload_n 1, 1) := by decide +kernel
theorem dX11_isGood_31 : decode cX11_isGood 31 = .ok (.imul, 1) := by decide +kernel
theorem dX11_isGood_32 : decode cX11_isGood 32 = .ok (.iload_n 2, 1) := by decide +kernel
theorem dX11_isGood_33 : decode cX11_isGood 33 = .ok (.iadd, 1) := by decide +kernel
theorem dX11_isGood_34 : decode cX11_isGood 34 = .ok (.iaload, 1) := by decide +kernel
theorem dX11_isGood_35 : decode cX11_isGood 35 = .ok (.iload_n 3, 1) := by decide +kernel
theorem dX11_isGood_36 : decode cX11_isGood 36 = .ok (.iand, 1) := by decide +kernel
theorem dX11_isGood_37 : decode cX11_isGood 37 = .ok (.iload_n 3, 1) := by decide +kernel
theorem dX11_isGood_38 : decode cX11_isGood 38 = .ok (.if_icmp .ne 7, 3) := by decide +kernel
theorem dX11_isGood_41 : decode cX11_isGood 41 = .ok (.iconst 1, 1) := by decide +kernel
theorem dX11_isGood_42 : decode cX11_isGood 42 = .ok (.goto 4, 3) := by decide +kernel
theorem dX11_isGood_45 : decode cX11_isGood 45 = .ok (.iconst 0, 1) := by decide +kernel
theorem dX11_isGood_46 : decode cX11_isGood 46 = .ok (.ireturn, 1) := by decide +kernel
def f_X11_isGood (M : gM) (a1 : Int32) (a2 : Int32) : Option Int32 :=
  o1 (f_X11_nearSet M a1) (fun v2 => rd M m_kept 192 (((48 : Int32) * a1) + a2) (fun v3 => (if v3 = 0 then some (0 : Int32) else (if v2 = 0 then some (0 : Int32) else rd M m_promised 192 (((48 : Int32) * a1) + a2) (fun v6 => (if (v6 &&& v2) = v2 then some (1 : Int32) else some (0 : Int32)))))))
set_option maxHeartbeats 4000000 in
set_option maxRecDepth 100000 in
theorem t_X11_isGood (l : Launch) (D : va_G) (dA : Nat → ClassId) (A : gI → Nat) (hJ : gJ mLive A) {M : gM} {a1 : Int32} {a2 : Int32}  {y : Int32} (h : f_X11_isGood M a1 a2 = some y) : mMi l yX11_isGood wsX11_isGood ({ frames := 2, cells := 0, slots := 0, locals := 45 } : Room) D dA A [.ref (A m_o), .int a1, .int a2] M y M := by
  refine Met.ofW (cc := cX11_isGood) (maxL := 4) (ret := (some .boolean)) (by decide) rfl ?_
  intro p e s m args below meth c s₁ B hml hv
  obtain ⟨rfl, hP, hK⟩ := hv
  generalize hargs : ([.ref (A m_o), .int a1, .int a2] : List Value).toArray = args at B ⊢
  have S : CallFix p m c cX11_isGood 4 s args wsX11_isGood RX11 := ⟨B.exec, B.bytes, hml, findClass_of_methodNamed B.named, atoms_spec (ws := wsX11_isGood) B.pre⟩
  obtain ⟨hx, hb, -, hown, hts⟩ := id S
  have hr := B.returns
  have hlocks := B.notSynchronized
  have X : gX D vwCl dA mLive A (gA mLive A) s := ⟨hK, hJ, fun i hi => ⟨i, hi, rfl⟩⟩
  have Z : gZ D mLay dA mLive A (gA mLive A) s.heap M s.heap [] := ⟨hP, va_S.rf⟩
  have hin : ∀ w ∈ wsX110, w ∈ wsX11_isGood := fun w h => List.mem_cons_of_mem _ (List.mem_append_right _ h)
  have hl_65 := hts (.fieldLink RX11 65 "ReplicaFilesModel" "kept" "[Z") (by decide +kernel)
  have hl_77 := hts (.fieldLink RX11 77 "ReplicaFilesModel" "promised" "[I") (by decide +kernel)
  have hl := lv_entry ([.ref (A m_o), .int a1, .int a2]) (n := 4) (Nat.le_of_ble_eq_true rfl)
  rw [← hargs, lg_entry_eq, hargs]
  generalize (lg_sl ([.ref (A m_o), .int a1, .int a2]) ++ List.replicate (4 - (lg_sl ([.ref (A m_o), .int a1, .int a2])).length) Slot.unset).toArray = ls at hl ⊢
  have hl : lv_has ls 4 [(0, .ref (A m_o)), (1, .int a1), (2, .int a2)] := hl
  unfold f_X11_isGood at h
  refine lv_aload_n hx hb dX11_isGood_0 rfl (lv_at hl 0 rfl) ?_
  refine lv_iload_n hx hb dX11_isGood_1 rfl (lv_at hl 1 rfl) ?_
  obtain ⟨v2, hc1, h⟩ := o1_e h
  refine g_Vi (As := [.int a1]) (rest := []) S X Z mlv_o rfl rfl (t_X11_nearSet l D dA A hJ  hc1) (cwV 1 hts gX11_isGood_X11_nearSet rfl rfl rfl (by decide +kernel) ⟨Nat.le_of_ble_eq_true rfl, Nat.le_of_ble_eq_true rfl⟩) rfl hl.1 rfl (Nat.le_of_ble_eq_true rfl) dX11_isGood_2 ⟨Nat.zero_le _, Nat.zero_le _⟩ (fun H locs Z => ?_)
  refine lv_istore_n (lv' := [(3, .int v2), (0, .ref (A m_o)), (1, .int a1), (2, .int a2)]) hx hb dX11_isGood_5 rfl hl (by decide) rfl (fun ls hl => ?_)
  refine lv_aload_n hx hb dX11_isGood_6 rfl (lv_at hl 1 rfl) ?_
  refine mr_kept S X Z hin hl_65 dX11_isGood_7 ?_
  refine lv_bipush (v := (48 : Int32)) hx hb dX11_isGood_10 (by decide) ?_
  refine lv_iload_n hx hb dX11_isGood_12 rfl (lv_at hl 2 rfl) ?_
  refine lv_imul hx hb dX11_isGood_13 ?_
  refine lv_iload_n hx hb dX11_isGood_14 rfl (lv_at hl 3 rfl) ?_
  refine lv_iadd hx hb dX11_isGood_15 ?_
  refine g_zald S X Z ml_kept rfl dX11_isGood_16 h (fun v3 h => ?_)
  refine lv_if_eq (tgt := 45) hx hb dX11_isGood_17 (by decide) (fun c4 => ?_) (fun c4 => ?_)
  · have h := if_t c4 h
    refine lv_iconst (v := (0 : Int32)) hx hb dX11_isGood_45 (by decide) ?_
    have hy := Option.some.inj h
    subst hy
    exact g_rz (Or.inl rfl) S Z hr hlocks dX11_isGood_46
  · have h := if_f c4 h
    refine lv_iload_n hx hb dX11_isGood_20 rfl (lv_at hl 0 rfl) ?_
    refine lv_if_eq (tgt := 45) hx hb dX11_isGood_21 (by decide) (fun c5 => ?_) (fun c5 => ?_)
    · have h := if_t c5 h
      refine lv_iconst (v := (0 : Int32)) hx hb dX11_isGood_45 (by decide) ?_
      have hy := Option.some.inj h
      subst hy
      exact g_rz (Or.inl rfl) S Z hr hlocks dX11_isGood_46
    · have h := if_f c5 h
      refine lv_aload_n hx hb dX11_isGood_24 rfl (lv_at hl 1 rfl) ?_
      refine mr_promised S X Z hin hl_77 dX11_isGood_25 ?_
      refine lv_bipush (v := (48 : Int32)) hx hb dX11_isGood_28 (by decide) ?_
      refine lv_iload_n hx hb dX11_isGood_30 rfl (lv_at hl 2 rfl) ?_
      refine lv_imul hx hb dX11_isGood_31 ?_
      refine lv_iload_n hx hb dX11_isGood_32 rfl (lv_at hl 3 rfl) ?_
      refine lv_iadd hx hb dX11_isGood_33 ?_
      refine g_iald S X Z ml_promised rfl dX11_isGood_34 h (fun v6 h => ?_)
      refine lv_iload_n hx hb dX11_isGood_35 rfl (lv_at hl 0 rfl) ?_
      refine lv_iand hx hb dX11_isGood_36 ?_
      refine lv_iload_n hx hb dX11_isGood_37 rfl (lv_at hl 0 rfl) ?_
      refine lv_icmp_ne (tgt := 45) hx hb dX11_isGood_38 (by decide) (fun c7 => ?_) (fun c7 => ?_)
      · have h := if_f c7 h
        refine lv_iconst (v := (0 : Int32)) hx hb dX11_isGood_45 (by decide) ?_
        have hy := Option.some.inj h
        subst hy
        exact g_rz (Or.inl rfl) S Z hr hlocks dX11_isGood_46
      · have h := if_t c7 h
        refine lv_iconst (v := (1 : Int32)) hx hb dX11_isGood_41 (by decide) ?_
        refine lv_goto (tgt := 46) hx hb dX11_isGood_42 (by decide) ?_
        have hy := Option.some.inj h
        subst hy
        exact g_rz (Or.inr rfl) S Z hr hlocks dX11_isGood_46
-- X11_takeKept (II)V: 47 instructions
set_option maxRecDepth 20000 in
theorem ggX11_takeKept_X11_copyTo : GoodIn wsX11_takeKept wsX11_copyTo := goodIn_r _ [11] (by decide +kernel) (by decide +kernel)
set_option maxRecDepth 20000 in
theorem gX11_takeKept_X11_copyTo : GoodIn wsX11_takeKept (wsV RX11 234 RX11 yX11_copyTo wsX11_copyTo) := goodIn_app (goodIn_of _ (by decide +kernel)) ggX11_takeKept_X11_copyTo
set_option maxRecDepth 20000 in
theorem ggX11_takeKept_X11_isChild : GoodIn wsX11_takeKept wsX11_isChild := goodIn_r _ [15, 16, 17, 18, 19, 20, 21, 22, 23, 24, 25, 26, 27, 28, 29, 30, 31, 32, 33, 34, 35, 36, 37, 38, 39, 40, 41, 42, 43, 44, 45, 46, 47, 48, 49, 50, 51, 52, 53, 54, 55, 56, 57, 58, 59, 60, 61, 62, 63, 64, 65, 66, 67, 68, 69, 70, 71, 72, 73, 74, 75, 76, 77, 78, 79, 80, 81, 82, 83, 84] (by decide +kernel) (by decide +kernel)
set_option maxRecDepth 20000 in
theorem gX11_takeKept_X11_isChild : GoodIn wsX11_takeKept (wsV RX11 197 RX11 yX11_isChild wsX11_isChild) := goodIn_app (goodIn_of _ (by decide +kernel)) ggX11_takeKept_X11_isChild
theorem dX11_takeKept_0 : decode cX11_takeKept 0 = .ok (.bipush 48, 2) := by decide +kernel
theorem dX11_takeKept_2 : decode cX11_takeKept 2 = .ok (.iload_n 1, 1) := by decide +kernel
theorem dX11_takeKept_3 : decode cX11_takeKept 3 = .ok (.imul, 1) := by decide +kernel
theorem dX11_takeKept_4 : decode cX11_takeKept 4 = .ok (.iload_n 2, 1) := by decide +kernel
theorem dX11_takeKept_5 : decode cX11_takeKept 5 = .ok (.iadd, 1) := by decide +kernel
theorem dX11_takeKept_6 : decode cX11_takeKept 6 = .ok (.istore_n 3, 1) := by decide +kernel
theorem dX11_takeKept_7 : decode cX11_takeKept 7 = .ok (.aload_n 0, 1) := by decide +kernel
theorem dX11_takeKept_8 : decode cX11_takeKept 8 = .ok (.aload_n 0, 1) := by decide +kernel
theorem dX11_takeKept_9 : decode cX11_takeKept 9 = .ok (.getfield 68, 3) := by decide +kernel
theorem dX11_takeKept_12 : decode cX11_takeKept 12 = .ok (.iload_n 3, 1) := by decide +kernel
theorem dX11_takeKept_13 : decode cX11_takeKept 13 = .ok (.iaload, 1) := by decide +kernel
theorem dX11_takeKept_14 : decode cX11_takeKept 14 = .ok (.putfield 231, 3) := by decide +kernel
theorem dX11_takeKept_17 : decode cX11_takeKept 17 = .ok (.aload_n 0, 1) := by decide +kernel
theorem dX11_takeKept_18 : decode cX11_takeKept 18 = .ok (.aload_n 0, 1) := by decide +kernel
theorem dX11_takeKept_19 : decode cX11_takeKept 19 = .ok (.getfield 74, 3) := by decide +kernel
theorem dX11_takeKept_22 : decode cX11_takeKept 22 = .ok (.iload_n 3, 1) := by decide +kernel
theorem dX11_takeKept_23 : decode cX11_takeKept 23 = .ok (.aload_n 0, 1) := by decide +kernel
theorem dX11_takeKept_24 : decode cX11_takeKept 24 = .ok (.getfield 116, 3) := by decide +kernel
theorem dX11_takeKept_27 : decode cX11_takeKept 27 = .ok (.iconst 0, 1) := by decide +kernel
theorem dX11_takeKept_28 : decode cX11_takeKept 28 = .ok (.invokevirtual 234, 3) := by decide +kernel
theorem dX11_takeKept_31 : decode cX11_takeKept 31 = .ok (.iconst 0, 1) := by decide +kernel
theorem dX11_takeKept_32 : decode cX11_takeKept 32 = .ok (.istore 4, 2) := by decide +kernel
theorem dX11_takeKept_34 : decode cX11_takeKept 34 = .ok (.iload 4, 2) := by decide +kernel
theorem dX11_takeKept_36 : decode cX11_takeKept 36 = .ok (.bipush 48, 2) := by decide +kernel
theorem dX11_takeKept_38 : decode cX11_takeKept 38 = .ok (.if_icmp .ge 42, 3) := by decide +kernel
theorem dX11_takeKept_41 : decode cX11_takeKept 41 = .ok (.aload_n 0, 1) := by decide +kernel
theorem dX11_takeKept_42 : decode cX11_takeKept 42 = .ok (.getfield 119, 3) := by decide +kernel
theorem dX11_takeKept_45 : decode cX11_takeKept 45 = .ok (.iload 4, 2) := by decide +kernel
theorem dX11_takeKept_47 : decode cX11_takeKept 47 = .ok (.aload_n 0, 1) := by decide +kernel
theorem dX11_takeKept_48 : decode cX11_takeKept 48 = .ok (.iload 4, 2) := by decide +kernel
theorem dX11_takeKept_50 : decode cX11_takeKept 50 = .ok (.iload_n 2, 1) := by decide +kernel
theorem dX11_takeKept_51 : decode cX11_takeKept 51 = .ok (.invokevirtual 197, 3) := by decide +kernel
theorem dX11_takeKept_54 : decode cX11_takeKept 54 = .ok (.ifCond .eq 18, 3) := by decide +kernel
theorem dX11_takeKept_57 : decode cX11_takeKept 57 = .ok (.aload_n 0, 1) := by decide +kernel
theorem dX11_takeKept_58 : decode cX11_takeKept 58 = .ok (.getfield 89, 3) := by decide +kernel
theorem dX11_takeKept_61 : decode cX11_takeKept 61 = .ok (.bipush 48, 2) := by decide +kernel
theorem dX11_takeKept_63 : decode cX11_takeKept 63 = .ok (.iload_n 1, 1) := by decide +kernel
theorem dX11_takeKept_64 : decode cX11_takeKept 64 = .ok (.imul, 1) := by decide +kernel
theorem dX11_takeKept_65 : decode cX11_takeKept 65 = .ok (.iload 4, 2) := by decide +kernel
theorem dX11_takeKept_67 : decode cX11_takeKept 67 = .ok (.iadd, 1) := by decide +kernel
theorem dX11_takeKept_68 : decode cX11_takeKept 68 = .ok (.iaload, 1) := by decide +kernel
theorem dX11_takeKept_69 : decode cX11_takeKept 69 = .ok (.goto 4, 3) := by decide +kernel
theorem dX11_takeKept_72 : decode cX11_takeKept 72 = .ok (.iconst 0, 1) := by decide +kernel
theorem dX11_takeKept_73 : decode cX11_takeKept 73 = .ok (.iastore, 1) := by decide +kernel
theorem dX11_takeKept_74 : decode cX11_takeKept 74 = .ok (.iinc 4 1, 3) := by decide +kernel
theorem dX11_takeKept_77 : decode cX11_takeKept 77 = .ok (.goto (-43), 3) := by decide +kernel
theorem dX11_takeKept_80 : decode cX11_takeKept 80 = .ok (.return_, 1) := by decide +kernel
def f_X11_takeKept_L34 (a1 : Int32) (a2 : Int32) : Nat → Int32 → gM → Option gM
  | 0, _, _ => none
  | n8 + 1, x6, M7 => (if (48 : Int32) ≤ x6 then some M7 else o1 (f_X11_isChild M7 x6 a2) (fun v11 => jn (fun (q : (Int32 × gM)) => match q with | (b12, M13) => wr M13 m_gotEntry 48 x6 b12 (fun M14 => lt (x6 + 1) (fun x15 => f_X11_takeKept_L34 a1 a2 n8 x15 M14))) (fun J73 => (if v11 = 0 then J73 ((0 : Int32), M7) else rd M7 m_keptEntry 192 (((48 : Int32) * a1) + x6) (fun v17 => J73 (v17, M7))))))
def f_X11_takeKept (M : gM) (a1 : Int32) (a2 : Int32) : Option gM :=
  lt ((((48 : Int32) * a1) + a2)) (fun x1 => rd M m_keptValue 192 x1 (fun v2 => lt (gset M m_o 42 v2) (fun M3 => o1 (f_X11_copyTo M3 m_keptVector x1 m_gotVector (0 : Int32)) (fun M5 => f_X11_takeKept_L34 a1 a2 100 (0 : Int32) M5))))
set_option maxHeartbeats 4000000 in
set_option maxRecDepth 100000 in
theorem t_X11_takeKept (l : Launch) (D : va_G) (dA : Nat → ClassId) (A : gI → Nat) (hJ : gJ mLive A) {M : gM} {a1 : Int32} {a2 : Int32}  {y : gM} (h : f_X11_takeKept M a1 a2 = some y) : mMv l yX11_takeKept wsX11_takeKept ({ frames := 1, cells := 0, slots := 0, locals := 25 } : Room) D dA A [.ref (A m_o), .int a1, .int a2] M y := by
  refine Met.ofW (cc := cX11_takeKept) (maxL := 5) (ret := none) (by decide) rfl ?_
  intro p e s m args below meth c s₁ B hml hv
  obtain ⟨rfl, hP, hK⟩ := hv
  generalize hargs : ([.ref (A m_o), .int a1, .int a2] : List Value).toArray = args at B ⊢
  have S : CallFix p m c cX11_takeKept 5 s args wsX11_takeKept RX11 := ⟨B.exec, B.bytes, hml, findClass_of_methodNamed B.named, atoms_spec (ws := wsX11_takeKept) B.pre⟩
  obtain ⟨hx, hb, -, hown, hts⟩ := id S
  have hr := B.returns
  have hlocks := B.notSynchronized
  have X : gX D vwCl dA mLive A (gA mLive A) s := ⟨hK, hJ, fun i hi => ⟨i, hi, rfl⟩⟩
  have Z : gZ D mLay dA mLive A (gA mLive A) s.heap M s.heap [] := ⟨hP, va_S.rf⟩
  have hin : ∀ w ∈ wsX110, w ∈ wsX11_takeKept := fun w h => List.mem_cons_of_mem _ (List.mem_append_right _ h)
  have hl_68 := hts (.fieldLink RX11 68 "ReplicaFilesModel" "keptValue" "[I") (by decide +kernel)
  have hl_74 := hts (.fieldLink RX11 74 "ReplicaFilesModel" "keptVector" "[I") (by decide +kernel)
  have hl_89 := hts (.fieldLink RX11 89 "ReplicaFilesModel" "keptEntry" "[I") (by decide +kernel)
  have hl_116 := hts (.fieldLink RX11 116 "ReplicaFilesModel" "gotVector" "[I") (by decide +kernel)
  have hl_119 := hts (.fieldLink RX11 119 "ReplicaFilesModel" "gotEntry" "[I") (by decide +kernel)
  have hl_231 := hts (.fieldLink RX11 231 "ReplicaFilesModel" "gotValue" "I") (by decide +kernel)
  have hl := lv_entry ([.ref (A m_o), .int a1, .int a2]) (n := 5) (Nat.le_of_ble_eq_true rfl)
  rw [← hargs, lg_entry_eq, hargs]
  generalize (lg_sl ([.ref (A m_o), .int a1, .int a2]) ++ List.replicate (5 - (lg_sl ([.ref (A m_o), .int a1, .int a2])).length) Slot.unset).toArray = ls at hl ⊢
  have hl : lv_has ls 5 [(0, .ref (A m_o)), (1, .int a1), (2, .int a2)] := hl
  unfold f_X11_takeKept at h
  refine lv_bipush (v := (48 : Int32)) hx hb dX11_takeKept_0 (by decide) ?_
  refine lv_iload_n hx hb dX11_takeKept_2 rfl (lv_at hl 1 rfl) ?_
  refine lv_imul hx hb dX11_takeKept_3 ?_
  refine lv_iload_n hx hb dX11_takeKept_4 rfl (lv_at hl 2 rfl) ?_
  refine lv_iadd hx hb dX11_takeKept_5 ?_
  refine g_topi h (fun x1 h => ?_)
  refine lv_istore_n (lv' := [(3, .int x1), (0, .ref (A m_o)), (1, .int a1), (2, .int a2)]) hx hb dX11_takeKept_6 rfl hl (by decide) rfl (fun ls hl => ?_)
  refine lv_aload_n hx hb dX11_takeKept_7 rfl (lv_at hl 1 rfl) ?_
  refine lv_aload_n hx hb dX11_takeKept_8 rfl (lv_at hl 1 rfl) ?_
  refine mr_keptValue S X Z hin hl_68 dX11_takeKept_9 ?_
  refine lv_iload_n hx hb dX11_takeKept_12 rfl (lv_at hl 0 rfl) ?_
  refine g_iald S X Z ml_keptValue rfl dX11_takeKept_13 h (fun v2 h => ?_)
  refine mp_gotValue S X Z hin hl_231 dX11_takeKept_14 h (fun M3 H locs Z h => ?_)
  refine lv_aload_n hx hb dX11_takeKept_17 rfl (lv_at hl 1 rfl) ?_
  refine lv_aload_n hx hb dX11_takeKept_18 rfl (lv_at hl 1 rfl) ?_
  refine mr_keptVector S X Z hin hl_74 dX11_takeKept_19 ?_
  refine lv_iload_n hx hb dX11_takeKept_22 rfl (lv_at hl 0 rfl) ?_
  refine lv_aload_n hx hb dX11_takeKept_23 rfl (lv_at hl 1 rfl) ?_
  refine mr_gotVector S X Z hin hl_116 dX11_takeKept_24 ?_
  refine lv_iconst (v := (0 : Int32)) hx hb dX11_takeKept_27 (by decide) ?_
  obtain ⟨M5, hc4, h⟩ := o1_e h
  refine g_Vv (As := [.ref (A m_keptVector), .int x1, .ref (A m_gotVector), .int (0 : Int32)]) (rest := []) S X Z mlv_o rfl rfl (t_X11_copyTo l D dA A hJ ⟨ml_keptVector, rfl⟩ ⟨ml_gotVector, rfl⟩ hc4) (cwV 4 hts gX11_takeKept_X11_copyTo rfl rfl rfl (by decide +kernel) ⟨Nat.le_of_ble_eq_true rfl, Nat.le_of_ble_eq_true rfl⟩) rfl hl.1 rfl (Nat.le_of_ble_eq_true rfl) dX11_takeKept_28 ⟨Nat.zero_le _, Nat.zero_le _⟩ (fun H locs Z => ?_)
  refine lv_iconst (v := (0 : Int32)) hx hb dX11_takeKept_31 (by decide) ?_
  refine lv_istore (lv' := [(4, .int (0 : Int32)), (3, .int x1), (0, .ref (A m_o)), (1, .int a1), (2, .int a2)]) hx hb dX11_takeKept_32 hl (by decide) rfl (fun ls hl => ?_)
  have hL34 : ∀ (n : Nat) (x6 : Int32) (M7 : gM) (H : Heap) (locs : List Loc) (ls : Array Slot), gZ D mLay dA mLive A (gA mLive A) s.heap M7 H locs → lv_has ls 5 [(0, .ref (A m_o)), (1, .int a1), (2, .int a2), (4, .int x6)] → f_X11_takeKept_L34 a1 a2 n x6 M7 = some y → W p l e (headSpec wsX11_takeKept ({ frames := 1, cells := 0, slots := 0, locals := 25 } : Room)).room s m args below meth c H locs 0 0 (MQ below (mQv D dA A y) args s 0 0 (gA mLive A)) (F0 m 34 ls []) := by
    intro n
    induction n with
    | zero =>
      intro x6 M7 H locs ls Z hl h
      rw [f_X11_takeKept_L34] at h
      cases h
    | succ n8 ih34 =>
      intro x6 M7 H locs ls Z hl h
      rw [f_X11_takeKept_L34] at h
      refine lv_iload hx hb dX11_takeKept_34 (lv_at hl 3 rfl) ?_
      refine lv_bipush (v := (48 : Int32)) hx hb dX11_takeKept_36 (by decide) ?_
      refine lv_icmp_ge (tgt := 80) hx hb dX11_takeKept_38 (by decide) (fun c9 => ?_) (fun c9 => ?_)
      · have h := if_t c9 h
        have hy := Option.some.inj h
        subst hy
        exact g_rv S Z hr hlocks dX11_takeKept_80
      · have h := if_f c9 h
        refine lv_aload_n hx hb dX11_takeKept_41 rfl (lv_at hl 0 rfl) ?_
        refine mr_gotEntry S X Z hin hl_119 dX11_takeKept_42 ?_
        refine lv_iload hx hb dX11_takeKept_45 (lv_at hl 3 rfl) ?_
        refine lv_aload_n hx hb dX11_takeKept_47 rfl (lv_at hl 0 rfl) ?_
        refine lv_iload hx hb dX11_takeKept_48 (lv_at hl 3 rfl) ?_
        refine lv_iload_n hx hb dX11_takeKept_50 rfl (lv_at hl 2 rfl) ?_
        obtain ⟨v11, hc10, h⟩ := o1_e h
        refine g_Vi (As := [.int x6, .int a2]) (rest := [.int x6, .ref (A m_gotEntry)]) S X Z mlv_o rfl rfl (t_X11_isChild l D dA A hJ  hc10) (cwV 2 hts gX11_takeKept_X11_isChild rfl rfl rfl (by decide +kernel) ⟨Nat.le_of_ble_eq_true rfl, Nat.le_of_ble_eq_true rfl⟩) rfl hl.1 rfl (Nat.le_of_ble_eq_true rfl) dX11_takeKept_51 ⟨Nat.zero_le _, Nat.zero_le _⟩ (fun H locs Z => ?_)
        obtain ⟨J73, eJ73, h⟩ := jn_e h
        have hJ73 : ∀ (b12 : Int32) (M13 : gM) (H : Heap) (locs : List Loc) (ls : Array Slot), gZ D mLay dA mLive A (gA mLive A) s.heap M13 H locs → lv_has ls 5 [(0, .ref (A m_o)), (1, .int a1), (2, .int a2), (4, .int x6)] → J73 (b12, M13) = some y → W p l e (headSpec wsX11_takeKept ({ frames := 1, cells := 0, slots := 0, locals := 25 } : Room)).room s m args below meth c H locs 0 0 (MQ below (mQv D dA A y) args s 0 0 (gA mLive A)) (F0 m 73 ls [.int b12, .int x6, .ref (A m_gotEntry)]) := by
          intro b12 M13 H locs ls Z hl h
          rw [eJ73] at h
          try dsimp only at h
          refine g_iast S X Z ml_gotEntry rfl dX11_takeKept_73 h (fun M14 H locs Z h => ?_)
          obtain ⟨x15, ex15, h⟩ := lt_e h
          refine lv_iinc (v := x15) (lv' := [(4, .int x15), (0, .ref (A m_o)), (1, .int a1), (2, .int a2)]) hx hb dX11_takeKept_74 hl (k := 3) rfl (by rw [ex15]; rfl) (by decide) rfl (fun ls hl => ?_)
          refine lv_goto (tgt := 34) hx hb dX11_takeKept_77 (by decide) ?_
          exact ih34 x15 M14 _ _ _ Z (lv_sub hl [1, 2, 3, 0] rfl) h
        refine lv_if_eq (tgt := 72) hx hb dX11_takeKept_54 (by decide) (fun c16 => ?_) (fun c16 => ?_)
        · have h := if_t c16 h
          refine lv_iconst (v := (0 : Int32)) hx hb dX11_takeKept_72 (by decide) ?_
          exact hJ73 (0 : Int32) M7 _ _ _ Z (lv_sub hl [0, 1, 2, 3] rfl) h
        · have h := if_f c16 h
          refine lv_aload_n hx hb dX11_takeKept_57 rfl (lv_at hl 0 rfl) ?_
          refine mr_keptEntry S X Z hin hl_89 dX11_takeKept_58 ?_
          refine lv_bipush (v := (48 : Int32)) hx hb dX11_takeKept_61 (by decide) ?_
          refine lv_iload_n hx hb dX11_takeKept_63 rfl (lv_at hl 1 rfl) ?_
          refine lv_imul hx hb dX11_takeKept_64 ?_
          refine lv_iload hx hb dX11_takeKept_65 (lv_at hl 3 rfl) ?_
          refine lv_iadd hx hb dX11_takeKept_67 ?_
          refine g_iald S X Z ml_keptEntry rfl dX11_takeKept_68 h (fun v17 h => ?_)
          refine lv_goto (tgt := 73) hx hb dX11_takeKept_69 (by decide) ?_
          exact hJ73 v17 M7 _ _ _ Z (lv_sub hl [0, 1, 2, 3] rfl) h
  exact hL34 100 (0 : Int32) M5 _ _ _ Z (lv_sub hl [2, 3, 4, 0] rfl) h
-- X11_greatest (II)I: 62 instructions
set_option maxRecDepth 20000 in
theorem ggX11_greatest_X11_isAtMost : GoodIn wsX11_greatest wsX11_isAtMost := goodIn_r _ [7, 8, 9, 10, 11, 12, 13, 14, 15, 16, 17, 18, 19, 20, 21, 22, 23, 24, 25, 26, 27, 28, 29, 30, 31, 32, 33, 34, 35, 36, 37, 38, 39, 40, 41, 42, 43, 44, 45, 46, 47, 48, 49, 50, 51, 52, 53, 54, 55, 56, 57, 58, 59, 60, 61, 62, 63, 64, 65, 66, 67, 68, 69, 70, 71, 72, 73, 74, 75] (by decide +kernel) (by decide +kernel)
set_option maxRecDepth 20000 in
theorem gX11_greatest_X11_isAtMost : GoodIn wsX11_greatest (wsV RX11 265 RX11 yX11_isAtMost wsX11_isAtMost) := goodIn_app (goodIn_of _ (by decide +kernel)) ggX11_greatest_X11_isAtMost
theorem dX11_greatest_0 : decode cX11_greatest 0 = .ok (.iconst 0, 1) := by decide +kernel
theorem dX11_greatest_1 : decode cX11_greatest 1 = .ok (.istore_n 3, 1) := by decide +kernel
theorem dX11_greatest_2 : decode cX11_greatest 2 = .ok (.iload_n 3, 1) := by decide +kernel
theorem dX11_greatest_3 : decode cX11_greatest 3 = .ok (.aload_n 0, 1) := by decide +kernel
theorem dX11_greatest_4 : decode cX11_greatest 4 = .ok (.getfield 155, 3) := by decide +kernel
theorem dX11_greatest_7 : decode cX11_greatest 7 = .ok (.if_icmp .ge 99, 3) := by decide +kernel
theorem dX11_greatest_10 : decode cX11_greatest 10 = .ok (.iload_n 1, 1) := by decide +kernel
theorem dX11_greatest_11 : decode cX11_greatest 11 = .ok (.iload_n 3, 1) := by decide +kernel
theorem dX11_greatest_12 : decode cX11_greatest 12 = .ok (.ishr, 1) := by decide +kernel
theorem dX11_greatest_13 : decode cX11_greatest 13 = .ok (.iconst 1, 1) := by decide +kernel
theorem dX11_greatest_14 : decode cX11_greatest 14 = .ok (.iand, 1) := by decide +kernel
theorem dX11_greatest_15 : decode cX11_greatest 15 = .ok (.iconst 1, 1) := by decide +kernel
theorem dX11_greatest_16 : decode cX11_greatest 16 = .ok (.if_icmp .ne 7, 3) := by decide +kernel
theorem dX11_greatest_19 : decode cX11_greatest 19 = .ok (.iconst 1, 1) := by decide +kernel
theorem dX11_greatest_20 : decode cX11_greatest 20 = .ok (.goto 4, 3) := by decide +kernel
theorem dX11_greatest_23 : decode cX11_greatest 23 = .ok (.iconst 0, 1) := by decide +kernel
theorem dX11_greatest_24 : decode cX11_greatest 24 = .ok (.istore 4, 2) := by decide +kernel
theorem dX11_greatest_26 : decode cX11_greatest 26 = .ok (.iconst 0, 1) := by decide +kernel
theorem dX11_greatest_27 : decode cX11_greatest 27 = .ok (.istore 5, 2) := by decide +kernel
theorem dX11_greatest_29 : decode cX11_greatest 29 = .ok (.iload 5, 2) := by decide +kernel
theorem dX11_greatest_31 : decode cX11_greatest 31 = .ok (.aload_n 0, 1) := by decide +kernel
theorem dX11_greatest_32 : decode cX11_greatest 32 = .ok (.getfield 155, 3) := by decide +kernel
theorem dX11_greatest_35 : decode cX11_greatest 35 = .ok (.if_icmp .ge 58, 3) := by decide +kernel
theorem dX11_greatest_38 : decode cX11_greatest 38 = .ok (.iload 4, 2) := by decide +kernel
theorem dX11_greatest_40 : decode cX11_greatest 40 = .ok (.ifCond .eq 53, 3) := by decide +kernel
theorem dX11_greatest_43 : decode cX11_greatest 43 = .ok (.iload_n 1, 1) := by decide +kernel
theorem dX11_greatest_44 : decode cX11_greatest 44 = .ok (.iload 5, 2) := by decide +kernel
theorem dX11_greatest_46 : decode cX11_greatest 46 = .ok (.ishr, 1) := by decide +kernel
theorem dX11_greatest_47 : decode cX11_greatest 47 = .ok (.iconst 1, 1) := by decide +kernel
theorem dX11_greatest_48 : decode cX11_greatest 48 = .ok (.iand, 1) := by decide +kernel
theorem dX11_greatest_49 : decode cX11_greatest 49 = .ok (.ifCond .eq 31, 3) := by decide +kernel
theorem dX11_greatest_52 : decode cX11_greatest 52 = .ok (.aload_n 0, 1) := by decide +kernel
theorem dX11_greatest_53 : decode cX11_greatest 53 = .ok (.aload_n 0, 1) := by decide +kernel
theorem dX11_greatest_54 : decode cX11_greatest 54 = .ok (.getfield 41, 3) := by decide +kernel
theorem dX11_greatest_57 : decode cX11_greatest 57 = .ok (.bipush 48, 2) := by decide +kernel
theorem dX11_greatest_59 : decode cX11_greatest 59 = .ok (.iload 5, 2) := by decide +kernel
theorem dX11_greatest_61 : decode cX11_greatest 61 = .ok (.imul, 1) := by decide +kernel
theorem dX11_greatest_62 : decode cX11_greatest 62 = .ok (.iload_n 2, 1) := by decide +kernel
theorem dX11_greatest_63 : decode cX11_greatest 63 = .ok (.iadd, 1) := by decide +kernel
theorem dX11_greatest_64 : decode cX11_greatest 64 = .ok (.aload_n 0, 1) := by decide +kernel
theorem dX11_greatest_65 : decode cX11_greatest 65 = .ok (.getfield 41, 3) := by decide +kernel
theorem dX11_greatest_68 : decode cX11_greatest 68 = .ok (.bipush 48, 2) := by decide +kernel
theorem dX11_greatest_70 : decode cX11_greatest 70 = .ok (.iload_n 3, 1) := by decide +kernel
theorem dX11_greatest_71 : decode cX11_greatest 71 = .ok (.imul, 1) := by decide +kernel
theorem dX11_greatest_72 : decode cX11_greatest 72 = .ok (.iload_n 2, 1) := by decide +kernel
theorem dX11_greatest_73 : decode cX11_greatest 73 = .ok (.iadd, 1) := by decide +kernel
theorem dX11_greatest_74 : decode cX11_greatest 74 = .ok (.invokevirtual 265, 3) := by decide +kernel
theorem dX11_greatest_77 : decode cX11_greatest 77 = .ok (.ifCond .eq 7, 3) := by decide +kernel
theorem dX11_greatest_80 : decode cX11_greatest 80 = .ok (.iconst 1, 1) := by decide +kernel
theorem dX11_greatest_81 : decode cX11_greatest 81 = .ok (.goto 4, 3) := by decide +kernel
theorem dX11_greatest_84 : decode cX11_greatest 84 = .ok (.iconst 0, 1) := by decide +kernel
theorem dX11_greatest_85 : decode cX11_greatest 85 = .ok (.istore 4, 2) := by decide +kernel
theorem dX11_greatest_87 : decode cX11_greatest 87 = .ok (.iinc 5 1, 3) := by decide +kernel
theorem dX11_greatest_90 : decode cX11_greatest 90 = .ok (.goto (-61), 3) := by decide +kernel
theorem dX11_greatest_93 : decode cX11_greatest 93 = .ok (.iload 4, 2) := by decide +kernel
theorem dX11_greatest_95 : decode cX11_greatest 95 = .ok (.ifCond .eq 5, 3) := by decide +kernel
theorem dX11_greatest_98 : decode cX11_greatest 98 = .ok (.iload_n 3, 1) := by decide +kernel
theorem dX11_greatest_99 : decode cX11_greatest 99 = .ok (.ireturn, 1) := by decide +kernel
theorem dX11_greatest_100 : decode cX11_greatest 100 = .ok (.iinc 3 1, 3) := by decide +kernel
theorem dX11_greatest_103 : decode cX11_greatest 103 = .ok (.goto (-101), 3) := by decide +kernel
theorem dX11_greatest_106 : decode cX11_greatest 106 = .ok (.iconst (-1), 1) := by decide +kernel
theorem dX11_greatest_107 : decode cX11_greatest 107 = .ok (.ireturn, 1) := by decide +kernel
def f_X11_greatest_L29 (M12 : gM) (a1 : Int32) (a2 : Int32) (x1 : Int32) (J93 : Int32 → Option Int32) : Nat → Int32 → Int32 → Option Int32
  | 0, _, _ => none
  | n13 + 1, x10, x11 => lt (M12 m_o 0) (fun v14 => (if v14 ≤ x11 then J93 x10 else (if x10 = 0 then J93 x10 else jn (fun (b17 : Int32) => lt (x11 + 1) (fun x18 => f_X11_greatest_L29 M12 a1 a2 x1 J93 n13 b17 x18)) (fun J85 => jn (fun (_ : Unit) => J85 (1 : Int32)) (fun J80 => (if ((a1 >>> (x11 &&& 31)) &&& (1 : Int32)) = 0 then J80 () else o1 (f_X11_isAtMost M12 m_vector (((48 : Int32) * x11) + a2) m_vector (((48 : Int32) * x1) + a2)) (fun v21 => (if v21 = 0 then J85 (0 : Int32) else J80 ()))))))))
def f_X11_greatest_L2 (M2 : gM) (a1 : Int32) (a2 : Int32) : Nat → Int32 → Option Int32
  | 0, _ => none
  | n3 + 1, x1 => lt (M2 m_o 0) (fun v4 => (if v4 ≤ x1 then some (-1 : Int32) else jn (fun (b6 : Int32) => jn (fun (b7 : Int32) => (if b7 = 0 then lt (x1 + 1) (fun x9 => f_X11_greatest_L2 M2 a1 a2 n3 x9) else some x1)) (fun J93 => f_X11_greatest_L29 M2 a1 a2 x1 J93 100 b6 (0 : Int32))) (fun J24 => (if ((a1 >>> (x1 &&& 31)) &&& (1 : Int32)) = (1 : Int32) then J24 (1 : Int32) else J24 (0 : Int32)))))
def f_X11_greatest (M : gM) (a1 : Int32) (a2 : Int32) : Option Int32 :=
  f_X11_greatest_L2 M a1 a2 100 (0 : Int32)
set_option maxHeartbeats 4000000 in
set_option maxRecDepth 100000 in
theorem t_X11_greatest (l : Launch) (D : va_G) (dA : Nat → ClassId) (A : gI → Nat) (hJ : gJ mLive A) {M : gM} {a1 : Int32} {a2 : Int32}  {y : Int32} (h : f_X11_greatest M a1 a2 = some y) : mMi l yX11_greatest wsX11_greatest ({ frames := 1, cells := 0, slots := 0, locals := 25 } : Room) D dA A [.ref (A m_o), .int a1, .int a2] M y M := by
  refine Met.ofW (cc := cX11_greatest) (maxL := 6) (ret := (some .int)) (by decide) rfl ?_
  intro p e s m args below meth c s₁ B hml hv
  obtain ⟨rfl, hP, hK⟩ := hv
  generalize hargs : ([.ref (A m_o), .int a1, .int a2] : List Value).toArray = args at B ⊢
  have S : CallFix p m c cX11_greatest 6 s args wsX11_greatest RX11 := ⟨B.exec, B.bytes, hml, findClass_of_methodNamed B.named, atoms_spec (ws := wsX11_greatest) B.pre⟩
  obtain ⟨hx, hb, -, hown, hts⟩ := id S
  have hr := B.returns
  have hlocks := B.notSynchronized
  have X : gX D vwCl dA mLive A (gA mLive A) s := ⟨hK, hJ, fun i hi => ⟨i, hi, rfl⟩⟩
  have Z : gZ D mLay dA mLive A (gA mLive A) s.heap M s.heap [] := ⟨hP, va_S.rf⟩
  have hin : ∀ w ∈ wsX110, w ∈ wsX11_greatest := fun w h => List.mem_cons_of_mem _ (List.mem_append_right _ h)
  have hl_41 := hts (.fieldLink RX11 41 "ReplicaFilesModel" "vector" "[I") (by decide +kernel)
  have hl_155 := hts (.fieldLink RX11 155 "ReplicaFilesModel" "servers" "I") (by decide +kernel)
  have hl := lv_entry ([.ref (A m_o), .int a1, .int a2]) (n := 6) (Nat.le_of_ble_eq_true rfl)
  rw [← hargs, lg_entry_eq, hargs]
  generalize (lg_sl ([.ref (A m_o), .int a1, .int a2]) ++ List.replicate (6 - (lg_sl ([.ref (A m_o), .int a1, .int a2])).length) Slot.unset).toArray = ls at hl ⊢
  have hl : lv_has ls 6 [(0, .ref (A m_o)), (1, .int a1), (2, .int a2)] := hl
  unfold f_X11_greatest at h
  refine lv_iconst (v := (0 : Int32)) hx hb dX11_greatest_0 (by decide) ?_
  refine lv_istore_n (lv' := [(3, .int (0 : Int32)), (0, .ref (A m_o)), (1, .int a1), (2, .int a2)]) hx hb dX11_greatest_1 rfl hl (by decide) rfl (fun ls hl => ?_)
  have hL2 : ∀ (n : Nat) (x1 : Int32) (H : Heap) (locs : List Loc) (ls : Array Slot), gZ D mLay dA mLive A (gA mLive A) s.heap M H locs → lv_has ls 6 [(0, .ref (A m_o)), (1, .int a1), (2, .int a2), (3, .int x1)] → f_X11_greatest_L2 M a1 a2 n x1 = some y → W p l e (headSpec wsX11_greatest ({ frames := 1, cells := 0, slots := 0, locals := 25 } : Room)).room s m args below meth c H locs 0 0 (MQ below (mQi D dA A (y, M)) args s 0 0 (gA mLive A)) (F0 m 2 ls []) := by
    intro n
    induction n with
    | zero =>
      intro x1 H locs ls Z hl h
      rw [f_X11_greatest_L2] at h
      cases h
    | succ n3 ih2 =>
      intro x1 H locs ls Z hl h
      rw [f_X11_greatest_L2] at h
      refine lv_iload_n hx hb dX11_greatest_2 rfl (lv_at hl 3 rfl) ?_
      refine lv_aload_n hx hb dX11_greatest_3 rfl (lv_at hl 0 rfl) ?_
      refine mr_servers S X Z hin hl_155 dX11_greatest_4 h (fun v4 h => ?_)
      refine lv_icmp_ge (tgt := 106) hx hb dX11_greatest_7 (by decide) (fun c5 => ?_) (fun c5 => ?_)
      · have h := if_t c5 h
        refine lv_iconst (v := (-1 : Int32)) hx hb dX11_greatest_106 (by decide) ?_
        have hy := Option.some.inj h
        subst hy
        exact g_ri S Z hr hlocks dX11_greatest_107
      · have h := if_f c5 h
        refine lv_iload_n hx hb dX11_greatest_10 rfl (lv_at hl 1 rfl) ?_
        refine lv_iload_n hx hb dX11_greatest_11 rfl (lv_at hl 3 rfl) ?_
        refine lv_ishr hx hb dX11_greatest_12 ?_
        refine lv_iconst (v := (1 : Int32)) hx hb dX11_greatest_13 (by decide) ?_
        refine lv_iand hx hb dX11_greatest_14 ?_
        refine lv_iconst (v := (1 : Int32)) hx hb dX11_greatest_15 (by decide) ?_
        obtain ⟨J24, eJ24, h⟩ := jn_e h
        have hJ24 : ∀ (b6 : Int32) (H : Heap) (locs : List Loc) (ls : Array Slot), gZ D mLay dA mLive A (gA mLive A) s.heap M H locs → lv_has ls 6 [(0, .ref (A m_o)), (1, .int a1), (2, .int a2), (3, .int x1)] → J24 b6 = some y → W p l e (headSpec wsX11_greatest ({ frames := 1, cells := 0, slots := 0, locals := 25 } : Room)).room s m args below meth c H locs 0 0 (MQ below (mQi D dA A (y, M)) args s 0 0 (gA mLive A)) (F0 m 24 ls [.int b6]) := by
          intro b6 H locs ls Z hl h
          rw [eJ24] at h
          try dsimp only at h
          refine lv_istore (lv' := [(4, .int b6), (0, .ref (A m_o)), (1, .int a1), (2, .int a2), (3, .int x1)]) hx hb dX11_greatest_24 hl (by decide) rfl (fun ls hl => ?_)
          refine lv_iconst (v := (0 : Int32)) hx hb dX11_greatest_26 (by decide) ?_
          refine lv_istore (lv' := [(5, .int (0 : Int32)), (4, .int b6), (0, .ref (A m_o)), (1, .int a1), (2, .int a2), (3, .int x1)]) hx hb dX11_greatest_27 hl (by decide) rfl (fun ls hl => ?_)
          obtain ⟨J93, eJ93, h⟩ := jn_e h
          have hJ93 : ∀ (b7 : Int32) (H : Heap) (locs : List Loc) (ls : Array Slot), gZ D mLay dA mLive A (gA mLive A) s.heap M H locs → lv_has ls 6 [(0, .ref (A m_o)), (1, .int a1), (2, .int a2), (3, .int x1), (4, .int b7)] → J93 b7 = some y → W p l e (headSpec wsX11_greatest ({ frames := 1, cells := 0, slots := 0, locals := 25 } : Room)).room s m args below meth c H locs 0 0 (MQ below (mQi D dA A (y, M)) args s 0 0 (gA mLive A)) (F0 m 93 ls []) := by
            intro b7 H locs ls Z hl h
            rw [eJ93] at h
            try dsimp only at h
            refine lv_iload hx hb dX11_greatest_93 (lv_at hl 4 rfl) ?_
            refine lv_if_eq (tgt := 100) hx hb dX11_greatest_95 (by decide) (fun c8 => ?_) (fun c8 => ?_)
            · have h := if_t c8 h
              obtain ⟨x9, ex9, h⟩ := lt_e h
              refine lv_iinc (v := x9) (lv' := [(3, .int x9), (0, .ref (A m_o)), (1, .int a1), (2, .int a2), (4, .int b7)]) hx hb dX11_greatest_100 hl (k := 3) rfl (by rw [ex9]; rfl) (by decide) rfl (fun ls hl => ?_)
              refine lv_goto (tgt := 2) hx hb dX11_greatest_103 (by decide) ?_
              exact ih2 x9 _ _ _ Z (lv_sub hl [1, 2, 3, 0] rfl) h
            · have h := if_f c8 h
              refine lv_iload_n hx hb dX11_greatest_98 rfl (lv_at hl 3 rfl) ?_
              have hy := Option.some.inj h
              subst hy
              exact g_ri S Z hr hlocks dX11_greatest_99
          have hL29 : ∀ (n : Nat) (x10 : Int32) (x11 : Int32) (H : Heap) (locs : List Loc) (ls : Array Slot), gZ D mLay dA mLive A (gA mLive A) s.heap M H locs → lv_has ls 6 [(0, .ref (A m_o)), (1, .int a1), (2, .int a2), (3, .int x1), (4, .int x10), (5, .int x11)] → f_X11_greatest_L29 M a1 a2 x1 J93 n x10 x11 = some y → W p l e (headSpec wsX11_greatest ({ frames := 1, cells := 0, slots := 0, locals := 25 } : Room)).room s m args below meth c H locs 0 0 (MQ below (mQi D dA A (y, M)) args s 0 0 (gA mLive A)) (F0 m 29 ls []) := by
            intro n
            induction n with
            | zero =>
              intro x10 x11 H locs ls Z hl h
              rw [f_X11_greatest_L29] at h
              cases h
            | succ n13 ih29 =>
              intro x10 x11 H locs ls Z hl h
              rw [f_X11_greatest_L29] at h
              refine lv_iload hx hb dX11_greatest_29 (lv_at hl 5 rfl) ?_
              refine lv_aload_n hx hb dX11_greatest_31 rfl (lv_at hl 0 rfl) ?_
              refine mr_servers S X Z hin hl_155 dX11_greatest_32 h (fun v14 h => ?_)
              refine lv_icmp_ge (tgt := 93) hx hb dX11_greatest_35 (by decide) (fun c15 => ?_) (fun c15 => ?_)
              · have h := if_t c15 h
                exact hJ93 x10 _ _ _ Z (lv_sub hl [0, 1, 2, 3, 4] rfl) h
              · have h := if_f c15 h
                refine lv_iload hx hb dX11_greatest_38 (lv_at hl 4 rfl) ?_
                refine lv_if_eq (tgt := 93) hx hb dX11_greatest_40 (by decide) (fun c16 => ?_) (fun c16 => ?_)
                · have h := if_t c16 h
                  exact hJ93 x10 _ _ _ Z (lv_sub hl [0, 1, 2, 3, 4] rfl) h
                · have h := if_f c16 h
                  refine lv_iload_n hx hb dX11_greatest_43 rfl (lv_at hl 1 rfl) ?_
                  refine lv_iload hx hb dX11_greatest_44 (lv_at hl 5 rfl) ?_
                  refine lv_ishr hx hb dX11_greatest_46 ?_
                  refine lv_iconst (v := (1 : Int32)) hx hb dX11_greatest_47 (by decide) ?_
                  refine lv_iand hx hb dX11_greatest_48 ?_
                  obtain ⟨J85, eJ85, h⟩ := jn_e h
                  have hJ85 : ∀ (b17 : Int32) (H : Heap) (locs : List Loc) (ls : Array Slot), gZ D mLay dA mLive A (gA mLive A) s.heap M H locs → lv_has ls 6 [(0, .ref (A m_o)), (1, .int a1), (2, .int a2), (3, .int x1), (5, .int x11)] → J85 b17 = some y → W p l e (headSpec wsX11_greatest ({ frames := 1, cells := 0, slots := 0, locals := 25 } : Room)).room s m args below meth c H locs 0 0 (MQ below (mQi D dA A (y, M)) args s 0 0 (gA mLive A)) (F0 m 85 ls [.int b17]) := by
                    intro b17 H locs ls Z hl h
                    rw [eJ85] at h
                    try dsimp only at h
                    refine lv_istore (lv' := [(4, .int b17), (0, .ref (A m_o)), (1, .int a1), (2, .int a2), (3, .int x1), (5, .int x11)]) hx hb dX11_greatest_85 hl (by decide) rfl (fun ls hl => ?_)
                    obtain ⟨x18, ex18, h⟩ := lt_e h
                    refine lv_iinc (v := x18) (lv' := [(5, .int x18), (4, .int b17), (0, .ref (A m_o)), (1, .int a1), (2, .int a2), (3, .int x1)]) hx hb dX11_greatest_87 hl (k := 5) rfl (by rw [ex18]; rfl) (by decide) rfl (fun ls hl => ?_)
                    refine lv_goto (tgt := 29) hx hb dX11_greatest_90 (by decide) ?_
                    exact ih29 b17 x18 _ _ _ Z (lv_sub hl [2, 3, 4, 5, 1, 0] rfl) h
                  obtain ⟨J80, eJ80, h⟩ := jn_e h
                  have hJ80 : ∀  (H : Heap) (locs : List Loc) (ls : Array Slot), gZ D mLay dA mLive A (gA mLive A) s.heap M H locs → lv_has ls 6 [(0, .ref (A m_o)), (1, .int a1), (2, .int a2), (3, .int x1), (5, .int x11)] → J80 () = some y → W p l e (headSpec wsX11_greatest ({ frames := 1, cells := 0, slots := 0, locals := 25 } : Room)).room s m args below meth c H locs 0 0 (MQ below (mQi D dA A (y, M)) args s 0 0 (gA mLive A)) (F0 m 80 ls []) := by
                    intro  H locs ls Z hl h
                    rw [eJ80] at h
                    try dsimp only at h
                    refine lv_iconst (v := (1 : Int32)) hx hb dX11_greatest_80 (by decide) ?_
                    refine lv_goto (tgt := 85) hx hb dX11_greatest_81 (by decide) ?_
                    exact hJ85 (1 : Int32) _ _ _ Z (lv_sub hl [0, 1, 2, 3, 4] rfl) h
                  refine lv_if_eq (tgt := 80) hx hb dX11_greatest_49 (by decide) (fun c19 => ?_) (fun c19 => ?_)
                  · have h := if_t c19 h
                    exact hJ80  _ _ _ Z (lv_sub hl [0, 1, 2, 3, 5] rfl) h
                  · have h := if_f c19 h
                    refine lv_aload_n hx hb dX11_greatest_52 rfl (lv_at hl 0 rfl) ?_
                    refine lv_aload_n hx hb dX11_greatest_53 rfl (lv_at hl 0 rfl) ?_
                    refine mr_vector S X Z hin hl_41 dX11_greatest_54 ?_
                    refine lv_bipush (v := (48 : Int32)) hx hb dX11_greatest_57 (by decide) ?_
                    refine lv_iload hx hb dX11_greatest_59 (lv_at hl 5 rfl) ?_
                    refine lv_imul hx hb dX11_greatest_61 ?_
                    refine lv_iload_n hx hb dX11_greatest_62 rfl (lv_at hl 2 rfl) ?_
                    refine lv_iadd hx hb dX11_greatest_63 ?_
                    refine lv_aload_n hx hb dX11_greatest_64 rfl (lv_at hl 0 rfl) ?_
                    refine mr_vector S X Z hin hl_41 dX11_greatest_65 ?_
                    refine lv_bipush (v := (48 : Int32)) hx hb dX11_greatest_68 (by decide) ?_
                    refine lv_iload_n hx hb dX11_greatest_70 rfl (lv_at hl 3 rfl) ?_
                    refine lv_imul hx hb dX11_greatest_71 ?_
                    refine lv_iload_n hx hb dX11_greatest_72 rfl (lv_at hl 2 rfl) ?_
                    refine lv_iadd hx hb dX11_greatest_73 ?_
                    obtain ⟨v21, hc20, h⟩ := o1_e h
                    refine g_Vi (As := [.ref (A m_vector), .int (((48 : Int32) * x11) + a2), .ref (A m_vector), .int (((48 : Int32) * x1) + a2)]) (rest := []) S X Z mlv_o rfl rfl (t_X11_isAtMost l D dA A hJ ⟨ml_vector, rfl⟩ ⟨ml_vector, rfl⟩ hc20) (cwV 4 hts gX11_greatest_X11_isAtMost rfl rfl rfl (by decide +kernel) ⟨Nat.le_of_ble_eq_true rfl, Nat.le_of_ble_eq_true rfl⟩) rfl hl.1 rfl (Nat.le_of_ble_eq_true rfl) dX11_greatest_74 ⟨Nat.zero_le _, Nat.zero_le _⟩ (fun H locs Z => ?_)
                    refine lv_if_eq (tgt := 84) hx hb dX11_greatest_77 (by decide) (fun c22 => ?_) (fun c22 => ?_)
                    · have h := if_t c22 h
                      refine lv_iconst (v := (0 : Int32)) hx hb dX11_greatest_84 (by decide) ?_
                      exact hJ85 (0 : Int32) _ _ _ Z (lv_sub hl [0, 1, 2, 3, 5] rfl) h
                    · have h := if_f c22 h
                      exact hJ80  _ _ _ Z (lv_sub hl [0, 1, 2, 3, 5] rfl) h
          exact hL29 100 b6 (0 : Int32) _ _ _ Z (lv_sub hl [2, 3, 4, 5, 1, 0] rfl) h
        refine lv_icmp_ne (tgt := 23) hx hb dX11_greatest_16 (by decide) (fun c23 => ?_) (fun c23 => ?_)
        · have h := if_f c23 h
          refine lv_iconst (v := (0 : Int32)) hx hb dX11_greatest_23 (by decide) ?_
          exact hJ24 (0 : Int32) _ _ _ Z (lv_sub hl [0, 1, 2, 3] rfl) h
        · have h := if_t c23 h
          refine lv_iconst (v := (1 : Int32)) hx hb dX11_greatest_19 (by decide) ?_
          refine lv_goto (tgt := 24) hx hb dX11_greatest_20 (by decide) ?_
          exact hJ24 (1 : Int32) _ _ _ Z (lv_sub hl [0, 1, 2, 3] rfl) h
  exact hL2 100 (0 : Int32) _ _ _ Z (lv_sub hl [1, 2, 3, 0] rfl) h
-- X11_bring (IIIII)V: 230 instructions
set_option maxRecDepth 20000 in
theorem ggX11_bring_X11_copyTo : GoodIn wsX11_bring wsX11_copyTo := goodIn_r _ [25] (by decide +kernel) (by decide +kernel)
set_option maxRecDepth 20000 in
theorem gX11_bring_X11_copyTo : GoodIn wsX11_bring (wsV RX11 234 RX11 yX11_copyTo wsX11_copyTo) := goodIn_app (goodIn_of _ (by decide +kernel)) ggX11_bring_X11_copyTo
set_option maxRecDepth 20000 in
theorem ggX11_bring_X11_isChild : GoodIn wsX11_bring wsX11_isChild := goodIn_r _ [29, 14, 30, 71, 72, 73, 74, 75, 76, 77, 78, 79, 80, 81, 82, 83, 84, 85, 86, 87, 88, 89, 90, 91, 92, 93, 94, 95, 96, 97, 98, 99, 100, 101, 102, 103, 104, 105, 106, 107, 108, 109, 110, 111, 112, 113, 114, 115, 116, 117, 118, 119, 120, 121, 122, 123, 124, 125, 126, 127, 128, 129, 130, 131, 132, 133, 134, 135, 136, 137] (by decide +kernel) (by decide +kernel)
set_option maxRecDepth 20000 in
theorem gX11_bring_X11_isChild : GoodIn wsX11_bring (wsV RX11 197 RX11 yX11_isChild wsX11_isChild) := goodIn_app (goodIn_of _ (by decide +kernel)) ggX11_bring_X11_isChild
set_option maxRecDepth 20000 in
theorem ggX11_bring_X11_weight : GoodIn wsX11_bring wsX11_weight := goodIn_r _ [34, 35, 71, 72, 73, 74, 75, 76, 77, 78, 79, 80, 81, 82, 83, 84, 85, 86, 87, 88, 89, 90, 91, 92, 93, 94, 95, 96, 97, 98, 99, 100, 101, 102, 103, 104, 105, 106, 107, 108, 109, 110, 111, 112, 113, 114, 115, 116, 117, 118, 119, 120, 121, 122, 123, 124, 125, 126, 127, 128, 129, 130, 131, 132, 133, 134, 135, 136, 137] (by decide +kernel) (by decide +kernel)
set_option maxRecDepth 20000 in
theorem gX11_bring_X11_weight : GoodIn wsX11_bring (wsV RX11 204 RX11 yX11_weight wsX11_weight) := goodIn_app (goodIn_of _ (by decide +kernel)) ggX11_bring_X11_weight
set_option maxRecDepth 20000 in
theorem ggX11_bring_X11_weightKept : GoodIn wsX11_bring wsX11_weightKept := goodIn_r _ [39, 9, 12, 31, 32, 33, 24, 34, 35, 71, 72, 73, 74, 75, 76, 77, 78, 79, 80, 81, 82, 83, 84, 85, 86, 87, 88, 89, 90, 91, 92, 93, 94, 95, 96, 97, 98, 99, 100, 101, 102, 103, 104, 105, 106, 107, 108, 109, 110, 111, 112, 113, 114, 115, 116, 117, 118, 119, 120, 121, 122, 123, 124, 125, 126, 127, 128, 129, 130, 131, 132, 133, 134, 135, 136, 137] (by decide +kernel) (by decide +kernel)
set_option maxRecDepth 20000 in
theorem gX11_bring_X11_weightKept : GoodIn wsX11_bring (wsV RX11 214 RX11 yX11_weightKept wsX11_weightKept) := goodIn_app (goodIn_of _ (by decide +kernel)) ggX11_bring_X11_weightKept
set_option maxRecDepth 20000 in
theorem ggX11_bring_X11_makeRoom : GoodIn wsX11_bring wsX11_makeRoom := goodIn_r _ [43, 44, 36, 37, 38, 24, 39, 9, 12, 31, 32, 33, 34, 35, 45, 46, 47, 48, 10, 49, 50, 51, 52, 53, 54, 55, 56, 57, 58, 59, 60, 18, 14, 15, 26, 27, 28, 29, 30, 71, 72, 73, 74, 75, 76, 77, 78, 79, 80, 81, 82, 83, 84, 85, 86, 87, 88, 89, 90, 91, 92, 93, 94, 95, 96, 97, 98, 99, 100, 101, 102, 103, 104, 105, 106, 107, 108, 109, 110, 111, 112, 113, 114, 115, 116, 117, 118, 119, 120, 121, 122, 123, 124, 125, 126, 127, 128, 129, 130, 131, 132, 133, 134, 135, 136, 137] (by decide +kernel) (by decide +kernel)
set_option maxRecDepth 20000 in
theorem gX11_bring_X11_makeRoom : GoodIn wsX11_bring (wsV RX11 269 RX11 yX11_makeRoom wsX11_makeRoom) := goodIn_app (goodIn_of _ (by decide +kernel)) ggX11_bring_X11_makeRoom
set_option maxRecDepth 20000 in
theorem ggX11_bring_X11_forget : GoodIn wsX11_bring wsX11_forget := goodIn_r _ [60, 9, 10, 18, 14, 15, 26, 27, 28, 24, 29, 30, 71, 72, 73, 74, 75, 76, 77, 78, 79, 80, 81, 82, 83, 84, 85, 86, 87, 88, 89, 90, 91, 92, 93, 94, 95, 96, 97, 98, 99, 100, 101, 102, 103, 104, 105, 106, 107, 108, 109, 110, 111, 112, 113, 114, 115, 116, 117, 118, 119, 120, 121, 122, 123, 124, 125, 126, 127, 128, 129, 130, 131, 132, 133, 134, 135, 136, 137] (by decide +kernel) (by decide +kernel)
set_option maxRecDepth 20000 in
theorem gX11_bring_X11_forget : GoodIn wsX11_bring (wsV RX11 224 RX11 yX11_forget wsX11_forget) := goodIn_app (goodIn_of _ (by decide +kernel)) ggX11_bring_X11_forget
set_option maxRecDepth 20000 in
theorem ggX11_bring_X11_isSame : GoodIn wsX11_bring wsX11_isSame := goodIn_r _ [64, 65, 71, 72, 73, 74, 75, 76, 77, 78, 79, 80, 81, 82, 83, 84, 85, 86, 87, 88, 89, 90, 91, 92, 93, 94, 95, 96, 97, 98, 99, 100, 101, 102, 103, 104, 105, 106, 107, 108, 109, 110, 111, 112, 113, 114, 115, 116, 117, 118, 119, 120, 121, 122, 123, 124, 125, 126, 127, 128, 129, 130, 131, 132, 133, 134, 135, 136, 137] (by decide +kernel) (by decide +kernel)
set_option maxRecDepth 20000 in
theorem gX11_bring_X11_isSame : GoodIn wsX11_bring (wsV RX11 275 RX11 yX11_isSame wsX11_isSame) := goodIn_app (goodIn_of _ (by decide +kernel)) ggX11_bring_X11_isSame
set_option maxRecDepth 20000 in
theorem ggX11_bring_X11_use : GoodIn wsX11_bring wsX11_use := goodIn_r _ [69, 70, 56, 49, 50, 71, 72, 73, 74, 75, 76, 77, 78, 79, 80, 81, 82, 83, 84, 85, 86, 87, 88, 89, 90, 91, 92, 93, 94, 95, 96, 97, 98, 99, 100, 101, 102, 103, 104, 105, 106, 107, 108, 109, 110, 111, 112, 113, 114, 115, 116, 117, 118, 119, 120, 121, 122, 123, 124, 125, 126, 127, 128, 129, 130, 131, 132, 133, 134, 135, 136, 137] (by decide +kernel) (by decide +kernel)
set_option maxRecDepth 20000 in
theorem gX11_bring_X11_use : GoodIn wsX11_bring (wsV RX11 243 RX11 yX11_use wsX11_use) := goodIn_app (goodIn_of _ (by decide +kernel)) ggX11_bring_X11_use
theorem dX11_bring_0 : decode cX11_bring 0 = .ok (.bipush 48, 2) := by decide +kernel
theorem dX11_bring_2 : decode cX11_bring 2 = .ok (.iload_n 1, 1) := by decide +kernel
theorem dX11_bring_3 : decode cX11_bring 3 = .ok (.imul, 1) := by decide +kernel
theorem dX11_bring_4 : decode cX11_bring 4 = .ok (.iload_n 2, 1) := by decide +kernel
theorem dX11_bring_5 : decode cX11_bring 5 = .ok (.iadd, 1) := by decide +kernel
theorem dX11_bring_6 : decode cX11_bring 6 = .ok (.istore 6, 2) := by decide +kernel
theorem dX11_bring_8 : decode cX11_bring 8 = .ok (.bipush 48, 2) := by decide +kernel
theorem dX11_bring_10 : decode cX11_bring 10 = .ok (.iload_n 3, 1) := by decide +kernel
theorem dX11_bring_11 : decode cX11_bring 11 = .ok (.imul, 1) := by decide +kernel
theorem dX11_bring_12 : decode cX11_bring 12 = .ok (.iload_n 2, 1) := by decide +kernel
theorem dX11_bring_13 : decode cX11_bring 13 = .ok (.iadd, 1) := by decide +kernel
theorem dX11_bring_14 : decode cX11_bring 14 = .ok (.istore 7, 2) := by decide +kernel
theorem dX11_bring_16 : decode cX11_bring 16 = .ok (.aload_n 0, 1) := by decide +kernel
theorem dX11_bring_17 : decode cX11_bring 17 = .ok (.aload_n 0, 1) := by decide +kernel
theorem dX11_bring_18 : decode cX11_bring 18 = .ok (.getfield 35, 3) := by decide +kernel
theorem dX11_bring_21 : decode cX11_bring 21 = .ok (.iload 7, 2) := by decide +kernel
theorem dX11_bring_23 : decode cX11_bring 23 = .ok (.iaload, 1) := by decide +kernel
theorem dX11_bring_24 : decode cX11_bring 24 = .ok (.putfield 231, 3) := by decide +kernel
theorem dX11_bring_27 : decode cX11_bring 27 = .ok (.aload_n 0, 1) := by decide +kernel
theorem dX11_bring_28 : decode cX11_bring 28 = .ok (.aload_n 0, 1) := by decide +kernel
theorem dX11_bring_29 : decode cX11_bring 29 = .ok (.getfield 41, 3) := by decide +kernel
theorem dX11_bring_32 : decode cX11_bring 32 = .ok (.iload 7, 2) := by decide +kernel
theorem dX11_bring_34 : decode cX11_bring 34 = .ok (.aload_n 0, 1) := by decide +kernel
theorem dX11_bring_35 : decode cX11_bring 35 = .ok (.getfield 116, 3) := by decide +kernel
theorem dX11_bring_38 : decode cX11_bring 38 = .ok (.iconst 0, 1) := by decide +kernel
theorem dX11_bring_39 : decode cX11_bring 39 = .ok (.invokevirtual 234, 3) := by decide +kernel
theorem dX11_bring_42 : decode cX11_bring 42 = .ok (.iconst 0, 1) := by decide +kernel
theorem dX11_bring_43 : decode cX11_bring 43 = .ok (.istore 8, 2) := by decide +kernel
theorem dX11_bring_45 : decode cX11_bring 45 = .ok (.iload 8, 2) := by decide +kernel
theorem dX11_bring_47 : decode cX11_bring 47 = .ok (.bipush 48, 2) := by decide +kernel
theorem dX11_bring_49 : decode cX11_bring 49 = .ok (.if_icmp .ge 42, 3) := by decide +kernel
theorem dX11_bring_52 : decode cX11_bring 52 = .ok (.aload_n 0, 1) := by decide +kernel
theorem dX11_bring_53 : decode cX11_bring 53 = .ok (.getfield 119, 3) := by decide +kernel
theorem dX11_bring_56 : decode cX11_bring 56 = .ok (.iload 8, 2) := by decide +kernel
theorem dX11_bring_58 : decode cX11_bring 58 = .ok (.aload_n 0, 1) := by decide +kernel
theorem dX11_bring_59 : decode cX11_bring 59 = .ok (.iload 8, 2) := by decide +kernel
theorem dX11_bring_61 : decode cX11_bring 61 = .ok (.iload_n 2, 1) := by decide +kernel
theorem dX11_bring_62 : decode cX11_bring 62 = .ok (.invokevirtual 197, 3) := by decide +kernel
theorem dX11_bring_65 : decode cX11_bring 65 = .ok (.ifCond .eq 18, 3) := by decide +kernel
theorem dX11_bring_68 : decode cX11_bring 68 = .ok (.aload_n 0, 1) := by decide +kernel
theorem dX11_bring_69 : decode cX11_bring 69 = .ok (.getfield 56, 3) := by decide +kernel
theorem dX11_bring_72 : decode cX11_bring 72 = .ok (.bipush 48, 2) := by decide +kernel
theorem dX11_bring_74 : decode cX11_bring 74 = .ok (.iload_n 3, 1) := by decide +kernel
theorem dX11_bring_75 : decode cX11_bring 75 = .ok (.imul, 1) := by decide +kernel
theorem dX11_bring_76 : decode cX11_bring 76 = .ok (.iload 8, 2) := by decide +kernel
theorem dX11_bring_78 : decode cX11_bring 78 = .ok (.iadd, 1) := by decide +kernel
theorem dX11_bring_79 : decode cX11_bring 79 = .ok (.iaload, 1) := by decide +kernel
theorem dX11_bring_80 : decode cX11_bring 80 = .ok (.goto 4, 3) := by decide +kernel
theorem dX11_bring_83 : decode cX11_bring 83 = .ok (.iconst 0, 1) := by decide +kernel
theorem dX11_bring_84 : decode cX11_bring 84 = .ok (.iastore, 1) := by decide +kernel
theorem dX11_bring_85 : decode cX11_bring 85 = .ok (.iinc 8 1, 3) := by decide +kernel
theorem dX11_bring_88 : decode cX11_bring 88 = .ok (.goto (-43), 3) := by decide +kernel
theorem dX11_bring_91 : decode cX11_bring 91 = .ok (.aload_n 0, 1) := by decide +kernel
theorem dX11_bring_92 : decode cX11_bring 92 = .ok (.iload_n 1, 1) := by decide +kernel
theorem dX11_bring_93 : decode cX11_bring 93 = .ok (.aload_n 0, 1) := by decide +kernel
theorem dX11_bring_94 : decode cX11_bring 94 = .ok (.iload_n 2, 1) := by decide +kernel
theorem dX11_bring_95 : decode cX11_bring 95 = .ok (.aload_n 0, 1) := by decide +kernel
theorem dX11_bring_96 : decode cX11_bring 96 = .ok (.getfield 38, 3) := by decide +kernel
theorem dX11_bring_99 : decode cX11_bring 99 = .ok (.iload 7, 2) := by decide +kernel
theorem dX11_bring_101 : decode cX11_bring 101 = .ok (.iaload, 1) := by decide +kernel
theorem dX11_bring_102 : decode cX11_bring 102 = .ok (.invokevirtual 204, 3) := by decide +kernel
theorem dX11_bring_105 : decode cX11_bring 105 = .ok (.aload_n 0, 1) := by decide +kernel
theorem dX11_bring_106 : decode cX11_bring 106 = .ok (.iload_n 1, 1) := by decide +kernel
theorem dX11_bring_107 : decode cX11_bring 107 = .ok (.iload_n 2, 1) := by decide +kernel
theorem dX11_bring_108 : decode cX11_bring 108 = .ok (.invokevirtual 214, 3) := by decide +kernel
theorem dX11_bring_111 : decode cX11_bring 111 = .ok (.isub, 1) := by decide +kernel
theorem dX11_bring_112 : decode cX11_bring 112 = .ok (.iload_n 2, 1) := by decide +kernel
theorem dX11_bring_113 : decode cX11_bring 113 = .ok (.iload 5, 2) := by decide +kernel
theorem dX11_bring_115 : decode cX11_bring 115 = .ok (.invokevirtual 269, 3) := by decide +kernel
theorem dX11_bring_118 : decode cX11_bring 118 = .ok (.ifCond .ne 10, 3) := by decide +kernel
theorem dX11_bring_121 : decode cX11_bring 121 = .ok (.aload_n 0, 1) := by decide +kernel
theorem dX11_bring_122 : decode cX11_bring 122 = .ok (.iload_n 1, 1) := by decide +kernel
theorem dX11_bring_123 : decode cX11_bring 123 = .ok (.iload_n 2, 1) := by decide +kernel
theorem dX11_bring_124 : decode cX11_bring 124 = .ok (.invokevirtual 224, 3) := by decide +kernel
theorem dX11_bring_127 : decode cX11_bring 127 = .ok (.return_, 1) := by decide +kernel
theorem dX11_bring_128 : decode cX11_bring 128 = .ok (.aload_n 0, 1) := by decide +kernel
theorem dX11_bring_129 : decode cX11_bring 129 = .ok (.dup, 1) := by decide +kernel
theorem dX11_bring_130 : decode cX11_bring 130 = .ok (.getfield 272, 3) := by decide +kernel
theorem dX11_bring_133 : decode cX11_bring 133 = .ok (.iconst 1, 1) := by decide +kernel
theorem dX11_bring_134 : decode cX11_bring 134 = .ok (.iadd, 1) := by decide +kernel
theorem dX11_bring_135 : decode cX11_bring 135 = .ok (.putfield 272, 3) := by decide +kernel
theorem dX11_bring_138 : decode cX11_bring 138 = .ok (.aload_n 0, 1) := by decide +kernel
theorem dX11_bring_139 : decode cX11_bring 139 = .ok (.getfield 65, 3) := by decide +kernel
theorem dX11_bring_142 : decode cX11_bring 142 = .ok (.iload 6, 2) := by decide +kernel
theorem dX11_bring_144 : decode cX11_bring 144 = .ok (.iconst 1, 1) := by decide +kernel
theorem dX11_bring_145 : decode cX11_bring 145 = .ok (.bastore, 1) := by decide +kernel
theorem dX11_bring_146 : decode cX11_bring 146 = .ok (.aload_n 0, 1) := by decide +kernel
theorem dX11_bring_147 : decode cX11_bring 147 = .ok (.getfield 80, 3) := by decide +kernel
theorem dX11_bring_150 : decode cX11_bring 150 = .ok (.iload 6, 2) := by decide +kernel
theorem dX11_bring_152 : decode cX11_bring 152 = .ok (.iconst 0, 1) := by decide +kernel
theorem dX11_bring_153 : decode cX11_bring 153 = .ok (.bastore, 1) := by decide +kernel
theorem dX11_bring_154 : decode cX11_bring 154 = .ok (.aload_n 0, 1) := by decide +kernel
theorem dX11_bring_155 : decode cX11_bring 155 = .ok (.getfield 68, 3) := by decide +kernel
theorem dX11_bring_158 : decode cX11_bring 158 = .ok (.iload 6, 2) := by decide +kernel
theorem dX11_bring_160 : decode cX11_bring 160 = .ok (.aload_n 0, 1) := by decide +kernel
theorem dX11_bring_161 : decode cX11_bring 161 = .ok (.getfield 35, 3) := by decide +kernel
theorem dX11_bring_164 : decode cX11_bring 164 = .ok (.iload 7, 2) := by decide +kernel
theorem dX11_bring_166 : decode cX11_bring 166 = .ok (.iaload, 1) := by decide +kernel
theorem dX11_bring_167 : decode cX11_bring 167 = .ok (.iastore, 1) := by decide +kernel
theorem dX11_bring_168 : decode cX11_bring 168 = .ok (.aload_n 0, 1) := by decide +kernel
theorem dX11_bring_169 : decode cX11_bring 169 = .ok (.getfield 71, 3) := by decide +kernel
theorem dX11_bring_172 : decode cX11_bring 172 = .ok (.iload 6, 2) := by decide +kernel
theorem dX11_bring_174 : decode cX11_bring 174 = .ok (.aload_n 0, 1) := by decide +kernel
theorem dX11_bring_175 : decode cX11_bring 175 = .ok (.getfield 38, 3) := by decide +kernel
theorem dX11_bring_178 : decode cX11_bring 178 = .ok (.iload 7, 2) := by decide +kernel
theorem dX11_bring_180 : decode cX11_bring 180 = .ok (.iaload, 1) := by decide +kernel
theorem dX11_bring_181 : decode cX11_bring 181 = .ok (.iastore, 1) := by decide +kernel
theorem dX11_bring_182 : decode cX11_bring 182 = .ok (.aload_n 0, 1) := by decide +kernel
theorem dX11_bring_183 : decode cX11_bring 183 = .ok (.aload_n 0, 1) := by decide +kernel
theorem dX11_bring_184 : decode cX11_bring 184 = .ok (.getfield 41, 3) := by decide +kernel
theorem dX11_bring_187 : decode cX11_bring 187 = .ok (.iload 7, 2) := by decide +kernel
theorem dX11_bring_189 : decode cX11_bring 189 = .ok (.aload_n 0, 1) := by decide +kernel
theorem dX11_bring_190 : decode cX11_bring 190 = .ok (.getfield 74, 3) := by decide +kernel
theorem dX11_bring_193 : decode cX11_bring 193 = .ok (.iload 6, 2) := by decide +kernel
theorem dX11_bring_195 : decode cX11_bring 195 = .ok (.invokevirtual 234, 3) := by decide +kernel
theorem dX11_bring_198 : decode cX11_bring 198 = .ok (.iconst 1, 1) := by decide +kernel
theorem dX11_bring_199 : decode cX11_bring 199 = .ok (.istore 8, 2) := by decide +kernel
theorem dX11_bring_201 : decode cX11_bring 201 = .ok (.iload 8, 2) := by decide +kernel
theorem dX11_bring_203 : decode cX11_bring 203 = .ok (.aload_n 0, 1) := by decide +kernel
theorem dX11_bring_204 : decode cX11_bring 204 = .ok (.getfield 162, 3) := by decide +kernel
theorem dX11_bring_207 : decode cX11_bring 207 = .ok (.if_icmp .ge 69, 3) := by decide +kernel
theorem dX11_bring_210 : decode cX11_bring 210 = .ok (.aload_n 0, 1) := by decide +kernel
theorem dX11_bring_211 : decode cX11_bring 211 = .ok (.iload 8, 2) := by decide +kernel
theorem dX11_bring_213 : decode cX11_bring 213 = .ok (.iload_n 2, 1) := by decide +kernel
theorem dX11_bring_214 : decode cX11_bring 214 = .ok (.invokevirtual 197, 3) := by decide +kernel
theorem dX11_bring_217 : decode cX11_bring 217 = .ok (.ifCond .eq 53, 3) := by decide +kernel
theorem dX11_bring_220 : decode cX11_bring 220 = .ok (.aload_n 0, 1) := by decide +kernel
theorem dX11_bring_221 : decode cX11_bring 221 = .ok (.getfield 89, 3) := by decide +kernel
theorem dX11_bring_224 : decode cX11_bring 224 = .ok (.bipush 48, 2) := by decide +kernel
theorem dX11_bring_226 : decode cX11_bring 226 = .ok (.iload_n 1, 1) := by decide +kernel
theorem dX11_bring_227 : decode cX11_bring 227 = .ok (.imul, 1) := by decide +kernel
theorem dX11_bring_228 : decode cX11_bring 228 = .ok (.iload 8, 2) := by decide +kernel
theorem dX11_bring_230 : decode cX11_bring 230 = .ok (.iadd, 1) := by decide +kernel
theorem dX11_bring_231 : decode cX11_bring 231 = .ok (.aload_n 0, 1) := by decide +kernel
theorem dX11_bring_232 : decode cX11_bring 232 = .ok (.getfield 56, 3) := by decide +kernel
theorem dX11_bring_235 : decode cX11_bring 235 = .ok (.bipush 48, 2) := by decide +kernel
theorem dX11_bring_237 : decode cX11_bring 237 = .ok (.iload_n 3, 1) := by decide +kernel
theorem dX11_bring_238 : decode cX11_bring 238 = .ok (.imul, 1) := by decide +kernel
theorem dX11_bring_239 : decode cX11_bring 239 = .ok (.iload 8, 2) := by decide +kernel
theorem dX11_bring_241 : decode cX11_bring 241 = .ok (.iadd, 1) := by decide +kernel
theorem dX11_bring_242 : decode cX11_bring 242 = .ok (.iaload, 1) := by decide +kernel
theorem dX11_bring_243 : decode cX11_bring 243 = .ok (.iastore, 1) := by decide +kernel
theorem dX11_bring_244 : decode cX11_bring 244 = .ok (.aload_n 0, 1) := by decide +kernel
theorem dX11_bring_245 : decode cX11_bring 245 = .ok (.aload_n 0, 1) := by decide +kernel
theorem dX11_bring_246 : decode cX11_bring 246 = .ok (.getfield 59, 3) := by decide +kernel
theorem dX11_bring_249 : decode cX11_bring 249 = .ok (.bipush 48, 2) := by decide +kernel
theorem dX11_bring_251 : decode cX11_bring 251 = .ok (.iload_n 3, 1) := by decide +kernel
theorem dX11_bring_252 : decode cX11_bring 252 = .ok (.imul, 1) := by decide +kernel
theorem dX11_bring_253 : decode cX11_bring 253 = .ok (.iload 8, 2) := by decide +kernel
theorem dX11_bring_255 : decode cX11_bring 255 = .ok (.iadd, 1) := by decide +kernel
theorem dX11_bring_256 : decode cX11_bring 256 = .ok (.aload_n 0, 1) := by decide +kernel
theorem dX11_bring_257 : decode cX11_bring 257 = .ok (.getfield 92, 3) := by decide +kernel
theorem dX11_bring_260 : decode cX11_bring 260 = .ok (.bipush 48, 2) := by decide +kernel
theorem dX11_bring_262 : decode cX11_bring 262 = .ok (.iload_n 1, 1) := by decide +kernel
theorem dX11_bring_263 : decode cX11_bring 263 = .ok (.imul, 1) := by decide +kernel
theorem dX11_bring_264 : decode cX11_bring 264 = .ok (.iload 8, 2) := by decide +kernel
theorem dX11_bring_266 : decode cX11_bring 266 = .ok (.iadd, 1) := by decide +kernel
theorem dX11_bring_267 : decode cX11_bring 267 = .ok (.invokevirtual 234, 3) := by decide +kernel
theorem dX11_bring_270 : decode cX11_bring 270 = .ok (.iinc 8 1, 3) := by decide +kernel
theorem dX11_bring_273 : decode cX11_bring 273 = .ok (.goto (-72), 3) := by decide +kernel
theorem dX11_bring_276 : decode cX11_bring 276 = .ok (.aload_n 0, 1) := by decide +kernel
theorem dX11_bring_277 : decode cX11_bring 277 = .ok (.getfield 77, 3) := by decide +kernel
theorem dX11_bring_280 : decode cX11_bring 280 = .ok (.iload 6, 2) := by decide +kernel
theorem dX11_bring_282 : decode cX11_bring 282 = .ok (.iconst 0, 1) := by decide +kernel
theorem dX11_bring_283 : decode cX11_bring 283 = .ok (.iastore, 1) := by decide +kernel
theorem dX11_bring_284 : decode cX11_bring 284 = .ok (.iconst 0, 1) := by decide +kernel
theorem dX11_bring_285 : decode cX11_bring 285 = .ok (.istore 8, 2) := by decide +kernel
theorem dX11_bring_287 : decode cX11_bring 287 = .ok (.iload 8, 2) := by decide +kernel
theorem dX11_bring_289 : decode cX11_bring 289 = .ok (.aload_n 0, 1) := by decide +kernel
theorem dX11_bring_290 : decode cX11_bring 290 = .ok (.getfield 155, 3) := by decide +kernel
theorem dX11_bring_293 : decode cX11_bring 293 = .ok (.if_icmp .ge 100, 3) := by decide +kernel
theorem dX11_bring_296 : decode cX11_bring 296 = .ok (.iload 4, 2) := by decide +kernel
theorem dX11_bring_298 : decode cX11_bring 298 = .ok (.iload 8, 2) := by decide +kernel
theorem dX11_bring_300 : decode cX11_bring 300 = .ok (.ishr, 1) := by decide +kernel
theorem dX11_bring_301 : decode cX11_bring 301 = .ok (.iconst 1, 1) := by decide +kernel
theorem dX11_bring_302 : decode cX11_bring 302 = .ok (.iand, 1) := by decide +kernel
theorem dX11_bring_303 : decode cX11_bring 303 = .ok (.iconst 1, 1) := by decide +kernel
theorem dX11_bring_304 : decode cX11_bring 304 = .ok (.if_icmp .ne 46, 3) := by decide +kernel
theorem dX11_bring_307 : decode cX11_bring 307 = .ok (.aload_n 0, 1) := by decide +kernel
theorem dX11_bring_308 : decode cX11_bring 308 = .ok (.getfield 44, 3) := by decide +kernel
theorem dX11_bring_311 : decode cX11_bring 311 = .ok (.bipush 48, 2) := by decide +kernel
theorem dX11_bring_313 : decode cX11_bring 313 = .ok (.iload 8, 2) := by decide +kernel
theorem dX11_bring_315 : decode cX11_bring 315 = .ok (.imul, 1) := by decide +kernel
theorem dX11_bring_316 : decode cX11_bring 316 = .ok (.iload_n 2, 1) := by decide +kernel
theorem dX11_bring_317 : decode cX11_bring 317 = .ok (.iadd, 1) := by decide +kernel
theorem dX11_bring_318 : decode cX11_bring 318 = .ok (.iaload, 1) := by decide +kernel
theorem dX11_bring_319 : decode cX11_bring 319 = .ok (.ifCond .ne 31, 3) := by decide +kernel
theorem dX11_bring_322 : decode cX11_bring 322 = .ok (.aload_n 0, 1) := by decide +kernel
theorem dX11_bring_323 : decode cX11_bring 323 = .ok (.aload_n 0, 1) := by decide +kernel
theorem dX11_bring_324 : decode cX11_bring 324 = .ok (.getfield 41, 3) := by decide +kernel
theorem dX11_bring_327 : decode cX11_bring 327 = .ok (.bipush 48, 2) := by decide +kernel
theorem dX11_bring_329 : decode cX11_bring 329 = .ok (.iload 8, 2) := by decide +kernel
theorem dX11_bring_331 : decode cX11_bring 331 = .ok (.imul, 1) := by decide +kernel
theorem dX11_bring_332 : decode cX11_bring 332 = .ok (.iload_n 2, 1) := by decide +kernel
theorem dX11_bring_333 : decode cX11_bring 333 = .ok (.iadd, 1) := by decide +kernel
theorem dX11_bring_334 : decode cX11_bring 334 = .ok (.aload_n 0, 1) := by decide +kernel
theorem dX11_bring_335 : decode cX11_bring 335 = .ok (.getfield 41, 3) := by decide +kernel
theorem dX11_bring_338 : decode cX11_bring 338 = .ok (.iload 7, 2) := by decide +kernel
theorem dX11_bring_340 : decode cX11_bring 340 = .ok (.invokevirtual 275, 3) := by decide +kernel
theorem dX11_bring_343 : decode cX11_bring 343 = .ok (.ifCond .eq 7, 3) := by decide +kernel
theorem dX11_bring_346 : decode cX11_bring 346 = .ok (.iconst 1, 1) := by decide +kernel
theorem dX11_bring_347 : decode cX11_bring 347 = .ok (.goto 4, 3) := by decide +kernel
theorem dX11_bring_350 : decode cX11_bring 350 = .ok (.iconst 0, 1) := by decide +kernel
theorem dX11_bring_351 : decode cX11_bring 351 = .ok (.istore 9, 2) := by decide +kernel
theorem dX11_bring_353 : decode cX11_bring 353 = .ok (.aload_n 0, 1) := by decide +kernel
theorem dX11_bring_354 : decode cX11_bring 354 = .ok (.getfield 77, 3) := by decide +kernel
theorem dX11_bring_357 : decode cX11_bring 357 = .ok (.iload 6, 2) := by decide +kernel
theorem dX11_bring_359 : decode cX11_bring 359 = .ok (.iload 9, 2) := by decide +kernel
theorem dX11_bring_361 : decode cX11_bring 361 = .ok (.ifCond .eq 18, 3) := by decide +kernel
theorem dX11_bring_364 : decode cX11_bring 364 = .ok (.aload_n 0, 1) := by decide +kernel
theorem dX11_bring_365 : decode cX11_bring 365 = .ok (.getfield 77, 3) := by decide +kernel
theorem dX11_bring_368 : decode cX11_bring 368 = .ok (.iload 6, 2) := by decide +kernel
theorem dX11_bring_370 : decode cX11_bring 370 = .ok (.iaload, 1) := by decide +kernel
theorem dX11_bring_371 : decode cX11_bring 371 = .ok (.iconst 1, 1) := by decide +kernel
theorem dX11_bring_372 : decode cX11_bring 372 = .ok (.iload 8, 2) := by decide +kernel
theorem dX11_bring_374 : decode cX11_bring 374 = .ok (.ishl, 1) := by decide +kernel
theorem dX11_bring_375 : decode cX11_bring 375 = .ok (.ior, 1) := by decide +kernel
theorem dX11_bring_376 : decode cX11_bring 376 = .ok (.goto 10, 3) := by decide +kernel
theorem dX11_bring_379 : decode cX11_bring 379 = .ok (.aload_n 0, 1) := by decide +kernel
theorem dX11_bring_380 : decode cX11_bring 380 = .ok (.getfield 77, 3) := by decide +kernel
theorem dX11_bring_383 : decode cX11_bring 383 = .ok (.iload 6, 2) := by decide +kernel
theorem dX11_bring_385 : decode cX11_bring 385 = .ok (.iaload, 1) := by decide +kernel
theorem dX11_bring_386 : decode cX11_bring 386 = .ok (.iastore, 1) := by decide +kernel
theorem dX11_bring_387 : decode cX11_bring 387 = .ok (.iinc 8 1, 3) := by decide +kernel
theorem dX11_bring_390 : decode cX11_bring 390 = .ok (.goto (-103), 3) := by decide +kernel
theorem dX11_bring_393 : decode cX11_bring 393 = .ok (.aload_n 0, 1) := by decide +kernel
theorem dX11_bring_394 : decode cX11_bring 394 = .ok (.iload_n 1, 1) := by decide +kernel
theorem dX11_bring_395 : decode cX11_bring 395 = .ok (.iload_n 2, 1) := by decide +kernel
theorem dX11_bring_396 : decode cX11_bring 396 = .ok (.invokevirtual 243, 3) := by decide +kernel
theorem dX11_bring_399 : decode cX11_bring 399 = .ok (.return_, 1) := by decide +kernel
def f_X11_bring_L287 (a1 : Int32) (a2 : Int32) (a4 : Int32) (x1 : Int32) (x2 : Int32) (J393 : gM → Option gM) : Nat → Int32 → gM → Option gM
  | 0, _, _ => none
  | n34 + 1, x32, M33 => lt (M33 m_o 0) (fun v35 => (if v35 ≤ x32 then J393 M33 else jn (fun (q : (Int32 × gM)) => match q with | (b37, M38) => jn (fun (q : (Int32 × gM)) => match q with | (b39, M40) => wr M40 m_promised 192 x1 b39 (fun M41 => lt (x32 + 1) (fun x42 => f_X11_bring_L287 a1 a2 a4 x1 x2 J393 n34 x42 M41))) (fun J386 => (if b37 = 0 then rd M38 m_promised 192 x1 (fun v44 => J386 (v44, M38)) else rd M38 m_promised 192 x1 (fun v45 => J386 ((v45 ||| ((1 : Int32) <<< (x32 &&& 31))), M38))))) (fun J351 => jn (fun (M46 : gM) => J351 ((0 : Int32), M46)) (fun J350 => (if ((a4 >>> (x32 &&& 31)) &&& (1 : Int32)) = (1 : Int32) then rd M33 m_versions 192 (((48 : Int32) * x32) + a2) (fun v48 => (if v48 = 0 then o1 (f_X11_isSame M33 m_vector (((48 : Int32) * x32) + a2) m_vector x2) (fun v51 => (if v51 = 0 then J350 M33 else J351 ((1 : Int32), M33))) else J350 M33)) else J350 M33)))))
def f_X11_bring_L201 (a1 : Int32) (a2 : Int32) (a3 : Int32) (a4 : Int32) (x1 : Int32) (x2 : Int32) (J276 : gM → Option gM) : Nat → Int32 → gM → Option gM
  | 0, _, _ => none
  | n55 + 1, x53, M54 => lt (M54 m_o 6) (fun v56 => (if v56 ≤ x53 then J276 M54 else o1 (f_X11_isChild M54 x53 a2) (fun v59 => jn (fun (M60 : gM) => lt (x53 + 1) (fun x61 => f_X11_bring_L201 a1 a2 a3 a4 x1 x2 J276 n55 x61 M60)) (fun J270 => (if v59 = 0 then J270 M54 else rd M54 m_entry 192 (((48 : Int32) * a3) + x53) (fun v63 => wr M54 m_keptEntry 192 (((48 : Int32) * a1) + x53) v63 (fun M64 => o1 (f_X11_copyTo M64 m_gone (((48 : Int32) * a3) + x53) m_keptGone (((48 : Int32) * a1) + x53)) (fun M66 => J270 M66))))))))
def f_X11_bring_L45 (a1 : Int32) (a2 : Int32) (a3 : Int32) (a4 : Int32) (a5 : Int32) (x1 : Int32) (x2 : Int32) (J91 : gM → Option gM) : Nat → Int32 → gM → Option gM
  | 0, _, _ => none
  | n71 + 1, x69, M70 => (if (48 : Int32) ≤ x69 then J91 M70 else o1 (f_X11_isChild M70 x69 a2) (fun v74 => jn (fun (q : (Int32 × gM)) => match q with | (b75, M76) => wr M76 m_gotEntry 48 x69 b75 (fun M77 => lt (x69 + 1) (fun x78 => f_X11_bring_L45 a1 a2 a3 a4 a5 x1 x2 J91 n71 x78 M77))) (fun J84 => (if v74 = 0 then J84 ((0 : Int32), M70) else rd M70 m_entry 192 (((48 : Int32) * a3) + x69) (fun v80 => J84 (v80, M70))))))
def f_X11_bring (M : gM) (a1 : Int32) (a2 : Int32) (a3 : Int32) (a4 : Int32) (a5 : Int32) : Option gM :=
  lt ((((48 : Int32) * a1) + a2)) (fun x1 => lt ((((48 : Int32) * a3) + a2)) (fun x2 => rd M m_value 192 x2 (fun v3 => lt (gset M m_o 42 v3) (fun M4 => o1 (f_X11_copyTo M4 m_vector x2 m_gotVector (0 : Int32)) (fun M6 => jn (fun (M7 : gM) => rd M7 m_size 192 x2 (fun v8 => o1 (f_X11_weight M7 a2 v8) (fun v10 => o1 (f_X11_weightKept M7 a1 a2) (fun v12 => ob (f_X11_makeRoom M7 a1 (v10 - v12) a2 a5) (fun v15 M14 => (if v15 = 0 then o1 (f_X11_forget M14 a1 a2) (fun M68 => some M68) else lt (M14 m_o 49) (fun v17 => lt (gset M14 m_o 49 (v17 + (1 : Int32))) (fun M18 => wz M18 m_kept 192 x1 (1 : Int32) (fun M19 => wz M19 m_dirty 192 x1 (0 : Int32) (fun M20 => rd M20 m_value 192 x2 (fun v21 => wr M20 m_keptValue 192 x1 v21 (fun M22 => rd M22 m_size 192 x2 (fun v23 => wr M22 m_keptSize 192 x1 v23 (fun M24 => o1 (f_X11_copyTo M24 m_vector x2 m_keptVector x1) (fun M26 => jn (fun (M27 : gM) => wr M27 m_promised 192 x1 (0 : Int32) (fun M28 => jn (fun (M29 : gM) => o1 (f_X11_use M29 a1 a2) (fun M31 => some M31)) (fun J393 => f_X11_bring_L287 a1 a2 a4 x1 x2 J393 100 (0 : Int32) M28))) (fun J276 => f_X11_bring_L201 a1 a2 a3 a4 x1 x2 J276 100 (1 : Int32) M26)))))))))))))))) (fun J91 => f_X11_bring_L45 a1 a2 a3 a4 a5 x1 x2 J91 100 (0 : Int32) M6))))))
set_option maxHeartbeats 4000000 in
set_option maxRecDepth 100000 in
theorem t_X11_bring (l : Launch) (D : va_G) (dA : Nat → ClassId) (A : gI → Nat) (hJ : gJ mLive A) {M : gM} {a1 : Int32} {a2 : Int32} {a3 : Int32} {a4 : Int32} {a5 : Int32}  {y : gM} (h : f_X11_bring M a1 a2 a3 a4 a5 = some y) : mMv l yX11_bring wsX11_bring ({ frames := 3, cells := 0, slots := 0, locals := 73 } : Room) D dA A [.ref (A m_o), .int a1, .int a2, .int a3, .int a4, .int a5] M y := by
  refine Met.ofW (cc := cX11_bring) (maxL := 10) (ret := none) (by decide) rfl ?_
  intro p e s m args below meth c s₁ B hml hv
  obtain ⟨rfl, hP, hK⟩ := hv
  generalize hargs : ([.ref (A m_o), .int a1, .int a2, .int a3, .int a4, .int a5] : List Value).toArray = args at B ⊢
  have S : CallFix p m c cX11_bring 10 s args wsX11_bring RX11 := ⟨B.exec, B.bytes, hml, findClass_of_methodNamed B.named, atoms_spec (ws := wsX11_bring) B.pre⟩
  obtain ⟨hx, hb, -, hown, hts⟩ := id S
  have hr := B.returns
  have hlocks := B.notSynchronized
  have X : gX D vwCl dA mLive A (gA mLive A) s := ⟨hK, hJ, fun i hi => ⟨i, hi, rfl⟩⟩
  have Z : gZ D mLay dA mLive A (gA mLive A) s.heap M s.heap [] := ⟨hP, va_S.rf⟩
  have hin : ∀ w ∈ wsX110, w ∈ wsX11_bring := fun w h => List.mem_cons_of_mem _ (List.mem_append_right _ h)
  have hl_35 := hts (.fieldLink RX11 35 "ReplicaFilesModel" "value" "[I") (by decide +kernel)
  have hl_38 := hts (.fieldLink RX11 38 "ReplicaFilesModel" "size" "[I") (by decide +kernel)
  have hl_41 := hts (.fieldLink RX11 41 "ReplicaFilesModel" "vector" "[I") (by decide +kernel)
  have hl_44 := hts (.fieldLink RX11 44 "ReplicaFilesModel" "versions" "[I") (by decide +kernel)
  have hl_56 := hts (.fieldLink RX11 56 "ReplicaFilesModel" "entry" "[I") (by decide +kernel)
  have hl_59 := hts (.fieldLink RX11 59 "ReplicaFilesModel" "gone" "[I") (by decide +kernel)
  have hl_65 := hts (.fieldLink RX11 65 "ReplicaFilesModel" "kept" "[Z") (by decide +kernel)
  have hl_68 := hts (.fieldLink RX11 68 "ReplicaFilesModel" "keptValue" "[I") (by decide +kernel)
  have hl_71 := hts (.fieldLink RX11 71 "ReplicaFilesModel" "keptSize" "[I") (by decide +kernel)
  have hl_74 := hts (.fieldLink RX11 74 "ReplicaFilesModel" "keptVector" "[I") (by decide +kernel)
  have hl_77 := hts (.fieldLink RX11 77 "ReplicaFilesModel" "promised" "[I") (by decide +kernel)
  have hl_80 := hts (.fieldLink RX11 80 "ReplicaFilesModel" "dirty" "[Z") (by decide +kernel)
  have hl_89 := hts (.fieldLink RX11 89 "ReplicaFilesModel" "keptEntry" "[I") (by decide +kernel)
  have hl_92 := hts (.fieldLink RX11 92 "ReplicaFilesModel" "keptGone" "[I") (by decide +kernel)
  have hl_116 := hts (.fieldLink RX11 116 "ReplicaFilesModel" "gotVector" "[I") (by decide +kernel)
  have hl_119 := hts (.fieldLink RX11 119 "ReplicaFilesModel" "gotEntry" "[I") (by decide +kernel)
  have hl_155 := hts (.fieldLink RX11 155 "ReplicaFilesModel" "servers" "I") (by decide +kernel)
  have hl_162 := hts (.fieldLink RX11 162 "ReplicaFilesModel" "made" "I") (by decide +kernel)
  have hl_231 := hts (.fieldLink RX11 231 "ReplicaFilesModel" "gotValue" "I") (by decide +kernel)
  have hl_272 := hts (.fieldLink RX11 272 "ReplicaFilesModel" "came" "I") (by decide +kernel)
  have hl := lv_entry ([.ref (A m_o), .int a1, .int a2, .int a3, .int a4, .int a5]) (n := 10) (Nat.le_of_ble_eq_true rfl)
  rw [← hargs, lg_entry_eq, hargs]
  generalize (lg_sl ([.ref (A m_o), .int a1, .int a2, .int a3, .int a4, .int a5]) ++ List.replicate (10 - (lg_sl ([.ref (A m_o), .int a1, .int a2, .int a3, .int a4, .int a5])).length) Slot.unset).toArray = ls at hl ⊢
  have hl : lv_has ls 10 [(0, .ref (A m_o)), (1, .int a1), (2, .int a2), (3, .int a3), (4, .int a4), (5, .int a5)] := hl
  unfold f_X11_bring at h
  refine lv_bipush (v := (48 : Int32)) hx hb dX11_bring_0 (by decide) ?_
  refine lv_iload_n hx hb dX11_bring_2 rfl (lv_at hl 1 rfl) ?_
  refine lv_imul hx hb dX11_bring_3 ?_
  refine lv_iload_n hx hb dX11_bring_4 rfl (lv_at hl 2 rfl) ?_
  refine lv_iadd hx hb dX11_bring_5 ?_
  refine g_topi h (fun x1 h => ?_)
  refine lv_istore (lv' := [(6, .int x1), (0, .ref (A m_o)), (1, .int a1), (2, .int a2), (3, .int a3), (4, .int a4), (5, .int a5)]) hx hb dX11_bring_6 hl (by decide) rfl (fun ls hl => ?_)
  refine lv_bipush (v := (48 : Int32)) hx hb dX11_bring_8 (by decide) ?_
  refine lv_iload_n hx hb dX11_bring_10 rfl (lv_at hl 4 rfl) ?_
  refine lv_imul hx hb dX11_bring_11 ?_
  refine lv_iload_n hx hb dX11_bring_12 rfl (lv_at hl 3 rfl) ?_
  refine lv_iadd hx hb dX11_bring_13 ?_
  refine g_topi h (fun x2 h => ?_)
  refine lv_istore (lv' := [(7, .int x2), (6, .int x1), (0, .ref (A m_o)), (1, .int a1), (2, .int a2), (3, .int a3), (4, .int a4), (5, .int a5)]) hx hb dX11_bring_14 hl (by decide) rfl (fun ls hl => ?_)
  refine lv_aload_n hx hb dX11_bring_16 rfl (lv_at hl 2 rfl) ?_
  refine lv_aload_n hx hb dX11_bring_17 rfl (lv_at hl 2 rfl) ?_
  refine mr_value S X Z hin hl_35 dX11_bring_18 ?_
  refine lv_iload hx hb dX11_bring_21 (lv_at hl 0 rfl) ?_
  refine g_iald S X Z ml_value rfl dX11_bring_23 h (fun v3 h => ?_)
  refine mp_gotValue S X Z hin hl_231 dX11_bring_24 h (fun M4 H locs Z h => ?_)
  refine lv_aload_n hx hb dX11_bring_27 rfl (lv_at hl 2 rfl) ?_
  refine lv_aload_n hx hb dX11_bring_28 rfl (lv_at hl 2 rfl) ?_
  refine mr_vector S X Z hin hl_41 dX11_bring_29 ?_
  refine lv_iload hx hb dX11_bring_32 (lv_at hl 0 rfl) ?_
  refine lv_aload_n hx hb dX11_bring_34 rfl (lv_at hl 2 rfl) ?_
  refine mr_gotVector S X Z hin hl_116 dX11_bring_35 ?_
  refine lv_iconst (v := (0 : Int32)) hx hb dX11_bring_38 (by decide) ?_
  obtain ⟨M6, hc5, h⟩ := o1_e h
  refine g_Vv (As := [.ref (A m_vector), .int x2, .ref (A m_gotVector), .int (0 : Int32)]) (rest := []) S X Z mlv_o rfl rfl (t_X11_copyTo l D dA A hJ ⟨ml_vector, rfl⟩ ⟨ml_gotVector, rfl⟩ hc5) (cwV 4 hts gX11_bring_X11_copyTo rfl rfl rfl (by decide +kernel) ⟨Nat.le_of_ble_eq_true rfl, Nat.le_of_ble_eq_true rfl⟩) rfl hl.1 rfl (Nat.le_of_ble_eq_true rfl) dX11_bring_39 ⟨Nat.zero_le _, Nat.zero_le _⟩ (fun H locs Z => ?_)
  refine lv_iconst (v := (0 : Int32)) hx hb dX11_bring_42 (by decide) ?_
  refine lv_istore (lv' := [(8, .int (0 : Int32)), (7, .int x2), (6, .int x1), (0, .ref (A m_o)), (1, .int a1), (2, .int a2), (3, .int a3), (4, .int a4), (5, .int a5)]) hx hb dX11_bring_43 hl (by decide) rfl (fun ls hl => ?_)
  obtain ⟨J91, eJ91, h⟩ := jn_e h
  have hJ91 : ∀ (M7 : gM) (H : Heap) (locs : List Loc) (ls : Array Slot), gZ D mLay dA mLive A (gA mLive A) s.heap M7 H locs → lv_has ls 10 [(0, .ref (A m_o)), (1, .int a1), (2, .int a2), (3, .int a3), (4, .int a4), (5, .int a5), (6, .int x1), (7, .int x2)] → J91 M7 = some y → W p l e (headSpec wsX11_bring ({ frames := 3, cells := 0, slots := 0, locals := 73 } : Room)).room s m args below meth c H locs 0 0 (MQ below (mQv D dA A y) args s 0 0 (gA mLive A)) (F0 m 91 ls []) := by
    intro M7 H locs ls Z hl h
    rw [eJ91] at h
    try dsimp only at h
    refine lv_aload_n hx hb dX11_bring_91 rfl (lv_at hl 0 rfl) ?_
    refine lv_iload_n hx hb dX11_bring_92 rfl (lv_at hl 1 rfl) ?_
    refine lv_aload_n hx hb dX11_bring_93 rfl (lv_at hl 0 rfl) ?_
    refine lv_iload_n hx hb dX11_bring_94 rfl (lv_at hl 2 rfl) ?_
    refine lv_aload_n hx hb dX11_bring_95 rfl (lv_at hl 0 rfl) ?_
    refine mr_size S X Z hin hl_38 dX11_bring_96 ?_
    refine lv_iload hx hb dX11_bring_99 (lv_at hl 7 rfl) ?_
    refine g_iald S X Z ml_size rfl dX11_bring_101 h (fun v8 h => ?_)
    obtain ⟨v10, hc9, h⟩ := o1_e h
    refine g_Vi (As := [.int a2, .int v8]) (rest := [.int a1, .ref (A m_o)]) S X Z mlv_o rfl rfl (t_X11_weight l D dA A hJ  hc9) (cwV 2 hts gX11_bring_X11_weight rfl rfl rfl (by decide +kernel) ⟨Nat.le_of_ble_eq_true rfl, Nat.le_of_ble_eq_true rfl⟩) rfl hl.1 rfl (Nat.le_of_ble_eq_true rfl) dX11_bring_102 ⟨Nat.zero_le _, Nat.zero_le _⟩ (fun H locs Z => ?_)
    refine lv_aload_n hx hb dX11_bring_105 rfl (lv_at hl 0 rfl) ?_
    refine lv_iload_n hx hb dX11_bring_106 rfl (lv_at hl 1 rfl) ?_
    refine lv_iload_n hx hb dX11_bring_107 rfl (lv_at hl 2 rfl) ?_
    obtain ⟨v12, hc11, h⟩ := o1_e h
    refine g_Vi (As := [.int a1, .int a2]) (rest := [.int v10, .int a1, .ref (A m_o)]) S X Z mlv_o rfl rfl (t_X11_weightKept l D dA A hJ  hc11) (cwV 2 hts gX11_bring_X11_weightKept rfl rfl rfl (by decide +kernel) ⟨Nat.le_of_ble_eq_true rfl, Nat.le_of_ble_eq_true rfl⟩) rfl hl.1 rfl (Nat.le_of_ble_eq_true rfl) dX11_bring_108 ⟨Nat.zero_le _, Nat.zero_le _⟩ (fun H locs Z => ?_)
    refine lv_isub hx hb dX11_bring_111 ?_
    refine lv_iload_n hx hb dX11_bring_112 rfl (lv_at hl 2 rfl) ?_
    refine lv_iload hx hb dX11_bring_113 (lv_at hl 5 rfl) ?_
    obtain ⟨v15, M14, hc13, h⟩ := ob_e h
    refine g_Vi (As := [.int a1, .int (v10 - v12), .int a2, .int a5]) (rest := []) S X Z mlv_o rfl rfl (t_X11_makeRoom l D dA A hJ  hc13) (cwV 4 hts gX11_bring_X11_makeRoom rfl rfl rfl (by decide +kernel) ⟨Nat.le_of_ble_eq_true rfl, Nat.le_of_ble_eq_true rfl⟩) rfl hl.1 rfl (Nat.le_of_ble_eq_true rfl) dX11_bring_115 ⟨Nat.zero_le _, Nat.zero_le _⟩ (fun H locs Z => ?_)
    refine lv_if_ne (tgt := 128) hx hb dX11_bring_118 (by decide) (fun c16 => ?_) (fun c16 => ?_)
    · have h := if_f c16 h
      refine lv_aload_n hx hb dX11_bring_128 rfl (lv_at hl 0 rfl) ?_
      refine lv_dup hx hb dX11_bring_129 rfl ?_
      refine mr_came S X Z hin hl_272 dX11_bring_130 h (fun v17 h => ?_)
      refine lv_iconst (v := (1 : Int32)) hx hb dX11_bring_133 (by decide) ?_
      refine lv_iadd hx hb dX11_bring_134 ?_
      refine mp_came S X Z hin hl_272 dX11_bring_135 h (fun M18 H locs Z h => ?_)
      refine lv_aload_n hx hb dX11_bring_138 rfl (lv_at hl 0 rfl) ?_
      refine mr_kept S X Z hin hl_65 dX11_bring_139 ?_
      refine lv_iload hx hb dX11_bring_142 (lv_at hl 6 rfl) ?_
      refine lv_iconst (v := (1 : Int32)) hx hb dX11_bring_144 (by decide) ?_
      refine g_zast S X Z ml_kept rfl dX11_bring_145 h (fun M19 H locs Z h => ?_)
      refine lv_aload_n hx hb dX11_bring_146 rfl (lv_at hl 0 rfl) ?_
      refine mr_dirty S X Z hin hl_80 dX11_bring_147 ?_
      refine lv_iload hx hb dX11_bring_150 (lv_at hl 6 rfl) ?_
      refine lv_iconst (v := (0 : Int32)) hx hb dX11_bring_152 (by decide) ?_
      refine g_zast S X Z ml_dirty rfl dX11_bring_153 h (fun M20 H locs Z h => ?_)
      refine lv_aload_n hx hb dX11_bring_154 rfl (lv_at hl 0 rfl) ?_
      refine mr_keptValue S X Z hin hl_68 dX11_bring_155 ?_
      refine lv_iload hx hb dX11_bring_158 (lv_at hl 6 rfl) ?_
      refine lv_aload_n hx hb dX11_bring_160 rfl (lv_at hl 0 rfl) ?_
      refine mr_value S X Z hin hl_35 dX11_bring_161 ?_
      refine lv_iload hx hb dX11_bring_164 (lv_at hl 7 rfl) ?_
      refine g_iald S X Z ml_value rfl dX11_bring_166 h (fun v21 h => ?_)
      refine g_iast S X Z ml_keptValue rfl dX11_bring_167 h (fun M22 H locs Z h => ?_)
      refine lv_aload_n hx hb dX11_bring_168 rfl (lv_at hl 0 rfl) ?_
      refine mr_keptSize S X Z hin hl_71 dX11_bring_169 ?_
      refine lv_iload hx hb dX11_bring_172 (lv_at hl 6 rfl) ?_
      refine lv_aload_n hx hb dX11_bring_174 rfl (lv_at hl 0 rfl) ?_
      refine mr_size S X Z hin hl_38 dX11_bring_175 ?_
      refine lv_iload hx hb dX11_bring_178 (lv_at hl 7 rfl) ?_
      refine g_iald S X Z ml_size rfl dX11_bring_180 h (fun v23 h => ?_)
      refine g_iast S X Z ml_keptSize rfl dX11_bring_181 h (fun M24 H locs Z h => ?_)
      refine lv_aload_n hx hb dX11_bring_182 rfl (lv_at hl 0 rfl) ?_
      refine lv_aload_n hx hb dX11_bring_183 rfl (lv_at hl 0 rfl) ?_
      refine mr_vector S X Z hin hl_41 dX11_bring_184 ?_
      refine lv_iload hx hb dX11_bring_187 (lv_at hl 7 rfl) ?_
      refine lv_aload_n hx hb dX11_bring_189 rfl (lv_at hl 0 rfl) ?_
      refine mr_keptVector S X Z hin hl_74 dX11_bring_190 ?_
      refine lv_iload hx hb dX11_bring_193 (lv_at hl 6 rfl) ?_
      obtain ⟨M26, hc25, h⟩ := o1_e h
      refine g_Vv (As := [.ref (A m_vector), .int x2, .ref (A m_keptVector), .int x1]) (rest := []) S X Z mlv_o rfl rfl (t_X11_copyTo l D dA A hJ ⟨ml_vector, rfl⟩ ⟨ml_keptVector, rfl⟩ hc25) (cwV 4 hts gX11_bring_X11_copyTo rfl rfl rfl (by decide +kernel) ⟨Nat.le_of_ble_eq_true rfl, Nat.le_of_ble_eq_true rfl⟩) rfl hl.1 rfl (Nat.le_of_ble_eq_true rfl) dX11_bring_195 ⟨Nat.zero_le _, Nat.zero_le _⟩ (fun H locs Z => ?_)
      refine lv_iconst (v := (1 : Int32)) hx hb dX11_bring_198 (by decide) ?_
      refine lv_istore (lv' := [(8, .int (1 : Int32)), (0, .ref (A m_o)), (1, .int a1), (2, .int a2), (3, .int a3), (4, .int a4), (5, .int a5), (6, .int x1), (7, .int x2)]) hx hb dX11_bring_199 hl (by decide) rfl (fun ls hl => ?_)
      obtain ⟨J276, eJ276, h⟩ := jn_e h
      have hJ276 : ∀ (M27 : gM) (H : Heap) (locs : List Loc) (ls : Array Slot), gZ D mLay dA mLive A (gA mLive A) s.heap M27 H locs → lv_has ls 10 [(0, .ref (A m_o)), (1, .int a1), (2, .int a2), (4, .int a4), (6, .int x1), (7, .int x2)] → J276 M27 = some y → W p l e (headSpec wsX11_bring ({ frames := 3, cells := 0, slots := 0, locals := 73 } : Room)).room s m args below meth c H locs 0 0 (MQ below (mQv D dA A y) args s 0 0 (gA mLive A)) (F0 m 276 ls []) := by
        intro M27 H locs ls Z hl h
        rw [eJ276] at h
        try dsimp only at h
        refine lv_aload_n hx hb dX11_bring_276 rfl (lv_at hl 0 rfl) ?_
        refine mr_promised S X Z hin hl_77 dX11_bring_277 ?_
        refine lv_iload hx hb dX11_bring_280 (lv_at hl 4 rfl) ?_
        refine lv_iconst (v := (0 : Int32)) hx hb dX11_bring_282 (by decide) ?_
        refine g_iast S X Z ml_promised rfl dX11_bring_283 h (fun M28 H locs Z h => ?_)
        refine lv_iconst (v := (0 : Int32)) hx hb dX11_bring_284 (by decide) ?_
        refine lv_istore (lv' := [(8, .int (0 : Int32)), (0, .ref (A m_o)), (1, .int a1), (2, .int a2), (4, .int a4), (6, .int x1), (7, .int x2)]) hx hb dX11_bring_285 hl (by decide) rfl (fun ls hl => ?_)
        obtain ⟨J393, eJ393, h⟩ := jn_e h
        have hJ393 : ∀ (M29 : gM) (H : Heap) (locs : List Loc) (ls : Array Slot), gZ D mLay dA mLive A (gA mLive A) s.heap M29 H locs → lv_has ls 10 [(0, .ref (A m_o)), (1, .int a1), (2, .int a2)] → J393 M29 = some y → W p l e (headSpec wsX11_bring ({ frames := 3, cells := 0, slots := 0, locals := 73 } : Room)).room s m args below meth c H locs 0 0 (MQ below (mQv D dA A y) args s 0 0 (gA mLive A)) (F0 m 393 ls []) := by
          intro M29 H locs ls Z hl h
          rw [eJ393] at h
          try dsimp only at h
          refine lv_aload_n hx hb dX11_bring_393 rfl (lv_at hl 0 rfl) ?_
          refine lv_iload_n hx hb dX11_bring_394 rfl (lv_at hl 1 rfl) ?_
          refine lv_iload_n hx hb dX11_bring_395 rfl (lv_at hl 2 rfl) ?_
          obtain ⟨M31, hc30, h⟩ := o1_e h
          refine g_Vv (As := [.int a1, .int a2]) (rest := []) S X Z mlv_o rfl rfl (t_X11_use l D dA A hJ  hc30) (cwV 2 hts gX11_bring_X11_use rfl rfl rfl (by decide +kernel) ⟨Nat.le_of_ble_eq_true rfl, Nat.le_of_ble_eq_true rfl⟩) rfl hl.1 rfl (Nat.le_of_ble_eq_true rfl) dX11_bring_396 ⟨Nat.zero_le _, Nat.zero_le _⟩ (fun H locs Z => ?_)
          have hy := Option.some.inj h
          subst hy
          exact g_rv S Z hr hlocks dX11_bring_399
        have hL287 : ∀ (n : Nat) (x32 : Int32) (M33 : gM) (H : Heap) (locs : List Loc) (ls : Array Slot), gZ D mLay dA mLive A (gA mLive A) s.heap M33 H locs → lv_has ls 10 [(0, .ref (A m_o)), (1, .int a1), (2, .int a2), (4, .int a4), (6, .int x1), (7, .int x2), (8, .int x32)] → f_X11_bring_L287 a1 a2 a4 x1 x2 J393 n x32 M33 = some y → W p l e (headSpec wsX11_bring ({ frames := 3, cells := 0, slots := 0, locals := 73 } : Room)).room s m args below meth c H locs 0 0 (MQ below (mQv D dA A y) args s 0 0 (gA mLive A)) (F0 m 287 ls []) := by
          intro n
          induction n with
          | zero =>
            intro x32 M33 H locs ls Z hl h
            rw [f_X11_bring_L287] at h
            cases h
          | succ n34 ih287 =>
            intro x32 M33 H locs ls Z hl h
            rw [f_X11_bring_L287] at h
            refine lv_iload hx hb dX11_bring_287 (lv_at hl 6 rfl) ?_
            refine lv_aload_n hx hb dX11_bring_289 rfl (lv_at hl 0 rfl) ?_
            refine mr_servers S X Z hin hl_155 dX11_bring_290 h (fun v35 h => ?_)
            refine lv_icmp_ge (tgt := 393) hx hb dX11_bring_293 (by decide) (fun c36 => ?_) (fun c36 => ?_)
            · have h := if_t c36 h
              exact hJ393 M33 _ _ _ Z (lv_sub hl [0, 1, 2] rfl) h
            · have h := if_f c36 h
              refine lv_iload hx hb dX11_bring_296 (lv_at hl 3 rfl) ?_
              refine lv_iload hx hb dX11_bring_298 (lv_at hl 6 rfl) ?_
              refine lv_ishr hx hb dX11_bring_300 ?_
              refine lv_iconst (v := (1 : Int32)) hx hb dX11_bring_301 (by decide) ?_
              refine lv_iand hx hb dX11_bring_302 ?_
              refine lv_iconst (v := (1 : Int32)) hx hb dX11_bring_303 (by decide) ?_
              obtain ⟨J351, eJ351, h⟩ := jn_e h
              have hJ351 : ∀ (b37 : Int32) (M38 : gM) (H : Heap) (locs : List Loc) (ls : Array Slot), gZ D mLay dA mLive A (gA mLive A) s.heap M38 H locs → lv_has ls 10 [(0, .ref (A m_o)), (1, .int a1), (2, .int a2), (4, .int a4), (6, .int x1), (7, .int x2), (8, .int x32)] → J351 (b37, M38) = some y → W p l e (headSpec wsX11_bring ({ frames := 3, cells := 0, slots := 0, locals := 73 } : Room)).room s m args below meth c H locs 0 0 (MQ below (mQv D dA A y) args s 0 0 (gA mLive A)) (F0 m 351 ls [.int b37]) := by
                intro b37 M38 H locs ls Z hl h
                rw [eJ351] at h
                try dsimp only at h
                refine lv_istore (lv' := [(9, .int b37), (0, .ref (A m_o)), (1, .int a1), (2, .int a2), (4, .int a4), (6, .int x1), (7, .int x2), (8, .int x32)]) hx hb dX11_bring_351 hl (by decide) rfl (fun ls hl => ?_)
                refine lv_aload_n hx hb dX11_bring_353 rfl (lv_at hl 1 rfl) ?_
                refine mr_promised S X Z hin hl_77 dX11_bring_354 ?_
                refine lv_iload hx hb dX11_bring_357 (lv_at hl 5 rfl) ?_
                refine lv_iload hx hb dX11_bring_359 (lv_at hl 0 rfl) ?_
                obtain ⟨J386, eJ386, h⟩ := jn_e h
                have hJ386 : ∀ (b39 : Int32) (M40 : gM) (H : Heap) (locs : List Loc) (ls : Array Slot), gZ D mLay dA mLive A (gA mLive A) s.heap M40 H locs → lv_has ls 10 [(0, .ref (A m_o)), (1, .int a1), (2, .int a2), (4, .int a4), (6, .int x1), (7, .int x2), (8, .int x32)] → J386 (b39, M40) = some y → W p l e (headSpec wsX11_bring ({ frames := 3, cells := 0, slots := 0, locals := 73 } : Room)).room s m args below meth c H locs 0 0 (MQ below (mQv D dA A y) args s 0 0 (gA mLive A)) (F0 m 386 ls [.int b39, .int x1, .ref (A m_promised)]) := by
                  intro b39 M40 H locs ls Z hl h
                  rw [eJ386] at h
                  try dsimp only at h
                  refine g_iast S X Z ml_promised rfl dX11_bring_386 h (fun M41 H locs Z h => ?_)
                  obtain ⟨x42, ex42, h⟩ := lt_e h
                  refine lv_iinc (v := x42) (lv' := [(8, .int x42), (0, .ref (A m_o)), (1, .int a1), (2, .int a2), (4, .int a4), (6, .int x1), (7, .int x2)]) hx hb dX11_bring_387 hl (k := 6) rfl (by rw [ex42]; rfl) (by decide) rfl (fun ls hl => ?_)
                  refine lv_goto (tgt := 287) hx hb dX11_bring_390 (by decide) ?_
                  exact ih287 x42 M41 _ _ _ Z (lv_sub hl [1, 2, 3, 4, 5, 6, 0] rfl) h
                refine lv_if_eq (tgt := 379) hx hb dX11_bring_361 (by decide) (fun c43 => ?_) (fun c43 => ?_)
                · have h := if_t c43 h
                  refine lv_aload_n hx hb dX11_bring_379 rfl (lv_at hl 1 rfl) ?_
                  refine mr_promised S X Z hin hl_77 dX11_bring_380 ?_
                  refine lv_iload hx hb dX11_bring_383 (lv_at hl 5 rfl) ?_
                  refine g_iald S X Z ml_promised rfl dX11_bring_385 h (fun v44 h => ?_)
                  exact hJ386 v44 M38 _ _ _ Z (lv_sub hl [1, 2, 3, 4, 5, 6, 7] rfl) h
                · have h := if_f c43 h
                  refine lv_aload_n hx hb dX11_bring_364 rfl (lv_at hl 1 rfl) ?_
                  refine mr_promised S X Z hin hl_77 dX11_bring_365 ?_
                  refine lv_iload hx hb dX11_bring_368 (lv_at hl 5 rfl) ?_
                  refine g_iald S X Z ml_promised rfl dX11_bring_370 h (fun v45 h => ?_)
                  refine lv_iconst (v := (1 : Int32)) hx hb dX11_bring_371 (by decide) ?_
                  refine lv_iload hx hb dX11_bring_372 (lv_at hl 7 rfl) ?_
                  refine lv_ishl hx hb dX11_bring_374 ?_
                  refine lv_ior hx hb dX11_bring_375 ?_
                  refine lv_goto (tgt := 386) hx hb dX11_bring_376 (by decide) ?_
                  exact hJ386 (v45 ||| ((1 : Int32) <<< (x32 &&& 31))) M38 _ _ _ Z (lv_sub hl [1, 2, 3, 4, 5, 6, 7] rfl) h
              obtain ⟨J350, eJ350, h⟩ := jn_e h
              have hJ350 : ∀ (M46 : gM) (H : Heap) (locs : List Loc) (ls : Array Slot), gZ D mLay dA mLive A (gA mLive A) s.heap M46 H locs → lv_has ls 10 [(0, .ref (A m_o)), (1, .int a1), (2, .int a2), (4, .int a4), (6, .int x1), (7, .int x2), (8, .int x32)] → J350 M46 = some y → W p l e (headSpec wsX11_bring ({ frames := 3, cells := 0, slots := 0, locals := 73 } : Room)).room s m args below meth c H locs 0 0 (MQ below (mQv D dA A y) args s 0 0 (gA mLive A)) (F0 m 350 ls []) := by
                intro M46 H locs ls Z hl h
                rw [eJ350] at h
                try dsimp only at h
                refine lv_iconst (v := (0 : Int32)) hx hb dX11_bring_350 (by decide) ?_
                exact hJ351 (0 : Int32) M46 _ _ _ Z (lv_sub hl [0, 1, 2, 3, 4, 5, 6] rfl) h
              refine lv_icmp_ne (tgt := 350) hx hb dX11_bring_304 (by decide) (fun c47 => ?_) (fun c47 => ?_)
              · have h := if_f c47 h
                exact hJ350 M33 _ _ _ Z (lv_sub hl [0, 1, 2, 3, 4, 5, 6] rfl) h
              · have h := if_t c47 h
                refine lv_aload_n hx hb dX11_bring_307 rfl (lv_at hl 0 rfl) ?_
                refine mr_versions S X Z hin hl_44 dX11_bring_308 ?_
                refine lv_bipush (v := (48 : Int32)) hx hb dX11_bring_311 (by decide) ?_
                refine lv_iload hx hb dX11_bring_313 (lv_at hl 6 rfl) ?_
                refine lv_imul hx hb dX11_bring_315 ?_
                refine lv_iload_n hx hb dX11_bring_316 rfl (lv_at hl 2 rfl) ?_
                refine lv_iadd hx hb dX11_bring_317 ?_
                refine g_iald S X Z ml_versions rfl dX11_bring_318 h (fun v48 h => ?_)
                refine lv_if_ne (tgt := 350) hx hb dX11_bring_319 (by decide) (fun c49 => ?_) (fun c49 => ?_)
                · have h := if_f c49 h
                  exact hJ350 M33 _ _ _ Z (lv_sub hl [0, 1, 2, 3, 4, 5, 6] rfl) h
                · have h := if_t c49 h
                  refine lv_aload_n hx hb dX11_bring_322 rfl (lv_at hl 0 rfl) ?_
                  refine lv_aload_n hx hb dX11_bring_323 rfl (lv_at hl 0 rfl) ?_
                  refine mr_vector S X Z hin hl_41 dX11_bring_324 ?_
                  refine lv_bipush (v := (48 : Int32)) hx hb dX11_bring_327 (by decide) ?_
                  refine lv_iload hx hb dX11_bring_329 (lv_at hl 6 rfl) ?_
                  refine lv_imul hx hb dX11_bring_331 ?_
                  refine lv_iload_n hx hb dX11_bring_332 rfl (lv_at hl 2 rfl) ?_
                  refine lv_iadd hx hb dX11_bring_333 ?_
                  refine lv_aload_n hx hb dX11_bring_334 rfl (lv_at hl 0 rfl) ?_
                  refine mr_vector S X Z hin hl_41 dX11_bring_335 ?_
                  refine lv_iload hx hb dX11_bring_338 (lv_at hl 5 rfl) ?_
                  obtain ⟨v51, hc50, h⟩ := o1_e h
                  refine g_Vi (As := [.ref (A m_vector), .int (((48 : Int32) * x32) + a2), .ref (A m_vector), .int x2]) (rest := []) S X Z mlv_o rfl rfl (t_X11_isSame l D dA A hJ ⟨ml_vector, rfl⟩ ⟨ml_vector, rfl⟩ hc50) (cwV 4 hts gX11_bring_X11_isSame rfl rfl rfl (by decide +kernel) ⟨Nat.le_of_ble_eq_true rfl, Nat.le_of_ble_eq_true rfl⟩) rfl hl.1 rfl (Nat.le_of_ble_eq_true rfl) dX11_bring_340 ⟨Nat.zero_le _, Nat.zero_le _⟩ (fun H locs Z => ?_)
                  refine lv_if_eq (tgt := 350) hx hb dX11_bring_343 (by decide) (fun c52 => ?_) (fun c52 => ?_)
                  · have h := if_t c52 h
                    exact hJ350 M33 _ _ _ Z (lv_sub hl [0, 1, 2, 3, 4, 5, 6] rfl) h
                  · have h := if_f c52 h
                    refine lv_iconst (v := (1 : Int32)) hx hb dX11_bring_346 (by decide) ?_
                    refine lv_goto (tgt := 351) hx hb dX11_bring_347 (by decide) ?_
                    exact hJ351 (1 : Int32) M33 _ _ _ Z (lv_sub hl [0, 1, 2, 3, 4, 5, 6] rfl) h
        exact hL287 100 (0 : Int32) M28 _ _ _ Z (lv_sub hl [1, 2, 3, 4, 5, 6, 0] rfl) h
      have hL201 : ∀ (n : Nat) (x53 : Int32) (M54 : gM) (H : Heap) (locs : List Loc) (ls : Array Slot), gZ D mLay dA mLive A (gA mLive A) s.heap M54 H locs → lv_has ls 10 [(0, .ref (A m_o)), (1, .int a1), (2, .int a2), (3, .int a3), (4, .int a4), (6, .int x1), (7, .int x2), (8, .int x53)] → f_X11_bring_L201 a1 a2 a3 a4 x1 x2 J276 n x53 M54 = some y → W p l e (headSpec wsX11_bring ({ frames := 3, cells := 0, slots := 0, locals := 73 } : Room)).room s m args below meth c H locs 0 0 (MQ below (mQv D dA A y) args s 0 0 (gA mLive A)) (F0 m 201 ls []) := by
        intro n
        induction n with
        | zero =>
          intro x53 M54 H locs ls Z hl h
          rw [f_X11_bring_L201] at h
          cases h
        | succ n55 ih201 =>
          intro x53 M54 H locs ls Z hl h
          rw [f_X11_bring_L201] at h
          refine lv_iload hx hb dX11_bring_201 (lv_at hl 7 rfl) ?_
          refine lv_aload_n hx hb dX11_bring_203 rfl (lv_at hl 0 rfl) ?_
          refine mr_made S X Z hin hl_162 dX11_bring_204 h (fun v56 h => ?_)
          refine lv_icmp_ge (tgt := 276) hx hb dX11_bring_207 (by decide) (fun c57 => ?_) (fun c57 => ?_)
          · have h := if_t c57 h
            exact hJ276 M54 _ _ _ Z (lv_sub hl [0, 1, 2, 4, 5, 6] rfl) h
          · have h := if_f c57 h
            refine lv_aload_n hx hb dX11_bring_210 rfl (lv_at hl 0 rfl) ?_
            refine lv_iload hx hb dX11_bring_211 (lv_at hl 7 rfl) ?_
            refine lv_iload_n hx hb dX11_bring_213 rfl (lv_at hl 2 rfl) ?_
            obtain ⟨v59, hc58, h⟩ := o1_e h
            refine g_Vi (As := [.int x53, .int a2]) (rest := []) S X Z mlv_o rfl rfl (t_X11_isChild l D dA A hJ  hc58) (cwV 2 hts gX11_bring_X11_isChild rfl rfl rfl (by decide +kernel) ⟨Nat.le_of_ble_eq_true rfl, Nat.le_of_ble_eq_true rfl⟩) rfl hl.1 rfl (Nat.le_of_ble_eq_true rfl) dX11_bring_214 ⟨Nat.zero_le _, Nat.zero_le _⟩ (fun H locs Z => ?_)
            obtain ⟨J270, eJ270, h⟩ := jn_e h
            have hJ270 : ∀ (M60 : gM) (H : Heap) (locs : List Loc) (ls : Array Slot), gZ D mLay dA mLive A (gA mLive A) s.heap M60 H locs → lv_has ls 10 [(0, .ref (A m_o)), (1, .int a1), (2, .int a2), (3, .int a3), (4, .int a4), (6, .int x1), (7, .int x2), (8, .int x53)] → J270 M60 = some y → W p l e (headSpec wsX11_bring ({ frames := 3, cells := 0, slots := 0, locals := 73 } : Room)).room s m args below meth c H locs 0 0 (MQ below (mQv D dA A y) args s 0 0 (gA mLive A)) (F0 m 270 ls []) := by
              intro M60 H locs ls Z hl h
              rw [eJ270] at h
              try dsimp only at h
              obtain ⟨x61, ex61, h⟩ := lt_e h
              refine lv_iinc (v := x61) (lv' := [(8, .int x61), (0, .ref (A m_o)), (1, .int a1), (2, .int a2), (3, .int a3), (4, .int a4), (6, .int x1), (7, .int x2)]) hx hb dX11_bring_270 hl (k := 7) rfl (by rw [ex61]; rfl) (by decide) rfl (fun ls hl => ?_)
              refine lv_goto (tgt := 201) hx hb dX11_bring_273 (by decide) ?_
              exact ih201 x61 M60 _ _ _ Z (lv_sub hl [1, 2, 3, 4, 5, 6, 7, 0] rfl) h
            refine lv_if_eq (tgt := 270) hx hb dX11_bring_217 (by decide) (fun c62 => ?_) (fun c62 => ?_)
            · have h := if_t c62 h
              exact hJ270 M54 _ _ _ Z (lv_sub hl [0, 1, 2, 3, 4, 5, 6, 7] rfl) h
            · have h := if_f c62 h
              refine lv_aload_n hx hb dX11_bring_220 rfl (lv_at hl 0 rfl) ?_
              refine mr_keptEntry S X Z hin hl_89 dX11_bring_221 ?_
              refine lv_bipush (v := (48 : Int32)) hx hb dX11_bring_224 (by decide) ?_
              refine lv_iload_n hx hb dX11_bring_226 rfl (lv_at hl 1 rfl) ?_
              refine lv_imul hx hb dX11_bring_227 ?_
              refine lv_iload hx hb dX11_bring_228 (lv_at hl 7 rfl) ?_
              refine lv_iadd hx hb dX11_bring_230 ?_
              refine lv_aload_n hx hb dX11_bring_231 rfl (lv_at hl 0 rfl) ?_
              refine mr_entry S X Z hin hl_56 dX11_bring_232 ?_
              refine lv_bipush (v := (48 : Int32)) hx hb dX11_bring_235 (by decide) ?_
              refine lv_iload_n hx hb dX11_bring_237 rfl (lv_at hl 3 rfl) ?_
              refine lv_imul hx hb dX11_bring_238 ?_
              refine lv_iload hx hb dX11_bring_239 (lv_at hl 7 rfl) ?_
              refine lv_iadd hx hb dX11_bring_241 ?_
              refine g_iald S X Z ml_entry rfl dX11_bring_242 h (fun v63 h => ?_)
              refine g_iast S X Z ml_keptEntry rfl dX11_bring_243 h (fun M64 H locs Z h => ?_)
              refine lv_aload_n hx hb dX11_bring_244 rfl (lv_at hl 0 rfl) ?_
              refine lv_aload_n hx hb dX11_bring_245 rfl (lv_at hl 0 rfl) ?_
              refine mr_gone S X Z hin hl_59 dX11_bring_246 ?_
              refine lv_bipush (v := (48 : Int32)) hx hb dX11_bring_249 (by decide) ?_
              refine lv_iload_n hx hb dX11_bring_251 rfl (lv_at hl 3 rfl) ?_
              refine lv_imul hx hb dX11_bring_252 ?_
              refine lv_iload hx hb dX11_bring_253 (lv_at hl 7 rfl) ?_
              refine lv_iadd hx hb dX11_bring_255 ?_
              refine lv_aload_n hx hb dX11_bring_256 rfl (lv_at hl 0 rfl) ?_
              refine mr_keptGone S X Z hin hl_92 dX11_bring_257 ?_
              refine lv_bipush (v := (48 : Int32)) hx hb dX11_bring_260 (by decide) ?_
              refine lv_iload_n hx hb dX11_bring_262 rfl (lv_at hl 1 rfl) ?_
              refine lv_imul hx hb dX11_bring_263 ?_
              refine lv_iload hx hb dX11_bring_264 (lv_at hl 7 rfl) ?_
              refine lv_iadd hx hb dX11_bring_266 ?_
              obtain ⟨M66, hc65, h⟩ := o1_e h
              refine g_Vv (As := [.ref (A m_gone), .int (((48 : Int32) * a3) + x53), .ref (A m_keptGone), .int (((48 : Int32) * a1) + x53)]) (rest := []) S X Z mlv_o rfl rfl (t_X11_copyTo l D dA A hJ ⟨ml_gone, rfl⟩ ⟨ml_keptGone, rfl⟩ hc65) (cwV 4 hts gX11_bring_X11_copyTo rfl rfl rfl (by decide +kernel) ⟨Nat.le_of_ble_eq_true rfl, Nat.le_of_ble_eq_true rfl⟩) rfl hl.1 rfl (Nat.le_of_ble_eq_true rfl) dX11_bring_267 ⟨Nat.zero_le _, Nat.zero_le _⟩ (fun H locs Z => ?_)
              exact hJ270 M66 _ _ _ Z (lv_sub hl [0, 1, 2, 3, 4, 5, 6, 7] rfl) h
      exact hL201 100 (1 : Int32) M26 _ _ _ Z (lv_sub hl [1, 2, 3, 4, 5, 7, 8, 0] rfl) h
    · have h := if_t c16 h
      refine lv_aload_n hx hb dX11_bring_121 rfl (lv_at hl 0 rfl) ?_
      refine lv_iload_n hx hb dX11_bring_122 rfl (lv_at hl 1 rfl) ?_
      refine lv_iload_n hx hb dX11_bring_123 rfl (lv_at hl 2 rfl) ?_
      obtain ⟨M68, hc67, h⟩ := o1_e h
      refine g_Vv (As := [.int a1, .int a2]) (rest := []) S X Z mlv_o rfl rfl (t_X11_forget l D dA A hJ  hc67) (cwV 2 hts gX11_bring_X11_forget rfl rfl rfl (by decide +kernel) ⟨Nat.le_of_ble_eq_true rfl, Nat.le_of_ble_eq_true rfl⟩) rfl hl.1 rfl (Nat.le_of_ble_eq_true rfl) dX11_bring_124 ⟨Nat.zero_le _, Nat.zero_le _⟩ (fun H locs Z => ?_)
      have hy := Option.some.inj h
      subst hy
      exact g_rv S Z hr hlocks dX11_bring_127
  have hL45 : ∀ (n : Nat) (x69 : Int32) (M70 : gM) (H : Heap) (locs : List Loc) (ls : Array Slot), gZ D mLay dA mLive A (gA mLive A) s.heap M70 H locs → lv_has ls 10 [(0, .ref (A m_o)), (1, .int a1), (2, .int a2), (3, .int a3), (4, .int a4), (5, .int a5), (6, .int x1), (7, .int x2), (8, .int x69)] → f_X11_bring_L45 a1 a2 a3 a4 a5 x1 x2 J91 n x69 M70 = some y → W p l e (headSpec wsX11_bring ({ frames := 3, cells := 0, slots := 0, locals := 73 } : Room)).room s m args below meth c H locs 0 0 (MQ below (mQv D dA A y) args s 0 0 (gA mLive A)) (F0 m 45 ls []) := by
    intro n
    induction n with
    | zero =>
      intro x69 M70 H locs ls Z hl h
      rw [f_X11_bring_L45] at h
      cases h
    | succ n71 ih45 =>
      intro x69 M70 H locs ls Z hl h
      rw [f_X11_bring_L45] at h
      refine lv_iload hx hb dX11_bring_45 (lv_at hl 8 rfl) ?_
      refine lv_bipush (v := (48 : Int32)) hx hb dX11_bring_47 (by decide) ?_
      refine lv_icmp_ge (tgt := 91) hx hb dX11_bring_49 (by decide) (fun c72 => ?_) (fun c72 => ?_)
      · have h := if_t c72 h
        exact hJ91 M70 _ _ _ Z (lv_sub hl [0, 1, 2, 3, 4, 5, 6, 7] rfl) h
      · have h := if_f c72 h
        refine lv_aload_n hx hb dX11_bring_52 rfl (lv_at hl 0 rfl) ?_
        refine mr_gotEntry S X Z hin hl_119 dX11_bring_53 ?_
        refine lv_iload hx hb dX11_bring_56 (lv_at hl 8 rfl) ?_
        refine lv_aload_n hx hb dX11_bring_58 rfl (lv_at hl 0 rfl) ?_
        refine lv_iload hx hb dX11_bring_59 (lv_at hl 8 rfl) ?_
        refine lv_iload_n hx hb dX11_bring_61 rfl (lv_at hl 2 rfl) ?_
        obtain ⟨v74, hc73, h⟩ := o1_e h
        refine g_Vi (As := [.int x69, .int a2]) (rest := [.int x69, .ref (A m_gotEntry)]) S X Z mlv_o rfl rfl (t_X11_isChild l D dA A hJ  hc73) (cwV 2 hts gX11_bring_X11_isChild rfl rfl rfl (by decide +kernel) ⟨Nat.le_of_ble_eq_true rfl, Nat.le_of_ble_eq_true rfl⟩) rfl hl.1 rfl (Nat.le_of_ble_eq_true rfl) dX11_bring_62 ⟨Nat.zero_le _, Nat.zero_le _⟩ (fun H locs Z => ?_)
        obtain ⟨J84, eJ84, h⟩ := jn_e h
        have hJ84 : ∀ (b75 : Int32) (M76 : gM) (H : Heap) (locs : List Loc) (ls : Array Slot), gZ D mLay dA mLive A (gA mLive A) s.heap M76 H locs → lv_has ls 10 [(0, .ref (A m_o)), (1, .int a1), (2, .int a2), (3, .int a3), (4, .int a4), (5, .int a5), (6, .int x1), (7, .int x2), (8, .int x69)] → J84 (b75, M76) = some y → W p l e (headSpec wsX11_bring ({ frames := 3, cells := 0, slots := 0, locals := 73 } : Room)).room s m args below meth c H locs 0 0 (MQ below (mQv D dA A y) args s 0 0 (gA mLive A)) (F0 m 84 ls [.int b75, .int x69, .ref (A m_gotEntry)]) := by
          intro b75 M76 H locs ls Z hl h
          rw [eJ84] at h
          try dsimp only at h
          refine g_iast S X Z ml_gotEntry rfl dX11_bring_84 h (fun M77 H locs Z h => ?_)
          obtain ⟨x78, ex78, h⟩ := lt_e h
          refine lv_iinc (v := x78) (lv' := [(8, .int x78), (0, .ref (A m_o)), (1, .int a1), (2, .int a2), (3, .int a3), (4, .int a4), (5, .int a5), (6, .int x1), (7, .int x2)]) hx hb dX11_bring_85 hl (k := 8) rfl (by rw [ex78]; rfl) (by decide) rfl (fun ls hl => ?_)
          refine lv_goto (tgt := 45) hx hb dX11_bring_88 (by decide) ?_
          exact ih45 x78 M77 _ _ _ Z (lv_sub hl [1, 2, 3, 4, 5, 6, 7, 8, 0] rfl) h
        refine lv_if_eq (tgt := 83) hx hb dX11_bring_65 (by decide) (fun c79 => ?_) (fun c79 => ?_)
        · have h := if_t c79 h
          refine lv_iconst (v := (0 : Int32)) hx hb dX11_bring_83 (by decide) ?_
          exact hJ84 (0 : Int32) M70 _ _ _ Z (lv_sub hl [0, 1, 2, 3, 4, 5, 6, 7, 8] rfl) h
        · have h := if_f c79 h
          refine lv_aload_n hx hb dX11_bring_68 rfl (lv_at hl 0 rfl) ?_
          refine mr_entry S X Z hin hl_56 dX11_bring_69 ?_
          refine lv_bipush (v := (48 : Int32)) hx hb dX11_bring_72 (by decide) ?_
          refine lv_iload_n hx hb dX11_bring_74 rfl (lv_at hl 3 rfl) ?_
          refine lv_imul hx hb dX11_bring_75 ?_
          refine lv_iload hx hb dX11_bring_76 (lv_at hl 8 rfl) ?_
          refine lv_iadd hx hb dX11_bring_78 ?_
          refine g_iald S X Z ml_entry rfl dX11_bring_79 h (fun v80 h => ?_)
          refine lv_goto (tgt := 84) hx hb dX11_bring_80 (by decide) ?_
          exact hJ84 v80 M70 _ _ _ Z (lv_sub hl [0, 1, 2, 3, 4, 5, 6, 7, 8] rfl) h
  exact hL45 100 (0 : Int32) M6 _ _ _ Z (lv_sub hl [3, 4, 5, 6, 7, 8, 2, 1, 0] rfl) h
