-- X11_clearRow ([II)V: 16 instructions
theorem dX11_clearRow_0 : decode cX11_clearRow 0 = .ok (.iconst 0, 1) := by decide +kernel
theorem dX11_clearRow_1 : decode cX11_clearRow 1 = .ok (.istore_n 3, 1) := by decide +kernel
theorem dX11_clearRow_2 : decode cX11_clearRow 2 = .ok (.iload_n 3, 1) := by decide +kernel
theorem dX11_clearRow_3 : decode cX11_clearRow 3 = .ok (.bipush 8, 2) := by decide +kernel
theorem dX11_clearRow_5 : decode cX11_clearRow 5 = .ok (.if_icmp .ge 18, 3) := by decide +kernel
theorem dX11_clearRow_8 : decode cX11_clearRow 8 = .ok (.aload_n 1, 1) := by decide +kernel
theorem dX11_clearRow_9 : decode cX11_clearRow 9 = .ok (.bipush 8, 2) := by decide +kernel
theorem dX11_clearRow_11 : decode cX11_clearRow 11 = .ok (.iload_n 2, 1) := by decide +kernel
theorem dX11_clearRow_12 : decode cX11_clearRow 12 = .ok (.imul, 1) := by decide +kernel
theorem dX11_clearRow_13 : decode cX11_clearRow 13 = .ok (.iload_n 3, 1) := by decide +kernel
theorem dX11_clearRow_14 : decode cX11_clearRow 14 = .ok (.iadd, 1) := by decide +kernel
theorem dX11_clearRow_15 : decode cX11_clearRow 15 = .ok (.iconst 0, 1) := by decide +kernel
theorem dX11_clearRow_16 : decode cX11_clearRow 16 = .ok (.iastore, 1) := by decide +kernel
theorem dX11_clearRow_17 : decode cX11_clearRow 17 = .ok (.iinc 3 1, 3) := by decide +kernel
theorem dX11_clearRow_20 : decode cX11_clearRow 20 = .ok (.goto (-18), 3) := by decide +kernel
theorem dX11_clearRow_23 : decode cX11_clearRow 23 = .ok (.return_, 1) := by decide +kernel
abbrev wmX11_clearRow : List Cond := .code yX11_clearRow cX11_clearRow 4 none :: mBig
def f_X11_clearRow_L2 (a1 : gI) (a2 : Int32) : Nat → Int32 → gM → Option gM
  | 0, _, _ => none
  | n3 + 1, x1, M2 => (if (8 : Int32) ≤ x1 then some M2 else wr M2 a1 (mN a1) (((8 : Int32) * a2) + x1) (0 : Int32) (fun M5 => lt (x1 + 1) (fun x6 => f_X11_clearRow_L2 a1 a2 n3 x6 M5)))
def f_X11_clearRow (M : gM) (a1 : gI) (a2 : Int32) : Option gM :=
  f_X11_clearRow_L2 a1 a2 100 (0 : Int32) M
set_option maxHeartbeats 4000000 in
set_option maxRecDepth 100000 in
theorem t_X11_clearRow (l : Launch) (D : va_G) (dA : Nat → ClassId) (A : gI → Nat) (hJ : gJ mLive A) {M : gM} {a1 : gI} {a2 : Int32} (ha1 : mArr a1) {y : gM} (h : f_X11_clearRow M a1 a2 = some y) : mMv l yX11_clearRow wmX11_clearRow ({ frames := 0, cells := 0, slots := 0, locals := 0 } : Room) D dA A [.ref (A m_o), .ref (A a1), .int a2] M y := by
  refine Met.ofW (cc := cX11_clearRow) (maxL := 4) (ret := none) (by decide) rfl ?_
  intro p e s m args below meth c s₁ B hml hv
  obtain ⟨rfl, hP, hK⟩ := hv
  generalize hargs : ([.ref (A m_o), .ref (A a1), .int a2] : List Value).toArray = args at B ⊢
  have S : CallFix p m c cX11_clearRow 4 s args wmX11_clearRow RX11 := ⟨B.exec, B.bytes, hml, findClass_of_methodNamed B.named, atoms_spec (ws := wmX11_clearRow) B.pre⟩
  obtain ⟨hx, hb, -, hown, hts⟩ := id S
  have hr := B.returns
  have hlocks := B.notSynchronized
  have X : gX D vwCl dA mLive A (gA mLive A) s := ⟨hK, hJ, fun i hi => ⟨i, hi, rfl⟩⟩
  have Z : gZ D mLay dA mLive A (gA mLive A) s.heap M s.heap [] := ⟨hP, va_S.rf⟩
  have hin : ∀ w ∈ wsX110, w ∈ wmX11_clearRow := m_in
  have hl := lv_entry ([.ref (A m_o), .ref (A a1), .int a2]) (n := 4) (Nat.le_of_ble_eq_true rfl)
  rw [← hargs, lg_entry_eq, hargs]
  generalize (lg_sl ([.ref (A m_o), .ref (A a1), .int a2]) ++ List.replicate (4 - (lg_sl ([.ref (A m_o), .ref (A a1), .int a2])).length) Slot.unset).toArray = ls at hl ⊢
  have hl : lv_has ls 4 [(0, .ref (A m_o)), (1, .ref (A a1)), (2, .int a2)] := hl
  unfold f_X11_clearRow at h
  refine lv_iconst (v := (0 : Int32)) hx hb dX11_clearRow_0 (by decide) ?_
  refine lv_istore_n (lv' := [(3, .int (0 : Int32)), (0, .ref (A m_o)), (1, .ref (A a1)), (2, .int a2)]) hx hb dX11_clearRow_1 rfl hl (by decide) rfl (fun ls hl => ?_)
  have hL2 : ∀ (n : Nat) (x1 : Int32) (M2 : gM) (H : Heap) (locs : List Loc) (ls : Array Slot), gZ D mLay dA mLive A (gA mLive A) s.heap M2 H locs → lv_has ls 4 [(1, .ref (A a1)), (2, .int a2), (3, .int x1)] → f_X11_clearRow_L2 a1 a2 n x1 M2 = some y → W p l e (headSpec wmX11_clearRow ({ frames := 0, cells := 0, slots := 0, locals := 0 } : Room)).room s m args below meth c H locs 0 0 (MQ below (mQv D dA A y) args s 0 0 (gA mLive A)) (F0 m 2 ls []) := by
    intro n
    induction n with
    | zero =>
      intro x1 M2 H locs ls Z hl h
      rw [f_X11_clearRow_L2] at h
      cases h
    | succ n3 ih2 =>
      intro x1 M2 H locs ls Z hl h
      rw [f_X11_clearRow_L2] at h
      refine lv_iload_n hx hb dX11_clearRow_2 rfl (lv_at hl 2 rfl) ?_
      refine lv_bipush (v := (8 : Int32)) hx hb dX11_clearRow_3 (by decide) ?_
      refine lv_icmp_ge (tgt := 23) hx hb dX11_clearRow_5 (by decide) (fun c4 => ?_) (fun c4 => ?_)
      · have h := if_t c4 h
        have hy := Option.some.inj h
        subst hy
        exact g_rv S Z hr hlocks dX11_clearRow_23
      · have h := if_f c4 h
        refine lv_aload_n hx hb dX11_clearRow_8 rfl (lv_at hl 0 rfl) ?_
        refine lv_bipush (v := (8 : Int32)) hx hb dX11_clearRow_9 (by decide) ?_
        refine lv_iload_n hx hb dX11_clearRow_11 rfl (lv_at hl 1 rfl) ?_
        refine lv_imul hx hb dX11_clearRow_12 ?_
        refine lv_iload_n hx hb dX11_clearRow_13 rfl (lv_at hl 2 rfl) ?_
        refine lv_iadd hx hb dX11_clearRow_14 ?_
        refine lv_iconst (v := (0 : Int32)) hx hb dX11_clearRow_15 (by decide) ?_
        refine g_iast S X Z ha1.1 ha1.2 dX11_clearRow_16 h (fun M5 H locs Z h => ?_)
        obtain ⟨x6, ex6, h⟩ := lt_e h
        refine lv_iinc (v := x6) (lv' := [(3, .int x6), (1, .ref (A a1)), (2, .int a2)]) hx hb dX11_clearRow_17 hl (k := 2) rfl (by rw [ex6]; rfl) (by decide) rfl (fun ls hl => ?_)
        refine lv_goto (tgt := 2) hx hb dX11_clearRow_20 (by decide) ?_
        exact ih2 x6 M5 _ _ _ Z (lv_sub hl [1, 2, 0] rfl) h
  exact hL2 100 (0 : Int32) M _ _ _ Z (lv_sub hl [2, 3, 0] rfl) h
-- X11_mark (II)V: 43 instructions
theorem dX11_mark_0 : decode cX11_mark 0 = .ok (.iconst 0, 1) := by decide +kernel
theorem dX11_mark_1 : decode cX11_mark 1 = .ok (.istore_n 3, 1) := by decide +kernel
theorem dX11_mark_2 : decode cX11_mark 2 = .ok (.iload_n 3, 1) := by decide +kernel
theorem dX11_mark_3 : decode cX11_mark 3 = .ok (.aload_n 0, 1) := by decide +kernel
theorem dX11_mark_4 : decode cX11_mark 4 = .ok (.getfield 155, 3) := by decide +kernel
theorem dX11_mark_7 : decode cX11_mark 7 = .ok (.if_icmp .ge 56, 3) := by decide +kernel
theorem dX11_mark_10 : decode cX11_mark 10 = .ok (.aload_n 0, 1) := by decide +kernel
theorem dX11_mark_11 : decode cX11_mark 11 = .ok (.getfield 62, 3) := by decide +kernel
theorem dX11_mark_14 : decode cX11_mark 14 = .ok (.bipush 48, 2) := by decide +kernel
theorem dX11_mark_16 : decode cX11_mark 16 = .ok (.iload_n 3, 1) := by decide +kernel
theorem dX11_mark_17 : decode cX11_mark 17 = .ok (.imul, 1) := by decide +kernel
theorem dX11_mark_18 : decode cX11_mark 18 = .ok (.iload_n 1, 1) := by decide +kernel
theorem dX11_mark_19 : decode cX11_mark 19 = .ok (.iadd, 1) := by decide +kernel
theorem dX11_mark_20 : decode cX11_mark 20 = .ok (.iload_n 2, 1) := by decide +kernel
theorem dX11_mark_21 : decode cX11_mark 21 = .ok (.iload_n 3, 1) := by decide +kernel
theorem dX11_mark_22 : decode cX11_mark 22 = .ok (.ishr, 1) := by decide +kernel
theorem dX11_mark_23 : decode cX11_mark 23 = .ok (.iconst 1, 1) := by decide +kernel
theorem dX11_mark_24 : decode cX11_mark 24 = .ok (.iand, 1) := by decide +kernel
theorem dX11_mark_25 : decode cX11_mark 25 = .ok (.iconst 1, 1) := by decide +kernel
theorem dX11_mark_26 : decode cX11_mark 26 = .ok (.if_icmp .ne 19, 3) := by decide +kernel
theorem dX11_mark_29 : decode cX11_mark 29 = .ok (.aload_n 0, 1) := by decide +kernel
theorem dX11_mark_30 : decode cX11_mark 30 = .ok (.getfield 62, 3) := by decide +kernel
theorem dX11_mark_33 : decode cX11_mark 33 = .ok (.bipush 48, 2) := by decide +kernel
theorem dX11_mark_35 : decode cX11_mark 35 = .ok (.iload_n 3, 1) := by decide +kernel
theorem dX11_mark_36 : decode cX11_mark 36 = .ok (.imul, 1) := by decide +kernel
theorem dX11_mark_37 : decode cX11_mark 37 = .ok (.iload_n 1, 1) := by decide +kernel
theorem dX11_mark_38 : decode cX11_mark 38 = .ok (.iadd, 1) := by decide +kernel
theorem dX11_mark_39 : decode cX11_mark 39 = .ok (.iaload, 1) := by decide +kernel
theorem dX11_mark_40 : decode cX11_mark 40 = .ok (.iconst 1, 1) := by decide +kernel
theorem dX11_mark_41 : decode cX11_mark 41 = .ok (.iadd, 1) := by decide +kernel
theorem dX11_mark_42 : decode cX11_mark 42 = .ok (.goto 14, 3) := by decide +kernel
theorem dX11_mark_45 : decode cX11_mark 45 = .ok (.aload_n 0, 1) := by decide +kernel
theorem dX11_mark_46 : decode cX11_mark 46 = .ok (.getfield 62, 3) := by decide +kernel
theorem dX11_mark_49 : decode cX11_mark 49 = .ok (.bipush 48, 2) := by decide +kernel
theorem dX11_mark_51 : decode cX11_mark 51 = .ok (.iload_n 3, 1) := by decide +kernel
theorem dX11_mark_52 : decode cX11_mark 52 = .ok (.imul, 1) := by decide +kernel
theorem dX11_mark_53 : decode cX11_mark 53 = .ok (.iload_n 1, 1) := by decide +kernel
theorem dX11_mark_54 : decode cX11_mark 54 = .ok (.iadd, 1) := by decide +kernel
theorem dX11_mark_55 : decode cX11_mark 55 = .ok (.iaload, 1) := by decide +kernel
theorem dX11_mark_56 : decode cX11_mark 56 = .ok (.iastore, 1) := by decide +kernel
theorem dX11_mark_57 : decode cX11_mark 57 = .ok (.iinc 3 1, 3) := by decide +kernel
theorem dX11_mark_60 : decode cX11_mark 60 = .ok (.goto (-58), 3) := by decide +kernel
theorem dX11_mark_63 : decode cX11_mark 63 = .ok (.return_, 1) := by decide +kernel
abbrev wmX11_mark : List Cond := .code yX11_mark cX11_mark 4 none :: mBig
def f_X11_mark_L2 (a1 : Int32) (a2 : Int32) : Nat → Int32 → gM → Option gM
  | 0, _, _ => none
  | n3 + 1, x1, M2 => lt (M2 m_o 0) (fun v4 => (if v4 ≤ x1 then some M2 else jn (fun (q : (Int32 × gM)) => match q with | (b6, M7) => wr M7 m_marks 192 (((48 : Int32) * x1) + a1) b6 (fun M8 => lt (x1 + 1) (fun x9 => f_X11_mark_L2 a1 a2 n3 x9 M8))) (fun J56 => (if ((a2 >>> (x1 &&& 31)) &&& (1 : Int32)) = (1 : Int32) then rd M2 m_marks 192 (((48 : Int32) * x1) + a1) (fun v12 => J56 ((v12 + (1 : Int32)), M2)) else rd M2 m_marks 192 (((48 : Int32) * x1) + a1) (fun v11 => J56 (v11, M2))))))
def f_X11_mark (M : gM) (a1 : Int32) (a2 : Int32) : Option gM :=
  f_X11_mark_L2 a1 a2 100 (0 : Int32) M
set_option maxHeartbeats 4000000 in
set_option maxRecDepth 100000 in
theorem t_X11_mark (l : Launch) (D : va_G) (dA : Nat → ClassId) (A : gI → Nat) (hJ : gJ mLive A) {M : gM} {a1 : Int32} {a2 : Int32}  {y : gM} (h : f_X11_mark M a1 a2 = some y) : mMv l yX11_mark wmX11_mark ({ frames := 0, cells := 0, slots := 0, locals := 0 } : Room) D dA A [.ref (A m_o), .int a1, .int a2] M y := by
  refine Met.ofW (cc := cX11_mark) (maxL := 4) (ret := none) (by decide) rfl ?_
  intro p e s m args below meth c s₁ B hml hv
  obtain ⟨rfl, hP, hK⟩ := hv
  generalize hargs : ([.ref (A m_o), .int a1, .int a2] : List Value).toArray = args at B ⊢
  have S : CallFix p m c cX11_mark 4 s args wmX11_mark RX11 := ⟨B.exec, B.bytes, hml, findClass_of_methodNamed B.named, atoms_spec (ws := wmX11_mark) B.pre⟩
  obtain ⟨hx, hb, -, hown, hts⟩ := id S
  have hr := B.returns
  have hlocks := B.notSynchronized
  have X : gX D vwCl dA mLive A (gA mLive A) s := ⟨hK, hJ, fun i hi => ⟨i, hi, rfl⟩⟩
  have Z : gZ D mLay dA mLive A (gA mLive A) s.heap M s.heap [] := ⟨hP, va_S.rf⟩
  have hin : ∀ w ∈ wsX110, w ∈ wmX11_mark := m_in
  have hl_62 := hts (.fieldLink RX11 62 "ReplicaFilesModel" "marks" "[I") (mBc 22 rfl)
  have hl_155 := hts (.fieldLink RX11 155 "ReplicaFilesModel" "servers" "I") (mBc 53 rfl)
  have hl := lv_entry ([.ref (A m_o), .int a1, .int a2]) (n := 4) (Nat.le_of_ble_eq_true rfl)
  rw [← hargs, lg_entry_eq, hargs]
  generalize (lg_sl ([.ref (A m_o), .int a1, .int a2]) ++ List.replicate (4 - (lg_sl ([.ref (A m_o), .int a1, .int a2])).length) Slot.unset).toArray = ls at hl ⊢
  have hl : lv_has ls 4 [(0, .ref (A m_o)), (1, .int a1), (2, .int a2)] := hl
  unfold f_X11_mark at h
  refine lv_iconst (v := (0 : Int32)) hx hb dX11_mark_0 (by decide) ?_
  refine lv_istore_n (lv' := [(3, .int (0 : Int32)), (0, .ref (A m_o)), (1, .int a1), (2, .int a2)]) hx hb dX11_mark_1 rfl hl (by decide) rfl (fun ls hl => ?_)
  have hL2 : ∀ (n : Nat) (x1 : Int32) (M2 : gM) (H : Heap) (locs : List Loc) (ls : Array Slot), gZ D mLay dA mLive A (gA mLive A) s.heap M2 H locs → lv_has ls 4 [(0, .ref (A m_o)), (1, .int a1), (2, .int a2), (3, .int x1)] → f_X11_mark_L2 a1 a2 n x1 M2 = some y → W p l e (headSpec wmX11_mark ({ frames := 0, cells := 0, slots := 0, locals := 0 } : Room)).room s m args below meth c H locs 0 0 (MQ below (mQv D dA A y) args s 0 0 (gA mLive A)) (F0 m 2 ls []) := by
    intro n
    induction n with
    | zero =>
      intro x1 M2 H locs ls Z hl h
      rw [f_X11_mark_L2] at h
      cases h
    | succ n3 ih2 =>
      intro x1 M2 H locs ls Z hl h
      rw [f_X11_mark_L2] at h
      refine lv_iload_n hx hb dX11_mark_2 rfl (lv_at hl 3 rfl) ?_
      refine lv_aload_n hx hb dX11_mark_3 rfl (lv_at hl 0 rfl) ?_
      refine mr_servers S X Z hin hl_155 dX11_mark_4 h (fun v4 h => ?_)
      refine lv_icmp_ge (tgt := 63) hx hb dX11_mark_7 (by decide) (fun c5 => ?_) (fun c5 => ?_)
      · have h := if_t c5 h
        have hy := Option.some.inj h
        subst hy
        exact g_rv S Z hr hlocks dX11_mark_63
      · have h := if_f c5 h
        refine lv_aload_n hx hb dX11_mark_10 rfl (lv_at hl 0 rfl) ?_
        refine mr_marks S X Z hin hl_62 dX11_mark_11 ?_
        refine lv_bipush (v := (48 : Int32)) hx hb dX11_mark_14 (by decide) ?_
        refine lv_iload_n hx hb dX11_mark_16 rfl (lv_at hl 3 rfl) ?_
        refine lv_imul hx hb dX11_mark_17 ?_
        refine lv_iload_n hx hb dX11_mark_18 rfl (lv_at hl 1 rfl) ?_
        refine lv_iadd hx hb dX11_mark_19 ?_
        refine lv_iload_n hx hb dX11_mark_20 rfl (lv_at hl 2 rfl) ?_
        refine lv_iload_n hx hb dX11_mark_21 rfl (lv_at hl 3 rfl) ?_
        refine lv_ishr hx hb dX11_mark_22 ?_
        refine lv_iconst (v := (1 : Int32)) hx hb dX11_mark_23 (by decide) ?_
        refine lv_iand hx hb dX11_mark_24 ?_
        refine lv_iconst (v := (1 : Int32)) hx hb dX11_mark_25 (by decide) ?_
        obtain ⟨J56, eJ56, h⟩ := jn_e h
        have hJ56 : ∀ (b6 : Int32) (M7 : gM) (H : Heap) (locs : List Loc) (ls : Array Slot), gZ D mLay dA mLive A (gA mLive A) s.heap M7 H locs → lv_has ls 4 [(0, .ref (A m_o)), (1, .int a1), (2, .int a2), (3, .int x1)] → J56 (b6, M7) = some y → W p l e (headSpec wmX11_mark ({ frames := 0, cells := 0, slots := 0, locals := 0 } : Room)).room s m args below meth c H locs 0 0 (MQ below (mQv D dA A y) args s 0 0 (gA mLive A)) (F0 m 56 ls [.int b6, .int (((48 : Int32) * x1) + a1), .ref (A m_marks)]) := by
          intro b6 M7 H locs ls Z hl h
          rw [eJ56] at h
          try dsimp only at h
          refine g_iast S X Z ml_marks rfl dX11_mark_56 h (fun M8 H locs Z h => ?_)
          obtain ⟨x9, ex9, h⟩ := lt_e h
          refine lv_iinc (v := x9) (lv' := [(3, .int x9), (0, .ref (A m_o)), (1, .int a1), (2, .int a2)]) hx hb dX11_mark_57 hl (k := 3) rfl (by rw [ex9]; rfl) (by decide) rfl (fun ls hl => ?_)
          refine lv_goto (tgt := 2) hx hb dX11_mark_60 (by decide) ?_
          exact ih2 x9 M8 _ _ _ Z (lv_sub hl [1, 2, 3, 0] rfl) h
        refine lv_icmp_ne (tgt := 45) hx hb dX11_mark_26 (by decide) (fun c10 => ?_) (fun c10 => ?_)
        · have h := if_f c10 h
          refine lv_aload_n hx hb dX11_mark_45 rfl (lv_at hl 0 rfl) ?_
          refine mr_marks S X Z hin hl_62 dX11_mark_46 ?_
          refine lv_bipush (v := (48 : Int32)) hx hb dX11_mark_49 (by decide) ?_
          refine lv_iload_n hx hb dX11_mark_51 rfl (lv_at hl 3 rfl) ?_
          refine lv_imul hx hb dX11_mark_52 ?_
          refine lv_iload_n hx hb dX11_mark_53 rfl (lv_at hl 1 rfl) ?_
          refine lv_iadd hx hb dX11_mark_54 ?_
          refine g_iald S X Z ml_marks rfl dX11_mark_55 h (fun v11 h => ?_)
          exact hJ56 v11 M2 _ _ _ Z (lv_sub hl [0, 1, 2, 3] rfl) h
        · have h := if_t c10 h
          refine lv_aload_n hx hb dX11_mark_29 rfl (lv_at hl 0 rfl) ?_
          refine mr_marks S X Z hin hl_62 dX11_mark_30 ?_
          refine lv_bipush (v := (48 : Int32)) hx hb dX11_mark_33 (by decide) ?_
          refine lv_iload_n hx hb dX11_mark_35 rfl (lv_at hl 3 rfl) ?_
          refine lv_imul hx hb dX11_mark_36 ?_
          refine lv_iload_n hx hb dX11_mark_37 rfl (lv_at hl 1 rfl) ?_
          refine lv_iadd hx hb dX11_mark_38 ?_
          refine g_iald S X Z ml_marks rfl dX11_mark_39 h (fun v12 h => ?_)
          refine lv_iconst (v := (1 : Int32)) hx hb dX11_mark_40 (by decide) ?_
          refine lv_iadd hx hb dX11_mark_41 ?_
          refine lv_goto (tgt := 56) hx hb dX11_mark_42 (by decide) ?_
          exact hJ56 (v12 + (1 : Int32)) M2 _ _ _ Z (lv_sub hl [0, 1, 2, 3] rfl) h
  exact hL2 100 (0 : Int32) M _ _ _ Z (lv_sub hl [1, 2, 3, 0] rfl) h
-- X11_count ([IIII)V: 39 instructions
theorem dX11_count_0 : decode cX11_count 0 = .ok (.iconst 0, 1) := by decide +kernel
theorem dX11_count_1 : decode cX11_count 1 = .ok (.istore 5, 2) := by decide +kernel
theorem dX11_count_3 : decode cX11_count 3 = .ok (.iload 5, 2) := by decide +kernel
theorem dX11_count_5 : decode cX11_count 5 = .ok (.aload_n 0, 1) := by decide +kernel
theorem dX11_count_6 : decode cX11_count 6 = .ok (.getfield 155, 3) := by decide +kernel
theorem dX11_count_9 : decode cX11_count 9 = .ok (.if_icmp .ge 53, 3) := by decide +kernel
theorem dX11_count_12 : decode cX11_count 12 = .ok (.aload_n 1, 1) := by decide +kernel
theorem dX11_count_13 : decode cX11_count 13 = .ok (.bipush 8, 2) := by decide +kernel
theorem dX11_count_15 : decode cX11_count 15 = .ok (.iload_n 2, 1) := by decide +kernel
theorem dX11_count_16 : decode cX11_count 16 = .ok (.imul, 1) := by decide +kernel
theorem dX11_count_17 : decode cX11_count 17 = .ok (.iload 5, 2) := by decide +kernel
theorem dX11_count_19 : decode cX11_count 19 = .ok (.iadd, 1) := by decide +kernel
theorem dX11_count_20 : decode cX11_count 20 = .ok (.iload_n 3, 1) := by decide +kernel
theorem dX11_count_21 : decode cX11_count 21 = .ok (.iload 5, 2) := by decide +kernel
theorem dX11_count_23 : decode cX11_count 23 = .ok (.ishr, 1) := by decide +kernel
theorem dX11_count_24 : decode cX11_count 24 = .ok (.iconst 1, 1) := by decide +kernel
theorem dX11_count_25 : decode cX11_count 25 = .ok (.iand, 1) := by decide +kernel
theorem dX11_count_26 : decode cX11_count 26 = .ok (.iconst 1, 1) := by decide +kernel
theorem dX11_count_27 : decode cX11_count 27 = .ok (.if_icmp .ne 19, 3) := by decide +kernel
theorem dX11_count_30 : decode cX11_count 30 = .ok (.aload_n 0, 1) := by decide +kernel
theorem dX11_count_31 : decode cX11_count 31 = .ok (.getfield 62, 3) := by decide +kernel
theorem dX11_count_34 : decode cX11_count 34 = .ok (.bipush 48, 2) := by decide +kernel
theorem dX11_count_36 : decode cX11_count 36 = .ok (.iload 5, 2) := by decide +kernel
theorem dX11_count_38 : decode cX11_count 38 = .ok (.imul, 1) := by decide +kernel
theorem dX11_count_39 : decode cX11_count 39 = .ok (.iload 4, 2) := by decide +kernel
theorem dX11_count_41 : decode cX11_count 41 = .ok (.iadd, 1) := by decide +kernel
theorem dX11_count_42 : decode cX11_count 42 = .ok (.iaload, 1) := by decide +kernel
theorem dX11_count_43 : decode cX11_count 43 = .ok (.goto 12, 3) := by decide +kernel
theorem dX11_count_46 : decode cX11_count 46 = .ok (.aload_n 1, 1) := by decide +kernel
theorem dX11_count_47 : decode cX11_count 47 = .ok (.bipush 8, 2) := by decide +kernel
theorem dX11_count_49 : decode cX11_count 49 = .ok (.iload_n 2, 1) := by decide +kernel
theorem dX11_count_50 : decode cX11_count 50 = .ok (.imul, 1) := by decide +kernel
theorem dX11_count_51 : decode cX11_count 51 = .ok (.iload 5, 2) := by decide +kernel
theorem dX11_count_53 : decode cX11_count 53 = .ok (.iadd, 1) := by decide +kernel
theorem dX11_count_54 : decode cX11_count 54 = .ok (.iaload, 1) := by decide +kernel
theorem dX11_count_55 : decode cX11_count 55 = .ok (.iastore, 1) := by decide +kernel
theorem dX11_count_56 : decode cX11_count 56 = .ok (.iinc 5 1, 3) := by decide +kernel
theorem dX11_count_59 : decode cX11_count 59 = .ok (.goto (-56), 3) := by decide +kernel
theorem dX11_count_62 : decode cX11_count 62 = .ok (.return_, 1) := by decide +kernel
abbrev wmX11_count : List Cond := .code yX11_count cX11_count 6 none :: mBig
def f_X11_count_L3 (a1 : gI) (a2 : Int32) (a3 : Int32) (a4 : Int32) : Nat → Int32 → gM → Option gM
  | 0, _, _ => none
  | n3 + 1, x1, M2 => lt (M2 m_o 0) (fun v4 => (if v4 ≤ x1 then some M2 else jn (fun (q : (Int32 × gM)) => match q with | (b6, M7) => wr M7 a1 (mN a1) (((8 : Int32) * a2) + x1) b6 (fun M8 => lt (x1 + 1) (fun x9 => f_X11_count_L3 a1 a2 a3 a4 n3 x9 M8))) (fun J55 => (if ((a3 >>> (x1 &&& 31)) &&& (1 : Int32)) = (1 : Int32) then rd M2 m_marks 192 (((48 : Int32) * x1) + a4) (fun v12 => J55 (v12, M2)) else rd M2 a1 (mN a1) (((8 : Int32) * a2) + x1) (fun v11 => J55 (v11, M2))))))
def f_X11_count (M : gM) (a1 : gI) (a2 : Int32) (a3 : Int32) (a4 : Int32) : Option gM :=
  f_X11_count_L3 a1 a2 a3 a4 100 (0 : Int32) M
set_option maxHeartbeats 4000000 in
set_option maxRecDepth 100000 in
theorem t_X11_count (l : Launch) (D : va_G) (dA : Nat → ClassId) (A : gI → Nat) (hJ : gJ mLive A) {M : gM} {a1 : gI} {a2 : Int32} {a3 : Int32} {a4 : Int32} (ha1 : mArr a1) {y : gM} (h : f_X11_count M a1 a2 a3 a4 = some y) : mMv l yX11_count wmX11_count ({ frames := 0, cells := 0, slots := 0, locals := 0 } : Room) D dA A [.ref (A m_o), .ref (A a1), .int a2, .int a3, .int a4] M y := by
  refine Met.ofW (cc := cX11_count) (maxL := 6) (ret := none) (by decide) rfl ?_
  intro p e s m args below meth c s₁ B hml hv
  obtain ⟨rfl, hP, hK⟩ := hv
  generalize hargs : ([.ref (A m_o), .ref (A a1), .int a2, .int a3, .int a4] : List Value).toArray = args at B ⊢
  have S : CallFix p m c cX11_count 6 s args wmX11_count RX11 := ⟨B.exec, B.bytes, hml, findClass_of_methodNamed B.named, atoms_spec (ws := wmX11_count) B.pre⟩
  obtain ⟨hx, hb, -, hown, hts⟩ := id S
  have hr := B.returns
  have hlocks := B.notSynchronized
  have X : gX D vwCl dA mLive A (gA mLive A) s := ⟨hK, hJ, fun i hi => ⟨i, hi, rfl⟩⟩
  have Z : gZ D mLay dA mLive A (gA mLive A) s.heap M s.heap [] := ⟨hP, va_S.rf⟩
  have hin : ∀ w ∈ wsX110, w ∈ wmX11_count := m_in
  have hl_62 := hts (.fieldLink RX11 62 "ReplicaFilesModel" "marks" "[I") (mBc 22 rfl)
  have hl_155 := hts (.fieldLink RX11 155 "ReplicaFilesModel" "servers" "I") (mBc 53 rfl)
  have hl := lv_entry ([.ref (A m_o), .ref (A a1), .int a2, .int a3, .int a4]) (n := 6) (Nat.le_of_ble_eq_true rfl)
  rw [← hargs, lg_entry_eq, hargs]
  generalize (lg_sl ([.ref (A m_o), .ref (A a1), .int a2, .int a3, .int a4]) ++ List.replicate (6 - (lg_sl ([.ref (A m_o), .ref (A a1), .int a2, .int a3, .int a4])).length) Slot.unset).toArray = ls at hl ⊢
  have hl : lv_has ls 6 [(0, .ref (A m_o)), (1, .ref (A a1)), (2, .int a2), (3, .int a3), (4, .int a4)] := hl
  unfold f_X11_count at h
  refine lv_iconst (v := (0 : Int32)) hx hb dX11_count_0 (by decide) ?_
  refine lv_istore (lv' := [(5, .int (0 : Int32)), (0, .ref (A m_o)), (1, .ref (A a1)), (2, .int a2), (3, .int a3), (4, .int a4)]) hx hb dX11_count_1 hl (by decide) rfl (fun ls hl => ?_)
  have hL3 : ∀ (n : Nat) (x1 : Int32) (M2 : gM) (H : Heap) (locs : List Loc) (ls : Array Slot), gZ D mLay dA mLive A (gA mLive A) s.heap M2 H locs → lv_has ls 6 [(0, .ref (A m_o)), (1, .ref (A a1)), (2, .int a2), (3, .int a3), (4, .int a4), (5, .int x1)] → f_X11_count_L3 a1 a2 a3 a4 n x1 M2 = some y → W p l e (headSpec wmX11_count ({ frames := 0, cells := 0, slots := 0, locals := 0 } : Room)).room s m args below meth c H locs 0 0 (MQ below (mQv D dA A y) args s 0 0 (gA mLive A)) (F0 m 3 ls []) := by
    intro n
    induction n with
    | zero =>
      intro x1 M2 H locs ls Z hl h
      rw [f_X11_count_L3] at h
      cases h
    | succ n3 ih3 =>
      intro x1 M2 H locs ls Z hl h
      rw [f_X11_count_L3] at h
      refine lv_iload hx hb dX11_count_3 (lv_at hl 5 rfl) ?_
      refine lv_aload_n hx hb dX11_count_5 rfl (lv_at hl 0 rfl) ?_
      refine mr_servers S X Z hin hl_155 dX11_count_6 h (fun v4 h => ?_)
      refine lv_icmp_ge (tgt := 62) hx hb dX11_count_9 (by decide) (fun c5 => ?_) (fun c5 => ?_)
      · have h := if_t c5 h
        have hy := Option.some.inj h
        subst hy
        exact g_rv S Z hr hlocks dX11_count_62
      · have h := if_f c5 h
        refine lv_aload_n hx hb dX11_count_12 rfl (lv_at hl 1 rfl) ?_
        refine lv_bipush (v := (8 : Int32)) hx hb dX11_count_13 (by decide) ?_
        refine lv_iload_n hx hb dX11_count_15 rfl (lv_at hl 2 rfl) ?_
        refine lv_imul hx hb dX11_count_16 ?_
        refine lv_iload hx hb dX11_count_17 (lv_at hl 5 rfl) ?_
        refine lv_iadd hx hb dX11_count_19 ?_
        refine lv_iload_n hx hb dX11_count_20 rfl (lv_at hl 3 rfl) ?_
        refine lv_iload hx hb dX11_count_21 (lv_at hl 5 rfl) ?_
        refine lv_ishr hx hb dX11_count_23 ?_
        refine lv_iconst (v := (1 : Int32)) hx hb dX11_count_24 (by decide) ?_
        refine lv_iand hx hb dX11_count_25 ?_
        refine lv_iconst (v := (1 : Int32)) hx hb dX11_count_26 (by decide) ?_
        obtain ⟨J55, eJ55, h⟩ := jn_e h
        have hJ55 : ∀ (b6 : Int32) (M7 : gM) (H : Heap) (locs : List Loc) (ls : Array Slot), gZ D mLay dA mLive A (gA mLive A) s.heap M7 H locs → lv_has ls 6 [(0, .ref (A m_o)), (1, .ref (A a1)), (2, .int a2), (3, .int a3), (4, .int a4), (5, .int x1)] → J55 (b6, M7) = some y → W p l e (headSpec wmX11_count ({ frames := 0, cells := 0, slots := 0, locals := 0 } : Room)).room s m args below meth c H locs 0 0 (MQ below (mQv D dA A y) args s 0 0 (gA mLive A)) (F0 m 55 ls [.int b6, .int (((8 : Int32) * a2) + x1), .ref (A a1)]) := by
          intro b6 M7 H locs ls Z hl h
          rw [eJ55] at h
          try dsimp only at h
          refine g_iast S X Z ha1.1 ha1.2 dX11_count_55 h (fun M8 H locs Z h => ?_)
          obtain ⟨x9, ex9, h⟩ := lt_e h
          refine lv_iinc (v := x9) (lv' := [(5, .int x9), (0, .ref (A m_o)), (1, .ref (A a1)), (2, .int a2), (3, .int a3), (4, .int a4)]) hx hb dX11_count_56 hl (k := 5) rfl (by rw [ex9]; rfl) (by decide) rfl (fun ls hl => ?_)
          refine lv_goto (tgt := 3) hx hb dX11_count_59 (by decide) ?_
          exact ih3 x9 M8 _ _ _ Z (lv_sub hl [1, 2, 3, 4, 5, 0] rfl) h
        refine lv_icmp_ne (tgt := 46) hx hb dX11_count_27 (by decide) (fun c10 => ?_) (fun c10 => ?_)
        · have h := if_f c10 h
          refine lv_aload_n hx hb dX11_count_46 rfl (lv_at hl 1 rfl) ?_
          refine lv_bipush (v := (8 : Int32)) hx hb dX11_count_47 (by decide) ?_
          refine lv_iload_n hx hb dX11_count_49 rfl (lv_at hl 2 rfl) ?_
          refine lv_imul hx hb dX11_count_50 ?_
          refine lv_iload hx hb dX11_count_51 (lv_at hl 5 rfl) ?_
          refine lv_iadd hx hb dX11_count_53 ?_
          refine g_iald S X Z ha1.1 ha1.2 dX11_count_54 h (fun v11 h => ?_)
          exact hJ55 v11 M2 _ _ _ Z (lv_sub hl [0, 1, 2, 3, 4, 5] rfl) h
        · have h := if_t c10 h
          refine lv_aload_n hx hb dX11_count_30 rfl (lv_at hl 0 rfl) ?_
          refine mr_marks S X Z hin hl_62 dX11_count_31 ?_
          refine lv_bipush (v := (48 : Int32)) hx hb dX11_count_34 (by decide) ?_
          refine lv_iload hx hb dX11_count_36 (lv_at hl 5 rfl) ?_
          refine lv_imul hx hb dX11_count_38 ?_
          refine lv_iload hx hb dX11_count_39 (lv_at hl 4 rfl) ?_
          refine lv_iadd hx hb dX11_count_41 ?_
          refine g_iald S X Z ml_marks rfl dX11_count_42 h (fun v12 h => ?_)
          refine lv_goto (tgt := 55) hx hb dX11_count_43 (by decide) ?_
          exact hJ55 v12 M2 _ _ _ Z (lv_sub hl [0, 1, 2, 3, 4, 5] rfl) h
  exact hL3 100 (0 : Int32) M _ _ _ Z (lv_sub hl [1, 2, 3, 4, 5, 0] rfl) h
-- X11_isChild (II)Z: 16 instructions
theorem dX11_isChild_0 : decode cX11_isChild 0 = .ok (.iload_n 1, 1) := by decide +kernel
theorem dX11_isChild_1 : decode cX11_isChild 1 = .ok (.ifCond .le 25, 3) := by decide +kernel
theorem dX11_isChild_4 : decode cX11_isChild 4 = .ok (.iload_n 1, 1) := by decide +kernel
theorem dX11_isChild_5 : decode cX11_isChild 5 = .ok (.aload_n 0, 1) := by decide +kernel
theorem dX11_isChild_6 : decode cX11_isChild 6 = .ok (.getfield 162, 3) := by decide +kernel
theorem dX11_isChild_9 : decode cX11_isChild 9 = .ok (.if_icmp .ge 17, 3) := by decide +kernel
theorem dX11_isChild_12 : decode cX11_isChild 12 = .ok (.aload_n 0, 1) := by decide +kernel
theorem dX11_isChild_13 : decode cX11_isChild 13 = .ok (.getfield 22, 3) := by decide +kernel
theorem dX11_isChild_16 : decode cX11_isChild 16 = .ok (.iload_n 1, 1) := by decide +kernel
theorem dX11_isChild_17 : decode cX11_isChild 17 = .ok (.iaload, 1) := by decide +kernel
theorem dX11_isChild_18 : decode cX11_isChild 18 = .ok (.iload_n 2, 1) := by decide +kernel
theorem dX11_isChild_19 : decode cX11_isChild 19 = .ok (.if_icmp .ne 7, 3) := by decide +kernel
theorem dX11_isChild_22 : decode cX11_isChild 22 = .ok (.iconst 1, 1) := by decide +kernel
theorem dX11_isChild_23 : decode cX11_isChild 23 = .ok (.goto 4, 3) := by decide +kernel
theorem dX11_isChild_26 : decode cX11_isChild 26 = .ok (.iconst 0, 1) := by decide +kernel
theorem dX11_isChild_27 : decode cX11_isChild 27 = .ok (.ireturn, 1) := by decide +kernel
abbrev wmX11_isChild : List Cond := .code yX11_isChild cX11_isChild 3 (some .boolean) :: mBig
def f_X11_isChild (M : gM) (a1 : Int32) (a2 : Int32) : Option Int32 :=
  (if a1 ≤ 0 then some (0 : Int32) else lt (M m_o 6) (fun v2 => (if v2 ≤ a1 then some (0 : Int32) else rd M m_parent 48 a1 (fun v4 => (if v4 = a2 then some (1 : Int32) else some (0 : Int32))))))
set_option maxHeartbeats 4000000 in
set_option maxRecDepth 100000 in
theorem t_X11_isChild (l : Launch) (D : va_G) (dA : Nat → ClassId) (A : gI → Nat) (hJ : gJ mLive A) {M : gM} {a1 : Int32} {a2 : Int32}  {y : Int32} (h : f_X11_isChild M a1 a2 = some y) : mMi l yX11_isChild wmX11_isChild ({ frames := 0, cells := 0, slots := 0, locals := 0 } : Room) D dA A [.ref (A m_o), .int a1, .int a2] M y M := by
  refine Met.ofW (cc := cX11_isChild) (maxL := 3) (ret := (some .boolean)) (by decide) rfl ?_
  intro p e s m args below meth c s₁ B hml hv
  obtain ⟨rfl, hP, hK⟩ := hv
  generalize hargs : ([.ref (A m_o), .int a1, .int a2] : List Value).toArray = args at B ⊢
  have S : CallFix p m c cX11_isChild 3 s args wmX11_isChild RX11 := ⟨B.exec, B.bytes, hml, findClass_of_methodNamed B.named, atoms_spec (ws := wmX11_isChild) B.pre⟩
  obtain ⟨hx, hb, -, hown, hts⟩ := id S
  have hr := B.returns
  have hlocks := B.notSynchronized
  have X : gX D vwCl dA mLive A (gA mLive A) s := ⟨hK, hJ, fun i hi => ⟨i, hi, rfl⟩⟩
  have Z : gZ D mLay dA mLive A (gA mLive A) s.heap M s.heap [] := ⟨hP, va_S.rf⟩
  have hin : ∀ w ∈ wsX110, w ∈ wmX11_isChild := m_in
  have hl_22 := hts (.fieldLink RX11 22 "ReplicaFilesModel" "parent" "[I") (mBc 9 rfl)
  have hl_162 := hts (.fieldLink RX11 162 "ReplicaFilesModel" "made" "I") (mBc 55 rfl)
  have hl := lv_entry ([.ref (A m_o), .int a1, .int a2]) (n := 3) (Nat.le_of_ble_eq_true rfl)
  rw [← hargs, lg_entry_eq, hargs]
  generalize (lg_sl ([.ref (A m_o), .int a1, .int a2]) ++ List.replicate (3 - (lg_sl ([.ref (A m_o), .int a1, .int a2])).length) Slot.unset).toArray = ls at hl ⊢
  have hl : lv_has ls 3 [(0, .ref (A m_o)), (1, .int a1), (2, .int a2)] := hl
  unfold f_X11_isChild at h
  refine lv_iload_n hx hb dX11_isChild_0 rfl (lv_at hl 1 rfl) ?_
  refine lv_if_le (tgt := 26) hx hb dX11_isChild_1 (by decide) (fun c1 => ?_) (fun c1 => ?_)
  · have h := if_t c1 h
    refine lv_iconst (v := (0 : Int32)) hx hb dX11_isChild_26 (by decide) ?_
    have hy := Option.some.inj h
    subst hy
    exact g_rz (Or.inl rfl) S Z hr hlocks dX11_isChild_27
  · have h := if_f c1 h
    refine lv_iload_n hx hb dX11_isChild_4 rfl (lv_at hl 1 rfl) ?_
    refine lv_aload_n hx hb dX11_isChild_5 rfl (lv_at hl 0 rfl) ?_
    refine mr_made S X Z hin hl_162 dX11_isChild_6 h (fun v2 h => ?_)
    refine lv_icmp_ge (tgt := 26) hx hb dX11_isChild_9 (by decide) (fun c3 => ?_) (fun c3 => ?_)
    · have h := if_t c3 h
      refine lv_iconst (v := (0 : Int32)) hx hb dX11_isChild_26 (by decide) ?_
      have hy := Option.some.inj h
      subst hy
      exact g_rz (Or.inl rfl) S Z hr hlocks dX11_isChild_27
    · have h := if_f c3 h
      refine lv_aload_n hx hb dX11_isChild_12 rfl (lv_at hl 0 rfl) ?_
      refine mr_parent S X Z hin hl_22 dX11_isChild_13 ?_
      refine lv_iload_n hx hb dX11_isChild_16 rfl (lv_at hl 1 rfl) ?_
      refine g_iald S X Z ml_parent rfl dX11_isChild_17 h (fun v4 h => ?_)
      refine lv_iload_n hx hb dX11_isChild_18 rfl (lv_at hl 2 rfl) ?_
      refine lv_icmp_ne (tgt := 26) hx hb dX11_isChild_19 (by decide) (fun c5 => ?_) (fun c5 => ?_)
      · have h := if_f c5 h
        refine lv_iconst (v := (0 : Int32)) hx hb dX11_isChild_26 (by decide) ?_
        have hy := Option.some.inj h
        subst hy
        exact g_rz (Or.inl rfl) S Z hr hlocks dX11_isChild_27
      · have h := if_t c5 h
        refine lv_iconst (v := (1 : Int32)) hx hb dX11_isChild_22 (by decide) ?_
        refine lv_goto (tgt := 27) hx hb dX11_isChild_23 (by decide) ?_
        have hy := Option.some.inj h
        subst hy
        exact g_rz (Or.inr rfl) S Z hr hlocks dX11_isChild_27
-- X11_drop (II)V: 39 instructions
theorem dX11_drop_0 : decode cX11_drop 0 = .ok (.bipush 48, 2) := by decide +kernel
theorem dX11_drop_2 : decode cX11_drop 2 = .ok (.iload_n 1, 1) := by decide +kernel
theorem dX11_drop_3 : decode cX11_drop 3 = .ok (.imul, 1) := by decide +kernel
theorem dX11_drop_4 : decode cX11_drop 4 = .ok (.iload_n 2, 1) := by decide +kernel
theorem dX11_drop_5 : decode cX11_drop 5 = .ok (.iadd, 1) := by decide +kernel
theorem dX11_drop_6 : decode cX11_drop 6 = .ok (.istore_n 3, 1) := by decide +kernel
theorem dX11_drop_7 : decode cX11_drop 7 = .ok (.aload_n 0, 1) := by decide +kernel
theorem dX11_drop_8 : decode cX11_drop 8 = .ok (.getfield 32, 3) := by decide +kernel
theorem dX11_drop_11 : decode cX11_drop 11 = .ok (.iload_n 3, 1) := by decide +kernel
theorem dX11_drop_12 : decode cX11_drop 12 = .ok (.iconst 0, 1) := by decide +kernel
theorem dX11_drop_13 : decode cX11_drop 13 = .ok (.bastore, 1) := by decide +kernel
theorem dX11_drop_14 : decode cX11_drop 14 = .ok (.aload_n 0, 1) := by decide +kernel
theorem dX11_drop_15 : decode cX11_drop 15 = .ok (.getfield 44, 3) := by decide +kernel
theorem dX11_drop_18 : decode cX11_drop 18 = .ok (.iload_n 3, 1) := by decide +kernel
theorem dX11_drop_19 : decode cX11_drop 19 = .ok (.iconst 0, 1) := by decide +kernel
theorem dX11_drop_20 : decode cX11_drop 20 = .ok (.iastore, 1) := by decide +kernel
theorem dX11_drop_21 : decode cX11_drop 21 = .ok (.iconst 1, 1) := by decide +kernel
theorem dX11_drop_22 : decode cX11_drop 22 = .ok (.istore 4, 2) := by decide +kernel
theorem dX11_drop_24 : decode cX11_drop 24 = .ok (.iload 4, 2) := by decide +kernel
theorem dX11_drop_26 : decode cX11_drop 26 = .ok (.aload_n 0, 1) := by decide +kernel
theorem dX11_drop_27 : decode cX11_drop 27 = .ok (.getfield 162, 3) := by decide +kernel
theorem dX11_drop_30 : decode cX11_drop 30 = .ok (.if_icmp .ge 32, 3) := by decide +kernel
theorem dX11_drop_33 : decode cX11_drop 33 = .ok (.aload_n 0, 1) := by decide +kernel
theorem dX11_drop_34 : decode cX11_drop 34 = .ok (.iload 4, 2) := by decide +kernel
theorem dX11_drop_36 : decode cX11_drop 36 = .ok (.iload_n 2, 1) := by decide +kernel
theorem dX11_drop_37 : decode cX11_drop 37 = .ok (.invokevirtual 197, 3) := by decide +kernel
theorem dX11_drop_40 : decode cX11_drop 40 = .ok (.ifCond .eq 16, 3) := by decide +kernel
theorem dX11_drop_43 : decode cX11_drop 43 = .ok (.aload_n 0, 1) := by decide +kernel
theorem dX11_drop_44 : decode cX11_drop 44 = .ok (.getfield 56, 3) := by decide +kernel
theorem dX11_drop_47 : decode cX11_drop 47 = .ok (.bipush 48, 2) := by decide +kernel
theorem dX11_drop_49 : decode cX11_drop 49 = .ok (.iload_n 1, 1) := by decide +kernel
theorem dX11_drop_50 : decode cX11_drop 50 = .ok (.imul, 1) := by decide +kernel
theorem dX11_drop_51 : decode cX11_drop 51 = .ok (.iload 4, 2) := by decide +kernel
theorem dX11_drop_53 : decode cX11_drop 53 = .ok (.iadd, 1) := by decide +kernel
theorem dX11_drop_54 : decode cX11_drop 54 = .ok (.iconst 0, 1) := by decide +kernel
theorem dX11_drop_55 : decode cX11_drop 55 = .ok (.iastore, 1) := by decide +kernel
theorem dX11_drop_56 : decode cX11_drop 56 = .ok (.iinc 4 1, 3) := by decide +kernel
theorem dX11_drop_59 : decode cX11_drop 59 = .ok (.goto (-35), 3) := by decide +kernel
theorem dX11_drop_62 : decode cX11_drop 62 = .ok (.return_, 1) := by decide +kernel
abbrev wmX11_drop : List Cond := .code yX11_drop cX11_drop 5 none :: mBig
def f_X11_drop_L24 (a1 : Int32) (a2 : Int32) : Nat → Int32 → gM → Option gM
  | 0, _, _ => none
  | n6 + 1, x4, M5 => lt (M5 m_o 6) (fun v7 => (if v7 ≤ x4 then some M5 else o1 (f_X11_isChild M5 x4 a2) (fun v10 => jn (fun (M11 : gM) => lt (x4 + 1) (fun x12 => f_X11_drop_L24 a1 a2 n6 x12 M11)) (fun J56 => (if v10 = 0 then J56 M5 else wr M5 m_entry 192 (((48 : Int32) * a1) + x4) (0 : Int32) (fun M14 => J56 M14))))))
def f_X11_drop (M : gM) (a1 : Int32) (a2 : Int32) : Option gM :=
  lt ((((48 : Int32) * a1) + a2)) (fun x1 => wz M m_has 192 x1 (0 : Int32) (fun M2 => wr M2 m_versions 192 x1 (0 : Int32) (fun M3 => f_X11_drop_L24 a1 a2 100 (1 : Int32) M3)))
set_option maxHeartbeats 4000000 in
set_option maxRecDepth 100000 in
theorem t_X11_drop (l : Launch) (D : va_G) (dA : Nat → ClassId) (A : gI → Nat) (hJ : gJ mLive A) {M : gM} {a1 : Int32} {a2 : Int32}  {y : gM} (h : f_X11_drop M a1 a2 = some y) : mMv l yX11_drop wmX11_drop ({ frames := 1, cells := 0, slots := 0, locals := 22 } : Room) D dA A [.ref (A m_o), .int a1, .int a2] M y := by
  refine Met.ofW (cc := cX11_drop) (maxL := 5) (ret := none) (by decide) rfl ?_
  intro p e s m args below meth c s₁ B hml hv
  obtain ⟨rfl, hP, hK⟩ := hv
  generalize hargs : ([.ref (A m_o), .int a1, .int a2] : List Value).toArray = args at B ⊢
  have S : CallFix p m c cX11_drop 5 s args wmX11_drop RX11 := ⟨B.exec, B.bytes, hml, findClass_of_methodNamed B.named, atoms_spec (ws := wmX11_drop) B.pre⟩
  obtain ⟨hx, hb, -, hown, hts⟩ := id S
  have hr := B.returns
  have hlocks := B.notSynchronized
  have X : gX D vwCl dA mLive A (gA mLive A) s := ⟨hK, hJ, fun i hi => ⟨i, hi, rfl⟩⟩
  have Z : gZ D mLay dA mLive A (gA mLive A) s.heap M s.heap [] := ⟨hP, va_S.rf⟩
  have hin : ∀ w ∈ wsX110, w ∈ wmX11_drop := m_in
  have hl_32 := hts (.fieldLink RX11 32 "ReplicaFilesModel" "has" "[Z") (mBc 12 rfl)
  have hl_44 := hts (.fieldLink RX11 44 "ReplicaFilesModel" "versions" "[I") (mBc 16 rfl)
  have hl_56 := hts (.fieldLink RX11 56 "ReplicaFilesModel" "entry" "[I") (mBc 20 rfl)
  have hl_162 := hts (.fieldLink RX11 162 "ReplicaFilesModel" "made" "I") (mBc 55 rfl)
  have hl := lv_entry ([.ref (A m_o), .int a1, .int a2]) (n := 5) (Nat.le_of_ble_eq_true rfl)
  rw [← hargs, lg_entry_eq, hargs]
  generalize (lg_sl ([.ref (A m_o), .int a1, .int a2]) ++ List.replicate (5 - (lg_sl ([.ref (A m_o), .int a1, .int a2])).length) Slot.unset).toArray = ls at hl ⊢
  have hl : lv_has ls 5 [(0, .ref (A m_o)), (1, .int a1), (2, .int a2)] := hl
  unfold f_X11_drop at h
  refine lv_bipush (v := (48 : Int32)) hx hb dX11_drop_0 (by decide) ?_
  refine lv_iload_n hx hb dX11_drop_2 rfl (lv_at hl 1 rfl) ?_
  refine lv_imul hx hb dX11_drop_3 ?_
  refine lv_iload_n hx hb dX11_drop_4 rfl (lv_at hl 2 rfl) ?_
  refine lv_iadd hx hb dX11_drop_5 ?_
  refine g_topi h (fun x1 h => ?_)
  refine lv_istore_n (lv' := [(3, .int x1), (0, .ref (A m_o)), (1, .int a1), (2, .int a2)]) hx hb dX11_drop_6 rfl hl (by decide) rfl (fun ls hl => ?_)
  refine lv_aload_n hx hb dX11_drop_7 rfl (lv_at hl 1 rfl) ?_
  refine mr_has S X Z hin hl_32 dX11_drop_8 ?_
  refine lv_iload_n hx hb dX11_drop_11 rfl (lv_at hl 0 rfl) ?_
  refine lv_iconst (v := (0 : Int32)) hx hb dX11_drop_12 (by decide) ?_
  refine g_zast S X Z ml_has rfl dX11_drop_13 h (fun M2 H locs Z h => ?_)
  refine lv_aload_n hx hb dX11_drop_14 rfl (lv_at hl 1 rfl) ?_
  refine mr_versions S X Z hin hl_44 dX11_drop_15 ?_
  refine lv_iload_n hx hb dX11_drop_18 rfl (lv_at hl 0 rfl) ?_
  refine lv_iconst (v := (0 : Int32)) hx hb dX11_drop_19 (by decide) ?_
  refine g_iast S X Z ml_versions rfl dX11_drop_20 h (fun M3 H locs Z h => ?_)
  refine lv_iconst (v := (1 : Int32)) hx hb dX11_drop_21 (by decide) ?_
  refine lv_istore (lv' := [(4, .int (1 : Int32)), (3, .int x1), (0, .ref (A m_o)), (1, .int a1), (2, .int a2)]) hx hb dX11_drop_22 hl (by decide) rfl (fun ls hl => ?_)
  have hL24 : ∀ (n : Nat) (x4 : Int32) (M5 : gM) (H : Heap) (locs : List Loc) (ls : Array Slot), gZ D mLay dA mLive A (gA mLive A) s.heap M5 H locs → lv_has ls 5 [(0, .ref (A m_o)), (1, .int a1), (2, .int a2), (4, .int x4)] → f_X11_drop_L24 a1 a2 n x4 M5 = some y → W p l e (headSpec wmX11_drop ({ frames := 1, cells := 0, slots := 0, locals := 22 } : Room)).room s m args below meth c H locs 0 0 (MQ below (mQv D dA A y) args s 0 0 (gA mLive A)) (F0 m 24 ls []) := by
    intro n
    induction n with
    | zero =>
      intro x4 M5 H locs ls Z hl h
      rw [f_X11_drop_L24] at h
      cases h
    | succ n6 ih24 =>
      intro x4 M5 H locs ls Z hl h
      rw [f_X11_drop_L24] at h
      refine lv_iload hx hb dX11_drop_24 (lv_at hl 3 rfl) ?_
      refine lv_aload_n hx hb dX11_drop_26 rfl (lv_at hl 0 rfl) ?_
      refine mr_made S X Z hin hl_162 dX11_drop_27 h (fun v7 h => ?_)
      refine lv_icmp_ge (tgt := 62) hx hb dX11_drop_30 (by decide) (fun c8 => ?_) (fun c8 => ?_)
      · have h := if_t c8 h
        have hy := Option.some.inj h
        subst hy
        exact g_rv S Z hr hlocks dX11_drop_62
      · have h := if_f c8 h
        refine lv_aload_n hx hb dX11_drop_33 rfl (lv_at hl 0 rfl) ?_
        refine lv_iload hx hb dX11_drop_34 (lv_at hl 3 rfl) ?_
        refine lv_iload_n hx hb dX11_drop_36 rfl (lv_at hl 2 rfl) ?_
        obtain ⟨v10, hc9, h⟩ := o1_e h
        refine g_Vi (As := [.int x4, .int a2]) (rest := []) S X Z mlv_o rfl rfl (t_X11_isChild l D dA A hJ  hc9) (cwV 2 hts (mGV (mB 104 rfl) (mB 105 rfl) (mB 106 rfl) (mB 63 rfl) (mB 102 rfl)) rfl rfl rfl (by decide +kernel) ⟨Nat.le_of_ble_eq_true rfl, Nat.le_of_ble_eq_true rfl⟩) rfl hl.1 rfl (Nat.le_of_ble_eq_true rfl) dX11_drop_37 ⟨Nat.zero_le _, Nat.zero_le _⟩ (fun H locs Z => ?_)
        obtain ⟨J56, eJ56, h⟩ := jn_e h
        have hJ56 : ∀ (M11 : gM) (H : Heap) (locs : List Loc) (ls : Array Slot), gZ D mLay dA mLive A (gA mLive A) s.heap M11 H locs → lv_has ls 5 [(0, .ref (A m_o)), (1, .int a1), (2, .int a2), (4, .int x4)] → J56 M11 = some y → W p l e (headSpec wmX11_drop ({ frames := 1, cells := 0, slots := 0, locals := 22 } : Room)).room s m args below meth c H locs 0 0 (MQ below (mQv D dA A y) args s 0 0 (gA mLive A)) (F0 m 56 ls []) := by
          intro M11 H locs ls Z hl h
          rw [eJ56] at h
          try dsimp only at h
          obtain ⟨x12, ex12, h⟩ := lt_e h
          refine lv_iinc (v := x12) (lv' := [(4, .int x12), (0, .ref (A m_o)), (1, .int a1), (2, .int a2)]) hx hb dX11_drop_56 hl (k := 3) rfl (by rw [ex12]; rfl) (by decide) rfl (fun ls hl => ?_)
          refine lv_goto (tgt := 24) hx hb dX11_drop_59 (by decide) ?_
          exact ih24 x12 M11 _ _ _ Z (lv_sub hl [1, 2, 3, 0] rfl) h
        refine lv_if_eq (tgt := 56) hx hb dX11_drop_40 (by decide) (fun c13 => ?_) (fun c13 => ?_)
        · have h := if_t c13 h
          exact hJ56 M5 _ _ _ Z (lv_sub hl [0, 1, 2, 3] rfl) h
        · have h := if_f c13 h
          refine lv_aload_n hx hb dX11_drop_43 rfl (lv_at hl 0 rfl) ?_
          refine mr_entry S X Z hin hl_56 dX11_drop_44 ?_
          refine lv_bipush (v := (48 : Int32)) hx hb dX11_drop_47 (by decide) ?_
          refine lv_iload_n hx hb dX11_drop_49 rfl (lv_at hl 1 rfl) ?_
          refine lv_imul hx hb dX11_drop_50 ?_
          refine lv_iload hx hb dX11_drop_51 (lv_at hl 3 rfl) ?_
          refine lv_iadd hx hb dX11_drop_53 ?_
          refine lv_iconst (v := (0 : Int32)) hx hb dX11_drop_54 (by decide) ?_
          refine g_iast S X Z ml_entry rfl dX11_drop_55 h (fun M14 H locs Z h => ?_)
          exact hJ56 M14 _ _ _ Z (lv_sub hl [0, 1, 2, 3] rfl) h
  exact hL24 100 (1 : Int32) M3 _ _ _ Z (lv_sub hl [2, 3, 4, 0] rfl) h
-- X11_newCopy (II)V: 32 instructions
theorem dX11_newCopy_0 : decode cX11_newCopy 0 = .ok (.bipush 48, 2) := by decide +kernel
theorem dX11_newCopy_2 : decode cX11_newCopy 2 = .ok (.iload_n 1, 1) := by decide +kernel
theorem dX11_newCopy_3 : decode cX11_newCopy 3 = .ok (.imul, 1) := by decide +kernel
theorem dX11_newCopy_4 : decode cX11_newCopy 4 = .ok (.iload_n 2, 1) := by decide +kernel
theorem dX11_newCopy_5 : decode cX11_newCopy 5 = .ok (.iadd, 1) := by decide +kernel
theorem dX11_newCopy_6 : decode cX11_newCopy 6 = .ok (.istore_n 3, 1) := by decide +kernel
theorem dX11_newCopy_7 : decode cX11_newCopy 7 = .ok (.aload_n 0, 1) := by decide +kernel
theorem dX11_newCopy_8 : decode cX11_newCopy 8 = .ok (.getfield 32, 3) := by decide +kernel
theorem dX11_newCopy_11 : decode cX11_newCopy 11 = .ok (.iload_n 3, 1) := by decide +kernel
theorem dX11_newCopy_12 : decode cX11_newCopy 12 = .ok (.iconst 1, 1) := by decide +kernel
theorem dX11_newCopy_13 : decode cX11_newCopy 13 = .ok (.bastore, 1) := by decide +kernel
theorem dX11_newCopy_14 : decode cX11_newCopy 14 = .ok (.aload_n 0, 1) := by decide +kernel
theorem dX11_newCopy_15 : decode cX11_newCopy 15 = .ok (.getfield 35, 3) := by decide +kernel
theorem dX11_newCopy_18 : decode cX11_newCopy 18 = .ok (.iload_n 3, 1) := by decide +kernel
theorem dX11_newCopy_19 : decode cX11_newCopy 19 = .ok (.iconst 0, 1) := by decide +kernel
theorem dX11_newCopy_20 : decode cX11_newCopy 20 = .ok (.iastore, 1) := by decide +kernel
theorem dX11_newCopy_21 : decode cX11_newCopy 21 = .ok (.aload_n 0, 1) := by decide +kernel
theorem dX11_newCopy_22 : decode cX11_newCopy 22 = .ok (.getfield 38, 3) := by decide +kernel
theorem dX11_newCopy_25 : decode cX11_newCopy 25 = .ok (.iload_n 3, 1) := by decide +kernel
theorem dX11_newCopy_26 : decode cX11_newCopy 26 = .ok (.iconst 0, 1) := by decide +kernel
theorem dX11_newCopy_27 : decode cX11_newCopy 27 = .ok (.iastore, 1) := by decide +kernel
theorem dX11_newCopy_28 : decode cX11_newCopy 28 = .ok (.aload_n 0, 1) := by decide +kernel
theorem dX11_newCopy_29 : decode cX11_newCopy 29 = .ok (.getfield 44, 3) := by decide +kernel
theorem dX11_newCopy_32 : decode cX11_newCopy 32 = .ok (.iload_n 3, 1) := by decide +kernel
theorem dX11_newCopy_33 : decode cX11_newCopy 33 = .ok (.iconst 0, 1) := by decide +kernel
theorem dX11_newCopy_34 : decode cX11_newCopy 34 = .ok (.iastore, 1) := by decide +kernel
theorem dX11_newCopy_35 : decode cX11_newCopy 35 = .ok (.aload_n 0, 1) := by decide +kernel
theorem dX11_newCopy_36 : decode cX11_newCopy 36 = .ok (.aload_n 0, 1) := by decide +kernel
theorem dX11_newCopy_37 : decode cX11_newCopy 37 = .ok (.getfield 41, 3) := by decide +kernel
theorem dX11_newCopy_40 : decode cX11_newCopy 40 = .ok (.iload_n 3, 1) := by decide +kernel
theorem dX11_newCopy_41 : decode cX11_newCopy 41 = .ok (.invokevirtual 200, 3) := by decide +kernel
theorem dX11_newCopy_44 : decode cX11_newCopy 44 = .ok (.return_, 1) := by decide +kernel
abbrev wmX11_newCopy : List Cond := .code yX11_newCopy cX11_newCopy 4 none :: mBig
def f_X11_newCopy (M : gM) (a1 : Int32) (a2 : Int32) : Option gM :=
  lt ((((48 : Int32) * a1) + a2)) (fun x1 => wz M m_has 192 x1 (1 : Int32) (fun M2 => wr M2 m_value 192 x1 (0 : Int32) (fun M3 => wr M3 m_size 192 x1 (0 : Int32) (fun M4 => wr M4 m_versions 192 x1 (0 : Int32) (fun M5 => o1 (f_X11_clearRow M5 m_vector x1) (fun M7 => some M7))))))
set_option maxHeartbeats 4000000 in
set_option maxRecDepth 100000 in
theorem t_X11_newCopy (l : Launch) (D : va_G) (dA : Nat → ClassId) (A : gI → Nat) (hJ : gJ mLive A) {M : gM} {a1 : Int32} {a2 : Int32}  {y : gM} (h : f_X11_newCopy M a1 a2 = some y) : mMv l yX11_newCopy wmX11_newCopy ({ frames := 1, cells := 0, slots := 0, locals := 23 } : Room) D dA A [.ref (A m_o), .int a1, .int a2] M y := by
  refine Met.ofW (cc := cX11_newCopy) (maxL := 4) (ret := none) (by decide) rfl ?_
  intro p e s m args below meth c s₁ B hml hv
  obtain ⟨rfl, hP, hK⟩ := hv
  generalize hargs : ([.ref (A m_o), .int a1, .int a2] : List Value).toArray = args at B ⊢
  have S : CallFix p m c cX11_newCopy 4 s args wmX11_newCopy RX11 := ⟨B.exec, B.bytes, hml, findClass_of_methodNamed B.named, atoms_spec (ws := wmX11_newCopy) B.pre⟩
  obtain ⟨hx, hb, -, hown, hts⟩ := id S
  have hr := B.returns
  have hlocks := B.notSynchronized
  have X : gX D vwCl dA mLive A (gA mLive A) s := ⟨hK, hJ, fun i hi => ⟨i, hi, rfl⟩⟩
  have Z : gZ D mLay dA mLive A (gA mLive A) s.heap M s.heap [] := ⟨hP, va_S.rf⟩
  have hin : ∀ w ∈ wsX110, w ∈ wmX11_newCopy := m_in
  have hl_32 := hts (.fieldLink RX11 32 "ReplicaFilesModel" "has" "[Z") (mBc 12 rfl)
  have hl_35 := hts (.fieldLink RX11 35 "ReplicaFilesModel" "value" "[I") (mBc 13 rfl)
  have hl_38 := hts (.fieldLink RX11 38 "ReplicaFilesModel" "size" "[I") (mBc 14 rfl)
  have hl_41 := hts (.fieldLink RX11 41 "ReplicaFilesModel" "vector" "[I") (mBc 15 rfl)
  have hl_44 := hts (.fieldLink RX11 44 "ReplicaFilesModel" "versions" "[I") (mBc 16 rfl)
  have hl := lv_entry ([.ref (A m_o), .int a1, .int a2]) (n := 4) (Nat.le_of_ble_eq_true rfl)
  rw [← hargs, lg_entry_eq, hargs]
  generalize (lg_sl ([.ref (A m_o), .int a1, .int a2]) ++ List.replicate (4 - (lg_sl ([.ref (A m_o), .int a1, .int a2])).length) Slot.unset).toArray = ls at hl ⊢
  have hl : lv_has ls 4 [(0, .ref (A m_o)), (1, .int a1), (2, .int a2)] := hl
  unfold f_X11_newCopy at h
  refine lv_bipush (v := (48 : Int32)) hx hb dX11_newCopy_0 (by decide) ?_
  refine lv_iload_n hx hb dX11_newCopy_2 rfl (lv_at hl 1 rfl) ?_
  refine lv_imul hx hb dX11_newCopy_3 ?_
  refine lv_iload_n hx hb dX11_newCopy_4 rfl (lv_at hl 2 rfl) ?_
  refine lv_iadd hx hb dX11_newCopy_5 ?_
  refine g_topi h (fun x1 h => ?_)
  refine lv_istore_n (lv' := [(3, .int x1), (0, .ref (A m_o)), (1, .int a1), (2, .int a2)]) hx hb dX11_newCopy_6 rfl hl (by decide) rfl (fun ls hl => ?_)
  refine lv_aload_n hx hb dX11_newCopy_7 rfl (lv_at hl 1 rfl) ?_
  refine mr_has S X Z hin hl_32 dX11_newCopy_8 ?_
  refine lv_iload_n hx hb dX11_newCopy_11 rfl (lv_at hl 0 rfl) ?_
  refine lv_iconst (v := (1 : Int32)) hx hb dX11_newCopy_12 (by decide) ?_
  refine g_zast S X Z ml_has rfl dX11_newCopy_13 h (fun M2 H locs Z h => ?_)
  refine lv_aload_n hx hb dX11_newCopy_14 rfl (lv_at hl 1 rfl) ?_
  refine mr_value S X Z hin hl_35 dX11_newCopy_15 ?_
  refine lv_iload_n hx hb dX11_newCopy_18 rfl (lv_at hl 0 rfl) ?_
  refine lv_iconst (v := (0 : Int32)) hx hb dX11_newCopy_19 (by decide) ?_
  refine g_iast S X Z ml_value rfl dX11_newCopy_20 h (fun M3 H locs Z h => ?_)
  refine lv_aload_n hx hb dX11_newCopy_21 rfl (lv_at hl 1 rfl) ?_
  refine mr_size S X Z hin hl_38 dX11_newCopy_22 ?_
  refine lv_iload_n hx hb dX11_newCopy_25 rfl (lv_at hl 0 rfl) ?_
  refine lv_iconst (v := (0 : Int32)) hx hb dX11_newCopy_26 (by decide) ?_
  refine g_iast S X Z ml_size rfl dX11_newCopy_27 h (fun M4 H locs Z h => ?_)
  refine lv_aload_n hx hb dX11_newCopy_28 rfl (lv_at hl 1 rfl) ?_
  refine mr_versions S X Z hin hl_44 dX11_newCopy_29 ?_
  refine lv_iload_n hx hb dX11_newCopy_32 rfl (lv_at hl 0 rfl) ?_
  refine lv_iconst (v := (0 : Int32)) hx hb dX11_newCopy_33 (by decide) ?_
  refine g_iast S X Z ml_versions rfl dX11_newCopy_34 h (fun M5 H locs Z h => ?_)
  refine lv_aload_n hx hb dX11_newCopy_35 rfl (lv_at hl 1 rfl) ?_
  refine lv_aload_n hx hb dX11_newCopy_36 rfl (lv_at hl 1 rfl) ?_
  refine mr_vector S X Z hin hl_41 dX11_newCopy_37 ?_
  refine lv_iload_n hx hb dX11_newCopy_40 rfl (lv_at hl 0 rfl) ?_
  obtain ⟨M7, hc6, h⟩ := o1_e h
  refine g_Vv (As := [.ref (A m_vector), .int x1]) (rest := []) S X Z mlv_o rfl rfl (t_X11_clearRow l D dA A hJ ⟨ml_vector, rfl⟩ hc6) (cwV 2 hts (mGV (mB 108 rfl) (mB 109 rfl) (mB 110 rfl) (mB 63 rfl) (mB 99 rfl)) rfl rfl rfl (by decide +kernel) ⟨Nat.le_of_ble_eq_true rfl, Nat.le_of_ble_eq_true rfl⟩) rfl hl.1 rfl (Nat.le_of_ble_eq_true rfl) dX11_newCopy_41 ⟨Nat.zero_le _, Nat.zero_le _⟩ (fun H locs Z => ?_)
  have hy := Option.some.inj h
  subst hy
  exact g_rv S Z hr hlocks dX11_newCopy_44
-- X11_forget (II)V: 50 instructions
theorem dX11_forget_0 : decode cX11_forget 0 = .ok (.aload_n 0, 1) := by decide +kernel
theorem dX11_forget_1 : decode cX11_forget 1 = .ok (.getfield 65, 3) := by decide +kernel
theorem dX11_forget_4 : decode cX11_forget 4 = .ok (.bipush 48, 2) := by decide +kernel
theorem dX11_forget_6 : decode cX11_forget 6 = .ok (.iload_n 1, 1) := by decide +kernel
theorem dX11_forget_7 : decode cX11_forget 7 = .ok (.imul, 1) := by decide +kernel
theorem dX11_forget_8 : decode cX11_forget 8 = .ok (.iload_n 2, 1) := by decide +kernel
theorem dX11_forget_9 : decode cX11_forget 9 = .ok (.iadd, 1) := by decide +kernel
theorem dX11_forget_10 : decode cX11_forget 10 = .ok (.iconst 0, 1) := by decide +kernel
theorem dX11_forget_11 : decode cX11_forget 11 = .ok (.bastore, 1) := by decide +kernel
theorem dX11_forget_12 : decode cX11_forget 12 = .ok (.aload_n 0, 1) := by decide +kernel
theorem dX11_forget_13 : decode cX11_forget 13 = .ok (.getfield 80, 3) := by decide +kernel
theorem dX11_forget_16 : decode cX11_forget 16 = .ok (.bipush 48, 2) := by decide +kernel
theorem dX11_forget_18 : decode cX11_forget 18 = .ok (.iload_n 1, 1) := by decide +kernel
theorem dX11_forget_19 : decode cX11_forget 19 = .ok (.imul, 1) := by decide +kernel
theorem dX11_forget_20 : decode cX11_forget 20 = .ok (.iload_n 2, 1) := by decide +kernel
theorem dX11_forget_21 : decode cX11_forget 21 = .ok (.iadd, 1) := by decide +kernel
theorem dX11_forget_22 : decode cX11_forget 22 = .ok (.iconst 0, 1) := by decide +kernel
theorem dX11_forget_23 : decode cX11_forget 23 = .ok (.bastore, 1) := by decide +kernel
theorem dX11_forget_24 : decode cX11_forget 24 = .ok (.aload_n 0, 1) := by decide +kernel
theorem dX11_forget_25 : decode cX11_forget 25 = .ok (.getfield 77, 3) := by decide +kernel
theorem dX11_forget_28 : decode cX11_forget 28 = .ok (.bipush 48, 2) := by decide +kernel
theorem dX11_forget_30 : decode cX11_forget 30 = .ok (.iload_n 1, 1) := by decide +kernel
theorem dX11_forget_31 : decode cX11_forget 31 = .ok (.imul, 1) := by decide +kernel
theorem dX11_forget_32 : decode cX11_forget 32 = .ok (.iload_n 2, 1) := by decide +kernel
theorem dX11_forget_33 : decode cX11_forget 33 = .ok (.iadd, 1) := by decide +kernel
theorem dX11_forget_34 : decode cX11_forget 34 = .ok (.iconst 0, 1) := by decide +kernel
theorem dX11_forget_35 : decode cX11_forget 35 = .ok (.iastore, 1) := by decide +kernel
theorem dX11_forget_36 : decode cX11_forget 36 = .ok (.iconst 1, 1) := by decide +kernel
theorem dX11_forget_37 : decode cX11_forget 37 = .ok (.istore_n 3, 1) := by decide +kernel
theorem dX11_forget_38 : decode cX11_forget 38 = .ok (.iload_n 3, 1) := by decide +kernel
theorem dX11_forget_39 : decode cX11_forget 39 = .ok (.aload_n 0, 1) := by decide +kernel
theorem dX11_forget_40 : decode cX11_forget 40 = .ok (.getfield 162, 3) := by decide +kernel
theorem dX11_forget_43 : decode cX11_forget 43 = .ok (.if_icmp .ge 30, 3) := by decide +kernel
theorem dX11_forget_46 : decode cX11_forget 46 = .ok (.aload_n 0, 1) := by decide +kernel
theorem dX11_forget_47 : decode cX11_forget 47 = .ok (.iload_n 3, 1) := by decide +kernel
theorem dX11_forget_48 : decode cX11_forget 48 = .ok (.iload_n 2, 1) := by decide +kernel
theorem dX11_forget_49 : decode cX11_forget 49 = .ok (.invokevirtual 197, 3) := by decide +kernel
theorem dX11_forget_52 : decode cX11_forget 52 = .ok (.ifCond .eq 15, 3) := by decide +kernel
theorem dX11_forget_55 : decode cX11_forget 55 = .ok (.aload_n 0, 1) := by decide +kernel
theorem dX11_forget_56 : decode cX11_forget 56 = .ok (.getfield 89, 3) := by decide +kernel
theorem dX11_forget_59 : decode cX11_forget 59 = .ok (.bipush 48, 2) := by decide +kernel
theorem dX11_forget_61 : decode cX11_forget 61 = .ok (.iload_n 1, 1) := by decide +kernel
theorem dX11_forget_62 : decode cX11_forget 62 = .ok (.imul, 1) := by decide +kernel
theorem dX11_forget_63 : decode cX11_forget 63 = .ok (.iload_n 3, 1) := by decide +kernel
theorem dX11_forget_64 : decode cX11_forget 64 = .ok (.iadd, 1) := by decide +kernel
theorem dX11_forget_65 : decode cX11_forget 65 = .ok (.iconst 0, 1) := by decide +kernel
theorem dX11_forget_66 : decode cX11_forget 66 = .ok (.iastore, 1) := by decide +kernel
theorem dX11_forget_67 : decode cX11_forget 67 = .ok (.iinc 3 1, 3) := by decide +kernel
theorem dX11_forget_70 : decode cX11_forget 70 = .ok (.goto (-32), 3) := by decide +kernel
theorem dX11_forget_73 : decode cX11_forget 73 = .ok (.return_, 1) := by decide +kernel
abbrev wmX11_forget : List Cond := .code yX11_forget cX11_forget 4 none :: mBig
def f_X11_forget_L38 (a1 : Int32) (a2 : Int32) : Nat → Int32 → gM → Option gM
  | 0, _, _ => none
  | n6 + 1, x4, M5 => lt (M5 m_o 6) (fun v7 => (if v7 ≤ x4 then some M5 else o1 (f_X11_isChild M5 x4 a2) (fun v10 => jn (fun (M11 : gM) => lt (x4 + 1) (fun x12 => f_X11_forget_L38 a1 a2 n6 x12 M11)) (fun J67 => (if v10 = 0 then J67 M5 else wr M5 m_keptEntry 192 (((48 : Int32) * a1) + x4) (0 : Int32) (fun M14 => J67 M14))))))
def f_X11_forget (M : gM) (a1 : Int32) (a2 : Int32) : Option gM :=
  wz M m_kept 192 (((48 : Int32) * a1) + a2) (0 : Int32) (fun M1 => wz M1 m_dirty 192 (((48 : Int32) * a1) + a2) (0 : Int32) (fun M2 => wr M2 m_promised 192 (((48 : Int32) * a1) + a2) (0 : Int32) (fun M3 => f_X11_forget_L38 a1 a2 100 (1 : Int32) M3)))
set_option maxHeartbeats 4000000 in
set_option maxRecDepth 100000 in
theorem t_X11_forget (l : Launch) (D : va_G) (dA : Nat → ClassId) (A : gI → Nat) (hJ : gJ mLive A) {M : gM} {a1 : Int32} {a2 : Int32}  {y : gM} (h : f_X11_forget M a1 a2 = some y) : mMv l yX11_forget wmX11_forget ({ frames := 1, cells := 0, slots := 0, locals := 22 } : Room) D dA A [.ref (A m_o), .int a1, .int a2] M y := by
  refine Met.ofW (cc := cX11_forget) (maxL := 4) (ret := none) (by decide) rfl ?_
  intro p e s m args below meth c s₁ B hml hv
  obtain ⟨rfl, hP, hK⟩ := hv
  generalize hargs : ([.ref (A m_o), .int a1, .int a2] : List Value).toArray = args at B ⊢
  have S : CallFix p m c cX11_forget 4 s args wmX11_forget RX11 := ⟨B.exec, B.bytes, hml, findClass_of_methodNamed B.named, atoms_spec (ws := wmX11_forget) B.pre⟩
  obtain ⟨hx, hb, -, hown, hts⟩ := id S
  have hr := B.returns
  have hlocks := B.notSynchronized
  have X : gX D vwCl dA mLive A (gA mLive A) s := ⟨hK, hJ, fun i hi => ⟨i, hi, rfl⟩⟩
  have Z : gZ D mLay dA mLive A (gA mLive A) s.heap M s.heap [] := ⟨hP, va_S.rf⟩
  have hin : ∀ w ∈ wsX110, w ∈ wmX11_forget := m_in
  have hl_65 := hts (.fieldLink RX11 65 "ReplicaFilesModel" "kept" "[Z") (mBc 23 rfl)
  have hl_77 := hts (.fieldLink RX11 77 "ReplicaFilesModel" "promised" "[I") (mBc 27 rfl)
  have hl_80 := hts (.fieldLink RX11 80 "ReplicaFilesModel" "dirty" "[Z") (mBc 28 rfl)
  have hl_89 := hts (.fieldLink RX11 89 "ReplicaFilesModel" "keptEntry" "[I") (mBc 31 rfl)
  have hl_162 := hts (.fieldLink RX11 162 "ReplicaFilesModel" "made" "I") (mBc 55 rfl)
  have hl := lv_entry ([.ref (A m_o), .int a1, .int a2]) (n := 4) (Nat.le_of_ble_eq_true rfl)
  rw [← hargs, lg_entry_eq, hargs]
  generalize (lg_sl ([.ref (A m_o), .int a1, .int a2]) ++ List.replicate (4 - (lg_sl ([.ref (A m_o), .int a1, .int a2])).length) Slot.unset).toArray = ls at hl ⊢
  have hl : lv_has ls 4 [(0, .ref (A m_o)), (1, .int a1), (2, .int a2)] := hl
  unfold f_X11_forget at h
  refine lv_aload_n hx hb dX11_forget_0 rfl (lv_at hl 0 rfl) ?_
  refine mr_kept S X Z hin hl_65 dX11_forget_1 ?_
  refine lv_bipush (v := (48 : Int32)) hx hb dX11_forget_4 (by decide) ?_
  refine lv_iload_n hx hb dX11_forget_6 rfl (lv_at hl 1 rfl) ?_
  refine lv_imul hx hb dX11_forget_7 ?_
  refine lv_iload_n hx hb dX11_forget_8 rfl (lv_at hl 2 rfl) ?_
  refine lv_iadd hx hb dX11_forget_9 ?_
  refine lv_iconst (v := (0 : Int32)) hx hb dX11_forget_10 (by decide) ?_
  refine g_zast S X Z ml_kept rfl dX11_forget_11 h (fun M1 H locs Z h => ?_)
  refine lv_aload_n hx hb dX11_forget_12 rfl (lv_at hl 0 rfl) ?_
  refine mr_dirty S X Z hin hl_80 dX11_forget_13 ?_
  refine lv_bipush (v := (48 : Int32)) hx hb dX11_forget_16 (by decide) ?_
  refine lv_iload_n hx hb dX11_forget_18 rfl (lv_at hl 1 rfl) ?_
  refine lv_imul hx hb dX11_forget_19 ?_
  refine lv_iload_n hx hb dX11_forget_20 rfl (lv_at hl 2 rfl) ?_
  refine lv_iadd hx hb dX11_forget_21 ?_
  refine lv_iconst (v := (0 : Int32)) hx hb dX11_forget_22 (by decide) ?_
  refine g_zast S X Z ml_dirty rfl dX11_forget_23 h (fun M2 H locs Z h => ?_)
  refine lv_aload_n hx hb dX11_forget_24 rfl (lv_at hl 0 rfl) ?_
  refine mr_promised S X Z hin hl_77 dX11_forget_25 ?_
  refine lv_bipush (v := (48 : Int32)) hx hb dX11_forget_28 (by decide) ?_
  refine lv_iload_n hx hb dX11_forget_30 rfl (lv_at hl 1 rfl) ?_
  refine lv_imul hx hb dX11_forget_31 ?_
  refine lv_iload_n hx hb dX11_forget_32 rfl (lv_at hl 2 rfl) ?_
  refine lv_iadd hx hb dX11_forget_33 ?_
  refine lv_iconst (v := (0 : Int32)) hx hb dX11_forget_34 (by decide) ?_
  refine g_iast S X Z ml_promised rfl dX11_forget_35 h (fun M3 H locs Z h => ?_)
  refine lv_iconst (v := (1 : Int32)) hx hb dX11_forget_36 (by decide) ?_
  refine lv_istore_n (lv' := [(3, .int (1 : Int32)), (0, .ref (A m_o)), (1, .int a1), (2, .int a2)]) hx hb dX11_forget_37 rfl hl (by decide) rfl (fun ls hl => ?_)
  have hL38 : ∀ (n : Nat) (x4 : Int32) (M5 : gM) (H : Heap) (locs : List Loc) (ls : Array Slot), gZ D mLay dA mLive A (gA mLive A) s.heap M5 H locs → lv_has ls 4 [(0, .ref (A m_o)), (1, .int a1), (2, .int a2), (3, .int x4)] → f_X11_forget_L38 a1 a2 n x4 M5 = some y → W p l e (headSpec wmX11_forget ({ frames := 1, cells := 0, slots := 0, locals := 22 } : Room)).room s m args below meth c H locs 0 0 (MQ below (mQv D dA A y) args s 0 0 (gA mLive A)) (F0 m 38 ls []) := by
    intro n
    induction n with
    | zero =>
      intro x4 M5 H locs ls Z hl h
      rw [f_X11_forget_L38] at h
      cases h
    | succ n6 ih38 =>
      intro x4 M5 H locs ls Z hl h
      rw [f_X11_forget_L38] at h
      refine lv_iload_n hx hb dX11_forget_38 rfl (lv_at hl 3 rfl) ?_
      refine lv_aload_n hx hb dX11_forget_39 rfl (lv_at hl 0 rfl) ?_
      refine mr_made S X Z hin hl_162 dX11_forget_40 h (fun v7 h => ?_)
      refine lv_icmp_ge (tgt := 73) hx hb dX11_forget_43 (by decide) (fun c8 => ?_) (fun c8 => ?_)
      · have h := if_t c8 h
        have hy := Option.some.inj h
        subst hy
        exact g_rv S Z hr hlocks dX11_forget_73
      · have h := if_f c8 h
        refine lv_aload_n hx hb dX11_forget_46 rfl (lv_at hl 0 rfl) ?_
        refine lv_iload_n hx hb dX11_forget_47 rfl (lv_at hl 3 rfl) ?_
        refine lv_iload_n hx hb dX11_forget_48 rfl (lv_at hl 2 rfl) ?_
        obtain ⟨v10, hc9, h⟩ := o1_e h
        refine g_Vi (As := [.int x4, .int a2]) (rest := []) S X Z mlv_o rfl rfl (t_X11_isChild l D dA A hJ  hc9) (cwV 2 hts (mGV (mB 104 rfl) (mB 105 rfl) (mB 106 rfl) (mB 63 rfl) (mB 102 rfl)) rfl rfl rfl (by decide +kernel) ⟨Nat.le_of_ble_eq_true rfl, Nat.le_of_ble_eq_true rfl⟩) rfl hl.1 rfl (Nat.le_of_ble_eq_true rfl) dX11_forget_49 ⟨Nat.zero_le _, Nat.zero_le _⟩ (fun H locs Z => ?_)
        obtain ⟨J67, eJ67, h⟩ := jn_e h
        have hJ67 : ∀ (M11 : gM) (H : Heap) (locs : List Loc) (ls : Array Slot), gZ D mLay dA mLive A (gA mLive A) s.heap M11 H locs → lv_has ls 4 [(0, .ref (A m_o)), (1, .int a1), (2, .int a2), (3, .int x4)] → J67 M11 = some y → W p l e (headSpec wmX11_forget ({ frames := 1, cells := 0, slots := 0, locals := 22 } : Room)).room s m args below meth c H locs 0 0 (MQ below (mQv D dA A y) args s 0 0 (gA mLive A)) (F0 m 67 ls []) := by
          intro M11 H locs ls Z hl h
          rw [eJ67] at h
          try dsimp only at h
          obtain ⟨x12, ex12, h⟩ := lt_e h
          refine lv_iinc (v := x12) (lv' := [(3, .int x12), (0, .ref (A m_o)), (1, .int a1), (2, .int a2)]) hx hb dX11_forget_67 hl (k := 3) rfl (by rw [ex12]; rfl) (by decide) rfl (fun ls hl => ?_)
          refine lv_goto (tgt := 38) hx hb dX11_forget_70 (by decide) ?_
          exact ih38 x12 M11 _ _ _ Z (lv_sub hl [1, 2, 3, 0] rfl) h
        refine lv_if_eq (tgt := 67) hx hb dX11_forget_52 (by decide) (fun c13 => ?_) (fun c13 => ?_)
        · have h := if_t c13 h
          exact hJ67 M5 _ _ _ Z (lv_sub hl [0, 1, 2, 3] rfl) h
        · have h := if_f c13 h
          refine lv_aload_n hx hb dX11_forget_55 rfl (lv_at hl 0 rfl) ?_
          refine mr_keptEntry S X Z hin hl_89 dX11_forget_56 ?_
          refine lv_bipush (v := (48 : Int32)) hx hb dX11_forget_59 (by decide) ?_
          refine lv_iload_n hx hb dX11_forget_61 rfl (lv_at hl 1 rfl) ?_
          refine lv_imul hx hb dX11_forget_62 ?_
          refine lv_iload_n hx hb dX11_forget_63 rfl (lv_at hl 3 rfl) ?_
          refine lv_iadd hx hb dX11_forget_64 ?_
          refine lv_iconst (v := (0 : Int32)) hx hb dX11_forget_65 (by decide) ?_
          refine g_iast S X Z ml_keptEntry rfl dX11_forget_66 h (fun M14 H locs Z h => ?_)
          exact hJ67 M14 _ _ _ Z (lv_sub hl [0, 1, 2, 3] rfl) h
  exact hL38 100 (1 : Int32) M3 _ _ _ Z (lv_sub hl [1, 2, 3, 0] rfl) h
-- X11_weight (II)I: 11 instructions
theorem dX11_weight_0 : decode cX11_weight 0 = .ok (.aload_n 0, 1) := by decide +kernel
theorem dX11_weight_1 : decode cX11_weight 1 = .ok (.getfield 29, 3) := by decide +kernel
theorem dX11_weight_4 : decode cX11_weight 4 = .ok (.iload_n 1, 1) := by decide +kernel
theorem dX11_weight_5 : decode cX11_weight 5 = .ok (.baload, 1) := by decide +kernel
theorem dX11_weight_6 : decode cX11_weight 6 = .ok (.ifCond .eq 7, 3) := by decide +kernel
theorem dX11_weight_9 : decode cX11_weight 9 = .ok (.iconst 2, 1) := by decide +kernel
theorem dX11_weight_10 : decode cX11_weight 10 = .ok (.goto 6, 3) := by decide +kernel
theorem dX11_weight_13 : decode cX11_weight 13 = .ok (.iconst 1, 1) := by decide +kernel
theorem dX11_weight_14 : decode cX11_weight 14 = .ok (.iload_n 2, 1) := by decide +kernel
theorem dX11_weight_15 : decode cX11_weight 15 = .ok (.iadd, 1) := by decide +kernel
theorem dX11_weight_16 : decode cX11_weight 16 = .ok (.ireturn, 1) := by decide +kernel
abbrev wmX11_weight : List Cond := .code yX11_weight cX11_weight 3 (some .int) :: mBig
def f_X11_weight (M : gM) (a1 : Int32) (a2 : Int32) : Option Int32 :=
  rd M m_isDirectory 48 a1 (fun v1 => (if v1 = 0 then some ((1 : Int32) + a2) else some (2 : Int32)))
set_option maxHeartbeats 4000000 in
set_option maxRecDepth 100000 in
theorem t_X11_weight (l : Launch) (D : va_G) (dA : Nat → ClassId) (A : gI → Nat) (hJ : gJ mLive A) {M : gM} {a1 : Int32} {a2 : Int32}  {y : Int32} (h : f_X11_weight M a1 a2 = some y) : mMi l yX11_weight wmX11_weight ({ frames := 0, cells := 0, slots := 0, locals := 0 } : Room) D dA A [.ref (A m_o), .int a1, .int a2] M y M := by
  refine Met.ofW (cc := cX11_weight) (maxL := 3) (ret := (some .int)) (by decide) rfl ?_
  intro p e s m args below meth c s₁ B hml hv
  obtain ⟨rfl, hP, hK⟩ := hv
  generalize hargs : ([.ref (A m_o), .int a1, .int a2] : List Value).toArray = args at B ⊢
  have S : CallFix p m c cX11_weight 3 s args wmX11_weight RX11 := ⟨B.exec, B.bytes, hml, findClass_of_methodNamed B.named, atoms_spec (ws := wmX11_weight) B.pre⟩
  obtain ⟨hx, hb, -, hown, hts⟩ := id S
  have hr := B.returns
  have hlocks := B.notSynchronized
  have X : gX D vwCl dA mLive A (gA mLive A) s := ⟨hK, hJ, fun i hi => ⟨i, hi, rfl⟩⟩
  have Z : gZ D mLay dA mLive A (gA mLive A) s.heap M s.heap [] := ⟨hP, va_S.rf⟩
  have hin : ∀ w ∈ wsX110, w ∈ wmX11_weight := m_in
  have hl_29 := hts (.fieldLink RX11 29 "ReplicaFilesModel" "isDirectory" "[Z") (mBc 11 rfl)
  have hl := lv_entry ([.ref (A m_o), .int a1, .int a2]) (n := 3) (Nat.le_of_ble_eq_true rfl)
  rw [← hargs, lg_entry_eq, hargs]
  generalize (lg_sl ([.ref (A m_o), .int a1, .int a2]) ++ List.replicate (3 - (lg_sl ([.ref (A m_o), .int a1, .int a2])).length) Slot.unset).toArray = ls at hl ⊢
  have hl : lv_has ls 3 [(0, .ref (A m_o)), (1, .int a1), (2, .int a2)] := hl
  unfold f_X11_weight at h
  refine lv_aload_n hx hb dX11_weight_0 rfl (lv_at hl 0 rfl) ?_
  refine mr_isDirectory S X Z hin hl_29 dX11_weight_1 ?_
  refine lv_iload_n hx hb dX11_weight_4 rfl (lv_at hl 1 rfl) ?_
  refine g_zald S X Z ml_isDirectory rfl dX11_weight_5 h (fun v1 h => ?_)
  refine lv_if_eq (tgt := 13) hx hb dX11_weight_6 (by decide) (fun c2 => ?_) (fun c2 => ?_)
  · have h := if_t c2 h
    refine lv_iconst (v := (1 : Int32)) hx hb dX11_weight_13 (by decide) ?_
    refine lv_iload_n hx hb dX11_weight_14 rfl (lv_at hl 2 rfl) ?_
    refine lv_iadd hx hb dX11_weight_15 ?_
    have hy := Option.some.inj h
    subst hy
    exact g_ri S Z hr hlocks dX11_weight_16
  · have h := if_f c2 h
    refine lv_iconst (v := (2 : Int32)) hx hb dX11_weight_9 (by decide) ?_
    refine lv_goto (tgt := 16) hx hb dX11_weight_10 (by decide) ?_
    have hy := Option.some.inj h
    subst hy
    exact g_ri S Z hr hlocks dX11_weight_16
-- X11_weightKept (II)I: 23 instructions
theorem dX11_weightKept_0 : decode cX11_weightKept 0 = .ok (.aload_n 0, 1) := by decide +kernel
theorem dX11_weightKept_1 : decode cX11_weightKept 1 = .ok (.getfield 65, 3) := by decide +kernel
theorem dX11_weightKept_4 : decode cX11_weightKept 4 = .ok (.bipush 48, 2) := by decide +kernel
theorem dX11_weightKept_6 : decode cX11_weightKept 6 = .ok (.iload_n 1, 1) := by decide +kernel
theorem dX11_weightKept_7 : decode cX11_weightKept 7 = .ok (.imul, 1) := by decide +kernel
theorem dX11_weightKept_8 : decode cX11_weightKept 8 = .ok (.iload_n 2, 1) := by decide +kernel
theorem dX11_weightKept_9 : decode cX11_weightKept 9 = .ok (.iadd, 1) := by decide +kernel
theorem dX11_weightKept_10 : decode cX11_weightKept 10 = .ok (.baload, 1) := by decide +kernel
theorem dX11_weightKept_11 : decode cX11_weightKept 11 = .ok (.ifCond .eq 22, 3) := by decide +kernel
theorem dX11_weightKept_14 : decode cX11_weightKept 14 = .ok (.aload_n 0, 1) := by decide +kernel
theorem dX11_weightKept_15 : decode cX11_weightKept 15 = .ok (.iload_n 2, 1) := by decide +kernel
theorem dX11_weightKept_16 : decode cX11_weightKept 16 = .ok (.aload_n 0, 1) := by decide +kernel
theorem dX11_weightKept_17 : decode cX11_weightKept 17 = .ok (.getfield 71, 3) := by decide +kernel
theorem dX11_weightKept_20 : decode cX11_weightKept 20 = .ok (.bipush 48, 2) := by decide +kernel
theorem dX11_weightKept_22 : decode cX11_weightKept 22 = .ok (.iload_n 1, 1) := by decide +kernel
theorem dX11_weightKept_23 : decode cX11_weightKept 23 = .ok (.imul, 1) := by decide +kernel
theorem dX11_weightKept_24 : decode cX11_weightKept 24 = .ok (.iload_n 2, 1) := by decide +kernel
theorem dX11_weightKept_25 : decode cX11_weightKept 25 = .ok (.iadd, 1) := by decide +kernel
theorem dX11_weightKept_26 : decode cX11_weightKept 26 = .ok (.iaload, 1) := by decide +kernel
theorem dX11_weightKept_27 : decode cX11_weightKept 27 = .ok (.invokevirtual 204, 3) := by decide +kernel
theorem dX11_weightKept_30 : decode cX11_weightKept 30 = .ok (.goto 4, 3) := by decide +kernel
theorem dX11_weightKept_33 : decode cX11_weightKept 33 = .ok (.iconst 0, 1) := by decide +kernel
theorem dX11_weightKept_34 : decode cX11_weightKept 34 = .ok (.ireturn, 1) := by decide +kernel
abbrev wmX11_weightKept : List Cond := .code yX11_weightKept cX11_weightKept 3 (some .int) :: mBig
def f_X11_weightKept (M : gM) (a1 : Int32) (a2 : Int32) : Option Int32 :=
  rd M m_kept 192 (((48 : Int32) * a1) + a2) (fun v1 => (if v1 = 0 then some (0 : Int32) else rd M m_keptSize 192 (((48 : Int32) * a1) + a2) (fun v3 => o1 (f_X11_weight M a2 v3) (fun v5 => some v5))))
set_option maxHeartbeats 4000000 in
set_option maxRecDepth 100000 in
theorem t_X11_weightKept (l : Launch) (D : va_G) (dA : Nat → ClassId) (A : gI → Nat) (hJ : gJ mLive A) {M : gM} {a1 : Int32} {a2 : Int32}  {y : Int32} (h : f_X11_weightKept M a1 a2 = some y) : mMi l yX11_weightKept wmX11_weightKept ({ frames := 1, cells := 0, slots := 0, locals := 22 } : Room) D dA A [.ref (A m_o), .int a1, .int a2] M y M := by
  refine Met.ofW (cc := cX11_weightKept) (maxL := 3) (ret := (some .int)) (by decide) rfl ?_
  intro p e s m args below meth c s₁ B hml hv
  obtain ⟨rfl, hP, hK⟩ := hv
  generalize hargs : ([.ref (A m_o), .int a1, .int a2] : List Value).toArray = args at B ⊢
  have S : CallFix p m c cX11_weightKept 3 s args wmX11_weightKept RX11 := ⟨B.exec, B.bytes, hml, findClass_of_methodNamed B.named, atoms_spec (ws := wmX11_weightKept) B.pre⟩
  obtain ⟨hx, hb, -, hown, hts⟩ := id S
  have hr := B.returns
  have hlocks := B.notSynchronized
  have X : gX D vwCl dA mLive A (gA mLive A) s := ⟨hK, hJ, fun i hi => ⟨i, hi, rfl⟩⟩
  have Z : gZ D mLay dA mLive A (gA mLive A) s.heap M s.heap [] := ⟨hP, va_S.rf⟩
  have hin : ∀ w ∈ wsX110, w ∈ wmX11_weightKept := m_in
  have hl_65 := hts (.fieldLink RX11 65 "ReplicaFilesModel" "kept" "[Z") (mBc 23 rfl)
  have hl_71 := hts (.fieldLink RX11 71 "ReplicaFilesModel" "keptSize" "[I") (mBc 25 rfl)
  have hl := lv_entry ([.ref (A m_o), .int a1, .int a2]) (n := 3) (Nat.le_of_ble_eq_true rfl)
  rw [← hargs, lg_entry_eq, hargs]
  generalize (lg_sl ([.ref (A m_o), .int a1, .int a2]) ++ List.replicate (3 - (lg_sl ([.ref (A m_o), .int a1, .int a2])).length) Slot.unset).toArray = ls at hl ⊢
  have hl : lv_has ls 3 [(0, .ref (A m_o)), (1, .int a1), (2, .int a2)] := hl
  unfold f_X11_weightKept at h
  refine lv_aload_n hx hb dX11_weightKept_0 rfl (lv_at hl 0 rfl) ?_
  refine mr_kept S X Z hin hl_65 dX11_weightKept_1 ?_
  refine lv_bipush (v := (48 : Int32)) hx hb dX11_weightKept_4 (by decide) ?_
  refine lv_iload_n hx hb dX11_weightKept_6 rfl (lv_at hl 1 rfl) ?_
  refine lv_imul hx hb dX11_weightKept_7 ?_
  refine lv_iload_n hx hb dX11_weightKept_8 rfl (lv_at hl 2 rfl) ?_
  refine lv_iadd hx hb dX11_weightKept_9 ?_
  refine g_zald S X Z ml_kept rfl dX11_weightKept_10 h (fun v1 h => ?_)
  refine lv_if_eq (tgt := 33) hx hb dX11_weightKept_11 (by decide) (fun c2 => ?_) (fun c2 => ?_)
  · have h := if_t c2 h
    refine lv_iconst (v := (0 : Int32)) hx hb dX11_weightKept_33 (by decide) ?_
    have hy := Option.some.inj h
    subst hy
    exact g_ri S Z hr hlocks dX11_weightKept_34
  · have h := if_f c2 h
    refine lv_aload_n hx hb dX11_weightKept_14 rfl (lv_at hl 0 rfl) ?_
    refine lv_iload_n hx hb dX11_weightKept_15 rfl (lv_at hl 2 rfl) ?_
    refine lv_aload_n hx hb dX11_weightKept_16 rfl (lv_at hl 0 rfl) ?_
    refine mr_keptSize S X Z hin hl_71 dX11_weightKept_17 ?_
    refine lv_bipush (v := (48 : Int32)) hx hb dX11_weightKept_20 (by decide) ?_
    refine lv_iload_n hx hb dX11_weightKept_22 rfl (lv_at hl 1 rfl) ?_
    refine lv_imul hx hb dX11_weightKept_23 ?_
    refine lv_iload_n hx hb dX11_weightKept_24 rfl (lv_at hl 2 rfl) ?_
    refine lv_iadd hx hb dX11_weightKept_25 ?_
    refine g_iald S X Z ml_keptSize rfl dX11_weightKept_26 h (fun v3 h => ?_)
    obtain ⟨v5, hc4, h⟩ := o1_e h
    refine g_Vi (As := [.int a2, .int v3]) (rest := []) S X Z mlv_o rfl rfl (t_X11_weight l D dA A hJ  hc4) (cwV 2 hts (mGV (mB 114 rfl) (mB 115 rfl) (mB 116 rfl) (mB 63 rfl) (mB 112 rfl)) rfl rfl rfl (by decide +kernel) ⟨Nat.le_of_ble_eq_true rfl, Nat.le_of_ble_eq_true rfl⟩) rfl hl.1 rfl (Nat.le_of_ble_eq_true rfl) dX11_weightKept_27 ⟨Nat.zero_le _, Nat.zero_le _⟩ (fun H locs Z => ?_)
    refine lv_goto (tgt := 34) hx hb dX11_weightKept_30 (by decide) ?_
    have hy := Option.some.inj h
    subst hy
    exact g_ri S Z hr hlocks dX11_weightKept_34
-- X11_use (II)V: 27 instructions
theorem dX11_use_0 : decode cX11_use 0 = .ok (.aload_n 0, 1) := by decide +kernel
theorem dX11_use_1 : decode cX11_use 1 = .ok (.dup, 1) := by decide +kernel
theorem dX11_use_2 : decode cX11_use 2 = .ok (.getfield 208, 3) := by decide +kernel
theorem dX11_use_5 : decode cX11_use 5 = .ok (.iconst 1, 1) := by decide +kernel
theorem dX11_use_6 : decode cX11_use 6 = .ok (.iadd, 1) := by decide +kernel
theorem dX11_use_7 : decode cX11_use 7 = .ok (.putfield 208, 3) := by decide +kernel
theorem dX11_use_10 : decode cX11_use 10 = .ok (.aload_n 0, 1) := by decide +kernel
theorem dX11_use_11 : decode cX11_use 11 = .ok (.getfield 83, 3) := by decide +kernel
theorem dX11_use_14 : decode cX11_use 14 = .ok (.bipush 48, 2) := by decide +kernel
theorem dX11_use_16 : decode cX11_use 16 = .ok (.iload_n 1, 1) := by decide +kernel
theorem dX11_use_17 : decode cX11_use 17 = .ok (.imul, 1) := by decide +kernel
theorem dX11_use_18 : decode cX11_use 18 = .ok (.iload_n 2, 1) := by decide +kernel
theorem dX11_use_19 : decode cX11_use 19 = .ok (.iadd, 1) := by decide +kernel
theorem dX11_use_20 : decode cX11_use 20 = .ok (.aload_n 0, 1) := by decide +kernel
theorem dX11_use_21 : decode cX11_use 21 = .ok (.getfield 208, 3) := by decide +kernel
theorem dX11_use_24 : decode cX11_use 24 = .ok (.iastore, 1) := by decide +kernel
theorem dX11_use_25 : decode cX11_use 25 = .ok (.aload_n 0, 1) := by decide +kernel
theorem dX11_use_26 : decode cX11_use 26 = .ok (.getfield 86, 3) := by decide +kernel
theorem dX11_use_29 : decode cX11_use 29 = .ok (.bipush 48, 2) := by decide +kernel
theorem dX11_use_31 : decode cX11_use 31 = .ok (.iload_n 1, 1) := by decide +kernel
theorem dX11_use_32 : decode cX11_use 32 = .ok (.imul, 1) := by decide +kernel
theorem dX11_use_33 : decode cX11_use 33 = .ok (.iload_n 2, 1) := by decide +kernel
theorem dX11_use_34 : decode cX11_use 34 = .ok (.iadd, 1) := by decide +kernel
theorem dX11_use_35 : decode cX11_use 35 = .ok (.aload_n 0, 1) := by decide +kernel
theorem dX11_use_36 : decode cX11_use 36 = .ok (.getfield 211, 3) := by decide +kernel
theorem dX11_use_39 : decode cX11_use 39 = .ok (.iastore, 1) := by decide +kernel
theorem dX11_use_40 : decode cX11_use 40 = .ok (.return_, 1) := by decide +kernel
abbrev wmX11_use : List Cond := .code yX11_use cX11_use 3 none :: mBig
def f_X11_use (M : gM) (a1 : Int32) (a2 : Int32) : Option gM :=
  lt (M m_o 32) (fun v1 => lt (gset M m_o 32 (v1 + (1 : Int32))) (fun M2 => lt (M2 m_o 32) (fun v3 => wr M2 m_usedAt 192 (((48 : Int32) * a1) + a2) v3 (fun M4 => lt (M4 m_o 33) (fun v5 => wr M4 m_usedBy 192 (((48 : Int32) * a1) + a2) v5 (fun M6 => some M6))))))
set_option maxHeartbeats 4000000 in
set_option maxRecDepth 100000 in
theorem t_X11_use (l : Launch) (D : va_G) (dA : Nat → ClassId) (A : gI → Nat) (hJ : gJ mLive A) {M : gM} {a1 : Int32} {a2 : Int32}  {y : gM} (h : f_X11_use M a1 a2 = some y) : mMv l yX11_use wmX11_use ({ frames := 0, cells := 0, slots := 0, locals := 0 } : Room) D dA A [.ref (A m_o), .int a1, .int a2] M y := by
  refine Met.ofW (cc := cX11_use) (maxL := 3) (ret := none) (by decide) rfl ?_
  intro p e s m args below meth c s₁ B hml hv
  obtain ⟨rfl, hP, hK⟩ := hv
  generalize hargs : ([.ref (A m_o), .int a1, .int a2] : List Value).toArray = args at B ⊢
  have S : CallFix p m c cX11_use 3 s args wmX11_use RX11 := ⟨B.exec, B.bytes, hml, findClass_of_methodNamed B.named, atoms_spec (ws := wmX11_use) B.pre⟩
  obtain ⟨hx, hb, -, hown, hts⟩ := id S
  have hr := B.returns
  have hlocks := B.notSynchronized
  have X : gX D vwCl dA mLive A (gA mLive A) s := ⟨hK, hJ, fun i hi => ⟨i, hi, rfl⟩⟩
  have Z : gZ D mLay dA mLive A (gA mLive A) s.heap M s.heap [] := ⟨hP, va_S.rf⟩
  have hin : ∀ w ∈ wsX110, w ∈ wmX11_use := m_in
  have hl_83 := hts (.fieldLink RX11 83 "ReplicaFilesModel" "usedAt" "[I") (mBc 29 rfl)
  have hl_86 := hts (.fieldLink RX11 86 "ReplicaFilesModel" "usedBy" "[I") (mBc 30 rfl)
  have hl_208 := hts (.fieldLink RX11 208 "ReplicaFilesModel" "clock" "I") (mBc 118 rfl)
  have hl_211 := hts (.fieldLink RX11 211 "ReplicaFilesModel" "call" "I") (mBc 119 rfl)
  have hl := lv_entry ([.ref (A m_o), .int a1, .int a2]) (n := 3) (Nat.le_of_ble_eq_true rfl)
  rw [← hargs, lg_entry_eq, hargs]
  generalize (lg_sl ([.ref (A m_o), .int a1, .int a2]) ++ List.replicate (3 - (lg_sl ([.ref (A m_o), .int a1, .int a2])).length) Slot.unset).toArray = ls at hl ⊢
  have hl : lv_has ls 3 [(0, .ref (A m_o)), (1, .int a1), (2, .int a2)] := hl
  unfold f_X11_use at h
  refine lv_aload_n hx hb dX11_use_0 rfl (lv_at hl 0 rfl) ?_
  refine lv_dup hx hb dX11_use_1 rfl ?_
  refine mr_clock S X Z hin hl_208 dX11_use_2 h (fun v1 h => ?_)
  refine lv_iconst (v := (1 : Int32)) hx hb dX11_use_5 (by decide) ?_
  refine lv_iadd hx hb dX11_use_6 ?_
  refine mp_clock S X Z hin hl_208 dX11_use_7 h (fun M2 H locs Z h => ?_)
  refine lv_aload_n hx hb dX11_use_10 rfl (lv_at hl 0 rfl) ?_
  refine mr_usedAt S X Z hin hl_83 dX11_use_11 ?_
  refine lv_bipush (v := (48 : Int32)) hx hb dX11_use_14 (by decide) ?_
  refine lv_iload_n hx hb dX11_use_16 rfl (lv_at hl 1 rfl) ?_
  refine lv_imul hx hb dX11_use_17 ?_
  refine lv_iload_n hx hb dX11_use_18 rfl (lv_at hl 2 rfl) ?_
  refine lv_iadd hx hb dX11_use_19 ?_
  refine lv_aload_n hx hb dX11_use_20 rfl (lv_at hl 0 rfl) ?_
  refine mr_clock S X Z hin hl_208 dX11_use_21 h (fun v3 h => ?_)
  refine g_iast S X Z ml_usedAt rfl dX11_use_24 h (fun M4 H locs Z h => ?_)
  refine lv_aload_n hx hb dX11_use_25 rfl (lv_at hl 0 rfl) ?_
  refine mr_usedBy S X Z hin hl_86 dX11_use_26 ?_
  refine lv_bipush (v := (48 : Int32)) hx hb dX11_use_29 (by decide) ?_
  refine lv_iload_n hx hb dX11_use_31 rfl (lv_at hl 1 rfl) ?_
  refine lv_imul hx hb dX11_use_32 ?_
  refine lv_iload_n hx hb dX11_use_33 rfl (lv_at hl 2 rfl) ?_
  refine lv_iadd hx hb dX11_use_34 ?_
  refine lv_aload_n hx hb dX11_use_35 rfl (lv_at hl 0 rfl) ?_
  refine mr_call S X Z hin hl_211 dX11_use_36 h (fun v5 h => ?_)
  refine g_iast S X Z ml_usedBy rfl dX11_use_39 h (fun M6 H locs Z h => ?_)
  have hy := Option.some.inj h
  subst hy
  exact g_rv S Z hr hlocks dX11_use_40
-- X11_mayGo (IIII)Z: 36 instructions
theorem dX11_mayGo_0 : decode cX11_mayGo 0 = .ok (.bipush 48, 2) := by decide +kernel
theorem dX11_mayGo_2 : decode cX11_mayGo 2 = .ok (.iload_n 1, 1) := by decide +kernel
theorem dX11_mayGo_3 : decode cX11_mayGo 3 = .ok (.imul, 1) := by decide +kernel
theorem dX11_mayGo_4 : decode cX11_mayGo 4 = .ok (.iload_n 2, 1) := by decide +kernel
theorem dX11_mayGo_5 : decode cX11_mayGo 5 = .ok (.iadd, 1) := by decide +kernel
theorem dX11_mayGo_6 : decode cX11_mayGo 6 = .ok (.istore 5, 2) := by decide +kernel
theorem dX11_mayGo_8 : decode cX11_mayGo 8 = .ok (.aload_n 0, 1) := by decide +kernel
theorem dX11_mayGo_9 : decode cX11_mayGo 9 = .ok (.getfield 65, 3) := by decide +kernel
theorem dX11_mayGo_12 : decode cX11_mayGo 12 = .ok (.iload 5, 2) := by decide +kernel
theorem dX11_mayGo_14 : decode cX11_mayGo 14 = .ok (.baload, 1) := by decide +kernel
theorem dX11_mayGo_15 : decode cX11_mayGo 15 = .ok (.ifCond .eq 48, 3) := by decide +kernel
theorem dX11_mayGo_18 : decode cX11_mayGo 18 = .ok (.aload_n 0, 1) := by decide +kernel
theorem dX11_mayGo_19 : decode cX11_mayGo 19 = .ok (.getfield 80, 3) := by decide +kernel
theorem dX11_mayGo_22 : decode cX11_mayGo 22 = .ok (.iload 5, 2) := by decide +kernel
theorem dX11_mayGo_24 : decode cX11_mayGo 24 = .ok (.baload, 1) := by decide +kernel
theorem dX11_mayGo_25 : decode cX11_mayGo 25 = .ok (.ifCond .ne 38, 3) := by decide +kernel
theorem dX11_mayGo_28 : decode cX11_mayGo 28 = .ok (.aload_n 0, 1) := by decide +kernel
theorem dX11_mayGo_29 : decode cX11_mayGo 29 = .ok (.getfield 86, 3) := by decide +kernel
theorem dX11_mayGo_32 : decode cX11_mayGo 32 = .ok (.iload 5, 2) := by decide +kernel
theorem dX11_mayGo_34 : decode cX11_mayGo 34 = .ok (.iaload, 1) := by decide +kernel
theorem dX11_mayGo_35 : decode cX11_mayGo 35 = .ok (.aload_n 0, 1) := by decide +kernel
theorem dX11_mayGo_36 : decode cX11_mayGo 36 = .ok (.getfield 211, 3) := by decide +kernel
theorem dX11_mayGo_39 : decode cX11_mayGo 39 = .ok (.if_icmp .eq 24, 3) := by decide +kernel
theorem dX11_mayGo_42 : decode cX11_mayGo 42 = .ok (.iload_n 2, 1) := by decide +kernel
theorem dX11_mayGo_43 : decode cX11_mayGo 43 = .ok (.iload_n 3, 1) := by decide +kernel
theorem dX11_mayGo_44 : decode cX11_mayGo 44 = .ok (.if_icmp .eq 19, 3) := by decide +kernel
theorem dX11_mayGo_47 : decode cX11_mayGo 47 = .ok (.aload_n 0, 1) := by decide +kernel
theorem dX11_mayGo_48 : decode cX11_mayGo 48 = .ok (.getfield 95, 3) := by decide +kernel
theorem dX11_mayGo_51 : decode cX11_mayGo 51 = .ok (.iload 5, 2) := by decide +kernel
theorem dX11_mayGo_53 : decode cX11_mayGo 53 = .ok (.iaload, 1) := by decide +kernel
theorem dX11_mayGo_54 : decode cX11_mayGo 54 = .ok (.iload 4, 2) := by decide +kernel
theorem dX11_mayGo_56 : decode cX11_mayGo 56 = .ok (.if_icmp .ge 7, 3) := by decide +kernel
theorem dX11_mayGo_59 : decode cX11_mayGo 59 = .ok (.iconst 1, 1) := by decide +kernel
theorem dX11_mayGo_60 : decode cX11_mayGo 60 = .ok (.goto 4, 3) := by decide +kernel
theorem dX11_mayGo_63 : decode cX11_mayGo 63 = .ok (.iconst 0, 1) := by decide +kernel
theorem dX11_mayGo_64 : decode cX11_mayGo 64 = .ok (.ireturn, 1) := by decide +kernel
abbrev wmX11_mayGo : List Cond := .code yX11_mayGo cX11_mayGo 6 (some .boolean) :: mBig
def f_X11_mayGo (M : gM) (a1 : Int32) (a2 : Int32) (a3 : Int32) (a4 : Int32) : Option Int32 :=
  lt ((((48 : Int32) * a1) + a2)) (fun x1 => rd M m_kept 192 x1 (fun v2 => (if v2 = 0 then some (0 : Int32) else rd M m_dirty 192 x1 (fun v4 => (if v4 = 0 then rd M m_usedBy 192 x1 (fun v6 => lt (M m_o 33) (fun v7 => (if v6 = v7 then some (0 : Int32) else (if a2 = a3 then some (0 : Int32) else rd M m_priorities 192 x1 (fun v10 => (if a4 ≤ v10 then some (0 : Int32) else some (1 : Int32))))))) else some (0 : Int32))))))
set_option maxHeartbeats 4000000 in
set_option maxRecDepth 100000 in
theorem t_X11_mayGo (l : Launch) (D : va_G) (dA : Nat → ClassId) (A : gI → Nat) (hJ : gJ mLive A) {M : gM} {a1 : Int32} {a2 : Int32} {a3 : Int32} {a4 : Int32}  {y : Int32} (h : f_X11_mayGo M a1 a2 a3 a4 = some y) : mMi l yX11_mayGo wmX11_mayGo ({ frames := 0, cells := 0, slots := 0, locals := 0 } : Room) D dA A [.ref (A m_o), .int a1, .int a2, .int a3, .int a4] M y M := by
  refine Met.ofW (cc := cX11_mayGo) (maxL := 6) (ret := (some .boolean)) (by decide) rfl ?_
  intro p e s m args below meth c s₁ B hml hv
  obtain ⟨rfl, hP, hK⟩ := hv
  generalize hargs : ([.ref (A m_o), .int a1, .int a2, .int a3, .int a4] : List Value).toArray = args at B ⊢
  have S : CallFix p m c cX11_mayGo 6 s args wmX11_mayGo RX11 := ⟨B.exec, B.bytes, hml, findClass_of_methodNamed B.named, atoms_spec (ws := wmX11_mayGo) B.pre⟩
  obtain ⟨hx, hb, -, hown, hts⟩ := id S
  have hr := B.returns
  have hlocks := B.notSynchronized
  have X : gX D vwCl dA mLive A (gA mLive A) s := ⟨hK, hJ, fun i hi => ⟨i, hi, rfl⟩⟩
  have Z : gZ D mLay dA mLive A (gA mLive A) s.heap M s.heap [] := ⟨hP, va_S.rf⟩
  have hin : ∀ w ∈ wsX110, w ∈ wmX11_mayGo := m_in
  have hl_65 := hts (.fieldLink RX11 65 "ReplicaFilesModel" "kept" "[Z") (mBc 23 rfl)
  have hl_80 := hts (.fieldLink RX11 80 "ReplicaFilesModel" "dirty" "[Z") (mBc 28 rfl)
  have hl_86 := hts (.fieldLink RX11 86 "ReplicaFilesModel" "usedBy" "[I") (mBc 30 rfl)
  have hl_95 := hts (.fieldLink RX11 95 "ReplicaFilesModel" "priorities" "[I") (mBc 33 rfl)
  have hl_211 := hts (.fieldLink RX11 211 "ReplicaFilesModel" "call" "I") (mBc 119 rfl)
  have hl := lv_entry ([.ref (A m_o), .int a1, .int a2, .int a3, .int a4]) (n := 6) (Nat.le_of_ble_eq_true rfl)
  rw [← hargs, lg_entry_eq, hargs]
  generalize (lg_sl ([.ref (A m_o), .int a1, .int a2, .int a3, .int a4]) ++ List.replicate (6 - (lg_sl ([.ref (A m_o), .int a1, .int a2, .int a3, .int a4])).length) Slot.unset).toArray = ls at hl ⊢
  have hl : lv_has ls 6 [(0, .ref (A m_o)), (1, .int a1), (2, .int a2), (3, .int a3), (4, .int a4)] := hl
  unfold f_X11_mayGo at h
  refine lv_bipush (v := (48 : Int32)) hx hb dX11_mayGo_0 (by decide) ?_
  refine lv_iload_n hx hb dX11_mayGo_2 rfl (lv_at hl 1 rfl) ?_
  refine lv_imul hx hb dX11_mayGo_3 ?_
  refine lv_iload_n hx hb dX11_mayGo_4 rfl (lv_at hl 2 rfl) ?_
  refine lv_iadd hx hb dX11_mayGo_5 ?_
  refine g_topi h (fun x1 h => ?_)
  refine lv_istore (lv' := [(5, .int x1), (0, .ref (A m_o)), (1, .int a1), (2, .int a2), (3, .int a3), (4, .int a4)]) hx hb dX11_mayGo_6 hl (by decide) rfl (fun ls hl => ?_)
  refine lv_aload_n hx hb dX11_mayGo_8 rfl (lv_at hl 1 rfl) ?_
  refine mr_kept S X Z hin hl_65 dX11_mayGo_9 ?_
  refine lv_iload hx hb dX11_mayGo_12 (lv_at hl 0 rfl) ?_
  refine g_zald S X Z ml_kept rfl dX11_mayGo_14 h (fun v2 h => ?_)
  refine lv_if_eq (tgt := 63) hx hb dX11_mayGo_15 (by decide) (fun c3 => ?_) (fun c3 => ?_)
  · have h := if_t c3 h
    refine lv_iconst (v := (0 : Int32)) hx hb dX11_mayGo_63 (by decide) ?_
    have hy := Option.some.inj h
    subst hy
    exact g_rz (Or.inl rfl) S Z hr hlocks dX11_mayGo_64
  · have h := if_f c3 h
    refine lv_aload_n hx hb dX11_mayGo_18 rfl (lv_at hl 1 rfl) ?_
    refine mr_dirty S X Z hin hl_80 dX11_mayGo_19 ?_
    refine lv_iload hx hb dX11_mayGo_22 (lv_at hl 0 rfl) ?_
    refine g_zald S X Z ml_dirty rfl dX11_mayGo_24 h (fun v4 h => ?_)
    refine lv_if_ne (tgt := 63) hx hb dX11_mayGo_25 (by decide) (fun c5 => ?_) (fun c5 => ?_)
    · have h := if_f c5 h
      refine lv_iconst (v := (0 : Int32)) hx hb dX11_mayGo_63 (by decide) ?_
      have hy := Option.some.inj h
      subst hy
      exact g_rz (Or.inl rfl) S Z hr hlocks dX11_mayGo_64
    · have h := if_t c5 h
      refine lv_aload_n hx hb dX11_mayGo_28 rfl (lv_at hl 1 rfl) ?_
      refine mr_usedBy S X Z hin hl_86 dX11_mayGo_29 ?_
      refine lv_iload hx hb dX11_mayGo_32 (lv_at hl 0 rfl) ?_
      refine g_iald S X Z ml_usedBy rfl dX11_mayGo_34 h (fun v6 h => ?_)
      refine lv_aload_n hx hb dX11_mayGo_35 rfl (lv_at hl 1 rfl) ?_
      refine mr_call S X Z hin hl_211 dX11_mayGo_36 h (fun v7 h => ?_)
      refine lv_icmp_eq (tgt := 63) hx hb dX11_mayGo_39 (by decide) (fun c8 => ?_) (fun c8 => ?_)
      · have h := if_t c8 h
        refine lv_iconst (v := (0 : Int32)) hx hb dX11_mayGo_63 (by decide) ?_
        have hy := Option.some.inj h
        subst hy
        exact g_rz (Or.inl rfl) S Z hr hlocks dX11_mayGo_64
      · have h := if_f c8 h
        refine lv_iload_n hx hb dX11_mayGo_42 rfl (lv_at hl 3 rfl) ?_
        refine lv_iload_n hx hb dX11_mayGo_43 rfl (lv_at hl 4 rfl) ?_
        refine lv_icmp_eq (tgt := 63) hx hb dX11_mayGo_44 (by decide) (fun c9 => ?_) (fun c9 => ?_)
        · have h := if_t c9 h
          refine lv_iconst (v := (0 : Int32)) hx hb dX11_mayGo_63 (by decide) ?_
          have hy := Option.some.inj h
          subst hy
          exact g_rz (Or.inl rfl) S Z hr hlocks dX11_mayGo_64
        · have h := if_f c9 h
          refine lv_aload_n hx hb dX11_mayGo_47 rfl (lv_at hl 1 rfl) ?_
          refine mr_priorities S X Z hin hl_95 dX11_mayGo_48 ?_
          refine lv_iload hx hb dX11_mayGo_51 (lv_at hl 0 rfl) ?_
          refine g_iald S X Z ml_priorities rfl dX11_mayGo_53 h (fun v10 h => ?_)
          refine lv_iload hx hb dX11_mayGo_54 (lv_at hl 5 rfl) ?_
          refine lv_icmp_ge (tgt := 63) hx hb dX11_mayGo_56 (by decide) (fun c11 => ?_) (fun c11 => ?_)
          · have h := if_t c11 h
            refine lv_iconst (v := (0 : Int32)) hx hb dX11_mayGo_63 (by decide) ?_
            have hy := Option.some.inj h
            subst hy
            exact g_rz (Or.inl rfl) S Z hr hlocks dX11_mayGo_64
          · have h := if_f c11 h
            refine lv_iconst (v := (1 : Int32)) hx hb dX11_mayGo_59 (by decide) ?_
            refine lv_goto (tgt := 64) hx hb dX11_mayGo_60 (by decide) ?_
            have hy := Option.some.inj h
            subst hy
            exact g_rz (Or.inr rfl) S Z hr hlocks dX11_mayGo_64
-- X11_goesBefore (II)Z: 35 instructions
theorem dX11_goesBefore_0 : decode cX11_goesBefore 0 = .ok (.aload_n 0, 1) := by decide +kernel
theorem dX11_goesBefore_1 : decode cX11_goesBefore 1 = .ok (.getfield 95, 3) := by decide +kernel
theorem dX11_goesBefore_4 : decode cX11_goesBefore 4 = .ok (.iload_n 1, 1) := by decide +kernel
theorem dX11_goesBefore_5 : decode cX11_goesBefore 5 = .ok (.iaload, 1) := by decide +kernel
theorem dX11_goesBefore_6 : decode cX11_goesBefore 6 = .ok (.aload_n 0, 1) := by decide +kernel
theorem dX11_goesBefore_7 : decode cX11_goesBefore 7 = .ok (.getfield 95, 3) := by decide +kernel
theorem dX11_goesBefore_10 : decode cX11_goesBefore 10 = .ok (.iload_n 2, 1) := by decide +kernel
theorem dX11_goesBefore_11 : decode cX11_goesBefore 11 = .ok (.iaload, 1) := by decide +kernel
theorem dX11_goesBefore_12 : decode cX11_goesBefore 12 = .ok (.if_icmp .eq 26, 3) := by decide +kernel
theorem dX11_goesBefore_15 : decode cX11_goesBefore 15 = .ok (.aload_n 0, 1) := by decide +kernel
theorem dX11_goesBefore_16 : decode cX11_goesBefore 16 = .ok (.getfield 95, 3) := by decide +kernel
theorem dX11_goesBefore_19 : decode cX11_goesBefore 19 = .ok (.iload_n 1, 1) := by decide +kernel
theorem dX11_goesBefore_20 : decode cX11_goesBefore 20 = .ok (.iaload, 1) := by decide +kernel
theorem dX11_goesBefore_21 : decode cX11_goesBefore 21 = .ok (.aload_n 0, 1) := by decide +kernel
theorem dX11_goesBefore_22 : decode cX11_goesBefore 22 = .ok (.getfield 95, 3) := by decide +kernel
theorem dX11_goesBefore_25 : decode cX11_goesBefore 25 = .ok (.iload_n 2, 1) := by decide +kernel
theorem dX11_goesBefore_26 : decode cX11_goesBefore 26 = .ok (.iaload, 1) := by decide +kernel
theorem dX11_goesBefore_27 : decode cX11_goesBefore 27 = .ok (.if_icmp .ge 7, 3) := by decide +kernel
theorem dX11_goesBefore_30 : decode cX11_goesBefore 30 = .ok (.iconst 1, 1) := by decide +kernel
theorem dX11_goesBefore_31 : decode cX11_goesBefore 31 = .ok (.goto 27, 3) := by decide +kernel
theorem dX11_goesBefore_34 : decode cX11_goesBefore 34 = .ok (.iconst 0, 1) := by decide +kernel
theorem dX11_goesBefore_35 : decode cX11_goesBefore 35 = .ok (.goto 23, 3) := by decide +kernel
theorem dX11_goesBefore_38 : decode cX11_goesBefore 38 = .ok (.aload_n 0, 1) := by decide +kernel
theorem dX11_goesBefore_39 : decode cX11_goesBefore 39 = .ok (.getfield 83, 3) := by decide +kernel
theorem dX11_goesBefore_42 : decode cX11_goesBefore 42 = .ok (.iload_n 1, 1) := by decide +kernel
theorem dX11_goesBefore_43 : decode cX11_goesBefore 43 = .ok (.iaload, 1) := by decide +kernel
theorem dX11_goesBefore_44 : decode cX11_goesBefore 44 = .ok (.aload_n 0, 1) := by decide +kernel
theorem dX11_goesBefore_45 : decode cX11_goesBefore 45 = .ok (.getfield 83, 3) := by decide +kernel
theorem dX11_goesBefore_48 : decode cX11_goesBefore 48 = .ok (.iload_n 2, 1) := by decide +kernel
theorem dX11_goesBefore_49 : decode cX11_goesBefore 49 = .ok (.iaload, 1) := by decide +kernel
theorem dX11_goesBefore_50 : decode cX11_goesBefore 50 = .ok (.if_icmp .ge 7, 3) := by decide +kernel
theorem dX11_goesBefore_53 : decode cX11_goesBefore 53 = .ok (.iconst 1, 1) := by decide +kernel
theorem dX11_goesBefore_54 : decode cX11_goesBefore 54 = .ok (.goto 4, 3) := by decide +kernel
theorem dX11_goesBefore_57 : decode cX11_goesBefore 57 = .ok (.iconst 0, 1) := by decide +kernel
theorem dX11_goesBefore_58 : decode cX11_goesBefore 58 = .ok (.ireturn, 1) := by decide +kernel
abbrev wmX11_goesBefore : List Cond := .code yX11_goesBefore cX11_goesBefore 3 (some .boolean) :: mBig
def f_X11_goesBefore (M : gM) (a1 : Int32) (a2 : Int32) : Option Int32 :=
  rd M m_priorities 192 a1 (fun v1 => rd M m_priorities 192 a2 (fun v2 => (if v1 = v2 then rd M m_usedAt 192 a1 (fun v4 => rd M m_usedAt 192 a2 (fun v5 => (if v5 ≤ v4 then some (0 : Int32) else some (1 : Int32)))) else rd M m_priorities 192 a1 (fun v7 => rd M m_priorities 192 a2 (fun v8 => (if v8 ≤ v7 then some (0 : Int32) else some (1 : Int32)))))))
set_option maxHeartbeats 4000000 in
set_option maxRecDepth 100000 in
theorem t_X11_goesBefore (l : Launch) (D : va_G) (dA : Nat → ClassId) (A : gI → Nat) (hJ : gJ mLive A) {M : gM} {a1 : Int32} {a2 : Int32}  {y : Int32} (h : f_X11_goesBefore M a1 a2 = some y) : mMi l yX11_goesBefore wmX11_goesBefore ({ frames := 0, cells := 0, slots := 0, locals := 0 } : Room) D dA A [.ref (A m_o), .int a1, .int a2] M y M := by
  refine Met.ofW (cc := cX11_goesBefore) (maxL := 3) (ret := (some .boolean)) (by decide) rfl ?_
  intro p e s m args below meth c s₁ B hml hv
  obtain ⟨rfl, hP, hK⟩ := hv
  generalize hargs : ([.ref (A m_o), .int a1, .int a2] : List Value).toArray = args at B ⊢
  have S : CallFix p m c cX11_goesBefore 3 s args wmX11_goesBefore RX11 := ⟨B.exec, B.bytes, hml, findClass_of_methodNamed B.named, atoms_spec (ws := wmX11_goesBefore) B.pre⟩
  obtain ⟨hx, hb, -, hown, hts⟩ := id S
  have hr := B.returns
  have hlocks := B.notSynchronized
  have X : gX D vwCl dA mLive A (gA mLive A) s := ⟨hK, hJ, fun i hi => ⟨i, hi, rfl⟩⟩
  have Z : gZ D mLay dA mLive A (gA mLive A) s.heap M s.heap [] := ⟨hP, va_S.rf⟩
  have hin : ∀ w ∈ wsX110, w ∈ wmX11_goesBefore := m_in
  have hl_83 := hts (.fieldLink RX11 83 "ReplicaFilesModel" "usedAt" "[I") (mBc 29 rfl)
  have hl_95 := hts (.fieldLink RX11 95 "ReplicaFilesModel" "priorities" "[I") (mBc 33 rfl)
  have hl := lv_entry ([.ref (A m_o), .int a1, .int a2]) (n := 3) (Nat.le_of_ble_eq_true rfl)
  rw [← hargs, lg_entry_eq, hargs]
  generalize (lg_sl ([.ref (A m_o), .int a1, .int a2]) ++ List.replicate (3 - (lg_sl ([.ref (A m_o), .int a1, .int a2])).length) Slot.unset).toArray = ls at hl ⊢
  have hl : lv_has ls 3 [(0, .ref (A m_o)), (1, .int a1), (2, .int a2)] := hl
  unfold f_X11_goesBefore at h
  refine lv_aload_n hx hb dX11_goesBefore_0 rfl (lv_at hl 0 rfl) ?_
  refine mr_priorities S X Z hin hl_95 dX11_goesBefore_1 ?_
  refine lv_iload_n hx hb dX11_goesBefore_4 rfl (lv_at hl 1 rfl) ?_
  refine g_iald S X Z ml_priorities rfl dX11_goesBefore_5 h (fun v1 h => ?_)
  refine lv_aload_n hx hb dX11_goesBefore_6 rfl (lv_at hl 0 rfl) ?_
  refine mr_priorities S X Z hin hl_95 dX11_goesBefore_7 ?_
  refine lv_iload_n hx hb dX11_goesBefore_10 rfl (lv_at hl 2 rfl) ?_
  refine g_iald S X Z ml_priorities rfl dX11_goesBefore_11 h (fun v2 h => ?_)
  refine lv_icmp_eq (tgt := 38) hx hb dX11_goesBefore_12 (by decide) (fun c3 => ?_) (fun c3 => ?_)
  · have h := if_t c3 h
    refine lv_aload_n hx hb dX11_goesBefore_38 rfl (lv_at hl 0 rfl) ?_
    refine mr_usedAt S X Z hin hl_83 dX11_goesBefore_39 ?_
    refine lv_iload_n hx hb dX11_goesBefore_42 rfl (lv_at hl 1 rfl) ?_
    refine g_iald S X Z ml_usedAt rfl dX11_goesBefore_43 h (fun v4 h => ?_)
    refine lv_aload_n hx hb dX11_goesBefore_44 rfl (lv_at hl 0 rfl) ?_
    refine mr_usedAt S X Z hin hl_83 dX11_goesBefore_45 ?_
    refine lv_iload_n hx hb dX11_goesBefore_48 rfl (lv_at hl 2 rfl) ?_
    refine g_iald S X Z ml_usedAt rfl dX11_goesBefore_49 h (fun v5 h => ?_)
    refine lv_icmp_ge (tgt := 57) hx hb dX11_goesBefore_50 (by decide) (fun c6 => ?_) (fun c6 => ?_)
    · have h := if_t c6 h
      refine lv_iconst (v := (0 : Int32)) hx hb dX11_goesBefore_57 (by decide) ?_
      have hy := Option.some.inj h
      subst hy
      exact g_rz (Or.inl rfl) S Z hr hlocks dX11_goesBefore_58
    · have h := if_f c6 h
      refine lv_iconst (v := (1 : Int32)) hx hb dX11_goesBefore_53 (by decide) ?_
      refine lv_goto (tgt := 58) hx hb dX11_goesBefore_54 (by decide) ?_
      have hy := Option.some.inj h
      subst hy
      exact g_rz (Or.inr rfl) S Z hr hlocks dX11_goesBefore_58
  · have h := if_f c3 h
    refine lv_aload_n hx hb dX11_goesBefore_15 rfl (lv_at hl 0 rfl) ?_
    refine mr_priorities S X Z hin hl_95 dX11_goesBefore_16 ?_
    refine lv_iload_n hx hb dX11_goesBefore_19 rfl (lv_at hl 1 rfl) ?_
    refine g_iald S X Z ml_priorities rfl dX11_goesBefore_20 h (fun v7 h => ?_)
    refine lv_aload_n hx hb dX11_goesBefore_21 rfl (lv_at hl 0 rfl) ?_
    refine mr_priorities S X Z hin hl_95 dX11_goesBefore_22 ?_
    refine lv_iload_n hx hb dX11_goesBefore_25 rfl (lv_at hl 2 rfl) ?_
    refine g_iald S X Z ml_priorities rfl dX11_goesBefore_26 h (fun v8 h => ?_)
    refine lv_icmp_ge (tgt := 34) hx hb dX11_goesBefore_27 (by decide) (fun c9 => ?_) (fun c9 => ?_)
    · have h := if_t c9 h
      refine lv_iconst (v := (0 : Int32)) hx hb dX11_goesBefore_34 (by decide) ?_
      refine lv_goto (tgt := 58) hx hb dX11_goesBefore_35 (by decide) ?_
      have hy := Option.some.inj h
      subst hy
      exact g_rz (Or.inl rfl) S Z hr hlocks dX11_goesBefore_58
    · have h := if_f c9 h
      refine lv_iconst (v := (1 : Int32)) hx hb dX11_goesBefore_30 (by decide) ?_
      refine lv_goto (tgt := 58) hx hb dX11_goesBefore_31 (by decide) ?_
      have hy := Option.some.inj h
      subst hy
      exact g_rz (Or.inr rfl) S Z hr hlocks dX11_goesBefore_58
-- X11_makeRoom (IIII)Z: 98 instructions
theorem dX11_makeRoom_0 : decode cX11_makeRoom 0 = .ok (.iload_n 2, 1) := by decide +kernel
theorem dX11_makeRoom_1 : decode cX11_makeRoom 1 = .ok (.istore 5, 2) := by decide +kernel
theorem dX11_makeRoom_3 : decode cX11_makeRoom 3 = .ok (.iconst 0, 1) := by decide +kernel
theorem dX11_makeRoom_4 : decode cX11_makeRoom 4 = .ok (.istore 6, 2) := by decide +kernel
theorem dX11_makeRoom_6 : decode cX11_makeRoom 6 = .ok (.iconst 0, 1) := by decide +kernel
theorem dX11_makeRoom_7 : decode cX11_makeRoom 7 = .ok (.istore 7, 2) := by decide +kernel
theorem dX11_makeRoom_9 : decode cX11_makeRoom 9 = .ok (.iload 7, 2) := by decide +kernel
theorem dX11_makeRoom_11 : decode cX11_makeRoom 11 = .ok (.bipush 48, 2) := by decide +kernel
theorem dX11_makeRoom_13 : decode cX11_makeRoom 13 = .ok (.if_icmp .ge 50, 3) := by decide +kernel
theorem dX11_makeRoom_16 : decode cX11_makeRoom 16 = .ok (.iload 5, 2) := by decide +kernel
theorem dX11_makeRoom_18 : decode cX11_makeRoom 18 = .ok (.aload_n 0, 1) := by decide +kernel
theorem dX11_makeRoom_19 : decode cX11_makeRoom 19 = .ok (.iload_n 1, 1) := by decide +kernel
theorem dX11_makeRoom_20 : decode cX11_makeRoom 20 = .ok (.iload 7, 2) := by decide +kernel
theorem dX11_makeRoom_22 : decode cX11_makeRoom 22 = .ok (.invokevirtual 214, 3) := by decide +kernel
theorem dX11_makeRoom_25 : decode cX11_makeRoom 25 = .ok (.iadd, 1) := by decide +kernel
theorem dX11_makeRoom_26 : decode cX11_makeRoom 26 = .ok (.istore 5, 2) := by decide +kernel
theorem dX11_makeRoom_28 : decode cX11_makeRoom 28 = .ok (.iload 6, 2) := by decide +kernel
theorem dX11_makeRoom_30 : decode cX11_makeRoom 30 = .ok (.aload_n 0, 1) := by decide +kernel
theorem dX11_makeRoom_31 : decode cX11_makeRoom 31 = .ok (.iload_n 1, 1) := by decide +kernel
theorem dX11_makeRoom_32 : decode cX11_makeRoom 32 = .ok (.iload 7, 2) := by decide +kernel
theorem dX11_makeRoom_34 : decode cX11_makeRoom 34 = .ok (.iload_n 3, 1) := by decide +kernel
theorem dX11_makeRoom_35 : decode cX11_makeRoom 35 = .ok (.iload 4, 2) := by decide +kernel
theorem dX11_makeRoom_37 : decode cX11_makeRoom 37 = .ok (.invokevirtual 217, 3) := by decide +kernel
theorem dX11_makeRoom_40 : decode cX11_makeRoom 40 = .ok (.ifCond .eq 13, 3) := by decide +kernel
theorem dX11_makeRoom_43 : decode cX11_makeRoom 43 = .ok (.aload_n 0, 1) := by decide +kernel
theorem dX11_makeRoom_44 : decode cX11_makeRoom 44 = .ok (.iload_n 1, 1) := by decide +kernel
theorem dX11_makeRoom_45 : decode cX11_makeRoom 45 = .ok (.iload 7, 2) := by decide +kernel
theorem dX11_makeRoom_47 : decode cX11_makeRoom 47 = .ok (.invokevirtual 214, 3) := by decide +kernel
theorem dX11_makeRoom_50 : decode cX11_makeRoom 50 = .ok (.goto 4, 3) := by decide +kernel
theorem dX11_makeRoom_53 : decode cX11_makeRoom 53 = .ok (.iconst 0, 1) := by decide +kernel
theorem dX11_makeRoom_54 : decode cX11_makeRoom 54 = .ok (.iadd, 1) := by decide +kernel
theorem dX11_makeRoom_55 : decode cX11_makeRoom 55 = .ok (.istore 6, 2) := by decide +kernel
theorem dX11_makeRoom_57 : decode cX11_makeRoom 57 = .ok (.iinc 7 1, 3) := by decide +kernel
theorem dX11_makeRoom_60 : decode cX11_makeRoom 60 = .ok (.goto (-51), 3) := by decide +kernel
theorem dX11_makeRoom_63 : decode cX11_makeRoom 63 = .ok (.iload 5, 2) := by decide +kernel
theorem dX11_makeRoom_65 : decode cX11_makeRoom 65 = .ok (.iload 6, 2) := by decide +kernel
theorem dX11_makeRoom_67 : decode cX11_makeRoom 67 = .ok (.isub, 1) := by decide +kernel
theorem dX11_makeRoom_68 : decode cX11_makeRoom 68 = .ok (.bipush 24, 2) := by decide +kernel
theorem dX11_makeRoom_70 : decode cX11_makeRoom 70 = .ok (.if_icmp .le 5, 3) := by decide +kernel
theorem dX11_makeRoom_73 : decode cX11_makeRoom 73 = .ok (.iconst 0, 1) := by decide +kernel
theorem dX11_makeRoom_74 : decode cX11_makeRoom 74 = .ok (.ireturn, 1) := by decide +kernel
theorem dX11_makeRoom_75 : decode cX11_makeRoom 75 = .ok (.iload 5, 2) := by decide +kernel
theorem dX11_makeRoom_77 : decode cX11_makeRoom 77 = .ok (.bipush 24, 2) := by decide +kernel
theorem dX11_makeRoom_79 : decode cX11_makeRoom 79 = .ok (.if_icmp .le 98, 3) := by decide +kernel
theorem dX11_makeRoom_82 : decode cX11_makeRoom 82 = .ok (.iconst (-1), 1) := by decide +kernel
theorem dX11_makeRoom_83 : decode cX11_makeRoom 83 = .ok (.istore 7, 2) := by decide +kernel
theorem dX11_makeRoom_85 : decode cX11_makeRoom 85 = .ok (.iconst 0, 1) := by decide +kernel
theorem dX11_makeRoom_86 : decode cX11_makeRoom 86 = .ok (.istore 8, 2) := by decide +kernel
theorem dX11_makeRoom_88 : decode cX11_makeRoom 88 = .ok (.iload 8, 2) := by decide +kernel
theorem dX11_makeRoom_90 : decode cX11_makeRoom 90 = .ok (.bipush 48, 2) := by decide +kernel
theorem dX11_makeRoom_92 : decode cX11_makeRoom 92 = .ok (.if_icmp .ge 53, 3) := by decide +kernel
theorem dX11_makeRoom_95 : decode cX11_makeRoom 95 = .ok (.aload_n 0, 1) := by decide +kernel
theorem dX11_makeRoom_96 : decode cX11_makeRoom 96 = .ok (.iload_n 1, 1) := by decide +kernel
theorem dX11_makeRoom_97 : decode cX11_makeRoom 97 = .ok (.iload 8, 2) := by decide +kernel
theorem dX11_makeRoom_99 : decode cX11_makeRoom 99 = .ok (.iload_n 3, 1) := by decide +kernel
theorem dX11_makeRoom_100 : decode cX11_makeRoom 100 = .ok (.iload 4, 2) := by decide +kernel
theorem dX11_makeRoom_102 : decode cX11_makeRoom 102 = .ok (.invokevirtual 217, 3) := by decide +kernel
theorem dX11_makeRoom_105 : decode cX11_makeRoom 105 = .ok (.ifCond .eq 34, 3) := by decide +kernel
theorem dX11_makeRoom_108 : decode cX11_makeRoom 108 = .ok (.iload 7, 2) := by decide +kernel
theorem dX11_makeRoom_110 : decode cX11_makeRoom 110 = .ok (.iconst (-1), 1) := by decide +kernel
theorem dX11_makeRoom_111 : decode cX11_makeRoom 111 = .ok (.if_icmp .eq 24, 3) := by decide +kernel
theorem dX11_makeRoom_114 : decode cX11_makeRoom 114 = .ok (.aload_n 0, 1) := by decide +kernel
theorem dX11_makeRoom_115 : decode cX11_makeRoom 115 = .ok (.bipush 48, 2) := by decide +kernel
theorem dX11_makeRoom_117 : decode cX11_makeRoom 117 = .ok (.iload_n 1, 1) := by decide +kernel
theorem dX11_makeRoom_118 : decode cX11_makeRoom 118 = .ok (.imul, 1) := by decide +kernel
theorem dX11_makeRoom_119 : decode cX11_makeRoom 119 = .ok (.iload 8, 2) := by decide +kernel
theorem dX11_makeRoom_121 : decode cX11_makeRoom 121 = .ok (.iadd, 1) := by decide +kernel
theorem dX11_makeRoom_122 : decode cX11_makeRoom 122 = .ok (.bipush 48, 2) := by decide +kernel
theorem dX11_makeRoom_124 : decode cX11_makeRoom 124 = .ok (.iload_n 1, 1) := by decide +kernel
theorem dX11_makeRoom_125 : decode cX11_makeRoom 125 = .ok (.imul, 1) := by decide +kernel
theorem dX11_makeRoom_126 : decode cX11_makeRoom 126 = .ok (.iload 7, 2) := by decide +kernel
theorem dX11_makeRoom_128 : decode cX11_makeRoom 128 = .ok (.iadd, 1) := by decide +kernel
theorem dX11_makeRoom_129 : decode cX11_makeRoom 129 = .ok (.invokevirtual 221, 3) := by decide +kernel
theorem dX11_makeRoom_132 : decode cX11_makeRoom 132 = .ok (.ifCond .eq 7, 3) := by decide +kernel
theorem dX11_makeRoom_135 : decode cX11_makeRoom 135 = .ok (.iload 8, 2) := by decide +kernel
theorem dX11_makeRoom_137 : decode cX11_makeRoom 137 = .ok (.istore 7, 2) := by decide +kernel
theorem dX11_makeRoom_139 : decode cX11_makeRoom 139 = .ok (.iinc 8 1, 3) := by decide +kernel
theorem dX11_makeRoom_142 : decode cX11_makeRoom 142 = .ok (.goto (-54), 3) := by decide +kernel
theorem dX11_makeRoom_145 : decode cX11_makeRoom 145 = .ok (.iload 5, 2) := by decide +kernel
theorem dX11_makeRoom_147 : decode cX11_makeRoom 147 = .ok (.aload_n 0, 1) := by decide +kernel
theorem dX11_makeRoom_148 : decode cX11_makeRoom 148 = .ok (.iload_n 1, 1) := by decide +kernel
theorem dX11_makeRoom_149 : decode cX11_makeRoom 149 = .ok (.iload 7, 2) := by decide +kernel
theorem dX11_makeRoom_151 : decode cX11_makeRoom 151 = .ok (.invokevirtual 214, 3) := by decide +kernel
theorem dX11_makeRoom_154 : decode cX11_makeRoom 154 = .ok (.isub, 1) := by decide +kernel
theorem dX11_makeRoom_155 : decode cX11_makeRoom 155 = .ok (.istore 5, 2) := by decide +kernel
theorem dX11_makeRoom_157 : decode cX11_makeRoom 157 = .ok (.aload_n 0, 1) := by decide +kernel
theorem dX11_makeRoom_158 : decode cX11_makeRoom 158 = .ok (.iload_n 1, 1) := by decide +kernel
theorem dX11_makeRoom_159 : decode cX11_makeRoom 159 = .ok (.iload 7, 2) := by decide +kernel
theorem dX11_makeRoom_161 : decode cX11_makeRoom 161 = .ok (.invokevirtual 224, 3) := by decide +kernel
theorem dX11_makeRoom_164 : decode cX11_makeRoom 164 = .ok (.aload_n 0, 1) := by decide +kernel
theorem dX11_makeRoom_165 : decode cX11_makeRoom 165 = .ok (.dup, 1) := by decide +kernel
theorem dX11_makeRoom_166 : decode cX11_makeRoom 166 = .ok (.getfield 228, 3) := by decide +kernel
theorem dX11_makeRoom_169 : decode cX11_makeRoom 169 = .ok (.iconst 1, 1) := by decide +kernel
theorem dX11_makeRoom_170 : decode cX11_makeRoom 170 = .ok (.iadd, 1) := by decide +kernel
theorem dX11_makeRoom_171 : decode cX11_makeRoom 171 = .ok (.putfield 228, 3) := by decide +kernel
theorem dX11_makeRoom_174 : decode cX11_makeRoom 174 = .ok (.goto (-99), 3) := by decide +kernel
theorem dX11_makeRoom_177 : decode cX11_makeRoom 177 = .ok (.iconst 1, 1) := by decide +kernel
theorem dX11_makeRoom_178 : decode cX11_makeRoom 178 = .ok (.ireturn, 1) := by decide +kernel
abbrev wmX11_makeRoom : List Cond := .code yX11_makeRoom cX11_makeRoom 9 (some .boolean) :: mBig
def f_X11_makeRoom_L88 (a1 : Int32) (a3 : Int32) (a4 : Int32) (x5 : Int32) (J145 : (Int32 × gM) → Option (Int32 × gM)) : Nat → Int32 → Int32 → gM → Option (Int32 × gM)
  | 0, _, _, _ => none
  | n21 + 1, x18, x19, M20 => (if (48 : Int32) ≤ x19 then J145 (x18, M20) else o1 (f_X11_mayGo M20 a1 x19 a3 a4) (fun v24 => jn (fun (q : (Int32 × gM)) => match q with | (b25, M26) => lt (x19 + 1) (fun x27 => f_X11_makeRoom_L88 a1 a3 a4 x5 J145 n21 b25 x27 M26)) (fun J139 => (if v24 = 0 then J139 (x18, M20) else jn (fun (M29 : gM) => J139 (x19, M29)) (fun J135 => (if x18 = (-1 : Int32) then J135 M20 else o1 (f_X11_goesBefore M20 (((48 : Int32) * a1) + x19) (((48 : Int32) * a1) + x18)) (fun v32 => (if v32 = 0 then J139 (x18, M20) else J135 M20))))))))
def f_X11_makeRoom_L75 (a1 : Int32) (a3 : Int32) (a4 : Int32) : Nat → Int32 → gM → Option (Int32 × gM)
  | 0, _, _ => none
  | n7 + 1, x5, M6 => (if x5 ≤ (24 : Int32) then some ((1 : Int32), M6) else jn (fun (q : (Int32 × gM)) => match q with | (b9, M10) => o1 (f_X11_weightKept M10 a1 b9) (fun v12 => lt ((x5 - v12)) (fun x13 => o1 (f_X11_forget M10 a1 b9) (fun M15 => lt (M15 m_o 50) (fun v16 => lt (gset M15 m_o 50 (v16 + (1 : Int32))) (fun M17 => f_X11_makeRoom_L75 a1 a3 a4 n7 x13 M17)))))) (fun J145 => f_X11_makeRoom_L88 a1 a3 a4 x5 J145 100 (-1 : Int32) (0 : Int32) M6))
def f_X11_makeRoom_L9 (a1 : Int32) (a3 : Int32) (a4 : Int32) (J63 : (Int32 × Int32 × gM) → Option (Int32 × gM)) : Nat → Int32 → Int32 → Int32 → gM → Option (Int32 × gM)
  | 0, _, _, _, _ => none
  | n38 + 1, x34, x35, x36, M37 => (if (48 : Int32) ≤ x36 then J63 (x34, x35, M37) else o1 (f_X11_weightKept M37 a1 x36) (fun v41 => lt ((x34 + v41)) (fun x42 => o1 (f_X11_mayGo M37 a1 x36 a3 a4) (fun v44 => jn (fun (q : (Int32 × gM)) => match q with | (b45, M46) => lt ((x35 + b45)) (fun x47 => lt (x36 + 1) (fun x48 => f_X11_makeRoom_L9 a1 a3 a4 J63 n38 x42 x47 x48 M46))) (fun J54 => (if v44 = 0 then J54 ((0 : Int32), M37) else o1 (f_X11_weightKept M37 a1 x36) (fun v51 => J54 (v51, M37))))))))
def f_X11_makeRoom (M : gM) (a1 : Int32) (a2 : Int32) (a3 : Int32) (a4 : Int32) : Option (Int32 × gM) :=
  jn (fun (q : (Int32 × Int32 × gM)) => match q with | (b1, b2, M3) => (if (b1 - b2) ≤ (24 : Int32) then f_X11_makeRoom_L75 a1 a3 a4 100 b1 M3 else some ((0 : Int32), M3))) (fun J63 => f_X11_makeRoom_L9 a1 a3 a4 J63 100 a2 (0 : Int32) (0 : Int32) M)
set_option maxHeartbeats 4000000 in
set_option maxRecDepth 100000 in
theorem t_X11_makeRoom (l : Launch) (D : va_G) (dA : Nat → ClassId) (A : gI → Nat) (hJ : gJ mLive A) {M : gM} {a1 : Int32} {a2 : Int32} {a3 : Int32} {a4 : Int32}  {y : (Int32 × gM)} (h : f_X11_makeRoom M a1 a2 a3 a4 = some y) : mMi l yX11_makeRoom wmX11_makeRoom ({ frames := 2, cells := 0, slots := 0, locals := 45 } : Room) D dA A [.ref (A m_o), .int a1, .int a2, .int a3, .int a4] M y.1 y.2 := by
  refine Met.ofW (cc := cX11_makeRoom) (maxL := 9) (ret := (some .boolean)) (by decide) rfl ?_
  intro p e s m args below meth c s₁ B hml hv
  obtain ⟨rfl, hP, hK⟩ := hv
  generalize hargs : ([.ref (A m_o), .int a1, .int a2, .int a3, .int a4] : List Value).toArray = args at B ⊢
  have S : CallFix p m c cX11_makeRoom 9 s args wmX11_makeRoom RX11 := ⟨B.exec, B.bytes, hml, findClass_of_methodNamed B.named, atoms_spec (ws := wmX11_makeRoom) B.pre⟩
  obtain ⟨hx, hb, -, hown, hts⟩ := id S
  have hr := B.returns
  have hlocks := B.notSynchronized
  have X : gX D vwCl dA mLive A (gA mLive A) s := ⟨hK, hJ, fun i hi => ⟨i, hi, rfl⟩⟩
  have Z : gZ D mLay dA mLive A (gA mLive A) s.heap M s.heap [] := ⟨hP, va_S.rf⟩
  have hin : ∀ w ∈ wsX110, w ∈ wmX11_makeRoom := m_in
  have hl_228 := hts (.fieldLink RX11 228 "ReplicaFilesModel" "went" "I") (mBc 122 rfl)
  have hl := lv_entry ([.ref (A m_o), .int a1, .int a2, .int a3, .int a4]) (n := 9) (Nat.le_of_ble_eq_true rfl)
  rw [← hargs, lg_entry_eq, hargs]
  generalize (lg_sl ([.ref (A m_o), .int a1, .int a2, .int a3, .int a4]) ++ List.replicate (9 - (lg_sl ([.ref (A m_o), .int a1, .int a2, .int a3, .int a4])).length) Slot.unset).toArray = ls at hl ⊢
  have hl : lv_has ls 9 [(0, .ref (A m_o)), (1, .int a1), (2, .int a2), (3, .int a3), (4, .int a4)] := hl
  unfold f_X11_makeRoom at h
  refine lv_iload_n hx hb dX11_makeRoom_0 rfl (lv_at hl 2 rfl) ?_
  refine lv_istore (lv' := [(5, .int a2), (0, .ref (A m_o)), (1, .int a1), (2, .int a2), (3, .int a3), (4, .int a4)]) hx hb dX11_makeRoom_1 hl (by decide) rfl (fun ls hl => ?_)
  refine lv_iconst (v := (0 : Int32)) hx hb dX11_makeRoom_3 (by decide) ?_
  refine lv_istore (lv' := [(6, .int (0 : Int32)), (5, .int a2), (0, .ref (A m_o)), (1, .int a1), (2, .int a2), (3, .int a3), (4, .int a4)]) hx hb dX11_makeRoom_4 hl (by decide) rfl (fun ls hl => ?_)
  refine lv_iconst (v := (0 : Int32)) hx hb dX11_makeRoom_6 (by decide) ?_
  refine lv_istore (lv' := [(7, .int (0 : Int32)), (6, .int (0 : Int32)), (5, .int a2), (0, .ref (A m_o)), (1, .int a1), (2, .int a2), (3, .int a3), (4, .int a4)]) hx hb dX11_makeRoom_7 hl (by decide) rfl (fun ls hl => ?_)
  obtain ⟨J63, eJ63, h⟩ := jn_e h
  have hJ63 : ∀ (b1 : Int32) (b2 : Int32) (M3 : gM) (H : Heap) (locs : List Loc) (ls : Array Slot), gZ D mLay dA mLive A (gA mLive A) s.heap M3 H locs → lv_has ls 9 [(0, .ref (A m_o)), (1, .int a1), (3, .int a3), (4, .int a4), (5, .int b1), (6, .int b2)] → J63 (b1, b2, M3) = some y → W p l e (headSpec wmX11_makeRoom ({ frames := 2, cells := 0, slots := 0, locals := 45 } : Room)).room s m args below meth c H locs 0 0 (MQ below (mQi D dA A y) args s 0 0 (gA mLive A)) (F0 m 63 ls []) := by
    intro b1 b2 M3 H locs ls Z hl h
    rw [eJ63] at h
    try dsimp only at h
    refine lv_iload hx hb dX11_makeRoom_63 (lv_at hl 4 rfl) ?_
    refine lv_iload hx hb dX11_makeRoom_65 (lv_at hl 5 rfl) ?_
    refine lv_isub hx hb dX11_makeRoom_67 ?_
    refine lv_bipush (v := (24 : Int32)) hx hb dX11_makeRoom_68 (by decide) ?_
    refine lv_icmp_le (tgt := 75) hx hb dX11_makeRoom_70 (by decide) (fun c4 => ?_) (fun c4 => ?_)
    · have h := if_t c4 h
      have hL75 : ∀ (n : Nat) (x5 : Int32) (M6 : gM) (H : Heap) (locs : List Loc) (ls : Array Slot), gZ D mLay dA mLive A (gA mLive A) s.heap M6 H locs → lv_has ls 9 [(0, .ref (A m_o)), (1, .int a1), (3, .int a3), (4, .int a4), (5, .int x5)] → f_X11_makeRoom_L75 a1 a3 a4 n x5 M6 = some y → W p l e (headSpec wmX11_makeRoom ({ frames := 2, cells := 0, slots := 0, locals := 45 } : Room)).room s m args below meth c H locs 0 0 (MQ below (mQi D dA A y) args s 0 0 (gA mLive A)) (F0 m 75 ls []) := by
        intro n
        induction n with
        | zero =>
          intro x5 M6 H locs ls Z hl h
          rw [f_X11_makeRoom_L75] at h
          cases h
        | succ n7 ih75 =>
          intro x5 M6 H locs ls Z hl h
          rw [f_X11_makeRoom_L75] at h
          refine lv_iload hx hb dX11_makeRoom_75 (lv_at hl 4 rfl) ?_
          refine lv_bipush (v := (24 : Int32)) hx hb dX11_makeRoom_77 (by decide) ?_
          refine lv_icmp_le (tgt := 177) hx hb dX11_makeRoom_79 (by decide) (fun c8 => ?_) (fun c8 => ?_)
          · have h := if_t c8 h
            refine lv_iconst (v := (1 : Int32)) hx hb dX11_makeRoom_177 (by decide) ?_
            have hy := Option.some.inj h
            subst hy
            exact g_rz (Or.inr rfl) S Z hr hlocks dX11_makeRoom_178
          · have h := if_f c8 h
            refine lv_iconst (v := (-1 : Int32)) hx hb dX11_makeRoom_82 (by decide) ?_
            refine lv_istore (lv' := [(7, .int (-1 : Int32)), (0, .ref (A m_o)), (1, .int a1), (3, .int a3), (4, .int a4), (5, .int x5)]) hx hb dX11_makeRoom_83 hl (by decide) rfl (fun ls hl => ?_)
            refine lv_iconst (v := (0 : Int32)) hx hb dX11_makeRoom_85 (by decide) ?_
            refine lv_istore (lv' := [(8, .int (0 : Int32)), (7, .int (-1 : Int32)), (0, .ref (A m_o)), (1, .int a1), (3, .int a3), (4, .int a4), (5, .int x5)]) hx hb dX11_makeRoom_86 hl (by decide) rfl (fun ls hl => ?_)
            obtain ⟨J145, eJ145, h⟩ := jn_e h
            have hJ145 : ∀ (b9 : Int32) (M10 : gM) (H : Heap) (locs : List Loc) (ls : Array Slot), gZ D mLay dA mLive A (gA mLive A) s.heap M10 H locs → lv_has ls 9 [(0, .ref (A m_o)), (1, .int a1), (3, .int a3), (4, .int a4), (5, .int x5), (7, .int b9)] → J145 (b9, M10) = some y → W p l e (headSpec wmX11_makeRoom ({ frames := 2, cells := 0, slots := 0, locals := 45 } : Room)).room s m args below meth c H locs 0 0 (MQ below (mQi D dA A y) args s 0 0 (gA mLive A)) (F0 m 145 ls []) := by
              intro b9 M10 H locs ls Z hl h
              rw [eJ145] at h
              try dsimp only at h
              refine lv_iload hx hb dX11_makeRoom_145 (lv_at hl 4 rfl) ?_
              refine lv_aload_n hx hb dX11_makeRoom_147 rfl (lv_at hl 0 rfl) ?_
              refine lv_iload_n hx hb dX11_makeRoom_148 rfl (lv_at hl 1 rfl) ?_
              refine lv_iload hx hb dX11_makeRoom_149 (lv_at hl 5 rfl) ?_
              obtain ⟨v12, hc11, h⟩ := o1_e h
              refine g_Vi (As := [.int a1, .int b9]) (rest := [.int x5]) S X Z mlv_o rfl rfl (t_X11_weightKept l D dA A hJ  hc11) (cwV 2 hts (mGV (mB 123 rfl) (mB 124 rfl) (mB 125 rfl) (mB 63 rfl) (mB 113 rfl)) rfl rfl rfl (by decide +kernel) ⟨Nat.le_of_ble_eq_true rfl, Nat.le_of_ble_eq_true rfl⟩) rfl hl.1 rfl (Nat.le_of_ble_eq_true rfl) dX11_makeRoom_151 ⟨Nat.zero_le _, Nat.zero_le _⟩ (fun H locs Z => ?_)
              refine lv_isub hx hb dX11_makeRoom_154 ?_
              refine g_topi h (fun x13 h => ?_)
              refine lv_istore (lv' := [(5, .int x13), (0, .ref (A m_o)), (1, .int a1), (3, .int a3), (4, .int a4), (7, .int b9)]) hx hb dX11_makeRoom_155 hl (by decide) rfl (fun ls hl => ?_)
              refine lv_aload_n hx hb dX11_makeRoom_157 rfl (lv_at hl 1 rfl) ?_
              refine lv_iload_n hx hb dX11_makeRoom_158 rfl (lv_at hl 2 rfl) ?_
              refine lv_iload hx hb dX11_makeRoom_159 (lv_at hl 5 rfl) ?_
              obtain ⟨M15, hc14, h⟩ := o1_e h
              refine g_Vv (As := [.int a1, .int b9]) (rest := []) S X Z mlv_o rfl rfl (t_X11_forget l D dA A hJ  hc14) (cwV 2 hts (mGV (mB 132 rfl) (mB 133 rfl) (mB 134 rfl) (mB 63 rfl) (mB 111 rfl)) rfl rfl rfl (by decide +kernel) ⟨Nat.le_of_ble_eq_true rfl, Nat.le_of_ble_eq_true rfl⟩) rfl hl.1 rfl (Nat.le_of_ble_eq_true rfl) dX11_makeRoom_161 ⟨Nat.zero_le _, Nat.zero_le _⟩ (fun H locs Z => ?_)
              refine lv_aload_n hx hb dX11_makeRoom_164 rfl (lv_at hl 1 rfl) ?_
              refine lv_dup hx hb dX11_makeRoom_165 rfl ?_
              refine mr_went S X Z hin hl_228 dX11_makeRoom_166 h (fun v16 h => ?_)
              refine lv_iconst (v := (1 : Int32)) hx hb dX11_makeRoom_169 (by decide) ?_
              refine lv_iadd hx hb dX11_makeRoom_170 ?_
              refine mp_went S X Z hin hl_228 dX11_makeRoom_171 h (fun M17 H locs Z h => ?_)
              refine lv_goto (tgt := 75) hx hb dX11_makeRoom_174 (by decide) ?_
              exact ih75 x13 M17 _ _ _ Z (lv_sub hl [1, 2, 3, 4, 0] rfl) h
            have hL88 : ∀ (n : Nat) (x18 : Int32) (x19 : Int32) (M20 : gM) (H : Heap) (locs : List Loc) (ls : Array Slot), gZ D mLay dA mLive A (gA mLive A) s.heap M20 H locs → lv_has ls 9 [(0, .ref (A m_o)), (1, .int a1), (3, .int a3), (4, .int a4), (5, .int x5), (7, .int x18), (8, .int x19)] → f_X11_makeRoom_L88 a1 a3 a4 x5 J145 n x18 x19 M20 = some y → W p l e (headSpec wmX11_makeRoom ({ frames := 2, cells := 0, slots := 0, locals := 45 } : Room)).room s m args below meth c H locs 0 0 (MQ below (mQi D dA A y) args s 0 0 (gA mLive A)) (F0 m 88 ls []) := by
              intro n
              induction n with
              | zero =>
                intro x18 x19 M20 H locs ls Z hl h
                rw [f_X11_makeRoom_L88] at h
                cases h
              | succ n21 ih88 =>
                intro x18 x19 M20 H locs ls Z hl h
                rw [f_X11_makeRoom_L88] at h
                refine lv_iload hx hb dX11_makeRoom_88 (lv_at hl 6 rfl) ?_
                refine lv_bipush (v := (48 : Int32)) hx hb dX11_makeRoom_90 (by decide) ?_
                refine lv_icmp_ge (tgt := 145) hx hb dX11_makeRoom_92 (by decide) (fun c22 => ?_) (fun c22 => ?_)
                · have h := if_t c22 h
                  exact hJ145 x18 M20 _ _ _ Z (lv_sub hl [0, 1, 2, 3, 4, 5] rfl) h
                · have h := if_f c22 h
                  refine lv_aload_n hx hb dX11_makeRoom_95 rfl (lv_at hl 0 rfl) ?_
                  refine lv_iload_n hx hb dX11_makeRoom_96 rfl (lv_at hl 1 rfl) ?_
                  refine lv_iload hx hb dX11_makeRoom_97 (lv_at hl 6 rfl) ?_
                  refine lv_iload_n hx hb dX11_makeRoom_99 rfl (lv_at hl 2 rfl) ?_
                  refine lv_iload hx hb dX11_makeRoom_100 (lv_at hl 3 rfl) ?_
                  obtain ⟨v24, hc23, h⟩ := o1_e h
                  refine g_Vi (As := [.int a1, .int x19, .int a3, .int a4]) (rest := []) S X Z mlv_o rfl rfl (t_X11_mayGo l D dA A hJ  hc23) (cwV 4 hts (mGV (mB 126 rfl) (mB 127 rfl) (mB 128 rfl) (mB 63 rfl) (mB 120 rfl)) rfl rfl rfl (by decide +kernel) ⟨Nat.le_of_ble_eq_true rfl, Nat.le_of_ble_eq_true rfl⟩) rfl hl.1 rfl (Nat.le_of_ble_eq_true rfl) dX11_makeRoom_102 ⟨Nat.zero_le _, Nat.zero_le _⟩ (fun H locs Z => ?_)
                  obtain ⟨J139, eJ139, h⟩ := jn_e h
                  have hJ139 : ∀ (b25 : Int32) (M26 : gM) (H : Heap) (locs : List Loc) (ls : Array Slot), gZ D mLay dA mLive A (gA mLive A) s.heap M26 H locs → lv_has ls 9 [(0, .ref (A m_o)), (1, .int a1), (3, .int a3), (4, .int a4), (5, .int x5), (7, .int b25), (8, .int x19)] → J139 (b25, M26) = some y → W p l e (headSpec wmX11_makeRoom ({ frames := 2, cells := 0, slots := 0, locals := 45 } : Room)).room s m args below meth c H locs 0 0 (MQ below (mQi D dA A y) args s 0 0 (gA mLive A)) (F0 m 139 ls []) := by
                    intro b25 M26 H locs ls Z hl h
                    rw [eJ139] at h
                    try dsimp only at h
                    obtain ⟨x27, ex27, h⟩ := lt_e h
                    refine lv_iinc (v := x27) (lv' := [(8, .int x27), (0, .ref (A m_o)), (1, .int a1), (3, .int a3), (4, .int a4), (5, .int x5), (7, .int b25)]) hx hb dX11_makeRoom_139 hl (k := 6) rfl (by rw [ex27]; rfl) (by decide) rfl (fun ls hl => ?_)
                    refine lv_goto (tgt := 88) hx hb dX11_makeRoom_142 (by decide) ?_
                    exact ih88 b25 x27 M26 _ _ _ Z (lv_sub hl [1, 2, 3, 4, 5, 6, 0] rfl) h
                  refine lv_if_eq (tgt := 139) hx hb dX11_makeRoom_105 (by decide) (fun c28 => ?_) (fun c28 => ?_)
                  · have h := if_t c28 h
                    exact hJ139 x18 M20 _ _ _ Z (lv_sub hl [0, 1, 2, 3, 4, 5, 6] rfl) h
                  · have h := if_f c28 h
                    refine lv_iload hx hb dX11_makeRoom_108 (lv_at hl 5 rfl) ?_
                    refine lv_iconst (v := (-1 : Int32)) hx hb dX11_makeRoom_110 (by decide) ?_
                    obtain ⟨J135, eJ135, h⟩ := jn_e h
                    have hJ135 : ∀ (M29 : gM) (H : Heap) (locs : List Loc) (ls : Array Slot), gZ D mLay dA mLive A (gA mLive A) s.heap M29 H locs → lv_has ls 9 [(0, .ref (A m_o)), (1, .int a1), (3, .int a3), (4, .int a4), (5, .int x5), (8, .int x19)] → J135 M29 = some y → W p l e (headSpec wmX11_makeRoom ({ frames := 2, cells := 0, slots := 0, locals := 45 } : Room)).room s m args below meth c H locs 0 0 (MQ below (mQi D dA A y) args s 0 0 (gA mLive A)) (F0 m 135 ls []) := by
                      intro M29 H locs ls Z hl h
                      rw [eJ135] at h
                      try dsimp only at h
                      refine lv_iload hx hb dX11_makeRoom_135 (lv_at hl 5 rfl) ?_
                      refine lv_istore (lv' := [(7, .int x19), (0, .ref (A m_o)), (1, .int a1), (3, .int a3), (4, .int a4), (5, .int x5), (8, .int x19)]) hx hb dX11_makeRoom_137 hl (by decide) rfl (fun ls hl => ?_)
                      exact hJ139 x19 M29 _ _ _ Z (lv_sub hl [1, 2, 3, 4, 5, 0, 6] rfl) h
                    refine lv_icmp_eq (tgt := 135) hx hb dX11_makeRoom_111 (by decide) (fun c30 => ?_) (fun c30 => ?_)
                    · have h := if_t c30 h
                      exact hJ135 M20 _ _ _ Z (lv_sub hl [0, 1, 2, 3, 4, 6] rfl) h
                    · have h := if_f c30 h
                      refine lv_aload_n hx hb dX11_makeRoom_114 rfl (lv_at hl 0 rfl) ?_
                      refine lv_bipush (v := (48 : Int32)) hx hb dX11_makeRoom_115 (by decide) ?_
                      refine lv_iload_n hx hb dX11_makeRoom_117 rfl (lv_at hl 1 rfl) ?_
                      refine lv_imul hx hb dX11_makeRoom_118 ?_
                      refine lv_iload hx hb dX11_makeRoom_119 (lv_at hl 6 rfl) ?_
                      refine lv_iadd hx hb dX11_makeRoom_121 ?_
                      refine lv_bipush (v := (48 : Int32)) hx hb dX11_makeRoom_122 (by decide) ?_
                      refine lv_iload_n hx hb dX11_makeRoom_124 rfl (lv_at hl 1 rfl) ?_
                      refine lv_imul hx hb dX11_makeRoom_125 ?_
                      refine lv_iload hx hb dX11_makeRoom_126 (lv_at hl 5 rfl) ?_
                      refine lv_iadd hx hb dX11_makeRoom_128 ?_
                      obtain ⟨v32, hc31, h⟩ := o1_e h
                      refine g_Vi (As := [.int (((48 : Int32) * a1) + x19), .int (((48 : Int32) * a1) + x18)]) (rest := []) S X Z mlv_o rfl rfl (t_X11_goesBefore l D dA A hJ  hc31) (cwV 2 hts (mGV (mB 129 rfl) (mB 130 rfl) (mB 131 rfl) (mB 63 rfl) (mB 121 rfl)) rfl rfl rfl (by decide +kernel) ⟨Nat.le_of_ble_eq_true rfl, Nat.le_of_ble_eq_true rfl⟩) rfl hl.1 rfl (Nat.le_of_ble_eq_true rfl) dX11_makeRoom_129 ⟨Nat.zero_le _, Nat.zero_le _⟩ (fun H locs Z => ?_)
                      refine lv_if_eq (tgt := 139) hx hb dX11_makeRoom_132 (by decide) (fun c33 => ?_) (fun c33 => ?_)
                      · have h := if_t c33 h
                        exact hJ139 x18 M20 _ _ _ Z (lv_sub hl [0, 1, 2, 3, 4, 5, 6] rfl) h
                      · have h := if_f c33 h
                        exact hJ135 M20 _ _ _ Z (lv_sub hl [0, 1, 2, 3, 4, 6] rfl) h
            exact hL88 100 (-1 : Int32) (0 : Int32) M6 _ _ _ Z (lv_sub hl [2, 3, 4, 5, 6, 1, 0] rfl) h
      exact hL75 100 b1 M3 _ _ _ Z (lv_sub hl [0, 1, 2, 3, 4] rfl) h
    · have h := if_f c4 h
      refine lv_iconst (v := (0 : Int32)) hx hb dX11_makeRoom_73 (by decide) ?_
      have hy := Option.some.inj h
      subst hy
      exact g_rz (Or.inl rfl) S Z hr hlocks dX11_makeRoom_74
  have hL9 : ∀ (n : Nat) (x34 : Int32) (x35 : Int32) (x36 : Int32) (M37 : gM) (H : Heap) (locs : List Loc) (ls : Array Slot), gZ D mLay dA mLive A (gA mLive A) s.heap M37 H locs → lv_has ls 9 [(0, .ref (A m_o)), (1, .int a1), (3, .int a3), (4, .int a4), (5, .int x34), (6, .int x35), (7, .int x36)] → f_X11_makeRoom_L9 a1 a3 a4 J63 n x34 x35 x36 M37 = some y → W p l e (headSpec wmX11_makeRoom ({ frames := 2, cells := 0, slots := 0, locals := 45 } : Room)).room s m args below meth c H locs 0 0 (MQ below (mQi D dA A y) args s 0 0 (gA mLive A)) (F0 m 9 ls []) := by
    intro n
    induction n with
    | zero =>
      intro x34 x35 x36 M37 H locs ls Z hl h
      rw [f_X11_makeRoom_L9] at h
      cases h
    | succ n38 ih9 =>
      intro x34 x35 x36 M37 H locs ls Z hl h
      rw [f_X11_makeRoom_L9] at h
      refine lv_iload hx hb dX11_makeRoom_9 (lv_at hl 6 rfl) ?_
      refine lv_bipush (v := (48 : Int32)) hx hb dX11_makeRoom_11 (by decide) ?_
      refine lv_icmp_ge (tgt := 63) hx hb dX11_makeRoom_13 (by decide) (fun c39 => ?_) (fun c39 => ?_)
      · have h := if_t c39 h
        exact hJ63 x34 x35 M37 _ _ _ Z (lv_sub hl [0, 1, 2, 3, 4, 5] rfl) h
      · have h := if_f c39 h
        refine lv_iload hx hb dX11_makeRoom_16 (lv_at hl 4 rfl) ?_
        refine lv_aload_n hx hb dX11_makeRoom_18 rfl (lv_at hl 0 rfl) ?_
        refine lv_iload_n hx hb dX11_makeRoom_19 rfl (lv_at hl 1 rfl) ?_
        refine lv_iload hx hb dX11_makeRoom_20 (lv_at hl 6 rfl) ?_
        obtain ⟨v41, hc40, h⟩ := o1_e h
        refine g_Vi (As := [.int a1, .int x36]) (rest := [.int x34]) S X Z mlv_o rfl rfl (t_X11_weightKept l D dA A hJ  hc40) (cwV 2 hts (mGV (mB 123 rfl) (mB 124 rfl) (mB 125 rfl) (mB 63 rfl) (mB 113 rfl)) rfl rfl rfl (by decide +kernel) ⟨Nat.le_of_ble_eq_true rfl, Nat.le_of_ble_eq_true rfl⟩) rfl hl.1 rfl (Nat.le_of_ble_eq_true rfl) dX11_makeRoom_22 ⟨Nat.zero_le _, Nat.zero_le _⟩ (fun H locs Z => ?_)
        refine lv_iadd hx hb dX11_makeRoom_25 ?_
        refine g_topi h (fun x42 h => ?_)
        refine lv_istore (lv' := [(5, .int x42), (0, .ref (A m_o)), (1, .int a1), (3, .int a3), (4, .int a4), (6, .int x35), (7, .int x36)]) hx hb dX11_makeRoom_26 hl (by decide) rfl (fun ls hl => ?_)
        refine lv_iload hx hb dX11_makeRoom_28 (lv_at hl 5 rfl) ?_
        refine lv_aload_n hx hb dX11_makeRoom_30 rfl (lv_at hl 1 rfl) ?_
        refine lv_iload_n hx hb dX11_makeRoom_31 rfl (lv_at hl 2 rfl) ?_
        refine lv_iload hx hb dX11_makeRoom_32 (lv_at hl 6 rfl) ?_
        refine lv_iload_n hx hb dX11_makeRoom_34 rfl (lv_at hl 3 rfl) ?_
        refine lv_iload hx hb dX11_makeRoom_35 (lv_at hl 4 rfl) ?_
        obtain ⟨v44, hc43, h⟩ := o1_e h
        refine g_Vi (As := [.int a1, .int x36, .int a3, .int a4]) (rest := [.int x35]) S X Z mlv_o rfl rfl (t_X11_mayGo l D dA A hJ  hc43) (cwV 4 hts (mGV (mB 126 rfl) (mB 127 rfl) (mB 128 rfl) (mB 63 rfl) (mB 120 rfl)) rfl rfl rfl (by decide +kernel) ⟨Nat.le_of_ble_eq_true rfl, Nat.le_of_ble_eq_true rfl⟩) rfl hl.1 rfl (Nat.le_of_ble_eq_true rfl) dX11_makeRoom_37 ⟨Nat.zero_le _, Nat.zero_le _⟩ (fun H locs Z => ?_)
        obtain ⟨J54, eJ54, h⟩ := jn_e h
        have hJ54 : ∀ (b45 : Int32) (M46 : gM) (H : Heap) (locs : List Loc) (ls : Array Slot), gZ D mLay dA mLive A (gA mLive A) s.heap M46 H locs → lv_has ls 9 [(0, .ref (A m_o)), (1, .int a1), (3, .int a3), (4, .int a4), (5, .int x42), (7, .int x36)] → J54 (b45, M46) = some y → W p l e (headSpec wmX11_makeRoom ({ frames := 2, cells := 0, slots := 0, locals := 45 } : Room)).room s m args below meth c H locs 0 0 (MQ below (mQi D dA A y) args s 0 0 (gA mLive A)) (F0 m 54 ls [.int b45, .int x35]) := by
          intro b45 M46 H locs ls Z hl h
          rw [eJ54] at h
          try dsimp only at h
          refine lv_iadd hx hb dX11_makeRoom_54 ?_
          refine g_topi h (fun x47 h => ?_)
          refine lv_istore (lv' := [(6, .int x47), (0, .ref (A m_o)), (1, .int a1), (3, .int a3), (4, .int a4), (5, .int x42), (7, .int x36)]) hx hb dX11_makeRoom_55 hl (by decide) rfl (fun ls hl => ?_)
          obtain ⟨x48, ex48, h⟩ := lt_e h
          refine lv_iinc (v := x48) (lv' := [(7, .int x48), (6, .int x47), (0, .ref (A m_o)), (1, .int a1), (3, .int a3), (4, .int a4), (5, .int x42)]) hx hb dX11_makeRoom_57 hl (k := 6) rfl (by rw [ex48]; rfl) (by decide) rfl (fun ls hl => ?_)
          refine lv_goto (tgt := 9) hx hb dX11_makeRoom_60 (by decide) ?_
          exact ih9 x42 x47 x48 M46 _ _ _ Z (lv_sub hl [2, 3, 4, 5, 6, 1, 0] rfl) h
        refine lv_if_eq (tgt := 53) hx hb dX11_makeRoom_40 (by decide) (fun c49 => ?_) (fun c49 => ?_)
        · have h := if_t c49 h
          refine lv_iconst (v := (0 : Int32)) hx hb dX11_makeRoom_53 (by decide) ?_
          exact hJ54 (0 : Int32) M37 _ _ _ Z (lv_sub hl [1, 2, 3, 4, 0, 6] rfl) h
        · have h := if_f c49 h
          refine lv_aload_n hx hb dX11_makeRoom_43 rfl (lv_at hl 1 rfl) ?_
          refine lv_iload_n hx hb dX11_makeRoom_44 rfl (lv_at hl 2 rfl) ?_
          refine lv_iload hx hb dX11_makeRoom_45 (lv_at hl 6 rfl) ?_
          obtain ⟨v51, hc50, h⟩ := o1_e h
          refine g_Vi (As := [.int a1, .int x36]) (rest := [.int x35]) S X Z mlv_o rfl rfl (t_X11_weightKept l D dA A hJ  hc50) (cwV 2 hts (mGV (mB 123 rfl) (mB 124 rfl) (mB 125 rfl) (mB 63 rfl) (mB 113 rfl)) rfl rfl rfl (by decide +kernel) ⟨Nat.le_of_ble_eq_true rfl, Nat.le_of_ble_eq_true rfl⟩) rfl hl.1 rfl (Nat.le_of_ble_eq_true rfl) dX11_makeRoom_47 ⟨Nat.zero_le _, Nat.zero_le _⟩ (fun H locs Z => ?_)
          refine lv_goto (tgt := 54) hx hb dX11_makeRoom_50 (by decide) ?_
          exact hJ54 v51 M37 _ _ _ Z (lv_sub hl [1, 2, 3, 4, 0, 6] rfl) h
  exact hL9 100 a2 (0 : Int32) (0 : Int32) M _ _ _ Z (lv_sub hl [3, 4, 6, 7, 2, 1, 0] rfl) h
-- X11_isGood (II)Z: 31 instructions
theorem dX11_isGood_0 : decode cX11_isGood 0 = .ok (.aload_n 0, 1) := by decide +kernel
theorem dX11_isGood_1 : decode cX11_isGood 1 = .ok (.iload_n 1, 1) := by decide +kernel
theorem dX11_isGood_2 : decode cX11_isGood 2 = .ok (.invokevirtual 180, 3) := by decide +kernel
theorem dX11_isGood_5 : decode cX11_isGood 5 = .ok (.istore_n 3, 1) := by decide +kernel
theorem dX11_isGood_6 : decode cX11_isGood 6 = .ok (.aload_n 0, 1) := by decide +kernel
theorem dX11_isGood_7 : decode cX11_isGood 7 = .ok (.getfield 65, 3) := by decide +kernel
theorem dX11_isGood_10 : decode cX11_isGood 10 = .ok (.bipush 48, 2) := by decide +kernel
theorem dX11_isGood_12 : decode cX11_isGood 12 = .ok (.iload_n 1, 1) := by decide +kernel
theorem dX11_isGood_13 : decode cX11_isGood 13 = .ok (.imul, 1) := by decide +kernel
theorem dX11_isGood_14 : decode cX11_isGood 14 = .ok (.iload_n 2, 1) := by decide +kernel
theorem dX11_isGood_15 : decode cX11_isGood 15 = .ok (.iadd, 1) := by decide +kernel
theorem dX11_isGood_16 : decode cX11_isGood 16 = .ok (.baload, 1) := by decide +kernel
theorem dX11_isGood_17 : decode cX11_isGood 17 = .ok (.ifCond .eq 28, 3) := by decide +kernel
theorem dX11_isGood_20 : decode cX11_isGood 20 = .ok (.iload_n 3, 1) := by decide +kernel
theorem dX11_isGood_21 : decode cX11_isGood 21 = .ok (.ifCond .eq 24, 3) := by decide +kernel
theorem dX11_isGood_24 : decode cX11_isGood 24 = .ok (.aload_n 0, 1) := by decide +kernel
theorem dX11_isGood_25 : decode cX11_isGood 25 = .ok (.getfield 77, 3) := by decide +kernel
theorem dX11_isGood_28 : decode cX11_isGood 28 = .ok (.bipush 48, 2) := by decide +kernel
theorem dX11_isGood_30 : decode cX11_isGood 30 = .ok (.iload_n 1, 1) := by decide +kernel
theorem dX11_isGood_31 : decode cX11_isGood 31 = .ok (.imul, 1) := by decide +kernel
theorem dX11_isGood_32 : decode cX11_isGood 32 = .ok (.iload_n 2, 1) := by decide +kernel
theorem dX11_isGood_33 : decode cX11_isGood 33 = .ok (.iadd, 1) := by decide +kernel
theorem dX11_isGood_34 : decode cX11_isGood 34 = .ok (.iaload, 1) := by decide +kernel
theorem dX11_isGood_35 : decode cX11_isGood 35 = .ok (.iload_n 3, 1) := by decide +kernel
theorem dX11_isGood_36 : decode cX11_isGood 36 = .ok (.iand, 1) := by decide +kernel
theorem dX11_isGood_37 : decode cX11_isGood 37 = .ok (.iload_n 3, 1) := by decide +kernel
theorem dX11_isGood_38 : decode cX11_isGood 38 = .ok (.if_icmp .ne 7, 3) := by decide +kernel
theorem dX11_isGood_41 : decode cX11_isGood 41 = .ok (.iconst 1, 1) := by decide +kernel
theorem dX11_isGood_42 : decode cX11_isGood 42 = .ok (.goto 4, 3) := by decide +kernel
theorem dX11_isGood_45 : decode cX11_isGood 45 = .ok (.iconst 0, 1) := by decide +kernel
theorem dX11_isGood_46 : decode cX11_isGood 46 = .ok (.ireturn, 1) := by decide +kernel
abbrev wmX11_isGood : List Cond := .code yX11_isGood cX11_isGood 4 (some .boolean) :: mBig
def f_X11_isGood (M : gM) (a1 : Int32) (a2 : Int32) : Option Int32 :=
  o1 (f_X11_nearSet M a1) (fun v2 => rd M m_kept 192 (((48 : Int32) * a1) + a2) (fun v3 => (if v3 = 0 then some (0 : Int32) else (if v2 = 0 then some (0 : Int32) else rd M m_promised 192 (((48 : Int32) * a1) + a2) (fun v6 => (if (v6 &&& v2) = v2 then some (1 : Int32) else some (0 : Int32)))))))
set_option maxHeartbeats 4000000 in
set_option maxRecDepth 100000 in
theorem t_X11_isGood (l : Launch) (D : va_G) (dA : Nat → ClassId) (A : gI → Nat) (hJ : gJ mLive A) {M : gM} {a1 : Int32} {a2 : Int32}  {y : Int32} (h : f_X11_isGood M a1 a2 = some y) : mMi l yX11_isGood wmX11_isGood ({ frames := 2, cells := 0, slots := 0, locals := 45 } : Room) D dA A [.ref (A m_o), .int a1, .int a2] M y M := by
  refine Met.ofW (cc := cX11_isGood) (maxL := 4) (ret := (some .boolean)) (by decide) rfl ?_
  intro p e s m args below meth c s₁ B hml hv
  obtain ⟨rfl, hP, hK⟩ := hv
  generalize hargs : ([.ref (A m_o), .int a1, .int a2] : List Value).toArray = args at B ⊢
  have S : CallFix p m c cX11_isGood 4 s args wmX11_isGood RX11 := ⟨B.exec, B.bytes, hml, findClass_of_methodNamed B.named, atoms_spec (ws := wmX11_isGood) B.pre⟩
  obtain ⟨hx, hb, -, hown, hts⟩ := id S
  have hr := B.returns
  have hlocks := B.notSynchronized
  have X : gX D vwCl dA mLive A (gA mLive A) s := ⟨hK, hJ, fun i hi => ⟨i, hi, rfl⟩⟩
  have Z : gZ D mLay dA mLive A (gA mLive A) s.heap M s.heap [] := ⟨hP, va_S.rf⟩
  have hin : ∀ w ∈ wsX110, w ∈ wmX11_isGood := m_in
  have hl_65 := hts (.fieldLink RX11 65 "ReplicaFilesModel" "kept" "[Z") (mBc 23 rfl)
  have hl_77 := hts (.fieldLink RX11 77 "ReplicaFilesModel" "promised" "[I") (mBc 27 rfl)
  have hl := lv_entry ([.ref (A m_o), .int a1, .int a2]) (n := 4) (Nat.le_of_ble_eq_true rfl)
  rw [← hargs, lg_entry_eq, hargs]
  generalize (lg_sl ([.ref (A m_o), .int a1, .int a2]) ++ List.replicate (4 - (lg_sl ([.ref (A m_o), .int a1, .int a2])).length) Slot.unset).toArray = ls at hl ⊢
  have hl : lv_has ls 4 [(0, .ref (A m_o)), (1, .int a1), (2, .int a2)] := hl
  unfold f_X11_isGood at h
  refine lv_aload_n hx hb dX11_isGood_0 rfl (lv_at hl 0 rfl) ?_
  refine lv_iload_n hx hb dX11_isGood_1 rfl (lv_at hl 1 rfl) ?_
  obtain ⟨v2, hc1, h⟩ := o1_e h
  refine g_Vi (As := [.int a1]) (rest := []) S X Z mlv_o rfl rfl (t_X11_nearSet l D dA A hJ  hc1) (cwV 1 hts (mGV (mB 75 rfl) (mB 76 rfl) (mB 77 rfl) (mB 63 rfl) (mB 70 rfl)) rfl rfl rfl (by decide +kernel) ⟨Nat.le_of_ble_eq_true rfl, Nat.le_of_ble_eq_true rfl⟩) rfl hl.1 rfl (Nat.le_of_ble_eq_true rfl) dX11_isGood_2 ⟨Nat.zero_le _, Nat.zero_le _⟩ (fun H locs Z => ?_)
  refine lv_istore_n (lv' := [(3, .int v2), (0, .ref (A m_o)), (1, .int a1), (2, .int a2)]) hx hb dX11_isGood_5 rfl hl (by decide) rfl (fun ls hl => ?_)
  refine lv_aload_n hx hb dX11_isGood_6 rfl (lv_at hl 1 rfl) ?_
  refine mr_kept S X Z hin hl_65 dX11_isGood_7 ?_
  refine lv_bipush (v := (48 : Int32)) hx hb dX11_isGood_10 (by decide) ?_
  refine lv_iload_n hx hb dX11_isGood_12 rfl (lv_at hl 2 rfl) ?_
  refine lv_imul hx hb dX11_isGood_13 ?_
  refine lv_iload_n hx hb dX11_isGood_14 rfl (lv_at hl 3 rfl) ?_
  refine lv_iadd hx hb dX11_isGood_15 ?_
  refine g_zald S X Z ml_kept rfl dX11_isGood_16 h (fun v3 h => ?_)
  refine lv_if_eq (tgt := 45) hx hb dX11_isGood_17 (by decide) (fun c4 => ?_) (fun c4 => ?_)
  · have h := if_t c4 h
    refine lv_iconst (v := (0 : Int32)) hx hb dX11_isGood_45 (by decide) ?_
    have hy := Option.some.inj h
    subst hy
    exact g_rz (Or.inl rfl) S Z hr hlocks dX11_isGood_46
  · have h := if_f c4 h
    refine lv_iload_n hx hb dX11_isGood_20 rfl (lv_at hl 0 rfl) ?_
    refine lv_if_eq (tgt := 45) hx hb dX11_isGood_21 (by decide) (fun c5 => ?_) (fun c5 => ?_)
    · have h := if_t c5 h
      refine lv_iconst (v := (0 : Int32)) hx hb dX11_isGood_45 (by decide) ?_
      have hy := Option.some.inj h
      subst hy
      exact g_rz (Or.inl rfl) S Z hr hlocks dX11_isGood_46
    · have h := if_f c5 h
      refine lv_aload_n hx hb dX11_isGood_24 rfl (lv_at hl 1 rfl) ?_
      refine mr_promised S X Z hin hl_77 dX11_isGood_25 ?_
      refine lv_bipush (v := (48 : Int32)) hx hb dX11_isGood_28 (by decide) ?_
      refine lv_iload_n hx hb dX11_isGood_30 rfl (lv_at hl 2 rfl) ?_
      refine lv_imul hx hb dX11_isGood_31 ?_
      refine lv_iload_n hx hb dX11_isGood_32 rfl (lv_at hl 3 rfl) ?_
      refine lv_iadd hx hb dX11_isGood_33 ?_
      refine g_iald S X Z ml_promised rfl dX11_isGood_34 h (fun v6 h => ?_)
      refine lv_iload_n hx hb dX11_isGood_35 rfl (lv_at hl 0 rfl) ?_
      refine lv_iand hx hb dX11_isGood_36 ?_
      refine lv_iload_n hx hb dX11_isGood_37 rfl (lv_at hl 0 rfl) ?_
      refine lv_icmp_ne (tgt := 45) hx hb dX11_isGood_38 (by decide) (fun c7 => ?_) (fun c7 => ?_)
      · have h := if_f c7 h
        refine lv_iconst (v := (0 : Int32)) hx hb dX11_isGood_45 (by decide) ?_
        have hy := Option.some.inj h
        subst hy
        exact g_rz (Or.inl rfl) S Z hr hlocks dX11_isGood_46
      · have h := if_t c7 h
        refine lv_iconst (v := (1 : Int32)) hx hb dX11_isGood_41 (by decide) ?_
        refine lv_goto (tgt := 46) hx hb dX11_isGood_42 (by decide) ?_
        have hy := Option.some.inj h
        subst hy
        exact g_rz (Or.inr rfl) S Z hr hlocks dX11_isGood_46
