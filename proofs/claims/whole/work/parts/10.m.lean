-- X11_thrown ()I: 3 instructions
theorem dX11_thrown_0 : decode cX11_thrown 0 = .ok (.aload_n 0, 1) := by decide +kernel
theorem dX11_thrown_1 : decode cX11_thrown 1 = .ok (.getfield 165, 3) := by decide +kernel
theorem dX11_thrown_4 : decode cX11_thrown 4 = .ok (.ireturn, 1) := by decide +kernel
def f_X11_thrown (M : gM)  : Option Int32 :=
  lt (M m_o 66) (fun v1 => some v1)
set_option maxHeartbeats 4000000 in
set_option maxRecDepth 100000 in
theorem t_X11_thrown (l : Launch) (D : va_G) (dA : Nat → ClassId) (A : gI → Nat) (hJ : gJ mLive A) {M : gM}   {y : Int32} (h : f_X11_thrown M = some y) : mMi l yX11_thrown wsX11_thrown ({ frames := 0, cells := 0, slots := 0, locals := 0 } : Room) D dA A [.ref (A m_o)] M y M := by
  refine Met.ofW (cc := cX11_thrown) (maxL := 1) (ret := (some .int)) (by decide) rfl ?_
  intro p e s m args below meth c s₁ B hml hv
  obtain ⟨rfl, hP, hK⟩ := hv
  generalize hargs : ([.ref (A m_o)] : List Value).toArray = args at B ⊢
  have S : CallFix p m c cX11_thrown 1 s args wsX11_thrown RX11 := ⟨B.exec, B.bytes, hml, findClass_of_methodNamed B.named, atoms_spec (ws := wsX11_thrown) B.pre⟩
  obtain ⟨hx, hb, -, hown, hts⟩ := id S
  have hr := B.returns
  have hlocks := B.notSynchronized
  have X : gX D vwCl dA mLive A (gA mLive A) s := ⟨hK, hJ, fun i hi => ⟨i, hi, rfl⟩⟩
  have Z : gZ D mLay dA mLive A (gA mLive A) s.heap M s.heap [] := ⟨hP, va_S.rf⟩
  have hin : ∀ w ∈ wsX110, w ∈ wsX11_thrown := fun w h => List.mem_cons_of_mem _ (List.mem_append_right _ h)
  have hl_165 := hts (.fieldLink RX11 165 "ReplicaFilesModel" "thrown" "I") (by decide +kernel)
  have hl := lv_entry ([.ref (A m_o)]) (n := 1) (Nat.le_of_ble_eq_true rfl)
  rw [← hargs, lg_entry_eq, hargs]
  generalize (lg_sl ([.ref (A m_o)]) ++ List.replicate (1 - (lg_sl ([.ref (A m_o)])).length) Slot.unset).toArray = ls at hl ⊢
  have hl : lv_has ls 1 [(0, .ref (A m_o))] := hl
  unfold f_X11_thrown at h
  refine lv_aload_n hx hb dX11_thrown_0 rfl (lv_at hl 0 rfl) ?_
  refine mr_thrown S X Z hin hl_165 dX11_thrown_1 h (fun v1 h => ?_)
  have hy := Option.some.inj h
  subst hy
  exact g_ri S Z hr hlocks dX11_thrown_4
-- X11_in (III)Z: 10 instructions
theorem dX11_in_0 : decode cX11_in 0 = .ok (.iload_n 0, 1) := by decide +kernel
theorem dX11_in_1 : decode cX11_in 1 = .ok (.iload_n 1, 1) := by decide +kernel
theorem dX11_in_2 : decode cX11_in 2 = .ok (.if_icmp .lt 12, 3) := by decide +kernel
theorem dX11_in_5 : decode cX11_in 5 = .ok (.iload_n 0, 1) := by decide +kernel
theorem dX11_in_6 : decode cX11_in 6 = .ok (.iload_n 2, 1) := by decide +kernel
theorem dX11_in_7 : decode cX11_in 7 = .ok (.if_icmp .gt 7, 3) := by decide +kernel
theorem dX11_in_10 : decode cX11_in 10 = .ok (.iconst 1, 1) := by decide +kernel
theorem dX11_in_11 : decode cX11_in 11 = .ok (.goto 4, 3) := by decide +kernel
theorem dX11_in_14 : decode cX11_in 14 = .ok (.iconst 0, 1) := by decide +kernel
theorem dX11_in_15 : decode cX11_in 15 = .ok (.ireturn, 1) := by decide +kernel
def f_X11_in (M : gM) (a0 : Int32) (a1 : Int32) (a2 : Int32) : Option Int32 :=
  (if a0 < a1 then some (0 : Int32) else (if a2 < a0 then some (0 : Int32) else some (1 : Int32)))
set_option maxHeartbeats 4000000 in
set_option maxRecDepth 100000 in
theorem t_X11_in (l : Launch) (D : va_G) (dA : Nat → ClassId) (A : gI → Nat) (hJ : gJ mLive A) {M : gM} {a0 : Int32} {a1 : Int32} {a2 : Int32}  {y : Int32} (h : f_X11_in M a0 a1 a2 = some y) : mMi l yX11_in wsX11_in ({ frames := 0, cells := 0, slots := 0, locals := 0 } : Room) D dA A [.int a0, .int a1, .int a2] M y M := by
  refine Met.ofW (cc := cX11_in) (maxL := 3) (ret := (some .boolean)) (by decide) rfl ?_
  intro p e s m args below meth c s₁ B hml hv
  obtain ⟨rfl, hP, hK⟩ := hv
  generalize hargs : ([.int a0, .int a1, .int a2] : List Value).toArray = args at B ⊢
  have S : CallFix p m c cX11_in 3 s args wsX11_in RX11 := ⟨B.exec, B.bytes, hml, findClass_of_methodNamed B.named, atoms_spec (ws := wsX11_in) B.pre⟩
  obtain ⟨hx, hb, -, hown, hts⟩ := id S
  have hr := B.returns
  have hlocks := B.notSynchronized
  have X : gX D vwCl dA mLive A (gA mLive A) s := ⟨hK, hJ, fun i hi => ⟨i, hi, rfl⟩⟩
  have Z : gZ D mLay dA mLive A (gA mLive A) s.heap M s.heap [] := ⟨hP, va_S.rf⟩
  have hl := lv_entry ([.int a0, .int a1, .int a2]) (n := 3) (Nat.le_of_ble_eq_true rfl)
  rw [← hargs, lg_entry_eq, hargs]
  generalize (lg_sl ([.int a0, .int a1, .int a2]) ++ List.replicate (3 - (lg_sl ([.int a0, .int a1, .int a2])).length) Slot.unset).toArray = ls at hl ⊢
  have hl : lv_has ls 3 [(0, .int a0), (1, .int a1), (2, .int a2)] := hl
  unfold f_X11_in at h
  refine lv_iload_n hx hb dX11_in_0 rfl (lv_at hl 0 rfl) ?_
  refine lv_iload_n hx hb dX11_in_1 rfl (lv_at hl 1 rfl) ?_
  refine lv_icmp_lt (tgt := 14) hx hb dX11_in_2 (by decide) (fun c1 => ?_) (fun c1 => ?_)
  · have h := if_t c1 h
    refine lv_iconst (v := (0 : Int32)) hx hb dX11_in_14 (by decide) ?_
    have hy := Option.some.inj h
    subst hy
    exact g_rz (Or.inl rfl) S Z hr hlocks dX11_in_15
  · have h := if_f c1 h
    refine lv_iload_n hx hb dX11_in_5 rfl (lv_at hl 0 rfl) ?_
    refine lv_iload_n hx hb dX11_in_6 rfl (lv_at hl 2 rfl) ?_
    refine lv_icmp_gt (tgt := 14) hx hb dX11_in_7 (by decide) (fun c2 => ?_) (fun c2 => ?_)
    · have h := if_t c2 h
      refine lv_iconst (v := (0 : Int32)) hx hb dX11_in_14 (by decide) ?_
      have hy := Option.some.inj h
      subst hy
      exact g_rz (Or.inl rfl) S Z hr hlocks dX11_in_15
    · have h := if_f c2 h
      refine lv_iconst (v := (1 : Int32)) hx hb dX11_in_10 (by decide) ?_
      refine lv_goto (tgt := 15) hx hb dX11_in_11 (by decide) ?_
      have hy := Option.some.inj h
      subst hy
      exact g_rz (Or.inr rfl) S Z hr hlocks dX11_in_15
-- X11_isServer (I)Z: 8 instructions
set_option maxRecDepth 20000 in
theorem ggX11_isServer_X11_in : GoodIn wsX11_isServer wsX11_in := goodIn_r _ [5] (by decide +kernel) (by decide +kernel)
set_option maxRecDepth 20000 in
theorem gX11_isServer_X11_in : GoodIn wsX11_isServer (va_wsS RX11 168 yX11_in wsX11_in) := goodIn_app (goodIn_of _ (by decide +kernel)) ggX11_isServer_X11_in
theorem dX11_isServer_0 : decode cX11_isServer 0 = .ok (.iload_n 1, 1) := by decide +kernel
theorem dX11_isServer_1 : decode cX11_isServer 1 = .ok (.iconst 0, 1) := by decide +kernel
theorem dX11_isServer_2 : decode cX11_isServer 2 = .ok (.aload_n 0, 1) := by decide +kernel
theorem dX11_isServer_3 : decode cX11_isServer 3 = .ok (.getfield 155, 3) := by decide +kernel
theorem dX11_isServer_6 : decode cX11_isServer 6 = .ok (.iconst 1, 1) := by decide +kernel
theorem dX11_isServer_7 : decode cX11_isServer 7 = .ok (.isub, 1) := by decide +kernel
theorem dX11_isServer_8 : decode cX11_isServer 8 = .ok (.invokestatic 168, 3) := by decide +kernel
theorem dX11_isServer_11 : decode cX11_isServer 11 = .ok (.ireturn, 1) := by decide +kernel
def f_X11_isServer (M : gM) (a1 : Int32) : Option Int32 :=
  lt (M m_o 0) (fun v1 => o1 (f_X11_in M a1 (0 : Int32) (v1 - (1 : Int32))) (fun v3 => gz v3 (some v3)))
set_option maxHeartbeats 4000000 in
set_option maxRecDepth 100000 in
theorem t_X11_isServer (l : Launch) (D : va_G) (dA : Nat → ClassId) (A : gI → Nat) (hJ : gJ mLive A) {M : gM} {a1 : Int32}  {y : Int32} (h : f_X11_isServer M a1 = some y) : mMi l yX11_isServer wsX11_isServer ({ frames := 1, cells := 0, slots := 0, locals := 22 } : Room) D dA A [.ref (A m_o), .int a1] M y M := by
  refine Met.ofW (cc := cX11_isServer) (maxL := 2) (ret := (some .boolean)) (by decide) rfl ?_
  intro p e s m args below meth c s₁ B hml hv
  obtain ⟨rfl, hP, hK⟩ := hv
  generalize hargs : ([.ref (A m_o), .int a1] : List Value).toArray = args at B ⊢
  have S : CallFix p m c cX11_isServer 2 s args wsX11_isServer RX11 := ⟨B.exec, B.bytes, hml, findClass_of_methodNamed B.named, atoms_spec (ws := wsX11_isServer) B.pre⟩
  obtain ⟨hx, hb, -, hown, hts⟩ := id S
  have hr := B.returns
  have hlocks := B.notSynchronized
  have X : gX D vwCl dA mLive A (gA mLive A) s := ⟨hK, hJ, fun i hi => ⟨i, hi, rfl⟩⟩
  have Z : gZ D mLay dA mLive A (gA mLive A) s.heap M s.heap [] := ⟨hP, va_S.rf⟩
  have hin : ∀ w ∈ wsX110, w ∈ wsX11_isServer := fun w h => List.mem_cons_of_mem _ (List.mem_append_right _ h)
  have hl_155 := hts (.fieldLink RX11 155 "ReplicaFilesModel" "servers" "I") (by decide +kernel)
  have hl := lv_entry ([.ref (A m_o), .int a1]) (n := 2) (Nat.le_of_ble_eq_true rfl)
  rw [← hargs, lg_entry_eq, hargs]
  generalize (lg_sl ([.ref (A m_o), .int a1]) ++ List.replicate (2 - (lg_sl ([.ref (A m_o), .int a1])).length) Slot.unset).toArray = ls at hl ⊢
  have hl : lv_has ls 2 [(0, .ref (A m_o)), (1, .int a1)] := hl
  unfold f_X11_isServer at h
  refine lv_iload_n hx hb dX11_isServer_0 rfl (lv_at hl 1 rfl) ?_
  refine lv_iconst (v := (0 : Int32)) hx hb dX11_isServer_1 (by decide) ?_
  refine lv_aload_n hx hb dX11_isServer_2 rfl (lv_at hl 0 rfl) ?_
  refine mr_servers S X Z hin hl_155 dX11_isServer_3 h (fun v1 h => ?_)
  refine lv_iconst (v := (1 : Int32)) hx hb dX11_isServer_6 (by decide) ?_
  refine lv_isub hx hb dX11_isServer_7 ?_
  obtain ⟨v3, hc2, h⟩ := o1_e h
  refine g_Si (As := [.int a1, .int (0 : Int32), .int (v1 - (1 : Int32))]) (rest := []) S X Z (t_X11_in l D dA A hJ  hc2) (va_cwS 3 hts gX11_isServer_X11_in rfl rfl rfl (by decide +kernel) ⟨Nat.le_of_ble_eq_true rfl, Nat.le_of_ble_eq_true rfl⟩) rfl hl.1 rfl (by decide) dX11_isServer_8 ⟨Nat.zero_le _, Nat.zero_le _⟩ (fun H locs Z => ?_)
  obtain ⟨z4, h⟩ := gz_e h
  have hy := Option.some.inj h
  subst hy
  exact g_rz (z4) S Z hr hlocks dX11_isServer_11
-- X11_isClient (I)Z: 5 instructions
set_option maxRecDepth 20000 in
theorem ggX11_isClient_X11_in : GoodIn wsX11_isClient wsX11_in := goodIn_r _ [4] (by decide +kernel) (by decide +kernel)
set_option maxRecDepth 20000 in
theorem gX11_isClient_X11_in : GoodIn wsX11_isClient (va_wsS RX11 168 yX11_in wsX11_in) := goodIn_app (goodIn_of _ (by decide +kernel)) ggX11_isClient_X11_in
theorem dX11_isClient_0 : decode cX11_isClient 0 = .ok (.iload_n 0, 1) := by decide +kernel
theorem dX11_isClient_1 : decode cX11_isClient 1 = .ok (.iconst 0, 1) := by decide +kernel
theorem dX11_isClient_2 : decode cX11_isClient 2 = .ok (.iconst 3, 1) := by decide +kernel
theorem dX11_isClient_3 : decode cX11_isClient 3 = .ok (.invokestatic 168, 3) := by decide +kernel
theorem dX11_isClient_6 : decode cX11_isClient 6 = .ok (.ireturn, 1) := by decide +kernel
def f_X11_isClient (M : gM) (a0 : Int32) : Option Int32 :=
  o1 (f_X11_in M a0 (0 : Int32) (3 : Int32)) (fun v2 => gz v2 (some v2))
set_option maxHeartbeats 4000000 in
set_option maxRecDepth 100000 in
theorem t_X11_isClient (l : Launch) (D : va_G) (dA : Nat → ClassId) (A : gI → Nat) (hJ : gJ mLive A) {M : gM} {a0 : Int32}  {y : Int32} (h : f_X11_isClient M a0 = some y) : mMi l yX11_isClient wsX11_isClient ({ frames := 1, cells := 0, slots := 0, locals := 22 } : Room) D dA A [.int a0] M y M := by
  refine Met.ofW (cc := cX11_isClient) (maxL := 1) (ret := (some .boolean)) (by decide) rfl ?_
  intro p e s m args below meth c s₁ B hml hv
  obtain ⟨rfl, hP, hK⟩ := hv
  generalize hargs : ([.int a0] : List Value).toArray = args at B ⊢
  have S : CallFix p m c cX11_isClient 1 s args wsX11_isClient RX11 := ⟨B.exec, B.bytes, hml, findClass_of_methodNamed B.named, atoms_spec (ws := wsX11_isClient) B.pre⟩
  obtain ⟨hx, hb, -, hown, hts⟩ := id S
  have hr := B.returns
  have hlocks := B.notSynchronized
  have X : gX D vwCl dA mLive A (gA mLive A) s := ⟨hK, hJ, fun i hi => ⟨i, hi, rfl⟩⟩
  have Z : gZ D mLay dA mLive A (gA mLive A) s.heap M s.heap [] := ⟨hP, va_S.rf⟩
  have hl := lv_entry ([.int a0]) (n := 1) (Nat.le_of_ble_eq_true rfl)
  rw [← hargs, lg_entry_eq, hargs]
  generalize (lg_sl ([.int a0]) ++ List.replicate (1 - (lg_sl ([.int a0])).length) Slot.unset).toArray = ls at hl ⊢
  have hl : lv_has ls 1 [(0, .int a0)] := hl
  unfold f_X11_isClient at h
  refine lv_iload_n hx hb dX11_isClient_0 rfl (lv_at hl 0 rfl) ?_
  refine lv_iconst (v := (0 : Int32)) hx hb dX11_isClient_1 (by decide) ?_
  refine lv_iconst (v := (3 : Int32)) hx hb dX11_isClient_2 (by decide) ?_
  obtain ⟨v2, hc1, h⟩ := o1_e h
  refine g_Si (As := [.int a0, .int (0 : Int32), .int (3 : Int32)]) (rest := []) S X Z (t_X11_in l D dA A hJ  hc1) (va_cwS 3 hts gX11_isClient_X11_in rfl rfl rfl (by decide +kernel) ⟨Nat.le_of_ble_eq_true rfl, Nat.le_of_ble_eq_true rfl⟩) rfl hl.1 rfl (by decide) dX11_isClient_3 ⟨Nat.zero_le _, Nat.zero_le _⟩ (fun H locs Z => ?_)
  obtain ⟨z3, h⟩ := gz_e h
  have hy := Option.some.inj h
  subst hy
  exact g_rz (z3) S Z hr hlocks dX11_isClient_6
-- X11_isObject (I)Z: 5 instructions
set_option maxRecDepth 20000 in
theorem ggX11_isObject_X11_in : GoodIn wsX11_isObject wsX11_in := goodIn_r _ [4] (by decide +kernel) (by decide +kernel)
set_option maxRecDepth 20000 in
theorem gX11_isObject_X11_in : GoodIn wsX11_isObject (va_wsS RX11 168 yX11_in wsX11_in) := goodIn_app (goodIn_of _ (by decide +kernel)) ggX11_isObject_X11_in
theorem dX11_isObject_0 : decode cX11_isObject 0 = .ok (.iload_n 0, 1) := by decide +kernel
theorem dX11_isObject_1 : decode cX11_isObject 1 = .ok (.iconst 0, 1) := by decide +kernel
theorem dX11_isObject_2 : decode cX11_isObject 2 = .ok (.bipush 47, 2) := by decide +kernel
theorem dX11_isObject_4 : decode cX11_isObject 4 = .ok (.invokestatic 168, 3) := by decide +kernel
theorem dX11_isObject_7 : decode cX11_isObject 7 = .ok (.ireturn, 1) := by decide +kernel
def f_X11_isObject (M : gM) (a0 : Int32) : Option Int32 :=
  o1 (f_X11_in M a0 (0 : Int32) (47 : Int32)) (fun v2 => gz v2 (some v2))
set_option maxHeartbeats 4000000 in
set_option maxRecDepth 100000 in
theorem t_X11_isObject (l : Launch) (D : va_G) (dA : Nat → ClassId) (A : gI → Nat) (hJ : gJ mLive A) {M : gM} {a0 : Int32}  {y : Int32} (h : f_X11_isObject M a0 = some y) : mMi l yX11_isObject wsX11_isObject ({ frames := 1, cells := 0, slots := 0, locals := 22 } : Room) D dA A [.int a0] M y M := by
  refine Met.ofW (cc := cX11_isObject) (maxL := 1) (ret := (some .boolean)) (by decide) rfl ?_
  intro p e s m args below meth c s₁ B hml hv
  obtain ⟨rfl, hP, hK⟩ := hv
  generalize hargs : ([.int a0] : List Value).toArray = args at B ⊢
  have S : CallFix p m c cX11_isObject 1 s args wsX11_isObject RX11 := ⟨B.exec, B.bytes, hml, findClass_of_methodNamed B.named, atoms_spec (ws := wsX11_isObject) B.pre⟩
  obtain ⟨hx, hb, -, hown, hts⟩ := id S
  have hr := B.returns
  have hlocks := B.notSynchronized
  have X : gX D vwCl dA mLive A (gA mLive A) s := ⟨hK, hJ, fun i hi => ⟨i, hi, rfl⟩⟩
  have Z : gZ D mLay dA mLive A (gA mLive A) s.heap M s.heap [] := ⟨hP, va_S.rf⟩
  have hl := lv_entry ([.int a0]) (n := 1) (Nat.le_of_ble_eq_true rfl)
  rw [← hargs, lg_entry_eq, hargs]
  generalize (lg_sl ([.int a0]) ++ List.replicate (1 - (lg_sl ([.int a0])).length) Slot.unset).toArray = ls at hl ⊢
  have hl : lv_has ls 1 [(0, .int a0)] := hl
  unfold f_X11_isObject at h
  refine lv_iload_n hx hb dX11_isObject_0 rfl (lv_at hl 0 rfl) ?_
  refine lv_iconst (v := (0 : Int32)) hx hb dX11_isObject_1 (by decide) ?_
  refine lv_bipush (v := (47 : Int32)) hx hb dX11_isObject_2 (by decide) ?_
  obtain ⟨v2, hc1, h⟩ := o1_e h
  refine g_Si (As := [.int a0, .int (0 : Int32), .int (47 : Int32)]) (rest := []) S X Z (t_X11_in l D dA A hJ  hc1) (va_cwS 3 hts gX11_isObject_X11_in rfl rfl rfl (by decide +kernel) ⟨Nat.le_of_ble_eq_true rfl, Nat.le_of_ble_eq_true rfl⟩) rfl hl.1 rfl (by decide) dX11_isObject_4 ⟨Nat.zero_le _, Nat.zero_le _⟩ (fun H locs Z => ?_)
  obtain ⟨z3, h⟩ := gz_e h
  have hy := Option.some.inj h
  subst hy
  exact g_rz (z3) S Z hr hlocks dX11_isObject_7
-- X11_kindOf (IZ)J: 16 instructions
theorem dX11_kindOf_0 : decode cX11_kindOf 0 = .ok (.iload_n 1, 1) := by decide +kernel
theorem dX11_kindOf_1 : decode cX11_kindOf 1 = .ok (.aload_n 0, 1) := by decide +kernel
theorem dX11_kindOf_2 : decode cX11_kindOf 2 = .ok (.getfield 162, 3) := by decide +kernel
theorem dX11_kindOf_5 : decode cX11_kindOf 5 = .ok (.if_icmp .lt 9, 3) := by decide +kernel
theorem dX11_kindOf_8 : decode cX11_kindOf 8 = .ok (.ldc2_w 172, 3) := by decide +kernel
theorem dX11_kindOf_11 : decode cX11_kindOf 11 = .ok (.goto 20, 3) := by decide +kernel
theorem dX11_kindOf_14 : decode cX11_kindOf 14 = .ok (.aload_n 0, 1) := by decide +kernel
theorem dX11_kindOf_15 : decode cX11_kindOf 15 = .ok (.getfield 29, 3) := by decide +kernel
theorem dX11_kindOf_18 : decode cX11_kindOf 18 = .ok (.iload_n 1, 1) := by decide +kernel
theorem dX11_kindOf_19 : decode cX11_kindOf 19 = .ok (.baload, 1) := by decide +kernel
theorem dX11_kindOf_20 : decode cX11_kindOf 20 = .ok (.iload_n 2, 1) := by decide +kernel
theorem dX11_kindOf_21 : decode cX11_kindOf 21 = .ok (.if_icmp .eq 9, 3) := by decide +kernel
theorem dX11_kindOf_24 : decode cX11_kindOf 24 = .ok (.ldc2_w 174, 3) := by decide +kernel
theorem dX11_kindOf_27 : decode cX11_kindOf 27 = .ok (.goto 4, 3) := by decide +kernel
theorem dX11_kindOf_30 : decode cX11_kindOf 30 = .ok (.lconst 0, 1) := by decide +kernel
theorem dX11_kindOf_31 : decode cX11_kindOf 31 = .ok (.lreturn, 1) := by decide +kernel
def f_X11_kindOf (M : gM) (a1 : Int32) (a2 : Int32) : Option Int64 :=
  lt (M m_o 6) (fun v1 => (if a1 < v1 then rd M m_isDirectory 48 a1 (fun v3 => (if v3 = a2 then some (0 : Int64) else some (-2199023255559 : Int64))) else some (-2199023255552 : Int64)))
set_option maxHeartbeats 4000000 in
set_option maxRecDepth 100000 in
theorem t_X11_kindOf (l : Launch) (D : va_G) (dA : Nat → ClassId) (A : gI → Nat) (hJ : gJ mLive A) {M : gM} {a1 : Int32} {a2 : Int32}  {y : Int64} (h : f_X11_kindOf M a1 a2 = some y) : mMl l yX11_kindOf wsX11_kindOf ({ frames := 0, cells := 0, slots := 0, locals := 0 } : Room) D dA A [.ref (A m_o), .int a1, .int a2] M y M := by
  refine Met.ofW (cc := cX11_kindOf) (maxL := 3) (ret := (some .long)) (by decide) rfl ?_
  intro p e s m args below meth c s₁ B hml hv
  obtain ⟨rfl, hP, hK⟩ := hv
  generalize hargs : ([.ref (A m_o), .int a1, .int a2] : List Value).toArray = args at B ⊢
  have S : CallFix p m c cX11_kindOf 3 s args wsX11_kindOf RX11 := ⟨B.exec, B.bytes, hml, findClass_of_methodNamed B.named, atoms_spec (ws := wsX11_kindOf) B.pre⟩
  obtain ⟨hx, hb, -, hown, hts⟩ := id S
  have hr := B.returns
  have hlocks := B.notSynchronized
  have X : gX D vwCl dA mLive A (gA mLive A) s := ⟨hK, hJ, fun i hi => ⟨i, hi, rfl⟩⟩
  have Z : gZ D mLay dA mLive A (gA mLive A) s.heap M s.heap [] := ⟨hP, va_S.rf⟩
  have hin : ∀ w ∈ wsX110, w ∈ wsX11_kindOf := fun w h => List.mem_cons_of_mem _ (List.mem_append_right _ h)
  have hl_29 := hts (.fieldLink RX11 29 "ReplicaFilesModel" "isDirectory" "[Z") (by decide +kernel)
  have hl_162 := hts (.fieldLink RX11 162 "ReplicaFilesModel" "made" "I") (by decide +kernel)
  have hc_172 := hts (.constantLong RX11 172 (-2199023255552)) (by decide +kernel)
  have hc_174 := hts (.constantLong RX11 174 (-2199023255559)) (by decide +kernel)
  have hl := lv_entry ([.ref (A m_o), .int a1, .int a2]) (n := 3) (Nat.le_of_ble_eq_true rfl)
  rw [← hargs, lg_entry_eq, hargs]
  generalize (lg_sl ([.ref (A m_o), .int a1, .int a2]) ++ List.replicate (3 - (lg_sl ([.ref (A m_o), .int a1, .int a2])).length) Slot.unset).toArray = ls at hl ⊢
  have hl : lv_has ls 3 [(0, .ref (A m_o)), (1, .int a1), (2, .int a2)] := hl
  unfold f_X11_kindOf at h
  refine lv_iload_n hx hb dX11_kindOf_0 rfl (lv_at hl 1 rfl) ?_
  refine lv_aload_n hx hb dX11_kindOf_1 rfl (lv_at hl 0 rfl) ?_
  refine mr_made S X Z hin hl_162 dX11_kindOf_2 h (fun v1 h => ?_)
  refine lv_icmp_lt (tgt := 14) hx hb dX11_kindOf_5 (by decide) (fun c2 => ?_) (fun c2 => ?_)
  · have h := if_t c2 h
    refine lv_aload_n hx hb dX11_kindOf_14 rfl (lv_at hl 0 rfl) ?_
    refine mr_isDirectory S X Z hin hl_29 dX11_kindOf_15 ?_
    refine lv_iload_n hx hb dX11_kindOf_18 rfl (lv_at hl 1 rfl) ?_
    refine g_zald S X Z ml_isDirectory rfl dX11_kindOf_19 h (fun v3 h => ?_)
    refine lv_iload_n hx hb dX11_kindOf_20 rfl (lv_at hl 2 rfl) ?_
    refine lv_icmp_eq (tgt := 30) hx hb dX11_kindOf_21 (by decide) (fun c4 => ?_) (fun c4 => ?_)
    · have h := if_t c4 h
      refine lv_lconst (v := (0 : Int64)) hx hb dX11_kindOf_30 (by decide) ?_
      have hy := Option.some.inj h
      subst hy
      exact g_rl S Z hr hlocks dX11_kindOf_31
    · have h := if_f c4 h
      refine lv_ldc2 hx hb hown hc_174 dX11_kindOf_24 ?_
      refine lv_goto (tgt := 31) hx hb dX11_kindOf_27 (by decide) ?_
      have hy := Option.some.inj h
      subst hy
      exact g_rl S Z hr hlocks dX11_kindOf_31
  · have h := if_f c2 h
    refine lv_ldc2 hx hb hown hc_172 dX11_kindOf_8 ?_
    refine lv_goto (tgt := 31) hx hb dX11_kindOf_11 (by decide) ?_
    have hy := Option.some.inj h
    subst hy
    exact g_rl S Z hr hlocks dX11_kindOf_31
-- X11_isNear (II)Z: 18 instructions
theorem dX11_isNear_0 : decode cX11_isNear 0 = .ok (.aload_n 0, 1) := by decide +kernel
theorem dX11_isNear_1 : decode cX11_isNear 1 = .ok (.getfield 7, 3) := by decide +kernel
theorem dX11_isNear_4 : decode cX11_isNear 4 = .ok (.iload_n 2, 1) := by decide +kernel
theorem dX11_isNear_5 : decode cX11_isNear 5 = .ok (.baload, 1) := by decide +kernel
theorem dX11_isNear_6 : decode cX11_isNear 6 = .ok (.ifCond .eq 20, 3) := by decide +kernel
theorem dX11_isNear_9 : decode cX11_isNear 9 = .ok (.aload_n 0, 1) := by decide +kernel
theorem dX11_isNear_10 : decode cX11_isNear 10 = .ok (.getfield 16, 3) := by decide +kernel
theorem dX11_isNear_13 : decode cX11_isNear 13 = .ok (.iconst 4, 1) := by decide +kernel
theorem dX11_isNear_14 : decode cX11_isNear 14 = .ok (.iload_n 1, 1) := by decide +kernel
theorem dX11_isNear_15 : decode cX11_isNear 15 = .ok (.imul, 1) := by decide +kernel
theorem dX11_isNear_16 : decode cX11_isNear 16 = .ok (.iload_n 2, 1) := by decide +kernel
theorem dX11_isNear_17 : decode cX11_isNear 17 = .ok (.iadd, 1) := by decide +kernel
theorem dX11_isNear_18 : decode cX11_isNear 18 = .ok (.baload, 1) := by decide +kernel
theorem dX11_isNear_19 : decode cX11_isNear 19 = .ok (.ifCond .eq 7, 3) := by decide +kernel
theorem dX11_isNear_22 : decode cX11_isNear 22 = .ok (.iconst 1, 1) := by decide +kernel
theorem dX11_isNear_23 : decode cX11_isNear 23 = .ok (.goto 4, 3) := by decide +kernel
theorem dX11_isNear_26 : decode cX11_isNear 26 = .ok (.iconst 0, 1) := by decide +kernel
theorem dX11_isNear_27 : decode cX11_isNear 27 = .ok (.ireturn, 1) := by decide +kernel
def f_X11_isNear (M : gM) (a1 : Int32) (a2 : Int32) : Option Int32 :=
  rd M m_up 4 a2 (fun v1 => (if v1 = 0 then some (0 : Int32) else rd M m_reaches 16 (((4 : Int32) * a1) + a2) (fun v3 => (if v3 = 0 then some (0 : Int32) else some (1 : Int32)))))
set_option maxHeartbeats 4000000 in
set_option maxRecDepth 100000 in
theorem t_X11_isNear (l : Launch) (D : va_G) (dA : Nat → ClassId) (A : gI → Nat) (hJ : gJ mLive A) {M : gM} {a1 : Int32} {a2 : Int32}  {y : Int32} (h : f_X11_isNear M a1 a2 = some y) : mMi l yX11_isNear wsX11_isNear ({ frames := 0, cells := 0, slots := 0, locals := 0 } : Room) D dA A [.ref (A m_o), .int a1, .int a2] M y M := by
  refine Met.ofW (cc := cX11_isNear) (maxL := 3) (ret := (some .boolean)) (by decide) rfl ?_
  intro p e s m args below meth c s₁ B hml hv
  obtain ⟨rfl, hP, hK⟩ := hv
  generalize hargs : ([.ref (A m_o), .int a1, .int a2] : List Value).toArray = args at B ⊢
  have S : CallFix p m c cX11_isNear 3 s args wsX11_isNear RX11 := ⟨B.exec, B.bytes, hml, findClass_of_methodNamed B.named, atoms_spec (ws := wsX11_isNear) B.pre⟩
  obtain ⟨hx, hb, -, hown, hts⟩ := id S
  have hr := B.returns
  have hlocks := B.notSynchronized
  have X : gX D vwCl dA mLive A (gA mLive A) s := ⟨hK, hJ, fun i hi => ⟨i, hi, rfl⟩⟩
  have Z : gZ D mLay dA mLive A (gA mLive A) s.heap M s.heap [] := ⟨hP, va_S.rf⟩
  have hin : ∀ w ∈ wsX110, w ∈ wsX11_isNear := fun w h => List.mem_cons_of_mem _ (List.mem_append_right _ h)
  have hl_7 := hts (.fieldLink RX11 7 "ReplicaFilesModel" "up" "[Z") (by decide +kernel)
  have hl_16 := hts (.fieldLink RX11 16 "ReplicaFilesModel" "reaches" "[Z") (by decide +kernel)
  have hl := lv_entry ([.ref (A m_o), .int a1, .int a2]) (n := 3) (Nat.le_of_ble_eq_true rfl)
  rw [← hargs, lg_entry_eq, hargs]
  generalize (lg_sl ([.ref (A m_o), .int a1, .int a2]) ++ List.replicate (3 - (lg_sl ([.ref (A m_o), .int a1, .int a2])).length) Slot.unset).toArray = ls at hl ⊢
  have hl : lv_has ls 3 [(0, .ref (A m_o)), (1, .int a1), (2, .int a2)] := hl
  unfold f_X11_isNear at h
  refine lv_aload_n hx hb dX11_isNear_0 rfl (lv_at hl 0 rfl) ?_
  refine mr_up S X Z hin hl_7 dX11_isNear_1 ?_
  refine lv_iload_n hx hb dX11_isNear_4 rfl (lv_at hl 2 rfl) ?_
  refine g_zald S X Z ml_up rfl dX11_isNear_5 h (fun v1 h => ?_)
  refine lv_if_eq (tgt := 26) hx hb dX11_isNear_6 (by decide) (fun c2 => ?_) (fun c2 => ?_)
  · have h := if_t c2 h
    refine lv_iconst (v := (0 : Int32)) hx hb dX11_isNear_26 (by decide) ?_
    have hy := Option.some.inj h
    subst hy
    exact g_rz (Or.inl rfl) S Z hr hlocks dX11_isNear_27
  · have h := if_f c2 h
    refine lv_aload_n hx hb dX11_isNear_9 rfl (lv_at hl 0 rfl) ?_
    refine mr_reaches S X Z hin hl_16 dX11_isNear_10 ?_
    refine lv_iconst (v := (4 : Int32)) hx hb dX11_isNear_13 (by decide) ?_
    refine lv_iload_n hx hb dX11_isNear_14 rfl (lv_at hl 1 rfl) ?_
    refine lv_imul hx hb dX11_isNear_15 ?_
    refine lv_iload_n hx hb dX11_isNear_16 rfl (lv_at hl 2 rfl) ?_
    refine lv_iadd hx hb dX11_isNear_17 ?_
    refine g_zald S X Z ml_reaches rfl dX11_isNear_18 h (fun v3 h => ?_)
    refine lv_if_eq (tgt := 26) hx hb dX11_isNear_19 (by decide) (fun c4 => ?_) (fun c4 => ?_)
    · have h := if_t c4 h
      refine lv_iconst (v := (0 : Int32)) hx hb dX11_isNear_26 (by decide) ?_
      have hy := Option.some.inj h
      subst hy
      exact g_rz (Or.inl rfl) S Z hr hlocks dX11_isNear_27
    · have h := if_f c4 h
      refine lv_iconst (v := (1 : Int32)) hx hb dX11_isNear_22 (by decide) ?_
      refine lv_goto (tgt := 27) hx hb dX11_isNear_23 (by decide) ?_
      have hy := Option.some.inj h
      subst hy
      exact g_rz (Or.inr rfl) S Z hr hlocks dX11_isNear_27
-- X11_nearSet (I)I: 25 instructions
set_option maxRecDepth 20000 in
theorem ggX11_nearSet_X11_isNear : GoodIn wsX11_nearSet wsX11_isNear := goodIn_r _ [6, 7, 8, 9, 10, 11, 12, 13, 14, 15, 16, 17, 18, 19, 20, 21, 22, 23, 24, 25, 26, 27, 28, 29, 30, 31, 32, 33, 34, 35, 36, 37, 38, 39, 40, 41, 42, 43, 44, 45, 46, 47, 48, 49, 50, 51, 52, 53, 54, 55, 56, 57, 58, 59, 60, 61, 62, 63, 64, 65, 66, 67, 68, 69, 70, 71, 72, 73, 74, 75] (by decide +kernel) (by decide +kernel)
set_option maxRecDepth 20000 in
theorem gX11_nearSet_X11_isNear : GoodIn wsX11_nearSet (wsV RX11 176 RX11 yX11_isNear wsX11_isNear) := goodIn_app (goodIn_of _ (by decide +kernel)) ggX11_nearSet_X11_isNear
theorem dX11_nearSet_0 : decode cX11_nearSet 0 = .ok (.iconst 0, 1) := by decide +kernel
theorem dX11_nearSet_1 : decode cX11_nearSet 1 = .ok (.istore_n 2, 1) := by decide +kernel
theorem dX11_nearSet_2 : decode cX11_nearSet 2 = .ok (.iconst 0, 1) := by decide +kernel
theorem dX11_nearSet_3 : decode cX11_nearSet 3 = .ok (.istore_n 3, 1) := by decide +kernel
theorem dX11_nearSet_4 : decode cX11_nearSet 4 = .ok (.iload_n 3, 1) := by decide +kernel
theorem dX11_nearSet_5 : decode cX11_nearSet 5 = .ok (.aload_n 0, 1) := by decide +kernel
theorem dX11_nearSet_6 : decode cX11_nearSet 6 = .ok (.getfield 155, 3) := by decide +kernel
theorem dX11_nearSet_9 : decode cX11_nearSet 9 = .ok (.if_icmp .ge 28, 3) := by decide +kernel
theorem dX11_nearSet_12 : decode cX11_nearSet 12 = .ok (.aload_n 0, 1) := by decide +kernel
theorem dX11_nearSet_13 : decode cX11_nearSet 13 = .ok (.iload_n 1, 1) := by decide +kernel
theorem dX11_nearSet_14 : decode cX11_nearSet 14 = .ok (.iload_n 3, 1) := by decide +kernel
theorem dX11_nearSet_15 : decode cX11_nearSet 15 = .ok (.invokevirtual 176, 3) := by decide +kernel
theorem dX11_nearSet_18 : decode cX11_nearSet 18 = .ok (.ifCond .eq 11, 3) := by decide +kernel
theorem dX11_nearSet_21 : decode cX11_nearSet 21 = .ok (.iload_n 2, 1) := by decide +kernel
theorem dX11_nearSet_22 : decode cX11_nearSet 22 = .ok (.iconst 1, 1) := by decide +kernel
theorem dX11_nearSet_23 : decode cX11_nearSet 23 = .ok (.iload_n 3, 1) := by decide +kernel
theorem dX11_nearSet_24 : decode cX11_nearSet 24 = .ok (.ishl, 1) := by decide +kernel
theorem dX11_nearSet_25 : decode cX11_nearSet 25 = .ok (.ior, 1) := by decide +kernel
theorem dX11_nearSet_26 : decode cX11_nearSet 26 = .ok (.goto 4, 3) := by decide +kernel
theorem dX11_nearSet_29 : decode cX11_nearSet 29 = .ok (.iload_n 2, 1) := by decide +kernel
theorem dX11_nearSet_30 : decode cX11_nearSet 30 = .ok (.istore_n 2, 1) := by decide +kernel
theorem dX11_nearSet_31 : decode cX11_nearSet 31 = .ok (.iinc 3 1, 3) := by decide +kernel
theorem dX11_nearSet_34 : decode cX11_nearSet 34 = .ok (.goto (-30), 3) := by decide +kernel
theorem dX11_nearSet_37 : decode cX11_nearSet 37 = .ok (.iload_n 2, 1) := by decide +kernel
theorem dX11_nearSet_38 : decode cX11_nearSet 38 = .ok (.ireturn, 1) := by decide +kernel
def f_X11_nearSet_L4 (M4 : gM) : Nat → Int32 → Int32 → Int32 → Option Int32
  | 0, _, _, _ => none
  | n5 + 1, x1, x2, x3 => lt (M4 m_o 0) (fun v6 => (if v6 ≤ x3 then some x2 else o1 (f_X11_isNear M4 x1 x3) (fun v9 => jn (fun (b10 : Int32) => lt (x3 + 1) (fun x11 => f_X11_nearSet_L4 M4 n5 x1 b10 x11)) (fun J30 => (if v9 = 0 then J30 x2 else J30 (x2 ||| ((1 : Int32) <<< (x3 &&& 31))))))))
def f_X11_nearSet (M : gM) (a1 : Int32) : Option Int32 :=
  f_X11_nearSet_L4 M 100 a1 (0 : Int32) (0 : Int32)
set_option maxHeartbeats 4000000 in
set_option maxRecDepth 100000 in
theorem t_X11_nearSet (l : Launch) (D : va_G) (dA : Nat → ClassId) (A : gI → Nat) (hJ : gJ mLive A) {M : gM} {a1 : Int32}  {y : Int32} (h : f_X11_nearSet M a1 = some y) : mMi l yX11_nearSet wsX11_nearSet ({ frames := 1, cells := 0, slots := 0, locals := 22 } : Room) D dA A [.ref (A m_o), .int a1] M y M := by
  refine Met.ofW (cc := cX11_nearSet) (maxL := 4) (ret := (some .int)) (by decide) rfl ?_
  intro p e s m args below meth c s₁ B hml hv
  obtain ⟨rfl, hP, hK⟩ := hv
  generalize hargs : ([.ref (A m_o), .int a1] : List Value).toArray = args at B ⊢
  have S : CallFix p m c cX11_nearSet 4 s args wsX11_nearSet RX11 := ⟨B.exec, B.bytes, hml, findClass_of_methodNamed B.named, atoms_spec (ws := wsX11_nearSet) B.pre⟩
  obtain ⟨hx, hb, -, hown, hts⟩ := id S
  have hr := B.returns
  have hlocks := B.notSynchronized
  have X : gX D vwCl dA mLive A (gA mLive A) s := ⟨hK, hJ, fun i hi => ⟨i, hi, rfl⟩⟩
  have Z : gZ D mLay dA mLive A (gA mLive A) s.heap M s.heap [] := ⟨hP, va_S.rf⟩
  have hin : ∀ w ∈ wsX110, w ∈ wsX11_nearSet := fun w h => List.mem_cons_of_mem _ (List.mem_append_right _ h)
  have hl_155 := hts (.fieldLink RX11 155 "ReplicaFilesModel" "servers" "I") (by decide +kernel)
  have hl := lv_entry ([.ref (A m_o), .int a1]) (n := 4) (Nat.le_of_ble_eq_true rfl)
  rw [← hargs, lg_entry_eq, hargs]
  generalize (lg_sl ([.ref (A m_o), .int a1]) ++ List.replicate (4 - (lg_sl ([.ref (A m_o), .int a1])).length) Slot.unset).toArray = ls at hl ⊢
  have hl : lv_has ls 4 [(0, .ref (A m_o)), (1, .int a1)] := hl
  unfold f_X11_nearSet at h
  refine lv_iconst (v := (0 : Int32)) hx hb dX11_nearSet_0 (by decide) ?_
  refine lv_istore_n (lv' := [(2, .int (0 : Int32)), (0, .ref (A m_o)), (1, .int a1)]) hx hb dX11_nearSet_1 rfl hl (by decide) rfl (fun ls hl => ?_)
  refine lv_iconst (v := (0 : Int32)) hx hb dX11_nearSet_2 (by decide) ?_
  refine lv_istore_n (lv' := [(3, .int (0 : Int32)), (2, .int (0 : Int32)), (0, .ref (A m_o)), (1, .int a1)]) hx hb dX11_nearSet_3 rfl hl (by decide) rfl (fun ls hl => ?_)
  have hL4 : ∀ (n : Nat) (x1 : Int32) (x2 : Int32) (x3 : Int32) (H : Heap) (locs : List Loc) (ls : Array Slot), gZ D mLay dA mLive A (gA mLive A) s.heap M H locs → lv_has ls 4 [(0, .ref (A m_o)), (1, .int x1), (2, .int x2), (3, .int x3)] → f_X11_nearSet_L4 M n x1 x2 x3 = some y → W p l e (headSpec wsX11_nearSet ({ frames := 1, cells := 0, slots := 0, locals := 22 } : Room)).room s m args below meth c H locs 0 0 (MQ below (mQi D dA A (y, M)) args s 0 0 (gA mLive A)) (F0 m 4 ls []) := by
    intro n
    induction n with
    | zero =>
      intro x1 x2 x3 H locs ls Z hl h
      rw [f_X11_nearSet_L4] at h
      cases h
    | succ n5 ih4 =>
      intro x1 x2 x3 H locs ls Z hl h
      rw [f_X11_nearSet_L4] at h
      refine lv_iload_n hx hb dX11_nearSet_4 rfl (lv_at hl 3 rfl) ?_
      refine lv_aload_n hx hb dX11_nearSet_5 rfl (lv_at hl 0 rfl) ?_
      refine mr_servers S X Z hin hl_155 dX11_nearSet_6 h (fun v6 h => ?_)
      refine lv_icmp_ge (tgt := 37) hx hb dX11_nearSet_9 (by decide) (fun c7 => ?_) (fun c7 => ?_)
      · have h := if_t c7 h
        refine lv_iload_n hx hb dX11_nearSet_37 rfl (lv_at hl 2 rfl) ?_
        have hy := Option.some.inj h
        subst hy
        exact g_ri S Z hr hlocks dX11_nearSet_38
      · have h := if_f c7 h
        refine lv_aload_n hx hb dX11_nearSet_12 rfl (lv_at hl 0 rfl) ?_
        refine lv_iload_n hx hb dX11_nearSet_13 rfl (lv_at hl 1 rfl) ?_
        refine lv_iload_n hx hb dX11_nearSet_14 rfl (lv_at hl 3 rfl) ?_
        obtain ⟨v9, hc8, h⟩ := o1_e h
        refine g_Vi (As := [.int x1, .int x3]) (rest := []) S X Z mlv_o rfl rfl (t_X11_isNear l D dA A hJ  hc8) (cwV 2 hts gX11_nearSet_X11_isNear rfl rfl rfl (by decide +kernel) ⟨Nat.le_of_ble_eq_true rfl, Nat.le_of_ble_eq_true rfl⟩) rfl hl.1 rfl (by decide) dX11_nearSet_15 ⟨Nat.zero_le _, Nat.zero_le _⟩ (fun H locs Z => ?_)
        obtain ⟨J30, eJ30, h⟩ := jn_e h
        have hJ30 : ∀ (b10 : Int32) (H : Heap) (locs : List Loc) (ls : Array Slot), gZ D mLay dA mLive A (gA mLive A) s.heap M H locs → lv_has ls 4 [(0, .ref (A m_o)), (1, .int x1), (3, .int x3)] → J30 b10 = some y → W p l e (headSpec wsX11_nearSet ({ frames := 1, cells := 0, slots := 0, locals := 22 } : Room)).room s m args below meth c H locs 0 0 (MQ below (mQi D dA A (y, M)) args s 0 0 (gA mLive A)) (F0 m 30 ls [.int b10]) := by
          intro b10 H locs ls Z hl h
          rw [eJ30] at h
          try dsimp only at h
          refine lv_istore_n (lv' := [(2, .int b10), (0, .ref (A m_o)), (1, .int x1), (3, .int x3)]) hx hb dX11_nearSet_30 rfl hl (by decide) rfl (fun ls hl => ?_)
          obtain ⟨x11, ex11, h⟩ := lt_e h
          refine lv_iinc (v := x11) (lv' := [(3, .int x11), (2, .int b10), (0, .ref (A m_o)), (1, .int x1)]) hx hb dX11_nearSet_31 hl (k := 3) rfl (by rw [ex11]; rfl) (by decide) rfl (fun ls hl => ?_)
          refine lv_goto (tgt := 4) hx hb dX11_nearSet_34 (by decide) ?_
          exact ih4 x1 b10 x11 _ _ _ Z (lv_sub hl [2, 3, 1, 0] rfl) h
        refine lv_if_eq (tgt := 29) hx hb dX11_nearSet_18 (by decide) (fun c12 => ?_) (fun c12 => ?_)
        · have h := if_t c12 h
          refine lv_iload_n hx hb dX11_nearSet_29 rfl (lv_at hl 2 rfl) ?_
          exact hJ30 x2 _ _ _ Z (lv_sub hl [0, 1, 3] rfl) h
        · have h := if_f c12 h
          refine lv_iload_n hx hb dX11_nearSet_21 rfl (lv_at hl 2 rfl) ?_
          refine lv_iconst (v := (1 : Int32)) hx hb dX11_nearSet_22 (by decide) ?_
          refine lv_iload_n hx hb dX11_nearSet_23 rfl (lv_at hl 3 rfl) ?_
          refine lv_ishl hx hb dX11_nearSet_24 ?_
          refine lv_ior hx hb dX11_nearSet_25 ?_
          refine lv_goto (tgt := 30) hx hb dX11_nearSet_26 (by decide) ?_
          exact hJ30 (x2 ||| ((1 : Int32) <<< (x3 &&& 31))) _ _ _ Z (lv_sub hl [0, 1, 3] rfl) h
  exact hL4 100 a1 (0 : Int32) (0 : Int32) _ _ _ Z (lv_sub hl [2, 3, 1, 0] rfl) h
-- X11_isAlone (I)Z: 13 instructions
set_option maxRecDepth 20000 in
theorem ggX11_isAlone_X11_nearSet : GoodIn wsX11_isAlone wsX11_nearSet := goodIn_r _ [6, 7, 8, 9, 10, 5, 11, 12, 13, 14, 15, 16, 17, 18, 19, 20, 21, 22, 23, 24, 25, 26, 27, 28, 29, 30, 31, 32, 33, 34, 35, 36, 37, 38, 39, 40, 41, 42, 43, 44, 45, 46, 47, 48, 49, 50, 51, 52, 53, 54, 55, 56, 57, 58, 59, 60, 61, 62, 63, 64, 65, 66, 67, 68, 69, 70, 71, 72, 73, 74, 75, 76, 77, 78, 79, 80] (by decide +kernel) (by decide +kernel)
set_option maxRecDepth 20000 in
theorem gX11_isAlone_X11_nearSet : GoodIn wsX11_isAlone (wsV RX11 180 RX11 yX11_nearSet wsX11_nearSet) := goodIn_app (goodIn_of _ (by decide +kernel)) ggX11_isAlone_X11_nearSet
theorem dX11_isAlone_0 : decode cX11_isAlone 0 = .ok (.aload_n 0, 1) := by decide +kernel
theorem dX11_isAlone_1 : decode cX11_isAlone 1 = .ok (.iload_n 1, 1) := by decide +kernel
theorem dX11_isAlone_2 : decode cX11_isAlone 2 = .ok (.invokevirtual 180, 3) := by decide +kernel
theorem dX11_isAlone_5 : decode cX11_isAlone 5 = .ok (.ifCond .eq 12, 3) := by decide +kernel
theorem dX11_isAlone_8 : decode cX11_isAlone 8 = .ok (.aload_n 0, 1) := by decide +kernel
theorem dX11_isAlone_9 : decode cX11_isAlone 9 = .ok (.getfield 98, 3) := by decide +kernel
theorem dX11_isAlone_12 : decode cX11_isAlone 12 = .ok (.iload_n 1, 1) := by decide +kernel
theorem dX11_isAlone_13 : decode cX11_isAlone 13 = .ok (.iaload, 1) := by decide +kernel
theorem dX11_isAlone_14 : decode cX11_isAlone 14 = .ok (.ifCond .le 7, 3) := by decide +kernel
theorem dX11_isAlone_17 : decode cX11_isAlone 17 = .ok (.iconst 1, 1) := by decide +kernel
theorem dX11_isAlone_18 : decode cX11_isAlone 18 = .ok (.goto 4, 3) := by decide +kernel
theorem dX11_isAlone_21 : decode cX11_isAlone 21 = .ok (.iconst 0, 1) := by decide +kernel
theorem dX11_isAlone_22 : decode cX11_isAlone 22 = .ok (.ireturn, 1) := by decide +kernel
def f_X11_isAlone (M : gM) (a1 : Int32) : Option Int32 :=
  o1 (f_X11_nearSet M a1) (fun v2 => (if v2 = 0 then some (1 : Int32) else rd M m_records 4 a1 (fun v4 => (if v4 ≤ 0 then some (0 : Int32) else some (1 : Int32)))))
set_option maxHeartbeats 4000000 in
set_option maxRecDepth 100000 in
theorem t_X11_isAlone (l : Launch) (D : va_G) (dA : Nat → ClassId) (A : gI → Nat) (hJ : gJ mLive A) {M : gM} {a1 : Int32}  {y : Int32} (h : f_X11_isAlone M a1 = some y) : mMi l yX11_isAlone wsX11_isAlone ({ frames := 2, cells := 0, slots := 0, locals := 45 } : Room) D dA A [.ref (A m_o), .int a1] M y M := by
  refine Met.ofW (cc := cX11_isAlone) (maxL := 2) (ret := (some .boolean)) (by decide) rfl ?_
  intro p e s m args below meth c s₁ B hml hv
  obtain ⟨rfl, hP, hK⟩ := hv
  generalize hargs : ([.ref (A m_o), .int a1] : List Value).toArray = args at B ⊢
  have S : CallFix p m c cX11_isAlone 2 s args wsX11_isAlone RX11 := ⟨B.exec, B.bytes, hml, findClass_of_methodNamed B.named, atoms_spec (ws := wsX11_isAlone) B.pre⟩
  obtain ⟨hx, hb, -, hown, hts⟩ := id S
  have hr := B.returns
  have hlocks := B.notSynchronized
  have X : gX D vwCl dA mLive A (gA mLive A) s := ⟨hK, hJ, fun i hi => ⟨i, hi, rfl⟩⟩
  have Z : gZ D mLay dA mLive A (gA mLive A) s.heap M s.heap [] := ⟨hP, va_S.rf⟩
  have hin : ∀ w ∈ wsX110, w ∈ wsX11_isAlone := fun w h => List.mem_cons_of_mem _ (List.mem_append_right _ h)
  have hl_98 := hts (.fieldLink RX11 98 "ReplicaFilesModel" "records" "[I") (by decide +kernel)
  have hl := lv_entry ([.ref (A m_o), .int a1]) (n := 2) (Nat.le_of_ble_eq_true rfl)
  rw [← hargs, lg_entry_eq, hargs]
  generalize (lg_sl ([.ref (A m_o), .int a1]) ++ List.replicate (2 - (lg_sl ([.ref (A m_o), .int a1])).length) Slot.unset).toArray = ls at hl ⊢
  have hl : lv_has ls 2 [(0, .ref (A m_o)), (1, .int a1)] := hl
  unfold f_X11_isAlone at h
  refine lv_aload_n hx hb dX11_isAlone_0 rfl (lv_at hl 0 rfl) ?_
  refine lv_iload_n hx hb dX11_isAlone_1 rfl (lv_at hl 1 rfl) ?_
  obtain ⟨v2, hc1, h⟩ := o1_e h
  refine g_Vi (As := [.int a1]) (rest := []) S X Z mlv_o rfl rfl (t_X11_nearSet l D dA A hJ  hc1) (cwV 1 hts gX11_isAlone_X11_nearSet rfl rfl rfl (by decide +kernel) ⟨Nat.le_of_ble_eq_true rfl, Nat.le_of_ble_eq_true rfl⟩) rfl hl.1 rfl (by decide) dX11_isAlone_2 ⟨Nat.zero_le _, Nat.zero_le _⟩ (fun H locs Z => ?_)
  refine lv_if_eq (tgt := 17) hx hb dX11_isAlone_5 (by decide) (fun c3 => ?_) (fun c3 => ?_)
  · have h := if_t c3 h
    refine lv_iconst (v := (1 : Int32)) hx hb dX11_isAlone_17 (by decide) ?_
    refine lv_goto (tgt := 22) hx hb dX11_isAlone_18 (by decide) ?_
    have hy := Option.some.inj h
    subst hy
    exact g_rz (Or.inr rfl) S Z hr hlocks dX11_isAlone_22
  · have h := if_f c3 h
    refine lv_aload_n hx hb dX11_isAlone_8 rfl (lv_at hl 0 rfl) ?_
    refine mr_records S X Z hin hl_98 dX11_isAlone_9 ?_
    refine lv_iload_n hx hb dX11_isAlone_12 rfl (lv_at hl 1 rfl) ?_
    refine g_iald S X Z ml_records rfl dX11_isAlone_13 h (fun v4 h => ?_)
    refine lv_if_le (tgt := 21) hx hb dX11_isAlone_14 (by decide) (fun c5 => ?_) (fun c5 => ?_)
    · have h := if_t c5 h
      refine lv_iconst (v := (0 : Int32)) hx hb dX11_isAlone_21 (by decide) ?_
      have hy := Option.some.inj h
      subst hy
      exact g_rz (Or.inl rfl) S Z hr hlocks dX11_isAlone_22
    · have h := if_f c5 h
      refine lv_iconst (v := (1 : Int32)) hx hb dX11_isAlone_17 (by decide) ?_
      refine lv_goto (tgt := 22) hx hb dX11_isAlone_18 (by decide) ?_
      have hy := Option.some.inj h
      subst hy
      exact g_rz (Or.inr rfl) S Z hr hlocks dX11_isAlone_22
-- X11_leastOf (I)I: 15 instructions
theorem dX11_leastOf_0 : decode cX11_leastOf 0 = .ok (.iconst 0, 1) := by decide +kernel
theorem dX11_leastOf_1 : decode cX11_leastOf 1 = .ok (.istore_n 1, 1) := by decide +kernel
theorem dX11_leastOf_2 : decode cX11_leastOf 2 = .ok (.iload_n 1, 1) := by decide +kernel
theorem dX11_leastOf_3 : decode cX11_leastOf 3 = .ok (.iconst 4, 1) := by decide +kernel
theorem dX11_leastOf_4 : decode cX11_leastOf 4 = .ok (.if_icmp .ge 17, 3) := by decide +kernel
theorem dX11_leastOf_7 : decode cX11_leastOf 7 = .ok (.iload_n 0, 1) := by decide +kernel
theorem dX11_leastOf_8 : decode cX11_leastOf 8 = .ok (.iload_n 1, 1) := by decide +kernel
theorem dX11_leastOf_9 : decode cX11_leastOf 9 = .ok (.ishr, 1) := by decide +kernel
theorem dX11_leastOf_10 : decode cX11_leastOf 10 = .ok (.iconst 1, 1) := by decide +kernel
theorem dX11_leastOf_11 : decode cX11_leastOf 11 = .ok (.iand, 1) := by decide +kernel
theorem dX11_leastOf_12 : decode cX11_leastOf 12 = .ok (.ifCond .ne 9, 3) := by decide +kernel
theorem dX11_leastOf_15 : decode cX11_leastOf 15 = .ok (.iinc 1 1, 3) := by decide +kernel
theorem dX11_leastOf_18 : decode cX11_leastOf 18 = .ok (.goto (-16), 3) := by decide +kernel
theorem dX11_leastOf_21 : decode cX11_leastOf 21 = .ok (.iload_n 1, 1) := by decide +kernel
theorem dX11_leastOf_22 : decode cX11_leastOf 22 = .ok (.ireturn, 1) := by decide +kernel
def f_X11_leastOf_L2 (M3 : gM) : Nat → Int32 → Int32 → Option Int32
  | 0, _, _ => none
  | n4 + 1, x1, x2 => (if (4 : Int32) ≤ x2 then some x2 else (if ((x1 >>> (x2 &&& 31)) &&& (1 : Int32)) = 0 then lt (x2 + 1) (fun x7 => f_X11_leastOf_L2 M3 n4 x1 x7) else some x2))
def f_X11_leastOf (M : gM) (a0 : Int32) : Option Int32 :=
  f_X11_leastOf_L2 M 100 a0 (0 : Int32)
set_option maxHeartbeats 4000000 in
set_option maxRecDepth 100000 in
theorem t_X11_leastOf (l : Launch) (D : va_G) (dA : Nat → ClassId) (A : gI → Nat) (hJ : gJ mLive A) {M : gM} {a0 : Int32}  {y : Int32} (h : f_X11_leastOf M a0 = some y) : mMi l yX11_leastOf wsX11_leastOf ({ frames := 0, cells := 0, slots := 0, locals := 0 } : Room) D dA A [.int a0] M y M := by
  refine Met.ofW (cc := cX11_leastOf) (maxL := 2) (ret := (some .int)) (by decide) rfl ?_
  intro p e s m args below meth c s₁ B hml hv
  obtain ⟨rfl, hP, hK⟩ := hv
  generalize hargs : ([.int a0] : List Value).toArray = args at B ⊢
  have S : CallFix p m c cX11_leastOf 2 s args wsX11_leastOf RX11 := ⟨B.exec, B.bytes, hml, findClass_of_methodNamed B.named, atoms_spec (ws := wsX11_leastOf) B.pre⟩
  obtain ⟨hx, hb, -, hown, hts⟩ := id S
  have hr := B.returns
  have hlocks := B.notSynchronized
  have X : gX D vwCl dA mLive A (gA mLive A) s := ⟨hK, hJ, fun i hi => ⟨i, hi, rfl⟩⟩
  have Z : gZ D mLay dA mLive A (gA mLive A) s.heap M s.heap [] := ⟨hP, va_S.rf⟩
  have hl := lv_entry ([.int a0]) (n := 2) (Nat.le_of_ble_eq_true rfl)
  rw [← hargs, lg_entry_eq, hargs]
  generalize (lg_sl ([.int a0]) ++ List.replicate (2 - (lg_sl ([.int a0])).length) Slot.unset).toArray = ls at hl ⊢
  have hl : lv_has ls 2 [(0, .int a0)] := hl
  unfold f_X11_leastOf at h
  refine lv_iconst (v := (0 : Int32)) hx hb dX11_leastOf_0 (by decide) ?_
  refine lv_istore_n (lv' := [(1, .int (0 : Int32)), (0, .int a0)]) hx hb dX11_leastOf_1 rfl hl (by decide) rfl (fun ls hl => ?_)
  have hL2 : ∀ (n : Nat) (x1 : Int32) (x2 : Int32) (H : Heap) (locs : List Loc) (ls : Array Slot), gZ D mLay dA mLive A (gA mLive A) s.heap M H locs → lv_has ls 2 [(0, .int x1), (1, .int x2)] → f_X11_leastOf_L2 M n x1 x2 = some y → W p l e (headSpec wsX11_leastOf ({ frames := 0, cells := 0, slots := 0, locals := 0 } : Room)).room s m args below meth c H locs 0 0 (MQ below (mQi D dA A (y, M)) args s 0 0 (gA mLive A)) (F0 m 2 ls []) := by
    intro n
    induction n with
    | zero =>
      intro x1 x2 H locs ls Z hl h
      rw [f_X11_leastOf_L2] at h
      cases h
    | succ n4 ih2 =>
      intro x1 x2 H locs ls Z hl h
      rw [f_X11_leastOf_L2] at h
      refine lv_iload_n hx hb dX11_leastOf_2 rfl (lv_at hl 1 rfl) ?_
      refine lv_iconst (v := (4 : Int32)) hx hb dX11_leastOf_3 (by decide) ?_
      refine lv_icmp_ge (tgt := 21) hx hb dX11_leastOf_4 (by decide) (fun c5 => ?_) (fun c5 => ?_)
      · have h := if_t c5 h
        refine lv_iload_n hx hb dX11_leastOf_21 rfl (lv_at hl 1 rfl) ?_
        have hy := Option.some.inj h
        subst hy
        exact g_ri S Z hr hlocks dX11_leastOf_22
      · have h := if_f c5 h
        refine lv_iload_n hx hb dX11_leastOf_7 rfl (lv_at hl 0 rfl) ?_
        refine lv_iload_n hx hb dX11_leastOf_8 rfl (lv_at hl 1 rfl) ?_
        refine lv_ishr hx hb dX11_leastOf_9 ?_
        refine lv_iconst (v := (1 : Int32)) hx hb dX11_leastOf_10 (by decide) ?_
        refine lv_iand hx hb dX11_leastOf_11 ?_
        refine lv_if_ne (tgt := 21) hx hb dX11_leastOf_12 (by decide) (fun c6 => ?_) (fun c6 => ?_)
        · have h := if_f c6 h
          refine lv_iload_n hx hb dX11_leastOf_21 rfl (lv_at hl 1 rfl) ?_
          have hy := Option.some.inj h
          subst hy
          exact g_ri S Z hr hlocks dX11_leastOf_22
        · have h := if_t c6 h
          obtain ⟨x7, ex7, h⟩ := lt_e h
          refine lv_iinc (v := x7) (lv' := [(1, .int x7), (0, .int x1)]) hx hb dX11_leastOf_15 hl (k := 1) rfl (by rw [ex7]; rfl) (by decide) rfl (fun ls hl => ?_)
          refine lv_goto (tgt := 2) hx hb dX11_leastOf_18 (by decide) ?_
          exact ih2 x1 x7 _ _ _ Z (lv_sub hl [1, 0] rfl) h
  exact hL2 100 a0 (0 : Int32) _ _ _ Z (lv_sub hl [1, 0] rfl) h
-- X11_manyOf (I)I: 22 instructions
theorem dX11_manyOf_0 : decode cX11_manyOf 0 = .ok (.iload_n 0, 1) := by decide +kernel
theorem dX11_manyOf_1 : decode cX11_manyOf 1 = .ok (.iconst 1, 1) := by decide +kernel
theorem dX11_manyOf_2 : decode cX11_manyOf 2 = .ok (.iand, 1) := by decide +kernel
theorem dX11_manyOf_3 : decode cX11_manyOf 3 = .ok (.iload_n 0, 1) := by decide +kernel
theorem dX11_manyOf_4 : decode cX11_manyOf 4 = .ok (.iconst 1, 1) := by decide +kernel
theorem dX11_manyOf_5 : decode cX11_manyOf 5 = .ok (.ishr, 1) := by decide +kernel
theorem dX11_manyOf_6 : decode cX11_manyOf 6 = .ok (.iconst 1, 1) := by decide +kernel
theorem dX11_manyOf_7 : decode cX11_manyOf 7 = .ok (.iand, 1) := by decide +kernel
theorem dX11_manyOf_8 : decode cX11_manyOf 8 = .ok (.iadd, 1) := by decide +kernel
theorem dX11_manyOf_9 : decode cX11_manyOf 9 = .ok (.iload_n 0, 1) := by decide +kernel
theorem dX11_manyOf_10 : decode cX11_manyOf 10 = .ok (.iconst 2, 1) := by decide +kernel
theorem dX11_manyOf_11 : decode cX11_manyOf 11 = .ok (.ishr, 1) := by decide +kernel
theorem dX11_manyOf_12 : decode cX11_manyOf 12 = .ok (.iconst 1, 1) := by decide +kernel
theorem dX11_manyOf_13 : decode cX11_manyOf 13 = .ok (.iand, 1) := by decide +kernel
theorem dX11_manyOf_14 : decode cX11_manyOf 14 = .ok (.iadd, 1) := by decide +kernel
theorem dX11_manyOf_15 : decode cX11_manyOf 15 = .ok (.iload_n 0, 1) := by decide +kernel
theorem dX11_manyOf_16 : decode cX11_manyOf 16 = .ok (.iconst 3, 1) := by decide +kernel
theorem dX11_manyOf_17 : decode cX11_manyOf 17 = .ok (.ishr, 1) := by decide +kernel
theorem dX11_manyOf_18 : decode cX11_manyOf 18 = .ok (.iconst 1, 1) := by decide +kernel
theorem dX11_manyOf_19 : decode cX11_manyOf 19 = .ok (.iand, 1) := by decide +kernel
theorem dX11_manyOf_20 : decode cX11_manyOf 20 = .ok (.iadd, 1) := by decide +kernel
theorem dX11_manyOf_21 : decode cX11_manyOf 21 = .ok (.ireturn, 1) := by decide +kernel
def f_X11_manyOf (M : gM) (a0 : Int32) : Option Int32 :=
  some ((((a0 &&& (1 : Int32)) + ((a0 >>> ((1 : Int32) &&& 31)) &&& (1 : Int32))) + ((a0 >>> ((2 : Int32) &&& 31)) &&& (1 : Int32))) + ((a0 >>> ((3 : Int32) &&& 31)) &&& (1 : Int32)))
set_option maxHeartbeats 4000000 in
set_option maxRecDepth 100000 in
theorem t_X11_manyOf (l : Launch) (D : va_G) (dA : Nat → ClassId) (A : gI → Nat) (hJ : gJ mLive A) {M : gM} {a0 : Int32}  {y : Int32} (h : f_X11_manyOf M a0 = some y) : mMi l yX11_manyOf wsX11_manyOf ({ frames := 0, cells := 0, slots := 0, locals := 0 } : Room) D dA A [.int a0] M y M := by
  refine Met.ofW (cc := cX11_manyOf) (maxL := 1) (ret := (some .int)) (by decide) rfl ?_
  intro p e s m args below meth c s₁ B hml hv
  obtain ⟨rfl, hP, hK⟩ := hv
  generalize hargs : ([.int a0] : List Value).toArray = args at B ⊢
  have S : CallFix p m c cX11_manyOf 1 s args wsX11_manyOf RX11 := ⟨B.exec, B.bytes, hml, findClass_of_methodNamed B.named, atoms_spec (ws := wsX11_manyOf) B.pre⟩
  obtain ⟨hx, hb, -, hown, hts⟩ := id S
  have hr := B.returns
  have hlocks := B.notSynchronized
  have X : gX D vwCl dA mLive A (gA mLive A) s := ⟨hK, hJ, fun i hi => ⟨i, hi, rfl⟩⟩
  have Z : gZ D mLay dA mLive A (gA mLive A) s.heap M s.heap [] := ⟨hP, va_S.rf⟩
  have hl := lv_entry ([.int a0]) (n := 1) (Nat.le_of_ble_eq_true rfl)
  rw [← hargs, lg_entry_eq, hargs]
  generalize (lg_sl ([.int a0]) ++ List.replicate (1 - (lg_sl ([.int a0])).length) Slot.unset).toArray = ls at hl ⊢
  have hl : lv_has ls 1 [(0, .int a0)] := hl
  unfold f_X11_manyOf at h
  refine lv_iload_n hx hb dX11_manyOf_0 rfl (lv_at hl 0 rfl) ?_
  refine lv_iconst (v := (1 : Int32)) hx hb dX11_manyOf_1 (by decide) ?_
  refine lv_iand hx hb dX11_manyOf_2 ?_
  refine lv_iload_n hx hb dX11_manyOf_3 rfl (lv_at hl 0 rfl) ?_
  refine lv_iconst (v := (1 : Int32)) hx hb dX11_manyOf_4 (by decide) ?_
  refine lv_ishr hx hb dX11_manyOf_5 ?_
  refine lv_iconst (v := (1 : Int32)) hx hb dX11_manyOf_6 (by decide) ?_
  refine lv_iand hx hb dX11_manyOf_7 ?_
  refine lv_iadd hx hb dX11_manyOf_8 ?_
  refine lv_iload_n hx hb dX11_manyOf_9 rfl (lv_at hl 0 rfl) ?_
  refine lv_iconst (v := (2 : Int32)) hx hb dX11_manyOf_10 (by decide) ?_
  refine lv_ishr hx hb dX11_manyOf_11 ?_
  refine lv_iconst (v := (1 : Int32)) hx hb dX11_manyOf_12 (by decide) ?_
  refine lv_iand hx hb dX11_manyOf_13 ?_
  refine lv_iadd hx hb dX11_manyOf_14 ?_
  refine lv_iload_n hx hb dX11_manyOf_15 rfl (lv_at hl 0 rfl) ?_
  refine lv_iconst (v := (3 : Int32)) hx hb dX11_manyOf_16 (by decide) ?_
  refine lv_ishr hx hb dX11_manyOf_17 ?_
  refine lv_iconst (v := (1 : Int32)) hx hb dX11_manyOf_18 (by decide) ?_
  refine lv_iand hx hb dX11_manyOf_19 ?_
  refine lv_iadd hx hb dX11_manyOf_20 ?_
  have hy := Option.some.inj h
  subst hy
  exact g_ri S Z hr hlocks dX11_manyOf_21
