-- X11_thrown ()I: 3 instructions
theorem dX11_thrown_0 : decode cX11_thrown 0 = .ok (.aload_n 0, 1) := by decide +kernel
theorem dX11_thrown_1 : decode cX11_thrown 1 = .ok (.getfield 165, 3) := by decide +kernel
theorem dX11_thrown_4 : decode cX11_thrown 4 = .ok (.ireturn, 1) := by decide +kernel
abbrev wmX11_thrown : List Cond := .code yX11_thrown cX11_thrown 1 (some .int) :: mBig
def f_X11_thrown (M : gM)  : Option Int32 :=
  lt (M m_o 66) (fun v1 => some v1)
set_option maxHeartbeats 4000000 in
set_option maxRecDepth 100000 in
theorem t_X11_thrown (l : Launch) (D : va_G) (dA : Nat → ClassId) (A : gI → Nat) (hJ : gJ mLive A) {M : gM}   {y : Int32} (h : f_X11_thrown M = some y) : mMi l yX11_thrown wmX11_thrown ({ frames := 0, cells := 0, slots := 0, locals := 0 } : Room) D dA A [.ref (A m_o)] M y M := by
  refine Met.ofW (cc := cX11_thrown) (maxL := 1) (ret := (some .int)) (by decide) rfl ?_
  intro p e s m args below meth c s₁ B hml hv
  obtain ⟨rfl, hP, hK⟩ := hv
  generalize hargs : ([.ref (A m_o)] : List Value).toArray = args at B ⊢
  have S : CallFix p m c cX11_thrown 1 s args wmX11_thrown RX11 := ⟨B.exec, B.bytes, hml, findClass_of_methodNamed B.named, atoms_spec (ws := wmX11_thrown) B.pre⟩
  obtain ⟨hx, hb, -, hown, hts⟩ := id S
  have hr := B.returns
  have hlocks := B.notSynchronized
  have X : gX D vwCl dA mLive A (gA mLive A) s := ⟨hK, hJ, fun i hi => ⟨i, hi, rfl⟩⟩
  have Z : gZ D mLay dA mLive A (gA mLive A) s.heap M s.heap [] := ⟨hP, va_S.rf⟩
  have hin : ∀ w ∈ wsX110, w ∈ wmX11_thrown := m_in
  have hl_165 := hts (.fieldLink RX11 165 "ReplicaFilesModel" "thrown" "I") (mBc 58 rfl)
  have hl := lv_entry ([.ref (A m_o)]) (n := 1) (Nat.le_of_ble_eq_true rfl)
  rw [← hargs, lg_entry_eq, hargs]
  generalize (lg_sl ([.ref (A m_o)]) ++ List.replicate (1 - (lg_sl ([.ref (A m_o)])).length) Slot.unset).toArray = ls at hl ⊢
  have hl : lv_has ls 1 [(0, .ref (A m_o))] := hl
  unfold f_X11_thrown at h
  refine lv_aload_n hx hb dX11_thrown_0 rfl (lv_at hl 0 rfl) ?_
  refine mr_thrown S X Z hin hl_165 dX11_thrown_1 h (fun v1 h => ?_)
  have hy := Option.some.inj h
  subst hy
  exact g_ri S Z hr hlocks dX11_thrown_4
-- X11_in (III)Z: 10 instructions
theorem dX11_in_0 : decode cX11_in 0 = .ok (.iload_n 0, 1) := by decide +kernel
theorem dX11_in_1 : decode cX11_in 1 = .ok (.iload_n 1, 1) := by decide +kernel
theorem dX11_in_2 : decode cX11_in 2 = .ok (.if_icmp .lt 12, 3) := by decide +kernel
theorem dX11_in_5 : decode cX11_in 5 = .ok (.iload_n 0, 1) := by decide +kernel
theorem dX11_in_6 : decode cX11_in 6 = .ok (.iload_n 2, 1) := by decide +kernel
theorem dX11_in_7 : decode cX11_in 7 = .ok (.if_icmp .gt 7, 3) := by decide +kernel
theorem dX11_in_10 : decode cX11_in 10 = .ok (.iconst 1, 1) := by decide +kernel
theorem dX11_in_11 : decode cX11_in 11 = .ok (.goto 4, 3) := by decide +kernel
theorem dX11_in_14 : decode cX11_in 14 = .ok (.iconst 0, 1) := by decide +kernel
theorem dX11_in_15 : decode cX11_in 15 = .ok (.ireturn, 1) := by decide +kernel
abbrev wmX11_in : List Cond := .code yX11_in cX11_in 3 (some .boolean) :: mBig
def f_X11_in (M : gM) (a0 : Int32) (a1 : Int32) (a2 : Int32) : Option Int32 :=
  (if a0 < a1 then some (0 : Int32) else (if a2 < a0 then some (0 : Int32) else some (1 : Int32)))
set_option maxHeartbeats 4000000 in
set_option maxRecDepth 100000 in
theorem t_X11_in (l : Launch) (D : va_G) (dA : Nat → ClassId) (A : gI → Nat) (hJ : gJ mLive A) {M : gM} {a0 : Int32} {a1 : Int32} {a2 : Int32}  {y : Int32} (h : f_X11_in M a0 a1 a2 = some y) : mMi l yX11_in wmX11_in ({ frames := 0, cells := 0, slots := 0, locals := 0 } : Room) D dA A [.int a0, .int a1, .int a2] M y M := by
  refine Met.ofW (cc := cX11_in) (maxL := 3) (ret := (some .boolean)) (by decide) rfl ?_
  intro p e s m args below meth c s₁ B hml hv
  obtain ⟨rfl, hP, hK⟩ := hv
  generalize hargs : ([.int a0, .int a1, .int a2] : List Value).toArray = args at B ⊢
  have S : CallFix p m c cX11_in 3 s args wmX11_in RX11 := ⟨B.exec, B.bytes, hml, findClass_of_methodNamed B.named, atoms_spec (ws := wmX11_in) B.pre⟩
  obtain ⟨hx, hb, -, hown, hts⟩ := id S
  have hr := B.returns
  have hlocks := B.notSynchronized
  have X : gX D vwCl dA mLive A (gA mLive A) s := ⟨hK, hJ, fun i hi => ⟨i, hi, rfl⟩⟩
  have Z : gZ D mLay dA mLive A (gA mLive A) s.heap M s.heap [] := ⟨hP, va_S.rf⟩
  have hin : ∀ w ∈ wsX110, w ∈ wmX11_in := m_in
  have hl := lv_entry ([.int a0, .int a1, .int a2]) (n := 3) (Nat.le_of_ble_eq_true rfl)
  rw [← hargs, lg_entry_eq, hargs]
  generalize (lg_sl ([.int a0, .int a1, .int a2]) ++ List.replicate (3 - (lg_sl ([.int a0, .int a1, .int a2])).length) Slot.unset).toArray = ls at hl ⊢
  have hl : lv_has ls 3 [(0, .int a0), (1, .int a1), (2, .int a2)] := hl
  unfold f_X11_in at h
  refine lv_iload_n hx hb dX11_in_0 rfl (lv_at hl 0 rfl) ?_
  refine lv_iload_n hx hb dX11_in_1 rfl (lv_at hl 1 rfl) ?_
  refine lv_icmp_lt (tgt := 14) hx hb dX11_in_2 (by decide) (fun c1 => ?_) (fun c1 => ?_)
  · have h := if_t c1 h
    refine lv_iconst (v := (0 : Int32)) hx hb dX11_in_14 (by decide) ?_
    have hy := Option.some.inj h
    subst hy
    exact g_rz (Or.inl rfl) S Z hr hlocks dX11_in_15
  · have h := if_f c1 h
    refine lv_iload_n hx hb dX11_in_5 rfl (lv_at hl 0 rfl) ?_
    refine lv_iload_n hx hb dX11_in_6 rfl (lv_at hl 2 rfl) ?_
    refine lv_icmp_gt (tgt := 14) hx hb dX11_in_7 (by decide) (fun c2 => ?_) (fun c2 => ?_)
    · have h := if_t c2 h
      refine lv_iconst (v := (0 : Int32)) hx hb dX11_in_14 (by decide) ?_
      have hy := Option.some.inj h
      subst hy
      exact g_rz (Or.inl rfl) S Z hr hlocks dX11_in_15
    · have h := if_f c2 h
      refine lv_iconst (v := (1 : Int32)) hx hb dX11_in_10 (by decide) ?_
      refine lv_goto (tgt := 15) hx hb dX11_in_11 (by decide) ?_
      have hy := Option.some.inj h
      subst hy
      exact g_rz (Or.inr rfl) S Z hr hlocks dX11_in_15
-- X11_isServer (I)Z: 8 instructions
theorem dX11_isServer_0 : decode cX11_isServer 0 = .ok (.iload_n 1, 1) := by decide +kernel
theorem dX11_isServer_1 : decode cX11_isServer 1 = .ok (.iconst 0, 1) := by decide +kernel
theorem dX11_isServer_2 : decode cX11_isServer 2 = .ok (.aload_n 0, 1) := by decide +kernel
theorem dX11_isServer_3 : decode cX11_isServer 3 = .ok (.getfield 155, 3) := by decide +kernel
theorem dX11_isServer_6 : decode cX11_isServer 6 = .ok (.iconst 1, 1) := by decide +kernel
theorem dX11_isServer_7 : decode cX11_isServer 7 = .ok (.isub, 1) := by decide +kernel
theorem dX11_isServer_8 : decode cX11_isServer 8 = .ok (.invokestatic 168, 3) := by decide +kernel
theorem dX11_isServer_11 : decode cX11_isServer 11 = .ok (.ireturn, 1) := by decide +kernel
abbrev wmX11_isServer : List Cond := .code yX11_isServer cX11_isServer 2 (some .boolean) :: mBig
def f_X11_isServer (M : gM) (a1 : Int32) : Option Int32 :=
  lt (M m_o 0) (fun v1 => o1 (f_X11_in M a1 (0 : Int32) (v1 - (1 : Int32))) (fun v3 => gz v3 (some v3)))
set_option maxHeartbeats 4000000 in
set_option maxRecDepth 100000 in
theorem t_X11_isServer (l : Launch) (D : va_G) (dA : Nat → ClassId) (A : gI → Nat) (hJ : gJ mLive A) {M : gM} {a1 : Int32}  {y : Int32} (h : f_X11_isServer M a1 = some y) : mMi l yX11_isServer wmX11_isServer ({ frames := 1, cells := 0, slots := 0, locals := 22 } : Room) D dA A [.ref (A m_o), .int a1] M y M := by
  refine Met.ofW (cc := cX11_isServer) (maxL := 2) (ret := (some .boolean)) (by decide) rfl ?_
  intro p e s m args below meth c s₁ B hml hv
  obtain ⟨rfl, hP, hK⟩ := hv
  generalize hargs : ([.ref (A m_o), .int a1] : List Value).toArray = args at B ⊢
  have S : CallFix p m c cX11_isServer 2 s args wmX11_isServer RX11 := ⟨B.exec, B.bytes, hml, findClass_of_methodNamed B.named, atoms_spec (ws := wmX11_isServer) B.pre⟩
  obtain ⟨hx, hb, -, hown, hts⟩ := id S
  have hr := B.returns
  have hlocks := B.notSynchronized
  have X : gX D vwCl dA mLive A (gA mLive A) s := ⟨hK, hJ, fun i hi => ⟨i, hi, rfl⟩⟩
  have Z : gZ D mLay dA mLive A (gA mLive A) s.heap M s.heap [] := ⟨hP, va_S.rf⟩
  have hin : ∀ w ∈ wsX110, w ∈ wmX11_isServer := m_in
  have hl_155 := hts (.fieldLink RX11 155 "ReplicaFilesModel" "servers" "I") (mBc 53 rfl)
  have hl := lv_entry ([.ref (A m_o), .int a1]) (n := 2) (Nat.le_of_ble_eq_true rfl)
  rw [← hargs, lg_entry_eq, hargs]
  generalize (lg_sl ([.ref (A m_o), .int a1]) ++ List.replicate (2 - (lg_sl ([.ref (A m_o), .int a1])).length) Slot.unset).toArray = ls at hl ⊢
  have hl : lv_has ls 2 [(0, .ref (A m_o)), (1, .int a1)] := hl
  unfold f_X11_isServer at h
  refine lv_iload_n hx hb dX11_isServer_0 rfl (lv_at hl 1 rfl) ?_
  refine lv_iconst (v := (0 : Int32)) hx hb dX11_isServer_1 (by decide) ?_
  refine lv_aload_n hx hb dX11_isServer_2 rfl (lv_at hl 0 rfl) ?_
  refine mr_servers S X Z hin hl_155 dX11_isServer_3 h (fun v1 h => ?_)
  refine lv_iconst (v := (1 : Int32)) hx hb dX11_isServer_6 (by decide) ?_
  refine lv_isub hx hb dX11_isServer_7 ?_
  obtain ⟨v3, hc2, h⟩ := o1_e h
  refine g_Si (As := [.int a1, .int (0 : Int32), .int (v1 - (1 : Int32))]) (rest := []) S X Z (t_X11_in l D dA A hJ  hc2) (va_cwS 3 hts (mGS (mB 61 rfl) (mB 62 rfl) (mB 63 rfl) (mB 59 rfl)) rfl rfl rfl (by decide +kernel) ⟨Nat.le_of_ble_eq_true rfl, Nat.le_of_ble_eq_true rfl⟩) rfl hl.1 rfl (Nat.le_of_ble_eq_true rfl) dX11_isServer_8 ⟨Nat.zero_le _, Nat.zero_le _⟩ (fun H locs Z => ?_)
  obtain ⟨z4, h⟩ := gz_e h
  have hy := Option.some.inj h
  subst hy
  exact g_rz (z4) S Z hr hlocks dX11_isServer_11
-- X11_isClient (I)Z: 5 instructions
theorem dX11_isClient_0 : decode cX11_isClient 0 = .ok (.iload_n 0, 1) := by decide +kernel
theorem dX11_isClient_1 : decode cX11_isClient 1 = .ok (.iconst 0, 1) := by decide +kernel
theorem dX11_isClient_2 : decode cX11_isClient 2 = .ok (.iconst 3, 1) := by decide +kernel
theorem dX11_isClient_3 : decode cX11_isClient 3 = .ok (.invokestatic 168, 3) := by decide +kernel
theorem dX11_isClient_6 : decode cX11_isClient 6 = .ok (.ireturn, 1) := by decide +kernel
abbrev wmX11_isClient : List Cond := .code yX11_isClient cX11_isClient 1 (some .boolean) :: mBig
def f_X11_isClient (M : gM) (a0 : Int32) : Option Int32 :=
  o1 (f_X11_in M a0 (0 : Int32) (3 : Int32)) (fun v2 => gz v2 (some v2))
set_option maxHeartbeats 4000000 in
set_option maxRecDepth 100000 in
theorem t_X11_isClient (l : Launch) (D : va_G) (dA : Nat → ClassId) (A : gI → Nat) (hJ : gJ mLive A) {M : gM} {a0 : Int32}  {y : Int32} (h : f_X11_isClient M a0 = some y) : mMi l yX11_isClient wmX11_isClient ({ frames := 1, cells := 0, slots := 0, locals := 22 } : Room) D dA A [.int a0] M y M := by
  refine Met.ofW (cc := cX11_isClient) (maxL := 1) (ret := (some .boolean)) (by decide) rfl ?_
  intro p e s m args below meth c s₁ B hml hv
  obtain ⟨rfl, hP, hK⟩ := hv
  generalize hargs : ([.int a0] : List Value).toArray = args at B ⊢
  have S : CallFix p m c cX11_isClient 1 s args wmX11_isClient RX11 := ⟨B.exec, B.bytes, hml, findClass_of_methodNamed B.named, atoms_spec (ws := wmX11_isClient) B.pre⟩
  obtain ⟨hx, hb, -, hown, hts⟩ := id S
  have hr := B.returns
  have hlocks := B.notSynchronized
  have X : gX D vwCl dA mLive A (gA mLive A) s := ⟨hK, hJ, fun i hi => ⟨i, hi, rfl⟩⟩
  have Z : gZ D mLay dA mLive A (gA mLive A) s.heap M s.heap [] := ⟨hP, va_S.rf⟩
  have hin : ∀ w ∈ wsX110, w ∈ wmX11_isClient := m_in
  have hl := lv_entry ([.int a0]) (n := 1) (Nat.le_of_ble_eq_true rfl)
  rw [← hargs, lg_entry_eq, hargs]
  generalize (lg_sl ([.int a0]) ++ List.replicate (1 - (lg_sl ([.int a0])).length) Slot.unset).toArray = ls at hl ⊢
  have hl : lv_has ls 1 [(0, .int a0)] := hl
  unfold f_X11_isClient at h
  refine lv_iload_n hx hb dX11_isClient_0 rfl (lv_at hl 0 rfl) ?_
  refine lv_iconst (v := (0 : Int32)) hx hb dX11_isClient_1 (by decide) ?_
  refine lv_iconst (v := (3 : Int32)) hx hb dX11_isClient_2 (by decide) ?_
  obtain ⟨v2, hc1, h⟩ := o1_e h
  refine g_Si (As := [.int a0, .int (0 : Int32), .int (3 : Int32)]) (rest := []) S X Z (t_X11_in l D dA A hJ  hc1) (va_cwS 3 hts (mGS (mB 61 rfl) (mB 62 rfl) (mB 63 rfl) (mB 59 rfl)) rfl rfl rfl (by decide +kernel) ⟨Nat.le_of_ble_eq_true rfl, Nat.le_of_ble_eq_true rfl⟩) rfl hl.1 rfl (Nat.le_of_ble_eq_true rfl) dX11_isClient_3 ⟨Nat.zero_le _, Nat.zero_le _⟩ (fun H locs Z => ?_)
  obtain ⟨z3, h⟩ := gz_e h
  have hy := Option.some.inj h
  subst hy
  exact g_rz (z3) S Z hr hlocks dX11_isClient_6
-- X11_isObject (I)Z: 5 instructions
theorem dX11_isObject_0 : decode cX11_isObject 0 = .ok (.iload_n 0, 1) := by decide +kernel
theorem dX11_isObject_1 : decode cX11_isObject 1 = .ok (.iconst 0, 1) := by decide +kernel
theorem dX11_isObject_2 : decode cX11_isObject 2 = .ok (.bipush 47, 2) := by decide +kernel
theorem dX11_isObject_4 : decode cX11_isObject 4 = .ok (.invokestatic 168, 3) := by decide +kernel
theorem dX11_isObject_7 : decode cX11_isObject 7 = .ok (.ireturn, 1) := by decide +kernel
abbrev wmX11_isObject : List Cond := .code yX11_isObject cX11_isObject 1 (some .boolean) :: mBig
def f_X11_isObject (M : gM) (a0 : Int32) : Option Int32 :=
  o1 (f_X11_in M a0 (0 : Int32) (47 : Int32)) (fun v2 => gz v2 (some v2))
set_option maxHeartbeats 4000000 in
set_option maxRecDepth 100000 in
theorem t_X11_isObject (l : Launch) (D : va_G) (dA : Nat → ClassId) (A : gI → Nat) (hJ : gJ mLive A) {M : gM} {a0 : Int32}  {y : Int32} (h : f_X11_isObject M a0 = some y) : mMi l yX11_isObject wmX11_isObject ({ frames := 1, cells := 0, slots := 0, locals := 22 } : Room) D dA A [.int a0] M y M := by
  refine Met.ofW (cc := cX11_isObject) (maxL := 1) (ret := (some .boolean)) (by decide) rfl ?_
  intro p e s m args below meth c s₁ B hml hv
  obtain ⟨rfl, hP, hK⟩ := hv
  generalize hargs : ([.int a0] : List Value).toArray = args at B ⊢
  have S : CallFix p m c cX11_isObject 1 s args wmX11_isObject RX11 := ⟨B.exec, B.bytes, hml, findClass_of_methodNamed B.named, atoms_spec (ws := wmX11_isObject) B.pre⟩
  obtain ⟨hx, hb, -, hown, hts⟩ := id S
  have hr := B.returns
  have hlocks := B.notSynchronized
  have X : gX D vwCl dA mLive A (gA mLive A) s := ⟨hK, hJ, fun i hi => ⟨i, hi, rfl⟩⟩
  have Z : gZ D mLay dA mLive A (gA mLive A) s.heap M s.heap [] := ⟨hP, va_S.rf⟩
  have hin : ∀ w ∈ wsX110, w ∈ wmX11_isObject := m_in
  have hl := lv_entry ([.int a0]) (n := 1) (Nat.le_of_ble_eq_true rfl)
  rw [← hargs, lg_entry_eq, hargs]
  generalize (lg_sl ([.int a0]) ++ List.replicate (1 - (lg_sl ([.int a0])).length) Slot.unset).toArray = ls at hl ⊢
  have hl : lv_has ls 1 [(0, .int a0)] := hl
  unfold f_X11_isObject at h
  refine lv_iload_n hx hb dX11_isObject_0 rfl (lv_at hl 0 rfl) ?_
  refine lv_iconst (v := (0 : Int32)) hx hb dX11_isObject_1 (by decide) ?_
  refine lv_bipush (v := (47 : Int32)) hx hb dX11_isObject_2 (by decide) ?_
  obtain ⟨v2, hc1, h⟩ := o1_e h
  refine g_Si (As := [.int a0, .int (0 : Int32), .int (47 : Int32)]) (rest := []) S X Z (t_X11_in l D dA A hJ  hc1) (va_cwS 3 hts (mGS (mB 61 rfl) (mB 62 rfl) (mB 63 rfl) (mB 59 rfl)) rfl rfl rfl (by decide +kernel) ⟨Nat.le_of_ble_eq_true rfl, Nat.le_of_ble_eq_true rfl⟩) rfl hl.1 rfl (Nat.le_of_ble_eq_true rfl) dX11_isObject_4 ⟨Nat.zero_le _, Nat.zero_le _⟩ (fun H locs Z => ?_)
  obtain ⟨z3, h⟩ := gz_e h
  have hy := Option.some.inj h
  subst hy
  exact g_rz (z3) S Z hr hlocks dX11_isObject_7
-- X11_kindOf (IZ)J: 16 instructions
theorem dX11_kindOf_0 : decode cX11_kindOf 0 = .ok (.iload_n 1, 1) := by decide +kernel
theorem dX11_kindOf_1 : decode cX11_kindOf 1 = .ok (.aload_n 0, 1) := by decide +kernel
theorem dX11_kindOf_2 : decode cX11_kindOf 2 = .ok (.getfield 162, 3) := by decide +kernel
theorem dX11_kindOf_5 : decode cX11_kindOf 5 = .ok (.if_icmp .lt 9, 3) := by decide +kernel
theorem dX11_kindOf_8 : decode cX11_kindOf 8 = .ok (.ldc2_w 172, 3) := by decide +kernel
theorem dX11_kindOf_11 : decode cX11_kindOf 11 = .ok (.goto 20, 3) := by decide +kernel
theorem dX11_kindOf_14 : decode cX11_kindOf 14 = .ok (.aload_n 0, 1) := by decide +kernel
theorem dX11_kindOf_15 : decode cX11_kindOf 15 = .ok (.getfield 29, 3) := by decide +kernel
theorem dX11_kindOf_18 : decode cX11_kindOf 18 = .ok (.iload_n 1, 1) := by decide +kernel
theorem dX11_kindOf_19 : decode cX11_kindOf 19 = .ok (.baload, 1) := by decide +kernel
theorem dX11_kindOf_20 : decode cX11_kindOf 20 = .ok (.iload_n 2, 1) := by decide +kernel
theorem dX11_kindOf_21 : decode cX11_kindOf 21 = .ok (.if_icmp .eq 9, 3) := by decide +kernel
theorem dX11_kindOf_24 : decode cX11_kindOf 24 = .ok (.ldc2_w 174, 3) := by decide +kernel
theorem dX11_kindOf_27 : decode cX11_kindOf 27 = .ok (.goto 4, 3) := by decide +kernel
theorem dX11_kindOf_30 : decode cX11_kindOf 30 = .ok (.lconst 0, 1) := by decide +kernel
theorem dX11_kindOf_31 : decode cX11_kindOf 31 = .ok (.lreturn, 1) := by decide +kernel
abbrev wmX11_kindOf : List Cond := .code yX11_kindOf cX11_kindOf 3 (some .long) :: mBig
def f_X11_kindOf (M : gM) (a1 : Int32) (a2 : Int32) : Option Int64 :=
  lt (M m_o 6) (fun v1 => (if a1 < v1 then rd M m_isDirectory 48 a1 (fun v3 => (if v3 = a2 then some (0 : Int64) else some (-2199023255559 : Int64))) else some (-2199023255552 : Int64)))
set_option maxHeartbeats 4000000 in
set_option maxRecDepth 100000 in
theorem t_X11_kindOf (l : Launch) (D : va_G) (dA : Nat → ClassId) (A : gI → Nat) (hJ : gJ mLive A) {M : gM} {a1 : Int32} {a2 : Int32}  {y : Int64} (h : f_X11_kindOf M a1 a2 = some y) : mMl l yX11_kindOf wmX11_kindOf ({ frames := 0, cells := 0, slots := 0, locals := 0 } : Room) D dA A [.ref (A m_o), .int a1, .int a2] M y M := by
  refine Met.ofW (cc := cX11_kindOf) (maxL := 3) (ret := (some .long)) (by decide) rfl ?_
  intro p e s m args below meth c s₁ B hml hv
  obtain ⟨rfl, hP, hK⟩ := hv
  generalize hargs : ([.ref (A m_o), .int a1, .int a2] : List Value).toArray = args at B ⊢
  have S : CallFix p m c cX11_kindOf 3 s args wmX11_kindOf RX11 := ⟨B.exec, B.bytes, hml, findClass_of_methodNamed B.named, atoms_spec (ws := wmX11_kindOf) B.pre⟩
  obtain ⟨hx, hb, -, hown, hts⟩ := id S
  have hr := B.returns
  have hlocks := B.notSynchronized
  have X : gX D vwCl dA mLive A (gA mLive A) s := ⟨hK, hJ, fun i hi => ⟨i, hi, rfl⟩⟩
  have Z : gZ D mLay dA mLive A (gA mLive A) s.heap M s.heap [] := ⟨hP, va_S.rf⟩
  have hin : ∀ w ∈ wsX110, w ∈ wmX11_kindOf := m_in
  have hl_29 := hts (.fieldLink RX11 29 "ReplicaFilesModel" "isDirectory" "[Z") (mBc 11 rfl)
  have hl_162 := hts (.fieldLink RX11 162 "ReplicaFilesModel" "made" "I") (mBc 55 rfl)
  have hc_172 := hts (.constantLong RX11 172 (-2199023255552)) (mBc 67 rfl)
  have hc_174 := hts (.constantLong RX11 174 (-2199023255559)) (mBc 68 rfl)
  have hl := lv_entry ([.ref (A m_o), .int a1, .int a2]) (n := 3) (Nat.le_of_ble_eq_true rfl)
  rw [← hargs, lg_entry_eq, hargs]
  generalize (lg_sl ([.ref (A m_o), .int a1, .int a2]) ++ List.replicate (3 - (lg_sl ([.ref (A m_o), .int a1, .int a2])).length) Slot.unset).toArray = ls at hl ⊢
  have hl : lv_has ls 3 [(0, .ref (A m_o)), (1, .int a1), (2, .int a2)] := hl
  unfold f_X11_kindOf at h
  refine lv_iload_n hx hb dX11_kindOf_0 rfl (lv_at hl 1 rfl) ?_
  refine lv_aload_n hx hb dX11_kindOf_1 rfl (lv_at hl 0 rfl) ?_
  refine mr_made S X Z hin hl_162 dX11_kindOf_2 h (fun v1 h => ?_)
  refine lv_icmp_lt (tgt := 14) hx hb dX11_kindOf_5 (by decide) (fun c2 => ?_) (fun c2 => ?_)
  · have h := if_t c2 h
    refine lv_aload_n hx hb dX11_kindOf_14 rfl (lv_at hl 0 rfl) ?_
    refine mr_isDirectory S X Z hin hl_29 dX11_kindOf_15 ?_
    refine lv_iload_n hx hb dX11_kindOf_18 rfl (lv_at hl 1 rfl) ?_
    refine g_zald S X Z ml_isDirectory rfl dX11_kindOf_19 h (fun v3 h => ?_)
    refine lv_iload_n hx hb dX11_kindOf_20 rfl (lv_at hl 2 rfl) ?_
    refine lv_icmp_eq (tgt := 30) hx hb dX11_kindOf_21 (by decide) (fun c4 => ?_) (fun c4 => ?_)
    · have h := if_t c4 h
      refine lv_lconst (v := (0 : Int64)) hx hb dX11_kindOf_30 (by decide) ?_
      have hy := Option.some.inj h
      subst hy
      exact g_rl S Z hr hlocks dX11_kindOf_31
    · have h := if_f c4 h
      refine lv_ldc2 hx hb hown hc_174 dX11_kindOf_24 ?_
      refine lv_goto (tgt := 31) hx hb dX11_kindOf_27 (by decide) ?_
      have hy := Option.some.inj h
      subst hy
      exact g_rl S Z hr hlocks dX11_kindOf_31
  · have h := if_f c2 h
    refine lv_ldc2 hx hb hown hc_172 dX11_kindOf_8 ?_
    refine lv_goto (tgt := 31) hx hb dX11_kindOf_11 (by decide) ?_
    have hy := Option.some.inj h
    subst hy
    exact g_rl S Z hr hlocks dX11_kindOf_31
-- X11_isNear (II)Z: 18 instructions
theorem dX11_isNear_0 : decode cX11_isNear 0 = .ok (.aload_n 0, 1) := by decide +kernel
theorem dX11_isNear_1 : decode cX11_isNear 1 = .ok (.getfield 7, 3) := by decide +kernel
theorem dX11_isNear_4 : decode cX11_isNear 4 = .ok (.iload_n 2, 1) := by decide +kernel
theorem dX11_isNear_5 : decode cX11_isNear 5 = .ok (.baload, 1) := by decide +kernel
theorem dX11_isNear_6 : decode cX11_isNear 6 = .ok (.ifCond .eq 20, 3) := by decide +kernel
theorem dX11_isNear_9 : decode cX11_isNear 9 = .ok (.aload_n 0, 1) := by decide +kernel
theorem dX11_isNear_10 : decode cX11_isNear 10 = .ok (.getfield 16, 3) := by decide +kernel
theorem dX11_isNear_13 : decode cX11_isNear 13 = .ok (.iconst 4, 1) := by decide +kernel
theorem dX11_isNear_14 : decode cX11_isNear 14 = .ok (.iload_n 1, 1) := by decide +kernel
theorem dX11_isNear_15 : decode cX11_isNear 15 = .ok (.imul, 1) := by decide +kernel
theorem dX11_isNear_16 : decode cX11_isNear 16 = .ok (.iload_n 2, 1) := by decide +kernel
theorem dX11_isNear_17 : decode cX11_isNear 17 = .ok (.iadd, 1) := by decide +kernel
theorem dX11_isNear_18 : decode cX11_isNear 18 = .ok (.baload, 1) := by decide +kernel
theorem dX11_isNear_19 : decode cX11_isNear 19 = .ok (.ifCond .eq 7, 3) := by decide +kernel
theorem dX11_isNear_22 : decode cX11_isNear 22 = .ok (.iconst 1, 1) := by decide +kernel
theorem dX11_isNear_23 : decode cX11_isNear 23 = .ok (.goto 4, 3) := by decide +kernel
theorem dX11_isNear_26 : decode cX11_isNear 26 = .ok (.iconst 0, 1) := by decide +kernel
theorem dX11_isNear_27 : decode cX11_isNear 27 = .ok (.ireturn, 1) := by decide +kernel
abbrev wmX11_isNear : List Cond := .code yX11_isNear cX11_isNear 3 (some .boolean) :: mBig
def f_X11_isNear (M : gM) (a1 : Int32) (a2 : Int32) : Option Int32 :=
  rd M m_up 4 a2 (fun v1 => (if v1 = 0 then some (0 : Int32) else rd M m_reaches 16 (((4 : Int32) * a1) + a2) (fun v3 => (if v3 = 0 then some (0 : Int32) else some (1 : Int32)))))
set_option maxHeartbeats 4000000 in
set_option maxRecDepth 100000 in
theorem t_X11_isNear (l : Launch) (D : va_G) (dA : Nat → ClassId) (A : gI → Nat) (hJ : gJ mLive A) {M : gM} {a1 : Int32} {a2 : Int32}  {y : Int32} (h : f_X11_isNear M a1 a2 = some y) : mMi l yX11_isNear wmX11_isNear ({ frames := 0, cells := 0, slots := 0, locals := 0 } : Room) D dA A [.ref (A m_o), .int a1, .int a2] M y M := by
  refine Met.ofW (cc := cX11_isNear) (maxL := 3) (ret := (some .boolean)) (by decide) rfl ?_
  intro p e s m args below meth c s₁ B hml hv
  obtain ⟨rfl, hP, hK⟩ := hv
  generalize hargs : ([.ref (A m_o), .int a1, .int a2] : List Value).toArray = args at B ⊢
  have S : CallFix p m c cX11_isNear 3 s args wmX11_isNear RX11 := ⟨B.exec, B.bytes, hml, findClass_of_methodNamed B.named, atoms_spec (ws := wmX11_isNear) B.pre⟩
  obtain ⟨hx, hb, -, hown, hts⟩ := id S
  have hr := B.returns
  have hlocks := B.notSynchronized
  have X : gX D vwCl dA mLive A (gA mLive A) s := ⟨hK, hJ, fun i hi => ⟨i, hi, rfl⟩⟩
  have Z : gZ D mLay dA mLive A (gA mLive A) s.heap M s.heap [] := ⟨hP, va_S.rf⟩
  have hin : ∀ w ∈ wsX110, w ∈ wmX11_isNear := m_in
  have hl_7 := hts (.fieldLink RX11 7 "ReplicaFilesModel" "up" "[Z") (mBc 4 rfl)
  have hl_16 := hts (.fieldLink RX11 16 "ReplicaFilesModel" "reaches" "[Z") (mBc 6 rfl)
  have hl := lv_entry ([.ref (A m_o), .int a1, .int a2]) (n := 3) (Nat.le_of_ble_eq_true rfl)
  rw [← hargs, lg_entry_eq, hargs]
  generalize (lg_sl ([.ref (A m_o), .int a1, .int a2]) ++ List.replicate (3 - (lg_sl ([.ref (A m_o), .int a1, .int a2])).length) Slot.unset).toArray = ls at hl ⊢
  have hl : lv_has ls 3 [(0, .ref (A m_o)), (1, .int a1), (2, .int a2)] := hl
  unfold f_X11_isNear at h
  refine lv_aload_n hx hb dX11_isNear_0 rfl (lv_at hl 0 rfl) ?_
  refine mr_up S X Z hin hl_7 dX11_isNear_1 ?_
  refine lv_iload_n hx hb dX11_isNear_4 rfl (lv_at hl 2 rfl) ?_
  refine g_zald S X Z ml_up rfl dX11_isNear_5 h (fun v1 h => ?_)
  refine lv_if_eq (tgt := 26) hx hb dX11_isNear_6 (by decide) (fun c2 => ?_) (fun c2 => ?_)
  · have h := if_t c2 h
    refine lv_iconst (v := (0 : Int32)) hx hb dX11_isNear_26 (by decide) ?_
    have hy := Option.some.inj h
    subst hy
    exact g_rz (Or.inl rfl) S Z hr hlocks dX11_isNear_27
  · have h := if_f c2 h
    refine lv_aload_n hx hb dX11_isNear_9 rfl (lv_at hl 0 rfl) ?_
    refine mr_reaches S X Z hin hl_16 dX11_isNear_10 ?_
    refine lv_iconst (v := (4 : Int32)) hx hb dX11_isNear_13 (by decide) ?_
    refine lv_iload_n hx hb dX11_isNear_14 rfl (lv_at hl 1 rfl) ?_
    refine lv_imul hx hb dX11_isNear_15 ?_
    refine lv_iload_n hx hb dX11_isNear_16 rfl (lv_at hl 2 rfl) ?_
    refine lv_iadd hx hb dX11_isNear_17 ?_
    refine g_zald S X Z ml_reaches rfl dX11_isNear_18 h (fun v3 h => ?_)
    refine lv_if_eq (tgt := 26) hx hb dX11_isNear_19 (by decide) (fun c4 => ?_) (fun c4 => ?_)
    · have h := if_t c4 h
      refine lv_iconst (v := (0 : Int32)) hx hb dX11_isNear_26 (by decide) ?_
      have hy := Option.some.inj h
      subst hy
      exact g_rz (Or.inl rfl) S Z hr hlocks dX11_isNear_27
    · have h := if_f c4 h
      refine lv_iconst (v := (1 : Int32)) hx hb dX11_isNear_22 (by decide) ?_
      refine lv_goto (tgt := 27) hx hb dX11_isNear_23 (by decide) ?_
      have hy := Option.some.inj h
      subst hy
      exact g_rz (Or.inr rfl) S Z hr hlocks dX11_isNear_27
-- X11_nearSet (I)I: 25 instructions
theorem dX11_nearSet_0 : decode cX11_nearSet 0 = .ok (.iconst 0, 1) := by decide +kernel
theorem dX11_nearSet_1 : decode cX11_nearSet 1 = .ok (.istore_n 2, 1) := by decide +kernel
theorem dX11_nearSet_2 : decode cX11_nearSet 2 = .ok (.iconst 0, 1) := by decide +kernel
theorem dX11_nearSet_3 : decode cX11_nearSet 3 = .ok (.istore_n 3, 1) := by decide +kernel
theorem dX11_nearSet_4 : decode cX11_nearSet 4 = .ok (.iload_n 3, 1) := by decide +kernel
theorem dX11_nearSet_5 : decode cX11_nearSet 5 = .ok (.aload_n 0, 1) := by decide +kernel
theorem dX11_nearSet_6 : decode cX11_nearSet 6 = .ok (.getfield 155, 3) := by decide +kernel
theorem dX11_nearSet_9 : decode cX11_nearSet 9 = .ok (.if_icmp .ge 28, 3) := by decide +kernel
theorem dX11_nearSet_12 : decode cX11_nearSet 12 = .ok (.aload_n 0, 1) := by decide +kernel
theorem dX11_nearSet_13 : decode cX11_nearSet 13 = .ok (.iload_n 1, 1) := by decide +kernel
theorem dX11_nearSet_14 : decode cX11_nearSet 14 = .ok (.iload_n 3, 1) := by decide +kernel
theorem dX11_nearSet_15 : decode cX11_nearSet 15 = .ok (.invokevirtual 176, 3) := by decide +kernel
theorem dX11_nearSet_18 : decode cX11_nearSet 18 = .ok (.ifCond .eq 11, 3) := by decide +kernel
theorem dX11_nearSet_21 : decode cX11_nearSet 21 = .ok (.iload_n 2, 1) := by decide +kernel
theorem dX11_nearSet_22 : decode cX11_nearSet 22 = .ok (.iconst 1, 1) := by decide +kernel
theorem dX11_nearSet_23 : decode cX11_nearSet 23 = .ok (.iload_n 3, 1) := by decide +kernel
theorem dX11_nearSet_24 : decode cX11_nearSet 24 = .ok (.ishl, 1) := by decide +kernel
theorem dX11_nearSet_25 : decode cX11_nearSet 25 = .ok (.ior, 1) := by decide +kernel
theorem dX11_nearSet_26 : decode cX11_nearSet 26 = .ok (.goto 4, 3) := by decide +kernel
theorem dX11_nearSet_29 : decode cX11_nearSet 29 = .ok (.iload_n 2, 1) := by decide +kernel
theorem dX11_nearSet_30 : decode cX11_nearSet 30 = .ok (.istore_n 2, 1) := by decide +kernel
theorem dX11_nearSet_31 : decode cX11_nearSet 31 = .ok (.iinc 3 1, 3) := by decide +kernel
theorem dX11_nearSet_34 : decode cX11_nearSet 34 = .ok (.goto (-30), 3) := by decide +kernel
theorem dX11_nearSet_37 : decode cX11_nearSet 37 = .ok (.iload_n 2, 1) := by decide +kernel
theorem dX11_nearSet_38 : decode cX11_nearSet 38 = .ok (.ireturn, 1) := by decide +kernel
abbrev wmX11_nearSet : List Cond := .code yX11_nearSet cX11_nearSet 4 (some .int) :: mBig
def f_X11_nearSet_L4 (M3 : gM) (a1 : Int32) : Nat → Int32 → Int32 → Option Int32
  | 0, _, _ => none
  | n4 + 1, x1, x2 => lt (M3 m_o 0) (fun v5 => (if v5 ≤ x2 then some x1 else o1 (f_X11_isNear M3 a1 x2) (fun v8 => jn (fun (b9 : Int32) => lt (x2 + 1) (fun x10 => f_X11_nearSet_L4 M3 a1 n4 b9 x10)) (fun J30 => (if v8 = 0 then J30 x1 else J30 (x1 ||| ((1 : Int32) <<< (x2 &&& 31))))))))
def f_X11_nearSet (M : gM) (a1 : Int32) : Option Int32 :=
  f_X11_nearSet_L4 M a1 100 (0 : Int32) (0 : Int32)
set_option maxHeartbeats 4000000 in
set_option maxRecDepth 100000 in
theorem t_X11_nearSet (l : Launch) (D : va_G) (dA : Nat → ClassId) (A : gI → Nat) (hJ : gJ mLive A) {M : gM} {a1 : Int32}  {y : Int32} (h : f_X11_nearSet M a1 = some y) : mMi l yX11_nearSet wmX11_nearSet ({ frames := 1, cells := 0, slots := 0, locals := 22 } : Room) D dA A [.ref (A m_o), .int a1] M y M := by
  refine Met.ofW (cc := cX11_nearSet) (maxL := 4) (ret := (some .int)) (by decide) rfl ?_
  intro p e s m args below meth c s₁ B hml hv
  obtain ⟨rfl, hP, hK⟩ := hv
  generalize hargs : ([.ref (A m_o), .int a1] : List Value).toArray = args at B ⊢
  have S : CallFix p m c cX11_nearSet 4 s args wmX11_nearSet RX11 := ⟨B.exec, B.bytes, hml, findClass_of_methodNamed B.named, atoms_spec (ws := wmX11_nearSet) B.pre⟩
  obtain ⟨hx, hb, -, hown, hts⟩ := id S
  have hr := B.returns
  have hlocks := B.notSynchronized
  have X : gX D vwCl dA mLive A (gA mLive A) s := ⟨hK, hJ, fun i hi => ⟨i, hi, rfl⟩⟩
  have Z : gZ D mLay dA mLive A (gA mLive A) s.heap M s.heap [] := ⟨hP, va_S.rf⟩
  have hin : ∀ w ∈ wsX110, w ∈ wmX11_nearSet := m_in
  have hl_155 := hts (.fieldLink RX11 155 "ReplicaFilesModel" "servers" "I") (mBc 53 rfl)
  have hl := lv_entry ([.ref (A m_o), .int a1]) (n := 4) (Nat.le_of_ble_eq_true rfl)
  rw [← hargs, lg_entry_eq, hargs]
  generalize (lg_sl ([.ref (A m_o), .int a1]) ++ List.replicate (4 - (lg_sl ([.ref (A m_o), .int a1])).length) Slot.unset).toArray = ls at hl ⊢
  have hl : lv_has ls 4 [(0, .ref (A m_o)), (1, .int a1)] := hl
  unfold f_X11_nearSet at h
  refine lv_iconst (v := (0 : Int32)) hx hb dX11_nearSet_0 (by decide) ?_
  refine lv_istore_n (lv' := [(2, .int (0 : Int32)), (0, .ref (A m_o)), (1, .int a1)]) hx hb dX11_nearSet_1 rfl hl (by decide) rfl (fun ls hl => ?_)
  refine lv_iconst (v := (0 : Int32)) hx hb dX11_nearSet_2 (by decide) ?_
  refine lv_istore_n (lv' := [(3, .int (0 : Int32)), (2, .int (0 : Int32)), (0, .ref (A m_o)), (1, .int a1)]) hx hb dX11_nearSet_3 rfl hl (by decide) rfl (fun ls hl => ?_)
  have hL4 : ∀ (n : Nat) (x1 : Int32) (x2 : Int32) (H : Heap) (locs : List Loc) (ls : Array Slot), gZ D mLay dA mLive A (gA mLive A) s.heap M H locs → lv_has ls 4 [(0, .ref (A m_o)), (1, .int a1), (2, .int x1), (3, .int x2)] → f_X11_nearSet_L4 M a1 n x1 x2 = some y → W p l e (headSpec wmX11_nearSet ({ frames := 1, cells := 0, slots := 0, locals := 22 } : Room)).room s m args below meth c H locs 0 0 (MQ below (mQi D dA A (y, M)) args s 0 0 (gA mLive A)) (F0 m 4 ls []) := by
    intro n
    induction n with
    | zero =>
      intro x1 x2 H locs ls Z hl h
      rw [f_X11_nearSet_L4] at h
      cases h
    | succ n4 ih4 =>
      intro x1 x2 H locs ls Z hl h
      rw [f_X11_nearSet_L4] at h
      refine lv_iload_n hx hb dX11_nearSet_4 rfl (lv_at hl 3 rfl) ?_
      refine lv_aload_n hx hb dX11_nearSet_5 rfl (lv_at hl 0 rfl) ?_
      refine mr_servers S X Z hin hl_155 dX11_nearSet_6 h (fun v5 h => ?_)
      refine lv_icmp_ge (tgt := 37) hx hb dX11_nearSet_9 (by decide) (fun c6 => ?_) (fun c6 => ?_)
      · have h := if_t c6 h
        refine lv_iload_n hx hb dX11_nearSet_37 rfl (lv_at hl 2 rfl) ?_
        have hy := Option.some.inj h
        subst hy
        exact g_ri S Z hr hlocks dX11_nearSet_38
      · have h := if_f c6 h
        refine lv_aload_n hx hb dX11_nearSet_12 rfl (lv_at hl 0 rfl) ?_
        refine lv_iload_n hx hb dX11_nearSet_13 rfl (lv_at hl 1 rfl) ?_
        refine lv_iload_n hx hb dX11_nearSet_14 rfl (lv_at hl 3 rfl) ?_
        obtain ⟨v8, hc7, h⟩ := o1_e h
        refine g_Vi (As := [.int a1, .int x2]) (rest := []) S X Z mlv_o rfl rfl (t_X11_isNear l D dA A hJ  hc7) (cwV 2 hts (mGV (mB 71 rfl) (mB 72 rfl) (mB 73 rfl) (mB 63 rfl) (mB 69 rfl)) rfl rfl rfl (by decide +kernel) ⟨Nat.le_of_ble_eq_true rfl, Nat.le_of_ble_eq_true rfl⟩) rfl hl.1 rfl (Nat.le_of_ble_eq_true rfl) dX11_nearSet_15 ⟨Nat.zero_le _, Nat.zero_le _⟩ (fun H locs Z => ?_)
        obtain ⟨J30, eJ30, h⟩ := jn_e h
        have hJ30 : ∀ (b9 : Int32) (H : Heap) (locs : List Loc) (ls : Array Slot), gZ D mLay dA mLive A (gA mLive A) s.heap M H locs → lv_has ls 4 [(0, .ref (A m_o)), (1, .int a1), (3, .int x2)] → J30 b9 = some y → W p l e (headSpec wmX11_nearSet ({ frames := 1, cells := 0, slots := 0, locals := 22 } : Room)).room s m args below meth c H locs 0 0 (MQ below (mQi D dA A (y, M)) args s 0 0 (gA mLive A)) (F0 m 30 ls [.int b9]) := by
          intro b9 H locs ls Z hl h
          rw [eJ30] at h
          try dsimp only at h
          refine lv_istore_n (lv' := [(2, .int b9), (0, .ref (A m_o)), (1, .int a1), (3, .int x2)]) hx hb dX11_nearSet_30 rfl hl (by decide) rfl (fun ls hl => ?_)
          obtain ⟨x10, ex10, h⟩ := lt_e h
          refine lv_iinc (v := x10) (lv' := [(3, .int x10), (2, .int b9), (0, .ref (A m_o)), (1, .int a1)]) hx hb dX11_nearSet_31 hl (k := 3) rfl (by rw [ex10]; rfl) (by decide) rfl (fun ls hl => ?_)
          refine lv_goto (tgt := 4) hx hb dX11_nearSet_34 (by decide) ?_
          exact ih4 b9 x10 _ _ _ Z (lv_sub hl [2, 3, 1, 0] rfl) h
        refine lv_if_eq (tgt := 29) hx hb dX11_nearSet_18 (by decide) (fun c11 => ?_) (fun c11 => ?_)
        · have h := if_t c11 h
          refine lv_iload_n hx hb dX11_nearSet_29 rfl (lv_at hl 2 rfl) ?_
          exact hJ30 x1 _ _ _ Z (lv_sub hl [0, 1, 3] rfl) h
        · have h := if_f c11 h
          refine lv_iload_n hx hb dX11_nearSet_21 rfl (lv_at hl 2 rfl) ?_
          refine lv_iconst (v := (1 : Int32)) hx hb dX11_nearSet_22 (by decide) ?_
          refine lv_iload_n hx hb dX11_nearSet_23 rfl (lv_at hl 3 rfl) ?_
          refine lv_ishl hx hb dX11_nearSet_24 ?_
          refine lv_ior hx hb dX11_nearSet_25 ?_
          refine lv_goto (tgt := 30) hx hb dX11_nearSet_26 (by decide) ?_
          exact hJ30 (x1 ||| ((1 : Int32) <<< (x2 &&& 31))) _ _ _ Z (lv_sub hl [0, 1, 3] rfl) h
  exact hL4 100 (0 : Int32) (0 : Int32) _ _ _ Z (lv_sub hl [2, 3, 1, 0] rfl) h
-- X11_isAlone (I)Z: 13 instructions
theorem dX11_isAlone_0 : decode cX11_isAlone 0 = .ok (.aload_n 0, 1) := by decide +kernel
theorem dX11_isAlone_1 : decode cX11_isAlone 1 = .ok (.iload_n 1, 1) := by decide +kernel
theorem dX11_isAlone_2 : decode cX11_isAlone 2 = .ok (.invokevirtual 180, 3) := by decide +kernel
theorem dX11_isAlone_5 : decode cX11_isAlone 5 = .ok (.ifCond .eq 12, 3) := by decide +kernel
theorem dX11_isAlone_8 : decode cX11_isAlone 8 = .ok (.aload_n 0, 1) := by decide +kernel
theorem dX11_isAlone_9 : decode cX11_isAlone 9 = .ok (.getfield 98, 3) := by decide +kernel
theorem dX11_isAlone_12 : decode cX11_isAlone 12 = .ok (.iload_n 1, 1) := by decide +kernel
theorem dX11_isAlone_13 : decode cX11_isAlone 13 = .ok (.iaload, 1) := by decide +kernel
theorem dX11_isAlone_14 : decode cX11_isAlone 14 = .ok (.ifCond .le 7, 3) := by decide +kernel
theorem dX11_isAlone_17 : decode cX11_isAlone 17 = .ok (.iconst 1, 1) := by decide +kernel
theorem dX11_isAlone_18 : decode cX11_isAlone 18 = .ok (.goto 4, 3) := by decide +kernel
theorem dX11_isAlone_21 : decode cX11_isAlone 21 = .ok (.iconst 0, 1) := by decide +kernel
theorem dX11_isAlone_22 : decode cX11_isAlone 22 = .ok (.ireturn, 1) := by decide +kernel
abbrev wmX11_isAlone : List Cond := .code yX11_isAlone cX11_isAlone 2 (some .boolean) :: mBig
def f_X11_isAlone (M : gM) (a1 : Int32) : Option Int32 :=
  o1 (f_X11_nearSet M a1) (fun v2 => (if v2 = 0 then some (1 : Int32) else rd M m_records 4 a1 (fun v4 => (if v4 ≤ 0 then some (0 : Int32) else some (1 : Int32)))))
set_option maxHeartbeats 4000000 in
set_option maxRecDepth 100000 in
theorem t_X11_isAlone (l : Launch) (D : va_G) (dA : Nat → ClassId) (A : gI → Nat) (hJ : gJ mLive A) {M : gM} {a1 : Int32}  {y : Int32} (h : f_X11_isAlone M a1 = some y) : mMi l yX11_isAlone wmX11_isAlone ({ frames := 2, cells := 0, slots := 0, locals := 45 } : Room) D dA A [.ref (A m_o), .int a1] M y M := by
  refine Met.ofW (cc := cX11_isAlone) (maxL := 2) (ret := (some .boolean)) (by decide) rfl ?_
  intro p e s m args below meth c s₁ B hml hv
  obtain ⟨rfl, hP, hK⟩ := hv
  generalize hargs : ([.ref (A m_o), .int a1] : List Value).toArray = args at B ⊢
  have S : CallFix p m c cX11_isAlone 2 s args wmX11_isAlone RX11 := ⟨B.exec, B.bytes, hml, findClass_of_methodNamed B.named, atoms_spec (ws := wmX11_isAlone) B.pre⟩
  obtain ⟨hx, hb, -, hown, hts⟩ := id S
  have hr := B.returns
  have hlocks := B.notSynchronized
  have X : gX D vwCl dA mLive A (gA mLive A) s := ⟨hK, hJ, fun i hi => ⟨i, hi, rfl⟩⟩
  have Z : gZ D mLay dA mLive A (gA mLive A) s.heap M s.heap [] := ⟨hP, va_S.rf⟩
  have hin : ∀ w ∈ wsX110, w ∈ wmX11_isAlone := m_in
  have hl_98 := hts (.fieldLink RX11 98 "ReplicaFilesModel" "records" "[I") (mBc 34 rfl)
  have hl := lv_entry ([.ref (A m_o), .int a1]) (n := 2) (Nat.le_of_ble_eq_true rfl)
  rw [← hargs, lg_entry_eq, hargs]
  generalize (lg_sl ([.ref (A m_o), .int a1]) ++ List.replicate (2 - (lg_sl ([.ref (A m_o), .int a1])).length) Slot.unset).toArray = ls at hl ⊢
  have hl : lv_has ls 2 [(0, .ref (A m_o)), (1, .int a1)] := hl
  unfold f_X11_isAlone at h
  refine lv_aload_n hx hb dX11_isAlone_0 rfl (lv_at hl 0 rfl) ?_
  refine lv_iload_n hx hb dX11_isAlone_1 rfl (lv_at hl 1 rfl) ?_
  obtain ⟨v2, hc1, h⟩ := o1_e h
  refine g_Vi (As := [.int a1]) (rest := []) S X Z mlv_o rfl rfl (t_X11_nearSet l D dA A hJ  hc1) (cwV 1 hts (mGV (mB 75 rfl) (mB 76 rfl) (mB 77 rfl) (mB 63 rfl) (mB 70 rfl)) rfl rfl rfl (by decide +kernel) ⟨Nat.le_of_ble_eq_true rfl, Nat.le_of_ble_eq_true rfl⟩) rfl hl.1 rfl (Nat.le_of_ble_eq_true rfl) dX11_isAlone_2 ⟨Nat.zero_le _, Nat.zero_le _⟩ (fun H locs Z => ?_)
  refine lv_if_eq (tgt := 17) hx hb dX11_isAlone_5 (by decide) (fun c3 => ?_) (fun c3 => ?_)
  · have h := if_t c3 h
    refine lv_iconst (v := (1 : Int32)) hx hb dX11_isAlone_17 (by decide) ?_
    refine lv_goto (tgt := 22) hx hb dX11_isAlone_18 (by decide) ?_
    have hy := Option.some.inj h
    subst hy
    exact g_rz (Or.inr rfl) S Z hr hlocks dX11_isAlone_22
  · have h := if_f c3 h
    refine lv_aload_n hx hb dX11_isAlone_8 rfl (lv_at hl 0 rfl) ?_
    refine mr_records S X Z hin hl_98 dX11_isAlone_9 ?_
    refine lv_iload_n hx hb dX11_isAlone_12 rfl (lv_at hl 1 rfl) ?_
    refine g_iald S X Z ml_records rfl dX11_isAlone_13 h (fun v4 h => ?_)
    refine lv_if_le (tgt := 21) hx hb dX11_isAlone_14 (by decide) (fun c5 => ?_) (fun c5 => ?_)
    · have h := if_t c5 h
      refine lv_iconst (v := (0 : Int32)) hx hb dX11_isAlone_21 (by decide) ?_
      have hy := Option.some.inj h
      subst hy
      exact g_rz (Or.inl rfl) S Z hr hlocks dX11_isAlone_22
    · have h := if_f c5 h
      refine lv_iconst (v := (1 : Int32)) hx hb dX11_isAlone_17 (by decide) ?_
      refine lv_goto (tgt := 22) hx hb dX11_isAlone_18 (by decide) ?_
      have hy := Option.some.inj h
      subst hy
      exact g_rz (Or.inr rfl) S Z hr hlocks dX11_isAlone_22
-- X11_leastOf (I)I: 15 instructions
theorem dX11_leastOf_0 : decode cX11_leastOf 0 = .ok (.iconst 0, 1) := by decide +kernel
theorem dX11_leastOf_1 : decode cX11_leastOf 1 = .ok (.istore_n 1, 1) := by decide +kernel
theorem dX11_leastOf_2 : decode cX11_leastOf 2 = .ok (.iload_n 1, 1) := by decide +kernel
theorem dX11_leastOf_3 : decode cX11_leastOf 3 = .ok (.iconst 4, 1) := by decide +kernel
theorem dX11_leastOf_4 : decode cX11_leastOf 4 = .ok (.if_icmp .ge 17, 3) := by decide +kernel
theorem dX11_leastOf_7 : decode cX11_leastOf 7 = .ok (.iload_n 0, 1) := by decide +kernel
theorem dX11_leastOf_8 : decode cX11_leastOf 8 = .ok (.iload_n 1, 1) := by decide +kernel
theorem dX11_leastOf_9 : decode cX11_leastOf 9 = .ok (.ishr, 1) := by decide +kernel
theorem dX11_leastOf_10 : decode cX11_leastOf 10 = .ok (.iconst 1, 1) := by decide +kernel
theorem dX11_leastOf_11 : decode cX11_leastOf 11 = .ok (.iand, 1) := by decide +kernel
theorem dX11_leastOf_12 : decode cX11_leastOf 12 = .ok (.ifCond .ne 9, 3) := by decide +kernel
theorem dX11_leastOf_15 : decode cX11_leastOf 15 = .ok (.iinc 1 1, 3) := by decide +kernel
theorem dX11_leastOf_18 : decode cX11_leastOf 18 = .ok (.goto (-16), 3) := by decide +kernel
theorem dX11_leastOf_21 : decode cX11_leastOf 21 = .ok (.iload_n 1, 1) := by decide +kernel
theorem dX11_leastOf_22 : decode cX11_leastOf 22 = .ok (.ireturn, 1) := by decide +kernel
abbrev wmX11_leastOf : List Cond := .code yX11_leastOf cX11_leastOf 2 (some .int) :: mBig
def f_X11_leastOf_L2 (M2 : gM) (a0 : Int32) : Nat → Int32 → Option Int32
  | 0, _ => none
  | n3 + 1, x1 => (if (4 : Int32) ≤ x1 then some x1 else (if ((a0 >>> (x1 &&& 31)) &&& (1 : Int32)) = 0 then lt (x1 + 1) (fun x6 => f_X11_leastOf_L2 M2 a0 n3 x6) else some x1))
def f_X11_leastOf (M : gM) (a0 : Int32) : Option Int32 :=
  f_X11_leastOf_L2 M a0 100 (0 : Int32)
set_option maxHeartbeats 4000000 in
set_option maxRecDepth 100000 in
theorem t_X11_leastOf (l : Launch) (D : va_G) (dA : Nat → ClassId) (A : gI → Nat) (hJ : gJ mLive A) {M : gM} {a0 : Int32}  {y : Int32} (h : f_X11_leastOf M a0 = some y) : mMi l yX11_leastOf wmX11_leastOf ({ frames := 0, cells := 0, slots := 0, locals := 0 } : Room) D dA A [.int a0] M y M := by
  refine Met.ofW (cc := cX11_leastOf) (maxL := 2) (ret := (some .int)) (by decide) rfl ?_
  intro p e s m args below meth c s₁ B hml hv
  obtain ⟨rfl, hP, hK⟩ := hv
  generalize hargs : ([.int a0] : List Value).toArray = args at B ⊢
  have S : CallFix p m c cX11_leastOf 2 s args wmX11_leastOf RX11 := ⟨B.exec, B.bytes, hml, findClass_of_methodNamed B.named, atoms_spec (ws := wmX11_leastOf) B.pre⟩
  obtain ⟨hx, hb, -, hown, hts⟩ := id S
  have hr := B.returns
  have hlocks := B.notSynchronized
  have X : gX D vwCl dA mLive A (gA mLive A) s := ⟨hK, hJ, fun i hi => ⟨i, hi, rfl⟩⟩
  have Z : gZ D mLay dA mLive A (gA mLive A) s.heap M s.heap [] := ⟨hP, va_S.rf⟩
  have hin : ∀ w ∈ wsX110, w ∈ wmX11_leastOf := m_in
  have hl := lv_entry ([.int a0]) (n := 2) (Nat.le_of_ble_eq_true rfl)
  rw [← hargs, lg_entry_eq, hargs]
  generalize (lg_sl ([.int a0]) ++ List.replicate (2 - (lg_sl ([.int a0])).length) Slot.unset).toArray = ls at hl ⊢
  have hl : lv_has ls 2 [(0, .int a0)] := hl
  unfold f_X11_leastOf at h
  refine lv_iconst (v := (0 : Int32)) hx hb dX11_leastOf_0 (by decide) ?_
  refine lv_istore_n (lv' := [(1, .int (0 : Int32)), (0, .int a0)]) hx hb dX11_leastOf_1 rfl hl (by decide) rfl (fun ls hl => ?_)
  have hL2 : ∀ (n : Nat) (x1 : Int32) (H : Heap) (locs : List Loc) (ls : Array Slot), gZ D mLay dA mLive A (gA mLive A) s.heap M H locs → lv_has ls 2 [(0, .int a0), (1, .int x1)] → f_X11_leastOf_L2 M a0 n x1 = some y → W p l e (headSpec wmX11_leastOf ({ frames := 0, cells := 0, slots := 0, locals := 0 } : Room)).room s m args below meth c H locs 0 0 (MQ below (mQi D dA A (y, M)) args s 0 0 (gA mLive A)) (F0 m 2 ls []) := by
    intro n
    induction n with
    | zero =>
      intro x1 H locs ls Z hl h
      rw [f_X11_leastOf_L2] at h
      cases h
    | succ n3 ih2 =>
      intro x1 H locs ls Z hl h
      rw [f_X11_leastOf_L2] at h
      refine lv_iload_n hx hb dX11_leastOf_2 rfl (lv_at hl 1 rfl) ?_
      refine lv_iconst (v := (4 : Int32)) hx hb dX11_leastOf_3 (by decide) ?_
      refine lv_icmp_ge (tgt := 21) hx hb dX11_leastOf_4 (by decide) (fun c4 => ?_) (fun c4 => ?_)
      · have h := if_t c4 h
        refine lv_iload_n hx hb dX11_leastOf_21 rfl (lv_at hl 1 rfl) ?_
        have hy := Option.some.inj h
        subst hy
        exact g_ri S Z hr hlocks dX11_leastOf_22
      · have h := if_f c4 h
        refine lv_iload_n hx hb dX11_leastOf_7 rfl (lv_at hl 0 rfl) ?_
        refine lv_iload_n hx hb dX11_leastOf_8 rfl (lv_at hl 1 rfl) ?_
        refine lv_ishr hx hb dX11_leastOf_9 ?_
        refine lv_iconst (v := (1 : Int32)) hx hb dX11_leastOf_10 (by decide) ?_
        refine lv_iand hx hb dX11_leastOf_11 ?_
        refine lv_if_ne (tgt := 21) hx hb dX11_leastOf_12 (by decide) (fun c5 => ?_) (fun c5 => ?_)
        · have h := if_f c5 h
          refine lv_iload_n hx hb dX11_leastOf_21 rfl (lv_at hl 1 rfl) ?_
          have hy := Option.some.inj h
          subst hy
          exact g_ri S Z hr hlocks dX11_leastOf_22
        · have h := if_t c5 h
          obtain ⟨x6, ex6, h⟩ := lt_e h
          refine lv_iinc (v := x6) (lv' := [(1, .int x6), (0, .int a0)]) hx hb dX11_leastOf_15 hl (k := 1) rfl (by rw [ex6]; rfl) (by decide) rfl (fun ls hl => ?_)
          refine lv_goto (tgt := 2) hx hb dX11_leastOf_18 (by decide) ?_
          exact ih2 x6 _ _ _ Z (lv_sub hl [1, 0] rfl) h
  exact hL2 100 (0 : Int32) _ _ _ Z (lv_sub hl [1, 0] rfl) h
-- X11_manyOf (I)I: 22 instructions
theorem dX11_manyOf_0 : decode cX11_manyOf 0 = .ok (.iload_n 0, 1) := by decide +kernel
theorem dX11_manyOf_1 : decode cX11_manyOf 1 = .ok (.iconst 1, 1) := by decide +kernel
theorem dX11_manyOf_2 : decode cX11_manyOf 2 = .ok (.iand, 1) := by decide +kernel
theorem dX11_manyOf_3 : decode cX11_manyOf 3 = .ok (.iload_n 0, 1) := by decide +kernel
theorem dX11_manyOf_4 : decode cX11_manyOf 4 = .ok (.iconst 1, 1) := by decide +kernel
theorem dX11_manyOf_5 : decode cX11_manyOf 5 = .ok (.ishr, 1) := by decide +kernel
theorem dX11_manyOf_6 : decode cX11_manyOf 6 = .ok (.iconst 1, 1) := by decide +kernel
theorem dX11_manyOf_7 : decode cX11_manyOf 7 = .ok (.iand, 1) := by decide +kernel
theorem dX11_manyOf_8 : decode cX11_manyOf 8 = .ok (.iadd, 1) := by decide +kernel
theorem dX11_manyOf_9 : decode cX11_manyOf 9 = .ok (.iload_n 0, 1) := by decide +kernel
theorem dX11_manyOf_10 : decode cX11_manyOf 10 = .ok (.iconst 2, 1) := by decide +kernel
theorem dX11_manyOf_11 : decode cX11_manyOf 11 = .ok (.ishr, 1) := by decide +kernel
theorem dX11_manyOf_12 : decode cX11_manyOf 12 = .ok (.iconst 1, 1) := by decide +kernel
theorem dX11_manyOf_13 : decode cX11_manyOf 13 = .ok (.iand, 1) := by decide +kernel
theorem dX11_manyOf_14 : decode cX11_manyOf 14 = .ok (.iadd, 1) := by decide +kernel
theorem dX11_manyOf_15 : decode cX11_manyOf 15 = .ok (.iload_n 0, 1) := by decide +kernel
theorem dX11_manyOf_16 : decode cX11_manyOf 16 = .ok (.iconst 3, 1) := by decide +kernel
theorem dX11_manyOf_17 : decode cX11_manyOf 17 = .ok (.ishr, 1) := by decide +kernel
theorem dX11_manyOf_18 : decode cX11_manyOf 18 = .ok (.iconst 1, 1) := by decide +kernel
theorem dX11_manyOf_19 : decode cX11_manyOf 19 = .ok (.iand, 1) := by decide +kernel
theorem dX11_manyOf_20 : decode cX11_manyOf 20 = .ok (.iadd, 1) := by decide +kernel
theorem dX11_manyOf_21 : decode cX11_manyOf 21 = .ok (.ireturn, 1) := by decide +kernel
abbrev wmX11_manyOf : List Cond := .code yX11_manyOf cX11_manyOf 1 (some .int) :: mBig
def f_X11_manyOf (M : gM) (a0 : Int32) : Option Int32 :=
  some ((((a0 &&& (1 : Int32)) + ((a0 >>> ((1 : Int32) &&& 31)) &&& (1 : Int32))) + ((a0 >>> ((2 : Int32) &&& 31)) &&& (1 : Int32))) + ((a0 >>> ((3 : Int32) &&& 31)) &&& (1 : Int32)))
set_option maxHeartbeats 4000000 in
set_option maxRecDepth 100000 in
theorem t_X11_manyOf (l : Launch) (D : va_G) (dA : Nat → ClassId) (A : gI → Nat) (hJ : gJ mLive A) {M : gM} {a0 : Int32}  {y : Int32} (h : f_X11_manyOf M a0 = some y) : mMi l yX11_manyOf wmX11_manyOf ({ frames := 0, cells := 0, slots := 0, locals := 0 } : Room) D dA A [.int a0] M y M := by
  refine Met.ofW (cc := cX11_manyOf) (maxL := 1) (ret := (some .int)) (by decide) rfl ?_
  intro p e s m args below meth c s₁ B hml hv
  obtain ⟨rfl, hP, hK⟩ := hv
  generalize hargs : ([.int a0] : List Value).toArray = args at B ⊢
  have S : CallFix p m c cX11_manyOf 1 s args wmX11_manyOf RX11 := ⟨B.exec, B.bytes, hml, findClass_of_methodNamed B.named, atoms_spec (ws := wmX11_manyOf) B.pre⟩
  obtain ⟨hx, hb, -, hown, hts⟩ := id S
  have hr := B.returns
  have hlocks := B.notSynchronized
  have X : gX D vwCl dA mLive A (gA mLive A) s := ⟨hK, hJ, fun i hi => ⟨i, hi, rfl⟩⟩
  have Z : gZ D mLay dA mLive A (gA mLive A) s.heap M s.heap [] := ⟨hP, va_S.rf⟩
  have hin : ∀ w ∈ wsX110, w ∈ wmX11_manyOf := m_in
  have hl := lv_entry ([.int a0]) (n := 1) (Nat.le_of_ble_eq_true rfl)
  rw [← hargs, lg_entry_eq, hargs]
  generalize (lg_sl ([.int a0]) ++ List.replicate (1 - (lg_sl ([.int a0])).length) Slot.unset).toArray = ls at hl ⊢
  have hl : lv_has ls 1 [(0, .int a0)] := hl
  unfold f_X11_manyOf at h
  refine lv_iload_n hx hb dX11_manyOf_0 rfl (lv_at hl 0 rfl) ?_
  refine lv_iconst (v := (1 : Int32)) hx hb dX11_manyOf_1 (by decide) ?_
  refine lv_iand hx hb dX11_manyOf_2 ?_
  refine lv_iload_n hx hb dX11_manyOf_3 rfl (lv_at hl 0 rfl) ?_
  refine lv_iconst (v := (1 : Int32)) hx hb dX11_manyOf_4 (by decide) ?_
  refine lv_ishr hx hb dX11_manyOf_5 ?_
  refine lv_iconst (v := (1 : Int32)) hx hb dX11_manyOf_6 (by decide) ?_
  refine lv_iand hx hb dX11_manyOf_7 ?_
  refine lv_iadd hx hb dX11_manyOf_8 ?_
  refine lv_iload_n hx hb dX11_manyOf_9 rfl (lv_at hl 0 rfl) ?_
  refine lv_iconst (v := (2 : Int32)) hx hb dX11_manyOf_10 (by decide) ?_
  refine lv_ishr hx hb dX11_manyOf_11 ?_
  refine lv_iconst (v := (1 : Int32)) hx hb dX11_manyOf_12 (by decide) ?_
  refine lv_iand hx hb dX11_manyOf_13 ?_
  refine lv_iadd hx hb dX11_manyOf_14 ?_
  refine lv_iload_n hx hb dX11_manyOf_15 rfl (lv_at hl 0 rfl) ?_
  refine lv_iconst (v := (3 : Int32)) hx hb dX11_manyOf_16 (by decide) ?_
  refine lv_ishr hx hb dX11_manyOf_17 ?_
  refine lv_iconst (v := (1 : Int32)) hx hb dX11_manyOf_18 (by decide) ?_
  refine lv_iand hx hb dX11_manyOf_19 ?_
  refine lv_iadd hx hb dX11_manyOf_20 ?_
  have hy := Option.some.inj h
  subst hy
  exact g_ri S Z hr hlocks dX11_manyOf_21
-- X11_endFar ()V: 37 instructions
theorem dX11_endFar_0 : decode cX11_endFar 0 = .ok (.iconst 0, 1) := by decide +kernel
theorem dX11_endFar_1 : decode cX11_endFar 1 = .ok (.istore_n 1, 1) := by decide +kernel
theorem dX11_endFar_2 : decode cX11_endFar 2 = .ok (.iload_n 1, 1) := by decide +kernel
theorem dX11_endFar_3 : decode cX11_endFar 3 = .ok (.iconst 4, 1) := by decide +kernel
theorem dX11_endFar_4 : decode cX11_endFar 4 = .ok (.if_icmp .ge 53, 3) := by decide +kernel
theorem dX11_endFar_7 : decode cX11_endFar 7 = .ok (.aload_n 0, 1) := by decide +kernel
theorem dX11_endFar_8 : decode cX11_endFar 8 = .ok (.iload_n 1, 1) := by decide +kernel
theorem dX11_endFar_9 : decode cX11_endFar 9 = .ok (.invokevirtual 180, 3) := by decide +kernel
theorem dX11_endFar_12 : decode cX11_endFar 12 = .ok (.istore_n 2, 1) := by decide +kernel
theorem dX11_endFar_13 : decode cX11_endFar 13 = .ok (.iconst 0, 1) := by decide +kernel
theorem dX11_endFar_14 : decode cX11_endFar 14 = .ok (.istore_n 3, 1) := by decide +kernel
theorem dX11_endFar_15 : decode cX11_endFar 15 = .ok (.iload_n 3, 1) := by decide +kernel
theorem dX11_endFar_16 : decode cX11_endFar 16 = .ok (.bipush 48, 2) := by decide +kernel
theorem dX11_endFar_18 : decode cX11_endFar 18 = .ok (.if_icmp .ge 33, 3) := by decide +kernel
theorem dX11_endFar_21 : decode cX11_endFar 21 = .ok (.aload_n 0, 1) := by decide +kernel
theorem dX11_endFar_22 : decode cX11_endFar 22 = .ok (.getfield 77, 3) := by decide +kernel
theorem dX11_endFar_25 : decode cX11_endFar 25 = .ok (.bipush 48, 2) := by decide +kernel
theorem dX11_endFar_27 : decode cX11_endFar 27 = .ok (.iload_n 1, 1) := by decide +kernel
theorem dX11_endFar_28 : decode cX11_endFar 28 = .ok (.imul, 1) := by decide +kernel
theorem dX11_endFar_29 : decode cX11_endFar 29 = .ok (.iload_n 3, 1) := by decide +kernel
theorem dX11_endFar_30 : decode cX11_endFar 30 = .ok (.iadd, 1) := by decide +kernel
theorem dX11_endFar_31 : decode cX11_endFar 31 = .ok (.aload_n 0, 1) := by decide +kernel
theorem dX11_endFar_32 : decode cX11_endFar 32 = .ok (.getfield 77, 3) := by decide +kernel
theorem dX11_endFar_35 : decode cX11_endFar 35 = .ok (.bipush 48, 2) := by decide +kernel
theorem dX11_endFar_37 : decode cX11_endFar 37 = .ok (.iload_n 1, 1) := by decide +kernel
theorem dX11_endFar_38 : decode cX11_endFar 38 = .ok (.imul, 1) := by decide +kernel
theorem dX11_endFar_39 : decode cX11_endFar 39 = .ok (.iload_n 3, 1) := by decide +kernel
theorem dX11_endFar_40 : decode cX11_endFar 40 = .ok (.iadd, 1) := by decide +kernel
theorem dX11_endFar_41 : decode cX11_endFar 41 = .ok (.iaload, 1) := by decide +kernel
theorem dX11_endFar_42 : decode cX11_endFar 42 = .ok (.iload_n 2, 1) := by decide +kernel
theorem dX11_endFar_43 : decode cX11_endFar 43 = .ok (.iand, 1) := by decide +kernel
theorem dX11_endFar_44 : decode cX11_endFar 44 = .ok (.iastore, 1) := by decide +kernel
theorem dX11_endFar_45 : decode cX11_endFar 45 = .ok (.iinc 3 1, 3) := by decide +kernel
theorem dX11_endFar_48 : decode cX11_endFar 48 = .ok (.goto (-33), 3) := by decide +kernel
theorem dX11_endFar_51 : decode cX11_endFar 51 = .ok (.iinc 1 1, 3) := by decide +kernel
theorem dX11_endFar_54 : decode cX11_endFar 54 = .ok (.goto (-52), 3) := by decide +kernel
theorem dX11_endFar_57 : decode cX11_endFar 57 = .ok (.return_, 1) := by decide +kernel
abbrev wmX11_endFar : List Cond := .code yX11_endFar cX11_endFar 4 none :: mBig
def f_X11_endFar_L15 (x1 : Int32) (v6 : Int32) (J51 : gM → Option gM) : Nat → Int32 → gM → Option gM
  | 0, _, _ => none
  | n11 + 1, x9, M10 => (if (48 : Int32) ≤ x9 then J51 M10 else rd M10 m_promised 192 (((48 : Int32) * x1) + x9) (fun v13 => wr M10 m_promised 192 (((48 : Int32) * x1) + x9) (v13 &&& v6) (fun M14 => lt (x9 + 1) (fun x15 => f_X11_endFar_L15 x1 v6 J51 n11 x15 M14))))
def f_X11_endFar_L2  : Nat → Int32 → gM → Option gM
  | 0, _, _ => none
  | n3 + 1, x1, M2 => (if (4 : Int32) ≤ x1 then some M2 else o1 (f_X11_nearSet M2 x1) (fun v6 => jn (fun (M7 : gM) => lt (x1 + 1) (fun x8 => f_X11_endFar_L2 n3 x8 M7)) (fun J51 => f_X11_endFar_L15 x1 v6 J51 100 (0 : Int32) M2)))
def f_X11_endFar (M : gM)  : Option gM :=
  f_X11_endFar_L2 100 (0 : Int32) M
set_option maxHeartbeats 4000000 in
set_option maxRecDepth 100000 in
theorem t_X11_endFar (l : Launch) (D : va_G) (dA : Nat → ClassId) (A : gI → Nat) (hJ : gJ mLive A) {M : gM}   {y : gM} (h : f_X11_endFar M = some y) : mMv l yX11_endFar wmX11_endFar ({ frames := 2, cells := 0, slots := 0, locals := 45 } : Room) D dA A [.ref (A m_o)] M y := by
  refine Met.ofW (cc := cX11_endFar) (maxL := 4) (ret := none) (by decide) rfl ?_
  intro p e s m args below meth c s₁ B hml hv
  obtain ⟨rfl, hP, hK⟩ := hv
  generalize hargs : ([.ref (A m_o)] : List Value).toArray = args at B ⊢
  have S : CallFix p m c cX11_endFar 4 s args wmX11_endFar RX11 := ⟨B.exec, B.bytes, hml, findClass_of_methodNamed B.named, atoms_spec (ws := wmX11_endFar) B.pre⟩
  obtain ⟨hx, hb, -, hown, hts⟩ := id S
  have hr := B.returns
  have hlocks := B.notSynchronized
  have X : gX D vwCl dA mLive A (gA mLive A) s := ⟨hK, hJ, fun i hi => ⟨i, hi, rfl⟩⟩
  have Z : gZ D mLay dA mLive A (gA mLive A) s.heap M s.heap [] := ⟨hP, va_S.rf⟩
  have hin : ∀ w ∈ wsX110, w ∈ wmX11_endFar := m_in
  have hl_77 := hts (.fieldLink RX11 77 "ReplicaFilesModel" "promised" "[I") (mBc 27 rfl)
  have hl := lv_entry ([.ref (A m_o)]) (n := 4) (Nat.le_of_ble_eq_true rfl)
  rw [← hargs, lg_entry_eq, hargs]
  generalize (lg_sl ([.ref (A m_o)]) ++ List.replicate (4 - (lg_sl ([.ref (A m_o)])).length) Slot.unset).toArray = ls at hl ⊢
  have hl : lv_has ls 4 [(0, .ref (A m_o))] := hl
  unfold f_X11_endFar at h
  refine lv_iconst (v := (0 : Int32)) hx hb dX11_endFar_0 (by decide) ?_
  refine lv_istore_n (lv' := [(1, .int (0 : Int32)), (0, .ref (A m_o))]) hx hb dX11_endFar_1 rfl hl (by decide) rfl (fun ls hl => ?_)
  have hL2 : ∀ (n : Nat) (x1 : Int32) (M2 : gM) (H : Heap) (locs : List Loc) (ls : Array Slot), gZ D mLay dA mLive A (gA mLive A) s.heap M2 H locs → lv_has ls 4 [(0, .ref (A m_o)), (1, .int x1)] → f_X11_endFar_L2 n x1 M2 = some y → W p l e (headSpec wmX11_endFar ({ frames := 2, cells := 0, slots := 0, locals := 45 } : Room)).room s m args below meth c H locs 0 0 (MQ below (mQv D dA A y) args s 0 0 (gA mLive A)) (F0 m 2 ls []) := by
    intro n
    induction n with
    | zero =>
      intro x1 M2 H locs ls Z hl h
      rw [f_X11_endFar_L2] at h
      cases h
    | succ n3 ih2 =>
      intro x1 M2 H locs ls Z hl h
      rw [f_X11_endFar_L2] at h
      refine lv_iload_n hx hb dX11_endFar_2 rfl (lv_at hl 1 rfl) ?_
      refine lv_iconst (v := (4 : Int32)) hx hb dX11_endFar_3 (by decide) ?_
      refine lv_icmp_ge (tgt := 57) hx hb dX11_endFar_4 (by decide) (fun c4 => ?_) (fun c4 => ?_)
      · have h := if_t c4 h
        have hy := Option.some.inj h
        subst hy
        exact g_rv S Z hr hlocks dX11_endFar_57
      · have h := if_f c4 h
        refine lv_aload_n hx hb dX11_endFar_7 rfl (lv_at hl 0 rfl) ?_
        refine lv_iload_n hx hb dX11_endFar_8 rfl (lv_at hl 1 rfl) ?_
        obtain ⟨v6, hc5, h⟩ := o1_e h
        refine g_Vi (As := [.int x1]) (rest := []) S X Z mlv_o rfl rfl (t_X11_nearSet l D dA A hJ  hc5) (cwV 1 hts (mGV (mB 75 rfl) (mB 76 rfl) (mB 77 rfl) (mB 63 rfl) (mB 70 rfl)) rfl rfl rfl (by decide +kernel) ⟨Nat.le_of_ble_eq_true rfl, Nat.le_of_ble_eq_true rfl⟩) rfl hl.1 rfl (Nat.le_of_ble_eq_true rfl) dX11_endFar_9 ⟨Nat.zero_le _, Nat.zero_le _⟩ (fun H locs Z => ?_)
        refine lv_istore_n (lv' := [(2, .int v6), (0, .ref (A m_o)), (1, .int x1)]) hx hb dX11_endFar_12 rfl hl (by decide) rfl (fun ls hl => ?_)
        refine lv_iconst (v := (0 : Int32)) hx hb dX11_endFar_13 (by decide) ?_
        refine lv_istore_n (lv' := [(3, .int (0 : Int32)), (2, .int v6), (0, .ref (A m_o)), (1, .int x1)]) hx hb dX11_endFar_14 rfl hl (by decide) rfl (fun ls hl => ?_)
        obtain ⟨J51, eJ51, h⟩ := jn_e h
        have hJ51 : ∀ (M7 : gM) (H : Heap) (locs : List Loc) (ls : Array Slot), gZ D mLay dA mLive A (gA mLive A) s.heap M7 H locs → lv_has ls 4 [(0, .ref (A m_o)), (1, .int x1)] → J51 M7 = some y → W p l e (headSpec wmX11_endFar ({ frames := 2, cells := 0, slots := 0, locals := 45 } : Room)).room s m args below meth c H locs 0 0 (MQ below (mQv D dA A y) args s 0 0 (gA mLive A)) (F0 m 51 ls []) := by
          intro M7 H locs ls Z hl h
          rw [eJ51] at h
          try dsimp only at h
          obtain ⟨x8, ex8, h⟩ := lt_e h
          refine lv_iinc (v := x8) (lv' := [(1, .int x8), (0, .ref (A m_o))]) hx hb dX11_endFar_51 hl (k := 1) rfl (by rw [ex8]; rfl) (by decide) rfl (fun ls hl => ?_)
          refine lv_goto (tgt := 2) hx hb dX11_endFar_54 (by decide) ?_
          exact ih2 x8 M7 _ _ _ Z (lv_sub hl [1, 0] rfl) h
        have hL15 : ∀ (n : Nat) (x9 : Int32) (M10 : gM) (H : Heap) (locs : List Loc) (ls : Array Slot), gZ D mLay dA mLive A (gA mLive A) s.heap M10 H locs → lv_has ls 4 [(0, .ref (A m_o)), (1, .int x1), (2, .int v6), (3, .int x9)] → f_X11_endFar_L15 x1 v6 J51 n x9 M10 = some y → W p l e (headSpec wmX11_endFar ({ frames := 2, cells := 0, slots := 0, locals := 45 } : Room)).room s m args below meth c H locs 0 0 (MQ below (mQv D dA A y) args s 0 0 (gA mLive A)) (F0 m 15 ls []) := by
          intro n
          induction n with
          | zero =>
            intro x9 M10 H locs ls Z hl h
            rw [f_X11_endFar_L15] at h
            cases h
          | succ n11 ih15 =>
            intro x9 M10 H locs ls Z hl h
            rw [f_X11_endFar_L15] at h
            refine lv_iload_n hx hb dX11_endFar_15 rfl (lv_at hl 3 rfl) ?_
            refine lv_bipush (v := (48 : Int32)) hx hb dX11_endFar_16 (by decide) ?_
            refine lv_icmp_ge (tgt := 51) hx hb dX11_endFar_18 (by decide) (fun c12 => ?_) (fun c12 => ?_)
            · have h := if_t c12 h
              exact hJ51 M10 _ _ _ Z (lv_sub hl [0, 1] rfl) h
            · have h := if_f c12 h
              refine lv_aload_n hx hb dX11_endFar_21 rfl (lv_at hl 0 rfl) ?_
              refine mr_promised S X Z hin hl_77 dX11_endFar_22 ?_
              refine lv_bipush (v := (48 : Int32)) hx hb dX11_endFar_25 (by decide) ?_
              refine lv_iload_n hx hb dX11_endFar_27 rfl (lv_at hl 1 rfl) ?_
              refine lv_imul hx hb dX11_endFar_28 ?_
              refine lv_iload_n hx hb dX11_endFar_29 rfl (lv_at hl 3 rfl) ?_
              refine lv_iadd hx hb dX11_endFar_30 ?_
              refine lv_aload_n hx hb dX11_endFar_31 rfl (lv_at hl 0 rfl) ?_
              refine mr_promised S X Z hin hl_77 dX11_endFar_32 ?_
              refine lv_bipush (v := (48 : Int32)) hx hb dX11_endFar_35 (by decide) ?_
              refine lv_iload_n hx hb dX11_endFar_37 rfl (lv_at hl 1 rfl) ?_
              refine lv_imul hx hb dX11_endFar_38 ?_
              refine lv_iload_n hx hb dX11_endFar_39 rfl (lv_at hl 3 rfl) ?_
              refine lv_iadd hx hb dX11_endFar_40 ?_
              refine g_iald S X Z ml_promised rfl dX11_endFar_41 h (fun v13 h => ?_)
              refine lv_iload_n hx hb dX11_endFar_42 rfl (lv_at hl 2 rfl) ?_
              refine lv_iand hx hb dX11_endFar_43 ?_
              refine g_iast S X Z ml_promised rfl dX11_endFar_44 h (fun M14 H locs Z h => ?_)
              obtain ⟨x15, ex15, h⟩ := lt_e h
              refine lv_iinc (v := x15) (lv' := [(3, .int x15), (0, .ref (A m_o)), (1, .int x1), (2, .int v6)]) hx hb dX11_endFar_45 hl (k := 3) rfl (by rw [ex15]; rfl) (by decide) rfl (fun ls hl => ?_)
              refine lv_goto (tgt := 15) hx hb dX11_endFar_48 (by decide) ?_
              exact ih15 x15 M14 _ _ _ Z (lv_sub hl [1, 2, 3, 0] rfl) h
        exact hL15 100 (0 : Int32) M2 _ _ _ Z (lv_sub hl [2, 3, 1, 0] rfl) h
  exact hL2 100 (0 : Int32) M _ _ _ Z (lv_sub hl [1, 0] rfl) h
-- X11_link (IIZ)Z: 91 instructions
theorem dX11_link_0 : decode cX11_link 0 = .ok (.aload_n 0, 1) := by decide +kernel
theorem dX11_link_1 : decode cX11_link 1 = .ok (.aload_n 0, 1) := by decide +kernel
theorem dX11_link_2 : decode cX11_link 2 = .ok (.iload_n 1, 1) := by decide +kernel
theorem dX11_link_3 : decode cX11_link 3 = .ok (.invokevirtual 184, 3) := by decide +kernel
theorem dX11_link_6 : decode cX11_link 6 = .ok (.ifCond .eq 31, 3) := by decide +kernel
theorem dX11_link_9 : decode cX11_link 9 = .ok (.iload_n 2, 1) := by decide +kernel
theorem dX11_link_10 : decode cX11_link 10 = .ok (.iconst 0, 1) := by decide +kernel
theorem dX11_link_11 : decode cX11_link 11 = .ok (.bipush 7, 2) := by decide +kernel
theorem dX11_link_13 : decode cX11_link 13 = .ok (.invokestatic 168, 3) := by decide +kernel
theorem dX11_link_16 : decode cX11_link 16 = .ok (.ifCond .eq 21, 3) := by decide +kernel
theorem dX11_link_19 : decode cX11_link 19 = .ok (.iload_n 2, 1) := by decide +kernel
theorem dX11_link_20 : decode cX11_link 20 = .ok (.iconst 4, 1) := by decide +kernel
theorem dX11_link_21 : decode cX11_link 21 = .ok (.if_icmp .ge 20, 3) := by decide +kernel
theorem dX11_link_24 : decode cX11_link 24 = .ok (.aload_n 0, 1) := by decide +kernel
theorem dX11_link_25 : decode cX11_link 25 = .ok (.iload_n 2, 1) := by decide +kernel
theorem dX11_link_26 : decode cX11_link 26 = .ok (.invokevirtual 184, 3) := by decide +kernel
theorem dX11_link_29 : decode cX11_link 29 = .ok (.ifCond .eq 8, 3) := by decide +kernel
theorem dX11_link_32 : decode cX11_link 32 = .ok (.iload_n 2, 1) := by decide +kernel
theorem dX11_link_33 : decode cX11_link 33 = .ok (.iload_n 1, 1) := by decide +kernel
theorem dX11_link_34 : decode cX11_link 34 = .ok (.if_icmp .ne 7, 3) := by decide +kernel
theorem dX11_link_37 : decode cX11_link 37 = .ok (.iconst 1, 1) := by decide +kernel
theorem dX11_link_38 : decode cX11_link 38 = .ok (.goto 4, 3) := by decide +kernel
theorem dX11_link_41 : decode cX11_link 41 = .ok (.iconst 0, 1) := by decide +kernel
theorem dX11_link_42 : decode cX11_link 42 = .ok (.putfield 165, 3) := by decide +kernel
theorem dX11_link_45 : decode cX11_link 45 = .ok (.aload_n 0, 1) := by decide +kernel
theorem dX11_link_46 : decode cX11_link 46 = .ok (.getfield 165, 3) := by decide +kernel
theorem dX11_link_49 : decode cX11_link 49 = .ok (.ifCond .le 5, 3) := by decide +kernel
theorem dX11_link_52 : decode cX11_link 52 = .ok (.iconst 0, 1) := by decide +kernel
theorem dX11_link_53 : decode cX11_link 53 = .ok (.ireturn, 1) := by decide +kernel
theorem dX11_link_54 : decode cX11_link 54 = .ok (.iload_n 2, 1) := by decide +kernel
theorem dX11_link_55 : decode cX11_link 55 = .ok (.iconst 4, 1) := by decide +kernel
theorem dX11_link_56 : decode cX11_link 56 = .ok (.if_icmp .ge 40, 3) := by decide +kernel
theorem dX11_link_59 : decode cX11_link 59 = .ok (.aload_n 0, 1) := by decide +kernel
theorem dX11_link_60 : decode cX11_link 60 = .ok (.getfield 13, 3) := by decide +kernel
theorem dX11_link_63 : decode cX11_link 63 = .ok (.iconst 4, 1) := by decide +kernel
theorem dX11_link_64 : decode cX11_link 64 = .ok (.iload_n 1, 1) := by decide +kernel
theorem dX11_link_65 : decode cX11_link 65 = .ok (.imul, 1) := by decide +kernel
theorem dX11_link_66 : decode cX11_link 66 = .ok (.iload_n 2, 1) := by decide +kernel
theorem dX11_link_67 : decode cX11_link 67 = .ok (.iadd, 1) := by decide +kernel
theorem dX11_link_68 : decode cX11_link 68 = .ok (.baload, 1) := by decide +kernel
theorem dX11_link_69 : decode cX11_link 69 = .ok (.istore 4, 2) := by decide +kernel
theorem dX11_link_71 : decode cX11_link 71 = .ok (.aload_n 0, 1) := by decide +kernel
theorem dX11_link_72 : decode cX11_link 72 = .ok (.getfield 13, 3) := by decide +kernel
theorem dX11_link_75 : decode cX11_link 75 = .ok (.iconst 4, 1) := by decide +kernel
theorem dX11_link_76 : decode cX11_link 76 = .ok (.iload_n 1, 1) := by decide +kernel
theorem dX11_link_77 : decode cX11_link 77 = .ok (.imul, 1) := by decide +kernel
theorem dX11_link_78 : decode cX11_link 78 = .ok (.iload_n 2, 1) := by decide +kernel
theorem dX11_link_79 : decode cX11_link 79 = .ok (.iadd, 1) := by decide +kernel
theorem dX11_link_80 : decode cX11_link 80 = .ok (.iload_n 3, 1) := by decide +kernel
theorem dX11_link_81 : decode cX11_link 81 = .ok (.bastore, 1) := by decide +kernel
theorem dX11_link_82 : decode cX11_link 82 = .ok (.aload_n 0, 1) := by decide +kernel
theorem dX11_link_83 : decode cX11_link 83 = .ok (.getfield 13, 3) := by decide +kernel
theorem dX11_link_86 : decode cX11_link 86 = .ok (.iconst 4, 1) := by decide +kernel
theorem dX11_link_87 : decode cX11_link 87 = .ok (.iload_n 2, 1) := by decide +kernel
theorem dX11_link_88 : decode cX11_link 88 = .ok (.imul, 1) := by decide +kernel
theorem dX11_link_89 : decode cX11_link 89 = .ok (.iload_n 1, 1) := by decide +kernel
theorem dX11_link_90 : decode cX11_link 90 = .ok (.iadd, 1) := by decide +kernel
theorem dX11_link_91 : decode cX11_link 91 = .ok (.iload_n 3, 1) := by decide +kernel
theorem dX11_link_92 : decode cX11_link 92 = .ok (.bastore, 1) := by decide +kernel
theorem dX11_link_93 : decode cX11_link 93 = .ok (.goto 30, 3) := by decide +kernel
theorem dX11_link_96 : decode cX11_link 96 = .ok (.aload_n 0, 1) := by decide +kernel
theorem dX11_link_97 : decode cX11_link 97 = .ok (.getfield 16, 3) := by decide +kernel
theorem dX11_link_100 : decode cX11_link 100 = .ok (.iconst 4, 1) := by decide +kernel
theorem dX11_link_101 : decode cX11_link 101 = .ok (.iload_n 2, 1) := by decide +kernel
theorem dX11_link_102 : decode cX11_link 102 = .ok (.iconst 4, 1) := by decide +kernel
theorem dX11_link_103 : decode cX11_link 103 = .ok (.isub, 1) := by decide +kernel
theorem dX11_link_104 : decode cX11_link 104 = .ok (.imul, 1) := by decide +kernel
theorem dX11_link_105 : decode cX11_link 105 = .ok (.iload_n 1, 1) := by decide +kernel
theorem dX11_link_106 : decode cX11_link 106 = .ok (.iadd, 1) := by decide +kernel
theorem dX11_link_107 : decode cX11_link 107 = .ok (.baload, 1) := by decide +kernel
theorem dX11_link_108 : decode cX11_link 108 = .ok (.istore 4, 2) := by decide +kernel
theorem dX11_link_110 : decode cX11_link 110 = .ok (.aload_n 0, 1) := by decide +kernel
theorem dX11_link_111 : decode cX11_link 111 = .ok (.getfield 16, 3) := by decide +kernel
theorem dX11_link_114 : decode cX11_link 114 = .ok (.iconst 4, 1) := by decide +kernel
theorem dX11_link_115 : decode cX11_link 115 = .ok (.iload_n 2, 1) := by decide +kernel
theorem dX11_link_116 : decode cX11_link 116 = .ok (.iconst 4, 1) := by decide +kernel
theorem dX11_link_117 : decode cX11_link 117 = .ok (.isub, 1) := by decide +kernel
theorem dX11_link_118 : decode cX11_link 118 = .ok (.imul, 1) := by decide +kernel
theorem dX11_link_119 : decode cX11_link 119 = .ok (.iload_n 1, 1) := by decide +kernel
theorem dX11_link_120 : decode cX11_link 120 = .ok (.iadd, 1) := by decide +kernel
theorem dX11_link_121 : decode cX11_link 121 = .ok (.iload_n 3, 1) := by decide +kernel
theorem dX11_link_122 : decode cX11_link 122 = .ok (.bastore, 1) := by decide +kernel
theorem dX11_link_123 : decode cX11_link 123 = .ok (.aload_n 0, 1) := by decide +kernel
theorem dX11_link_124 : decode cX11_link 124 = .ok (.invokevirtual 188, 3) := by decide +kernel
theorem dX11_link_127 : decode cX11_link 127 = .ok (.iload 4, 2) := by decide +kernel
theorem dX11_link_129 : decode cX11_link 129 = .ok (.iload_n 3, 1) := by decide +kernel
theorem dX11_link_130 : decode cX11_link 130 = .ok (.if_icmp .eq 7, 3) := by decide +kernel
theorem dX11_link_133 : decode cX11_link 133 = .ok (.iconst 1, 1) := by decide +kernel
theorem dX11_link_134 : decode cX11_link 134 = .ok (.goto 4, 3) := by decide +kernel
theorem dX11_link_137 : decode cX11_link 137 = .ok (.iconst 0, 1) := by decide +kernel
theorem dX11_link_138 : decode cX11_link 138 = .ok (.ireturn, 1) := by decide +kernel
abbrev wmX11_link : List Cond := .code yX11_link cX11_link 5 (some .boolean) :: mBig
def f_X11_link (M : gM) (a1 : Int32) (a2 : Int32) (a3 : Int32) : Option (Int32 × gM) :=
  o1 (f_X11_isServer M a1) (fun v2 => jn (fun (q : (Int32 × gM)) => match q with | (b3, M4) => lt (gset M4 m_o 66 b3) (fun M5 => lt (M5 m_o 66) (fun v6 => (if v6 ≤ 0 then jn (fun (q : (Int32 × gM)) => match q with | (b8, M9) => o1 (f_X11_endFar M9 ) (fun M11 => (if b8 = a3 then some ((0 : Int32), M11) else some ((1 : Int32), M11)))) (fun J123 => (if (4 : Int32) ≤ a2 then rd M5 m_reaches 16 (((4 : Int32) * (a2 - (4 : Int32))) + a1) (fun v14 => wz M5 m_reaches 16 (((4 : Int32) * (a2 - (4 : Int32))) + a1) a3 (fun M15 => J123 (v14, M15))) else rd M5 m_linked 16 (((4 : Int32) * a1) + a2) (fun v16 => wz M5 m_linked 16 (((4 : Int32) * a1) + a2) a3 (fun M17 => wz M17 m_linked 16 (((4 : Int32) * a2) + a1) a3 (fun M18 => J123 (v16, M18)))))) else some ((0 : Int32), M5))))) (fun J42 => jn (fun (M19 : gM) => J42 ((1 : Int32), M19)) (fun J37 => (if v2 = 0 then J37 M else o1 (f_X11_in M a2 (0 : Int32) (7 : Int32)) (fun v22 => (if v22 = 0 then J37 M else jn (fun (M24 : gM) => J42 ((0 : Int32), M24)) (fun J41 => (if (4 : Int32) ≤ a2 then J41 M else o1 (f_X11_isServer M a2) (fun v27 => (if v27 = 0 then J37 M else (if a2 = a1 then J37 M else J41 M)))))))))))
set_option maxHeartbeats 4000000 in
set_option maxRecDepth 100000 in
theorem t_X11_link (l : Launch) (D : va_G) (dA : Nat → ClassId) (A : gI → Nat) (hJ : gJ mLive A) {M : gM} {a1 : Int32} {a2 : Int32} {a3 : Int32}  {y : (Int32 × gM)} (h : f_X11_link M a1 a2 a3 = some y) : mMi l yX11_link wmX11_link ({ frames := 3, cells := 0, slots := 0, locals := 68 } : Room) D dA A [.ref (A m_o), .int a1, .int a2, .int a3] M y.1 y.2 := by
  refine Met.ofW (cc := cX11_link) (maxL := 5) (ret := (some .boolean)) (by decide) rfl ?_
  intro p e s m args below meth c s₁ B hml hv
  obtain ⟨rfl, hP, hK⟩ := hv
  generalize hargs : ([.ref (A m_o), .int a1, .int a2, .int a3] : List Value).toArray = args at B ⊢
  have S : CallFix p m c cX11_link 5 s args wmX11_link RX11 := ⟨B.exec, B.bytes, hml, findClass_of_methodNamed B.named, atoms_spec (ws := wmX11_link) B.pre⟩
  obtain ⟨hx, hb, -, hown, hts⟩ := id S
  have hr := B.returns
  have hlocks := B.notSynchronized
  have X : gX D vwCl dA mLive A (gA mLive A) s := ⟨hK, hJ, fun i hi => ⟨i, hi, rfl⟩⟩
  have Z : gZ D mLay dA mLive A (gA mLive A) s.heap M s.heap [] := ⟨hP, va_S.rf⟩
  have hin : ∀ w ∈ wsX110, w ∈ wmX11_link := m_in
  have hl_13 := hts (.fieldLink RX11 13 "ReplicaFilesModel" "linked" "[Z") (mBc 5 rfl)
  have hl_16 := hts (.fieldLink RX11 16 "ReplicaFilesModel" "reaches" "[Z") (mBc 6 rfl)
  have hl_165 := hts (.fieldLink RX11 165 "ReplicaFilesModel" "thrown" "I") (mBc 58 rfl)
  have hl := lv_entry ([.ref (A m_o), .int a1, .int a2, .int a3]) (n := 5) (Nat.le_of_ble_eq_true rfl)
  rw [← hargs, lg_entry_eq, hargs]
  generalize (lg_sl ([.ref (A m_o), .int a1, .int a2, .int a3]) ++ List.replicate (5 - (lg_sl ([.ref (A m_o), .int a1, .int a2, .int a3])).length) Slot.unset).toArray = ls at hl ⊢
  have hl : lv_has ls 5 [(0, .ref (A m_o)), (1, .int a1), (2, .int a2), (3, .int a3)] := hl
  unfold f_X11_link at h
  refine lv_aload_n hx hb dX11_link_0 rfl (lv_at hl 0 rfl) ?_
  refine lv_aload_n hx hb dX11_link_1 rfl (lv_at hl 0 rfl) ?_
  refine lv_iload_n hx hb dX11_link_2 rfl (lv_at hl 1 rfl) ?_
  obtain ⟨v2, hc1, h⟩ := o1_e h
  refine g_Vi (As := [.int a1]) (rest := [.ref (A m_o)]) S X Z mlv_o rfl rfl (t_X11_isServer l D dA A hJ  hc1) (cwV 1 hts (mGV (mB 81 rfl) (mB 82 rfl) (mB 83 rfl) (mB 63 rfl) (mB 60 rfl)) rfl rfl rfl (by decide +kernel) ⟨Nat.le_of_ble_eq_true rfl, Nat.le_of_ble_eq_true rfl⟩) rfl hl.1 rfl (Nat.le_of_ble_eq_true rfl) dX11_link_3 ⟨Nat.zero_le _, Nat.zero_le _⟩ (fun H locs Z => ?_)
  obtain ⟨J42, eJ42, h⟩ := jn_e h
  have hJ42 : ∀ (b3 : Int32) (M4 : gM) (H : Heap) (locs : List Loc) (ls : Array Slot), gZ D mLay dA mLive A (gA mLive A) s.heap M4 H locs → lv_has ls 5 [(0, .ref (A m_o)), (1, .int a1), (2, .int a2), (3, .int a3)] → J42 (b3, M4) = some y → W p l e (headSpec wmX11_link ({ frames := 3, cells := 0, slots := 0, locals := 68 } : Room)).room s m args below meth c H locs 0 0 (MQ below (mQi D dA A y) args s 0 0 (gA mLive A)) (F0 m 42 ls [.int b3, .ref (A m_o)]) := by
    intro b3 M4 H locs ls Z hl h
    rw [eJ42] at h
    try dsimp only at h
    refine mp_thrown S X Z hin hl_165 dX11_link_42 h (fun M5 H locs Z h => ?_)
    refine lv_aload_n hx hb dX11_link_45 rfl (lv_at hl 0 rfl) ?_
    refine mr_thrown S X Z hin hl_165 dX11_link_46 h (fun v6 h => ?_)
    refine lv_if_le (tgt := 54) hx hb dX11_link_49 (by decide) (fun c7 => ?_) (fun c7 => ?_)
    · have h := if_t c7 h
      refine lv_iload_n hx hb dX11_link_54 rfl (lv_at hl 2 rfl) ?_
      refine lv_iconst (v := (4 : Int32)) hx hb dX11_link_55 (by decide) ?_
      obtain ⟨J123, eJ123, h⟩ := jn_e h
      have hJ123 : ∀ (b8 : Int32) (M9 : gM) (H : Heap) (locs : List Loc) (ls : Array Slot), gZ D mLay dA mLive A (gA mLive A) s.heap M9 H locs → lv_has ls 5 [(0, .ref (A m_o)), (3, .int a3), (4, .int b8)] → J123 (b8, M9) = some y → W p l e (headSpec wmX11_link ({ frames := 3, cells := 0, slots := 0, locals := 68 } : Room)).room s m args below meth c H locs 0 0 (MQ below (mQi D dA A y) args s 0 0 (gA mLive A)) (F0 m 123 ls []) := by
        intro b8 M9 H locs ls Z hl h
        rw [eJ123] at h
        try dsimp only at h
        refine lv_aload_n hx hb dX11_link_123 rfl (lv_at hl 0 rfl) ?_
        obtain ⟨M11, hc10, h⟩ := o1_e h
        refine g_Vv (As := []) (rest := []) S X Z mlv_o rfl rfl (t_X11_endFar l D dA A hJ  hc10) (cwV 0 hts (mGV (mB 84 rfl) (mB 85 rfl) (mB 86 rfl) (mB 63 rfl) (mB 80 rfl)) rfl rfl rfl (by decide +kernel) ⟨Nat.le_of_ble_eq_true rfl, Nat.le_of_ble_eq_true rfl⟩) rfl hl.1 rfl (Nat.le_of_ble_eq_true rfl) dX11_link_124 ⟨Nat.zero_le _, Nat.zero_le _⟩ (fun H locs Z => ?_)
        refine lv_iload hx hb dX11_link_127 (lv_at hl 2 rfl) ?_
        refine lv_iload_n hx hb dX11_link_129 rfl (lv_at hl 1 rfl) ?_
        refine lv_icmp_eq (tgt := 137) hx hb dX11_link_130 (by decide) (fun c12 => ?_) (fun c12 => ?_)
        · have h := if_t c12 h
          refine lv_iconst (v := (0 : Int32)) hx hb dX11_link_137 (by decide) ?_
          have hy := Option.some.inj h
          subst hy
          exact g_rz (Or.inl rfl) S Z hr hlocks dX11_link_138
        · have h := if_f c12 h
          refine lv_iconst (v := (1 : Int32)) hx hb dX11_link_133 (by decide) ?_
          refine lv_goto (tgt := 138) hx hb dX11_link_134 (by decide) ?_
          have hy := Option.some.inj h
          subst hy
          exact g_rz (Or.inr rfl) S Z hr hlocks dX11_link_138
      refine lv_icmp_ge (tgt := 96) hx hb dX11_link_56 (by decide) (fun c13 => ?_) (fun c13 => ?_)
      · have h := if_t c13 h
        refine lv_aload_n hx hb dX11_link_96 rfl (lv_at hl 0 rfl) ?_
        refine mr_reaches S X Z hin hl_16 dX11_link_97 ?_
        refine lv_iconst (v := (4 : Int32)) hx hb dX11_link_100 (by decide) ?_
        refine lv_iload_n hx hb dX11_link_101 rfl (lv_at hl 2 rfl) ?_
        refine lv_iconst (v := (4 : Int32)) hx hb dX11_link_102 (by decide) ?_
        refine lv_isub hx hb dX11_link_103 ?_
        refine lv_imul hx hb dX11_link_104 ?_
        refine lv_iload_n hx hb dX11_link_105 rfl (lv_at hl 1 rfl) ?_
        refine lv_iadd hx hb dX11_link_106 ?_
        refine g_zald S X Z ml_reaches rfl dX11_link_107 h (fun v14 h => ?_)
        refine lv_istore (lv' := [(4, .int v14), (0, .ref (A m_o)), (1, .int a1), (2, .int a2), (3, .int a3)]) hx hb dX11_link_108 hl (by decide) rfl (fun ls hl => ?_)
        refine lv_aload_n hx hb dX11_link_110 rfl (lv_at hl 1 rfl) ?_
        refine mr_reaches S X Z hin hl_16 dX11_link_111 ?_
        refine lv_iconst (v := (4 : Int32)) hx hb dX11_link_114 (by decide) ?_
        refine lv_iload_n hx hb dX11_link_115 rfl (lv_at hl 3 rfl) ?_
        refine lv_iconst (v := (4 : Int32)) hx hb dX11_link_116 (by decide) ?_
        refine lv_isub hx hb dX11_link_117 ?_
        refine lv_imul hx hb dX11_link_118 ?_
        refine lv_iload_n hx hb dX11_link_119 rfl (lv_at hl 2 rfl) ?_
        refine lv_iadd hx hb dX11_link_120 ?_
        refine lv_iload_n hx hb dX11_link_121 rfl (lv_at hl 4 rfl) ?_
        refine g_zast S X Z ml_reaches rfl dX11_link_122 h (fun M15 H locs Z h => ?_)
        exact hJ123 v14 M15 _ _ _ Z (lv_sub hl [1, 4, 0] rfl) h
      · have h := if_f c13 h
        refine lv_aload_n hx hb dX11_link_59 rfl (lv_at hl 0 rfl) ?_
        refine mr_linked S X Z hin hl_13 dX11_link_60 ?_
        refine lv_iconst (v := (4 : Int32)) hx hb dX11_link_63 (by decide) ?_
        refine lv_iload_n hx hb dX11_link_64 rfl (lv_at hl 1 rfl) ?_
        refine lv_imul hx hb dX11_link_65 ?_
        refine lv_iload_n hx hb dX11_link_66 rfl (lv_at hl 2 rfl) ?_
        refine lv_iadd hx hb dX11_link_67 ?_
        refine g_zald S X Z ml_linked rfl dX11_link_68 h (fun v16 h => ?_)
        refine lv_istore (lv' := [(4, .int v16), (0, .ref (A m_o)), (1, .int a1), (2, .int a2), (3, .int a3)]) hx hb dX11_link_69 hl (by decide) rfl (fun ls hl => ?_)
        refine lv_aload_n hx hb dX11_link_71 rfl (lv_at hl 1 rfl) ?_
        refine mr_linked S X Z hin hl_13 dX11_link_72 ?_
        refine lv_iconst (v := (4 : Int32)) hx hb dX11_link_75 (by decide) ?_
        refine lv_iload_n hx hb dX11_link_76 rfl (lv_at hl 2 rfl) ?_
        refine lv_imul hx hb dX11_link_77 ?_
        refine lv_iload_n hx hb dX11_link_78 rfl (lv_at hl 3 rfl) ?_
        refine lv_iadd hx hb dX11_link_79 ?_
        refine lv_iload_n hx hb dX11_link_80 rfl (lv_at hl 4 rfl) ?_
        refine g_zast S X Z ml_linked rfl dX11_link_81 h (fun M17 H locs Z h => ?_)
        refine lv_aload_n hx hb dX11_link_82 rfl (lv_at hl 1 rfl) ?_
        refine mr_linked S X Z hin hl_13 dX11_link_83 ?_
        refine lv_iconst (v := (4 : Int32)) hx hb dX11_link_86 (by decide) ?_
        refine lv_iload_n hx hb dX11_link_87 rfl (lv_at hl 3 rfl) ?_
        refine lv_imul hx hb dX11_link_88 ?_
        refine lv_iload_n hx hb dX11_link_89 rfl (lv_at hl 2 rfl) ?_
        refine lv_iadd hx hb dX11_link_90 ?_
        refine lv_iload_n hx hb dX11_link_91 rfl (lv_at hl 4 rfl) ?_
        refine g_zast S X Z ml_linked rfl dX11_link_92 h (fun M18 H locs Z h => ?_)
        refine lv_goto (tgt := 123) hx hb dX11_link_93 (by decide) ?_
        exact hJ123 v16 M18 _ _ _ Z (lv_sub hl [1, 4, 0] rfl) h
    · have h := if_f c7 h
      refine lv_iconst (v := (0 : Int32)) hx hb dX11_link_52 (by decide) ?_
      have hy := Option.some.inj h
      subst hy
      exact g_rz (Or.inl rfl) S Z hr hlocks dX11_link_53
  obtain ⟨J37, eJ37, h⟩ := jn_e h
  have hJ37 : ∀ (M19 : gM) (H : Heap) (locs : List Loc) (ls : Array Slot), gZ D mLay dA mLive A (gA mLive A) s.heap M19 H locs → lv_has ls 5 [(0, .ref (A m_o)), (1, .int a1), (2, .int a2), (3, .int a3)] → J37 M19 = some y → W p l e (headSpec wmX11_link ({ frames := 3, cells := 0, slots := 0, locals := 68 } : Room)).room s m args below meth c H locs 0 0 (MQ below (mQi D dA A y) args s 0 0 (gA mLive A)) (F0 m 37 ls [.ref (A m_o)]) := by
    intro M19 H locs ls Z hl h
    rw [eJ37] at h
    try dsimp only at h
    refine lv_iconst (v := (1 : Int32)) hx hb dX11_link_37 (by decide) ?_
    refine lv_goto (tgt := 42) hx hb dX11_link_38 (by decide) ?_
    exact hJ42 (1 : Int32) M19 _ _ _ Z (lv_sub hl [0, 1, 2, 3] rfl) h
  refine lv_if_eq (tgt := 37) hx hb dX11_link_6 (by decide) (fun c20 => ?_) (fun c20 => ?_)
  · have h := if_t c20 h
    exact hJ37 M _ _ _ Z (lv_sub hl [0, 1, 2, 3] rfl) h
  · have h := if_f c20 h
    refine lv_iload_n hx hb dX11_link_9 rfl (lv_at hl 2 rfl) ?_
    refine lv_iconst (v := (0 : Int32)) hx hb dX11_link_10 (by decide) ?_
    refine lv_bipush (v := (7 : Int32)) hx hb dX11_link_11 (by decide) ?_
    obtain ⟨v22, hc21, h⟩ := o1_e h
    refine g_Si (As := [.int a2, .int (0 : Int32), .int (7 : Int32)]) (rest := [.ref (A m_o)]) S X Z (t_X11_in l D dA A hJ  hc21) (va_cwS 3 hts (mGS (mB 61 rfl) (mB 62 rfl) (mB 63 rfl) (mB 59 rfl)) rfl rfl rfl (by decide +kernel) ⟨Nat.le_of_ble_eq_true rfl, Nat.le_of_ble_eq_true rfl⟩) rfl hl.1 rfl (Nat.le_of_ble_eq_true rfl) dX11_link_13 ⟨Nat.zero_le _, Nat.zero_le _⟩ (fun H locs Z => ?_)
    refine lv_if_eq (tgt := 37) hx hb dX11_link_16 (by decide) (fun c23 => ?_) (fun c23 => ?_)
    · have h := if_t c23 h
      exact hJ37 M _ _ _ Z (lv_sub hl [0, 1, 2, 3] rfl) h
    · have h := if_f c23 h
      refine lv_iload_n hx hb dX11_link_19 rfl (lv_at hl 2 rfl) ?_
      refine lv_iconst (v := (4 : Int32)) hx hb dX11_link_20 (by decide) ?_
      obtain ⟨J41, eJ41, h⟩ := jn_e h
      have hJ41 : ∀ (M24 : gM) (H : Heap) (locs : List Loc) (ls : Array Slot), gZ D mLay dA mLive A (gA mLive A) s.heap M24 H locs → lv_has ls 5 [(0, .ref (A m_o)), (1, .int a1), (2, .int a2), (3, .int a3)] → J41 M24 = some y → W p l e (headSpec wmX11_link ({ frames := 3, cells := 0, slots := 0, locals := 68 } : Room)).room s m args below meth c H locs 0 0 (MQ below (mQi D dA A y) args s 0 0 (gA mLive A)) (F0 m 41 ls [.ref (A m_o)]) := by
        intro M24 H locs ls Z hl h
        rw [eJ41] at h
        try dsimp only at h
        refine lv_iconst (v := (0 : Int32)) hx hb dX11_link_41 (by decide) ?_
        exact hJ42 (0 : Int32) M24 _ _ _ Z (lv_sub hl [0, 1, 2, 3] rfl) h
      refine lv_icmp_ge (tgt := 41) hx hb dX11_link_21 (by decide) (fun c25 => ?_) (fun c25 => ?_)
      · have h := if_t c25 h
        exact hJ41 M _ _ _ Z (lv_sub hl [0, 1, 2, 3] rfl) h
      · have h := if_f c25 h
        refine lv_aload_n hx hb dX11_link_24 rfl (lv_at hl 0 rfl) ?_
        refine lv_iload_n hx hb dX11_link_25 rfl (lv_at hl 2 rfl) ?_
        obtain ⟨v27, hc26, h⟩ := o1_e h
        refine g_Vi (As := [.int a2]) (rest := [.ref (A m_o)]) S X Z mlv_o rfl rfl (t_X11_isServer l D dA A hJ  hc26) (cwV 1 hts (mGV (mB 81 rfl) (mB 82 rfl) (mB 83 rfl) (mB 63 rfl) (mB 60 rfl)) rfl rfl rfl (by decide +kernel) ⟨Nat.le_of_ble_eq_true rfl, Nat.le_of_ble_eq_true rfl⟩) rfl hl.1 rfl (Nat.le_of_ble_eq_true rfl) dX11_link_26 ⟨Nat.zero_le _, Nat.zero_le _⟩ (fun H locs Z => ?_)
        refine lv_if_eq (tgt := 37) hx hb dX11_link_29 (by decide) (fun c28 => ?_) (fun c28 => ?_)
        · have h := if_t c28 h
          exact hJ37 M _ _ _ Z (lv_sub hl [0, 1, 2, 3] rfl) h
        · have h := if_f c28 h
          refine lv_iload_n hx hb dX11_link_32 rfl (lv_at hl 2 rfl) ?_
          refine lv_iload_n hx hb dX11_link_33 rfl (lv_at hl 1 rfl) ?_
          refine lv_icmp_ne (tgt := 41) hx hb dX11_link_34 (by decide) (fun c29 => ?_) (fun c29 => ?_)
          · have h := if_f c29 h
            exact hJ41 M _ _ _ Z (lv_sub hl [0, 1, 2, 3] rfl) h
          · have h := if_t c29 h
            exact hJ37 M _ _ _ Z (lv_sub hl [0, 1, 2, 3] rfl) h
-- X11_server (IZ)Z: 33 instructions
theorem dX11_server_0 : decode cX11_server 0 = .ok (.aload_n 0, 1) := by decide +kernel
theorem dX11_server_1 : decode cX11_server 1 = .ok (.aload_n 0, 1) := by decide +kernel
theorem dX11_server_2 : decode cX11_server 2 = .ok (.iload_n 1, 1) := by decide +kernel
theorem dX11_server_3 : decode cX11_server 3 = .ok (.invokevirtual 184, 3) := by decide +kernel
theorem dX11_server_6 : decode cX11_server 6 = .ok (.ifCond .eq 7, 3) := by decide +kernel
theorem dX11_server_9 : decode cX11_server 9 = .ok (.iconst 0, 1) := by decide +kernel
theorem dX11_server_10 : decode cX11_server 10 = .ok (.goto 4, 3) := by decide +kernel
theorem dX11_server_13 : decode cX11_server 13 = .ok (.iconst 1, 1) := by decide +kernel
theorem dX11_server_14 : decode cX11_server 14 = .ok (.putfield 165, 3) := by decide +kernel
theorem dX11_server_17 : decode cX11_server 17 = .ok (.aload_n 0, 1) := by decide +kernel
theorem dX11_server_18 : decode cX11_server 18 = .ok (.getfield 165, 3) := by decide +kernel
theorem dX11_server_21 : decode cX11_server 21 = .ok (.ifCond .le 5, 3) := by decide +kernel
theorem dX11_server_24 : decode cX11_server 24 = .ok (.iconst 0, 1) := by decide +kernel
theorem dX11_server_25 : decode cX11_server 25 = .ok (.ireturn, 1) := by decide +kernel
theorem dX11_server_26 : decode cX11_server 26 = .ok (.aload_n 0, 1) := by decide +kernel
theorem dX11_server_27 : decode cX11_server 27 = .ok (.getfield 7, 3) := by decide +kernel
theorem dX11_server_30 : decode cX11_server 30 = .ok (.iload_n 1, 1) := by decide +kernel
theorem dX11_server_31 : decode cX11_server 31 = .ok (.baload, 1) := by decide +kernel
theorem dX11_server_32 : decode cX11_server 32 = .ok (.istore_n 3, 1) := by decide +kernel
theorem dX11_server_33 : decode cX11_server 33 = .ok (.aload_n 0, 1) := by decide +kernel
theorem dX11_server_34 : decode cX11_server 34 = .ok (.getfield 7, 3) := by decide +kernel
theorem dX11_server_37 : decode cX11_server 37 = .ok (.iload_n 1, 1) := by decide +kernel
theorem dX11_server_38 : decode cX11_server 38 = .ok (.iload_n 2, 1) := by decide +kernel
theorem dX11_server_39 : decode cX11_server 39 = .ok (.bastore, 1) := by decide +kernel
theorem dX11_server_40 : decode cX11_server 40 = .ok (.aload_n 0, 1) := by decide +kernel
theorem dX11_server_41 : decode cX11_server 41 = .ok (.invokevirtual 188, 3) := by decide +kernel
theorem dX11_server_44 : decode cX11_server 44 = .ok (.iload_n 3, 1) := by decide +kernel
theorem dX11_server_45 : decode cX11_server 45 = .ok (.iload_n 2, 1) := by decide +kernel
theorem dX11_server_46 : decode cX11_server 46 = .ok (.if_icmp .eq 7, 3) := by decide +kernel
theorem dX11_server_49 : decode cX11_server 49 = .ok (.iconst 1, 1) := by decide +kernel
theorem dX11_server_50 : decode cX11_server 50 = .ok (.goto 4, 3) := by decide +kernel
theorem dX11_server_53 : decode cX11_server 53 = .ok (.iconst 0, 1) := by decide +kernel
theorem dX11_server_54 : decode cX11_server 54 = .ok (.ireturn, 1) := by decide +kernel
abbrev wmX11_server : List Cond := .code yX11_server cX11_server 4 (some .boolean) :: mBig
def f_X11_server (M : gM) (a1 : Int32) (a2 : Int32) : Option (Int32 × gM) :=
  o1 (f_X11_isServer M a1) (fun v2 => jn (fun (q : (Int32 × gM)) => match q with | (b3, M4) => lt (gset M4 m_o 66 b3) (fun M5 => lt (M5 m_o 66) (fun v6 => (if v6 ≤ 0 then rd M5 m_up 4 a1 (fun v8 => wz M5 m_up 4 a1 a2 (fun M9 => o1 (f_X11_endFar M9 ) (fun M11 => (if v8 = a2 then some ((0 : Int32), M11) else some ((1 : Int32), M11))))) else some ((0 : Int32), M5))))) (fun J14 => (if v2 = 0 then J14 ((1 : Int32), M) else J14 ((0 : Int32), M))))
set_option maxHeartbeats 4000000 in
set_option maxRecDepth 100000 in
theorem t_X11_server (l : Launch) (D : va_G) (dA : Nat → ClassId) (A : gI → Nat) (hJ : gJ mLive A) {M : gM} {a1 : Int32} {a2 : Int32}  {y : (Int32 × gM)} (h : f_X11_server M a1 a2 = some y) : mMi l yX11_server wmX11_server ({ frames := 3, cells := 0, slots := 0, locals := 68 } : Room) D dA A [.ref (A m_o), .int a1, .int a2] M y.1 y.2 := by
  refine Met.ofW (cc := cX11_server) (maxL := 4) (ret := (some .boolean)) (by decide) rfl ?_
  intro p e s m args below meth c s₁ B hml hv
  obtain ⟨rfl, hP, hK⟩ := hv
  generalize hargs : ([.ref (A m_o), .int a1, .int a2] : List Value).toArray = args at B ⊢
  have S : CallFix p m c cX11_server 4 s args wmX11_server RX11 := ⟨B.exec, B.bytes, hml, findClass_of_methodNamed B.named, atoms_spec (ws := wmX11_server) B.pre⟩
  obtain ⟨hx, hb, -, hown, hts⟩ := id S
  have hr := B.returns
  have hlocks := B.notSynchronized
  have X : gX D vwCl dA mLive A (gA mLive A) s := ⟨hK, hJ, fun i hi => ⟨i, hi, rfl⟩⟩
  have Z : gZ D mLay dA mLive A (gA mLive A) s.heap M s.heap [] := ⟨hP, va_S.rf⟩
  have hin : ∀ w ∈ wsX110, w ∈ wmX11_server := m_in
  have hl_7 := hts (.fieldLink RX11 7 "ReplicaFilesModel" "up" "[Z") (mBc 4 rfl)
  have hl_165 := hts (.fieldLink RX11 165 "ReplicaFilesModel" "thrown" "I") (mBc 58 rfl)
  have hl := lv_entry ([.ref (A m_o), .int a1, .int a2]) (n := 4) (Nat.le_of_ble_eq_true rfl)
  rw [← hargs, lg_entry_eq, hargs]
  generalize (lg_sl ([.ref (A m_o), .int a1, .int a2]) ++ List.replicate (4 - (lg_sl ([.ref (A m_o), .int a1, .int a2])).length) Slot.unset).toArray = ls at hl ⊢
  have hl : lv_has ls 4 [(0, .ref (A m_o)), (1, .int a1), (2, .int a2)] := hl
  unfold f_X11_server at h
  refine lv_aload_n hx hb dX11_server_0 rfl (lv_at hl 0 rfl) ?_
  refine lv_aload_n hx hb dX11_server_1 rfl (lv_at hl 0 rfl) ?_
  refine lv_iload_n hx hb dX11_server_2 rfl (lv_at hl 1 rfl) ?_
  obtain ⟨v2, hc1, h⟩ := o1_e h
  refine g_Vi (As := [.int a1]) (rest := [.ref (A m_o)]) S X Z mlv_o rfl rfl (t_X11_isServer l D dA A hJ  hc1) (cwV 1 hts (mGV (mB 81 rfl) (mB 82 rfl) (mB 83 rfl) (mB 63 rfl) (mB 60 rfl)) rfl rfl rfl (by decide +kernel) ⟨Nat.le_of_ble_eq_true rfl, Nat.le_of_ble_eq_true rfl⟩) rfl hl.1 rfl (Nat.le_of_ble_eq_true rfl) dX11_server_3 ⟨Nat.zero_le _, Nat.zero_le _⟩ (fun H locs Z => ?_)
  obtain ⟨J14, eJ14, h⟩ := jn_e h
  have hJ14 : ∀ (b3 : Int32) (M4 : gM) (H : Heap) (locs : List Loc) (ls : Array Slot), gZ D mLay dA mLive A (gA mLive A) s.heap M4 H locs → lv_has ls 4 [(0, .ref (A m_o)), (1, .int a1), (2, .int a2)] → J14 (b3, M4) = some y → W p l e (headSpec wmX11_server ({ frames := 3, cells := 0, slots := 0, locals := 68 } : Room)).room s m args below meth c H locs 0 0 (MQ below (mQi D dA A y) args s 0 0 (gA mLive A)) (F0 m 14 ls [.int b3, .ref (A m_o)]) := by
    intro b3 M4 H locs ls Z hl h
    rw [eJ14] at h
    try dsimp only at h
    refine mp_thrown S X Z hin hl_165 dX11_server_14 h (fun M5 H locs Z h => ?_)
    refine lv_aload_n hx hb dX11_server_17 rfl (lv_at hl 0 rfl) ?_
    refine mr_thrown S X Z hin hl_165 dX11_server_18 h (fun v6 h => ?_)
    refine lv_if_le (tgt := 26) hx hb dX11_server_21 (by decide) (fun c7 => ?_) (fun c7 => ?_)
    · have h := if_t c7 h
      refine lv_aload_n hx hb dX11_server_26 rfl (lv_at hl 0 rfl) ?_
      refine mr_up S X Z hin hl_7 dX11_server_27 ?_
      refine lv_iload_n hx hb dX11_server_30 rfl (lv_at hl 1 rfl) ?_
      refine g_zald S X Z ml_up rfl dX11_server_31 h (fun v8 h => ?_)
      refine lv_istore_n (lv' := [(3, .int v8), (0, .ref (A m_o)), (1, .int a1), (2, .int a2)]) hx hb dX11_server_32 rfl hl (by decide) rfl (fun ls hl => ?_)
      refine lv_aload_n hx hb dX11_server_33 rfl (lv_at hl 1 rfl) ?_
      refine mr_up S X Z hin hl_7 dX11_server_34 ?_
      refine lv_iload_n hx hb dX11_server_37 rfl (lv_at hl 2 rfl) ?_
      refine lv_iload_n hx hb dX11_server_38 rfl (lv_at hl 3 rfl) ?_
      refine g_zast S X Z ml_up rfl dX11_server_39 h (fun M9 H locs Z h => ?_)
      refine lv_aload_n hx hb dX11_server_40 rfl (lv_at hl 1 rfl) ?_
      obtain ⟨M11, hc10, h⟩ := o1_e h
      refine g_Vv (As := []) (rest := []) S X Z mlv_o rfl rfl (t_X11_endFar l D dA A hJ  hc10) (cwV 0 hts (mGV (mB 84 rfl) (mB 85 rfl) (mB 86 rfl) (mB 63 rfl) (mB 80 rfl)) rfl rfl rfl (by decide +kernel) ⟨Nat.le_of_ble_eq_true rfl, Nat.le_of_ble_eq_true rfl⟩) rfl hl.1 rfl (Nat.le_of_ble_eq_true rfl) dX11_server_41 ⟨Nat.zero_le _, Nat.zero_le _⟩ (fun H locs Z => ?_)
      refine lv_iload_n hx hb dX11_server_44 rfl (lv_at hl 0 rfl) ?_
      refine lv_iload_n hx hb dX11_server_45 rfl (lv_at hl 3 rfl) ?_
      refine lv_icmp_eq (tgt := 53) hx hb dX11_server_46 (by decide) (fun c12 => ?_) (fun c12 => ?_)
      · have h := if_t c12 h
        refine lv_iconst (v := (0 : Int32)) hx hb dX11_server_53 (by decide) ?_
        have hy := Option.some.inj h
        subst hy
        exact g_rz (Or.inl rfl) S Z hr hlocks dX11_server_54
      · have h := if_f c12 h
        refine lv_iconst (v := (1 : Int32)) hx hb dX11_server_49 (by decide) ?_
        refine lv_goto (tgt := 54) hx hb dX11_server_50 (by decide) ?_
        have hy := Option.some.inj h
        subst hy
        exact g_rz (Or.inr rfl) S Z hr hlocks dX11_server_54
    · have h := if_f c7 h
      refine lv_iconst (v := (0 : Int32)) hx hb dX11_server_24 (by decide) ?_
      have hy := Option.some.inj h
      subst hy
      exact g_rz (Or.inl rfl) S Z hr hlocks dX11_server_25
  refine lv_if_eq (tgt := 13) hx hb dX11_server_6 (by decide) (fun c13 => ?_) (fun c13 => ?_)
  · have h := if_t c13 h
    refine lv_iconst (v := (1 : Int32)) hx hb dX11_server_13 (by decide) ?_
    exact hJ14 (1 : Int32) M _ _ _ Z (lv_sub hl [0, 1, 2] rfl) h
  · have h := if_f c13 h
    refine lv_iconst (v := (0 : Int32)) hx hb dX11_server_9 (by decide) ?_
    refine lv_goto (tgt := 14) hx hb dX11_server_10 (by decide) ?_
    exact hJ14 (0 : Int32) M _ _ _ Z (lv_sub hl [0, 1, 2] rfl) h
-- X11_lose (I)Z: 30 instructions
theorem dX11_lose_0 : decode cX11_lose 0 = .ok (.aload_n 0, 1) := by decide +kernel
theorem dX11_lose_1 : decode cX11_lose 1 = .ok (.aload_n 0, 1) := by decide +kernel
theorem dX11_lose_2 : decode cX11_lose 2 = .ok (.iload_n 1, 1) := by decide +kernel
theorem dX11_lose_3 : decode cX11_lose 3 = .ok (.invokevirtual 184, 3) := by decide +kernel
theorem dX11_lose_6 : decode cX11_lose 6 = .ok (.ifCond .eq 7, 3) := by decide +kernel
theorem dX11_lose_9 : decode cX11_lose 9 = .ok (.iconst 0, 1) := by decide +kernel
theorem dX11_lose_10 : decode cX11_lose 10 = .ok (.goto 4, 3) := by decide +kernel
theorem dX11_lose_13 : decode cX11_lose 13 = .ok (.iconst 1, 1) := by decide +kernel
theorem dX11_lose_14 : decode cX11_lose 14 = .ok (.putfield 165, 3) := by decide +kernel
theorem dX11_lose_17 : decode cX11_lose 17 = .ok (.aload_n 0, 1) := by decide +kernel
theorem dX11_lose_18 : decode cX11_lose 18 = .ok (.getfield 165, 3) := by decide +kernel
theorem dX11_lose_21 : decode cX11_lose 21 = .ok (.ifCond .le 5, 3) := by decide +kernel
theorem dX11_lose_24 : decode cX11_lose 24 = .ok (.iconst 0, 1) := by decide +kernel
theorem dX11_lose_25 : decode cX11_lose 25 = .ok (.ireturn, 1) := by decide +kernel
theorem dX11_lose_26 : decode cX11_lose 26 = .ok (.aload_n 0, 1) := by decide +kernel
theorem dX11_lose_27 : decode cX11_lose 27 = .ok (.getfield 19, 3) := by decide +kernel
theorem dX11_lose_30 : decode cX11_lose 30 = .ok (.iload_n 1, 1) := by decide +kernel
theorem dX11_lose_31 : decode cX11_lose 31 = .ok (.baload, 1) := by decide +kernel
theorem dX11_lose_32 : decode cX11_lose 32 = .ok (.istore_n 2, 1) := by decide +kernel
theorem dX11_lose_33 : decode cX11_lose 33 = .ok (.aload_n 0, 1) := by decide +kernel
theorem dX11_lose_34 : decode cX11_lose 34 = .ok (.getfield 19, 3) := by decide +kernel
theorem dX11_lose_37 : decode cX11_lose 37 = .ok (.iload_n 1, 1) := by decide +kernel
theorem dX11_lose_38 : decode cX11_lose 38 = .ok (.iconst 1, 1) := by decide +kernel
theorem dX11_lose_39 : decode cX11_lose 39 = .ok (.bastore, 1) := by decide +kernel
theorem dX11_lose_40 : decode cX11_lose 40 = .ok (.iload_n 2, 1) := by decide +kernel
theorem dX11_lose_41 : decode cX11_lose 41 = .ok (.ifCond .ne 7, 3) := by decide +kernel
theorem dX11_lose_44 : decode cX11_lose 44 = .ok (.iconst 1, 1) := by decide +kernel
theorem dX11_lose_45 : decode cX11_lose 45 = .ok (.goto 4, 3) := by decide +kernel
theorem dX11_lose_48 : decode cX11_lose 48 = .ok (.iconst 0, 1) := by decide +kernel
theorem dX11_lose_49 : decode cX11_lose 49 = .ok (.ireturn, 1) := by decide +kernel
abbrev wmX11_lose : List Cond := .code yX11_lose cX11_lose 3 (some .boolean) :: mBig
def f_X11_lose (M : gM) (a1 : Int32) : Option (Int32 × gM) :=
  o1 (f_X11_isServer M a1) (fun v2 => jn (fun (q : (Int32 × gM)) => match q with | (b3, M4) => lt (gset M4 m_o 66 b3) (fun M5 => lt (M5 m_o 66) (fun v6 => (if v6 ≤ 0 then rd M5 m_loses 4 a1 (fun v8 => wz M5 m_loses 4 a1 (1 : Int32) (fun M9 => (if v8 = 0 then some ((1 : Int32), M9) else some ((0 : Int32), M9)))) else some ((0 : Int32), M5))))) (fun J14 => (if v2 = 0 then J14 ((1 : Int32), M) else J14 ((0 : Int32), M))))
set_option maxHeartbeats 4000000 in
set_option maxRecDepth 100000 in
theorem t_X11_lose (l : Launch) (D : va_G) (dA : Nat → ClassId) (A : gI → Nat) (hJ : gJ mLive A) {M : gM} {a1 : Int32}  {y : (Int32 × gM)} (h : f_X11_lose M a1 = some y) : mMi l yX11_lose wmX11_lose ({ frames := 2, cells := 0, slots := 0, locals := 43 } : Room) D dA A [.ref (A m_o), .int a1] M y.1 y.2 := by
  refine Met.ofW (cc := cX11_lose) (maxL := 3) (ret := (some .boolean)) (by decide) rfl ?_
  intro p e s m args below meth c s₁ B hml hv
  obtain ⟨rfl, hP, hK⟩ := hv
  generalize hargs : ([.ref (A m_o), .int a1] : List Value).toArray = args at B ⊢
  have S : CallFix p m c cX11_lose 3 s args wmX11_lose RX11 := ⟨B.exec, B.bytes, hml, findClass_of_methodNamed B.named, atoms_spec (ws := wmX11_lose) B.pre⟩
  obtain ⟨hx, hb, -, hown, hts⟩ := id S
  have hr := B.returns
  have hlocks := B.notSynchronized
  have X : gX D vwCl dA mLive A (gA mLive A) s := ⟨hK, hJ, fun i hi => ⟨i, hi, rfl⟩⟩
  have Z : gZ D mLay dA mLive A (gA mLive A) s.heap M s.heap [] := ⟨hP, va_S.rf⟩
  have hin : ∀ w ∈ wsX110, w ∈ wmX11_lose := m_in
  have hl_19 := hts (.fieldLink RX11 19 "ReplicaFilesModel" "loses" "[Z") (mBc 7 rfl)
  have hl_165 := hts (.fieldLink RX11 165 "ReplicaFilesModel" "thrown" "I") (mBc 58 rfl)
  have hl := lv_entry ([.ref (A m_o), .int a1]) (n := 3) (Nat.le_of_ble_eq_true rfl)
  rw [← hargs, lg_entry_eq, hargs]
  generalize (lg_sl ([.ref (A m_o), .int a1]) ++ List.replicate (3 - (lg_sl ([.ref (A m_o), .int a1])).length) Slot.unset).toArray = ls at hl ⊢
  have hl : lv_has ls 3 [(0, .ref (A m_o)), (1, .int a1)] := hl
  unfold f_X11_lose at h
  refine lv_aload_n hx hb dX11_lose_0 rfl (lv_at hl 0 rfl) ?_
  refine lv_aload_n hx hb dX11_lose_1 rfl (lv_at hl 0 rfl) ?_
  refine lv_iload_n hx hb dX11_lose_2 rfl (lv_at hl 1 rfl) ?_
  obtain ⟨v2, hc1, h⟩ := o1_e h
  refine g_Vi (As := [.int a1]) (rest := [.ref (A m_o)]) S X Z mlv_o rfl rfl (t_X11_isServer l D dA A hJ  hc1) (cwV 1 hts (mGV (mB 81 rfl) (mB 82 rfl) (mB 83 rfl) (mB 63 rfl) (mB 60 rfl)) rfl rfl rfl (by decide +kernel) ⟨Nat.le_of_ble_eq_true rfl, Nat.le_of_ble_eq_true rfl⟩) rfl hl.1 rfl (Nat.le_of_ble_eq_true rfl) dX11_lose_3 ⟨Nat.zero_le _, Nat.zero_le _⟩ (fun H locs Z => ?_)
  obtain ⟨J14, eJ14, h⟩ := jn_e h
  have hJ14 : ∀ (b3 : Int32) (M4 : gM) (H : Heap) (locs : List Loc) (ls : Array Slot), gZ D mLay dA mLive A (gA mLive A) s.heap M4 H locs → lv_has ls 3 [(0, .ref (A m_o)), (1, .int a1)] → J14 (b3, M4) = some y → W p l e (headSpec wmX11_lose ({ frames := 2, cells := 0, slots := 0, locals := 43 } : Room)).room s m args below meth c H locs 0 0 (MQ below (mQi D dA A y) args s 0 0 (gA mLive A)) (F0 m 14 ls [.int b3, .ref (A m_o)]) := by
    intro b3 M4 H locs ls Z hl h
    rw [eJ14] at h
    try dsimp only at h
    refine mp_thrown S X Z hin hl_165 dX11_lose_14 h (fun M5 H locs Z h => ?_)
    refine lv_aload_n hx hb dX11_lose_17 rfl (lv_at hl 0 rfl) ?_
    refine mr_thrown S X Z hin hl_165 dX11_lose_18 h (fun v6 h => ?_)
    refine lv_if_le (tgt := 26) hx hb dX11_lose_21 (by decide) (fun c7 => ?_) (fun c7 => ?_)
    · have h := if_t c7 h
      refine lv_aload_n hx hb dX11_lose_26 rfl (lv_at hl 0 rfl) ?_
      refine mr_loses S X Z hin hl_19 dX11_lose_27 ?_
      refine lv_iload_n hx hb dX11_lose_30 rfl (lv_at hl 1 rfl) ?_
      refine g_zald S X Z ml_loses rfl dX11_lose_31 h (fun v8 h => ?_)
      refine lv_istore_n (lv' := [(2, .int v8), (0, .ref (A m_o)), (1, .int a1)]) hx hb dX11_lose_32 rfl hl (by decide) rfl (fun ls hl => ?_)
      refine lv_aload_n hx hb dX11_lose_33 rfl (lv_at hl 1 rfl) ?_
      refine mr_loses S X Z hin hl_19 dX11_lose_34 ?_
      refine lv_iload_n hx hb dX11_lose_37 rfl (lv_at hl 2 rfl) ?_
      refine lv_iconst (v := (1 : Int32)) hx hb dX11_lose_38 (by decide) ?_
      refine g_zast S X Z ml_loses rfl dX11_lose_39 h (fun M9 H locs Z h => ?_)
      refine lv_iload_n hx hb dX11_lose_40 rfl (lv_at hl 0 rfl) ?_
      refine lv_if_ne (tgt := 48) hx hb dX11_lose_41 (by decide) (fun c10 => ?_) (fun c10 => ?_)
      · have h := if_f c10 h
        refine lv_iconst (v := (0 : Int32)) hx hb dX11_lose_48 (by decide) ?_
        have hy := Option.some.inj h
        subst hy
        exact g_rz (Or.inl rfl) S Z hr hlocks dX11_lose_49
      · have h := if_t c10 h
        refine lv_iconst (v := (1 : Int32)) hx hb dX11_lose_44 (by decide) ?_
        refine lv_goto (tgt := 49) hx hb dX11_lose_45 (by decide) ?_
        have hy := Option.some.inj h
        subst hy
        exact g_rz (Or.inr rfl) S Z hr hlocks dX11_lose_49
    · have h := if_f c7 h
      refine lv_iconst (v := (0 : Int32)) hx hb dX11_lose_24 (by decide) ?_
      have hy := Option.some.inj h
      subst hy
      exact g_rz (Or.inl rfl) S Z hr hlocks dX11_lose_25
  refine lv_if_eq (tgt := 13) hx hb dX11_lose_6 (by decide) (fun c11 => ?_) (fun c11 => ?_)
  · have h := if_t c11 h
    refine lv_iconst (v := (1 : Int32)) hx hb dX11_lose_13 (by decide) ?_
    exact hJ14 (1 : Int32) M _ _ _ Z (lv_sub hl [0, 1] rfl) h
  · have h := if_f c11 h
    refine lv_iconst (v := (0 : Int32)) hx hb dX11_lose_9 (by decide) ?_
    refine lv_goto (tgt := 14) hx hb dX11_lose_10 (by decide) ?_
    exact hJ14 (0 : Int32) M _ _ _ Z (lv_sub hl [0, 1] rfl) h
-- X11_priority (III)I: 43 instructions
theorem dX11_priority_0 : decode cX11_priority 0 = .ok (.aload_n 0, 1) := by decide +kernel
theorem dX11_priority_1 : decode cX11_priority 1 = .ok (.iload_n 1, 1) := by decide +kernel
theorem dX11_priority_2 : decode cX11_priority 2 = .ok (.invokestatic 191, 3) := by decide +kernel
theorem dX11_priority_5 : decode cX11_priority 5 = .ok (.ifCond .eq 10, 3) := by decide +kernel
theorem dX11_priority_8 : decode cX11_priority 8 = .ok (.iload_n 2, 1) := by decide +kernel
theorem dX11_priority_9 : decode cX11_priority 9 = .ok (.invokestatic 194, 3) := by decide +kernel
theorem dX11_priority_12 : decode cX11_priority 12 = .ok (.ifCond .ne 7, 3) := by decide +kernel
theorem dX11_priority_15 : decode cX11_priority 15 = .ok (.iconst 1, 1) := by decide +kernel
theorem dX11_priority_16 : decode cX11_priority 16 = .ok (.goto 18, 3) := by decide +kernel
theorem dX11_priority_19 : decode cX11_priority 19 = .ok (.iload_n 3, 1) := by decide +kernel
theorem dX11_priority_20 : decode cX11_priority 20 = .ok (.iconst 0, 1) := by decide +kernel
theorem dX11_priority_21 : decode cX11_priority 21 = .ok (.bipush 9, 2) := by decide +kernel
theorem dX11_priority_23 : decode cX11_priority 23 = .ok (.invokestatic 168, 3) := by decide +kernel
theorem dX11_priority_26 : decode cX11_priority 26 = .ok (.ifCond .eq 7, 3) := by decide +kernel
theorem dX11_priority_29 : decode cX11_priority 29 = .ok (.iconst 0, 1) := by decide +kernel
theorem dX11_priority_30 : decode cX11_priority 30 = .ok (.goto 4, 3) := by decide +kernel
theorem dX11_priority_33 : decode cX11_priority 33 = .ok (.iconst 2, 1) := by decide +kernel
theorem dX11_priority_34 : decode cX11_priority 34 = .ok (.putfield 165, 3) := by decide +kernel
theorem dX11_priority_37 : decode cX11_priority 37 = .ok (.aload_n 0, 1) := by decide +kernel
theorem dX11_priority_38 : decode cX11_priority 38 = .ok (.getfield 165, 3) := by decide +kernel
theorem dX11_priority_41 : decode cX11_priority 41 = .ok (.ifCond .le 5, 3) := by decide +kernel
theorem dX11_priority_44 : decode cX11_priority 44 = .ok (.iconst 0, 1) := by decide +kernel
theorem dX11_priority_45 : decode cX11_priority 45 = .ok (.ireturn, 1) := by decide +kernel
theorem dX11_priority_46 : decode cX11_priority 46 = .ok (.aload_n 0, 1) := by decide +kernel
theorem dX11_priority_47 : decode cX11_priority 47 = .ok (.getfield 95, 3) := by decide +kernel
theorem dX11_priority_50 : decode cX11_priority 50 = .ok (.bipush 48, 2) := by decide +kernel
theorem dX11_priority_52 : decode cX11_priority 52 = .ok (.iload_n 1, 1) := by decide +kernel
theorem dX11_priority_53 : decode cX11_priority 53 = .ok (.imul, 1) := by decide +kernel
theorem dX11_priority_54 : decode cX11_priority 54 = .ok (.iload_n 2, 1) := by decide +kernel
theorem dX11_priority_55 : decode cX11_priority 55 = .ok (.iadd, 1) := by decide +kernel
theorem dX11_priority_56 : decode cX11_priority 56 = .ok (.iaload, 1) := by decide +kernel
theorem dX11_priority_57 : decode cX11_priority 57 = .ok (.istore 4, 2) := by decide +kernel
theorem dX11_priority_59 : decode cX11_priority 59 = .ok (.aload_n 0, 1) := by decide +kernel
theorem dX11_priority_60 : decode cX11_priority 60 = .ok (.getfield 95, 3) := by decide +kernel
theorem dX11_priority_63 : decode cX11_priority 63 = .ok (.bipush 48, 2) := by decide +kernel
theorem dX11_priority_65 : decode cX11_priority 65 = .ok (.iload_n 1, 1) := by decide +kernel
theorem dX11_priority_66 : decode cX11_priority 66 = .ok (.imul, 1) := by decide +kernel
theorem dX11_priority_67 : decode cX11_priority 67 = .ok (.iload_n 2, 1) := by decide +kernel
theorem dX11_priority_68 : decode cX11_priority 68 = .ok (.iadd, 1) := by decide +kernel
theorem dX11_priority_69 : decode cX11_priority 69 = .ok (.iload_n 3, 1) := by decide +kernel
theorem dX11_priority_70 : decode cX11_priority 70 = .ok (.iastore, 1) := by decide +kernel
theorem dX11_priority_71 : decode cX11_priority 71 = .ok (.iload 4, 2) := by decide +kernel
theorem dX11_priority_73 : decode cX11_priority 73 = .ok (.ireturn, 1) := by decide +kernel
abbrev wmX11_priority : List Cond := .code yX11_priority cX11_priority 5 (some .int) :: mBig
def f_X11_priority (M : gM) (a1 : Int32) (a2 : Int32) (a3 : Int32) : Option (Int32 × gM) :=
  o1 (f_X11_isClient M a1) (fun v2 => jn (fun (q : (Int32 × gM)) => match q with | (b3, M4) => lt (gset M4 m_o 66 b3) (fun M5 => lt (M5 m_o 66) (fun v6 => (if v6 ≤ 0 then rd M5 m_priorities 192 (((48 : Int32) * a1) + a2) (fun v8 => wr M5 m_priorities 192 (((48 : Int32) * a1) + a2) a3 (fun M9 => some (v8, M9))) else some ((0 : Int32), M5))))) (fun J34 => jn (fun (M10 : gM) => J34 ((1 : Int32), M10)) (fun J15 => (if v2 = 0 then J15 M else o1 (f_X11_isObject M a2) (fun v13 => (if v13 = 0 then J15 M else o1 (f_X11_in M a3 (0 : Int32) (9 : Int32)) (fun v16 => (if v16 = 0 then J34 ((2 : Int32), M) else J34 ((0 : Int32), M)))))))))
set_option maxHeartbeats 4000000 in
set_option maxRecDepth 100000 in
theorem t_X11_priority (l : Launch) (D : va_G) (dA : Nat → ClassId) (A : gI → Nat) (hJ : gJ mLive A) {M : gM} {a1 : Int32} {a2 : Int32} {a3 : Int32}  {y : (Int32 × gM)} (h : f_X11_priority M a1 a2 a3 = some y) : mMi l yX11_priority wmX11_priority ({ frames := 2, cells := 0, slots := 0, locals := 42 } : Room) D dA A [.ref (A m_o), .int a1, .int a2, .int a3] M y.1 y.2 := by
  refine Met.ofW (cc := cX11_priority) (maxL := 5) (ret := (some .int)) (by decide) rfl ?_
  intro p e s m args below meth c s₁ B hml hv
  obtain ⟨rfl, hP, hK⟩ := hv
  generalize hargs : ([.ref (A m_o), .int a1, .int a2, .int a3] : List Value).toArray = args at B ⊢
  have S : CallFix p m c cX11_priority 5 s args wmX11_priority RX11 := ⟨B.exec, B.bytes, hml, findClass_of_methodNamed B.named, atoms_spec (ws := wmX11_priority) B.pre⟩
  obtain ⟨hx, hb, -, hown, hts⟩ := id S
  have hr := B.returns
  have hlocks := B.notSynchronized
  have X : gX D vwCl dA mLive A (gA mLive A) s := ⟨hK, hJ, fun i hi => ⟨i, hi, rfl⟩⟩
  have Z : gZ D mLay dA mLive A (gA mLive A) s.heap M s.heap [] := ⟨hP, va_S.rf⟩
  have hin : ∀ w ∈ wsX110, w ∈ wmX11_priority := m_in
  have hl_95 := hts (.fieldLink RX11 95 "ReplicaFilesModel" "priorities" "[I") (mBc 33 rfl)
  have hl_165 := hts (.fieldLink RX11 165 "ReplicaFilesModel" "thrown" "I") (mBc 58 rfl)
  have hl := lv_entry ([.ref (A m_o), .int a1, .int a2, .int a3]) (n := 5) (Nat.le_of_ble_eq_true rfl)
  rw [← hargs, lg_entry_eq, hargs]
  generalize (lg_sl ([.ref (A m_o), .int a1, .int a2, .int a3]) ++ List.replicate (5 - (lg_sl ([.ref (A m_o), .int a1, .int a2, .int a3])).length) Slot.unset).toArray = ls at hl ⊢
  have hl : lv_has ls 5 [(0, .ref (A m_o)), (1, .int a1), (2, .int a2), (3, .int a3)] := hl
  unfold f_X11_priority at h
  refine lv_aload_n hx hb dX11_priority_0 rfl (lv_at hl 0 rfl) ?_
  refine lv_iload_n hx hb dX11_priority_1 rfl (lv_at hl 1 rfl) ?_
  obtain ⟨v2, hc1, h⟩ := o1_e h
  refine g_Si (As := [.int a1]) (rest := [.ref (A m_o)]) S X Z (t_X11_isClient l D dA A hJ  hc1) (va_cwS 1 hts (mGS (mB 91 rfl) (mB 92 rfl) (mB 63 rfl) (mB 64 rfl)) rfl rfl rfl (by decide +kernel) ⟨Nat.le_of_ble_eq_true rfl, Nat.le_of_ble_eq_true rfl⟩) rfl hl.1 rfl (Nat.le_of_ble_eq_true rfl) dX11_priority_2 ⟨Nat.zero_le _, Nat.zero_le _⟩ (fun H locs Z => ?_)
  obtain ⟨J34, eJ34, h⟩ := jn_e h
  have hJ34 : ∀ (b3 : Int32) (M4 : gM) (H : Heap) (locs : List Loc) (ls : Array Slot), gZ D mLay dA mLive A (gA mLive A) s.heap M4 H locs → lv_has ls 5 [(0, .ref (A m_o)), (1, .int a1), (2, .int a2), (3, .int a3)] → J34 (b3, M4) = some y → W p l e (headSpec wmX11_priority ({ frames := 2, cells := 0, slots := 0, locals := 42 } : Room)).room s m args below meth c H locs 0 0 (MQ below (mQi D dA A y) args s 0 0 (gA mLive A)) (F0 m 34 ls [.int b3, .ref (A m_o)]) := by
    intro b3 M4 H locs ls Z hl h
    rw [eJ34] at h
    try dsimp only at h
    refine mp_thrown S X Z hin hl_165 dX11_priority_34 h (fun M5 H locs Z h => ?_)
    refine lv_aload_n hx hb dX11_priority_37 rfl (lv_at hl 0 rfl) ?_
    refine mr_thrown S X Z hin hl_165 dX11_priority_38 h (fun v6 h => ?_)
    refine lv_if_le (tgt := 46) hx hb dX11_priority_41 (by decide) (fun c7 => ?_) (fun c7 => ?_)
    · have h := if_t c7 h
      refine lv_aload_n hx hb dX11_priority_46 rfl (lv_at hl 0 rfl) ?_
      refine mr_priorities S X Z hin hl_95 dX11_priority_47 ?_
      refine lv_bipush (v := (48 : Int32)) hx hb dX11_priority_50 (by decide) ?_
      refine lv_iload_n hx hb dX11_priority_52 rfl (lv_at hl 1 rfl) ?_
      refine lv_imul hx hb dX11_priority_53 ?_
      refine lv_iload_n hx hb dX11_priority_54 rfl (lv_at hl 2 rfl) ?_
      refine lv_iadd hx hb dX11_priority_55 ?_
      refine g_iald S X Z ml_priorities rfl dX11_priority_56 h (fun v8 h => ?_)
      refine lv_istore (lv' := [(4, .int v8), (0, .ref (A m_o)), (1, .int a1), (2, .int a2), (3, .int a3)]) hx hb dX11_priority_57 hl (by decide) rfl (fun ls hl => ?_)
      refine lv_aload_n hx hb dX11_priority_59 rfl (lv_at hl 1 rfl) ?_
      refine mr_priorities S X Z hin hl_95 dX11_priority_60 ?_
      refine lv_bipush (v := (48 : Int32)) hx hb dX11_priority_63 (by decide) ?_
      refine lv_iload_n hx hb dX11_priority_65 rfl (lv_at hl 2 rfl) ?_
      refine lv_imul hx hb dX11_priority_66 ?_
      refine lv_iload_n hx hb dX11_priority_67 rfl (lv_at hl 3 rfl) ?_
      refine lv_iadd hx hb dX11_priority_68 ?_
      refine lv_iload_n hx hb dX11_priority_69 rfl (lv_at hl 4 rfl) ?_
      refine g_iast S X Z ml_priorities rfl dX11_priority_70 h (fun M9 H locs Z h => ?_)
      refine lv_iload hx hb dX11_priority_71 (lv_at hl 0 rfl) ?_
      have hy := Option.some.inj h
      subst hy
      exact g_ri S Z hr hlocks dX11_priority_73
    · have h := if_f c7 h
      refine lv_iconst (v := (0 : Int32)) hx hb dX11_priority_44 (by decide) ?_
      have hy := Option.some.inj h
      subst hy
      exact g_ri S Z hr hlocks dX11_priority_45
  obtain ⟨J15, eJ15, h⟩ := jn_e h
  have hJ15 : ∀ (M10 : gM) (H : Heap) (locs : List Loc) (ls : Array Slot), gZ D mLay dA mLive A (gA mLive A) s.heap M10 H locs → lv_has ls 5 [(0, .ref (A m_o)), (1, .int a1), (2, .int a2), (3, .int a3)] → J15 M10 = some y → W p l e (headSpec wmX11_priority ({ frames := 2, cells := 0, slots := 0, locals := 42 } : Room)).room s m args below meth c H locs 0 0 (MQ below (mQi D dA A y) args s 0 0 (gA mLive A)) (F0 m 15 ls [.ref (A m_o)]) := by
    intro M10 H locs ls Z hl h
    rw [eJ15] at h
    try dsimp only at h
    refine lv_iconst (v := (1 : Int32)) hx hb dX11_priority_15 (by decide) ?_
    refine lv_goto (tgt := 34) hx hb dX11_priority_16 (by decide) ?_
    exact hJ34 (1 : Int32) M10 _ _ _ Z (lv_sub hl [0, 1, 2, 3] rfl) h
  refine lv_if_eq (tgt := 15) hx hb dX11_priority_5 (by decide) (fun c11 => ?_) (fun c11 => ?_)
  · have h := if_t c11 h
    exact hJ15 M _ _ _ Z (lv_sub hl [0, 1, 2, 3] rfl) h
  · have h := if_f c11 h
    refine lv_iload_n hx hb dX11_priority_8 rfl (lv_at hl 2 rfl) ?_
    obtain ⟨v13, hc12, h⟩ := o1_e h
    refine g_Si (As := [.int a2]) (rest := [.ref (A m_o)]) S X Z (t_X11_isObject l D dA A hJ  hc12) (va_cwS 1 hts (mGS (mB 93 rfl) (mB 94 rfl) (mB 63 rfl) (mB 65 rfl)) rfl rfl rfl (by decide +kernel) ⟨Nat.le_of_ble_eq_true rfl, Nat.le_of_ble_eq_true rfl⟩) rfl hl.1 rfl (Nat.le_of_ble_eq_true rfl) dX11_priority_9 ⟨Nat.zero_le _, Nat.zero_le _⟩ (fun H locs Z => ?_)
    refine lv_if_ne (tgt := 19) hx hb dX11_priority_12 (by decide) (fun c14 => ?_) (fun c14 => ?_)
    · have h := if_f c14 h
      refine lv_iload_n hx hb dX11_priority_19 rfl (lv_at hl 3 rfl) ?_
      refine lv_iconst (v := (0 : Int32)) hx hb dX11_priority_20 (by decide) ?_
      refine lv_bipush (v := (9 : Int32)) hx hb dX11_priority_21 (by decide) ?_
      obtain ⟨v16, hc15, h⟩ := o1_e h
      refine g_Si (As := [.int a3, .int (0 : Int32), .int (9 : Int32)]) (rest := [.ref (A m_o)]) S X Z (t_X11_in l D dA A hJ  hc15) (va_cwS 3 hts (mGS (mB 61 rfl) (mB 62 rfl) (mB 63 rfl) (mB 59 rfl)) rfl rfl rfl (by decide +kernel) ⟨Nat.le_of_ble_eq_true rfl, Nat.le_of_ble_eq_true rfl⟩) rfl hl.1 rfl (Nat.le_of_ble_eq_true rfl) dX11_priority_23 ⟨Nat.zero_le _, Nat.zero_le _⟩ (fun H locs Z => ?_)
      refine lv_if_eq (tgt := 33) hx hb dX11_priority_26 (by decide) (fun c17 => ?_) (fun c17 => ?_)
      · have h := if_t c17 h
        refine lv_iconst (v := (2 : Int32)) hx hb dX11_priority_33 (by decide) ?_
        exact hJ34 (2 : Int32) M _ _ _ Z (lv_sub hl [0, 1, 2, 3] rfl) h
      · have h := if_f c17 h
        refine lv_iconst (v := (0 : Int32)) hx hb dX11_priority_29 (by decide) ?_
        refine lv_goto (tgt := 34) hx hb dX11_priority_30 (by decide) ?_
        exact hJ34 (0 : Int32) M _ _ _ Z (lv_sub hl [0, 1, 2, 3] rfl) h
    · have h := if_t c14 h
      exact hJ15 M _ _ _ Z (lv_sub hl [0, 1, 2, 3] rfl) h
-- X11_isAtMost ([II[II)Z: 27 instructions
theorem dX11_isAtMost_0 : decode cX11_isAtMost 0 = .ok (.iconst 0, 1) := by decide +kernel
theorem dX11_isAtMost_1 : decode cX11_isAtMost 1 = .ok (.istore 5, 2) := by decide +kernel
theorem dX11_isAtMost_3 : decode cX11_isAtMost 3 = .ok (.iload 5, 2) := by decide +kernel
theorem dX11_isAtMost_5 : decode cX11_isAtMost 5 = .ok (.aload_n 0, 1) := by decide +kernel
theorem dX11_isAtMost_6 : decode cX11_isAtMost 6 = .ok (.getfield 159, 3) := by decide +kernel
theorem dX11_isAtMost_9 : decode cX11_isAtMost 9 = .ok (.if_icmp .ge 33, 3) := by decide +kernel
theorem dX11_isAtMost_12 : decode cX11_isAtMost 12 = .ok (.aload_n 1, 1) := by decide +kernel
theorem dX11_isAtMost_13 : decode cX11_isAtMost 13 = .ok (.bipush 8, 2) := by decide +kernel
theorem dX11_isAtMost_15 : decode cX11_isAtMost 15 = .ok (.iload_n 2, 1) := by decide +kernel
theorem dX11_isAtMost_16 : decode cX11_isAtMost 16 = .ok (.imul, 1) := by decide +kernel
theorem dX11_isAtMost_17 : decode cX11_isAtMost 17 = .ok (.iload 5, 2) := by decide +kernel
theorem dX11_isAtMost_19 : decode cX11_isAtMost 19 = .ok (.iadd, 1) := by decide +kernel
theorem dX11_isAtMost_20 : decode cX11_isAtMost 20 = .ok (.iaload, 1) := by decide +kernel
theorem dX11_isAtMost_21 : decode cX11_isAtMost 21 = .ok (.aload_n 3, 1) := by decide +kernel
theorem dX11_isAtMost_22 : decode cX11_isAtMost 22 = .ok (.bipush 8, 2) := by decide +kernel
theorem dX11_isAtMost_24 : decode cX11_isAtMost 24 = .ok (.iload 4, 2) := by decide +kernel
theorem dX11_isAtMost_26 : decode cX11_isAtMost 26 = .ok (.imul, 1) := by decide +kernel
theorem dX11_isAtMost_27 : decode cX11_isAtMost 27 = .ok (.iload 5, 2) := by decide +kernel
theorem dX11_isAtMost_29 : decode cX11_isAtMost 29 = .ok (.iadd, 1) := by decide +kernel
theorem dX11_isAtMost_30 : decode cX11_isAtMost 30 = .ok (.iaload, 1) := by decide +kernel
theorem dX11_isAtMost_31 : decode cX11_isAtMost 31 = .ok (.if_icmp .le 5, 3) := by decide +kernel
theorem dX11_isAtMost_34 : decode cX11_isAtMost 34 = .ok (.iconst 0, 1) := by decide +kernel
theorem dX11_isAtMost_35 : decode cX11_isAtMost 35 = .ok (.ireturn, 1) := by decide +kernel
theorem dX11_isAtMost_36 : decode cX11_isAtMost 36 = .ok (.iinc 5 1, 3) := by decide +kernel
theorem dX11_isAtMost_39 : decode cX11_isAtMost 39 = .ok (.goto (-36), 3) := by decide +kernel
theorem dX11_isAtMost_42 : decode cX11_isAtMost 42 = .ok (.iconst 1, 1) := by decide +kernel
theorem dX11_isAtMost_43 : decode cX11_isAtMost 43 = .ok (.ireturn, 1) := by decide +kernel
abbrev wmX11_isAtMost : List Cond := .code yX11_isAtMost cX11_isAtMost 6 (some .boolean) :: mBig
def f_X11_isAtMost_L3 (M2 : gM) (a1 : gI) (a2 : Int32) (a3 : gI) (a4 : Int32) : Nat → Int32 → Option Int32
  | 0, _ => none
  | n3 + 1, x1 => lt (M2 m_o 1) (fun v4 => (if v4 ≤ x1 then some (1 : Int32) else rd M2 a1 (mN a1) (((8 : Int32) * a2) + x1) (fun v6 => rd M2 a3 (mN a3) (((8 : Int32) * a4) + x1) (fun v7 => (if v6 ≤ v7 then lt (x1 + 1) (fun x9 => f_X11_isAtMost_L3 M2 a1 a2 a3 a4 n3 x9) else some (0 : Int32))))))
def f_X11_isAtMost (M : gM) (a1 : gI) (a2 : Int32) (a3 : gI) (a4 : Int32) : Option Int32 :=
  f_X11_isAtMost_L3 M a1 a2 a3 a4 100 (0 : Int32)
set_option maxHeartbeats 4000000 in
set_option maxRecDepth 100000 in
theorem t_X11_isAtMost (l : Launch) (D : va_G) (dA : Nat → ClassId) (A : gI → Nat) (hJ : gJ mLive A) {M : gM} {a1 : gI} {a2 : Int32} {a3 : gI} {a4 : Int32} (ha1 : mArr a1) (ha3 : mArr a3) {y : Int32} (h : f_X11_isAtMost M a1 a2 a3 a4 = some y) : mMi l yX11_isAtMost wmX11_isAtMost ({ frames := 0, cells := 0, slots := 0, locals := 0 } : Room) D dA A [.ref (A m_o), .ref (A a1), .int a2, .ref (A a3), .int a4] M y M := by
  refine Met.ofW (cc := cX11_isAtMost) (maxL := 6) (ret := (some .boolean)) (by decide) rfl ?_
  intro p e s m args below meth c s₁ B hml hv
  obtain ⟨rfl, hP, hK⟩ := hv
  generalize hargs : ([.ref (A m_o), .ref (A a1), .int a2, .ref (A a3), .int a4] : List Value).toArray = args at B ⊢
  have S : CallFix p m c cX11_isAtMost 6 s args wmX11_isAtMost RX11 := ⟨B.exec, B.bytes, hml, findClass_of_methodNamed B.named, atoms_spec (ws := wmX11_isAtMost) B.pre⟩
  obtain ⟨hx, hb, -, hown, hts⟩ := id S
  have hr := B.returns
  have hlocks := B.notSynchronized
  have X : gX D vwCl dA mLive A (gA mLive A) s := ⟨hK, hJ, fun i hi => ⟨i, hi, rfl⟩⟩
  have Z : gZ D mLay dA mLive A (gA mLive A) s.heap M s.heap [] := ⟨hP, va_S.rf⟩
  have hin : ∀ w ∈ wsX110, w ∈ wmX11_isAtMost := m_in
  have hl_159 := hts (.fieldLink RX11 159 "ReplicaFilesModel" "counts" "I") (mBc 54 rfl)
  have hl := lv_entry ([.ref (A m_o), .ref (A a1), .int a2, .ref (A a3), .int a4]) (n := 6) (Nat.le_of_ble_eq_true rfl)
  rw [← hargs, lg_entry_eq, hargs]
  generalize (lg_sl ([.ref (A m_o), .ref (A a1), .int a2, .ref (A a3), .int a4]) ++ List.replicate (6 - (lg_sl ([.ref (A m_o), .ref (A a1), .int a2, .ref (A a3), .int a4])).length) Slot.unset).toArray = ls at hl ⊢
  have hl : lv_has ls 6 [(0, .ref (A m_o)), (1, .ref (A a1)), (2, .int a2), (3, .ref (A a3)), (4, .int a4)] := hl
  unfold f_X11_isAtMost at h
  refine lv_iconst (v := (0 : Int32)) hx hb dX11_isAtMost_0 (by decide) ?_
  refine lv_istore (lv' := [(5, .int (0 : Int32)), (0, .ref (A m_o)), (1, .ref (A a1)), (2, .int a2), (3, .ref (A a3)), (4, .int a4)]) hx hb dX11_isAtMost_1 hl (by decide) rfl (fun ls hl => ?_)
  have hL3 : ∀ (n : Nat) (x1 : Int32) (H : Heap) (locs : List Loc) (ls : Array Slot), gZ D mLay dA mLive A (gA mLive A) s.heap M H locs → lv_has ls 6 [(0, .ref (A m_o)), (1, .ref (A a1)), (2, .int a2), (3, .ref (A a3)), (4, .int a4), (5, .int x1)] → f_X11_isAtMost_L3 M a1 a2 a3 a4 n x1 = some y → W p l e (headSpec wmX11_isAtMost ({ frames := 0, cells := 0, slots := 0, locals := 0 } : Room)).room s m args below meth c H locs 0 0 (MQ below (mQi D dA A (y, M)) args s 0 0 (gA mLive A)) (F0 m 3 ls []) := by
    intro n
    induction n with
    | zero =>
      intro x1 H locs ls Z hl h
      rw [f_X11_isAtMost_L3] at h
      cases h
    | succ n3 ih3 =>
      intro x1 H locs ls Z hl h
      rw [f_X11_isAtMost_L3] at h
      refine lv_iload hx hb dX11_isAtMost_3 (lv_at hl 5 rfl) ?_
      refine lv_aload_n hx hb dX11_isAtMost_5 rfl (lv_at hl 0 rfl) ?_
      refine mr_counts S X Z hin hl_159 dX11_isAtMost_6 h (fun v4 h => ?_)
      refine lv_icmp_ge (tgt := 42) hx hb dX11_isAtMost_9 (by decide) (fun c5 => ?_) (fun c5 => ?_)
      · have h := if_t c5 h
        refine lv_iconst (v := (1 : Int32)) hx hb dX11_isAtMost_42 (by decide) ?_
        have hy := Option.some.inj h
        subst hy
        exact g_rz (Or.inr rfl) S Z hr hlocks dX11_isAtMost_43
      · have h := if_f c5 h
        refine lv_aload_n hx hb dX11_isAtMost_12 rfl (lv_at hl 1 rfl) ?_
        refine lv_bipush (v := (8 : Int32)) hx hb dX11_isAtMost_13 (by decide) ?_
        refine lv_iload_n hx hb dX11_isAtMost_15 rfl (lv_at hl 2 rfl) ?_
        refine lv_imul hx hb dX11_isAtMost_16 ?_
        refine lv_iload hx hb dX11_isAtMost_17 (lv_at hl 5 rfl) ?_
        refine lv_iadd hx hb dX11_isAtMost_19 ?_
        refine g_iald S X Z ha1.1 ha1.2 dX11_isAtMost_20 h (fun v6 h => ?_)
        refine lv_aload_n hx hb dX11_isAtMost_21 rfl (lv_at hl 3 rfl) ?_
        refine lv_bipush (v := (8 : Int32)) hx hb dX11_isAtMost_22 (by decide) ?_
        refine lv_iload hx hb dX11_isAtMost_24 (lv_at hl 4 rfl) ?_
        refine lv_imul hx hb dX11_isAtMost_26 ?_
        refine lv_iload hx hb dX11_isAtMost_27 (lv_at hl 5 rfl) ?_
        refine lv_iadd hx hb dX11_isAtMost_29 ?_
        refine g_iald S X Z ha3.1 ha3.2 dX11_isAtMost_30 h (fun v7 h => ?_)
        refine lv_icmp_le (tgt := 36) hx hb dX11_isAtMost_31 (by decide) (fun c8 => ?_) (fun c8 => ?_)
        · have h := if_t c8 h
          obtain ⟨x9, ex9, h⟩ := lt_e h
          refine lv_iinc (v := x9) (lv' := [(5, .int x9), (0, .ref (A m_o)), (1, .ref (A a1)), (2, .int a2), (3, .ref (A a3)), (4, .int a4)]) hx hb dX11_isAtMost_36 hl (k := 5) rfl (by rw [ex9]; rfl) (by decide) rfl (fun ls hl => ?_)
          refine lv_goto (tgt := 3) hx hb dX11_isAtMost_39 (by decide) ?_
          exact ih3 x9 _ _ _ Z (lv_sub hl [1, 2, 3, 4, 5, 0] rfl) h
        · have h := if_f c8 h
          refine lv_iconst (v := (0 : Int32)) hx hb dX11_isAtMost_34 (by decide) ?_
          have hy := Option.some.inj h
          subst hy
          exact g_rz (Or.inl rfl) S Z hr hlocks dX11_isAtMost_35
  exact hL3 100 (0 : Int32) _ _ _ Z (lv_sub hl [1, 2, 3, 4, 5, 0] rfl) h
-- X11_isSame ([II[II)Z: 27 instructions
theorem dX11_isSame_0 : decode cX11_isSame 0 = .ok (.iconst 0, 1) := by decide +kernel
theorem dX11_isSame_1 : decode cX11_isSame 1 = .ok (.istore 5, 2) := by decide +kernel
theorem dX11_isSame_3 : decode cX11_isSame 3 = .ok (.iload 5, 2) := by decide +kernel
theorem dX11_isSame_5 : decode cX11_isSame 5 = .ok (.aload_n 0, 1) := by decide +kernel
theorem dX11_isSame_6 : decode cX11_isSame 6 = .ok (.getfield 159, 3) := by decide +kernel
theorem dX11_isSame_9 : decode cX11_isSame 9 = .ok (.if_icmp .ge 33, 3) := by decide +kernel
theorem dX11_isSame_12 : decode cX11_isSame 12 = .ok (.aload_n 1, 1) := by decide +kernel
theorem dX11_isSame_13 : decode cX11_isSame 13 = .ok (.bipush 8, 2) := by decide +kernel
theorem dX11_isSame_15 : decode cX11_isSame 15 = .ok (.iload_n 2, 1) := by decide +kernel
theorem dX11_isSame_16 : decode cX11_isSame 16 = .ok (.imul, 1) := by decide +kernel
theorem dX11_isSame_17 : decode cX11_isSame 17 = .ok (.iload 5, 2) := by decide +kernel
theorem dX11_isSame_19 : decode cX11_isSame 19 = .ok (.iadd, 1) := by decide +kernel
theorem dX11_isSame_20 : decode cX11_isSame 20 = .ok (.iaload, 1) := by decide +kernel
theorem dX11_isSame_21 : decode cX11_isSame 21 = .ok (.aload_n 3, 1) := by decide +kernel
theorem dX11_isSame_22 : decode cX11_isSame 22 = .ok (.bipush 8, 2) := by decide +kernel
theorem dX11_isSame_24 : decode cX11_isSame 24 = .ok (.iload 4, 2) := by decide +kernel
theorem dX11_isSame_26 : decode cX11_isSame 26 = .ok (.imul, 1) := by decide +kernel
theorem dX11_isSame_27 : decode cX11_isSame 27 = .ok (.iload 5, 2) := by decide +kernel
theorem dX11_isSame_29 : decode cX11_isSame 29 = .ok (.iadd, 1) := by decide +kernel
theorem dX11_isSame_30 : decode cX11_isSame 30 = .ok (.iaload, 1) := by decide +kernel
theorem dX11_isSame_31 : decode cX11_isSame 31 = .ok (.if_icmp .eq 5, 3) := by decide +kernel
theorem dX11_isSame_34 : decode cX11_isSame 34 = .ok (.iconst 0, 1) := by decide +kernel
theorem dX11_isSame_35 : decode cX11_isSame 35 = .ok (.ireturn, 1) := by decide +kernel
theorem dX11_isSame_36 : decode cX11_isSame 36 = .ok (.iinc 5 1, 3) := by decide +kernel
theorem dX11_isSame_39 : decode cX11_isSame 39 = .ok (.goto (-36), 3) := by decide +kernel
theorem dX11_isSame_42 : decode cX11_isSame 42 = .ok (.iconst 1, 1) := by decide +kernel
theorem dX11_isSame_43 : decode cX11_isSame 43 = .ok (.ireturn, 1) := by decide +kernel
abbrev wmX11_isSame : List Cond := .code yX11_isSame cX11_isSame 6 (some .boolean) :: mBig
def f_X11_isSame_L3 (M2 : gM) (a1 : gI) (a2 : Int32) (a3 : gI) (a4 : Int32) : Nat → Int32 → Option Int32
  | 0, _ => none
  | n3 + 1, x1 => lt (M2 m_o 1) (fun v4 => (if v4 ≤ x1 then some (1 : Int32) else rd M2 a1 (mN a1) (((8 : Int32) * a2) + x1) (fun v6 => rd M2 a3 (mN a3) (((8 : Int32) * a4) + x1) (fun v7 => (if v6 = v7 then lt (x1 + 1) (fun x9 => f_X11_isSame_L3 M2 a1 a2 a3 a4 n3 x9) else some (0 : Int32))))))
def f_X11_isSame (M : gM) (a1 : gI) (a2 : Int32) (a3 : gI) (a4 : Int32) : Option Int32 :=
  f_X11_isSame_L3 M a1 a2 a3 a4 100 (0 : Int32)
set_option maxHeartbeats 4000000 in
set_option maxRecDepth 100000 in
theorem t_X11_isSame (l : Launch) (D : va_G) (dA : Nat → ClassId) (A : gI → Nat) (hJ : gJ mLive A) {M : gM} {a1 : gI} {a2 : Int32} {a3 : gI} {a4 : Int32} (ha1 : mArr a1) (ha3 : mArr a3) {y : Int32} (h : f_X11_isSame M a1 a2 a3 a4 = some y) : mMi l yX11_isSame wmX11_isSame ({ frames := 0, cells := 0, slots := 0, locals := 0 } : Room) D dA A [.ref (A m_o), .ref (A a1), .int a2, .ref (A a3), .int a4] M y M := by
  refine Met.ofW (cc := cX11_isSame) (maxL := 6) (ret := (some .boolean)) (by decide) rfl ?_
  intro p e s m args below meth c s₁ B hml hv
  obtain ⟨rfl, hP, hK⟩ := hv
  generalize hargs : ([.ref (A m_o), .ref (A a1), .int a2, .ref (A a3), .int a4] : List Value).toArray = args at B ⊢
  have S : CallFix p m c cX11_isSame 6 s args wmX11_isSame RX11 := ⟨B.exec, B.bytes, hml, findClass_of_methodNamed B.named, atoms_spec (ws := wmX11_isSame) B.pre⟩
  obtain ⟨hx, hb, -, hown, hts⟩ := id S
  have hr := B.returns
  have hlocks := B.notSynchronized
  have X : gX D vwCl dA mLive A (gA mLive A) s := ⟨hK, hJ, fun i hi => ⟨i, hi, rfl⟩⟩
  have Z : gZ D mLay dA mLive A (gA mLive A) s.heap M s.heap [] := ⟨hP, va_S.rf⟩
  have hin : ∀ w ∈ wsX110, w ∈ wmX11_isSame := m_in
  have hl_159 := hts (.fieldLink RX11 159 "ReplicaFilesModel" "counts" "I") (mBc 54 rfl)
  have hl := lv_entry ([.ref (A m_o), .ref (A a1), .int a2, .ref (A a3), .int a4]) (n := 6) (Nat.le_of_ble_eq_true rfl)
  rw [← hargs, lg_entry_eq, hargs]
  generalize (lg_sl ([.ref (A m_o), .ref (A a1), .int a2, .ref (A a3), .int a4]) ++ List.replicate (6 - (lg_sl ([.ref (A m_o), .ref (A a1), .int a2, .ref (A a3), .int a4])).length) Slot.unset).toArray = ls at hl ⊢
  have hl : lv_has ls 6 [(0, .ref (A m_o)), (1, .ref (A a1)), (2, .int a2), (3, .ref (A a3)), (4, .int a4)] := hl
  unfold f_X11_isSame at h
  refine lv_iconst (v := (0 : Int32)) hx hb dX11_isSame_0 (by decide) ?_
  refine lv_istore (lv' := [(5, .int (0 : Int32)), (0, .ref (A m_o)), (1, .ref (A a1)), (2, .int a2), (3, .ref (A a3)), (4, .int a4)]) hx hb dX11_isSame_1 hl (by decide) rfl (fun ls hl => ?_)
  have hL3 : ∀ (n : Nat) (x1 : Int32) (H : Heap) (locs : List Loc) (ls : Array Slot), gZ D mLay dA mLive A (gA mLive A) s.heap M H locs → lv_has ls 6 [(0, .ref (A m_o)), (1, .ref (A a1)), (2, .int a2), (3, .ref (A a3)), (4, .int a4), (5, .int x1)] → f_X11_isSame_L3 M a1 a2 a3 a4 n x1 = some y → W p l e (headSpec wmX11_isSame ({ frames := 0, cells := 0, slots := 0, locals := 0 } : Room)).room s m args below meth c H locs 0 0 (MQ below (mQi D dA A (y, M)) args s 0 0 (gA mLive A)) (F0 m 3 ls []) := by
    intro n
    induction n with
    | zero =>
      intro x1 H locs ls Z hl h
      rw [f_X11_isSame_L3] at h
      cases h
    | succ n3 ih3 =>
      intro x1 H locs ls Z hl h
      rw [f_X11_isSame_L3] at h
      refine lv_iload hx hb dX11_isSame_3 (lv_at hl 5 rfl) ?_
      refine lv_aload_n hx hb dX11_isSame_5 rfl (lv_at hl 0 rfl) ?_
      refine mr_counts S X Z hin hl_159 dX11_isSame_6 h (fun v4 h => ?_)
      refine lv_icmp_ge (tgt := 42) hx hb dX11_isSame_9 (by decide) (fun c5 => ?_) (fun c5 => ?_)
      · have h := if_t c5 h
        refine lv_iconst (v := (1 : Int32)) hx hb dX11_isSame_42 (by decide) ?_
        have hy := Option.some.inj h
        subst hy
        exact g_rz (Or.inr rfl) S Z hr hlocks dX11_isSame_43
      · have h := if_f c5 h
        refine lv_aload_n hx hb dX11_isSame_12 rfl (lv_at hl 1 rfl) ?_
        refine lv_bipush (v := (8 : Int32)) hx hb dX11_isSame_13 (by decide) ?_
        refine lv_iload_n hx hb dX11_isSame_15 rfl (lv_at hl 2 rfl) ?_
        refine lv_imul hx hb dX11_isSame_16 ?_
        refine lv_iload hx hb dX11_isSame_17 (lv_at hl 5 rfl) ?_
        refine lv_iadd hx hb dX11_isSame_19 ?_
        refine g_iald S X Z ha1.1 ha1.2 dX11_isSame_20 h (fun v6 h => ?_)
        refine lv_aload_n hx hb dX11_isSame_21 rfl (lv_at hl 3 rfl) ?_
        refine lv_bipush (v := (8 : Int32)) hx hb dX11_isSame_22 (by decide) ?_
        refine lv_iload hx hb dX11_isSame_24 (lv_at hl 4 rfl) ?_
        refine lv_imul hx hb dX11_isSame_26 ?_
        refine lv_iload hx hb dX11_isSame_27 (lv_at hl 5 rfl) ?_
        refine lv_iadd hx hb dX11_isSame_29 ?_
        refine g_iald S X Z ha3.1 ha3.2 dX11_isSame_30 h (fun v7 h => ?_)
        refine lv_icmp_eq (tgt := 36) hx hb dX11_isSame_31 (by decide) (fun c8 => ?_) (fun c8 => ?_)
        · have h := if_t c8 h
          obtain ⟨x9, ex9, h⟩ := lt_e h
          refine lv_iinc (v := x9) (lv' := [(5, .int x9), (0, .ref (A m_o)), (1, .ref (A a1)), (2, .int a2), (3, .ref (A a3)), (4, .int a4)]) hx hb dX11_isSame_36 hl (k := 5) rfl (by rw [ex9]; rfl) (by decide) rfl (fun ls hl => ?_)
          refine lv_goto (tgt := 3) hx hb dX11_isSame_39 (by decide) ?_
          exact ih3 x9 _ _ _ Z (lv_sub hl [1, 2, 3, 4, 5, 0] rfl) h
        · have h := if_f c8 h
          refine lv_iconst (v := (0 : Int32)) hx hb dX11_isSame_34 (by decide) ?_
          have hy := Option.some.inj h
          subst hy
          exact g_rz (Or.inl rfl) S Z hr hlocks dX11_isSame_35
  exact hL3 100 (0 : Int32) _ _ _ Z (lv_sub hl [1, 2, 3, 4, 5, 0] rfl) h
-- X11_copyTo ([II[II)V: 22 instructions
theorem dX11_copyTo_0 : decode cX11_copyTo 0 = .ok (.iconst 0, 1) := by decide +kernel
theorem dX11_copyTo_1 : decode cX11_copyTo 1 = .ok (.istore 5, 2) := by decide +kernel
theorem dX11_copyTo_3 : decode cX11_copyTo 3 = .ok (.iload 5, 2) := by decide +kernel
theorem dX11_copyTo_5 : decode cX11_copyTo 5 = .ok (.bipush 8, 2) := by decide +kernel
theorem dX11_copyTo_7 : decode cX11_copyTo 7 = .ok (.if_icmp .ge 28, 3) := by decide +kernel
theorem dX11_copyTo_10 : decode cX11_copyTo 10 = .ok (.aload_n 3, 1) := by decide +kernel
theorem dX11_copyTo_11 : decode cX11_copyTo 11 = .ok (.bipush 8, 2) := by decide +kernel
theorem dX11_copyTo_13 : decode cX11_copyTo 13 = .ok (.iload 4, 2) := by decide +kernel
theorem dX11_copyTo_15 : decode cX11_copyTo 15 = .ok (.imul, 1) := by decide +kernel
theorem dX11_copyTo_16 : decode cX11_copyTo 16 = .ok (.iload 5, 2) := by decide +kernel
theorem dX11_copyTo_18 : decode cX11_copyTo 18 = .ok (.iadd, 1) := by decide +kernel
theorem dX11_copyTo_19 : decode cX11_copyTo 19 = .ok (.aload_n 1, 1) := by decide +kernel
theorem dX11_copyTo_20 : decode cX11_copyTo 20 = .ok (.bipush 8, 2) := by decide +kernel
theorem dX11_copyTo_22 : decode cX11_copyTo 22 = .ok (.iload_n 2, 1) := by decide +kernel
theorem dX11_copyTo_23 : decode cX11_copyTo 23 = .ok (.imul, 1) := by decide +kernel
theorem dX11_copyTo_24 : decode cX11_copyTo 24 = .ok (.iload 5, 2) := by decide +kernel
theorem dX11_copyTo_26 : decode cX11_copyTo 26 = .ok (.iadd, 1) := by decide +kernel
theorem dX11_copyTo_27 : decode cX11_copyTo 27 = .ok (.iaload, 1) := by decide +kernel
theorem dX11_copyTo_28 : decode cX11_copyTo 28 = .ok (.iastore, 1) := by decide +kernel
theorem dX11_copyTo_29 : decode cX11_copyTo 29 = .ok (.iinc 5 1, 3) := by decide +kernel
theorem dX11_copyTo_32 : decode cX11_copyTo 32 = .ok (.goto (-29), 3) := by decide +kernel
theorem dX11_copyTo_35 : decode cX11_copyTo 35 = .ok (.return_, 1) := by decide +kernel
abbrev wmX11_copyTo : List Cond := .code yX11_copyTo cX11_copyTo 6 none :: mBig
def f_X11_copyTo_L3 (a1 : gI) (a2 : Int32) (a3 : gI) (a4 : Int32) : Nat → Int32 → gM → Option gM
  | 0, _, _ => none
  | n3 + 1, x1, M2 => (if (8 : Int32) ≤ x1 then some M2 else rd M2 a1 (mN a1) (((8 : Int32) * a2) + x1) (fun v5 => wr M2 a3 (mN a3) (((8 : Int32) * a4) + x1) v5 (fun M6 => lt (x1 + 1) (fun x7 => f_X11_copyTo_L3 a1 a2 a3 a4 n3 x7 M6))))
def f_X11_copyTo (M : gM) (a1 : gI) (a2 : Int32) (a3 : gI) (a4 : Int32) : Option gM :=
  f_X11_copyTo_L3 a1 a2 a3 a4 100 (0 : Int32) M
set_option maxHeartbeats 4000000 in
set_option maxRecDepth 100000 in
theorem t_X11_copyTo (l : Launch) (D : va_G) (dA : Nat → ClassId) (A : gI → Nat) (hJ : gJ mLive A) {M : gM} {a1 : gI} {a2 : Int32} {a3 : gI} {a4 : Int32} (ha1 : mArr a1) (ha3 : mArr a3) {y : gM} (h : f_X11_copyTo M a1 a2 a3 a4 = some y) : mMv l yX11_copyTo wmX11_copyTo ({ frames := 0, cells := 0, slots := 0, locals := 0 } : Room) D dA A [.ref (A m_o), .ref (A a1), .int a2, .ref (A a3), .int a4] M y := by
  refine Met.ofW (cc := cX11_copyTo) (maxL := 6) (ret := none) (by decide) rfl ?_
  intro p e s m args below meth c s₁ B hml hv
  obtain ⟨rfl, hP, hK⟩ := hv
  generalize hargs : ([.ref (A m_o), .ref (A a1), .int a2, .ref (A a3), .int a4] : List Value).toArray = args at B ⊢
  have S : CallFix p m c cX11_copyTo 6 s args wmX11_copyTo RX11 := ⟨B.exec, B.bytes, hml, findClass_of_methodNamed B.named, atoms_spec (ws := wmX11_copyTo) B.pre⟩
  obtain ⟨hx, hb, -, hown, hts⟩ := id S
  have hr := B.returns
  have hlocks := B.notSynchronized
  have X : gX D vwCl dA mLive A (gA mLive A) s := ⟨hK, hJ, fun i hi => ⟨i, hi, rfl⟩⟩
  have Z : gZ D mLay dA mLive A (gA mLive A) s.heap M s.heap [] := ⟨hP, va_S.rf⟩
  have hin : ∀ w ∈ wsX110, w ∈ wmX11_copyTo := m_in
  have hl := lv_entry ([.ref (A m_o), .ref (A a1), .int a2, .ref (A a3), .int a4]) (n := 6) (Nat.le_of_ble_eq_true rfl)
  rw [← hargs, lg_entry_eq, hargs]
  generalize (lg_sl ([.ref (A m_o), .ref (A a1), .int a2, .ref (A a3), .int a4]) ++ List.replicate (6 - (lg_sl ([.ref (A m_o), .ref (A a1), .int a2, .ref (A a3), .int a4])).length) Slot.unset).toArray = ls at hl ⊢
  have hl : lv_has ls 6 [(0, .ref (A m_o)), (1, .ref (A a1)), (2, .int a2), (3, .ref (A a3)), (4, .int a4)] := hl
  unfold f_X11_copyTo at h
  refine lv_iconst (v := (0 : Int32)) hx hb dX11_copyTo_0 (by decide) ?_
  refine lv_istore (lv' := [(5, .int (0 : Int32)), (0, .ref (A m_o)), (1, .ref (A a1)), (2, .int a2), (3, .ref (A a3)), (4, .int a4)]) hx hb dX11_copyTo_1 hl (by decide) rfl (fun ls hl => ?_)
  have hL3 : ∀ (n : Nat) (x1 : Int32) (M2 : gM) (H : Heap) (locs : List Loc) (ls : Array Slot), gZ D mLay dA mLive A (gA mLive A) s.heap M2 H locs → lv_has ls 6 [(1, .ref (A a1)), (2, .int a2), (3, .ref (A a3)), (4, .int a4), (5, .int x1)] → f_X11_copyTo_L3 a1 a2 a3 a4 n x1 M2 = some y → W p l e (headSpec wmX11_copyTo ({ frames := 0, cells := 0, slots := 0, locals := 0 } : Room)).room s m args below meth c H locs 0 0 (MQ below (mQv D dA A y) args s 0 0 (gA mLive A)) (F0 m 3 ls []) := by
    intro n
    induction n with
    | zero =>
      intro x1 M2 H locs ls Z hl h
      rw [f_X11_copyTo_L3] at h
      cases h
    | succ n3 ih3 =>
      intro x1 M2 H locs ls Z hl h
      rw [f_X11_copyTo_L3] at h
      refine lv_iload hx hb dX11_copyTo_3 (lv_at hl 4 rfl) ?_
      refine lv_bipush (v := (8 : Int32)) hx hb dX11_copyTo_5 (by decide) ?_
      refine lv_icmp_ge (tgt := 35) hx hb dX11_copyTo_7 (by decide) (fun c4 => ?_) (fun c4 => ?_)
      · have h := if_t c4 h
        have hy := Option.some.inj h
        subst hy
        exact g_rv S Z hr hlocks dX11_copyTo_35
      · have h := if_f c4 h
        refine lv_aload_n hx hb dX11_copyTo_10 rfl (lv_at hl 2 rfl) ?_
        refine lv_bipush (v := (8 : Int32)) hx hb dX11_copyTo_11 (by decide) ?_
        refine lv_iload hx hb dX11_copyTo_13 (lv_at hl 3 rfl) ?_
        refine lv_imul hx hb dX11_copyTo_15 ?_
        refine lv_iload hx hb dX11_copyTo_16 (lv_at hl 4 rfl) ?_
        refine lv_iadd hx hb dX11_copyTo_18 ?_
        refine lv_aload_n hx hb dX11_copyTo_19 rfl (lv_at hl 0 rfl) ?_
        refine lv_bipush (v := (8 : Int32)) hx hb dX11_copyTo_20 (by decide) ?_
        refine lv_iload_n hx hb dX11_copyTo_22 rfl (lv_at hl 1 rfl) ?_
        refine lv_imul hx hb dX11_copyTo_23 ?_
        refine lv_iload hx hb dX11_copyTo_24 (lv_at hl 4 rfl) ?_
        refine lv_iadd hx hb dX11_copyTo_26 ?_
        refine g_iald S X Z ha1.1 ha1.2 dX11_copyTo_27 h (fun v5 h => ?_)
        refine g_iast S X Z ha3.1 ha3.2 dX11_copyTo_28 h (fun M6 H locs Z h => ?_)
        obtain ⟨x7, ex7, h⟩ := lt_e h
        refine lv_iinc (v := x7) (lv' := [(5, .int x7), (1, .ref (A a1)), (2, .int a2), (3, .ref (A a3)), (4, .int a4)]) hx hb dX11_copyTo_29 hl (k := 4) rfl (by rw [ex7]; rfl) (by decide) rfl (fun ls hl => ?_)
        refine lv_goto (tgt := 3) hx hb dX11_copyTo_32 (by decide) ?_
        exact ih3 x7 M6 _ _ _ Z (lv_sub hl [1, 2, 3, 4, 0] rfl) h
  exact hL3 100 (0 : Int32) M _ _ _ Z (lv_sub hl [2, 3, 4, 5, 0] rfl) h
-- X11_raise ([II[II)V: 46 instructions
theorem dX11_raise_0 : decode cX11_raise 0 = .ok (.iconst 0, 1) := by decide +kernel
theorem dX11_raise_1 : decode cX11_raise 1 = .ok (.istore 5, 2) := by decide +kernel
theorem dX11_raise_3 : decode cX11_raise 3 = .ok (.iload 5, 2) := by decide +kernel
theorem dX11_raise_5 : decode cX11_raise 5 = .ok (.aload_n 0, 1) := by decide +kernel
theorem dX11_raise_6 : decode cX11_raise 6 = .ok (.getfield 159, 3) := by decide +kernel
theorem dX11_raise_9 : decode cX11_raise 9 = .ok (.if_icmp .ge 63, 3) := by decide +kernel
theorem dX11_raise_12 : decode cX11_raise 12 = .ok (.aload_n 3, 1) := by decide +kernel
theorem dX11_raise_13 : decode cX11_raise 13 = .ok (.bipush 8, 2) := by decide +kernel
theorem dX11_raise_15 : decode cX11_raise 15 = .ok (.iload 4, 2) := by decide +kernel
theorem dX11_raise_17 : decode cX11_raise 17 = .ok (.imul, 1) := by decide +kernel
theorem dX11_raise_18 : decode cX11_raise 18 = .ok (.iload 5, 2) := by decide +kernel
theorem dX11_raise_20 : decode cX11_raise 20 = .ok (.iadd, 1) := by decide +kernel
theorem dX11_raise_21 : decode cX11_raise 21 = .ok (.aload_n 1, 1) := by decide +kernel
theorem dX11_raise_22 : decode cX11_raise 22 = .ok (.bipush 8, 2) := by decide +kernel
theorem dX11_raise_24 : decode cX11_raise 24 = .ok (.iload_n 2, 1) := by decide +kernel
theorem dX11_raise_25 : decode cX11_raise 25 = .ok (.imul, 1) := by decide +kernel
theorem dX11_raise_26 : decode cX11_raise 26 = .ok (.iload 5, 2) := by decide +kernel
theorem dX11_raise_28 : decode cX11_raise 28 = .ok (.iadd, 1) := by decide +kernel
theorem dX11_raise_29 : decode cX11_raise 29 = .ok (.iaload, 1) := by decide +kernel
theorem dX11_raise_30 : decode cX11_raise 30 = .ok (.aload_n 3, 1) := by decide +kernel
theorem dX11_raise_31 : decode cX11_raise 31 = .ok (.bipush 8, 2) := by decide +kernel
theorem dX11_raise_33 : decode cX11_raise 33 = .ok (.iload 4, 2) := by decide +kernel
theorem dX11_raise_35 : decode cX11_raise 35 = .ok (.imul, 1) := by decide +kernel
theorem dX11_raise_36 : decode cX11_raise 36 = .ok (.iload 5, 2) := by decide +kernel
theorem dX11_raise_38 : decode cX11_raise 38 = .ok (.iadd, 1) := by decide +kernel
theorem dX11_raise_39 : decode cX11_raise 39 = .ok (.iaload, 1) := by decide +kernel
theorem dX11_raise_40 : decode cX11_raise 40 = .ok (.if_icmp .le 15, 3) := by decide +kernel
theorem dX11_raise_43 : decode cX11_raise 43 = .ok (.aload_n 1, 1) := by decide +kernel
theorem dX11_raise_44 : decode cX11_raise 44 = .ok (.bipush 8, 2) := by decide +kernel
theorem dX11_raise_46 : decode cX11_raise 46 = .ok (.iload_n 2, 1) := by decide +kernel
theorem dX11_raise_47 : decode cX11_raise 47 = .ok (.imul, 1) := by decide +kernel
theorem dX11_raise_48 : decode cX11_raise 48 = .ok (.iload 5, 2) := by decide +kernel
theorem dX11_raise_50 : decode cX11_raise 50 = .ok (.iadd, 1) := by decide +kernel
theorem dX11_raise_51 : decode cX11_raise 51 = .ok (.iaload, 1) := by decide +kernel
theorem dX11_raise_52 : decode cX11_raise 52 = .ok (.goto 13, 3) := by decide +kernel
theorem dX11_raise_55 : decode cX11_raise 55 = .ok (.aload_n 3, 1) := by decide +kernel
theorem dX11_raise_56 : decode cX11_raise 56 = .ok (.bipush 8, 2) := by decide +kernel
theorem dX11_raise_58 : decode cX11_raise 58 = .ok (.iload 4, 2) := by decide +kernel
theorem dX11_raise_60 : decode cX11_raise 60 = .ok (.imul, 1) := by decide +kernel
theorem dX11_raise_61 : decode cX11_raise 61 = .ok (.iload 5, 2) := by decide +kernel
theorem dX11_raise_63 : decode cX11_raise 63 = .ok (.iadd, 1) := by decide +kernel
theorem dX11_raise_64 : decode cX11_raise 64 = .ok (.iaload, 1) := by decide +kernel
theorem dX11_raise_65 : decode cX11_raise 65 = .ok (.iastore, 1) := by decide +kernel
theorem dX11_raise_66 : decode cX11_raise 66 = .ok (.iinc 5 1, 3) := by decide +kernel
theorem dX11_raise_69 : decode cX11_raise 69 = .ok (.goto (-66), 3) := by decide +kernel
theorem dX11_raise_72 : decode cX11_raise 72 = .ok (.return_, 1) := by decide +kernel
abbrev wmX11_raise : List Cond := .code yX11_raise cX11_raise 6 none :: mBig
def f_X11_raise_L3 (a1 : gI) (a2 : Int32) (a3 : gI) (a4 : Int32) : Nat → Int32 → gM → Option gM
  | 0, _, _ => none
  | n3 + 1, x1, M2 => lt (M2 m_o 1) (fun v4 => (if v4 ≤ x1 then some M2 else rd M2 a1 (mN a1) (((8 : Int32) * a2) + x1) (fun v6 => rd M2 a3 (mN a3) (((8 : Int32) * a4) + x1) (fun v7 => jn (fun (q : (Int32 × gM)) => match q with | (b8, M9) => wr M9 a3 (mN a3) (((8 : Int32) * a4) + x1) b8 (fun M10 => lt (x1 + 1) (fun x11 => f_X11_raise_L3 a1 a2 a3 a4 n3 x11 M10))) (fun J65 => (if v6 ≤ v7 then rd M2 a3 (mN a3) (((8 : Int32) * a4) + x1) (fun v13 => J65 (v13, M2)) else rd M2 a1 (mN a1) (((8 : Int32) * a2) + x1) (fun v14 => J65 (v14, M2))))))))
def f_X11_raise (M : gM) (a1 : gI) (a2 : Int32) (a3 : gI) (a4 : Int32) : Option gM :=
  f_X11_raise_L3 a1 a2 a3 a4 100 (0 : Int32) M
set_option maxHeartbeats 4000000 in
set_option maxRecDepth 100000 in
theorem t_X11_raise (l : Launch) (D : va_G) (dA : Nat → ClassId) (A : gI → Nat) (hJ : gJ mLive A) {M : gM} {a1 : gI} {a2 : Int32} {a3 : gI} {a4 : Int32} (ha1 : mArr a1) (ha3 : mArr a3) {y : gM} (h : f_X11_raise M a1 a2 a3 a4 = some y) : mMv l yX11_raise wmX11_raise ({ frames := 0, cells := 0, slots := 0, locals := 0 } : Room) D dA A [.ref (A m_o), .ref (A a1), .int a2, .ref (A a3), .int a4] M y := by
  refine Met.ofW (cc := cX11_raise) (maxL := 6) (ret := none) (by decide) rfl ?_
  intro p e s m args below meth c s₁ B hml hv
  obtain ⟨rfl, hP, hK⟩ := hv
  generalize hargs : ([.ref (A m_o), .ref (A a1), .int a2, .ref (A a3), .int a4] : List Value).toArray = args at B ⊢
  have S : CallFix p m c cX11_raise 6 s args wmX11_raise RX11 := ⟨B.exec, B.bytes, hml, findClass_of_methodNamed B.named, atoms_spec (ws := wmX11_raise) B.pre⟩
  obtain ⟨hx, hb, -, hown, hts⟩ := id S
  have hr := B.returns
  have hlocks := B.notSynchronized
  have X : gX D vwCl dA mLive A (gA mLive A) s := ⟨hK, hJ, fun i hi => ⟨i, hi, rfl⟩⟩
  have Z : gZ D mLay dA mLive A (gA mLive A) s.heap M s.heap [] := ⟨hP, va_S.rf⟩
  have hin : ∀ w ∈ wsX110, w ∈ wmX11_raise := m_in
  have hl_159 := hts (.fieldLink RX11 159 "ReplicaFilesModel" "counts" "I") (mBc 54 rfl)
  have hl := lv_entry ([.ref (A m_o), .ref (A a1), .int a2, .ref (A a3), .int a4]) (n := 6) (Nat.le_of_ble_eq_true rfl)
  rw [← hargs, lg_entry_eq, hargs]
  generalize (lg_sl ([.ref (A m_o), .ref (A a1), .int a2, .ref (A a3), .int a4]) ++ List.replicate (6 - (lg_sl ([.ref (A m_o), .ref (A a1), .int a2, .ref (A a3), .int a4])).length) Slot.unset).toArray = ls at hl ⊢
  have hl : lv_has ls 6 [(0, .ref (A m_o)), (1, .ref (A a1)), (2, .int a2), (3, .ref (A a3)), (4, .int a4)] := hl
  unfold f_X11_raise at h
  refine lv_iconst (v := (0 : Int32)) hx hb dX11_raise_0 (by decide) ?_
  refine lv_istore (lv' := [(5, .int (0 : Int32)), (0, .ref (A m_o)), (1, .ref (A a1)), (2, .int a2), (3, .ref (A a3)), (4, .int a4)]) hx hb dX11_raise_1 hl (by decide) rfl (fun ls hl => ?_)
  have hL3 : ∀ (n : Nat) (x1 : Int32) (M2 : gM) (H : Heap) (locs : List Loc) (ls : Array Slot), gZ D mLay dA mLive A (gA mLive A) s.heap M2 H locs → lv_has ls 6 [(0, .ref (A m_o)), (1, .ref (A a1)), (2, .int a2), (3, .ref (A a3)), (4, .int a4), (5, .int x1)] → f_X11_raise_L3 a1 a2 a3 a4 n x1 M2 = some y → W p l e (headSpec wmX11_raise ({ frames := 0, cells := 0, slots := 0, locals := 0 } : Room)).room s m args below meth c H locs 0 0 (MQ below (mQv D dA A y) args s 0 0 (gA mLive A)) (F0 m 3 ls []) := by
    intro n
    induction n with
    | zero =>
      intro x1 M2 H locs ls Z hl h
      rw [f_X11_raise_L3] at h
      cases h
    | succ n3 ih3 =>
      intro x1 M2 H locs ls Z hl h
      rw [f_X11_raise_L3] at h
      refine lv_iload hx hb dX11_raise_3 (lv_at hl 5 rfl) ?_
      refine lv_aload_n hx hb dX11_raise_5 rfl (lv_at hl 0 rfl) ?_
      refine mr_counts S X Z hin hl_159 dX11_raise_6 h (fun v4 h => ?_)
      refine lv_icmp_ge (tgt := 72) hx hb dX11_raise_9 (by decide) (fun c5 => ?_) (fun c5 => ?_)
      · have h := if_t c5 h
        have hy := Option.some.inj h
        subst hy
        exact g_rv S Z hr hlocks dX11_raise_72
      · have h := if_f c5 h
        refine lv_aload_n hx hb dX11_raise_12 rfl (lv_at hl 3 rfl) ?_
        refine lv_bipush (v := (8 : Int32)) hx hb dX11_raise_13 (by decide) ?_
        refine lv_iload hx hb dX11_raise_15 (lv_at hl 4 rfl) ?_
        refine lv_imul hx hb dX11_raise_17 ?_
        refine lv_iload hx hb dX11_raise_18 (lv_at hl 5 rfl) ?_
        refine lv_iadd hx hb dX11_raise_20 ?_
        refine lv_aload_n hx hb dX11_raise_21 rfl (lv_at hl 1 rfl) ?_
        refine lv_bipush (v := (8 : Int32)) hx hb dX11_raise_22 (by decide) ?_
        refine lv_iload_n hx hb dX11_raise_24 rfl (lv_at hl 2 rfl) ?_
        refine lv_imul hx hb dX11_raise_25 ?_
        refine lv_iload hx hb dX11_raise_26 (lv_at hl 5 rfl) ?_
        refine lv_iadd hx hb dX11_raise_28 ?_
        refine g_iald S X Z ha1.1 ha1.2 dX11_raise_29 h (fun v6 h => ?_)
        refine lv_aload_n hx hb dX11_raise_30 rfl (lv_at hl 3 rfl) ?_
        refine lv_bipush (v := (8 : Int32)) hx hb dX11_raise_31 (by decide) ?_
        refine lv_iload hx hb dX11_raise_33 (lv_at hl 4 rfl) ?_
        refine lv_imul hx hb dX11_raise_35 ?_
        refine lv_iload hx hb dX11_raise_36 (lv_at hl 5 rfl) ?_
        refine lv_iadd hx hb dX11_raise_38 ?_
        refine g_iald S X Z ha3.1 ha3.2 dX11_raise_39 h (fun v7 h => ?_)
        obtain ⟨J65, eJ65, h⟩ := jn_e h
        have hJ65 : ∀ (b8 : Int32) (M9 : gM) (H : Heap) (locs : List Loc) (ls : Array Slot), gZ D mLay dA mLive A (gA mLive A) s.heap M9 H locs → lv_has ls 6 [(0, .ref (A m_o)), (1, .ref (A a1)), (2, .int a2), (3, .ref (A a3)), (4, .int a4), (5, .int x1)] → J65 (b8, M9) = some y → W p l e (headSpec wmX11_raise ({ frames := 0, cells := 0, slots := 0, locals := 0 } : Room)).room s m args below meth c H locs 0 0 (MQ below (mQv D dA A y) args s 0 0 (gA mLive A)) (F0 m 65 ls [.int b8, .int (((8 : Int32) * a4) + x1), .ref (A a3)]) := by
          intro b8 M9 H locs ls Z hl h
          rw [eJ65] at h
          try dsimp only at h
          refine g_iast S X Z ha3.1 ha3.2 dX11_raise_65 h (fun M10 H locs Z h => ?_)
          obtain ⟨x11, ex11, h⟩ := lt_e h
          refine lv_iinc (v := x11) (lv' := [(5, .int x11), (0, .ref (A m_o)), (1, .ref (A a1)), (2, .int a2), (3, .ref (A a3)), (4, .int a4)]) hx hb dX11_raise_66 hl (k := 5) rfl (by rw [ex11]; rfl) (by decide) rfl (fun ls hl => ?_)
          refine lv_goto (tgt := 3) hx hb dX11_raise_69 (by decide) ?_
          exact ih3 x11 M10 _ _ _ Z (lv_sub hl [1, 2, 3, 4, 5, 0] rfl) h
        refine lv_icmp_le (tgt := 55) hx hb dX11_raise_40 (by decide) (fun c12 => ?_) (fun c12 => ?_)
        · have h := if_t c12 h
          refine lv_aload_n hx hb dX11_raise_55 rfl (lv_at hl 3 rfl) ?_
          refine lv_bipush (v := (8 : Int32)) hx hb dX11_raise_56 (by decide) ?_
          refine lv_iload hx hb dX11_raise_58 (lv_at hl 4 rfl) ?_
          refine lv_imul hx hb dX11_raise_60 ?_
          refine lv_iload hx hb dX11_raise_61 (lv_at hl 5 rfl) ?_
          refine lv_iadd hx hb dX11_raise_63 ?_
          refine g_iald S X Z ha3.1 ha3.2 dX11_raise_64 h (fun v13 h => ?_)
          exact hJ65 v13 M2 _ _ _ Z (lv_sub hl [0, 1, 2, 3, 4, 5] rfl) h
        · have h := if_f c12 h
          refine lv_aload_n hx hb dX11_raise_43 rfl (lv_at hl 1 rfl) ?_
          refine lv_bipush (v := (8 : Int32)) hx hb dX11_raise_44 (by decide) ?_
          refine lv_iload_n hx hb dX11_raise_46 rfl (lv_at hl 2 rfl) ?_
          refine lv_imul hx hb dX11_raise_47 ?_
          refine lv_iload hx hb dX11_raise_48 (lv_at hl 5 rfl) ?_
          refine lv_iadd hx hb dX11_raise_50 ?_
          refine g_iald S X Z ha1.1 ha1.2 dX11_raise_51 h (fun v14 h => ?_)
          refine lv_goto (tgt := 65) hx hb dX11_raise_52 (by decide) ?_
          exact hJ65 v14 M2 _ _ _ Z (lv_sub hl [0, 1, 2, 3, 4, 5] rfl) h
  exact hL3 100 (0 : Int32) M _ _ _ Z (lv_sub hl [1, 2, 3, 4, 5, 0] rfl) h
