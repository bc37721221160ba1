-- X10_checkArgument (II)V: 7 instructions
theorem dX10_checkArgument_0 : decode cX10_checkArgument 0 = .ok (.iload_n 0, 1) := by decide +kernel
theorem dX10_checkArgument_1 : decode cX10_checkArgument 1 = .ok (.ifCond .lt 8, 3) := by decide +kernel
theorem dX10_checkArgument_4 : decode cX10_checkArgument 4 = .ok (.iload_n 0, 1) := by decide +kernel
theorem dX10_checkArgument_5 : decode cX10_checkArgument 5 = .ok (.iload_n 1, 1) := by decide +kernel
theorem dX10_checkArgument_6 : decode cX10_checkArgument 6 = .ok (.if_icmp .le 14, 3) := by decide +kernel
theorem dX10_checkArgument_9 : decode cX10_checkArgument 9 = .ok (.new 307, 3) := by decide +kernel
theorem dX10_checkArgument_12 : decode cX10_checkArgument 12 = .ok (.dup, 1) := by decide +kernel
theorem dX10_checkArgument_13 : decode cX10_checkArgument 13 = .ok (.ldc_w 309, 3) := by decide +kernel
theorem dX10_checkArgument_16 : decode cX10_checkArgument 16 = .ok (.invokespecial 311, 3) := by decide +kernel
theorem dX10_checkArgument_19 : decode cX10_checkArgument 19 = .ok (.athrow, 1) := by decide +kernel
theorem dX10_checkArgument_20 : decode cX10_checkArgument 20 = .ok (.return_, 1) := by decide +kernel
abbrev wmX10_checkArgument : List Cond := .code yX10_checkArgument cX10_checkArgument 2 none :: tBig
def f_X10_checkArgument (N : Nat) (M : gM) (a0 : Int32) (a1 : Int32) : Option Nat :=
  jn (fun (_ : Unit) => some 2) (fun J9 => (if a0 < 0 then J9 () else (if a0 ≤ a1 then some 0 else J9 ())))
set_option maxHeartbeats 4000000 in
set_option maxRecDepth 100000 in
theorem t_X10_checkArgument (l : Launch) (hst : l.stackTraces = false) (N : Nat) (D : va_G) (dA : Nat → ClassId) (A : gI → Nat) (hJ : gJ (cLive N) A) (tx : Nat → Nat) (sz : Nat) {M : gM} {a0 : Int32} {a1 : Int32} {y : Nat} (h : f_X10_checkArgument N M a0 a1 = some y) : tMv l yX10_checkArgument wmX10_checkArgument ({ frames := 6, cells := 1, slots := 6, locals := 90 } : Room) N D dA A tx sz [.int a0, .int a1] M y 1 6 := by
  refine vx_ofW (cc := cX10_checkArgument) (maxL := 2) (ret := none) (by decide) rfl ?_
  intro p e s m args below meth c s₁ B hml hout hv
  obtain ⟨rfl, hsz, hP, hK, hN, hT⟩ := hv
  subst hsz
  generalize hargs : ([.int a0, .int a1] : List Value).toArray = args at B ⊢
  have S : CallFix p m c cX10_checkArgument 2 s args wmX10_checkArgument RX10 := ⟨B.exec, B.bytes, hml, findClass_of_methodNamed B.named, atoms_spec (ws := wmX10_checkArgument) B.pre⟩
  obtain ⟨hx, hb, -, hown, hts⟩ := id S
  have hr := B.returns
  have hlocks := B.notSynchronized
  have X : gX D vwCl dA (cLive N) A (cReg N A s.heap.size) s := ⟨hK, hJ, fun i hi => Or.inl ⟨i, hi, rfl⟩⟩
  have Z : tZ D N dA A s M s.heap [] := ⟨hP, va_S.rf⟩
  have hl := lv_entry ([.int a0, .int a1]) (n := 2) (Nat.le_of_ble_eq_true rfl)
  rw [← hargs, lg_entry_eq, hargs]
  generalize (lg_sl ([.int a0, .int a1]) ++ List.replicate (2 - (lg_sl ([.int a0, .int a1])).length) Slot.unset).toArray = ls at hl ⊢
  have hl : lv_has ls 2 [(0, .int a0), (1, .int a1)] := hl
  unfold f_X10_checkArgument at h
  refine lv_iload_n hx hb dX10_checkArgument_0 rfl (lv_at hl 0 rfl) ?_
  obtain ⟨J9, eJ9, h⟩ := jn_e h
  have hJ9 : ∀  (H : Heap) (locs : List Loc) (ls : Array Slot), tZ D N dA A s M H locs → lv_has ls 2 [] → J9 () = some y → W p l e (headSpec wmX10_checkArgument ({ frames := 6, cells := 1, slots := 6, locals := 90 } : Room)).room s m args below meth c H locs 0 0 (vx_MQ below (tQv N D dA A s.heap.size y M) (tX N D dA A s.heap.size y M) args s 1 6 (cReg N A s.heap.size)) (F0 m 9 ls []) := by
    intro  H locs ls Z hl h
    rw [eJ9] at h
    try dsimp only at h
    have hy := Option.some.inj h
    subst hy
    exact t_throwW (k := 2) (cls := cIA) (text := "an argument is out of its range") (by decide) rfl S hst hT Z (by decide) (by decide) ⟨List.mem_of_getElem? (i := 2) rfl, List.mem_of_getElem? (i := 3) rfl⟩ t_wA (hl.1.trans S.2.2.1.symm) dX10_checkArgument_9 dX10_checkArgument_12 dX10_checkArgument_13 dX10_checkArgument_16 dX10_checkArgument_19 hout (Nat.le_of_ble_eq_true rfl) (Nat.le_of_ble_eq_true rfl) (Nat.le_of_ble_eq_true rfl) (Nat.le_of_ble_eq_true rfl) hlocks (Nat.le_of_ble_eq_true rfl) (Nat.le_of_ble_eq_true rfl)
  refine lv_if_lt (tgt := 9) hx hb dX10_checkArgument_1 (by decide) (fun c1 => ?_) (fun c1 => ?_)
  · have h := if_t c1 h
    exact hJ9  _ _ _ Z (lv_sub hl [] rfl) h
  · have h := if_f c1 h
    refine lv_iload_n hx hb dX10_checkArgument_4 rfl (lv_at hl 0 rfl) ?_
    refine lv_iload_n hx hb dX10_checkArgument_5 rfl (lv_at hl 1 rfl) ?_
    refine lv_icmp_le (tgt := 20) hx hb dX10_checkArgument_6 (by decide) (fun c2 => ?_) (fun c2 => ?_)
    · have h := if_t c2 h
      refine W.widen (k := 1) (n := 6) (Nat.le_of_ble_eq_true rfl) (Nat.le_of_ble_eq_true rfl) ?_
      have hy := Option.some.inj h
      subst hy
      exact t_rv S Z hr hlocks dX10_checkArgument_20
    · have h := if_f c2 h
      exact hJ9  _ _ _ Z (lv_sub hl [] rfl) h
-- X10_checkClient (I)V: 7 instructions
theorem dX10_checkClient_0 : decode cX10_checkClient 0 = .ok (.iload_n 0, 1) := by decide +kernel
theorem dX10_checkClient_1 : decode cX10_checkClient 1 = .ok (.ifCond .lt 8, 3) := by decide +kernel
theorem dX10_checkClient_4 : decode cX10_checkClient 4 = .ok (.iload_n 0, 1) := by decide +kernel
theorem dX10_checkClient_5 : decode cX10_checkClient 5 = .ok (.iconst 4, 1) := by decide +kernel
theorem dX10_checkClient_6 : decode cX10_checkClient 6 = .ok (.if_icmp .lt 14, 3) := by decide +kernel
theorem dX10_checkClient_9 : decode cX10_checkClient 9 = .ok (.new 88, 3) := by decide +kernel
theorem dX10_checkClient_12 : decode cX10_checkClient 12 = .ok (.dup, 1) := by decide +kernel
theorem dX10_checkClient_13 : decode cX10_checkClient 13 = .ok (.ldc_w 301, 3) := by decide +kernel
theorem dX10_checkClient_16 : decode cX10_checkClient 16 = .ok (.invokespecial 92, 3) := by decide +kernel
theorem dX10_checkClient_19 : decode cX10_checkClient 19 = .ok (.athrow, 1) := by decide +kernel
theorem dX10_checkClient_20 : decode cX10_checkClient 20 = .ok (.return_, 1) := by decide +kernel
abbrev wmX10_checkClient : List Cond := .code yX10_checkClient cX10_checkClient 1 none :: tBig
def f_X10_checkClient (N : Nat) (M : gM) (a0 : Int32) : Option Nat :=
  jn (fun (_ : Unit) => some 1) (fun J9 => (if a0 < 0 then J9 () else (if a0 < (4 : Int32) then some 0 else J9 ())))
set_option maxHeartbeats 4000000 in
set_option maxRecDepth 100000 in
theorem t_X10_checkClient (l : Launch) (hst : l.stackTraces = false) (N : Nat) (D : va_G) (dA : Nat → ClassId) (A : gI → Nat) (hJ : gJ (cLive N) A) (tx : Nat → Nat) (sz : Nat) {M : gM} {a0 : Int32} {y : Nat} (h : f_X10_checkClient N M a0 = some y) : tMv l yX10_checkClient wmX10_checkClient ({ frames := 6, cells := 1, slots := 6, locals := 90 } : Room) N D dA A tx sz [.int a0] M y 1 6 := by
  refine vx_ofW (cc := cX10_checkClient) (maxL := 1) (ret := none) (by decide) rfl ?_
  intro p e s m args below meth c s₁ B hml hout hv
  obtain ⟨rfl, hsz, hP, hK, hN, hT⟩ := hv
  subst hsz
  generalize hargs : ([.int a0] : List Value).toArray = args at B ⊢
  have S : CallFix p m c cX10_checkClient 1 s args wmX10_checkClient RX10 := ⟨B.exec, B.bytes, hml, findClass_of_methodNamed B.named, atoms_spec (ws := wmX10_checkClient) B.pre⟩
  obtain ⟨hx, hb, -, hown, hts⟩ := id S
  have hr := B.returns
  have hlocks := B.notSynchronized
  have X : gX D vwCl dA (cLive N) A (cReg N A s.heap.size) s := ⟨hK, hJ, fun i hi => Or.inl ⟨i, hi, rfl⟩⟩
  have Z : tZ D N dA A s M s.heap [] := ⟨hP, va_S.rf⟩
  have hl := lv_entry ([.int a0]) (n := 1) (Nat.le_of_ble_eq_true rfl)
  rw [← hargs, lg_entry_eq, hargs]
  generalize (lg_sl ([.int a0]) ++ List.replicate (1 - (lg_sl ([.int a0])).length) Slot.unset).toArray = ls at hl ⊢
  have hl : lv_has ls 1 [(0, .int a0)] := hl
  unfold f_X10_checkClient at h
  refine lv_iload_n hx hb dX10_checkClient_0 rfl (lv_at hl 0 rfl) ?_
  obtain ⟨J9, eJ9, h⟩ := jn_e h
  have hJ9 : ∀  (H : Heap) (locs : List Loc) (ls : Array Slot), tZ D N dA A s M H locs → lv_has ls 1 [] → J9 () = some y → W p l e (headSpec wmX10_checkClient ({ frames := 6, cells := 1, slots := 6, locals := 90 } : Room)).room s m args below meth c H locs 0 0 (vx_MQ below (tQv N D dA A s.heap.size y M) (tX N D dA A s.heap.size y M) args s 1 6 (cReg N A s.heap.size)) (F0 m 9 ls []) := by
    intro  H locs ls Z hl h
    rw [eJ9] at h
    try dsimp only at h
    have hy := Option.some.inj h
    subst hy
    exact t_throwW (k := 1) (cls := cIO) (text := "no such client") (by decide) rfl S hst hT Z (by decide) (by decide) ⟨List.mem_of_getElem? (i := 0) rfl, List.mem_of_getElem? (i := 1) rfl⟩ t_wI (hl.1.trans S.2.2.1.symm) dX10_checkClient_9 dX10_checkClient_12 dX10_checkClient_13 dX10_checkClient_16 dX10_checkClient_19 hout (Nat.le_of_ble_eq_true rfl) (Nat.le_of_ble_eq_true rfl) (Nat.le_of_ble_eq_true rfl) (Nat.le_of_ble_eq_true rfl) hlocks (Nat.le_of_ble_eq_true rfl) (Nat.le_of_ble_eq_true rfl)
  refine lv_if_lt (tgt := 9) hx hb dX10_checkClient_1 (by decide) (fun c1 => ?_) (fun c1 => ?_)
  · have h := if_t c1 h
    exact hJ9  _ _ _ Z (lv_sub hl [] rfl) h
  · have h := if_f c1 h
    refine lv_iload_n hx hb dX10_checkClient_4 rfl (lv_at hl 0 rfl) ?_
    refine lv_iconst (v := (4 : Int32)) hx hb dX10_checkClient_5 (by decide) ?_
    refine lv_icmp_lt (tgt := 20) hx hb dX10_checkClient_6 (by decide) (fun c2 => ?_) (fun c2 => ?_)
    · have h := if_t c2 h
      refine W.widen (k := 1) (n := 6) (Nat.le_of_ble_eq_true rfl) (Nat.le_of_ble_eq_true rfl) ?_
      have hy := Option.some.inj h
      subst hy
      exact t_rv S Z hr hlocks dX10_checkClient_20
    · have h := if_f c2 h
      exact hJ9  _ _ _ Z (lv_sub hl [] rfl) h
-- X10_checkObject (I)V: 7 instructions
theorem dX10_checkObject_0 : decode cX10_checkObject 0 = .ok (.iload_n 0, 1) := by decide +kernel
theorem dX10_checkObject_1 : decode cX10_checkObject 1 = .ok (.ifCond .lt 9, 3) := by decide +kernel
theorem dX10_checkObject_4 : decode cX10_checkObject 4 = .ok (.iload_n 0, 1) := by decide +kernel
theorem dX10_checkObject_5 : decode cX10_checkObject 5 = .ok (.bipush 48, 2) := by decide +kernel
theorem dX10_checkObject_7 : decode cX10_checkObject 7 = .ok (.if_icmp .lt 14, 3) := by decide +kernel
theorem dX10_checkObject_10 : decode cX10_checkObject 10 = .ok (.new 88, 3) := by decide +kernel
theorem dX10_checkObject_13 : decode cX10_checkObject 13 = .ok (.dup, 1) := by decide +kernel
theorem dX10_checkObject_14 : decode cX10_checkObject 14 = .ok (.ldc_w 303, 3) := by decide +kernel
theorem dX10_checkObject_17 : decode cX10_checkObject 17 = .ok (.invokespecial 92, 3) := by decide +kernel
theorem dX10_checkObject_20 : decode cX10_checkObject 20 = .ok (.athrow, 1) := by decide +kernel
theorem dX10_checkObject_21 : decode cX10_checkObject 21 = .ok (.return_, 1) := by decide +kernel
abbrev wmX10_checkObject : List Cond := .code yX10_checkObject cX10_checkObject 1 none :: tBig
def f_X10_checkObject (N : Nat) (M : gM) (a0 : Int32) : Option Nat :=
  jn (fun (_ : Unit) => some 1) (fun J10 => (if a0 < 0 then J10 () else (if a0 < (48 : Int32) then some 0 else J10 ())))
set_option maxHeartbeats 4000000 in
set_option maxRecDepth 100000 in
theorem t_X10_checkObject (l : Launch) (hst : l.stackTraces = false) (N : Nat) (D : va_G) (dA : Nat → ClassId) (A : gI → Nat) (hJ : gJ (cLive N) A) (tx : Nat → Nat) (sz : Nat) {M : gM} {a0 : Int32} {y : Nat} (h : f_X10_checkObject N M a0 = some y) : tMv l yX10_checkObject wmX10_checkObject ({ frames := 6, cells := 1, slots := 6, locals := 90 } : Room) N D dA A tx sz [.int a0] M y 1 6 := by
  refine vx_ofW (cc := cX10_checkObject) (maxL := 1) (ret := none) (by decide) rfl ?_
  intro p e s m args below meth c s₁ B hml hout hv
  obtain ⟨rfl, hsz, hP, hK, hN, hT⟩ := hv
  subst hsz
  generalize hargs : ([.int a0] : List Value).toArray = args at B ⊢
  have S : CallFix p m c cX10_checkObject 1 s args wmX10_checkObject RX10 := ⟨B.exec, B.bytes, hml, findClass_of_methodNamed B.named, atoms_spec (ws := wmX10_checkObject) B.pre⟩
  obtain ⟨hx, hb, -, hown, hts⟩ := id S
  have hr := B.returns
  have hlocks := B.notSynchronized
  have X : gX D vwCl dA (cLive N) A (cReg N A s.heap.size) s := ⟨hK, hJ, fun i hi => Or.inl ⟨i, hi, rfl⟩⟩
  have Z : tZ D N dA A s M s.heap [] := ⟨hP, va_S.rf⟩
  have hl := lv_entry ([.int a0]) (n := 1) (Nat.le_of_ble_eq_true rfl)
  rw [← hargs, lg_entry_eq, hargs]
  generalize (lg_sl ([.int a0]) ++ List.replicate (1 - (lg_sl ([.int a0])).length) Slot.unset).toArray = ls at hl ⊢
  have hl : lv_has ls 1 [(0, .int a0)] := hl
  unfold f_X10_checkObject at h
  refine lv_iload_n hx hb dX10_checkObject_0 rfl (lv_at hl 0 rfl) ?_
  obtain ⟨J10, eJ10, h⟩ := jn_e h
  have hJ10 : ∀  (H : Heap) (locs : List Loc) (ls : Array Slot), tZ D N dA A s M H locs → lv_has ls 1 [] → J10 () = some y → W p l e (headSpec wmX10_checkObject ({ frames := 6, cells := 1, slots := 6, locals := 90 } : Room)).room s m args below meth c H locs 0 0 (vx_MQ below (tQv N D dA A s.heap.size y M) (tX N D dA A s.heap.size y M) args s 1 6 (cReg N A s.heap.size)) (F0 m 10 ls []) := by
    intro  H locs ls Z hl h
    rw [eJ10] at h
    try dsimp only at h
    have hy := Option.some.inj h
    subst hy
    exact t_throwW (k := 1) (cls := cIO) (text := "no such object") (by decide) rfl S hst hT Z (by decide) (by decide) ⟨List.mem_of_getElem? (i := 0) rfl, List.mem_of_getElem? (i := 1) rfl⟩ t_wI (hl.1.trans S.2.2.1.symm) dX10_checkObject_10 dX10_checkObject_13 dX10_checkObject_14 dX10_checkObject_17 dX10_checkObject_20 hout (Nat.le_of_ble_eq_true rfl) (Nat.le_of_ble_eq_true rfl) (Nat.le_of_ble_eq_true rfl) (Nat.le_of_ble_eq_true rfl) hlocks (Nat.le_of_ble_eq_true rfl) (Nat.le_of_ble_eq_true rfl)
  refine lv_if_lt (tgt := 10) hx hb dX10_checkObject_1 (by decide) (fun c1 => ?_) (fun c1 => ?_)
  · have h := if_t c1 h
    exact hJ10  _ _ _ Z (lv_sub hl [] rfl) h
  · have h := if_f c1 h
    refine lv_iload_n hx hb dX10_checkObject_4 rfl (lv_at hl 0 rfl) ?_
    refine lv_bipush (v := (48 : Int32)) hx hb dX10_checkObject_5 (by decide) ?_
    refine lv_icmp_lt (tgt := 21) hx hb dX10_checkObject_7 (by decide) (fun c2 => ?_) (fun c2 => ?_)
    · have h := if_t c2 h
      refine W.widen (k := 1) (n := 6) (Nat.le_of_ble_eq_true rfl) (Nat.le_of_ble_eq_true rfl) ?_
      have hy := Option.some.inj h
      subst hy
      exact t_rv S Z hr hlocks dX10_checkObject_21
    · have h := if_f c2 h
      exact hJ10  _ _ _ Z (lv_sub hl [] rfl) h
-- X10_checkServer (I)V: 8 instructions
theorem dX10_checkServer_0 : decode cX10_checkServer 0 = .ok (.iload_n 1, 1) := by decide +kernel
theorem dX10_checkServer_1 : decode cX10_checkServer 1 = .ok (.ifCond .lt 11, 3) := by decide +kernel
theorem dX10_checkServer_4 : decode cX10_checkServer 4 = .ok (.iload_n 1, 1) := by decide +kernel
theorem dX10_checkServer_5 : decode cX10_checkServer 5 = .ok (.aload_n 0, 1) := by decide +kernel
theorem dX10_checkServer_6 : decode cX10_checkServer 6 = .ok (.getfield 18, 3) := by decide +kernel
theorem dX10_checkServer_9 : decode cX10_checkServer 9 = .ok (.if_icmp .lt 14, 3) := by decide +kernel
theorem dX10_checkServer_12 : decode cX10_checkServer 12 = .ok (.new 88, 3) := by decide +kernel
theorem dX10_checkServer_15 : decode cX10_checkServer 15 = .ok (.dup, 1) := by decide +kernel
theorem dX10_checkServer_16 : decode cX10_checkServer 16 = .ok (.ldc_w 299, 3) := by decide +kernel
theorem dX10_checkServer_19 : decode cX10_checkServer 19 = .ok (.invokespecial 92, 3) := by decide +kernel
theorem dX10_checkServer_22 : decode cX10_checkServer 22 = .ok (.athrow, 1) := by decide +kernel
theorem dX10_checkServer_23 : decode cX10_checkServer 23 = .ok (.return_, 1) := by decide +kernel
abbrev wmX10_checkServer : List Cond := .code yX10_checkServer cX10_checkServer 2 none :: tBig
def f_X10_checkServer (N : Nat) (M : gM) (a1 : Int32) : Option Nat :=
  jn (fun (_ : Unit) => some 1) (fun J12 => (if a1 < 0 then J12 () else lt (M (0, 0, 0) 0) (fun v2 => (if a1 < v2 then some 0 else J12 ()))))
set_option maxHeartbeats 4000000 in
set_option maxRecDepth 100000 in
theorem t_X10_checkServer (l : Launch) (hst : l.stackTraces = false) (N : Nat) (D : va_G) (dA : Nat → ClassId) (A : gI → Nat) (hJ : gJ (cLive N) A) (tx : Nat → Nat) (sz : Nat) {M : gM} {a1 : Int32} {y : Nat} (h : f_X10_checkServer N M a1 = some y) : tMv l yX10_checkServer wmX10_checkServer ({ frames := 6, cells := 1, slots := 6, locals := 90 } : Room) N D dA A tx sz [.ref (A (0, 0, 0)), .int a1] M y 1 6 := by
  refine vx_ofW (cc := cX10_checkServer) (maxL := 2) (ret := none) (by decide) rfl ?_
  intro p e s m args below meth c s₁ B hml hout hv
  obtain ⟨rfl, hsz, hP, hK, hN, hT⟩ := hv
  subst hsz
  generalize hargs : ([.ref (A (0, 0, 0)), .int a1] : List Value).toArray = args at B ⊢
  have S : CallFix p m c cX10_checkServer 2 s args wmX10_checkServer RX10 := ⟨B.exec, B.bytes, hml, findClass_of_methodNamed B.named, atoms_spec (ws := wmX10_checkServer) B.pre⟩
  obtain ⟨hx, hb, -, hown, hts⟩ := id S
  have hr := B.returns
  have hlocks := B.notSynchronized
  have X : gX D vwCl dA (cLive N) A (cReg N A s.heap.size) s := ⟨hK, hJ, fun i hi => Or.inl ⟨i, hi, rfl⟩⟩
  have Z : tZ D N dA A s M s.heap [] := ⟨hP, va_S.rf⟩
  have hin_X10 : ∀ w ∈ wsX100, w ∈ wmX10_checkServer := tin cin_X10 (Or.inr trivial)
  have hl_18 := hts (.fieldLink RX10 18 "ReplicaFiles" "serverCount" "I") (tBc 529 rfl)
  have hl := lv_entry ([.ref (A (0, 0, 0)), .int a1]) (n := 2) (Nat.le_of_ble_eq_true rfl)
  rw [← hargs, lg_entry_eq, hargs]
  generalize (lg_sl ([.ref (A (0, 0, 0)), .int a1]) ++ List.replicate (2 - (lg_sl ([.ref (A (0, 0, 0)), .int a1])).length) Slot.unset).toArray = ls at hl ⊢
  have hl : lv_has ls 2 [(0, .ref (A (0, 0, 0))), (1, .int a1)] := hl
  unfold f_X10_checkServer at h
  refine lv_iload_n hx hb dX10_checkServer_0 rfl (lv_at hl 1 rfl) ?_
  obtain ⟨J12, eJ12, h⟩ := jn_e h
  have hJ12 : ∀  (H : Heap) (locs : List Loc) (ls : Array Slot), tZ D N dA A s M H locs → lv_has ls 2 [] → J12 () = some y → W p l e (headSpec wmX10_checkServer ({ frames := 6, cells := 1, slots := 6, locals := 90 } : Room)).room s m args below meth c H locs 0 0 (vx_MQ below (tQv N D dA A s.heap.size y M) (tX N D dA A s.heap.size y M) args s 1 6 (cReg N A s.heap.size)) (F0 m 12 ls []) := by
    intro  H locs ls Z hl h
    rw [eJ12] at h
    try dsimp only at h
    have hy := Option.some.inj h
    subst hy
    exact t_throwW (k := 1) (cls := cIO) (text := "no such server") (by decide) rfl S hst hT Z (by decide) (by decide) ⟨List.mem_of_getElem? (i := 0) rfl, List.mem_of_getElem? (i := 1) rfl⟩ t_wI (hl.1.trans S.2.2.1.symm) dX10_checkServer_12 dX10_checkServer_15 dX10_checkServer_16 dX10_checkServer_19 dX10_checkServer_22 hout (Nat.le_of_ble_eq_true rfl) (Nat.le_of_ble_eq_true rfl) (Nat.le_of_ble_eq_true rfl) (Nat.le_of_ble_eq_true rfl) hlocks (Nat.le_of_ble_eq_true rfl) (Nat.le_of_ble_eq_true rfl)
  refine lv_if_lt (tgt := 12) hx hb dX10_checkServer_1 (by decide) (fun c1 => ?_) (fun c1 => ?_)
  · have h := if_t c1 h
    exact hJ12  _ _ _ Z (lv_sub hl [] rfl) h
  · have h := if_f c1 h
    refine lv_iload_n hx hb dX10_checkServer_4 rfl (lv_at hl 1 rfl) ?_
    refine lv_aload_n hx hb dX10_checkServer_5 rfl (lv_at hl 0 rfl) ?_
    refine cr_X10_serverCount S X Z hin_X10 (cl_one N 0 (by decide)) hl_18 dX10_checkServer_6 h (fun v2 h => ?_)
    refine lv_icmp_lt (tgt := 23) hx hb dX10_checkServer_9 (by decide) (fun c3 => ?_) (fun c3 => ?_)
    · have h := if_t c3 h
      refine W.widen (k := 1) (n := 6) (Nat.le_of_ble_eq_true rfl) (Nat.le_of_ble_eq_true rfl) ?_
      have hy := Option.some.inj h
      subst hy
      exact t_rv S Z hr hlocks dX10_checkServer_23
    · have h := if_f c3 h
      exact hJ12  _ _ _ Z (lv_sub hl [] rfl) h
-- X10_checkWhat (II)V: 7 instructions
theorem dX10_checkWhat_0 : decode cX10_checkWhat 0 = .ok (.iload_n 0, 1) := by decide +kernel
theorem dX10_checkWhat_1 : decode cX10_checkWhat 1 = .ok (.ifCond .lt 8, 3) := by decide +kernel
theorem dX10_checkWhat_4 : decode cX10_checkWhat 4 = .ok (.iload_n 0, 1) := by decide +kernel
theorem dX10_checkWhat_5 : decode cX10_checkWhat 5 = .ok (.iload_n 1, 1) := by decide +kernel
theorem dX10_checkWhat_6 : decode cX10_checkWhat 6 = .ok (.if_icmp .le 14, 3) := by decide +kernel
theorem dX10_checkWhat_9 : decode cX10_checkWhat 9 = .ok (.new 88, 3) := by decide +kernel
theorem dX10_checkWhat_12 : decode cX10_checkWhat 12 = .ok (.dup, 1) := by decide +kernel
theorem dX10_checkWhat_13 : decode cX10_checkWhat 13 = .ok (.ldc_w 305, 3) := by decide +kernel
theorem dX10_checkWhat_16 : decode cX10_checkWhat 16 = .ok (.invokespecial 92, 3) := by decide +kernel
theorem dX10_checkWhat_19 : decode cX10_checkWhat 19 = .ok (.athrow, 1) := by decide +kernel
theorem dX10_checkWhat_20 : decode cX10_checkWhat 20 = .ok (.return_, 1) := by decide +kernel
abbrev wmX10_checkWhat : List Cond := .code yX10_checkWhat cX10_checkWhat 2 none :: tBig
def f_X10_checkWhat (N : Nat) (M : gM) (a0 : Int32) (a1 : Int32) : Option Nat :=
  jn (fun (_ : Unit) => some 1) (fun J9 => (if a0 < 0 then J9 () else (if a0 ≤ a1 then some 0 else J9 ())))
set_option maxHeartbeats 4000000 in
set_option maxRecDepth 100000 in
theorem t_X10_checkWhat (l : Launch) (hst : l.stackTraces = false) (N : Nat) (D : va_G) (dA : Nat → ClassId) (A : gI → Nat) (hJ : gJ (cLive N) A) (tx : Nat → Nat) (sz : Nat) {M : gM} {a0 : Int32} {a1 : Int32} {y : Nat} (h : f_X10_checkWhat N M a0 a1 = some y) : tMv l yX10_checkWhat wmX10_checkWhat ({ frames := 6, cells := 1, slots := 6, locals := 90 } : Room) N D dA A tx sz [.int a0, .int a1] M y 1 6 := by
  refine vx_ofW (cc := cX10_checkWhat) (maxL := 2) (ret := none) (by decide) rfl ?_
  intro p e s m args below meth c s₁ B hml hout hv
  obtain ⟨rfl, hsz, hP, hK, hN, hT⟩ := hv
  subst hsz
  generalize hargs : ([.int a0, .int a1] : List Value).toArray = args at B ⊢
  have S : CallFix p m c cX10_checkWhat 2 s args wmX10_checkWhat RX10 := ⟨B.exec, B.bytes, hml, findClass_of_methodNamed B.named, atoms_spec (ws := wmX10_checkWhat) B.pre⟩
  obtain ⟨hx, hb, -, hown, hts⟩ := id S
  have hr := B.returns
  have hlocks := B.notSynchronized
  have X : gX D vwCl dA (cLive N) A (cReg N A s.heap.size) s := ⟨hK, hJ, fun i hi => Or.inl ⟨i, hi, rfl⟩⟩
  have Z : tZ D N dA A s M s.heap [] := ⟨hP, va_S.rf⟩
  have hl := lv_entry ([.int a0, .int a1]) (n := 2) (Nat.le_of_ble_eq_true rfl)
  rw [← hargs, lg_entry_eq, hargs]
  generalize (lg_sl ([.int a0, .int a1]) ++ List.replicate (2 - (lg_sl ([.int a0, .int a1])).length) Slot.unset).toArray = ls at hl ⊢
  have hl : lv_has ls 2 [(0, .int a0), (1, .int a1)] := hl
  unfold f_X10_checkWhat at h
  refine lv_iload_n hx hb dX10_checkWhat_0 rfl (lv_at hl 0 rfl) ?_
  obtain ⟨J9, eJ9, h⟩ := jn_e h
  have hJ9 : ∀  (H : Heap) (locs : List Loc) (ls : Array Slot), tZ D N dA A s M H locs → lv_has ls 2 [] → J9 () = some y → W p l e (headSpec wmX10_checkWhat ({ frames := 6, cells := 1, slots := 6, locals := 90 } : Room)).room s m args below meth c H locs 0 0 (vx_MQ below (tQv N D dA A s.heap.size y M) (tX N D dA A s.heap.size y M) args s 1 6 (cReg N A s.heap.size)) (F0 m 9 ls []) := by
    intro  H locs ls Z hl h
    rw [eJ9] at h
    try dsimp only at h
    have hy := Option.some.inj h
    subst hy
    exact t_throwW (k := 1) (cls := cIO) (text := "another what") (by decide) rfl S hst hT Z (by decide) (by decide) ⟨List.mem_of_getElem? (i := 0) rfl, List.mem_of_getElem? (i := 1) rfl⟩ t_wI (hl.1.trans S.2.2.1.symm) dX10_checkWhat_9 dX10_checkWhat_12 dX10_checkWhat_13 dX10_checkWhat_16 dX10_checkWhat_19 hout (Nat.le_of_ble_eq_true rfl) (Nat.le_of_ble_eq_true rfl) (Nat.le_of_ble_eq_true rfl) (Nat.le_of_ble_eq_true rfl) hlocks (Nat.le_of_ble_eq_true rfl) (Nat.le_of_ble_eq_true rfl)
  refine lv_if_lt (tgt := 9) hx hb dX10_checkWhat_1 (by decide) (fun c1 => ?_) (fun c1 => ?_)
  · have h := if_t c1 h
    exact hJ9  _ _ _ Z (lv_sub hl [] rfl) h
  · have h := if_f c1 h
    refine lv_iload_n hx hb dX10_checkWhat_4 rfl (lv_at hl 0 rfl) ?_
    refine lv_iload_n hx hb dX10_checkWhat_5 rfl (lv_at hl 1 rfl) ?_
    refine lv_icmp_le (tgt := 20) hx hb dX10_checkWhat_6 (by decide) (fun c2 => ?_) (fun c2 => ?_)
    · have h := if_t c2 h
      refine W.widen (k := 1) (n := 6) (Nat.le_of_ble_eq_true rfl) (Nat.le_of_ble_eq_true rfl) ?_
      have hy := Option.some.inj h
      subst hy
      exact t_rv S Z hr hlocks dX10_checkWhat_20
    · have h := if_f c2 h
      exact hJ9  _ _ _ Z (lv_sub hl [] rfl) h
-- X10_link (IIZ)Z: 43 instructions
theorem dX10_link_0 : decode cX10_link 0 = .ok (.aload_n 0, 1) := by decide +kernel
theorem dX10_link_1 : decode cX10_link 1 = .ok (.iload_n 1, 1) := by decide +kernel
theorem dX10_link_2 : decode cX10_link 2 = .ok (.invokevirtual 85, 3) := by decide +kernel
theorem dX10_link_5 : decode cX10_link 5 = .ok (.iload_n 2, 1) := by decide +kernel
theorem dX10_link_6 : decode cX10_link 6 = .ok (.iconst 4, 1) := by decide +kernel
theorem dX10_link_7 : decode cX10_link 7 = .ok (.if_icmp .lt 13, 3) := by decide +kernel
theorem dX10_link_10 : decode cX10_link 10 = .ok (.iload_n 2, 1) := by decide +kernel
theorem dX10_link_11 : decode cX10_link 11 = .ok (.bipush 8, 2) := by decide +kernel
theorem dX10_link_13 : decode cX10_link 13 = .ok (.if_icmp .ge 7, 3) := by decide +kernel
theorem dX10_link_16 : decode cX10_link 16 = .ok (.iconst 1, 1) := by decide +kernel
theorem dX10_link_17 : decode cX10_link 17 = .ok (.goto 4, 3) := by decide +kernel
theorem dX10_link_20 : decode cX10_link 20 = .ok (.iconst 0, 1) := by decide +kernel
theorem dX10_link_21 : decode cX10_link 21 = .ok (.istore 4, 2) := by decide +kernel
theorem dX10_link_23 : decode cX10_link 23 = .ok (.iload 4, 2) := by decide +kernel
theorem dX10_link_25 : decode cX10_link 25 = .ok (.ifCond .ne 8, 3) := by decide +kernel
theorem dX10_link_28 : decode cX10_link 28 = .ok (.aload_n 0, 1) := by decide +kernel
theorem dX10_link_29 : decode cX10_link 29 = .ok (.iload_n 2, 1) := by decide +kernel
theorem dX10_link_30 : decode cX10_link 30 = .ok (.invokevirtual 85, 3) := by decide +kernel
theorem dX10_link_33 : decode cX10_link 33 = .ok (.iload_n 2, 1) := by decide +kernel
theorem dX10_link_34 : decode cX10_link 34 = .ok (.iload_n 1, 1) := by decide +kernel
theorem dX10_link_35 : decode cX10_link 35 = .ok (.if_icmp .ne 13, 3) := by decide +kernel
theorem dX10_link_38 : decode cX10_link 38 = .ok (.new 88, 3) := by decide +kernel
theorem dX10_link_41 : decode cX10_link 41 = .ok (.dup, 1) := by decide +kernel
theorem dX10_link_42 : decode cX10_link 42 = .ok (.ldc 90, 2) := by decide +kernel
theorem dX10_link_44 : decode cX10_link 44 = .ok (.invokespecial 92, 3) := by decide +kernel
theorem dX10_link_47 : decode cX10_link 47 = .ok (.athrow, 1) := by decide +kernel
theorem dX10_link_48 : decode cX10_link 48 = .ok (.aload_n 0, 1) := by decide +kernel
theorem dX10_link_49 : decode cX10_link 49 = .ok (.getfield 34, 3) := by decide +kernel
theorem dX10_link_52 : decode cX10_link 52 = .ok (.iload_n 1, 1) := by decide +kernel
theorem dX10_link_53 : decode cX10_link 53 = .ok (.iload_n 2, 1) := by decide +kernel
theorem dX10_link_54 : decode cX10_link 54 = .ok (.iload_n 3, 1) := by decide +kernel
theorem dX10_link_55 : decode cX10_link 55 = .ok (.invokevirtual 95, 3) := by decide +kernel
theorem dX10_link_58 : decode cX10_link 58 = .ok (.istore 5, 2) := by decide +kernel
theorem dX10_link_60 : decode cX10_link 60 = .ok (.iload 4, 2) := by decide +kernel
theorem dX10_link_62 : decode cX10_link 62 = .ok (.ifCond .eq 19, 3) := by decide +kernel
theorem dX10_link_65 : decode cX10_link 65 = .ok (.iload_n 3, 1) := by decide +kernel
theorem dX10_link_66 : decode cX10_link 66 = .ok (.ifCond .ne 15, 3) := by decide +kernel
theorem dX10_link_69 : decode cX10_link 69 = .ok (.aload_n 0, 1) := by decide +kernel
theorem dX10_link_70 : decode cX10_link 70 = .ok (.getfield 53, 3) := by decide +kernel
theorem dX10_link_73 : decode cX10_link 73 = .ok (.iload_n 2, 1) := by decide +kernel
theorem dX10_link_74 : decode cX10_link 74 = .ok (.iconst 4, 1) := by decide +kernel
theorem dX10_link_75 : decode cX10_link 75 = .ok (.isub, 1) := by decide +kernel
theorem dX10_link_76 : decode cX10_link 76 = .ok (.aaload, 1) := by decide +kernel
theorem dX10_link_77 : decode cX10_link 77 = .ok (.iload_n 1, 1) := by decide +kernel
theorem dX10_link_78 : decode cX10_link 78 = .ok (.invokevirtual 99, 3) := by decide +kernel
theorem dX10_link_81 : decode cX10_link 81 = .ok (.iload 5, 2) := by decide +kernel
theorem dX10_link_83 : decode cX10_link 83 = .ok (.ireturn, 1) := by decide +kernel
abbrev wmX10_link : List Cond := .code yX10_link cX10_link 6 (some .boolean) :: tBig
def f_X10_link (N : Nat) (M : gM) (a1 : Int32) (a2 : Int32) (a3 : Int32) : Option (Nat × Int32 × gM) :=
  o1 (f_X10_checkServer N M a1) (fun k1 => (if k1 = 0 then jn (fun (q : (Int32 × gM)) => match q with | (b4, M5) => jn (fun (M6 : gM) => (if a2 = a1 then some (1, (0 : Int32), M6) else ob (f_X5_turnLink N M6 a1 a2 a3) (fun v10 M9 => (if b4 = 0 then gz v10 (some (0, v10, M9)) else (if a3 = 0 then ix (a2 - (4 : Int32)) 4 (fun v15 => o1 (f_X1_forgetPromisesOf N M9 v15 a1) (fun M17 => gz v10 (some (0, v10, M17)))) else gz v10 (some (0, v10, M9))))))) (fun J33 => (if b4 = 0 then o1 (f_X10_checkServer N M5 a2) (fun k20 => (if k20 = 0 then J33 M5 else some (k20, (0 : Int32), M5))) else J33 M5))) (fun J21 => jn (fun (M23 : gM) => J21 ((0 : Int32), M23)) (fun J20 => (if a2 < (4 : Int32) then J20 M else (if (8 : Int32) ≤ a2 then J20 M else J21 ((1 : Int32), M))))) else some (k1, (0 : Int32), M)))
set_option maxHeartbeats 4000000 in
set_option maxRecDepth 100000 in
theorem t_X10_link (l : Launch) (hst : l.stackTraces = false) (N : Nat) (D : va_G) (dA : Nat → ClassId) (A : gI → Nat) (hJ : gJ (cLive N) A) (tx : Nat → Nat) (sz : Nat) {M : gM} {a1 : Int32} {a2 : Int32} {a3 : Int32} {y : (Nat × Int32 × gM)} (h : f_X10_link N M a1 a2 a3 = some y) : tMi l yX10_link wmX10_link ({ frames := 7, cells := 3, slots := 18, locals := 111 } : Room) N D dA A tx sz [.ref (A (0, 0, 0)), .int a1, .int a2, .int a3] M y 3 18 := by
  refine vx_ofW (cc := cX10_link) (maxL := 6) (ret := (some .boolean)) (by decide) rfl ?_
  intro p e s m args below meth c s₁ B hml hout hv
  obtain ⟨rfl, hsz, hP, hK, hN, hT⟩ := hv
  subst hsz
  generalize hargs : ([.ref (A (0, 0, 0)), .int a1, .int a2, .int a3] : List Value).toArray = args at B ⊢
  have S : CallFix p m c cX10_link 6 s args wmX10_link RX10 := ⟨B.exec, B.bytes, hml, findClass_of_methodNamed B.named, atoms_spec (ws := wmX10_link) B.pre⟩
  obtain ⟨hx, hb, -, hown, hts⟩ := id S
  have hr := B.returns
  have hlocks := B.notSynchronized
  have X : gX D vwCl dA (cLive N) A (cReg N A s.heap.size) s := ⟨hK, hJ, fun i hi => Or.inl ⟨i, hi, rfl⟩⟩
  have Z : tZ D N dA A s M s.heap [] := ⟨hP, va_S.rf⟩
  have hin_X10 : ∀ w ∈ wsX100, w ∈ wmX10_link := tin cin_X10 (Or.inr trivial)
  have hl_34 := hts (.fieldLink RX10 34 "ReplicaFiles" "net" "LReplicaFiles$Net;") (tBc 535 rfl)
  have hl_53 := hts (.fieldLink RX10 53 "ReplicaFiles" "clients" "[LReplicaFiles$Client;") (tBc 541 rfl)
  have hl := lv_entry ([.ref (A (0, 0, 0)), .int a1, .int a2, .int a3]) (n := 6) (Nat.le_of_ble_eq_true rfl)
  rw [← hargs, lg_entry_eq, hargs]
  generalize (lg_sl ([.ref (A (0, 0, 0)), .int a1, .int a2, .int a3]) ++ List.replicate (6 - (lg_sl ([.ref (A (0, 0, 0)), .int a1, .int a2, .int a3])).length) Slot.unset).toArray = ls at hl ⊢
  have hl : lv_has ls 6 [(0, .ref (A (0, 0, 0))), (1, .int a1), (2, .int a2), (3, .int a3)] := hl
  unfold f_X10_link at h
  refine lv_aload_n hx hb dX10_link_0 rfl (lv_at hl 0 rfl) ?_
  refine lv_iload_n hx hb dX10_link_1 rfl (lv_at hl 1 rfl) ?_
  obtain ⟨k1, hc2, h⟩ := o1_e h
  refine t_chk X Z (vx_runV (As := [.int a1]) (rest := []) (b := A (0, 0, 0)) S (t_X10_checkServer l hst N D dA A hJ tx _ hc2) (cwV 1 hts (tTV (tB 570 rfl) (tB 571 rfl) (tB 572 rfl) (tB 107 rfl) (tB 567 rfl)) rfl rfl rfl (by decide +kernel) ⟨Nat.le_of_ble_eq_true rfl, Nat.le_of_ble_eq_true rfl⟩) ⟨tPc.blind, g_recv X Z (cl_one N 0 (by decide)) rfl rfl, t_pre X hN hT Z _⟩ rfl rfl hl.1 rfl (lv_room (m := m) (pc := 2) (ls := ls) (rest := [.int a1, .ref (A (0, 0, 0))]) (Nat.le_of_ble_eq_true rfl)) dX10_link_2 ⟨Nat.le_of_ble_eq_true rfl, Nat.le_of_ble_eq_true rfl⟩) (fun hk3 ce q9 H locs Z hce hcv hcl => ?_) (fun hk3 H locs Z => ?_)
  · have h := if_f hk3 h
    have hy := Option.some.inj h
    subst hy
    exact t_out hk3 hout hlocks Z hce hcv hcl (Nat.le_of_ble_eq_true rfl) (Nat.le_of_ble_eq_true rfl)
  have h := if_t hk3 h
  refine lv_iload_n hx hb dX10_link_5 rfl (lv_at hl 2 rfl) ?_
  refine lv_iconst (v := (4 : Int32)) hx hb dX10_link_6 (by decide) ?_
  obtain ⟨J21, eJ21, h⟩ := jn_e h
  have hJ21 : ∀ (b4 : Int32) (M5 : gM) (H : Heap) (locs : List Loc) (ls : Array Slot), tZ D N dA A s M5 H locs → lv_has ls 6 [(0, .ref (A (0, 0, 0))), (1, .int a1), (2, .int a2), (3, .int a3)] → J21 (b4, M5) = some y → W p l e (headSpec wmX10_link ({ frames := 7, cells := 3, slots := 18, locals := 111 } : Room)).room s m args below meth c H locs 1 6 (vx_MQ below (tQi N D dA A s.heap.size y) (tX N D dA A s.heap.size y.1 y.2.2) args s 3 18 (cReg N A s.heap.size)) (F0 m 21 ls [.int b4]) := by
    intro b4 M5 H locs ls Z hl h
    rw [eJ21] at h
    try dsimp only at h
    refine lv_istore (lv' := [(4, .int b4), (0, .ref (A (0, 0, 0))), (1, .int a1), (2, .int a2), (3, .int a3)]) hx hb dX10_link_21 hl (by decide) rfl (fun ls hl => ?_)
    refine lv_iload hx hb dX10_link_23 (lv_at hl 0 rfl) ?_
    obtain ⟨J33, eJ33, h⟩ := jn_e h
    have hJ33 : ∀ (M6 : gM) (H : Heap) (locs : List Loc) (ls : Array Slot), tZ D N dA A s M6 H locs → lv_has ls 6 [(0, .ref (A (0, 0, 0))), (1, .int a1), (2, .int a2), (3, .int a3), (4, .int b4)] → J33 M6 = some y → W p l e (headSpec wmX10_link ({ frames := 7, cells := 3, slots := 18, locals := 111 } : Room)).room s m args below meth c H locs 2 12 (vx_MQ below (tQi N D dA A s.heap.size y) (tX N D dA A s.heap.size y.1 y.2.2) args s 3 18 (cReg N A s.heap.size)) (F0 m 33 ls []) := by
      intro M6 H locs ls Z hl h
      rw [eJ33] at h
      try dsimp only at h
      refine W.widen (k := 2) (n := 12) (Nat.le_of_ble_eq_true rfl) (Nat.le_of_ble_eq_true rfl) ?_
      refine lv_iload_n hx hb dX10_link_33 rfl (lv_at hl 2 rfl) ?_
      refine lv_iload_n hx hb dX10_link_34 rfl (lv_at hl 1 rfl) ?_
      refine lv_icmp_ne (tgt := 48) hx hb dX10_link_35 (by decide) (fun c7 => ?_) (fun c7 => ?_)
      · have h := if_f c7 h
        refine W.widen (k := 3) (n := 18) (Nat.le_of_ble_eq_true rfl) (Nat.le_of_ble_eq_true rfl) ?_
        refine lv_aload_n hx hb dX10_link_48 rfl (lv_at hl 0 rfl) ?_
        refine cr_X10_net S X Z hin_X10 (cl_one N 0 (by decide)) hl_34 dX10_link_49 ?_
        refine lv_iload_n hx hb dX10_link_52 rfl (lv_at hl 1 rfl) ?_
        refine lv_iload_n hx hb dX10_link_53 rfl (lv_at hl 2 rfl) ?_
        refine lv_iload_n hx hb dX10_link_54 rfl (lv_at hl 3 rfl) ?_
        obtain ⟨v10, M9, hc8, h⟩ := ob_e h
        refine c_i X Z (c_V (i := (5, 0, 0)) (As := [.int a1, .int a2, .int a3]) (rest := []) S X hN Z (cl_one N 5 (by decide)) rfl rfl (t_X5_turnLink l N D dA A hJ  hc8) (cwV 3 hts (tGV (cB 573 rfl) (cB 574 rfl) (cB 575 rfl) (cB 485 rfl) (cB 487 rfl)) rfl rfl rfl (by decide +kernel) ⟨Nat.le_of_ble_eq_true rfl, Nat.le_of_ble_eq_true rfl⟩) rfl hl.1 rfl (Nat.le_of_ble_eq_true rfl) dX10_link_55 ⟨Nat.le_of_ble_eq_true rfl, Nat.le_of_ble_eq_true rfl⟩) (fun H locs Z => ?_)
        refine lv_istore (lv' := [(5, .int v10), (0, .ref (A (0, 0, 0))), (1, .int a1), (2, .int a2), (3, .int a3), (4, .int b4)]) hx hb dX10_link_58 hl (by decide) rfl (fun ls hl => ?_)
        refine lv_iload hx hb dX10_link_60 (lv_at hl 5 rfl) ?_
        refine lv_if_eq (tgt := 81) hx hb dX10_link_62 (by decide) (fun c11 => ?_) (fun c11 => ?_)
        · have h := if_t c11 h
          refine lv_iload hx hb dX10_link_81 (lv_at hl 0 rfl) ?_
          obtain ⟨z12, h⟩ := gz_e h
          have hy := Option.some.inj h
          subst hy
          exact t_rz (z12) S Z hr hlocks dX10_link_83
        · have h := if_f c11 h
          refine lv_iload_n hx hb dX10_link_65 rfl (lv_at hl 4 rfl) ?_
          refine lv_if_ne (tgt := 81) hx hb dX10_link_66 (by decide) (fun c13 => ?_) (fun c13 => ?_)
          · have h := if_f c13 h
            refine lv_iload hx hb dX10_link_81 (lv_at hl 0 rfl) ?_
            obtain ⟨z14, h⟩ := gz_e h
            have hy := Option.some.inj h
            subst hy
            exact t_rz (z14) S Z hr hlocks dX10_link_83
          · have h := if_t c13 h
            refine lv_aload_n hx hb dX10_link_69 rfl (lv_at hl 1 rfl) ?_
            refine cr_X10_clients S X Z hin_X10 (cl_one N 0 (by decide)) hl_53 dX10_link_70 ?_
            refine lv_iload_n hx hb dX10_link_73 rfl (lv_at hl 3 rfl) ?_
            refine lv_iconst (v := (4 : Int32)) hx hb dX10_link_74 (by decide) ?_
            refine lv_isub hx hb dX10_link_75 ?_
            refine g_aald (i := (8, 0, 0)) (ca := 3) ⟨rfl, rfl⟩ S X Z (cl_one N 8 (by decide)) rfl dX10_link_76 h (fun v15 hv15 h => ?_)
            refine lv_iload_n hx hb dX10_link_77 rfl (lv_at hl 2 rfl) ?_
            obtain ⟨M17, hc16, h⟩ := o1_e h
            refine c_v X Z (c_V (i := (30, v15, 0)) (As := [.int a1]) (rest := []) S X hN Z (cl_cli hv15) rfl rfl (t_X1_forgetPromisesOf l N D dA A hJ (cl_cli hv15) hc16) (cwV 1 hts (tGV (cB 576 rfl) (cB 577 rfl) (cB 578 rfl) (cB 64 rfl) (cB 66 rfl)) rfl rfl rfl (by decide +kernel) ⟨Nat.le_of_ble_eq_true rfl, Nat.le_of_ble_eq_true rfl⟩) rfl hl.1 rfl (Nat.le_of_ble_eq_true rfl) dX10_link_78 ⟨Nat.le_of_ble_eq_true rfl, Nat.le_of_ble_eq_true rfl⟩) (fun H locs Z => ?_)
            refine lv_iload hx hb dX10_link_81 (lv_at hl 0 rfl) ?_
            obtain ⟨z18, h⟩ := gz_e h
            have hy := Option.some.inj h
            subst hy
            exact t_rz (z18) S Z hr hlocks dX10_link_83
      · have h := if_t c7 h
        have hy := Option.some.inj h
        subst hy
        exact t_throwN (k := 1) (cls := cIO) (text := "a server has no link to itself") (by decide) rfl S hst hT Z (by decide) (by decide) ⟨List.mem_of_getElem? (i := 0) rfl, List.mem_of_getElem? (i := 1) rfl⟩ t_wI (hl.1.trans S.2.2.1.symm) dX10_link_38 dX10_link_41 dX10_link_42 dX10_link_44 dX10_link_47 hout (Nat.le_of_ble_eq_true rfl) (Nat.le_of_ble_eq_true rfl) (Nat.le_of_ble_eq_true rfl) (Nat.le_of_ble_eq_true rfl) hlocks (Nat.le_of_ble_eq_true rfl) (Nat.le_of_ble_eq_true rfl)
    refine lv_if_ne (tgt := 33) hx hb dX10_link_25 (by decide) (fun c19 => ?_) (fun c19 => ?_)
    · have h := if_f c19 h
      refine W.widen (k := 2) (n := 12) (Nat.le_of_ble_eq_true rfl) (Nat.le_of_ble_eq_true rfl) ?_
      exact hJ33 M5 _ _ _ Z (lv_sub hl [1, 2, 3, 4, 0] rfl) h
    · have h := if_t c19 h
      refine lv_aload_n hx hb dX10_link_28 rfl (lv_at hl 1 rfl) ?_
      refine lv_iload_n hx hb dX10_link_29 rfl (lv_at hl 3 rfl) ?_
      obtain ⟨k20, hc21, h⟩ := o1_e h
      refine t_chk X Z (vx_runV (As := [.int a2]) (rest := []) (b := A (0, 0, 0)) S (t_X10_checkServer l hst N D dA A hJ tx _ hc21) (cwV 1 hts (tTV (tB 570 rfl) (tB 571 rfl) (tB 572 rfl) (tB 107 rfl) (tB 567 rfl)) rfl rfl rfl (by decide +kernel) ⟨Nat.le_of_ble_eq_true rfl, Nat.le_of_ble_eq_true rfl⟩) ⟨tPc.blind, g_recv X Z (cl_one N 0 (by decide)) rfl rfl, t_pre X hN hT Z _⟩ rfl rfl hl.1 rfl (lv_room (m := m) (pc := 30) (ls := ls) (rest := [.int a2, .ref (A (0, 0, 0))]) (Nat.le_of_ble_eq_true rfl)) dX10_link_30 ⟨Nat.le_of_ble_eq_true rfl, Nat.le_of_ble_eq_true rfl⟩) (fun hk22 ce q9 H locs Z hce hcv hcl => ?_) (fun hk22 H locs Z => ?_)
      · have h := if_f hk22 h
        have hy := Option.some.inj h
        subst hy
        exact t_out hk22 hout hlocks Z hce hcv hcl (Nat.le_of_ble_eq_true rfl) (Nat.le_of_ble_eq_true rfl)
      have h := if_t hk22 h
      exact hJ33 M5 _ _ _ Z (lv_sub hl [1, 2, 3, 4, 0] rfl) h
  obtain ⟨J20, eJ20, h⟩ := jn_e h
  have hJ20 : ∀ (M23 : gM) (H : Heap) (locs : List Loc) (ls : Array Slot), tZ D N dA A s M23 H locs → lv_has ls 6 [(0, .ref (A (0, 0, 0))), (1, .int a1), (2, .int a2), (3, .int a3)] → J20 M23 = some y → W p l e (headSpec wmX10_link ({ frames := 7, cells := 3, slots := 18, locals := 111 } : Room)).room s m args below meth c H locs 1 6 (vx_MQ below (tQi N D dA A s.heap.size y) (tX N D dA A s.heap.size y.1 y.2.2) args s 3 18 (cReg N A s.heap.size)) (F0 m 20 ls []) := by
    intro M23 H locs ls Z hl h
    rw [eJ20] at h
    try dsimp only at h
    refine lv_iconst (v := (0 : Int32)) hx hb dX10_link_20 (by decide) ?_
    exact hJ21 (0 : Int32) M23 _ _ _ Z (lv_sub hl [0, 1, 2, 3] rfl) h
  refine lv_icmp_lt (tgt := 20) hx hb dX10_link_7 (by decide) (fun c24 => ?_) (fun c24 => ?_)
  · have h := if_t c24 h
    exact hJ20 M _ _ _ Z (lv_sub hl [0, 1, 2, 3] rfl) h
  · have h := if_f c24 h
    refine lv_iload_n hx hb dX10_link_10 rfl (lv_at hl 2 rfl) ?_
    refine lv_bipush (v := (8 : Int32)) hx hb dX10_link_11 (by decide) ?_
    refine lv_icmp_ge (tgt := 20) hx hb dX10_link_13 (by decide) (fun c25 => ?_) (fun c25 => ?_)
    · have h := if_t c25 h
      exact hJ20 M _ _ _ Z (lv_sub hl [0, 1, 2, 3] rfl) h
    · have h := if_f c25 h
      refine lv_iconst (v := (1 : Int32)) hx hb dX10_link_16 (by decide) ?_
      refine lv_goto (tgt := 21) hx hb dX10_link_17 (by decide) ?_
      exact hJ21 (1 : Int32) M _ _ _ Z (lv_sub hl [0, 1, 2, 3] rfl) h
-- X10_server (IZ)Z: 24 instructions
theorem dX10_server_0 : decode cX10_server 0 = .ok (.aload_n 0, 1) := by decide +kernel
theorem dX10_server_1 : decode cX10_server 1 = .ok (.iload_n 1, 1) := by decide +kernel
theorem dX10_server_2 : decode cX10_server 2 = .ok (.invokevirtual 85, 3) := by decide +kernel
theorem dX10_server_5 : decode cX10_server 5 = .ok (.iload_n 2, 1) := by decide +kernel
theorem dX10_server_6 : decode cX10_server 6 = .ok (.ifCond .ne 26, 3) := by decide +kernel
theorem dX10_server_9 : decode cX10_server 9 = .ok (.iconst 0, 1) := by decide +kernel
theorem dX10_server_10 : decode cX10_server 10 = .ok (.istore_n 3, 1) := by decide +kernel
theorem dX10_server_11 : decode cX10_server 11 = .ok (.iload_n 3, 1) := by decide +kernel
theorem dX10_server_12 : decode cX10_server 12 = .ok (.iconst 4, 1) := by decide +kernel
theorem dX10_server_13 : decode cX10_server 13 = .ok (.if_icmp .ge 19, 3) := by decide +kernel
theorem dX10_server_16 : decode cX10_server 16 = .ok (.aload_n 0, 1) := by decide +kernel
theorem dX10_server_17 : decode cX10_server 17 = .ok (.getfield 53, 3) := by decide +kernel
theorem dX10_server_20 : decode cX10_server 20 = .ok (.iload_n 3, 1) := by decide +kernel
theorem dX10_server_21 : decode cX10_server 21 = .ok (.aaload, 1) := by decide +kernel
theorem dX10_server_22 : decode cX10_server 22 = .ok (.iload_n 1, 1) := by decide +kernel
theorem dX10_server_23 : decode cX10_server 23 = .ok (.invokevirtual 99, 3) := by decide +kernel
theorem dX10_server_26 : decode cX10_server 26 = .ok (.iinc 3 1, 3) := by decide +kernel
theorem dX10_server_29 : decode cX10_server 29 = .ok (.goto (-18), 3) := by decide +kernel
theorem dX10_server_32 : decode cX10_server 32 = .ok (.aload_n 0, 1) := by decide +kernel
theorem dX10_server_33 : decode cX10_server 33 = .ok (.getfield 34, 3) := by decide +kernel
theorem dX10_server_36 : decode cX10_server 36 = .ok (.iload_n 1, 1) := by decide +kernel
theorem dX10_server_37 : decode cX10_server 37 = .ok (.iload_n 2, 1) := by decide +kernel
theorem dX10_server_38 : decode cX10_server 38 = .ok (.invokevirtual 102, 3) := by decide +kernel
theorem dX10_server_41 : decode cX10_server 41 = .ok (.ireturn, 1) := by decide +kernel
abbrev wmX10_server : List Cond := .code yX10_server cX10_server 4 (some .boolean) :: tBig
def f_X10_server_L11 (N : Nat) (a1 : Int32) (a2 : Int32) (J32 : gM → Option (Nat × Int32 × gM)) : Nat → Int32 → gM → Option (Nat × Int32 × gM)
  | 0, _, _ => none
  | n12 + 1, x10, M11 => (if (4 : Int32) ≤ x10 then J32 M11 else ix x10 4 (fun v14 => o1 (f_X1_forgetPromisesOf N M11 v14 a1) (fun M16 => lt (x10 + 1) (fun x17 => f_X10_server_L11 N a1 a2 J32 n12 x17 M16))))
def f_X10_server (N : Nat) (M : gM) (a1 : Int32) (a2 : Int32) : Option (Nat × Int32 × gM) :=
  o1 (f_X10_checkServer N M a1) (fun k1 => (if k1 = 0 then jn (fun (M4 : gM) => ob (f_X5_turnServer N M4 a1 a2) (fun v7 M6 => gz v7 (some (0, v7, M6)))) (fun J32 => (if a2 = 0 then f_X10_server_L11 N a1 a2 J32 100 (0 : Int32) M else J32 M)) else some (k1, (0 : Int32), M)))
set_option maxHeartbeats 4000000 in
set_option maxRecDepth 100000 in
theorem t_X10_server (l : Launch) (hst : l.stackTraces = false) (N : Nat) (D : va_G) (dA : Nat → ClassId) (A : gI → Nat) (hJ : gJ (cLive N) A) (tx : Nat → Nat) (sz : Nat) {M : gM} {a1 : Int32} {a2 : Int32} {y : (Nat × Int32 × gM)} (h : f_X10_server N M a1 a2 = some y) : tMi l yX10_server wmX10_server ({ frames := 7, cells := 1, slots := 6, locals := 111 } : Room) N D dA A tx sz [.ref (A (0, 0, 0)), .int a1, .int a2] M y 1 6 := by
  refine vx_ofW (cc := cX10_server) (maxL := 4) (ret := (some .boolean)) (by decide) rfl ?_
  intro p e s m args below meth c s₁ B hml hout hv
  obtain ⟨rfl, hsz, hP, hK, hN, hT⟩ := hv
  subst hsz
  generalize hargs : ([.ref (A (0, 0, 0)), .int a1, .int a2] : List Value).toArray = args at B ⊢
  have S : CallFix p m c cX10_server 4 s args wmX10_server RX10 := ⟨B.exec, B.bytes, hml, findClass_of_methodNamed B.named, atoms_spec (ws := wmX10_server) B.pre⟩
  obtain ⟨hx, hb, -, hown, hts⟩ := id S
  have hr := B.returns
  have hlocks := B.notSynchronized
  have X : gX D vwCl dA (cLive N) A (cReg N A s.heap.size) s := ⟨hK, hJ, fun i hi => Or.inl ⟨i, hi, rfl⟩⟩
  have Z : tZ D N dA A s M s.heap [] := ⟨hP, va_S.rf⟩
  have hin_X10 : ∀ w ∈ wsX100, w ∈ wmX10_server := tin cin_X10 (Or.inr trivial)
  have hl_34 := hts (.fieldLink RX10 34 "ReplicaFiles" "net" "LReplicaFiles$Net;") (tBc 535 rfl)
  have hl_53 := hts (.fieldLink RX10 53 "ReplicaFiles" "clients" "[LReplicaFiles$Client;") (tBc 541 rfl)
  have hl := lv_entry ([.ref (A (0, 0, 0)), .int a1, .int a2]) (n := 4) (Nat.le_of_ble_eq_true rfl)
  rw [← hargs, lg_entry_eq, hargs]
  generalize (lg_sl ([.ref (A (0, 0, 0)), .int a1, .int a2]) ++ List.replicate (4 - (lg_sl ([.ref (A (0, 0, 0)), .int a1, .int a2])).length) Slot.unset).toArray = ls at hl ⊢
  have hl : lv_has ls 4 [(0, .ref (A (0, 0, 0))), (1, .int a1), (2, .int a2)] := hl
  unfold f_X10_server at h
  refine lv_aload_n hx hb dX10_server_0 rfl (lv_at hl 0 rfl) ?_
  refine lv_iload_n hx hb dX10_server_1 rfl (lv_at hl 1 rfl) ?_
  obtain ⟨k1, hc2, h⟩ := o1_e h
  refine t_chk X Z (vx_runV (As := [.int a1]) (rest := []) (b := A (0, 0, 0)) S (t_X10_checkServer l hst N D dA A hJ tx _ hc2) (cwV 1 hts (tTV (tB 570 rfl) (tB 571 rfl) (tB 572 rfl) (tB 107 rfl) (tB 567 rfl)) rfl rfl rfl (by decide +kernel) ⟨Nat.le_of_ble_eq_true rfl, Nat.le_of_ble_eq_true rfl⟩) ⟨tPc.blind, g_recv X Z (cl_one N 0 (by decide)) rfl rfl, t_pre X hN hT Z _⟩ rfl rfl hl.1 rfl (lv_room (m := m) (pc := 2) (ls := ls) (rest := [.int a1, .ref (A (0, 0, 0))]) (Nat.le_of_ble_eq_true rfl)) dX10_server_2 ⟨Nat.le_of_ble_eq_true rfl, Nat.le_of_ble_eq_true rfl⟩) (fun hk3 ce q9 H locs Z hce hcv hcl => ?_) (fun hk3 H locs Z => ?_)
  · have h := if_f hk3 h
    have hy := Option.some.inj h
    subst hy
    exact t_out hk3 hout hlocks Z hce hcv hcl (Nat.le_of_ble_eq_true rfl) (Nat.le_of_ble_eq_true rfl)
  have h := if_t hk3 h
  refine lv_iload_n hx hb dX10_server_5 rfl (lv_at hl 2 rfl) ?_
  obtain ⟨J32, eJ32, h⟩ := jn_e h
  have hJ32 : ∀ (M4 : gM) (H : Heap) (locs : List Loc) (ls : Array Slot), tZ D N dA A s M4 H locs → lv_has ls 4 [(0, .ref (A (0, 0, 0))), (1, .int a1), (2, .int a2)] → J32 M4 = some y → W p l e (headSpec wmX10_server ({ frames := 7, cells := 1, slots := 6, locals := 111 } : Room)).room s m args below meth c H locs 1 6 (vx_MQ below (tQi N D dA A s.heap.size y) (tX N D dA A s.heap.size y.1 y.2.2) args s 1 6 (cReg N A s.heap.size)) (F0 m 32 ls []) := by
    intro M4 H locs ls Z hl h
    rw [eJ32] at h
    try dsimp only at h
    refine lv_aload_n hx hb dX10_server_32 rfl (lv_at hl 0 rfl) ?_
    refine cr_X10_net S X Z hin_X10 (cl_one N 0 (by decide)) hl_34 dX10_server_33 ?_
    refine lv_iload_n hx hb dX10_server_36 rfl (lv_at hl 1 rfl) ?_
    refine lv_iload_n hx hb dX10_server_37 rfl (lv_at hl 2 rfl) ?_
    obtain ⟨v7, M6, hc5, h⟩ := ob_e h
    refine c_i X Z (c_V (i := (5, 0, 0)) (As := [.int a1, .int a2]) (rest := []) S X hN Z (cl_one N 5 (by decide)) rfl rfl (t_X5_turnServer l N D dA A hJ  hc5) (cwV 2 hts (tGV (cB 580 rfl) (cB 581 rfl) (cB 582 rfl) (cB 485 rfl) (cB 481 rfl)) rfl rfl rfl (by decide +kernel) ⟨Nat.le_of_ble_eq_true rfl, Nat.le_of_ble_eq_true rfl⟩) rfl hl.1 rfl (Nat.le_of_ble_eq_true rfl) dX10_server_38 ⟨Nat.le_of_ble_eq_true rfl, Nat.le_of_ble_eq_true rfl⟩) (fun H locs Z => ?_)
    obtain ⟨z8, h⟩ := gz_e h
    have hy := Option.some.inj h
    subst hy
    exact t_rz (z8) S Z hr hlocks dX10_server_41
  refine lv_if_ne (tgt := 32) hx hb dX10_server_6 (by decide) (fun c9 => ?_) (fun c9 => ?_)
  · have h := if_f c9 h
    exact hJ32 M _ _ _ Z (lv_sub hl [0, 1, 2] rfl) h
  · have h := if_t c9 h
    refine lv_iconst (v := (0 : Int32)) hx hb dX10_server_9 (by decide) ?_
    refine lv_istore_n (lv' := [(3, .int (0 : Int32)), (0, .ref (A (0, 0, 0))), (1, .int a1), (2, .int a2)]) hx hb dX10_server_10 rfl hl (by decide) rfl (fun ls hl => ?_)
    have hL11 : ∀ (n : Nat) (x10 : Int32) (M11 : gM) (H : Heap) (locs : List Loc) (ls : Array Slot), tZ D N dA A s M11 H locs → lv_has ls 4 [(0, .ref (A (0, 0, 0))), (1, .int a1), (2, .int a2), (3, .int x10)] → f_X10_server_L11 N a1 a2 J32 n x10 M11 = some y → W p l e (headSpec wmX10_server ({ frames := 7, cells := 1, slots := 6, locals := 111 } : Room)).room s m args below meth c H locs 1 6 (vx_MQ below (tQi N D dA A s.heap.size y) (tX N D dA A s.heap.size y.1 y.2.2) args s 1 6 (cReg N A s.heap.size)) (F0 m 11 ls []) := by
      intro n
      induction n with
      | zero =>
        intro x10 M11 H locs ls Z hl h
        rw [f_X10_server_L11] at h
        cases h
      | succ n12 ih11 =>
        intro x10 M11 H locs ls Z hl h
        rw [f_X10_server_L11] at h
        refine lv_iload_n hx hb dX10_server_11 rfl (lv_at hl 3 rfl) ?_
        refine lv_iconst (v := (4 : Int32)) hx hb dX10_server_12 (by decide) ?_
        refine lv_icmp_ge (tgt := 32) hx hb dX10_server_13 (by decide) (fun c13 => ?_) (fun c13 => ?_)
        · have h := if_t c13 h
          exact hJ32 M11 _ _ _ Z (lv_sub hl [0, 1, 2] rfl) h
        · have h := if_f c13 h
          refine lv_aload_n hx hb dX10_server_16 rfl (lv_at hl 0 rfl) ?_
          refine cr_X10_clients S X Z hin_X10 (cl_one N 0 (by decide)) hl_53 dX10_server_17 ?_
          refine lv_iload_n hx hb dX10_server_20 rfl (lv_at hl 3 rfl) ?_
          refine g_aald (i := (8, 0, 0)) (ca := 3) ⟨rfl, rfl⟩ S X Z (cl_one N 8 (by decide)) rfl dX10_server_21 h (fun v14 hv14 h => ?_)
          refine lv_iload_n hx hb dX10_server_22 rfl (lv_at hl 1 rfl) ?_
          obtain ⟨M16, hc15, h⟩ := o1_e h
          refine c_v X Z (c_V (i := (30, v14, 0)) (As := [.int a1]) (rest := []) S X hN Z (cl_cli hv14) rfl rfl (t_X1_forgetPromisesOf l N D dA A hJ (cl_cli hv14) hc15) (cwV 1 hts (tGV (cB 576 rfl) (cB 577 rfl) (cB 578 rfl) (cB 64 rfl) (cB 66 rfl)) rfl rfl rfl (by decide +kernel) ⟨Nat.le_of_ble_eq_true rfl, Nat.le_of_ble_eq_true rfl⟩) rfl hl.1 rfl (Nat.le_of_ble_eq_true rfl) dX10_server_23 ⟨Nat.le_of_ble_eq_true rfl, Nat.le_of_ble_eq_true rfl⟩) (fun H locs Z => ?_)
          obtain ⟨x17, ex17, h⟩ := lt_e h
          refine lv_iinc (v := x17) (lv' := [(3, .int x17), (0, .ref (A (0, 0, 0))), (1, .int a1), (2, .int a2)]) hx hb dX10_server_26 hl (k := 3) rfl (by rw [ex17]; rfl) (by decide) rfl (fun ls hl => ?_)
          refine lv_goto (tgt := 11) hx hb dX10_server_29 (by decide) ?_
          exact ih11 x17 M16 _ _ _ Z (lv_sub hl [1, 2, 3, 0] rfl) h
    exact hL11 100 (0 : Int32) M _ _ _ Z (lv_sub hl [1, 2, 3, 0] rfl) h
-- X10_lose (I)Z: 21 instructions
theorem dX10_lose_0 : decode cX10_lose 0 = .ok (.aload_n 0, 1) := by decide +kernel
theorem dX10_lose_1 : decode cX10_lose 1 = .ok (.iload_n 1, 1) := by decide +kernel
theorem dX10_lose_2 : decode cX10_lose 2 = .ok (.invokevirtual 85, 3) := by decide +kernel
theorem dX10_lose_5 : decode cX10_lose 5 = .ok (.aload_n 0, 1) := by decide +kernel
theorem dX10_lose_6 : decode cX10_lose 6 = .ok (.getfield 44, 3) := by decide +kernel
theorem dX10_lose_9 : decode cX10_lose 9 = .ok (.iload_n 1, 1) := by decide +kernel
theorem dX10_lose_10 : decode cX10_lose 10 = .ok (.aaload, 1) := by decide +kernel
theorem dX10_lose_11 : decode cX10_lose 11 = .ok (.getfield 106, 3) := by decide +kernel
theorem dX10_lose_14 : decode cX10_lose 14 = .ok (.ifCond .ne 7, 3) := by decide +kernel
theorem dX10_lose_17 : decode cX10_lose 17 = .ok (.iconst 1, 1) := by decide +kernel
theorem dX10_lose_18 : decode cX10_lose 18 = .ok (.goto 4, 3) := by decide +kernel
theorem dX10_lose_21 : decode cX10_lose 21 = .ok (.iconst 0, 1) := by decide +kernel
theorem dX10_lose_22 : decode cX10_lose 22 = .ok (.istore_n 2, 1) := by decide +kernel
theorem dX10_lose_23 : decode cX10_lose 23 = .ok (.aload_n 0, 1) := by decide +kernel
theorem dX10_lose_24 : decode cX10_lose 24 = .ok (.getfield 44, 3) := by decide +kernel
theorem dX10_lose_27 : decode cX10_lose 27 = .ok (.iload_n 1, 1) := by decide +kernel
theorem dX10_lose_28 : decode cX10_lose 28 = .ok (.aaload, 1) := by decide +kernel
theorem dX10_lose_29 : decode cX10_lose 29 = .ok (.iconst 1, 1) := by decide +kernel
theorem dX10_lose_30 : decode cX10_lose 30 = .ok (.putfield 106, 3) := by decide +kernel
theorem dX10_lose_33 : decode cX10_lose 33 = .ok (.iload_n 2, 1) := by decide +kernel
theorem dX10_lose_34 : decode cX10_lose 34 = .ok (.ireturn, 1) := by decide +kernel
abbrev wmX10_lose : List Cond := .code yX10_lose cX10_lose 3 (some .boolean) :: tBig
def f_X10_lose (N : Nat) (M : gM) (a1 : Int32) : Option (Nat × Int32 × gM) :=
  o1 (f_X10_checkServer N M a1) (fun k1 => (if k1 = 0 then ix a1 N (fun v4 => lt (M (20, v4, 0) 3) (fun v5 => jn (fun (q : (Int32 × gM)) => match q with | (b6, M7) => ix a1 N (fun v8 => gz (1 : Int32) (lt (gset M7 (20, v8, 0) 3 (1 : Int32)) (fun M9 => gz b6 (some (0, b6, M9)))))) (fun J22 => (if v5 = 0 then J22 ((1 : Int32), M) else J22 ((0 : Int32), M))))) else some (k1, (0 : Int32), M)))
set_option maxHeartbeats 4000000 in
set_option maxRecDepth 100000 in
theorem t_X10_lose (l : Launch) (hst : l.stackTraces = false) (N : Nat) (D : va_G) (dA : Nat → ClassId) (A : gI → Nat) (hJ : gJ (cLive N) A) (tx : Nat → Nat) (sz : Nat) {M : gM} {a1 : Int32} {y : (Nat × Int32 × gM)} (h : f_X10_lose N M a1 = some y) : tMi l yX10_lose wmX10_lose ({ frames := 7, cells := 1, slots := 6, locals := 111 } : Room) N D dA A tx sz [.ref (A (0, 0, 0)), .int a1] M y 1 6 := by
  refine vx_ofW (cc := cX10_lose) (maxL := 3) (ret := (some .boolean)) (by decide) rfl ?_
  intro p e s m args below meth c s₁ B hml hout hv
  obtain ⟨rfl, hsz, hP, hK, hN, hT⟩ := hv
  subst hsz
  generalize hargs : ([.ref (A (0, 0, 0)), .int a1] : List Value).toArray = args at B ⊢
  have S : CallFix p m c cX10_lose 3 s args wmX10_lose RX10 := ⟨B.exec, B.bytes, hml, findClass_of_methodNamed B.named, atoms_spec (ws := wmX10_lose) B.pre⟩
  obtain ⟨hx, hb, -, hown, hts⟩ := id S
  have hr := B.returns
  have hlocks := B.notSynchronized
  have X : gX D vwCl dA (cLive N) A (cReg N A s.heap.size) s := ⟨hK, hJ, fun i hi => Or.inl ⟨i, hi, rfl⟩⟩
  have Z : tZ D N dA A s M s.heap [] := ⟨hP, va_S.rf⟩
  have hin_X10 : ∀ w ∈ wsX100, w ∈ wmX10_lose := tin cin_X10 (Or.inr trivial)
  have hin_X7 : ∀ w ∈ wsX70, w ∈ wmX10_lose := tin cin_X7 (Or.inr trivial)
  have hl_44 := hts (.fieldLink RX10 44 "ReplicaFiles" "servers" "[LReplicaFiles$Server;") (tBc 538 rfl)
  have hl_106 := va_Nw.use (A := args) rfl (hN.1 ("ReplicaFiles", 106, "ReplicaFiles$Server", "losesPhase", "Z", "ReplicaFiles") (by decide +kernel))
  have hl := lv_entry ([.ref (A (0, 0, 0)), .int a1]) (n := 3) (Nat.le_of_ble_eq_true rfl)
  rw [← hargs, lg_entry_eq, hargs]
  generalize (lg_sl ([.ref (A (0, 0, 0)), .int a1]) ++ List.replicate (3 - (lg_sl ([.ref (A (0, 0, 0)), .int a1])).length) Slot.unset).toArray = ls at hl ⊢
  have hl : lv_has ls 3 [(0, .ref (A (0, 0, 0))), (1, .int a1)] := hl
  unfold f_X10_lose at h
  refine lv_aload_n hx hb dX10_lose_0 rfl (lv_at hl 0 rfl) ?_
  refine lv_iload_n hx hb dX10_lose_1 rfl (lv_at hl 1 rfl) ?_
  obtain ⟨k1, hc2, h⟩ := o1_e h
  refine t_chk X Z (vx_runV (As := [.int a1]) (rest := []) (b := A (0, 0, 0)) S (t_X10_checkServer l hst N D dA A hJ tx _ hc2) (cwV 1 hts (tTV (tB 570 rfl) (tB 571 rfl) (tB 572 rfl) (tB 107 rfl) (tB 567 rfl)) rfl rfl rfl (by decide +kernel) ⟨Nat.le_of_ble_eq_true rfl, Nat.le_of_ble_eq_true rfl⟩) ⟨tPc.blind, g_recv X Z (cl_one N 0 (by decide)) rfl rfl, t_pre X hN hT Z _⟩ rfl rfl hl.1 rfl (lv_room (m := m) (pc := 2) (ls := ls) (rest := [.int a1, .ref (A (0, 0, 0))]) (Nat.le_of_ble_eq_true rfl)) dX10_lose_2 ⟨Nat.le_of_ble_eq_true rfl, Nat.le_of_ble_eq_true rfl⟩) (fun hk3 ce q9 H locs Z hce hcv hcl => ?_) (fun hk3 H locs Z => ?_)
  · have h := if_f hk3 h
    have hy := Option.some.inj h
    subst hy
    exact t_out hk3 hout hlocks Z hce hcv hcl (Nat.le_of_ble_eq_true rfl) (Nat.le_of_ble_eq_true rfl)
  have h := if_t hk3 h
  refine lv_aload_n hx hb dX10_lose_5 rfl (lv_at hl 0 rfl) ?_
  refine cr_X10_servers S X Z hin_X10 (cl_one N 0 (by decide)) hl_44 dX10_lose_6 ?_
  refine lv_iload_n hx hb dX10_lose_9 rfl (lv_at hl 1 rfl) ?_
  refine g_aald (i := (7, 0, 0)) (ca := 2) ⟨rfl, rfl⟩ S X Z (cl_one N 7 (by decide)) rfl dX10_lose_10 h (fun v4 hv4 h => ?_)
  refine cn_X7_losesPhase (a := v4) S X Z hin_X7 (cl_srv hv4) hl_106 dX10_lose_11 h (fun v5 h => ?_)
  obtain ⟨J22, eJ22, h⟩ := jn_e h
  have hJ22 : ∀ (b6 : Int32) (M7 : gM) (H : Heap) (locs : List Loc) (ls : Array Slot), tZ D N dA A s M7 H locs → lv_has ls 3 [(0, .ref (A (0, 0, 0))), (1, .int a1)] → J22 (b6, M7) = some y → W p l e (headSpec wmX10_lose ({ frames := 7, cells := 1, slots := 6, locals := 111 } : Room)).room s m args below meth c H locs 1 6 (vx_MQ below (tQi N D dA A s.heap.size y) (tX N D dA A s.heap.size y.1 y.2.2) args s 1 6 (cReg N A s.heap.size)) (F0 m 22 ls [.int b6]) := by
    intro b6 M7 H locs ls Z hl h
    rw [eJ22] at h
    try dsimp only at h
    refine lv_istore_n (lv' := [(2, .int b6), (0, .ref (A (0, 0, 0))), (1, .int a1)]) hx hb dX10_lose_22 rfl hl (by decide) rfl (fun ls hl => ?_)
    refine lv_aload_n hx hb dX10_lose_23 rfl (lv_at hl 1 rfl) ?_
    refine cr_X10_servers S X Z hin_X10 (cl_one N 0 (by decide)) hl_44 dX10_lose_24 ?_
    refine lv_iload_n hx hb dX10_lose_27 rfl (lv_at hl 2 rfl) ?_
    refine g_aald (i := (7, 0, 0)) (ca := 2) ⟨rfl, rfl⟩ S X Z (cl_one N 7 (by decide)) rfl dX10_lose_28 h (fun v8 hv8 h => ?_)
    refine lv_iconst (v := (1 : Int32)) hx hb dX10_lose_29 (by decide) ?_
    refine cq_X7_losesPhase (a := v8) S X Z hin_X7 (cl_srv hv8) hl_106 dX10_lose_30 h (fun M9 H locs Z h => ?_)
    refine lv_iload_n hx hb dX10_lose_33 rfl (lv_at hl 0 rfl) ?_
    obtain ⟨z10, h⟩ := gz_e h
    have hy := Option.some.inj h
    subst hy
    exact t_rz (z10) S Z hr hlocks dX10_lose_34
  refine lv_if_ne (tgt := 21) hx hb dX10_lose_14 (by decide) (fun c11 => ?_) (fun c11 => ?_)
  · have h := if_f c11 h
    refine lv_iconst (v := (0 : Int32)) hx hb dX10_lose_21 (by decide) ?_
    exact hJ22 (0 : Int32) M _ _ _ Z (lv_sub hl [0, 1] rfl) h
  · have h := if_t c11 h
    refine lv_iconst (v := (1 : Int32)) hx hb dX10_lose_17 (by decide) ?_
    refine lv_goto (tgt := 22) hx hb dX10_lose_18 (by decide) ?_
    exact hJ22 (1 : Int32) M _ _ _ Z (lv_sub hl [0, 1] rfl) h
-- X10_priority (III)I: 25 instructions
theorem dX10_priority_0 : decode cX10_priority 0 = .ok (.iload_n 1, 1) := by decide +kernel
theorem dX10_priority_1 : decode cX10_priority 1 = .ok (.invokestatic 110, 3) := by decide +kernel
theorem dX10_priority_4 : decode cX10_priority 4 = .ok (.iload_n 2, 1) := by decide +kernel
theorem dX10_priority_5 : decode cX10_priority 5 = .ok (.invokestatic 113, 3) := by decide +kernel
theorem dX10_priority_8 : decode cX10_priority 8 = .ok (.iload_n 3, 1) := by decide +kernel
theorem dX10_priority_9 : decode cX10_priority 9 = .ok (.bipush 9, 2) := by decide +kernel
theorem dX10_priority_11 : decode cX10_priority 11 = .ok (.invokestatic 116, 3) := by decide +kernel
theorem dX10_priority_14 : decode cX10_priority 14 = .ok (.aload_n 0, 1) := by decide +kernel
theorem dX10_priority_15 : decode cX10_priority 15 = .ok (.getfield 53, 3) := by decide +kernel
theorem dX10_priority_18 : decode cX10_priority 18 = .ok (.iload_n 1, 1) := by decide +kernel
theorem dX10_priority_19 : decode cX10_priority 19 = .ok (.aaload, 1) := by decide +kernel
theorem dX10_priority_20 : decode cX10_priority 20 = .ok (.getfield 120, 3) := by decide +kernel
theorem dX10_priority_23 : decode cX10_priority 23 = .ok (.iload_n 2, 1) := by decide +kernel
theorem dX10_priority_24 : decode cX10_priority 24 = .ok (.iaload, 1) := by decide +kernel
theorem dX10_priority_25 : decode cX10_priority 25 = .ok (.istore 4, 2) := by decide +kernel
theorem dX10_priority_27 : decode cX10_priority 27 = .ok (.aload_n 0, 1) := by decide +kernel
theorem dX10_priority_28 : decode cX10_priority 28 = .ok (.getfield 53, 3) := by decide +kernel
theorem dX10_priority_31 : decode cX10_priority 31 = .ok (.iload_n 1, 1) := by decide +kernel
theorem dX10_priority_32 : decode cX10_priority 32 = .ok (.aaload, 1) := by decide +kernel
theorem dX10_priority_33 : decode cX10_priority 33 = .ok (.getfield 120, 3) := by decide +kernel
theorem dX10_priority_36 : decode cX10_priority 36 = .ok (.iload_n 2, 1) := by decide +kernel
theorem dX10_priority_37 : decode cX10_priority 37 = .ok (.iload_n 3, 1) := by decide +kernel
theorem dX10_priority_38 : decode cX10_priority 38 = .ok (.iastore, 1) := by decide +kernel
theorem dX10_priority_39 : decode cX10_priority 39 = .ok (.iload 4, 2) := by decide +kernel
theorem dX10_priority_41 : decode cX10_priority 41 = .ok (.ireturn, 1) := by decide +kernel
abbrev wmX10_priority : List Cond := .code yX10_priority cX10_priority 5 (some .int) :: tBig
def f_X10_priority (N : Nat) (M : gM) (a1 : Int32) (a2 : Int32) (a3 : Int32) : Option (Nat × Int32 × gM) :=
  o1 (f_X10_checkClient N M a1) (fun k1 => (if k1 = 0 then o1 (f_X10_checkObject N M a2) (fun k4 => (if k4 = 0 then o1 (f_X10_checkArgument N M a3 (9 : Int32)) (fun k7 => (if k7 = 0 then ix a1 4 (fun v10 => rd M (31, v10, 0) 48 a2 (fun v11 => ix a1 4 (fun v12 => wr M (31, v12, 0) 48 a2 a3 (fun M13 => some (0, v11, M13))))) else some (k7, (0 : Int32), M))) else some (k4, (0 : Int32), M))) else some (k1, (0 : Int32), M)))
set_option maxHeartbeats 4000000 in
set_option maxRecDepth 100000 in
theorem t_X10_priority (l : Launch) (hst : l.stackTraces = false) (N : Nat) (D : va_G) (dA : Nat → ClassId) (A : gI → Nat) (hJ : gJ (cLive N) A) (tx : Nat → Nat) (sz : Nat) {M : gM} {a1 : Int32} {a2 : Int32} {a3 : Int32} {y : (Nat × Int32 × gM)} (h : f_X10_priority N M a1 a2 a3 = some y) : tMi l yX10_priority wmX10_priority ({ frames := 7, cells := 3, slots := 18, locals := 111 } : Room) N D dA A tx sz [.ref (A (0, 0, 0)), .int a1, .int a2, .int a3] M y 3 18 := by
  refine vx_ofW (cc := cX10_priority) (maxL := 5) (ret := (some .int)) (by decide) rfl ?_
  intro p e s m args below meth c s₁ B hml hout hv
  obtain ⟨rfl, hsz, hP, hK, hN, hT⟩ := hv
  subst hsz
  generalize hargs : ([.ref (A (0, 0, 0)), .int a1, .int a2, .int a3] : List Value).toArray = args at B ⊢
  have S : CallFix p m c cX10_priority 5 s args wmX10_priority RX10 := ⟨B.exec, B.bytes, hml, findClass_of_methodNamed B.named, atoms_spec (ws := wmX10_priority) B.pre⟩
  obtain ⟨hx, hb, -, hown, hts⟩ := id S
  have hr := B.returns
  have hlocks := B.notSynchronized
  have X : gX D vwCl dA (cLive N) A (cReg N A s.heap.size) s := ⟨hK, hJ, fun i hi => Or.inl ⟨i, hi, rfl⟩⟩
  have Z : tZ D N dA A s M s.heap [] := ⟨hP, va_S.rf⟩
  have hin_X1 : ∀ w ∈ wsX10, w ∈ wmX10_priority := tin cin_X1 (Or.inr trivial)
  have hin_X10 : ∀ w ∈ wsX100, w ∈ wmX10_priority := tin cin_X10 (Or.inr trivial)
  have hl_53 := hts (.fieldLink RX10 53 "ReplicaFiles" "clients" "[LReplicaFiles$Client;") (tBc 541 rfl)
  have hl_120 := va_Nw.use (A := args) rfl (hN.1 ("ReplicaFiles", 120, "ReplicaFiles$Client", "priority", "[I", "ReplicaFiles") (by decide +kernel))
  have hl := lv_entry ([.ref (A (0, 0, 0)), .int a1, .int a2, .int a3]) (n := 5) (Nat.le_of_ble_eq_true rfl)
  rw [← hargs, lg_entry_eq, hargs]
  generalize (lg_sl ([.ref (A (0, 0, 0)), .int a1, .int a2, .int a3]) ++ List.replicate (5 - (lg_sl ([.ref (A (0, 0, 0)), .int a1, .int a2, .int a3])).length) Slot.unset).toArray = ls at hl ⊢
  have hl : lv_has ls 5 [(0, .ref (A (0, 0, 0))), (1, .int a1), (2, .int a2), (3, .int a3)] := hl
  unfold f_X10_priority at h
  refine lv_iload_n hx hb dX10_priority_0 rfl (lv_at hl 1 rfl) ?_
  obtain ⟨k1, hc2, h⟩ := o1_e h
  refine t_chk X Z (vx_runS (As := [.int a1]) (rest := []) S (t_X10_checkClient l hst N D dA A hJ tx _ hc2) (va_cwS 1 hts (tTS (tB 591 rfl) (tB 592 rfl) (tB 107 rfl) (tB 585 rfl)) rfl rfl rfl (by decide +kernel) ⟨Nat.le_of_ble_eq_true rfl, Nat.le_of_ble_eq_true rfl⟩) ⟨tPc.blind, t_pre X hN hT Z _⟩ rfl rfl hl.1 rfl (lv_room (m := m) (pc := 1) (ls := ls) (rest := [.int a1]) (Nat.le_of_ble_eq_true rfl)) dX10_priority_1 ⟨Nat.le_of_ble_eq_true rfl, Nat.le_of_ble_eq_true rfl⟩) (fun hk3 ce q9 H locs Z hce hcv hcl => ?_) (fun hk3 H locs Z => ?_)
  · have h := if_f hk3 h
    have hy := Option.some.inj h
    subst hy
    exact t_out hk3 hout hlocks Z hce hcv hcl (Nat.le_of_ble_eq_true rfl) (Nat.le_of_ble_eq_true rfl)
  have h := if_t hk3 h
  refine lv_iload_n hx hb dX10_priority_4 rfl (lv_at hl 2 rfl) ?_
  obtain ⟨k4, hc5, h⟩ := o1_e h
  refine t_chk X Z (vx_runS (As := [.int a2]) (rest := []) S (t_X10_checkObject l hst N D dA A hJ tx _ hc5) (va_cwS 1 hts (tTS (tB 593 rfl) (tB 594 rfl) (tB 107 rfl) (tB 586 rfl)) rfl rfl rfl (by decide +kernel) ⟨Nat.le_of_ble_eq_true rfl, Nat.le_of_ble_eq_true rfl⟩) ⟨tPc.blind, t_pre X hN hT Z _⟩ rfl rfl hl.1 rfl (lv_room (m := m) (pc := 5) (ls := ls) (rest := [.int a2]) (Nat.le_of_ble_eq_true rfl)) dX10_priority_5 ⟨Nat.le_of_ble_eq_true rfl, Nat.le_of_ble_eq_true rfl⟩) (fun hk6 ce q9 H locs Z hce hcv hcl => ?_) (fun hk6 H locs Z => ?_)
  · have h := if_f hk6 h
    have hy := Option.some.inj h
    subst hy
    exact t_out hk6 hout hlocks Z hce hcv hcl (Nat.le_of_ble_eq_true rfl) (Nat.le_of_ble_eq_true rfl)
  have h := if_t hk6 h
  refine lv_iload_n hx hb dX10_priority_8 rfl (lv_at hl 3 rfl) ?_
  refine lv_bipush (v := (9 : Int32)) hx hb dX10_priority_9 (by decide) ?_
  obtain ⟨k7, hc8, h⟩ := o1_e h
  refine t_chk X Z (vx_runS (As := [.int a3, .int (9 : Int32)]) (rest := []) S (t_X10_checkArgument l hst N D dA A hJ tx _ hc8) (va_cwS 2 hts (tTS (tB 595 rfl) (tB 596 rfl) (tB 107 rfl) (tB 587 rfl)) rfl rfl rfl (by decide +kernel) ⟨Nat.le_of_ble_eq_true rfl, Nat.le_of_ble_eq_true rfl⟩) ⟨tPc.blind, t_pre X hN hT Z _⟩ rfl rfl hl.1 rfl (lv_room (m := m) (pc := 11) (ls := ls) (rest := [.int (9 : Int32), .int a3]) (Nat.le_of_ble_eq_true rfl)) dX10_priority_11 ⟨Nat.le_of_ble_eq_true rfl, Nat.le_of_ble_eq_true rfl⟩) (fun hk9 ce q9 H locs Z hce hcv hcl => ?_) (fun hk9 H locs Z => ?_)
  · have h := if_f hk9 h
    have hy := Option.some.inj h
    subst hy
    exact t_out hk9 hout hlocks Z hce hcv hcl (Nat.le_of_ble_eq_true rfl) (Nat.le_of_ble_eq_true rfl)
  have h := if_t hk9 h
  refine lv_aload_n hx hb dX10_priority_14 rfl (lv_at hl 0 rfl) ?_
  refine cr_X10_clients S X Z hin_X10 (cl_one N 0 (by decide)) hl_53 dX10_priority_15 ?_
  refine lv_iload_n hx hb dX10_priority_18 rfl (lv_at hl 1 rfl) ?_
  refine g_aald (i := (8, 0, 0)) (ca := 3) ⟨rfl, rfl⟩ S X Z (cl_one N 8 (by decide)) rfl dX10_priority_19 h (fun v10 hv10 h => ?_)
  refine cn_X1_priority (a := v10) S X Z hin_X1 (cl_cli hv10) hl_120 dX10_priority_20 ?_
  refine lv_iload_n hx hb dX10_priority_23 rfl (lv_at hl 2 rfl) ?_
  refine g_iald (i := (31, v10, 0)) (n := 48) S X Z (cl_X1_priority (cl_cli hv10)) rfl dX10_priority_24 h (fun v11 h => ?_)
  refine lv_istore (lv' := [(4, .int v11), (0, .ref (A (0, 0, 0))), (1, .int a1), (2, .int a2), (3, .int a3)]) hx hb dX10_priority_25 hl (by decide) rfl (fun ls hl => ?_)
  refine lv_aload_n hx hb dX10_priority_27 rfl (lv_at hl 1 rfl) ?_
  refine cr_X10_clients S X Z hin_X10 (cl_one N 0 (by decide)) hl_53 dX10_priority_28 ?_
  refine lv_iload_n hx hb dX10_priority_31 rfl (lv_at hl 2 rfl) ?_
  refine g_aald (i := (8, 0, 0)) (ca := 3) ⟨rfl, rfl⟩ S X Z (cl_one N 8 (by decide)) rfl dX10_priority_32 h (fun v12 hv12 h => ?_)
  refine cn_X1_priority (a := v12) S X Z hin_X1 (cl_cli hv12) hl_120 dX10_priority_33 ?_
  refine lv_iload_n hx hb dX10_priority_36 rfl (lv_at hl 3 rfl) ?_
  refine lv_iload_n hx hb dX10_priority_37 rfl (lv_at hl 4 rfl) ?_
  refine g_iast (i := (31, v12, 0)) (n := 48) S X Z (cl_X1_priority (cl_cli hv12)) rfl dX10_priority_38 h (fun M13 H locs Z h => ?_)
  refine lv_iload hx hb dX10_priority_39 (lv_at hl 0 rfl) ?_
  have hy := Option.some.inj h
  subst hy
  exact t_ri S Z hr hlocks dX10_priority_41
-- X10_find (III)J: 29 instructions
theorem dX10_find_0 : decode cX10_find 0 = .ok (.iload_n 1, 1) := by decide +kernel
theorem dX10_find_1 : decode cX10_find 1 = .ok (.invokestatic 110, 3) := by decide +kernel
theorem dX10_find_4 : decode cX10_find 4 = .ok (.iload_n 2, 1) := by decide +kernel
theorem dX10_find_5 : decode cX10_find 5 = .ok (.invokestatic 113, 3) := by decide +kernel
theorem dX10_find_8 : decode cX10_find 8 = .ok (.iload_n 3, 1) := by decide +kernel
theorem dX10_find_9 : decode cX10_find 9 = .ok (.bipush 15, 2) := by decide +kernel
theorem dX10_find_11 : decode cX10_find 11 = .ok (.invokestatic 116, 3) := by decide +kernel
theorem dX10_find_14 : decode cX10_find 14 = .ok (.aload_n 0, 1) := by decide +kernel
theorem dX10_find_15 : decode cX10_find 15 = .ok (.iload_n 1, 1) := by decide +kernel
theorem dX10_find_16 : decode cX10_find 16 = .ok (.invokevirtual 123, 3) := by decide +kernel
theorem dX10_find_19 : decode cX10_find 19 = .ok (.astore 4, 2) := by decide +kernel
theorem dX10_find_21 : decode cX10_find 21 = .ok (.aload_n 0, 1) := by decide +kernel
theorem dX10_find_22 : decode cX10_find 22 = .ok (.aload 4, 2) := by decide +kernel
theorem dX10_find_24 : decode cX10_find 24 = .ok (.iload_n 2, 1) := by decide +kernel
theorem dX10_find_25 : decode cX10_find 25 = .ok (.iconst 1, 1) := by decide +kernel
theorem dX10_find_26 : decode cX10_find 26 = .ok (.invokevirtual 127, 3) := by decide +kernel
theorem dX10_find_29 : decode cX10_find 29 = .ok (.lstore 5, 2) := by decide +kernel
theorem dX10_find_31 : decode cX10_find 31 = .ok (.lload 5, 2) := by decide +kernel
theorem dX10_find_33 : decode cX10_find 33 = .ok (.lconst 0, 1) := by decide +kernel
theorem dX10_find_34 : decode cX10_find 34 = .ok (.lcmp, 1) := by decide +kernel
theorem dX10_find_35 : decode cX10_find 35 = .ok (.ifCond .eq 8, 3) := by decide +kernel
theorem dX10_find_38 : decode cX10_find 38 = .ok (.lload 5, 2) := by decide +kernel
theorem dX10_find_40 : decode cX10_find 40 = .ok (.goto 13, 3) := by decide +kernel
theorem dX10_find_43 : decode cX10_find 43 = .ok (.aload 4, 2) := by decide +kernel
theorem dX10_find_45 : decode cX10_find 45 = .ok (.getfield 131, 3) := by decide +kernel
theorem dX10_find_48 : decode cX10_find 48 = .ok (.iload_n 2, 1) := by decide +kernel
theorem dX10_find_49 : decode cX10_find 49 = .ok (.iload_n 3, 1) := by decide +kernel
theorem dX10_find_50 : decode cX10_find 50 = .ok (.invokevirtual 135, 3) := by decide +kernel
theorem dX10_find_53 : decode cX10_find 53 = .ok (.lreturn, 1) := by decide +kernel
abbrev wmX10_find : List Cond := .code yX10_find cX10_find 7 (some .long) :: tBig
def f_X10_find (N : Nat) (M : gM) (a1 : Int32) (a2 : Int32) (a3 : Int32) : Option (Nat × Int64 × gM) :=
  o1 (f_X10_checkClient N M a1) (fun k1 => (if k1 = 0 then o1 (f_X10_checkObject N M a2) (fun k4 => (if k4 = 0 then o1 (f_X10_checkArgument N M a3 (15 : Int32)) (fun k7 => (if k7 = 0 then ob (f_X10_startCall N M a1) (fun v10 M11 => gnl v10 4 (ob (f_X10_obtainKind N M11 v10 a2 (1 : Int32)) (fun v15 M14 => (if (lg_cmp v15 (0 : Int64)) = 0 then o1 (f_X8_leastNamed N M14 (4 + v10) a2 a3) (fun v18 => some (0, v18, M14)) else some (0, v15, M14))))) else some (k7, (0 : Int64), M))) else some (k4, (0 : Int64), M))) else some (k1, (0 : Int64), M)))
set_option maxHeartbeats 4000000 in
set_option maxRecDepth 100000 in
theorem t_X10_find (l : Launch) (hst : l.stackTraces = false) (N : Nat) (D : va_G) (dA : Nat → ClassId) (A : gI → Nat) (hJ : gJ (cLive N) A) (tx : Nat → Nat) (sz : Nat) {M : gM} {a1 : Int32} {a2 : Int32} {a3 : Int32} {y : (Nat × Int64 × gM)} (h : f_X10_find N M a1 a2 a3 = some y) : tMl l yX10_find wmX10_find ({ frames := 7, cells := 3, slots := 18, locals := 168 } : Room) N D dA A tx sz [.ref (A (0, 0, 0)), .int a1, .int a2, .int a3] M y 3 18 := by
  refine vx_ofW (cc := cX10_find) (maxL := 7) (ret := (some .long)) (by decide) rfl ?_
  intro p e s m args below meth c s₁ B hml hout hv
  obtain ⟨rfl, hsz, hP, hK, hN, hT⟩ := hv
  subst hsz
  generalize hargs : ([.ref (A (0, 0, 0)), .int a1, .int a2, .int a3] : List Value).toArray = args at B ⊢
  have S : CallFix p m c cX10_find 7 s args wmX10_find RX10 := ⟨B.exec, B.bytes, hml, findClass_of_methodNamed B.named, atoms_spec (ws := wmX10_find) B.pre⟩
  obtain ⟨hx, hb, -, hown, hts⟩ := id S
  have hr := B.returns
  have hlocks := B.notSynchronized
  have X : gX D vwCl dA (cLive N) A (cReg N A s.heap.size) s := ⟨hK, hJ, fun i hi => Or.inl ⟨i, hi, rfl⟩⟩
  have Z : tZ D N dA A s M s.heap [] := ⟨hP, va_S.rf⟩
  have hin_X1 : ∀ w ∈ wsX10, w ∈ wmX10_find := tin cin_X1 (Or.inr trivial)
  have hl_131 := va_Nw.use (A := args) rfl (hN.1 ("ReplicaFiles", 131, "ReplicaFiles$Client", "tree", "LReplicaFiles$Tree;", "ReplicaFiles") (by decide +kernel))
  have hl := lv_entry ([.ref (A (0, 0, 0)), .int a1, .int a2, .int a3]) (n := 7) (Nat.le_of_ble_eq_true rfl)
  rw [← hargs, lg_entry_eq, hargs]
  generalize (lg_sl ([.ref (A (0, 0, 0)), .int a1, .int a2, .int a3]) ++ List.replicate (7 - (lg_sl ([.ref (A (0, 0, 0)), .int a1, .int a2, .int a3])).length) Slot.unset).toArray = ls at hl ⊢
  have hl : lv_has ls 7 [(0, .ref (A (0, 0, 0))), (1, .int a1), (2, .int a2), (3, .int a3)] := hl
  unfold f_X10_find at h
  refine lv_iload_n hx hb dX10_find_0 rfl (lv_at hl 1 rfl) ?_
  obtain ⟨k1, hc2, h⟩ := o1_e h
  refine t_chk X Z (vx_runS (As := [.int a1]) (rest := []) S (t_X10_checkClient l hst N D dA A hJ tx _ hc2) (va_cwS 1 hts (tTS (tB 591 rfl) (tB 592 rfl) (tB 107 rfl) (tB 585 rfl)) rfl rfl rfl (by decide +kernel) ⟨Nat.le_of_ble_eq_true rfl, Nat.le_of_ble_eq_true rfl⟩) ⟨tPc.blind, t_pre X hN hT Z _⟩ rfl rfl hl.1 rfl (lv_room (m := m) (pc := 1) (ls := ls) (rest := [.int a1]) (Nat.le_of_ble_eq_true rfl)) dX10_find_1 ⟨Nat.le_of_ble_eq_true rfl, Nat.le_of_ble_eq_true rfl⟩) (fun hk3 ce q9 H locs Z hce hcv hcl => ?_) (fun hk3 H locs Z => ?_)
  · have h := if_f hk3 h
    have hy := Option.some.inj h
    subst hy
    exact t_out hk3 hout hlocks Z hce hcv hcl (Nat.le_of_ble_eq_true rfl) (Nat.le_of_ble_eq_true rfl)
  have h := if_t hk3 h
  refine lv_iload_n hx hb dX10_find_4 rfl (lv_at hl 2 rfl) ?_
  obtain ⟨k4, hc5, h⟩ := o1_e h
  refine t_chk X Z (vx_runS (As := [.int a2]) (rest := []) S (t_X10_checkObject l hst N D dA A hJ tx _ hc5) (va_cwS 1 hts (tTS (tB 593 rfl) (tB 594 rfl) (tB 107 rfl) (tB 586 rfl)) rfl rfl rfl (by decide +kernel) ⟨Nat.le_of_ble_eq_true rfl, Nat.le_of_ble_eq_true rfl⟩) ⟨tPc.blind, t_pre X hN hT Z _⟩ rfl rfl hl.1 rfl (lv_room (m := m) (pc := 5) (ls := ls) (rest := [.int a2]) (Nat.le_of_ble_eq_true rfl)) dX10_find_5 ⟨Nat.le_of_ble_eq_true rfl, Nat.le_of_ble_eq_true rfl⟩) (fun hk6 ce q9 H locs Z hce hcv hcl => ?_) (fun hk6 H locs Z => ?_)
  · have h := if_f hk6 h
    have hy := Option.some.inj h
    subst hy
    exact t_out hk6 hout hlocks Z hce hcv hcl (Nat.le_of_ble_eq_true rfl) (Nat.le_of_ble_eq_true rfl)
  have h := if_t hk6 h
  refine lv_iload_n hx hb dX10_find_8 rfl (lv_at hl 3 rfl) ?_
  refine lv_bipush (v := (15 : Int32)) hx hb dX10_find_9 (by decide) ?_
  obtain ⟨k7, hc8, h⟩ := o1_e h
  refine t_chk X Z (vx_runS (As := [.int a3, .int (15 : Int32)]) (rest := []) S (t_X10_checkArgument l hst N D dA A hJ tx _ hc8) (va_cwS 2 hts (tTS (tB 595 rfl) (tB 596 rfl) (tB 107 rfl) (tB 587 rfl)) rfl rfl rfl (by decide +kernel) ⟨Nat.le_of_ble_eq_true rfl, Nat.le_of_ble_eq_true rfl⟩) ⟨tPc.blind, t_pre X hN hT Z _⟩ rfl rfl hl.1 rfl (lv_room (m := m) (pc := 11) (ls := ls) (rest := [.int (15 : Int32), .int a3]) (Nat.le_of_ble_eq_true rfl)) dX10_find_11 ⟨Nat.le_of_ble_eq_true rfl, Nat.le_of_ble_eq_true rfl⟩) (fun hk9 ce q9 H locs Z hce hcv hcl => ?_) (fun hk9 H locs Z => ?_)
  · have h := if_f hk9 h
    have hy := Option.some.inj h
    subst hy
    exact t_out hk9 hout hlocks Z hce hcv hcl (Nat.le_of_ble_eq_true rfl) (Nat.le_of_ble_eq_true rfl)
  have h := if_t hk9 h
  refine lv_aload_n hx hb dX10_find_14 rfl (lv_at hl 0 rfl) ?_
  refine lv_iload_n hx hb dX10_find_15 rfl (lv_at hl 1 rfl) ?_
  obtain ⟨v10, M11, hc12, h⟩ := ob_e h
  obtain ⟨hv10, h⟩ := gnl_e h
  refine c_r X Z (c_V (i := (0, 0, 0)) (As := [.int a1]) (rest := []) S X hN Z (cl_one N 0 (by decide)) rfl rfl (t_X10_startCall l N D dA A hJ hc12) (cwV 1 hts (tGV (cB 640 rfl) (cB 641 rfl) (cB 642 rfl) (cB 107 rfl) (cB 597 rfl)) rfl rfl rfl (by decide +kernel) ⟨Nat.le_of_ble_eq_true rfl, Nat.le_of_ble_eq_true rfl⟩) rfl hl.1 rfl (Nat.le_of_ble_eq_true rfl) dX10_find_16 ⟨Nat.le_of_ble_eq_true rfl, Nat.le_of_ble_eq_true rfl⟩) (fun H locs Z => ?_)
  refine lv_astore (lv' := [(4, .ref (A (30, v10, 0))), (0, .ref (A (0, 0, 0))), (1, .int a1), (2, .int a2), (3, .int a3)]) hx hb dX10_find_19 hl (by decide) rfl (fun ls hl => ?_)
  refine lv_aload_n hx hb dX10_find_21 rfl (lv_at hl 1 rfl) ?_
  refine lv_aload hx hb dX10_find_22 (lv_at hl 0 rfl) ?_
  refine lv_iload_n hx hb dX10_find_24 rfl (lv_at hl 3 rfl) ?_
  refine lv_iconst (v := (1 : Int32)) hx hb dX10_find_25 (by decide) ?_
  obtain ⟨v15, M14, hc13, h⟩ := ob_e h
  refine c_l X Z (c_V (i := (0, 0, 0)) (As := [.ref (A (30, v10, 0)), .int a2, .int (1 : Int32)]) (rest := []) S X hN Z (cl_one N 0 (by decide)) rfl rfl (t_X10_obtainKind l N D dA A hJ (cl_cli hv10) hc13) (cwV 3 hts (tGV (cB 643 rfl) (cB 644 rfl) (cB 645 rfl) (cB 107 rfl) (cB 639 rfl)) rfl rfl rfl (by decide +kernel) ⟨Nat.le_of_ble_eq_true rfl, Nat.le_of_ble_eq_true rfl⟩) rfl hl.1 rfl (Nat.le_of_ble_eq_true rfl) dX10_find_26 ⟨Nat.le_of_ble_eq_true rfl, Nat.le_of_ble_eq_true rfl⟩) (fun H locs Z => ?_)
  refine lv_lstore (lv' := [(5, .long v15), (4, .ref (A (30, v10, 0))), (0, .ref (A (0, 0, 0))), (1, .int a1), (2, .int a2), (3, .int a3)]) hx hb dX10_find_29 hl (by decide) rfl (fun ls hl => ?_)
  refine lv_lload hx hb dX10_find_31 (lv_at hl 0 rfl) ?_
  refine lv_lconst (v := (0 : Int64)) hx hb dX10_find_33 (by decide) ?_
  refine W.lcmp hx hb dX10_find_34 ?_
  refine lv_if_eq (tgt := 43) hx hb dX10_find_35 (by decide) (fun c16 => ?_) (fun c16 => ?_)
  · have h := if_t c16 h
    refine lv_aload hx hb dX10_find_43 (lv_at hl 1 rfl) ?_
    refine cn_X1_tree (a := v10) S X Z hin_X1 (cl_cli hv10) hl_131 dX10_find_45 ?_
    refine lv_iload_n hx hb dX10_find_48 rfl (lv_at hl 4 rfl) ?_
    refine lv_iload_n hx hb dX10_find_49 rfl (lv_at hl 5 rfl) ?_
    obtain ⟨v18, hc17, h⟩ := o1_e h
    refine c_l X Z (c_V (i := (50, (4 + v10), 0)) (As := [.int a2, .int a3]) (rest := []) S X hN Z (cl_ct (cl_cli hv10)) rfl rfl (t_X8_leastNamed l N D dA A hJ (cl_ct (cl_cli hv10)) hc17) (cwV 2 hts (tGV (cB 646 rfl) (cB 647 rfl) (cB 648 rfl) (cB 44 rfl) (cB 523 rfl)) rfl rfl rfl (by decide +kernel) ⟨Nat.le_of_ble_eq_true rfl, Nat.le_of_ble_eq_true rfl⟩) rfl hl.1 rfl (Nat.le_of_ble_eq_true rfl) dX10_find_50 ⟨Nat.le_of_ble_eq_true rfl, Nat.le_of_ble_eq_true rfl⟩) (fun H locs Z => ?_)
    have hy := Option.some.inj h
    subst hy
    exact t_rl S Z hr hlocks dX10_find_53
  · have h := if_f c16 h
    refine lv_lload hx hb dX10_find_38 (lv_at hl 0 rfl) ?_
    refine lv_goto (tgt := 53) hx hb dX10_find_40 (by decide) ?_
    have hy := Option.some.inj h
    subst hy
    exact t_rl S Z hr hlocks dX10_find_53
-- X10_read (II)J: 27 instructions
theorem dX10_read_0 : decode cX10_read 0 = .ok (.iload_n 1, 1) := by decide +kernel
theorem dX10_read_1 : decode cX10_read 1 = .ok (.invokestatic 110, 3) := by decide +kernel
theorem dX10_read_4 : decode cX10_read 4 = .ok (.iload_n 2, 1) := by decide +kernel
theorem dX10_read_5 : decode cX10_read 5 = .ok (.invokestatic 113, 3) := by decide +kernel
theorem dX10_read_8 : decode cX10_read 8 = .ok (.aload_n 0, 1) := by decide +kernel
theorem dX10_read_9 : decode cX10_read 9 = .ok (.iload_n 1, 1) := by decide +kernel
theorem dX10_read_10 : decode cX10_read 10 = .ok (.invokevirtual 123, 3) := by decide +kernel
theorem dX10_read_13 : decode cX10_read 13 = .ok (.astore_n 3, 1) := by decide +kernel
theorem dX10_read_14 : decode cX10_read 14 = .ok (.aload_n 0, 1) := by decide +kernel
theorem dX10_read_15 : decode cX10_read 15 = .ok (.aload_n 3, 1) := by decide +kernel
theorem dX10_read_16 : decode cX10_read 16 = .ok (.iload_n 2, 1) := by decide +kernel
theorem dX10_read_17 : decode cX10_read 17 = .ok (.iconst 0, 1) := by decide +kernel
theorem dX10_read_18 : decode cX10_read 18 = .ok (.invokevirtual 127, 3) := by decide +kernel
theorem dX10_read_21 : decode cX10_read 21 = .ok (.lstore 4, 2) := by decide +kernel
theorem dX10_read_23 : decode cX10_read 23 = .ok (.lload 4, 2) := by decide +kernel
theorem dX10_read_25 : decode cX10_read 25 = .ok (.lconst 0, 1) := by decide +kernel
theorem dX10_read_26 : decode cX10_read 26 = .ok (.lcmp, 1) := by decide +kernel
theorem dX10_read_27 : decode cX10_read 27 = .ok (.ifCond .eq 8, 3) := by decide +kernel
theorem dX10_read_30 : decode cX10_read 30 = .ok (.lload 4, 2) := by decide +kernel
theorem dX10_read_32 : decode cX10_read 32 = .ok (.goto 13, 3) := by decide +kernel
theorem dX10_read_35 : decode cX10_read 35 = .ok (.aload_n 3, 1) := by decide +kernel
theorem dX10_read_36 : decode cX10_read 36 = .ok (.getfield 131, 3) := by decide +kernel
theorem dX10_read_39 : decode cX10_read 39 = .ok (.getfield 141, 3) := by decide +kernel
theorem dX10_read_42 : decode cX10_read 42 = .ok (.iload_n 2, 1) := by decide +kernel
theorem dX10_read_43 : decode cX10_read 43 = .ok (.iaload, 1) := by decide +kernel
theorem dX10_read_44 : decode cX10_read 44 = .ok (.i2l, 1) := by decide +kernel
theorem dX10_read_45 : decode cX10_read 45 = .ok (.lreturn, 1) := by decide +kernel
abbrev wmX10_read : List Cond := .code yX10_read cX10_read 6 (some .long) :: tBig
def f_X10_read (N : Nat) (M : gM) (a1 : Int32) (a2 : Int32) : Option (Nat × Int64 × gM) :=
  o1 (f_X10_checkClient N M a1) (fun k1 => (if k1 = 0 then o1 (f_X10_checkObject N M a2) (fun k4 => (if k4 = 0 then ob (f_X10_startCall N M a1) (fun v7 M8 => gnl v7 4 (ob (f_X10_obtainKind N M8 v7 a2 (0 : Int32)) (fun v12 M11 => (if (lg_cmp v12 (0 : Int64)) = 0 then rd M11 (52, (4 + v7), 0) 48 a2 (fun v14 => some (0, v14.toInt64, M11)) else some (0, v12, M11))))) else some (k4, (0 : Int64), M))) else some (k1, (0 : Int64), M)))
set_option maxHeartbeats 4000000 in
set_option maxRecDepth 100000 in
theorem t_X10_read (l : Launch) (hst : l.stackTraces = false) (N : Nat) (D : va_G) (dA : Nat → ClassId) (A : gI → Nat) (hJ : gJ (cLive N) A) (tx : Nat → Nat) (sz : Nat) {M : gM} {a1 : Int32} {a2 : Int32} {y : (Nat × Int64 × gM)} (h : f_X10_read N M a1 a2 = some y) : tMl l yX10_read wmX10_read ({ frames := 7, cells := 2, slots := 12, locals := 168 } : Room) N D dA A tx sz [.ref (A (0, 0, 0)), .int a1, .int a2] M y 2 12 := by
  refine vx_ofW (cc := cX10_read) (maxL := 6) (ret := (some .long)) (by decide) rfl ?_
  intro p e s m args below meth c s₁ B hml hout hv
  obtain ⟨rfl, hsz, hP, hK, hN, hT⟩ := hv
  subst hsz
  generalize hargs : ([.ref (A (0, 0, 0)), .int a1, .int a2] : List Value).toArray = args at B ⊢
  have S : CallFix p m c cX10_read 6 s args wmX10_read RX10 := ⟨B.exec, B.bytes, hml, findClass_of_methodNamed B.named, atoms_spec (ws := wmX10_read) B.pre⟩
  obtain ⟨hx, hb, -, hown, hts⟩ := id S
  have hr := B.returns
  have hlocks := B.notSynchronized
  have X : gX D vwCl dA (cLive N) A (cReg N A s.heap.size) s := ⟨hK, hJ, fun i hi => Or.inl ⟨i, hi, rfl⟩⟩
  have Z : tZ D N dA A s M s.heap [] := ⟨hP, va_S.rf⟩
  have hin_X1 : ∀ w ∈ wsX10, w ∈ wmX10_read := tin cin_X1 (Or.inr trivial)
  have hin_X8 : ∀ w ∈ wsX80, w ∈ wmX10_read := tin cin_X8 (Or.inr trivial)
  have hl_131 := va_Nw.use (A := args) rfl (hN.1 ("ReplicaFiles", 131, "ReplicaFiles$Client", "tree", "LReplicaFiles$Tree;", "ReplicaFiles") (by decide +kernel))
  have hl_141 := va_Nw.use (A := args) rfl (hN.1 ("ReplicaFiles", 141, "ReplicaFiles$Tree", "value", "[I", "ReplicaFiles") (by decide +kernel))
  have hl := lv_entry ([.ref (A (0, 0, 0)), .int a1, .int a2]) (n := 6) (Nat.le_of_ble_eq_true rfl)
  rw [← hargs, lg_entry_eq, hargs]
  generalize (lg_sl ([.ref (A (0, 0, 0)), .int a1, .int a2]) ++ List.replicate (6 - (lg_sl ([.ref (A (0, 0, 0)), .int a1, .int a2])).length) Slot.unset).toArray = ls at hl ⊢
  have hl : lv_has ls 6 [(0, .ref (A (0, 0, 0))), (1, .int a1), (2, .int a2)] := hl
  unfold f_X10_read at h
  refine lv_iload_n hx hb dX10_read_0 rfl (lv_at hl 1 rfl) ?_
  obtain ⟨k1, hc2, h⟩ := o1_e h
  refine t_chk X Z (vx_runS (As := [.int a1]) (rest := []) S (t_X10_checkClient l hst N D dA A hJ tx _ hc2) (va_cwS 1 hts (tTS (tB 591 rfl) (tB 592 rfl) (tB 107 rfl) (tB 585 rfl)) rfl rfl rfl (by decide +kernel) ⟨Nat.le_of_ble_eq_true rfl, Nat.le_of_ble_eq_true rfl⟩) ⟨tPc.blind, t_pre X hN hT Z _⟩ rfl rfl hl.1 rfl (lv_room (m := m) (pc := 1) (ls := ls) (rest := [.int a1]) (Nat.le_of_ble_eq_true rfl)) dX10_read_1 ⟨Nat.le_of_ble_eq_true rfl, Nat.le_of_ble_eq_true rfl⟩) (fun hk3 ce q9 H locs Z hce hcv hcl => ?_) (fun hk3 H locs Z => ?_)
  · have h := if_f hk3 h
    have hy := Option.some.inj h
    subst hy
    exact t_out hk3 hout hlocks Z hce hcv hcl (Nat.le_of_ble_eq_true rfl) (Nat.le_of_ble_eq_true rfl)
  have h := if_t hk3 h
  refine lv_iload_n hx hb dX10_read_4 rfl (lv_at hl 2 rfl) ?_
  obtain ⟨k4, hc5, h⟩ := o1_e h
  refine t_chk X Z (vx_runS (As := [.int a2]) (rest := []) S (t_X10_checkObject l hst N D dA A hJ tx _ hc5) (va_cwS 1 hts (tTS (tB 593 rfl) (tB 594 rfl) (tB 107 rfl) (tB 586 rfl)) rfl rfl rfl (by decide +kernel) ⟨Nat.le_of_ble_eq_true rfl, Nat.le_of_ble_eq_true rfl⟩) ⟨tPc.blind, t_pre X hN hT Z _⟩ rfl rfl hl.1 rfl (lv_room (m := m) (pc := 5) (ls := ls) (rest := [.int a2]) (Nat.le_of_ble_eq_true rfl)) dX10_read_5 ⟨Nat.le_of_ble_eq_true rfl, Nat.le_of_ble_eq_true rfl⟩) (fun hk6 ce q9 H locs Z hce hcv hcl => ?_) (fun hk6 H locs Z => ?_)
  · have h := if_f hk6 h
    have hy := Option.some.inj h
    subst hy
    exact t_out hk6 hout hlocks Z hce hcv hcl (Nat.le_of_ble_eq_true rfl) (Nat.le_of_ble_eq_true rfl)
  have h := if_t hk6 h
  refine lv_aload_n hx hb dX10_read_8 rfl (lv_at hl 0 rfl) ?_
  refine lv_iload_n hx hb dX10_read_9 rfl (lv_at hl 1 rfl) ?_
  obtain ⟨v7, M8, hc9, h⟩ := ob_e h
  obtain ⟨hv7, h⟩ := gnl_e h
  refine c_r X Z (c_V (i := (0, 0, 0)) (As := [.int a1]) (rest := []) S X hN Z (cl_one N 0 (by decide)) rfl rfl (t_X10_startCall l N D dA A hJ hc9) (cwV 1 hts (tGV (cB 640 rfl) (cB 641 rfl) (cB 642 rfl) (cB 107 rfl) (cB 597 rfl)) rfl rfl rfl (by decide +kernel) ⟨Nat.le_of_ble_eq_true rfl, Nat.le_of_ble_eq_true rfl⟩) rfl hl.1 rfl (Nat.le_of_ble_eq_true rfl) dX10_read_10 ⟨Nat.le_of_ble_eq_true rfl, Nat.le_of_ble_eq_true rfl⟩) (fun H locs Z => ?_)
  refine lv_astore_n (lv' := [(3, .ref (A (30, v7, 0))), (0, .ref (A (0, 0, 0))), (1, .int a1), (2, .int a2)]) hx hb dX10_read_13 rfl hl (by decide) rfl (fun ls hl => ?_)
  refine lv_aload_n hx hb dX10_read_14 rfl (lv_at hl 1 rfl) ?_
  refine lv_aload_n hx hb dX10_read_15 rfl (lv_at hl 0 rfl) ?_
  refine lv_iload_n hx hb dX10_read_16 rfl (lv_at hl 3 rfl) ?_
  refine lv_iconst (v := (0 : Int32)) hx hb dX10_read_17 (by decide) ?_
  obtain ⟨v12, M11, hc10, h⟩ := ob_e h
  refine c_l X Z (c_V (i := (0, 0, 0)) (As := [.ref (A (30, v7, 0)), .int a2, .int (0 : Int32)]) (rest := []) S X hN Z (cl_one N 0 (by decide)) rfl rfl (t_X10_obtainKind l N D dA A hJ (cl_cli hv7) hc10) (cwV 3 hts (tGV (cB 643 rfl) (cB 644 rfl) (cB 645 rfl) (cB 107 rfl) (cB 639 rfl)) rfl rfl rfl (by decide +kernel) ⟨Nat.le_of_ble_eq_true rfl, Nat.le_of_ble_eq_true rfl⟩) rfl hl.1 rfl (Nat.le_of_ble_eq_true rfl) dX10_read_18 ⟨Nat.le_of_ble_eq_true rfl, Nat.le_of_ble_eq_true rfl⟩) (fun H locs Z => ?_)
  refine lv_lstore (lv' := [(4, .long v12), (3, .ref (A (30, v7, 0))), (0, .ref (A (0, 0, 0))), (1, .int a1), (2, .int a2)]) hx hb dX10_read_21 hl (by decide) rfl (fun ls hl => ?_)
  refine lv_lload hx hb dX10_read_23 (lv_at hl 0 rfl) ?_
  refine lv_lconst (v := (0 : Int64)) hx hb dX10_read_25 (by decide) ?_
  refine W.lcmp hx hb dX10_read_26 ?_
  refine lv_if_eq (tgt := 35) hx hb dX10_read_27 (by decide) (fun c13 => ?_) (fun c13 => ?_)
  · have h := if_t c13 h
    refine lv_aload_n hx hb dX10_read_35 rfl (lv_at hl 1 rfl) ?_
    refine cn_X1_tree (a := v7) S X Z hin_X1 (cl_cli hv7) hl_131 dX10_read_36 ?_
    refine cn_X8_value (a := (4 + v7)) S X Z hin_X8 (cl_ct (cl_cli hv7)) hl_141 dX10_read_39 ?_
    refine lv_iload_n hx hb dX10_read_42 rfl (lv_at hl 4 rfl) ?_
    refine g_iald (i := (52, (4 + v7), 0)) (n := 48) S X Z (cl_X8_value (cl_ct (cl_cli hv7))) rfl dX10_read_43 h (fun v14 h => ?_)
    refine lv_i2l hx hb dX10_read_44 rfl ?_
    have hy := Option.some.inj h
    subst hy
    exact t_rl S Z hr hlocks dX10_read_45
  · have h := if_f c13 h
    refine lv_lload hx hb dX10_read_30 (lv_at hl 0 rfl) ?_
    refine lv_goto (tgt := 45) hx hb dX10_read_32 (by decide) ?_
    have hy := Option.some.inj h
    subst hy
    exact t_rl S Z hr hlocks dX10_read_45
-- X10_write (IIII)J: 40 instructions
theorem dX10_write_0 : decode cX10_write 0 = .ok (.iload_n 1, 1) := by decide +kernel
theorem dX10_write_1 : decode cX10_write 1 = .ok (.invokestatic 110, 3) := by decide +kernel
theorem dX10_write_4 : decode cX10_write 4 = .ok (.iload_n 2, 1) := by decide +kernel
theorem dX10_write_5 : decode cX10_write 5 = .ok (.invokestatic 113, 3) := by decide +kernel
theorem dX10_write_8 : decode cX10_write 8 = .ok (.iload 4, 2) := by decide +kernel
theorem dX10_write_10 : decode cX10_write 10 = .ok (.bipush 6, 2) := by decide +kernel
theorem dX10_write_12 : decode cX10_write 12 = .ok (.invokestatic 116, 3) := by decide +kernel
theorem dX10_write_15 : decode cX10_write 15 = .ok (.aload_n 0, 1) := by decide +kernel
theorem dX10_write_16 : decode cX10_write 16 = .ok (.iload_n 1, 1) := by decide +kernel
theorem dX10_write_17 : decode cX10_write 17 = .ok (.invokevirtual 123, 3) := by decide +kernel
theorem dX10_write_20 : decode cX10_write 20 = .ok (.astore 5, 2) := by decide +kernel
theorem dX10_write_22 : decode cX10_write 22 = .ok (.aload_n 0, 1) := by decide +kernel
theorem dX10_write_23 : decode cX10_write 23 = .ok (.aload 5, 2) := by decide +kernel
theorem dX10_write_25 : decode cX10_write 25 = .ok (.iload_n 2, 1) := by decide +kernel
theorem dX10_write_26 : decode cX10_write 26 = .ok (.iconst 0, 1) := by decide +kernel
theorem dX10_write_27 : decode cX10_write 27 = .ok (.invokevirtual 127, 3) := by decide +kernel
theorem dX10_write_30 : decode cX10_write 30 = .ok (.lstore 6, 2) := by decide +kernel
theorem dX10_write_32 : decode cX10_write 32 = .ok (.lload 6, 2) := by decide +kernel
theorem dX10_write_34 : decode cX10_write 34 = .ok (.lconst 0, 1) := by decide +kernel
theorem dX10_write_35 : decode cX10_write 35 = .ok (.lcmp, 1) := by decide +kernel
theorem dX10_write_36 : decode cX10_write 36 = .ok (.ifCond .eq 6, 3) := by decide +kernel
theorem dX10_write_39 : decode cX10_write 39 = .ok (.lload 6, 2) := by decide +kernel
theorem dX10_write_41 : decode cX10_write 41 = .ok (.lreturn, 1) := by decide +kernel
theorem dX10_write_42 : decode cX10_write 42 = .ok (.aload_n 0, 1) := by decide +kernel
theorem dX10_write_43 : decode cX10_write 43 = .ok (.aload 5, 2) := by decide +kernel
theorem dX10_write_45 : decode cX10_write 45 = .ok (.invokevirtual 144, 3) := by decide +kernel
theorem dX10_write_48 : decode cX10_write 48 = .ok (.ifCond .eq 15, 3) := by decide +kernel
theorem dX10_write_51 : decode cX10_write 51 = .ok (.aload 5, 2) := by decide +kernel
theorem dX10_write_53 : decode cX10_write 53 = .ok (.iload_n 2, 1) := by decide +kernel
theorem dX10_write_54 : decode cX10_write 54 = .ok (.iload_n 3, 1) := by decide +kernel
theorem dX10_write_55 : decode cX10_write 55 = .ok (.iload 4, 2) := by decide +kernel
theorem dX10_write_57 : decode cX10_write 57 = .ok (.invokevirtual 148, 3) := by decide +kernel
theorem dX10_write_60 : decode cX10_write 60 = .ok (.goto 13, 3) := by decide +kernel
theorem dX10_write_63 : decode cX10_write 63 = .ok (.aload_n 0, 1) := by decide +kernel
theorem dX10_write_64 : decode cX10_write 64 = .ok (.aload 5, 2) := by decide +kernel
theorem dX10_write_66 : decode cX10_write 66 = .ok (.iload_n 2, 1) := by decide +kernel
theorem dX10_write_67 : decode cX10_write 67 = .ok (.iload_n 3, 1) := by decide +kernel
theorem dX10_write_68 : decode cX10_write 68 = .ok (.iload 4, 2) := by decide +kernel
theorem dX10_write_70 : decode cX10_write 70 = .ok (.invokevirtual 152, 3) := by decide +kernel
theorem dX10_write_73 : decode cX10_write 73 = .ok (.lreturn, 1) := by decide +kernel
abbrev wmX10_write : List Cond := .code yX10_write cX10_write 8 (some .long) :: tBig
def f_X10_write (N : Nat) (M : gM) (a1 : Int32) (a2 : Int32) (a3 : Int32) (a4 : Int32) : Option (Nat × Int64 × gM) :=
  o1 (f_X10_checkClient N M a1) (fun k1 => (if k1 = 0 then o1 (f_X10_checkObject N M a2) (fun k4 => (if k4 = 0 then o1 (f_X10_checkArgument N M a4 (6 : Int32)) (fun k7 => (if k7 = 0 then ob (f_X10_startCall N M a1) (fun v10 M11 => gnl v10 4 (ob (f_X10_obtainKind N M11 v10 a2 (0 : Int32)) (fun v15 M14 => (if (lg_cmp v15 (0 : Int64)) = 0 then o1 (f_X10_isAlone N M14 v10) (fun v18 => (if v18 = 0 then ob (f_X10_writeNear N M14 v10 a2 a3 a4) (fun v22 M21 => some (0, v22, M21)) else ob (f_X1_writeAlone N M14 v10 a2 a3 a4) (fun v25 M24 => some (0, v25, M24)))) else some (0, v15, M14))))) else some (k7, (0 : Int64), M))) else some (k4, (0 : Int64), M))) else some (k1, (0 : Int64), M)))
set_option maxHeartbeats 4000000 in
set_option maxRecDepth 100000 in
theorem t_X10_write (l : Launch) (hst : l.stackTraces = false) (N : Nat) (D : va_G) (dA : Nat → ClassId) (A : gI → Nat) (hJ : gJ (cLive N) A) (tx : Nat → Nat) (sz : Nat) {M : gM} {a1 : Int32} {a2 : Int32} {a3 : Int32} {a4 : Int32} {y : (Nat × Int64 × gM)} (h : f_X10_write N M a1 a2 a3 a4 = some y) : tMl l yX10_write wmX10_write ({ frames := 7, cells := 3, slots := 18, locals := 168 } : Room) N D dA A tx sz [.ref (A (0, 0, 0)), .int a1, .int a2, .int a3, .int a4] M y 3 18 := by
  refine vx_ofW (cc := cX10_write) (maxL := 8) (ret := (some .long)) (by decide) rfl ?_
  intro p e s m args below meth c s₁ B hml hout hv
  obtain ⟨rfl, hsz, hP, hK, hN, hT⟩ := hv
  subst hsz
  generalize hargs : ([.ref (A (0, 0, 0)), .int a1, .int a2, .int a3, .int a4] : List Value).toArray = args at B ⊢
  have S : CallFix p m c cX10_write 8 s args wmX10_write RX10 := ⟨B.exec, B.bytes, hml, findClass_of_methodNamed B.named, atoms_spec (ws := wmX10_write) B.pre⟩
  obtain ⟨hx, hb, -, hown, hts⟩ := id S
  have hr := B.returns
  have hlocks := B.notSynchronized
  have X : gX D vwCl dA (cLive N) A (cReg N A s.heap.size) s := ⟨hK, hJ, fun i hi => Or.inl ⟨i, hi, rfl⟩⟩
  have Z : tZ D N dA A s M s.heap [] := ⟨hP, va_S.rf⟩
  have hl := lv_entry ([.ref (A (0, 0, 0)), .int a1, .int a2, .int a3, .int a4]) (n := 8) (Nat.le_of_ble_eq_true rfl)
  rw [← hargs, lg_entry_eq, hargs]
  generalize (lg_sl ([.ref (A (0, 0, 0)), .int a1, .int a2, .int a3, .int a4]) ++ List.replicate (8 - (lg_sl ([.ref (A (0, 0, 0)), .int a1, .int a2, .int a3, .int a4])).length) Slot.unset).toArray = ls at hl ⊢
  have hl : lv_has ls 8 [(0, .ref (A (0, 0, 0))), (1, .int a1), (2, .int a2), (3, .int a3), (4, .int a4)] := hl
  unfold f_X10_write at h
  refine lv_iload_n hx hb dX10_write_0 rfl (lv_at hl 1 rfl) ?_
  obtain ⟨k1, hc2, h⟩ := o1_e h
  refine t_chk X Z (vx_runS (As := [.int a1]) (rest := []) S (t_X10_checkClient l hst N D dA A hJ tx _ hc2) (va_cwS 1 hts (tTS (tB 591 rfl) (tB 592 rfl) (tB 107 rfl) (tB 585 rfl)) rfl rfl rfl (by decide +kernel) ⟨Nat.le_of_ble_eq_true rfl, Nat.le_of_ble_eq_true rfl⟩) ⟨tPc.blind, t_pre X hN hT Z _⟩ rfl rfl hl.1 rfl (lv_room (m := m) (pc := 1) (ls := ls) (rest := [.int a1]) (Nat.le_of_ble_eq_true rfl)) dX10_write_1 ⟨Nat.le_of_ble_eq_true rfl, Nat.le_of_ble_eq_true rfl⟩) (fun hk3 ce q9 H locs Z hce hcv hcl => ?_) (fun hk3 H locs Z => ?_)
  · have h := if_f hk3 h
    have hy := Option.some.inj h
    subst hy
    exact t_out hk3 hout hlocks Z hce hcv hcl (Nat.le_of_ble_eq_true rfl) (Nat.le_of_ble_eq_true rfl)
  have h := if_t hk3 h
  refine lv_iload_n hx hb dX10_write_4 rfl (lv_at hl 2 rfl) ?_
  obtain ⟨k4, hc5, h⟩ := o1_e h
  refine t_chk X Z (vx_runS (As := [.int a2]) (rest := []) S (t_X10_checkObject l hst N D dA A hJ tx _ hc5) (va_cwS 1 hts (tTS (tB 593 rfl) (tB 594 rfl) (tB 107 rfl) (tB 586 rfl)) rfl rfl rfl (by decide +kernel) ⟨Nat.le_of_ble_eq_true rfl, Nat.le_of_ble_eq_true rfl⟩) ⟨tPc.blind, t_pre X hN hT Z _⟩ rfl rfl hl.1 rfl (lv_room (m := m) (pc := 5) (ls := ls) (rest := [.int a2]) (Nat.le_of_ble_eq_true rfl)) dX10_write_5 ⟨Nat.le_of_ble_eq_true rfl, Nat.le_of_ble_eq_true rfl⟩) (fun hk6 ce q9 H locs Z hce hcv hcl => ?_) (fun hk6 H locs Z => ?_)
  · have h := if_f hk6 h
    have hy := Option.some.inj h
    subst hy
    exact t_out hk6 hout hlocks Z hce hcv hcl (Nat.le_of_ble_eq_true rfl) (Nat.le_of_ble_eq_true rfl)
  have h := if_t hk6 h
  refine lv_iload hx hb dX10_write_8 (lv_at hl 4 rfl) ?_
  refine lv_bipush (v := (6 : Int32)) hx hb dX10_write_10 (by decide) ?_
  obtain ⟨k7, hc8, h⟩ := o1_e h
  refine t_chk X Z (vx_runS (As := [.int a4, .int (6 : Int32)]) (rest := []) S (t_X10_checkArgument l hst N D dA A hJ tx _ hc8) (va_cwS 2 hts (tTS (tB 595 rfl) (tB 596 rfl) (tB 107 rfl) (tB 587 rfl)) rfl rfl rfl (by decide +kernel) ⟨Nat.le_of_ble_eq_true rfl, Nat.le_of_ble_eq_true rfl⟩) ⟨tPc.blind, t_pre X hN hT Z _⟩ rfl rfl hl.1 rfl (lv_room (m := m) (pc := 12) (ls := ls) (rest := [.int (6 : Int32), .int a4]) (Nat.le_of_ble_eq_true rfl)) dX10_write_12 ⟨Nat.le_of_ble_eq_true rfl, Nat.le_of_ble_eq_true rfl⟩) (fun hk9 ce q9 H locs Z hce hcv hcl => ?_) (fun hk9 H locs Z => ?_)
  · have h := if_f hk9 h
    have hy := Option.some.inj h
    subst hy
    exact t_out hk9 hout hlocks Z hce hcv hcl (Nat.le_of_ble_eq_true rfl) (Nat.le_of_ble_eq_true rfl)
  have h := if_t hk9 h
  refine lv_aload_n hx hb dX10_write_15 rfl (lv_at hl 0 rfl) ?_
  refine lv_iload_n hx hb dX10_write_16 rfl (lv_at hl 1 rfl) ?_
  obtain ⟨v10, M11, hc12, h⟩ := ob_e h
  obtain ⟨hv10, h⟩ := gnl_e h
  refine c_r X Z (c_V (i := (0, 0, 0)) (As := [.int a1]) (rest := []) S X hN Z (cl_one N 0 (by decide)) rfl rfl (t_X10_startCall l N D dA A hJ hc12) (cwV 1 hts (tGV (cB 640 rfl) (cB 641 rfl) (cB 642 rfl) (cB 107 rfl) (cB 597 rfl)) rfl rfl rfl (by decide +kernel) ⟨Nat.le_of_ble_eq_true rfl, Nat.le_of_ble_eq_true rfl⟩) rfl hl.1 rfl (Nat.le_of_ble_eq_true rfl) dX10_write_17 ⟨Nat.le_of_ble_eq_true rfl, Nat.le_of_ble_eq_true rfl⟩) (fun H locs Z => ?_)
  refine lv_astore (lv' := [(5, .ref (A (30, v10, 0))), (0, .ref (A (0, 0, 0))), (1, .int a1), (2, .int a2), (3, .int a3), (4, .int a4)]) hx hb dX10_write_20 hl (by decide) rfl (fun ls hl => ?_)
  refine lv_aload_n hx hb dX10_write_22 rfl (lv_at hl 1 rfl) ?_
  refine lv_aload hx hb dX10_write_23 (lv_at hl 0 rfl) ?_
  refine lv_iload_n hx hb dX10_write_25 rfl (lv_at hl 3 rfl) ?_
  refine lv_iconst (v := (0 : Int32)) hx hb dX10_write_26 (by decide) ?_
  obtain ⟨v15, M14, hc13, h⟩ := ob_e h
  refine c_l X Z (c_V (i := (0, 0, 0)) (As := [.ref (A (30, v10, 0)), .int a2, .int (0 : Int32)]) (rest := []) S X hN Z (cl_one N 0 (by decide)) rfl rfl (t_X10_obtainKind l N D dA A hJ (cl_cli hv10) hc13) (cwV 3 hts (tGV (cB 643 rfl) (cB 644 rfl) (cB 645 rfl) (cB 107 rfl) (cB 639 rfl)) rfl rfl rfl (by decide +kernel) ⟨Nat.le_of_ble_eq_true rfl, Nat.le_of_ble_eq_true rfl⟩) rfl hl.1 rfl (Nat.le_of_ble_eq_true rfl) dX10_write_27 ⟨Nat.le_of_ble_eq_true rfl, Nat.le_of_ble_eq_true rfl⟩) (fun H locs Z => ?_)
  refine lv_lstore (lv' := [(6, .long v15), (5, .ref (A (30, v10, 0))), (0, .ref (A (0, 0, 0))), (1, .int a1), (2, .int a2), (3, .int a3), (4, .int a4)]) hx hb dX10_write_30 hl (by decide) rfl (fun ls hl => ?_)
  refine lv_lload hx hb dX10_write_32 (lv_at hl 0 rfl) ?_
  refine lv_lconst (v := (0 : Int64)) hx hb dX10_write_34 (by decide) ?_
  refine W.lcmp hx hb dX10_write_35 ?_
  refine lv_if_eq (tgt := 42) hx hb dX10_write_36 (by decide) (fun c16 => ?_) (fun c16 => ?_)
  · have h := if_t c16 h
    refine lv_aload_n hx hb dX10_write_42 rfl (lv_at hl 2 rfl) ?_
    refine lv_aload hx hb dX10_write_43 (lv_at hl 1 rfl) ?_
    obtain ⟨v18, hc17, h⟩ := o1_e h
    refine c_i X Z (c_V (i := (0, 0, 0)) (As := [.ref (A (30, v10, 0))]) (rest := []) S X hN Z (cl_one N 0 (by decide)) rfl rfl (t_X10_isAlone l N D dA A hJ (cl_cli hv10) hc17) (cwV 1 hts (tGV (cB 612 rfl) (cB 613 rfl) (cB 614 rfl) (cB 107 rfl) (cB 605 rfl)) rfl rfl rfl (by decide +kernel) ⟨Nat.le_of_ble_eq_true rfl, Nat.le_of_ble_eq_true rfl⟩) rfl hl.1 rfl (Nat.le_of_ble_eq_true rfl) dX10_write_45 ⟨Nat.le_of_ble_eq_true rfl, Nat.le_of_ble_eq_true rfl⟩) (fun H locs Z => ?_)
    refine lv_if_eq (tgt := 63) hx hb dX10_write_48 (by decide) (fun c19 => ?_) (fun c19 => ?_)
    · have h := if_t c19 h
      refine lv_aload_n hx hb dX10_write_63 rfl (lv_at hl 2 rfl) ?_
      refine lv_aload hx hb dX10_write_64 (lv_at hl 1 rfl) ?_
      refine lv_iload_n hx hb dX10_write_66 rfl (lv_at hl 4 rfl) ?_
      refine lv_iload_n hx hb dX10_write_67 rfl (lv_at hl 5 rfl) ?_
      refine lv_iload hx hb dX10_write_68 (lv_at hl 6 rfl) ?_
      obtain ⟨v22, M21, hc20, h⟩ := ob_e h
      refine c_l X Z (c_V (i := (0, 0, 0)) (As := [.ref (A (30, v10, 0)), .int a2, .int a3, .int a4]) (rest := []) S X hN Z (cl_one N 0 (by decide)) rfl rfl (t_X10_writeNear l N D dA A hJ (cl_cli hv10) hc20) (cwV 4 hts (tGV (cB 669 rfl) (cB 670 rfl) (cB 671 rfl) (cB 107 rfl) (cB 665 rfl)) rfl rfl rfl (by decide +kernel) ⟨Nat.le_of_ble_eq_true rfl, Nat.le_of_ble_eq_true rfl⟩) rfl hl.1 rfl (Nat.le_of_ble_eq_true rfl) dX10_write_70 ⟨Nat.le_of_ble_eq_true rfl, Nat.le_of_ble_eq_true rfl⟩) (fun H locs Z => ?_)
      have hy := Option.some.inj h
      subst hy
      exact t_rl S Z hr hlocks dX10_write_73
    · have h := if_f c19 h
      refine lv_aload hx hb dX10_write_51 (lv_at hl 1 rfl) ?_
      refine lv_iload_n hx hb dX10_write_53 rfl (lv_at hl 4 rfl) ?_
      refine lv_iload_n hx hb dX10_write_54 rfl (lv_at hl 5 rfl) ?_
      refine lv_iload hx hb dX10_write_55 (lv_at hl 6 rfl) ?_
      obtain ⟨v25, M24, hc23, h⟩ := ob_e h
      refine c_l X Z (c_V (i := (30, v10, 0)) (As := [.int a2, .int a3, .int a4]) (rest := []) S X hN Z (cl_cli hv10) rfl rfl (t_X1_writeAlone l N D dA A hJ (cl_cli hv10) hc23) (cwV 3 hts (tGV (cB 666 rfl) (cB 667 rfl) (cB 668 rfl) (cB 64 rfl) (cB 147 rfl)) rfl rfl rfl (by decide +kernel) ⟨Nat.le_of_ble_eq_true rfl, Nat.le_of_ble_eq_true rfl⟩) rfl hl.1 rfl (Nat.le_of_ble_eq_true rfl) dX10_write_57 ⟨Nat.le_of_ble_eq_true rfl, Nat.le_of_ble_eq_true rfl⟩) (fun H locs Z => ?_)
      refine lv_goto (tgt := 73) hx hb dX10_write_60 (by decide) ?_
      have hy := Option.some.inj h
      subst hy
      exact t_rl S Z hr hlocks dX10_write_73
  · have h := if_f c16 h
    refine lv_lload hx hb dX10_write_39 (lv_at hl 0 rfl) ?_
    have hy := Option.some.inj h
    subst hy
    exact t_rl S Z hr hlocks dX10_write_41
-- X10_make (IIIZ)J: 46 instructions
theorem dX10_make_0 : decode cX10_make 0 = .ok (.iload_n 1, 1) := by decide +kernel
theorem dX10_make_1 : decode cX10_make 1 = .ok (.invokestatic 110, 3) := by decide +kernel
theorem dX10_make_4 : decode cX10_make 4 = .ok (.iload_n 2, 1) := by decide +kernel
theorem dX10_make_5 : decode cX10_make 5 = .ok (.invokestatic 113, 3) := by decide +kernel
theorem dX10_make_8 : decode cX10_make 8 = .ok (.iload_n 3, 1) := by decide +kernel
theorem dX10_make_9 : decode cX10_make 9 = .ok (.bipush 15, 2) := by decide +kernel
theorem dX10_make_11 : decode cX10_make 11 = .ok (.invokestatic 116, 3) := by decide +kernel
theorem dX10_make_14 : decode cX10_make 14 = .ok (.aload_n 0, 1) := by decide +kernel
theorem dX10_make_15 : decode cX10_make 15 = .ok (.iload_n 1, 1) := by decide +kernel
theorem dX10_make_16 : decode cX10_make 16 = .ok (.invokevirtual 123, 3) := by decide +kernel
theorem dX10_make_19 : decode cX10_make 19 = .ok (.astore 5, 2) := by decide +kernel
theorem dX10_make_21 : decode cX10_make 21 = .ok (.aload_n 0, 1) := by decide +kernel
theorem dX10_make_22 : decode cX10_make 22 = .ok (.aload 5, 2) := by decide +kernel
theorem dX10_make_24 : decode cX10_make 24 = .ok (.iload_n 2, 1) := by decide +kernel
theorem dX10_make_25 : decode cX10_make 25 = .ok (.iconst 1, 1) := by decide +kernel
theorem dX10_make_26 : decode cX10_make 26 = .ok (.invokevirtual 127, 3) := by decide +kernel
theorem dX10_make_29 : decode cX10_make 29 = .ok (.lstore 6, 2) := by decide +kernel
theorem dX10_make_31 : decode cX10_make 31 = .ok (.lload 6, 2) := by decide +kernel
theorem dX10_make_33 : decode cX10_make 33 = .ok (.lconst 0, 1) := by decide +kernel
theorem dX10_make_34 : decode cX10_make 34 = .ok (.lcmp, 1) := by decide +kernel
theorem dX10_make_35 : decode cX10_make 35 = .ok (.ifCond .eq 6, 3) := by decide +kernel
theorem dX10_make_38 : decode cX10_make 38 = .ok (.lload 6, 2) := by decide +kernel
theorem dX10_make_40 : decode cX10_make 40 = .ok (.lreturn, 1) := by decide +kernel
theorem dX10_make_41 : decode cX10_make 41 = .ok (.aload_n 0, 1) := by decide +kernel
theorem dX10_make_42 : decode cX10_make 42 = .ok (.getfield 25, 3) := by decide +kernel
theorem dX10_make_45 : decode cX10_make 45 = .ok (.invokevirtual 156, 3) := by decide +kernel
theorem dX10_make_48 : decode cX10_make 48 = .ok (.ifCond .eq 7, 3) := by decide +kernel
theorem dX10_make_51 : decode cX10_make 51 = .ok (.ldc2_w 160, 3) := by decide +kernel
theorem dX10_make_54 : decode cX10_make 54 = .ok (.lreturn, 1) := by decide +kernel
theorem dX10_make_55 : decode cX10_make 55 = .ok (.aload_n 0, 1) := by decide +kernel
theorem dX10_make_56 : decode cX10_make 56 = .ok (.aload 5, 2) := by decide +kernel
theorem dX10_make_58 : decode cX10_make 58 = .ok (.invokevirtual 144, 3) := by decide +kernel
theorem dX10_make_61 : decode cX10_make 61 = .ok (.ifCond .eq 15, 3) := by decide +kernel
theorem dX10_make_64 : decode cX10_make 64 = .ok (.aload 5, 2) := by decide +kernel
theorem dX10_make_66 : decode cX10_make 66 = .ok (.iload_n 2, 1) := by decide +kernel
theorem dX10_make_67 : decode cX10_make 67 = .ok (.iload_n 3, 1) := by decide +kernel
theorem dX10_make_68 : decode cX10_make 68 = .ok (.iload 4, 2) := by decide +kernel
theorem dX10_make_70 : decode cX10_make 70 = .ok (.invokevirtual 162, 3) := by decide +kernel
theorem dX10_make_73 : decode cX10_make 73 = .ok (.goto 13, 3) := by decide +kernel
theorem dX10_make_76 : decode cX10_make 76 = .ok (.aload_n 0, 1) := by decide +kernel
theorem dX10_make_77 : decode cX10_make 77 = .ok (.aload 5, 2) := by decide +kernel
theorem dX10_make_79 : decode cX10_make 79 = .ok (.iload_n 2, 1) := by decide +kernel
theorem dX10_make_80 : decode cX10_make 80 = .ok (.iload_n 3, 1) := by decide +kernel
theorem dX10_make_81 : decode cX10_make 81 = .ok (.iload 4, 2) := by decide +kernel
theorem dX10_make_83 : decode cX10_make 83 = .ok (.invokevirtual 166, 3) := by decide +kernel
theorem dX10_make_86 : decode cX10_make 86 = .ok (.lreturn, 1) := by decide +kernel
abbrev wmX10_make : List Cond := .code yX10_make cX10_make 8 (some .long) :: tBig
def f_X10_make (N : Nat) (M : gM) (a1 : Int32) (a2 : Int32) (a3 : Int32) (a4 : Int32) : Option (Nat × Int64 × gM) :=
  o1 (f_X10_checkClient N M a1) (fun k1 => (if k1 = 0 then o1 (f_X10_checkObject N M a2) (fun k4 => (if k4 = 0 then o1 (f_X10_checkArgument N M a3 (15 : Int32)) (fun k7 => (if k7 = 0 then ob (f_X10_startCall N M a1) (fun v10 M11 => gnl v10 4 (ob (f_X10_obtainKind N M11 v10 a2 (1 : Int32)) (fun v15 M14 => (if (lg_cmp v15 (0 : Int64)) = 0 then o1 (f_X0_isFull N M14 ) (fun v18 => (if v18 = 0 then o1 (f_X10_isAlone N M14 v10) (fun v21 => (if v21 = 0 then ob (f_X10_makeNear N M14 v10 a2 a3 a4) (fun v25 M24 => some (0, v25, M24)) else ob (f_X1_makeAlone N M14 v10 a2 a3 a4) (fun v28 M27 => some (0, v28, M27)))) else some (0, (-2199023255557 : Int64), M14))) else some (0, v15, M14))))) else some (k7, (0 : Int64), M))) else some (k4, (0 : Int64), M))) else some (k1, (0 : Int64), M)))
set_option maxHeartbeats 4000000 in
set_option maxRecDepth 100000 in
theorem t_X10_make (l : Launch) (hst : l.stackTraces = false) (N : Nat) (D : va_G) (dA : Nat → ClassId) (A : gI → Nat) (hJ : gJ (cLive N) A) (tx : Nat → Nat) (sz : Nat) {M : gM} {a1 : Int32} {a2 : Int32} {a3 : Int32} {a4 : Int32} {y : (Nat × Int64 × gM)} (h : f_X10_make N M a1 a2 a3 a4 = some y) : tMl l yX10_make wmX10_make ({ frames := 7, cells := 3, slots := 18, locals := 168 } : Room) N D dA A tx sz [.ref (A (0, 0, 0)), .int a1, .int a2, .int a3, .int a4] M y 3 18 := by
  refine vx_ofW (cc := cX10_make) (maxL := 8) (ret := (some .long)) (by decide) rfl ?_
  intro p e s m args below meth c s₁ B hml hout hv
  obtain ⟨rfl, hsz, hP, hK, hN, hT⟩ := hv
  subst hsz
  generalize hargs : ([.ref (A (0, 0, 0)), .int a1, .int a2, .int a3, .int a4] : List Value).toArray = args at B ⊢
  have S : CallFix p m c cX10_make 8 s args wmX10_make RX10 := ⟨B.exec, B.bytes, hml, findClass_of_methodNamed B.named, atoms_spec (ws := wmX10_make) B.pre⟩
  obtain ⟨hx, hb, -, hown, hts⟩ := id S
  have hr := B.returns
  have hlocks := B.notSynchronized
  have X : gX D vwCl dA (cLive N) A (cReg N A s.heap.size) s := ⟨hK, hJ, fun i hi => Or.inl ⟨i, hi, rfl⟩⟩
  have Z : tZ D N dA A s M s.heap [] := ⟨hP, va_S.rf⟩
  have hin_X10 : ∀ w ∈ wsX100, w ∈ wmX10_make := tin cin_X10 (Or.inr trivial)
  have hl_25 := hts (.fieldLink RX10 25 "ReplicaFiles" "catalog" "LReplicaFiles$Catalog;") (tBc 532 rfl)
  have hc_160 := hts (.constantLong RX10 160 (-2199023255557)) (tBc 679 rfl)
  have hl := lv_entry ([.ref (A (0, 0, 0)), .int a1, .int a2, .int a3, .int a4]) (n := 8) (Nat.le_of_ble_eq_true rfl)
  rw [← hargs, lg_entry_eq, hargs]
  generalize (lg_sl ([.ref (A (0, 0, 0)), .int a1, .int a2, .int a3, .int a4]) ++ List.replicate (8 - (lg_sl ([.ref (A (0, 0, 0)), .int a1, .int a2, .int a3, .int a4])).length) Slot.unset).toArray = ls at hl ⊢
  have hl : lv_has ls 8 [(0, .ref (A (0, 0, 0))), (1, .int a1), (2, .int a2), (3, .int a3), (4, .int a4)] := hl
  unfold f_X10_make at h
  refine lv_iload_n hx hb dX10_make_0 rfl (lv_at hl 1 rfl) ?_
  obtain ⟨k1, hc2, h⟩ := o1_e h
  refine t_chk X Z (vx_runS (As := [.int a1]) (rest := []) S (t_X10_checkClient l hst N D dA A hJ tx _ hc2) (va_cwS 1 hts (tTS (tB 591 rfl) (tB 592 rfl) (tB 107 rfl) (tB 585 rfl)) rfl rfl rfl (by decide +kernel) ⟨Nat.le_of_ble_eq_true rfl, Nat.le_of_ble_eq_true rfl⟩) ⟨tPc.blind, t_pre X hN hT Z _⟩ rfl rfl hl.1 rfl (lv_room (m := m) (pc := 1) (ls := ls) (rest := [.int a1]) (Nat.le_of_ble_eq_true rfl)) dX10_make_1 ⟨Nat.le_of_ble_eq_true rfl, Nat.le_of_ble_eq_true rfl⟩) (fun hk3 ce q9 H locs Z hce hcv hcl => ?_) (fun hk3 H locs Z => ?_)
  · have h := if_f hk3 h
    have hy := Option.some.inj h
    subst hy
    exact t_out hk3 hout hlocks Z hce hcv hcl (Nat.le_of_ble_eq_true rfl) (Nat.le_of_ble_eq_true rfl)
  have h := if_t hk3 h
  refine lv_iload_n hx hb dX10_make_4 rfl (lv_at hl 2 rfl) ?_
  obtain ⟨k4, hc5, h⟩ := o1_e h
  refine t_chk X Z (vx_runS (As := [.int a2]) (rest := []) S (t_X10_checkObject l hst N D dA A hJ tx _ hc5) (va_cwS 1 hts (tTS (tB 593 rfl) (tB 594 rfl) (tB 107 rfl) (tB 586 rfl)) rfl rfl rfl (by decide +kernel) ⟨Nat.le_of_ble_eq_true rfl, Nat.le_of_ble_eq_true rfl⟩) ⟨tPc.blind, t_pre X hN hT Z _⟩ rfl rfl hl.1 rfl (lv_room (m := m) (pc := 5) (ls := ls) (rest := [.int a2]) (Nat.le_of_ble_eq_true rfl)) dX10_make_5 ⟨Nat.le_of_ble_eq_true rfl, Nat.le_of_ble_eq_true rfl⟩) (fun hk6 ce q9 H locs Z hce hcv hcl => ?_) (fun hk6 H locs Z => ?_)
  · have h := if_f hk6 h
    have hy := Option.some.inj h
    subst hy
    exact t_out hk6 hout hlocks Z hce hcv hcl (Nat.le_of_ble_eq_true rfl) (Nat.le_of_ble_eq_true rfl)
  have h := if_t hk6 h
  refine lv_iload_n hx hb dX10_make_8 rfl (lv_at hl 3 rfl) ?_
  refine lv_bipush (v := (15 : Int32)) hx hb dX10_make_9 (by decide) ?_
  obtain ⟨k7, hc8, h⟩ := o1_e h
  refine t_chk X Z (vx_runS (As := [.int a3, .int (15 : Int32)]) (rest := []) S (t_X10_checkArgument l hst N D dA A hJ tx _ hc8) (va_cwS 2 hts (tTS (tB 595 rfl) (tB 596 rfl) (tB 107 rfl) (tB 587 rfl)) rfl rfl rfl (by decide +kernel) ⟨Nat.le_of_ble_eq_true rfl, Nat.le_of_ble_eq_true rfl⟩) ⟨tPc.blind, t_pre X hN hT Z _⟩ rfl rfl hl.1 rfl (lv_room (m := m) (pc := 11) (ls := ls) (rest := [.int (15 : Int32), .int a3]) (Nat.le_of_ble_eq_true rfl)) dX10_make_11 ⟨Nat.le_of_ble_eq_true rfl, Nat.le_of_ble_eq_true rfl⟩) (fun hk9 ce q9 H locs Z hce hcv hcl => ?_) (fun hk9 H locs Z => ?_)
  · have h := if_f hk9 h
    have hy := Option.some.inj h
    subst hy
    exact t_out hk9 hout hlocks Z hce hcv hcl (Nat.le_of_ble_eq_true rfl) (Nat.le_of_ble_eq_true rfl)
  have h := if_t hk9 h
  refine lv_aload_n hx hb dX10_make_14 rfl (lv_at hl 0 rfl) ?_
  refine lv_iload_n hx hb dX10_make_15 rfl (lv_at hl 1 rfl) ?_
  obtain ⟨v10, M11, hc12, h⟩ := ob_e h
  obtain ⟨hv10, h⟩ := gnl_e h
  refine c_r X Z (c_V (i := (0, 0, 0)) (As := [.int a1]) (rest := []) S X hN Z (cl_one N 0 (by decide)) rfl rfl (t_X10_startCall l N D dA A hJ hc12) (cwV 1 hts (tGV (cB 640 rfl) (cB 641 rfl) (cB 642 rfl) (cB 107 rfl) (cB 597 rfl)) rfl rfl rfl (by decide +kernel) ⟨Nat.le_of_ble_eq_true rfl, Nat.le_of_ble_eq_true rfl⟩) rfl hl.1 rfl (Nat.le_of_ble_eq_true rfl) dX10_make_16 ⟨Nat.le_of_ble_eq_true rfl, Nat.le_of_ble_eq_true rfl⟩) (fun H locs Z => ?_)
  refine lv_astore (lv' := [(5, .ref (A (30, v10, 0))), (0, .ref (A (0, 0, 0))), (1, .int a1), (2, .int a2), (3, .int a3), (4, .int a4)]) hx hb dX10_make_19 hl (by decide) rfl (fun ls hl => ?_)
  refine lv_aload_n hx hb dX10_make_21 rfl (lv_at hl 1 rfl) ?_
  refine lv_aload hx hb dX10_make_22 (lv_at hl 0 rfl) ?_
  refine lv_iload_n hx hb dX10_make_24 rfl (lv_at hl 3 rfl) ?_
  refine lv_iconst (v := (1 : Int32)) hx hb dX10_make_25 (by decide) ?_
  obtain ⟨v15, M14, hc13, h⟩ := ob_e h
  refine c_l X Z (c_V (i := (0, 0, 0)) (As := [.ref (A (30, v10, 0)), .int a2, .int (1 : Int32)]) (rest := []) S X hN Z (cl_one N 0 (by decide)) rfl rfl (t_X10_obtainKind l N D dA A hJ (cl_cli hv10) hc13) (cwV 3 hts (tGV (cB 643 rfl) (cB 644 rfl) (cB 645 rfl) (cB 107 rfl) (cB 639 rfl)) rfl rfl rfl (by decide +kernel) ⟨Nat.le_of_ble_eq_true rfl, Nat.le_of_ble_eq_true rfl⟩) rfl hl.1 rfl (Nat.le_of_ble_eq_true rfl) dX10_make_26 ⟨Nat.le_of_ble_eq_true rfl, Nat.le_of_ble_eq_true rfl⟩) (fun H locs Z => ?_)
  refine lv_lstore (lv' := [(6, .long v15), (5, .ref (A (30, v10, 0))), (0, .ref (A (0, 0, 0))), (1, .int a1), (2, .int a2), (3, .int a3), (4, .int a4)]) hx hb dX10_make_29 hl (by decide) rfl (fun ls hl => ?_)
  refine lv_lload hx hb dX10_make_31 (lv_at hl 0 rfl) ?_
  refine lv_lconst (v := (0 : Int64)) hx hb dX10_make_33 (by decide) ?_
  refine W.lcmp hx hb dX10_make_34 ?_
  refine lv_if_eq (tgt := 41) hx hb dX10_make_35 (by decide) (fun c16 => ?_) (fun c16 => ?_)
  · have h := if_t c16 h
    refine lv_aload_n hx hb dX10_make_41 rfl (lv_at hl 2 rfl) ?_
    refine cr_X10_catalog S X Z hin_X10 (cl_one N 0 (by decide)) hl_25 dX10_make_42 ?_
    obtain ⟨v18, hc17, h⟩ := o1_e h
    refine c_i X Z (c_V (i := (1, 0, 0)) (As := []) (rest := []) S X hN Z (cl_one N 1 (by decide)) rfl rfl (t_X0_isFull l N D dA A hJ  hc17) (cwV 0 hts (tGV (cB 680 rfl) (cB 14 rfl) (cB 15 rfl) (cB 16 rfl) (cB 11 rfl)) rfl rfl rfl (by decide +kernel) ⟨Nat.le_of_ble_eq_true rfl, Nat.le_of_ble_eq_true rfl⟩) rfl hl.1 rfl (Nat.le_of_ble_eq_true rfl) dX10_make_45 ⟨Nat.le_of_ble_eq_true rfl, Nat.le_of_ble_eq_true rfl⟩) (fun H locs Z => ?_)
    refine lv_if_eq (tgt := 55) hx hb dX10_make_48 (by decide) (fun c19 => ?_) (fun c19 => ?_)
    · have h := if_t c19 h
      refine lv_aload_n hx hb dX10_make_55 rfl (lv_at hl 2 rfl) ?_
      refine lv_aload hx hb dX10_make_56 (lv_at hl 1 rfl) ?_
      obtain ⟨v21, hc20, h⟩ := o1_e h
      refine c_i X Z (c_V (i := (0, 0, 0)) (As := [.ref (A (30, v10, 0))]) (rest := []) S X hN Z (cl_one N 0 (by decide)) rfl rfl (t_X10_isAlone l N D dA A hJ (cl_cli hv10) hc20) (cwV 1 hts (tGV (cB 612 rfl) (cB 613 rfl) (cB 614 rfl) (cB 107 rfl) (cB 605 rfl)) rfl rfl rfl (by decide +kernel) ⟨Nat.le_of_ble_eq_true rfl, Nat.le_of_ble_eq_true rfl⟩) rfl hl.1 rfl (Nat.le_of_ble_eq_true rfl) dX10_make_58 ⟨Nat.le_of_ble_eq_true rfl, Nat.le_of_ble_eq_true rfl⟩) (fun H locs Z => ?_)
      refine lv_if_eq (tgt := 76) hx hb dX10_make_61 (by decide) (fun c22 => ?_) (fun c22 => ?_)
      · have h := if_t c22 h
        refine lv_aload_n hx hb dX10_make_76 rfl (lv_at hl 2 rfl) ?_
        refine lv_aload hx hb dX10_make_77 (lv_at hl 1 rfl) ?_
        refine lv_iload_n hx hb dX10_make_79 rfl (lv_at hl 4 rfl) ?_
        refine lv_iload_n hx hb dX10_make_80 rfl (lv_at hl 5 rfl) ?_
        refine lv_iload hx hb dX10_make_81 (lv_at hl 6 rfl) ?_
        obtain ⟨v25, M24, hc23, h⟩ := ob_e h
        refine c_l X Z (c_V (i := (0, 0, 0)) (As := [.ref (A (30, v10, 0)), .int a2, .int a3, .int a4]) (rest := []) S X hN Z (cl_one N 0 (by decide)) rfl rfl (t_X10_makeNear l N D dA A hJ (cl_cli hv10) hc23) (cwV 4 hts (tGV (cB 684 rfl) (cB 685 rfl) (cB 686 rfl) (cB 107 rfl) (cB 678 rfl)) rfl rfl rfl (by decide +kernel) ⟨Nat.le_of_ble_eq_true rfl, Nat.le_of_ble_eq_true rfl⟩) rfl hl.1 rfl (Nat.le_of_ble_eq_true rfl) dX10_make_83 ⟨Nat.le_of_ble_eq_true rfl, Nat.le_of_ble_eq_true rfl⟩) (fun H locs Z => ?_)
        have hy := Option.some.inj h
        subst hy
        exact t_rl S Z hr hlocks dX10_make_86
      · have h := if_f c22 h
        refine lv_aload hx hb dX10_make_64 (lv_at hl 1 rfl) ?_
        refine lv_iload_n hx hb dX10_make_66 rfl (lv_at hl 4 rfl) ?_
        refine lv_iload_n hx hb dX10_make_67 rfl (lv_at hl 5 rfl) ?_
        refine lv_iload hx hb dX10_make_68 (lv_at hl 6 rfl) ?_
        obtain ⟨v28, M27, hc26, h⟩ := ob_e h
        refine c_l X Z (c_V (i := (30, v10, 0)) (As := [.int a2, .int a3, .int a4]) (rest := []) S X hN Z (cl_cli hv10) rfl rfl (t_X1_makeAlone l N D dA A hJ (cl_cli hv10) hc26) (cwV 3 hts (tGV (cB 681 rfl) (cB 682 rfl) (cB 683 rfl) (cB 64 rfl) (cB 151 rfl)) rfl rfl rfl (by decide +kernel) ⟨Nat.le_of_ble_eq_true rfl, Nat.le_of_ble_eq_true rfl⟩) rfl hl.1 rfl (Nat.le_of_ble_eq_true rfl) dX10_make_70 ⟨Nat.le_of_ble_eq_true rfl, Nat.le_of_ble_eq_true rfl⟩) (fun H locs Z => ?_)
        refine lv_goto (tgt := 86) hx hb dX10_make_73 (by decide) ?_
        have hy := Option.some.inj h
        subst hy
        exact t_rl S Z hr hlocks dX10_make_86
    · have h := if_f c19 h
      refine lv_ldc2 hx hb hown hc_160 dX10_make_51 ?_
      have hy := Option.some.inj h
      subst hy
      exact t_rl S Z hr hlocks dX10_make_54
  · have h := if_f c16 h
    refine lv_lload hx hb dX10_make_38 (lv_at hl 0 rfl) ?_
    have hy := Option.some.inj h
    subst hy
    exact t_rl S Z hr hlocks dX10_make_40
-- X10_remove (III)J: 64 instructions
theorem dX10_remove_0 : decode cX10_remove 0 = .ok (.iload_n 1, 1) := by decide +kernel
theorem dX10_remove_1 : decode cX10_remove 1 = .ok (.invokestatic 110, 3) := by decide +kernel
theorem dX10_remove_4 : decode cX10_remove 4 = .ok (.iload_n 2, 1) := by decide +kernel
theorem dX10_remove_5 : decode cX10_remove 5 = .ok (.invokestatic 113, 3) := by decide +kernel
theorem dX10_remove_8 : decode cX10_remove 8 = .ok (.iload_n 3, 1) := by decide +kernel
theorem dX10_remove_9 : decode cX10_remove 9 = .ok (.invokestatic 113, 3) := by decide +kernel
theorem dX10_remove_12 : decode cX10_remove 12 = .ok (.aload_n 0, 1) := by decide +kernel
theorem dX10_remove_13 : decode cX10_remove 13 = .ok (.iload_n 1, 1) := by decide +kernel
theorem dX10_remove_14 : decode cX10_remove 14 = .ok (.invokevirtual 123, 3) := by decide +kernel
theorem dX10_remove_17 : decode cX10_remove 17 = .ok (.astore 4, 2) := by decide +kernel
theorem dX10_remove_19 : decode cX10_remove 19 = .ok (.aload_n 0, 1) := by decide +kernel
theorem dX10_remove_20 : decode cX10_remove 20 = .ok (.aload 4, 2) := by decide +kernel
theorem dX10_remove_22 : decode cX10_remove 22 = .ok (.iload_n 2, 1) := by decide +kernel
theorem dX10_remove_23 : decode cX10_remove 23 = .ok (.iconst 1, 1) := by decide +kernel
theorem dX10_remove_24 : decode cX10_remove 24 = .ok (.invokevirtual 127, 3) := by decide +kernel
theorem dX10_remove_27 : decode cX10_remove 27 = .ok (.lstore 5, 2) := by decide +kernel
theorem dX10_remove_29 : decode cX10_remove 29 = .ok (.lload 5, 2) := by decide +kernel
theorem dX10_remove_31 : decode cX10_remove 31 = .ok (.lconst 0, 1) := by decide +kernel
theorem dX10_remove_32 : decode cX10_remove 32 = .ok (.lcmp, 1) := by decide +kernel
theorem dX10_remove_33 : decode cX10_remove 33 = .ok (.ifCond .eq 6, 3) := by decide +kernel
theorem dX10_remove_36 : decode cX10_remove 36 = .ok (.lload 5, 2) := by decide +kernel
theorem dX10_remove_38 : decode cX10_remove 38 = .ok (.lreturn, 1) := by decide +kernel
theorem dX10_remove_39 : decode cX10_remove 39 = .ok (.aload 4, 2) := by decide +kernel
theorem dX10_remove_41 : decode cX10_remove 41 = .ok (.getfield 131, 3) := by decide +kernel
theorem dX10_remove_44 : decode cX10_remove 44 = .ok (.iload_n 2, 1) := by decide +kernel
theorem dX10_remove_45 : decode cX10_remove 45 = .ok (.iload_n 3, 1) := by decide +kernel
theorem dX10_remove_46 : decode cX10_remove 46 = .ok (.invokevirtual 170, 3) := by decide +kernel
theorem dX10_remove_49 : decode cX10_remove 49 = .ok (.ifCond .ne 7, 3) := by decide +kernel
theorem dX10_remove_52 : decode cX10_remove 52 = .ok (.ldc2_w 174, 3) := by decide +kernel
theorem dX10_remove_55 : decode cX10_remove 55 = .ok (.lreturn, 1) := by decide +kernel
theorem dX10_remove_56 : decode cX10_remove 56 = .ok (.aload_n 0, 1) := by decide +kernel
theorem dX10_remove_57 : decode cX10_remove 57 = .ok (.aload 4, 2) := by decide +kernel
theorem dX10_remove_59 : decode cX10_remove 59 = .ok (.iload_n 3, 1) := by decide +kernel
theorem dX10_remove_60 : decode cX10_remove 60 = .ok (.bipush 10, 2) := by decide +kernel
theorem dX10_remove_62 : decode cX10_remove 62 = .ok (.invokevirtual 176, 3) := by decide +kernel
theorem dX10_remove_65 : decode cX10_remove 65 = .ok (.lstore 5, 2) := by decide +kernel
theorem dX10_remove_67 : decode cX10_remove 67 = .ok (.lload 5, 2) := by decide +kernel
theorem dX10_remove_69 : decode cX10_remove 69 = .ok (.lconst 0, 1) := by decide +kernel
theorem dX10_remove_70 : decode cX10_remove 70 = .ok (.lcmp, 1) := by decide +kernel
theorem dX10_remove_71 : decode cX10_remove 71 = .ok (.ifCond .eq 6, 3) := by decide +kernel
theorem dX10_remove_74 : decode cX10_remove 74 = .ok (.lload 5, 2) := by decide +kernel
theorem dX10_remove_76 : decode cX10_remove 76 = .ok (.lreturn, 1) := by decide +kernel
theorem dX10_remove_77 : decode cX10_remove 77 = .ok (.aload 4, 2) := by decide +kernel
theorem dX10_remove_79 : decode cX10_remove 79 = .ok (.getfield 131, 3) := by decide +kernel
theorem dX10_remove_82 : decode cX10_remove 82 = .ok (.iload_n 3, 1) := by decide +kernel
theorem dX10_remove_83 : decode cX10_remove 83 = .ok (.invokevirtual 180, 3) := by decide +kernel
theorem dX10_remove_86 : decode cX10_remove 86 = .ok (.ifCond .le 7, 3) := by decide +kernel
theorem dX10_remove_89 : decode cX10_remove 89 = .ok (.ldc2_w 160, 3) := by decide +kernel
theorem dX10_remove_92 : decode cX10_remove 92 = .ok (.lreturn, 1) := by decide +kernel
theorem dX10_remove_93 : decode cX10_remove 93 = .ok (.aload_n 0, 1) := by decide +kernel
theorem dX10_remove_94 : decode cX10_remove 94 = .ok (.aload 4, 2) := by decide +kernel
theorem dX10_remove_96 : decode cX10_remove 96 = .ok (.invokevirtual 144, 3) := by decide +kernel
theorem dX10_remove_99 : decode cX10_remove 99 = .ok (.ifCond .eq 13, 3) := by decide +kernel
theorem dX10_remove_102 : decode cX10_remove 102 = .ok (.aload 4, 2) := by decide +kernel
theorem dX10_remove_104 : decode cX10_remove 104 = .ok (.iload_n 2, 1) := by decide +kernel
theorem dX10_remove_105 : decode cX10_remove 105 = .ok (.iload_n 3, 1) := by decide +kernel
theorem dX10_remove_106 : decode cX10_remove 106 = .ok (.invokevirtual 184, 3) := by decide +kernel
theorem dX10_remove_109 : decode cX10_remove 109 = .ok (.goto 11, 3) := by decide +kernel
theorem dX10_remove_112 : decode cX10_remove 112 = .ok (.aload_n 0, 1) := by decide +kernel
theorem dX10_remove_113 : decode cX10_remove 113 = .ok (.aload 4, 2) := by decide +kernel
theorem dX10_remove_115 : decode cX10_remove 115 = .ok (.iload_n 2, 1) := by decide +kernel
theorem dX10_remove_116 : decode cX10_remove 116 = .ok (.iload_n 3, 1) := by decide +kernel
theorem dX10_remove_117 : decode cX10_remove 117 = .ok (.invokevirtual 187, 3) := by decide +kernel
theorem dX10_remove_120 : decode cX10_remove 120 = .ok (.lreturn, 1) := by decide +kernel
abbrev wmX10_remove : List Cond := .code yX10_remove cX10_remove 7 (some .long) :: tBig
def f_X10_remove (N : Nat) (M : gM) (a1 : Int32) (a2 : Int32) (a3 : Int32) : Option (Nat × Int64 × gM) :=
  o1 (f_X10_checkClient N M a1) (fun k1 => (if k1 = 0 then o1 (f_X10_checkObject N M a2) (fun k4 => (if k4 = 0 then o1 (f_X10_checkObject N M a3) (fun k7 => (if k7 = 0 then ob (f_X10_startCall N M a1) (fun v10 M11 => gnl v10 4 (ob (f_X10_obtainKind N M11 v10 a2 (1 : Int32)) (fun v15 M14 => (if (lg_cmp v15 (0 : Int64)) = 0 then o1 (f_X8_isThereIn N M14 (4 + v10) a2 a3) (fun v18 => (if v18 = 0 then some (0, (-2199023255552 : Int64), M14) else ob (f_X10_obtain N M14 v10 a3 (10 : Int32)) (fun v22 M21 => (if (lg_cmp v22 (0 : Int64)) = 0 then o1 (f_X8_thereIn N M21 (4 + v10) a3) (fun v25 => (if v25 ≤ 0 then o1 (f_X10_isAlone N M21 v10) (fun v28 => (if v28 = 0 then ob (f_X10_removeNear N M21 v10 a2 a3) (fun v32 M31 => some (0, v32, M31)) else ob (f_X1_removeAlone N M21 v10 a2 a3) (fun v35 M34 => some (0, v35, M34)))) else some (0, (-2199023255557 : Int64), M21))) else some (0, v22, M21))))) else some (0, v15, M14))))) else some (k7, (0 : Int64), M))) else some (k4, (0 : Int64), M))) else some (k1, (0 : Int64), M)))
set_option maxHeartbeats 4000000 in
set_option maxRecDepth 100000 in
theorem t_X10_remove (l : Launch) (hst : l.stackTraces = false) (N : Nat) (D : va_G) (dA : Nat → ClassId) (A : gI → Nat) (hJ : gJ (cLive N) A) (tx : Nat → Nat) (sz : Nat) {M : gM} {a1 : Int32} {a2 : Int32} {a3 : Int32} {y : (Nat × Int64 × gM)} (h : f_X10_remove N M a1 a2 a3 = some y) : tMl l yX10_remove wmX10_remove ({ frames := 7, cells := 3, slots := 18, locals := 168 } : Room) N D dA A tx sz [.ref (A (0, 0, 0)), .int a1, .int a2, .int a3] M y 3 18 := by
  refine vx_ofW (cc := cX10_remove) (maxL := 7) (ret := (some .long)) (by decide) rfl ?_
  intro p e s m args below meth c s₁ B hml hout hv
  obtain ⟨rfl, hsz, hP, hK, hN, hT⟩ := hv
  subst hsz
  generalize hargs : ([.ref (A (0, 0, 0)), .int a1, .int a2, .int a3] : List Value).toArray = args at B ⊢
  have S : CallFix p m c cX10_remove 7 s args wmX10_remove RX10 := ⟨B.exec, B.bytes, hml, findClass_of_methodNamed B.named, atoms_spec (ws := wmX10_remove) B.pre⟩
  obtain ⟨hx, hb, -, hown, hts⟩ := id S
  have hr := B.returns
  have hlocks := B.notSynchronized
  have X : gX D vwCl dA (cLive N) A (cReg N A s.heap.size) s := ⟨hK, hJ, fun i hi => Or.inl ⟨i, hi, rfl⟩⟩
  have Z : tZ D N dA A s M s.heap [] := ⟨hP, va_S.rf⟩
  have hin_X1 : ∀ w ∈ wsX10, w ∈ wmX10_remove := tin cin_X1 (Or.inr trivial)
  have hl_131 := va_Nw.use (A := args) rfl (hN.1 ("ReplicaFiles", 131, "ReplicaFiles$Client", "tree", "LReplicaFiles$Tree;", "ReplicaFiles") (by decide +kernel))
  have hc_160 := hts (.constantLong RX10 160 (-2199023255557)) (tBc 679 rfl)
  have hc_174 := hts (.constantLong RX10 174 (-2199023255552)) (tBc 602 rfl)
  have hl := lv_entry ([.ref (A (0, 0, 0)), .int a1, .int a2, .int a3]) (n := 7) (Nat.le_of_ble_eq_true rfl)
  rw [← hargs, lg_entry_eq, hargs]
  generalize (lg_sl ([.ref (A (0, 0, 0)), .int a1, .int a2, .int a3]) ++ List.replicate (7 - (lg_sl ([.ref (A (0, 0, 0)), .int a1, .int a2, .int a3])).length) Slot.unset).toArray = ls at hl ⊢
  have hl : lv_has ls 7 [(0, .ref (A (0, 0, 0))), (1, .int a1), (2, .int a2), (3, .int a3)] := hl
  unfold f_X10_remove at h
  refine lv_iload_n hx hb dX10_remove_0 rfl (lv_at hl 1 rfl) ?_
  obtain ⟨k1, hc2, h⟩ := o1_e h
  refine t_chk X Z (vx_runS (As := [.int a1]) (rest := []) S (t_X10_checkClient l hst N D dA A hJ tx _ hc2) (va_cwS 1 hts (tTS (tB 591 rfl) (tB 592 rfl) (tB 107 rfl) (tB 585 rfl)) rfl rfl rfl (by decide +kernel) ⟨Nat.le_of_ble_eq_true rfl, Nat.le_of_ble_eq_true rfl⟩) ⟨tPc.blind, t_pre X hN hT Z _⟩ rfl rfl hl.1 rfl (lv_room (m := m) (pc := 1) (ls := ls) (rest := [.int a1]) (Nat.le_of_ble_eq_true rfl)) dX10_remove_1 ⟨Nat.le_of_ble_eq_true rfl, Nat.le_of_ble_eq_true rfl⟩) (fun hk3 ce q9 H locs Z hce hcv hcl => ?_) (fun hk3 H locs Z => ?_)
  · have h := if_f hk3 h
    have hy := Option.some.inj h
    subst hy
    exact t_out hk3 hout hlocks Z hce hcv hcl (Nat.le_of_ble_eq_true rfl) (Nat.le_of_ble_eq_true rfl)
  have h := if_t hk3 h
  refine lv_iload_n hx hb dX10_remove_4 rfl (lv_at hl 2 rfl) ?_
  obtain ⟨k4, hc5, h⟩ := o1_e h
  refine t_chk X Z (vx_runS (As := [.int a2]) (rest := []) S (t_X10_checkObject l hst N D dA A hJ tx _ hc5) (va_cwS 1 hts (tTS (tB 593 rfl) (tB 594 rfl) (tB 107 rfl) (tB 586 rfl)) rfl rfl rfl (by decide +kernel) ⟨Nat.le_of_ble_eq_true rfl, Nat.le_of_ble_eq_true rfl⟩) ⟨tPc.blind, t_pre X hN hT Z _⟩ rfl rfl hl.1 rfl (lv_room (m := m) (pc := 5) (ls := ls) (rest := [.int a2]) (Nat.le_of_ble_eq_true rfl)) dX10_remove_5 ⟨Nat.le_of_ble_eq_true rfl, Nat.le_of_ble_eq_true rfl⟩) (fun hk6 ce q9 H locs Z hce hcv hcl => ?_) (fun hk6 H locs Z => ?_)
  · have h := if_f hk6 h
    have hy := Option.some.inj h
    subst hy
    exact t_out hk6 hout hlocks Z hce hcv hcl (Nat.le_of_ble_eq_true rfl) (Nat.le_of_ble_eq_true rfl)
  have h := if_t hk6 h
  refine lv_iload_n hx hb dX10_remove_8 rfl (lv_at hl 3 rfl) ?_
  obtain ⟨k7, hc8, h⟩ := o1_e h
  refine t_chk X Z (vx_runS (As := [.int a3]) (rest := []) S (t_X10_checkObject l hst N D dA A hJ tx _ hc8) (va_cwS 1 hts (tTS (tB 593 rfl) (tB 594 rfl) (tB 107 rfl) (tB 586 rfl)) rfl rfl rfl (by decide +kernel) ⟨Nat.le_of_ble_eq_true rfl, Nat.le_of_ble_eq_true rfl⟩) ⟨tPc.blind, t_pre X hN hT Z _⟩ rfl rfl hl.1 rfl (lv_room (m := m) (pc := 9) (ls := ls) (rest := [.int a3]) (Nat.le_of_ble_eq_true rfl)) dX10_remove_9 ⟨Nat.le_of_ble_eq_true rfl, Nat.le_of_ble_eq_true rfl⟩) (fun hk9 ce q9 H locs Z hce hcv hcl => ?_) (fun hk9 H locs Z => ?_)
  · have h := if_f hk9 h
    have hy := Option.some.inj h
    subst hy
    exact t_out hk9 hout hlocks Z hce hcv hcl (Nat.le_of_ble_eq_true rfl) (Nat.le_of_ble_eq_true rfl)
  have h := if_t hk9 h
  refine lv_aload_n hx hb dX10_remove_12 rfl (lv_at hl 0 rfl) ?_
  refine lv_iload_n hx hb dX10_remove_13 rfl (lv_at hl 1 rfl) ?_
  obtain ⟨v10, M11, hc12, h⟩ := ob_e h
  obtain ⟨hv10, h⟩ := gnl_e h
  refine c_r X Z (c_V (i := (0, 0, 0)) (As := [.int a1]) (rest := []) S X hN Z (cl_one N 0 (by decide)) rfl rfl (t_X10_startCall l N D dA A hJ hc12) (cwV 1 hts (tGV (cB 640 rfl) (cB 641 rfl) (cB 642 rfl) (cB 107 rfl) (cB 597 rfl)) rfl rfl rfl (by decide +kernel) ⟨Nat.le_of_ble_eq_true rfl, Nat.le_of_ble_eq_true rfl⟩) rfl hl.1 rfl (Nat.le_of_ble_eq_true rfl) dX10_remove_14 ⟨Nat.le_of_ble_eq_true rfl, Nat.le_of_ble_eq_true rfl⟩) (fun H locs Z => ?_)
  refine lv_astore (lv' := [(4, .ref (A (30, v10, 0))), (0, .ref (A (0, 0, 0))), (1, .int a1), (2, .int a2), (3, .int a3)]) hx hb dX10_remove_17 hl (by decide) rfl (fun ls hl => ?_)
  refine lv_aload_n hx hb dX10_remove_19 rfl (lv_at hl 1 rfl) ?_
  refine lv_aload hx hb dX10_remove_20 (lv_at hl 0 rfl) ?_
  refine lv_iload_n hx hb dX10_remove_22 rfl (lv_at hl 3 rfl) ?_
  refine lv_iconst (v := (1 : Int32)) hx hb dX10_remove_23 (by decide) ?_
  obtain ⟨v15, M14, hc13, h⟩ := ob_e h
  refine c_l X Z (c_V (i := (0, 0, 0)) (As := [.ref (A (30, v10, 0)), .int a2, .int (1 : Int32)]) (rest := []) S X hN Z (cl_one N 0 (by decide)) rfl rfl (t_X10_obtainKind l N D dA A hJ (cl_cli hv10) hc13) (cwV 3 hts (tGV (cB 643 rfl) (cB 644 rfl) (cB 645 rfl) (cB 107 rfl) (cB 639 rfl)) rfl rfl rfl (by decide +kernel) ⟨Nat.le_of_ble_eq_true rfl, Nat.le_of_ble_eq_true rfl⟩) rfl hl.1 rfl (Nat.le_of_ble_eq_true rfl) dX10_remove_24 ⟨Nat.le_of_ble_eq_true rfl, Nat.le_of_ble_eq_true rfl⟩) (fun H locs Z => ?_)
  refine lv_lstore (lv' := [(5, .long v15), (4, .ref (A (30, v10, 0))), (0, .ref (A (0, 0, 0))), (1, .int a1), (2, .int a2), (3, .int a3)]) hx hb dX10_remove_27 hl (by decide) rfl (fun ls hl => ?_)
  refine lv_lload hx hb dX10_remove_29 (lv_at hl 0 rfl) ?_
  refine lv_lconst (v := (0 : Int64)) hx hb dX10_remove_31 (by decide) ?_
  refine W.lcmp hx hb dX10_remove_32 ?_
  refine lv_if_eq (tgt := 39) hx hb dX10_remove_33 (by decide) (fun c16 => ?_) (fun c16 => ?_)
  · have h := if_t c16 h
    refine lv_aload hx hb dX10_remove_39 (lv_at hl 1 rfl) ?_
    refine cn_X1_tree (a := v10) S X Z hin_X1 (cl_cli hv10) hl_131 dX10_remove_41 ?_
    refine lv_iload_n hx hb dX10_remove_44 rfl (lv_at hl 4 rfl) ?_
    refine lv_iload_n hx hb dX10_remove_45 rfl (lv_at hl 5 rfl) ?_
    obtain ⟨v18, hc17, h⟩ := o1_e h
    refine c_i X Z (c_V (i := (50, (4 + v10), 0)) (As := [.int a2, .int a3]) (rest := []) S X hN Z (cl_ct (cl_cli hv10)) rfl rfl (t_X8_isThereIn l N D dA A hJ (cl_ct (cl_cli hv10)) hc17) (cwV 2 hts (tGV (cB 691 rfl) (cB 271 rfl) (cB 272 rfl) (cB 44 rfl) (cB 265 rfl)) rfl rfl rfl (by decide +kernel) ⟨Nat.le_of_ble_eq_true rfl, Nat.le_of_ble_eq_true rfl⟩) rfl hl.1 rfl (Nat.le_of_ble_eq_true rfl) dX10_remove_46 ⟨Nat.le_of_ble_eq_true rfl, Nat.le_of_ble_eq_true rfl⟩) (fun H locs Z => ?_)
    refine lv_if_ne (tgt := 56) hx hb dX10_remove_49 (by decide) (fun c19 => ?_) (fun c19 => ?_)
    · have h := if_f c19 h
      refine lv_aload_n hx hb dX10_remove_56 rfl (lv_at hl 2 rfl) ?_
      refine lv_aload hx hb dX10_remove_57 (lv_at hl 1 rfl) ?_
      refine lv_iload_n hx hb dX10_remove_59 rfl (lv_at hl 5 rfl) ?_
      refine lv_bipush (v := (10 : Int32)) hx hb dX10_remove_60 (by decide) ?_
      obtain ⟨v22, M21, hc20, h⟩ := ob_e h
      refine c_l X Z (c_V (i := (0, 0, 0)) (As := [.ref (A (30, v10, 0)), .int a3, .int (10 : Int32)]) (rest := []) S X hN Z (cl_one N 0 (by decide)) rfl rfl (t_X10_obtain l N D dA A hJ (cl_cli hv10) hc20) (cwV 3 hts (tGV (cB 636 rfl) (cB 637 rfl) (cB 638 rfl) (cB 107 rfl) (cB 632 rfl)) rfl rfl rfl (by decide +kernel) ⟨Nat.le_of_ble_eq_true rfl, Nat.le_of_ble_eq_true rfl⟩) rfl hl.1 rfl (Nat.le_of_ble_eq_true rfl) dX10_remove_62 ⟨Nat.le_of_ble_eq_true rfl, Nat.le_of_ble_eq_true rfl⟩) (fun H locs Z => ?_)
      refine lv_lstore (lv' := [(5, .long v22), (4, .ref (A (30, v10, 0))), (0, .ref (A (0, 0, 0))), (1, .int a1), (2, .int a2), (3, .int a3)]) hx hb dX10_remove_65 hl (by decide) rfl (fun ls hl => ?_)
      refine lv_lload hx hb dX10_remove_67 (lv_at hl 0 rfl) ?_
      refine lv_lconst (v := (0 : Int64)) hx hb dX10_remove_69 (by decide) ?_
      refine W.lcmp hx hb dX10_remove_70 ?_
      refine lv_if_eq (tgt := 77) hx hb dX10_remove_71 (by decide) (fun c23 => ?_) (fun c23 => ?_)
      · have h := if_t c23 h
        refine lv_aload hx hb dX10_remove_77 (lv_at hl 1 rfl) ?_
        refine cn_X1_tree (a := v10) S X Z hin_X1 (cl_cli hv10) hl_131 dX10_remove_79 ?_
        refine lv_iload_n hx hb dX10_remove_82 rfl (lv_at hl 5 rfl) ?_
        obtain ⟨v25, hc24, h⟩ := o1_e h
        refine c_i X Z (c_V (i := (50, (4 + v10), 0)) (As := [.int a3]) (rest := []) S X hN Z (cl_ct (cl_cli hv10)) rfl rfl (t_X8_thereIn l N D dA A hJ (cl_ct (cl_cli hv10)) hc24) (cwV 1 hts (tGV (cB 692 rfl) (cB 295 rfl) (cB 296 rfl) (cB 44 rfl) (cB 269 rfl)) rfl rfl rfl (by decide +kernel) ⟨Nat.le_of_ble_eq_true rfl, Nat.le_of_ble_eq_true rfl⟩) rfl hl.1 rfl (Nat.le_of_ble_eq_true rfl) dX10_remove_83 ⟨Nat.le_of_ble_eq_true rfl, Nat.le_of_ble_eq_true rfl⟩) (fun H locs Z => ?_)
        refine lv_if_le (tgt := 93) hx hb dX10_remove_86 (by decide) (fun c26 => ?_) (fun c26 => ?_)
        · have h := if_t c26 h
          refine lv_aload_n hx hb dX10_remove_93 rfl (lv_at hl 2 rfl) ?_
          refine lv_aload hx hb dX10_remove_94 (lv_at hl 1 rfl) ?_
          obtain ⟨v28, hc27, h⟩ := o1_e h
          refine c_i X Z (c_V (i := (0, 0, 0)) (As := [.ref (A (30, v10, 0))]) (rest := []) S X hN Z (cl_one N 0 (by decide)) rfl rfl (t_X10_isAlone l N D dA A hJ (cl_cli hv10) hc27) (cwV 1 hts (tGV (cB 612 rfl) (cB 613 rfl) (cB 614 rfl) (cB 107 rfl) (cB 605 rfl)) rfl rfl rfl (by decide +kernel) ⟨Nat.le_of_ble_eq_true rfl, Nat.le_of_ble_eq_true rfl⟩) rfl hl.1 rfl (Nat.le_of_ble_eq_true rfl) dX10_remove_96 ⟨Nat.le_of_ble_eq_true rfl, Nat.le_of_ble_eq_true rfl⟩) (fun H locs Z => ?_)
          refine lv_if_eq (tgt := 112) hx hb dX10_remove_99 (by decide) (fun c29 => ?_) (fun c29 => ?_)
          · have h := if_t c29 h
            refine lv_aload_n hx hb dX10_remove_112 rfl (lv_at hl 2 rfl) ?_
            refine lv_aload hx hb dX10_remove_113 (lv_at hl 1 rfl) ?_
            refine lv_iload_n hx hb dX10_remove_115 rfl (lv_at hl 4 rfl) ?_
            refine lv_iload_n hx hb dX10_remove_116 rfl (lv_at hl 5 rfl) ?_
            obtain ⟨v32, M31, hc30, h⟩ := ob_e h
            refine c_l X Z (c_V (i := (0, 0, 0)) (As := [.ref (A (30, v10, 0)), .int a2, .int a3]) (rest := []) S X hN Z (cl_one N 0 (by decide)) rfl rfl (t_X10_removeNear l N D dA A hJ (cl_cli hv10) hc30) (cwV 3 hts (tGV (cB 696 rfl) (cB 697 rfl) (cB 698 rfl) (cB 107 rfl) (cB 690 rfl)) rfl rfl rfl (by decide +kernel) ⟨Nat.le_of_ble_eq_true rfl, Nat.le_of_ble_eq_true rfl⟩) rfl hl.1 rfl (Nat.le_of_ble_eq_true rfl) dX10_remove_117 ⟨Nat.le_of_ble_eq_true rfl, Nat.le_of_ble_eq_true rfl⟩) (fun H locs Z => ?_)
            have hy := Option.some.inj h
            subst hy
            exact t_rl S Z hr hlocks dX10_remove_120
          · have h := if_f c29 h
            refine lv_aload hx hb dX10_remove_102 (lv_at hl 1 rfl) ?_
            refine lv_iload_n hx hb dX10_remove_104 rfl (lv_at hl 4 rfl) ?_
            refine lv_iload_n hx hb dX10_remove_105 rfl (lv_at hl 5 rfl) ?_
            obtain ⟨v35, M34, hc33, h⟩ := ob_e h
            refine c_l X Z (c_V (i := (30, v10, 0)) (As := [.int a2, .int a3]) (rest := []) S X hN Z (cl_cli hv10) rfl rfl (t_X1_removeAlone l N D dA A hJ (cl_cli hv10) hc33) (cwV 2 hts (tGV (cB 693 rfl) (cB 694 rfl) (cB 695 rfl) (cB 64 rfl) (cB 168 rfl)) rfl rfl rfl (by decide +kernel) ⟨Nat.le_of_ble_eq_true rfl, Nat.le_of_ble_eq_true rfl⟩) rfl hl.1 rfl (Nat.le_of_ble_eq_true rfl) dX10_remove_106 ⟨Nat.le_of_ble_eq_true rfl, Nat.le_of_ble_eq_true rfl⟩) (fun H locs Z => ?_)
            refine lv_goto (tgt := 120) hx hb dX10_remove_109 (by decide) ?_
            have hy := Option.some.inj h
            subst hy
            exact t_rl S Z hr hlocks dX10_remove_120
        · have h := if_f c26 h
          refine lv_ldc2 hx hb hown hc_160 dX10_remove_89 ?_
          have hy := Option.some.inj h
          subst hy
          exact t_rl S Z hr hlocks dX10_remove_92
      · have h := if_f c23 h
        refine lv_lload hx hb dX10_remove_74 (lv_at hl 0 rfl) ?_
        have hy := Option.some.inj h
        subst hy
        exact t_rl S Z hr hlocks dX10_remove_76
    · have h := if_t c19 h
      refine lv_ldc2 hx hb hown hc_174 dX10_remove_52 ?_
      have hy := Option.some.inj h
      subst hy
      exact t_rl S Z hr hlocks dX10_remove_55
  · have h := if_f c16 h
    refine lv_lload hx hb dX10_remove_36 (lv_at hl 0 rfl) ?_
    have hy := Option.some.inj h
    subst hy
    exact t_rl S Z hr hlocks dX10_remove_38
-- X10_handIn (I)J: 28 instructions
theorem dX10_handIn_0 : decode cX10_handIn 0 = .ok (.iload_n 1, 1) := by decide +kernel
theorem dX10_handIn_1 : decode cX10_handIn 1 = .ok (.invokestatic 110, 3) := by decide +kernel
theorem dX10_handIn_4 : decode cX10_handIn 4 = .ok (.aload_n 0, 1) := by decide +kernel
theorem dX10_handIn_5 : decode cX10_handIn 5 = .ok (.getfield 34, 3) := by decide +kernel
theorem dX10_handIn_8 : decode cX10_handIn 8 = .ok (.iload_n 1, 1) := by decide +kernel
theorem dX10_handIn_9 : decode cX10_handIn 9 = .ok (.invokevirtual 190, 3) := by decide +kernel
theorem dX10_handIn_12 : decode cX10_handIn 12 = .ok (.istore_n 2, 1) := by decide +kernel
theorem dX10_handIn_13 : decode cX10_handIn 13 = .ok (.iload_n 2, 1) := by decide +kernel
theorem dX10_handIn_14 : decode cX10_handIn 14 = .ok (.ifCond .ne 7, 3) := by decide +kernel
theorem dX10_handIn_17 : decode cX10_handIn 17 = .ok (.ldc2_w 193, 3) := by decide +kernel
theorem dX10_handIn_20 : decode cX10_handIn 20 = .ok (.lreturn, 1) := by decide +kernel
theorem dX10_handIn_21 : decode cX10_handIn 21 = .ok (.aload_n 0, 1) := by decide +kernel
theorem dX10_handIn_22 : decode cX10_handIn 22 = .ok (.getfield 53, 3) := by decide +kernel
theorem dX10_handIn_25 : decode cX10_handIn 25 = .ok (.iload_n 1, 1) := by decide +kernel
theorem dX10_handIn_26 : decode cX10_handIn 26 = .ok (.aaload, 1) := by decide +kernel
theorem dX10_handIn_27 : decode cX10_handIn 27 = .ok (.astore_n 3, 1) := by decide +kernel
theorem dX10_handIn_28 : decode cX10_handIn 28 = .ok (.aload_n 3, 1) := by decide +kernel
theorem dX10_handIn_29 : decode cX10_handIn 29 = .ok (.getfield 195, 3) := by decide +kernel
theorem dX10_handIn_32 : decode cX10_handIn 32 = .ok (.getfield 199, 3) := by decide +kernel
theorem dX10_handIn_35 : decode cX10_handIn 35 = .ok (.istore 4, 2) := by decide +kernel
theorem dX10_handIn_37 : decode cX10_handIn 37 = .ok (.aload_n 0, 1) := by decide +kernel
theorem dX10_handIn_38 : decode cX10_handIn 38 = .ok (.getfield 74, 3) := by decide +kernel
theorem dX10_handIn_41 : decode cX10_handIn 41 = .ok (.aload_n 3, 1) := by decide +kernel
theorem dX10_handIn_42 : decode cX10_handIn 42 = .ok (.iload_n 2, 1) := by decide +kernel
theorem dX10_handIn_43 : decode cX10_handIn 43 = .ok (.invokevirtual 204, 3) := by decide +kernel
theorem dX10_handIn_46 : decode cX10_handIn 46 = .ok (.iload 4, 2) := by decide +kernel
theorem dX10_handIn_48 : decode cX10_handIn 48 = .ok (.i2l, 1) := by decide +kernel
theorem dX10_handIn_49 : decode cX10_handIn 49 = .ok (.lreturn, 1) := by decide +kernel
abbrev wmX10_handIn : List Cond := .code yX10_handIn cX10_handIn 5 (some .long) :: tBig
def f_X10_handIn (N : Nat) (M : gM) (a1 : Int32) : Option (Nat × Int64 × gM) :=
  o1 (f_X10_checkClient N M a1) (fun k1 => (if k1 = 0 then o1 (f_X5_nearClient N M a1) (fun v5 => (if v5 = 0 then some (0, (-2199023255560 : Int64), M) else ix a1 4 (fun v7 => lt (M (40, v7, 0) 4) (fun v8 => o1 (f_X2_handInAll N M v7 v5) (fun M10 => some (0, v8.toInt64, M10)))))) else some (k1, (0 : Int64), M)))
set_option maxHeartbeats 4000000 in
set_option maxRecDepth 100000 in
theorem t_X10_handIn (l : Launch) (hst : l.stackTraces = false) (N : Nat) (D : va_G) (dA : Nat → ClassId) (A : gI → Nat) (hJ : gJ (cLive N) A) (tx : Nat → Nat) (sz : Nat) {M : gM} {a1 : Int32} {y : (Nat × Int64 × gM)} (h : f_X10_handIn N M a1 = some y) : tMl l yX10_handIn wmX10_handIn ({ frames := 7, cells := 1, slots := 6, locals := 162 } : Room) N D dA A tx sz [.ref (A (0, 0, 0)), .int a1] M y 1 6 := by
  refine vx_ofW (cc := cX10_handIn) (maxL := 5) (ret := (some .long)) (by decide) rfl ?_
  intro p e s m args below meth c s₁ B hml hout hv
  obtain ⟨rfl, hsz, hP, hK, hN, hT⟩ := hv
  subst hsz
  generalize hargs : ([.ref (A (0, 0, 0)), .int a1] : List Value).toArray = args at B ⊢
  have S : CallFix p m c cX10_handIn 5 s args wmX10_handIn RX10 := ⟨B.exec, B.bytes, hml, findClass_of_methodNamed B.named, atoms_spec (ws := wmX10_handIn) B.pre⟩
  obtain ⟨hx, hb, -, hown, hts⟩ := id S
  have hr := B.returns
  have hlocks := B.notSynchronized
  have X : gX D vwCl dA (cLive N) A (cReg N A s.heap.size) s := ⟨hK, hJ, fun i hi => Or.inl ⟨i, hi, rfl⟩⟩
  have Z : tZ D N dA A s M s.heap [] := ⟨hP, va_S.rf⟩
  have hin_X1 : ∀ w ∈ wsX10, w ∈ wmX10_handIn := tin cin_X1 (Or.inr trivial)
  have hin_X10 : ∀ w ∈ wsX100, w ∈ wmX10_handIn := tin cin_X10 (Or.inr trivial)
  have hin_X3 : ∀ w ∈ wsX30, w ∈ wmX10_handIn := tin cin_X3 (Or.inr trivial)
  have hl_34 := hts (.fieldLink RX10 34 "ReplicaFiles" "net" "LReplicaFiles$Net;") (tBc 535 rfl)
  have hl_53 := hts (.fieldLink RX10 53 "ReplicaFiles" "clients" "[LReplicaFiles$Client;") (tBc 541 rfl)
  have hl_74 := hts (.fieldLink RX10 74 "ReplicaFiles" "handingIn" "LReplicaFiles$HandingIn;") (tBc 548 rfl)
  have hl_195 := va_Nw.use (A := args) rfl (hN.1 ("ReplicaFiles", 195, "ReplicaFiles$Client", "log", "LReplicaFiles$Log;", "ReplicaFiles") (by decide +kernel))
  have hl_199 := va_Nw.use (A := args) rfl (hN.1 ("ReplicaFiles", 199, "ReplicaFiles$Log", "length", "I", "ReplicaFiles") (by decide +kernel))
  have hc_193 := hts (.constantLong RX10 193 (-2199023255560)) (tBc 700 rfl)
  have hl := lv_entry ([.ref (A (0, 0, 0)), .int a1]) (n := 5) (Nat.le_of_ble_eq_true rfl)
  rw [← hargs, lg_entry_eq, hargs]
  generalize (lg_sl ([.ref (A (0, 0, 0)), .int a1]) ++ List.replicate (5 - (lg_sl ([.ref (A (0, 0, 0)), .int a1])).length) Slot.unset).toArray = ls at hl ⊢
  have hl : lv_has ls 5 [(0, .ref (A (0, 0, 0))), (1, .int a1)] := hl
  unfold f_X10_handIn at h
  refine lv_iload_n hx hb dX10_handIn_0 rfl (lv_at hl 1 rfl) ?_
  obtain ⟨k1, hc2, h⟩ := o1_e h
  refine t_chk X Z (vx_runS (As := [.int a1]) (rest := []) S (t_X10_checkClient l hst N D dA A hJ tx _ hc2) (va_cwS 1 hts (tTS (tB 591 rfl) (tB 592 rfl) (tB 107 rfl) (tB 585 rfl)) rfl rfl rfl (by decide +kernel) ⟨Nat.le_of_ble_eq_true rfl, Nat.le_of_ble_eq_true rfl⟩) ⟨tPc.blind, t_pre X hN hT Z _⟩ rfl rfl hl.1 rfl (lv_room (m := m) (pc := 1) (ls := ls) (rest := [.int a1]) (Nat.le_of_ble_eq_true rfl)) dX10_handIn_1 ⟨Nat.le_of_ble_eq_true rfl, Nat.le_of_ble_eq_true rfl⟩) (fun hk3 ce q9 H locs Z hce hcv hcl => ?_) (fun hk3 H locs Z => ?_)
  · have h := if_f hk3 h
    have hy := Option.some.inj h
    subst hy
    exact t_out hk3 hout hlocks Z hce hcv hcl (Nat.le_of_ble_eq_true rfl) (Nat.le_of_ble_eq_true rfl)
  have h := if_t hk3 h
  refine lv_aload_n hx hb dX10_handIn_4 rfl (lv_at hl 0 rfl) ?_
  refine cr_X10_net S X Z hin_X10 (cl_one N 0 (by decide)) hl_34 dX10_handIn_5 ?_
  refine lv_iload_n hx hb dX10_handIn_8 rfl (lv_at hl 1 rfl) ?_
  obtain ⟨v5, hc4, h⟩ := o1_e h
  refine c_i X Z (c_V (i := (5, 0, 0)) (As := [.int a1]) (rest := []) S X hN Z (cl_one N 5 (by decide)) rfl rfl (t_X5_nearClient l N D dA A hJ  hc4) (cwV 1 hts (tGV (cB 606 rfl) (cB 607 rfl) (cB 608 rfl) (cB 485 rfl) (cB 492 rfl)) rfl rfl rfl (by decide +kernel) ⟨Nat.le_of_ble_eq_true rfl, Nat.le_of_ble_eq_true rfl⟩) rfl hl.1 rfl (Nat.le_of_ble_eq_true rfl) dX10_handIn_9 ⟨Nat.le_of_ble_eq_true rfl, Nat.le_of_ble_eq_true rfl⟩) (fun H locs Z => ?_)
  refine lv_istore_n (lv' := [(2, .int v5), (0, .ref (A (0, 0, 0))), (1, .int a1)]) hx hb dX10_handIn_12 rfl hl (by decide) rfl (fun ls hl => ?_)
  refine lv_iload_n hx hb dX10_handIn_13 rfl (lv_at hl 0 rfl) ?_
  refine lv_if_ne (tgt := 21) hx hb dX10_handIn_14 (by decide) (fun c6 => ?_) (fun c6 => ?_)
  · have h := if_f c6 h
    refine lv_aload_n hx hb dX10_handIn_21 rfl (lv_at hl 1 rfl) ?_
    refine cr_X10_clients S X Z hin_X10 (cl_one N 0 (by decide)) hl_53 dX10_handIn_22 ?_
    refine lv_iload_n hx hb dX10_handIn_25 rfl (lv_at hl 2 rfl) ?_
    refine g_aald (i := (8, 0, 0)) (ca := 3) ⟨rfl, rfl⟩ S X Z (cl_one N 8 (by decide)) rfl dX10_handIn_26 h (fun v7 hv7 h => ?_)
    refine lv_astore_n (lv' := [(3, .ref (A (30, v7, 0))), (2, .int v5), (0, .ref (A (0, 0, 0))), (1, .int a1)]) hx hb dX10_handIn_27 rfl hl (by decide) rfl (fun ls hl => ?_)
    refine lv_aload_n hx hb dX10_handIn_28 rfl (lv_at hl 0 rfl) ?_
    refine cn_X1_log (a := v7) S X Z hin_X1 (cl_cli hv7) hl_195 dX10_handIn_29 ?_
    refine cn_X3_length (a := v7) S X Z hin_X3 (cl_X1_log (cl_cli hv7)) hl_199 dX10_handIn_32 h (fun v8 h => ?_)
    refine lv_istore (lv' := [(4, .int v8), (3, .ref (A (30, v7, 0))), (2, .int v5), (0, .ref (A (0, 0, 0))), (1, .int a1)]) hx hb dX10_handIn_35 hl (by decide) rfl (fun ls hl => ?_)
    refine lv_aload_n hx hb dX10_handIn_37 rfl (lv_at hl 3 rfl) ?_
    refine cr_X10_handingIn S X Z hin_X10 (cl_one N 0 (by decide)) hl_74 dX10_handIn_38 ?_
    refine lv_aload_n hx hb dX10_handIn_41 rfl (lv_at hl 1 rfl) ?_
    refine lv_iload_n hx hb dX10_handIn_42 rfl (lv_at hl 2 rfl) ?_
    obtain ⟨M10, hc9, h⟩ := o1_e h
    refine c_v X Z (c_V (i := (11, 0, 0)) (As := [.ref (A (30, v7, 0)), .int v5]) (rest := []) S X hN Z (cl_one N 11 (by decide)) rfl rfl (t_X2_handInAll l N D dA A hJ (cl_cli hv7) hc9) (cwV 2 hts (tGV (cB 701 rfl) (cB 702 rfl) (cB 703 rfl) (cB 245 rfl) (cB 316 rfl)) rfl rfl rfl (by decide +kernel) ⟨Nat.le_of_ble_eq_true rfl, Nat.le_of_ble_eq_true rfl⟩) rfl hl.1 rfl (Nat.le_of_ble_eq_true rfl) dX10_handIn_43 ⟨Nat.le_of_ble_eq_true rfl, Nat.le_of_ble_eq_true rfl⟩) (fun H locs Z => ?_)
    refine lv_iload hx hb dX10_handIn_46 (lv_at hl 0 rfl) ?_
    refine lv_i2l hx hb dX10_handIn_48 rfl ?_
    have hy := Option.some.inj h
    subst hy
    exact t_rl S Z hr hlocks dX10_handIn_49
  · have h := if_t c6 h
    refine lv_ldc2 hx hb hown hc_193 dX10_handIn_17 ?_
    have hy := Option.some.inj h
    subst hy
    exact t_rl S Z hr hlocks dX10_handIn_20
