
def gM0 : gM := fun _ _ => 0
/-- arrays of references can be made -/
def kAO (U : State) : Prop := (Cond.arrayOver (.array .int)).before #[] U = true ∧ va_AO "ReplicaFiles$Server" U ∧ va_AO "ReplicaFiles$Client" U ∧ va_AO "ReplicaFiles$Versions" U
theorem kAO.moved {u U : State} (hvm : u.vm.Alike U.vm) (h : kAO u) : kAO U := by
  refine ⟨?_, h.2.1.moved hvm, h.2.2.1.moved hvm, h.2.2.2.moved hvm⟩
  obtain ⟨comp, c, k, h1, h2, h3, h4, h5⟩ := arrayOverA_spec h.1
  obtain ⟨k', hk', he⟩ := hvm.2.2 _ _ h3
  have hi : (U.vm.classes.findIdx? fun (x : Class) => match x.kind with | .array component _ => component == comp | _ => false) = some c := by
    have e1 := va_idx_bare U.vm comp
    have e2 := va_idx_bare u.vm comp
    first | rw [hvm.bare_eq] at e1 | rw [← hvm.bare_eq] at e1
    exact e1.symm.trans (e2.trans h2)
  have hkind : k'.kind = .array comp (.array .int) := by rw [he]; exact h4
  have f1 : U.vm.findClass (FieldType.array FieldType.int).toString = some comp := by rw [hvm.findClass]; exact h1
  have f2 : U.vm.findClass ("[" ++ (FieldType.array FieldType.int).toString) = some c := by rw [hvm.findClass]; exact h5
  unfold Cond.before Cond.holds
  simp only [Cond.value]
  rw [f1, Option.bind_some]
  refine (congrArg (fun o : Option Nat => (o.bind (fun c => (U.vm.classes[c]?).map fun (k : Class) => match k.kind with | .array _ ty => decide (ty = FieldType.array FieldType.int) && decide (U.vm.findClass ("[" ++ (FieldType.array FieldType.int).toString) = some c) | _ => false) == some true)) hi).trans ?_
  simp [hk', hkind, f2]
theorem kAO.arr {args : Array Value} {s : State} (h : kAO s) : (Cond.arrayOver (.array .int)).before args s = true := h.1
def kReg (q sz : Nat) : Nat → Prop := fun x => x = q ∨ sz ≤ x
abbrev kPc (D : va_G) (dA : Nat → ClassId) (sz q ci nf : Nat) (ty : Nat → FieldType) (av : List Value) : Array Value → State → Prop := va_Pc av (fun U => U.heap.size = sz ∧ t_OB q (D.1 ci) nf (D.2 ci) U.heap (fun k => defaultValue (ty k)) ∧ va_K D vwCl (gT dA) U ∧ kAO U)
/-- behind a constructor: the heap's size, and each of its cells as the layout has it -/
abbrev kQ (N : Nat) (D : va_G) (dA : Nat → ClassId) (A : gI → Nat) (q sz cnt : Nat) (ids : gI → Prop) (M : gM) : Array Value → State → Outcome → State → Prop := va_Qv (fun _ : Unit => True) (fun _ t => t.heap.size = sz + cnt ∧ ∀ i, ids i → gAt D (cLay N) dA A M t.heap i) (kReg q sz)

theorem dX8_init_0 : decode cX8_init 0 = .ok (.aload_n 0, 1) := by decide +kernel
theorem dX8_init_1 : decode cX8_init 1 = .ok (.invokespecial 3, 3) := by decide +kernel
theorem dX8_init_4 : decode cX8_init 4 = .ok (.aload_n 0, 1) := by decide +kernel
theorem dX8_init_5 : decode cX8_init 5 = .ok (.bipush 48, 2) := by decide +kernel
theorem dX8_init_7 : decode cX8_init 7 = .ok (.newarray .boolean, 2) := by decide +kernel
theorem dX8_init_9 : decode cX8_init 9 = .ok (.putfield 9, 3) := by decide +kernel
theorem dX8_init_12 : decode cX8_init 12 = .ok (.aload_n 0, 1) := by decide +kernel
theorem dX8_init_13 : decode cX8_init 13 = .ok (.bipush 48, 2) := by decide +kernel
theorem dX8_init_15 : decode cX8_init 15 = .ok (.newarray .int, 2) := by decide +kernel
theorem dX8_init_17 : decode cX8_init 17 = .ok (.putfield 15, 3) := by decide +kernel
theorem dX8_init_20 : decode cX8_init 20 = .ok (.aload_n 0, 1) := by decide +kernel
theorem dX8_init_21 : decode cX8_init 21 = .ok (.bipush 48, 2) := by decide +kernel
theorem dX8_init_23 : decode cX8_init 23 = .ok (.newarray .int, 2) := by decide +kernel
theorem dX8_init_25 : decode cX8_init 25 = .ok (.putfield 19, 3) := by decide +kernel
theorem dX8_init_28 : decode cX8_init 28 = .ok (.aload_n 0, 1) := by decide +kernel
theorem dX8_init_29 : decode cX8_init 29 = .ok (.bipush 48, 2) := by decide +kernel
theorem dX8_init_31 : decode cX8_init 31 = .ok (.newarray .int, 2) := by decide +kernel
theorem dX8_init_33 : decode cX8_init 33 = .ok (.putfield 22, 3) := by decide +kernel
theorem dX8_init_36 : decode cX8_init 36 = .ok (.aload_n 0, 1) := by decide +kernel
theorem dX8_init_37 : decode cX8_init 37 = .ok (.aload_n 1, 1) := by decide +kernel
theorem dX8_init_38 : decode cX8_init 38 = .ok (.putfield 25, 3) := by decide +kernel
theorem dX8_init_41 : decode cX8_init 41 = .ok (.aload_n 0, 1) := by decide +kernel
theorem dX8_init_42 : decode cX8_init 42 = .ok (.bipush 48, 2) := by decide +kernel
theorem dX8_init_44 : decode cX8_init 44 = .ok (.iload_n 2, 1) := by decide +kernel
theorem dX8_init_45 : decode cX8_init 45 = .ok (.multianewarray 29 2, 4) := by decide +kernel
theorem dX8_init_49 : decode cX8_init 49 = .ok (.putfield 31, 3) := by decide +kernel
theorem dX8_init_52 : decode cX8_init 52 = .ok (.aload_n 0, 1) := by decide +kernel
theorem dX8_init_53 : decode cX8_init 53 = .ok (.bipush 48, 2) := by decide +kernel
theorem dX8_init_55 : decode cX8_init 55 = .ok (.iload_n 2, 1) := by decide +kernel
theorem dX8_init_56 : decode cX8_init 56 = .ok (.multianewarray 29 2, 4) := by decide +kernel
theorem dX8_init_60 : decode cX8_init 60 = .ok (.putfield 34, 3) := by decide +kernel
theorem dX8_init_63 : decode cX8_init 63 = .ok (.return_, 1) := by decide +kernel
abbrev wmX8_init : List Cond := .code yX8_init cX8_init 3 none :: cBig
theorem arrV_ext {c : ClassId} {n : Nat} {f g : Nat → Value} (h : ∀ j, j < n → f j = g j) : arrV c n f = arrV c n g := by
  have e : (fun j : Fin n => f j.val) = fun j => g j.val := funext fun j => h j.val j.isLt
  unfold arrV
  rw [e]
set_option maxHeartbeats 4000000 in
set_option maxRecDepth 100000 in
theorem k_X8 (l : Launch) (N : Nat) (hN1 : 1 ≤ N) (hN4 : N ≤ 4) (D : va_G) (dA : Nat → ClassId) (A : gI → Nat) (sz : Nat) (t : Nat) (hq : A (50, t, 0) < sz) (h51 : A (51, t, 0) = sz + 0) (h52 : A (52, t, 0) = sz + 1) (h53 : A (53, t, 0) = sz + 2) (h56 : A (56, t, 0) = sz + 3) (h54 : A (54, t, 0) = sz + 4) (h55 : ∀ o, o < 48 → A (55, t, o) = sz + 5 + o) (h57 : A (57, t, 0) = sz + 53) (h58 : ∀ o, o < 48 → A (58, t, o) = sz + 54 + o) : Met l yX8_init wmX8_init ({ frames := 1, cells := 102, slots := 1056, locals := 30 } : Room) (kPc D dA sz (A (50, t, 0)) 8 7 tyX8 [.ref (A (50, t, 0)), .ref (A (1, 0, 0)), .int (nI (N + 4))]) (kQ N D dA A (A (50, t, 0)) sz 102 (fun i => cLive N i ∧ 50 ≤ i.1 ∧ i.1 ≤ 58 ∧ i.2.1 = t) gM0) 102 1056 (kReg (A (50, t, 0)) sz) := by
  refine Met.ofW (cc := cX8_init) (maxL := 3) (ret := none) (by decide) rfl ?_
  intro p e s m args below meth c s₁ B hml hv
  obtain ⟨rfl, hsz, hO, hK, hAO⟩ := hv
  generalize hargs : ([.ref (A (50, t, 0)), .ref (A (1, 0, 0)), .int (nI (N + 4))] : List Value).toArray = args at B ⊢
  have S : CallFix p m c cX8_init 3 s args wmX8_init RX8 := ⟨B.exec, B.bytes, hml, findClass_of_methodNamed B.named, atoms_spec (ws := wmX8_init) B.pre⟩
  obtain ⟨hx, hb, -, hown, hts⟩ := id S
  have hr := B.returns
  have hlocks := B.notSynchronized
  have hin2 : meth.name = "<init>" := (name_of_methodNamed B.named B.method).1
  have hin : ∀ w ∈ wsX80, w ∈ wmX8_init := cin_X8
  have hS : va_S (kReg (A (50, t, 0)) sz) s.heap s.heap [] := va_S.rf
  have hl := lv_entry ([.ref (A (50, t, 0)), .ref (A (1, 0, 0)), .int (nI (N + 4))]) (n := 3) (Nat.le_of_ble_eq_true rfl)
  rw [← hargs, lg_entry_eq, hargs]
  generalize (lg_sl ([.ref (A (50, t, 0)), .ref (A (1, 0, 0)), .int (nI (N + 4))]) ++ List.replicate (3 - (lg_sl ([.ref (A (50, t, 0)), .ref (A (1, 0, 0)), .int (nI (N + 4))])).length) Slot.unset).toArray = ls at hl ⊢
  have hl : lv_has ls 3 [(0, .ref (A (50, t, 0))), (1, .ref (A (1, 0, 0))), (2, .int (nI (N + 4)))] := hl
  refine lv_aload_n hx hb dX8_init_0 rfl (lv_at hl 0 rfl) ?_
  refine W.objInit hx hb hown (hts (.methodLink RX8 3 objectInit) (cBc 18 rfl)) (hts (.instanceMethod objectInit) (cBc 2 rfl)) (hts (.code objectInit ⟨#[0xb1]⟩ 1 none) (cBc 3 rfl)) rfl (by rw [hml]; exact hl.1) rfl dX8_init_1 (Nat.le_of_ble_eq_true rfl) (Nat.le_of_ble_eq_true rfl) ?_
  refine lv_aload_n hx hb dX8_init_4 rfl (lv_at hl 0 rfl) ?_
  refine lv_bipush (v := (48 : Int32)) hx hb dX8_init_5 (by decide) ?_
  refine k_newZ (n := 48) S hK hS (hts (.arrayClass .boolean) (cBc 7 rfl)) rfl (by omega) (by simp only [componentBytes]; omega) (by show 1 ≤ 102; decide) (by show 0 + 48 ≤ 1056; omega) dX8_init_7 (fun H1 e1 hz o hS => ?_)
  rw [hsz] at e1
  have hO := hO.kept (o _ (by omega))
  have hsz : H1.size = sz + 1 := by omega
  refine W.widen (k := 1) (n := 48) (by omega) (by omega) ?_
  refine k_putF (ci := 8) (C := RX8) (T := TX8) (ty := .array .boolean) S hin2 hK hS (Or.inl rfl) rfl hin tyX8 tyX8_ok nmX8 hO 1 (by decide) ⟨rfl, rfl, rfl, rfl⟩ rfl (hts (.fieldLink RX8 9 "ReplicaFiles$Tree" "held" "[Z") (cBc 19 rfl)) (by decide) rfl rfl dX8_init_9 (fun H2 locs hO hz o hS => ?_)
  have e1 : H2[sz + 0]? = _ := (o _ (by omega)).trans e1
  have hsz : H2.size = sz + 1 := by omega
  refine lv_aload_n hx hb dX8_init_12 rfl (lv_at hl 0 rfl) ?_
  refine lv_bipush (v := (48 : Int32)) hx hb dX8_init_13 (by decide) ?_
  refine k_newI (n := 48) S hK hS (hts (.arrayClass .int) (cBc 4 rfl)) rfl (by omega) (by simp only [componentBytes]; omega) (by show 2 ≤ 102; decide) (by show 48 + 48 ≤ 1056; omega) dX8_init_15 (fun H3 e3 hz o hS => ?_)
  rw [hsz] at e3
  have hO := hO.kept (o _ (by omega))
  have e1 : H3[sz + 0]? = _ := (o _ (by omega)).trans e1
  have hsz : H3.size = sz + 2 := by omega
  refine W.widen (k := 2) (n := 96) (by omega) (by omega) ?_
  refine k_putF (ci := 8) (C := RX8) (T := TX8) (ty := .array .int) S hin2 hK hS (Or.inl rfl) rfl hin tyX8 tyX8_ok nmX8 hO 2 (by decide) ⟨rfl, rfl, rfl, rfl⟩ rfl (hts (.fieldLink RX8 15 "ReplicaFiles$Tree" "value" "[I") (cBc 20 rfl)) (by decide) rfl rfl dX8_init_17 (fun H4 locs hO hz o hS => ?_)
  have e1 : H4[sz + 0]? = _ := (o _ (by omega)).trans e1
  have e3 : H4[sz + 1]? = _ := (o _ (by omega)).trans e3
  have hsz : H4.size = sz + 2 := by omega
  refine lv_aload_n hx hb dX8_init_20 rfl (lv_at hl 0 rfl) ?_
  refine lv_bipush (v := (48 : Int32)) hx hb dX8_init_21 (by decide) ?_
  refine k_newI (n := 48) S hK hS (hts (.arrayClass .int) (cBc 4 rfl)) rfl (by omega) (by simp only [componentBytes]; omega) (by show 3 ≤ 102; decide) (by show 96 + 48 ≤ 1056; omega) dX8_init_23 (fun H5 e5 hz o hS => ?_)
  rw [hsz] at e5
  have hO := hO.kept (o _ (by omega))
  have e1 : H5[sz + 0]? = _ := (o _ (by omega)).trans e1
  have e3 : H5[sz + 1]? = _ := (o _ (by omega)).trans e3
  have hsz : H5.size = sz + 3 := by omega
  refine W.widen (k := 3) (n := 144) (by omega) (by omega) ?_
  refine k_putF (ci := 8) (C := RX8) (T := TX8) (ty := .array .int) S hin2 hK hS (Or.inl rfl) rfl hin tyX8 tyX8_ok nmX8 hO 3 (by decide) ⟨rfl, rfl, rfl, rfl⟩ rfl (hts (.fieldLink RX8 19 "ReplicaFiles$Tree" "size" "[I") (cBc 21 rfl)) (by decide) rfl rfl dX8_init_25 (fun H6 locs hO hz o hS => ?_)
  have e1 : H6[sz + 0]? = _ := (o _ (by omega)).trans e1
  have e3 : H6[sz + 1]? = _ := (o _ (by omega)).trans e3
  have e5 : H6[sz + 2]? = _ := (o _ (by omega)).trans e5
  have hsz : H6.size = sz + 3 := by omega
  refine lv_aload_n hx hb dX8_init_28 rfl (lv_at hl 0 rfl) ?_
  refine lv_bipush (v := (48 : Int32)) hx hb dX8_init_29 (by decide) ?_
  refine k_newI (n := 48) S hK hS (hts (.arrayClass .int) (cBc 4 rfl)) rfl (by omega) (by simp only [componentBytes]; omega) (by show 4 ≤ 102; decide) (by show 144 + 48 ≤ 1056; omega) dX8_init_31 (fun H7 e7 hz o hS => ?_)
  rw [hsz] at e7
  have hO := hO.kept (o _ (by omega))
  have e1 : H7[sz + 0]? = _ := (o _ (by omega)).trans e1
  have e3 : H7[sz + 1]? = _ := (o _ (by omega)).trans e3
  have e5 : H7[sz + 2]? = _ := (o _ (by omega)).trans e5
  have hsz : H7.size = sz + 4 := by omega
  refine W.widen (k := 4) (n := 192) (by omega) (by omega) ?_
  refine k_putF (ci := 8) (C := RX8) (T := TX8) (ty := .array .int) S hin2 hK hS (Or.inl rfl) rfl hin tyX8 tyX8_ok nmX8 hO 5 (by decide) ⟨rfl, rfl, rfl, rfl⟩ rfl (hts (.fieldLink RX8 22 "ReplicaFiles$Tree" "state" "[I") (cBc 22 rfl)) (by decide) rfl rfl dX8_init_33 (fun H8 locs hO hz o hS => ?_)
  have e1 : H8[sz + 0]? = _ := (o _ (by omega)).trans e1
  have e3 : H8[sz + 1]? = _ := (o _ (by omega)).trans e3
  have e5 : H8[sz + 2]? = _ := (o _ (by omega)).trans e5
  have e7 : H8[sz + 3]? = _ := (o _ (by omega)).trans e7
  have hsz : H8.size = sz + 4 := by omega
  refine lv_aload_n hx hb dX8_init_36 rfl (lv_at hl 0 rfl) ?_
  refine lv_aload_n hx hb dX8_init_37 rfl (lv_at hl 1 rfl) ?_
  refine k_putF (ci := 8) (C := RX8) (T := TX8) (ty := .object "ReplicaFiles$Catalog") S hin2 hK hS (Or.inl rfl) rfl hin tyX8 tyX8_ok nmX8 hO 0 (by decide) ⟨rfl, rfl, rfl, rfl⟩ rfl (hts (.fieldLink RX8 25 "ReplicaFiles$Tree" "catalog" "LReplicaFiles$Catalog;") (cBc 23 rfl)) (by decide) rfl rfl dX8_init_38 (fun H9 locs hO hz o hS => ?_)
  have e1 : H9[sz + 0]? = _ := (o _ (by omega)).trans e1
  have e3 : H9[sz + 1]? = _ := (o _ (by omega)).trans e3
  have e5 : H9[sz + 2]? = _ := (o _ (by omega)).trans e5
  have e7 : H9[sz + 3]? = _ := (o _ (by omega)).trans e7
  have hsz : H9.size = sz + 4 := by omega
  refine lv_aload_n hx hb dX8_init_41 rfl (lv_at hl 0 rfl) ?_
  refine lv_bipush (v := (48 : Int32)) hx hb dX8_init_42 (by decide) ?_
  refine lv_iload_n hx hb dX8_init_44 rfl (lv_at hl 2 rfl) ?_
  refine k_mna (n := 48) (k := (N + 4)) S hK hS (hts (.classLink RX8 29 "[[I") (cBc 24 rfl)) hAO.arr (hts (.arrayClass .int) (cBc 4 rfl)) rfl rfl (by omega) (by omega) (by simp only [componentBytes]; omega) (by show 4 + (1 + 48) ≤ 102; omega) (by show 192 + (48 + 48 * ((N + 4))) ≤ 1056; omega) dX8_init_45 (fun H10 e10 r10 hz o hS => ?_)
  rw [hsz] at e10
  have r10 : ∀ j : Nat, j < 48 → H10[sz + 5 + j]? = some (arrV (dA 0) (N + 4) (fun _ => .int 0)) := fun j hj => by have := r10 j hj; rw [hsz] at this; exact this
  have hO := hO.kept (o _ (by omega))
  have e1 : H10[sz + 0]? = _ := (o _ (by omega)).trans e1
  have e3 : H10[sz + 1]? = _ := (o _ (by omega)).trans e3
  have e5 : H10[sz + 2]? = _ := (o _ (by omega)).trans e5
  have e7 : H10[sz + 3]? = _ := (o _ (by omega)).trans e7
  have hsz : H10.size = sz + 5 + 48 := by omega
  have hsz : H10.size = sz + 53 := by omega
  refine W.widen (k := 53) (n := 624) (by omega) (by omega) ?_
  refine k_putF (ci := 8) (C := RX8) (T := TX8) (ty := .array (.array .int)) S hin2 hK hS (Or.inl rfl) rfl hin tyX8 tyX8_ok nmX8 hO 4 (by decide) ⟨rfl, rfl, rfl, rfl⟩ rfl (hts (.fieldLink RX8 31 "ReplicaFiles$Tree" "counts" "[[I") (cBc 25 rfl)) (by decide) rfl rfl dX8_init_49 (fun H11 locs hO hz o hS => ?_)
  have e1 : H11[sz + 0]? = _ := (o _ (by omega)).trans e1
  have e3 : H11[sz + 1]? = _ := (o _ (by omega)).trans e3
  have e5 : H11[sz + 2]? = _ := (o _ (by omega)).trans e5
  have e7 : H11[sz + 3]? = _ := (o _ (by omega)).trans e7
  have e10 : H11[sz + 4]? = _ := (o _ (by omega)).trans e10
  have r10 : ∀ j : Nat, j < 48 → H11[sz + 5 + j]? = some (arrV (dA 0) (N + 4) (fun _ => .int 0)) := fun j hj => (o _ (by omega)).trans (r10 j hj)
  have hsz : H11.size = sz + 53 := by omega
  refine lv_aload_n hx hb dX8_init_52 rfl (lv_at hl 0 rfl) ?_
  refine lv_bipush (v := (48 : Int32)) hx hb dX8_init_53 (by decide) ?_
  refine lv_iload_n hx hb dX8_init_55 rfl (lv_at hl 2 rfl) ?_
  refine k_mna (n := 48) (k := (N + 4)) S hK hS (hts (.classLink RX8 29 "[[I") (cBc 24 rfl)) hAO.arr (hts (.arrayClass .int) (cBc 4 rfl)) rfl rfl (by omega) (by omega) (by simp only [componentBytes]; omega) (by show 53 + (1 + 48) ≤ 102; omega) (by show 624 + (48 + 48 * ((N + 4))) ≤ 1056; omega) dX8_init_56 (fun H12 e12 r12 hz o hS => ?_)
  rw [hsz] at e12
  have r12 : ∀ j : Nat, j < 48 → H12[sz + 54 + j]? = some (arrV (dA 0) (N + 4) (fun _ => .int 0)) := fun j hj => by have := r12 j hj; rw [hsz] at this; exact this
  have hO := hO.kept (o _ (by omega))
  have e1 : H12[sz + 0]? = _ := (o _ (by omega)).trans e1
  have e3 : H12[sz + 1]? = _ := (o _ (by omega)).trans e3
  have e5 : H12[sz + 2]? = _ := (o _ (by omega)).trans e5
  have e7 : H12[sz + 3]? = _ := (o _ (by omega)).trans e7
  have e10 : H12[sz + 4]? = _ := (o _ (by omega)).trans e10
  have r10 : ∀ j : Nat, j < 48 → H12[sz + 5 + j]? = some (arrV (dA 0) (N + 4) (fun _ => .int 0)) := fun j hj => (o _ (by omega)).trans (r10 j hj)
  have hsz : H12.size = sz + 54 + 48 := by omega
  have hsz : H12.size = sz + 102 := by omega
  refine W.widen (k := 102) (n := 1056) (by omega) (by omega) ?_
  refine k_putF (ci := 8) (C := RX8) (T := TX8) (ty := .array (.array .int)) S hin2 hK hS (Or.inl rfl) rfl hin tyX8 tyX8_ok nmX8 hO 6 (by decide) ⟨rfl, rfl, rfl, rfl⟩ rfl (hts (.fieldLink RX8 34 "ReplicaFiles$Tree" "goneCounts" "[[I") (cBc 26 rfl)) (by decide) rfl rfl dX8_init_60 (fun H13 locs hO hz o hS => ?_)
  have e1 : H13[sz + 0]? = _ := (o _ (by omega)).trans e1
  have e3 : H13[sz + 1]? = _ := (o _ (by omega)).trans e3
  have e5 : H13[sz + 2]? = _ := (o _ (by omega)).trans e5
  have e7 : H13[sz + 3]? = _ := (o _ (by omega)).trans e7
  have e10 : H13[sz + 4]? = _ := (o _ (by omega)).trans e10
  have r10 : ∀ j : Nat, j < 48 → H13[sz + 5 + j]? = some (arrV (dA 0) (N + 4) (fun _ => .int 0)) := fun j hj => (o _ (by omega)).trans (r10 j hj)
  have e12 : H13[sz + 53]? = _ := (o _ (by omega)).trans e12
  have r12 : ∀ j : Nat, j < 48 → H13[sz + 54 + j]? = some (arrV (dA 0) (N + 4) (fun _ => .int 0)) := fun j hj => (o _ (by omega)).trans (r12 j hj)
  have hsz : H13.size = sz + 102 := by omega
  refine W.vret hx hb hr (fun t ht hW => ⟨⟨(), rfl, trivial, by rw [ht]; omega, fun i hi => ?_⟩, hS.F ht⟩) hS.2.2 dX8_init_63 hlocks
  rw [ht]
  obtain ⟨tg, a, b⟩ := i
  obtain ⟨hlv, h1, h2, h3⟩ := hi
  dsimp only at h1 h2 h3
  subst h3
  rcases (show tg = 50 ∨ tg = 51 ∨ tg = 52 ∨ tg = 53 ∨ tg = 54 ∨ tg = 55 ∨ tg = 56 ∨ tg = 57 ∨ tg = 58 by omega) with rfl | rfl | rfl | rfl | rfl | rfl | rfl | rfl | rfl
  · have hb0 : b = 0 := hlv.2
    subst hb0
    refine hO.to (fun k hk => ?_)
    rcases (show k = 0 ∨ k = 1 ∨ k = 2 ∨ k = 3 ∨ k = 4 ∨ k = 5 ∨ k = 6 by omega) with rfl | rfl | rfl | rfl | rfl | rfl | rfl <;> simp [updV, gF, cF_X8, h51, h52, h53, h54, h56, h57] <;> omega
  · have hb0 : b = 0 := hlv.2
    subst hb0
    show _[A (51, a, 0)]? = _
    rw [h51]; exact e1
  · have hb0 : b = 0 := hlv.2
    subst hb0
    show _[A (52, a, 0)]? = _
    rw [h52]; exact e3
  · have hb0 : b = 0 := hlv.2
    subst hb0
    show _[A (53, a, 0)]? = _
    rw [h53]; exact e5
  · have hb0 : b = 0 := hlv.2
    subst hb0
    show _[A (54, a, 0)]? = _
    rw [h54, e10]
    exact congrArg some (arrV_ext fun j hj => by simp [hj, va_rf, h55 j hj] <;> omega)
  · have hb0 : b < 48 := hlv.2
    show _[A (55, a, b)]? = _
    rw [h55 b hb0]; exact r10 b hb0
  · have hb0 : b = 0 := hlv.2
    subst hb0
    show _[A (56, a, 0)]? = _
    rw [h56]; exact e7
  · have hb0 : b = 0 := hlv.2
    subst hb0
    show _[A (57, a, 0)]? = _
    rw [h57, e12]
    exact congrArg some (arrV_ext fun j hj => by simp [hj, va_rf, h58 j hj] <;> omega)
  · have hb0 : b < 48 := hlv.2
    show _[A (58, a, b)]? = _
    rw [h58 b hb0]; exact r12 b hb0
theorem dX9_init_0 : decode cX9_init 0 = .ok (.aload_n 0, 1) := by decide +kernel
theorem dX9_init_1 : decode cX9_init 1 = .ok (.invokespecial 1, 3) := by decide +kernel
theorem dX9_init_4 : decode cX9_init 4 = .ok (.aload_n 0, 1) := by decide +kernel
theorem dX9_init_5 : decode cX9_init 5 = .ok (.iload_n 1, 1) := by decide +kernel
theorem dX9_init_6 : decode cX9_init 6 = .ok (.newarray .int, 2) := by decide +kernel
theorem dX9_init_8 : decode cX9_init 8 = .ok (.putfield 7, 3) := by decide +kernel
theorem dX9_init_11 : decode cX9_init 11 = .ok (.aload_n 0, 1) := by decide +kernel
theorem dX9_init_12 : decode cX9_init 12 = .ok (.iload_n 1, 1) := by decide +kernel
theorem dX9_init_13 : decode cX9_init 13 = .ok (.newarray .int, 2) := by decide +kernel
theorem dX9_init_15 : decode cX9_init 15 = .ok (.putfield 13, 3) := by decide +kernel
theorem dX9_init_18 : decode cX9_init 18 = .ok (.aload_n 0, 1) := by decide +kernel
theorem dX9_init_19 : decode cX9_init 19 = .ok (.iload_n 1, 1) := by decide +kernel
theorem dX9_init_20 : decode cX9_init 20 = .ok (.iload_n 2, 1) := by decide +kernel
theorem dX9_init_21 : decode cX9_init 21 = .ok (.multianewarray 16 2, 4) := by decide +kernel
theorem dX9_init_25 : decode cX9_init 25 = .ok (.putfield 18, 3) := by decide +kernel
theorem dX9_init_28 : decode cX9_init 28 = .ok (.return_, 1) := by decide +kernel
abbrev wmX9_init : List Cond := .code yX9_init cX9_init 3 none :: cBig
set_option maxHeartbeats 4000000 in
set_option maxRecDepth 100000 in
theorem k_X9_6 (l : Launch) (N : Nat) (hN1 : 1 ≤ N) (hN4 : N ≤ 4) (D : va_G) (dA : Nat → ClassId) (A : gI → Nat) (sz : Nat) (v : Nat) (hq : A (60, v, 0) < sz) (hm : cMost v = 6) (h61 : A (61, v, 0) = sz + 0) (h62 : A (62, v, 0) = sz + 1) (h63 : A (63, v, 0) = sz + 2) (h64 : ∀ o, o < 6 → A (64, v, o) = sz + 3 + o) : Met l yX9_init wmX9_init ({ frames := 1, cells := 9, slots := 66, locals := 30 } : Room) (kPc D dA sz (A (60, v, 0)) 9 4 tyX9 [.ref (A (60, v, 0)), .int (nI 6), .int (nI (N + 4))]) (kQ N D dA A (A (60, v, 0)) sz 9 (fun i => cLive N i ∧ 60 ≤ i.1 ∧ i.1 ≤ 64 ∧ i.2.1 = v) gM0) 9 66 (kReg (A (60, v, 0)) sz) := by
  refine Met.ofW (cc := cX9_init) (maxL := 3) (ret := none) (by decide) rfl ?_
  intro p e s m args below meth c s₁ B hml hv
  obtain ⟨rfl, hsz, hO, hK, hAO⟩ := hv
  generalize hargs : ([.ref (A (60, v, 0)), .int (nI 6), .int (nI (N + 4))] : List Value).toArray = args at B ⊢
  have S : CallFix p m c cX9_init 3 s args wmX9_init RX9 := ⟨B.exec, B.bytes, hml, findClass_of_methodNamed B.named, atoms_spec (ws := wmX9_init) B.pre⟩
  obtain ⟨hx, hb, -, hown, hts⟩ := id S
  have hr := B.returns
  have hlocks := B.notSynchronized
  have hin2 : meth.name = "<init>" := (name_of_methodNamed B.named B.method).1
  have hin : ∀ w ∈ wsX90, w ∈ wmX9_init := cin_X9
  have hS : va_S (kReg (A (60, v, 0)) sz) s.heap s.heap [] := va_S.rf
  have hl := lv_entry ([.ref (A (60, v, 0)), .int (nI 6), .int (nI (N + 4))]) (n := 3) (Nat.le_of_ble_eq_true rfl)
  rw [← hargs, lg_entry_eq, hargs]
  generalize (lg_sl ([.ref (A (60, v, 0)), .int (nI 6), .int (nI (N + 4))]) ++ List.replicate (3 - (lg_sl ([.ref (A (60, v, 0)), .int (nI 6), .int (nI (N + 4))])).length) Slot.unset).toArray = ls at hl ⊢
  have hl : lv_has ls 3 [(0, .ref (A (60, v, 0))), (1, .int (nI 6)), (2, .int (nI (N + 4)))] := hl
  refine lv_aload_n hx hb dX9_init_0 rfl (lv_at hl 0 rfl) ?_
  refine W.objInit hx hb hown (hts (.methodLink RX9 1 objectInit) (cBc 318 rfl)) (hts (.instanceMethod objectInit) (cBc 2 rfl)) (hts (.code objectInit ⟨#[0xb1]⟩ 1 none) (cBc 3 rfl)) rfl (by rw [hml]; exact hl.1) rfl dX9_init_1 (Nat.le_of_ble_eq_true rfl) (Nat.le_of_ble_eq_true rfl) ?_
  refine lv_aload_n hx hb dX9_init_4 rfl (lv_at hl 0 rfl) ?_
  refine lv_iload_n hx hb dX9_init_5 rfl (lv_at hl 1 rfl) ?_
  refine k_newI (n := 6) S hK hS (hts (.arrayClass .int) (cBc 4 rfl)) rfl (by omega) (by simp only [componentBytes]; omega) (by show 1 ≤ 9; decide) (by show 0 + 6 ≤ 66; omega) dX9_init_6 (fun H1 e1 hz o hS => ?_)
  rw [hsz] at e1
  have hO := hO.kept (o _ (by omega))
  have hsz : H1.size = sz + 1 := by omega
  refine W.widen (k := 1) (n := 6) (by omega) (by omega) ?_
  refine k_putF (ci := 9) (C := RX9) (T := TX9) (ty := .array .int) S hin2 hK hS (Or.inl rfl) rfl hin tyX9 tyX9_ok nmX9 hO 0 (by decide) ⟨rfl, rfl, rfl, rfl⟩ rfl (hts (.fieldLink RX9 7 "ReplicaFiles$Versions" "value" "[I") (cBc 184 rfl)) (by decide) rfl rfl dX9_init_8 (fun H2 locs hO hz o hS => ?_)
  have e1 : H2[sz + 0]? = _ := (o _ (by omega)).trans e1
  have hsz : H2.size = sz + 1 := by omega
  refine lv_aload_n hx hb dX9_init_11 rfl (lv_at hl 0 rfl) ?_
  refine lv_iload_n hx hb dX9_init_12 rfl (lv_at hl 1 rfl) ?_
  refine k_newI (n := 6) S hK hS (hts (.arrayClass .int) (cBc 4 rfl)) rfl (by omega) (by simp only [componentBytes]; omega) (by show 2 ≤ 9; decide) (by show 6 + 6 ≤ 66; omega) dX9_init_13 (fun H3 e3 hz o hS => ?_)
  rw [hsz] at e3
  have hO := hO.kept (o _ (by omega))
  have e1 : H3[sz + 0]? = _ := (o _ (by omega)).trans e1
  have hsz : H3.size = sz + 2 := by omega
  refine W.widen (k := 2) (n := 12) (by omega) (by omega) ?_
  refine k_putF (ci := 9) (C := RX9) (T := TX9) (ty := .array .int) S hin2 hK hS (Or.inl rfl) rfl hin tyX9 tyX9_ok nmX9 hO 1 (by decide) ⟨rfl, rfl, rfl, rfl⟩ rfl (hts (.fieldLink RX9 13 "ReplicaFiles$Versions" "size" "[I") (cBc 186 rfl)) (by decide) rfl rfl dX9_init_15 (fun H4 locs hO hz o hS => ?_)
  have e1 : H4[sz + 0]? = _ := (o _ (by omega)).trans e1
  have e3 : H4[sz + 1]? = _ := (o _ (by omega)).trans e3
  have hsz : H4.size = sz + 2 := by omega
  refine lv_aload_n hx hb dX9_init_18 rfl (lv_at hl 0 rfl) ?_
  refine lv_iload_n hx hb dX9_init_19 rfl (lv_at hl 1 rfl) ?_
  refine lv_iload_n hx hb dX9_init_20 rfl (lv_at hl 2 rfl) ?_
  refine k_mna (n := 6) (k := (N + 4)) S hK hS (hts (.classLink RX9 16 "[[I") (cBc 319 rfl)) hAO.arr (hts (.arrayClass .int) (cBc 4 rfl)) rfl rfl (by omega) (by omega) (by simp only [componentBytes]; omega) (by show 2 + (1 + 6) ≤ 9; omega) (by show 12 + (6 + 6 * ((N + 4))) ≤ 66; omega) dX9_init_21 (fun H5 e5 r5 hz o hS => ?_)
  rw [hsz] at e5
  have r5 : ∀ j : Nat, j < 6 → H5[sz + 3 + j]? = some (arrV (dA 0) (N + 4) (fun _ => .int 0)) := fun j hj => by have := r5 j hj; rw [hsz] at this; exact this
  have hO := hO.kept (o _ (by omega))
  have e1 : H5[sz + 0]? = _ := (o _ (by omega)).trans e1
  have e3 : H5[sz + 1]? = _ := (o _ (by omega)).trans e3
  have hsz : H5.size = sz + 3 + 6 := by omega
  have hsz : H5.size = sz + 9 := by omega
  refine W.widen (k := 9) (n := 66) (by omega) (by omega) ?_
  refine k_putF (ci := 9) (C := RX9) (T := TX9) (ty := .array (.array .int)) S hin2 hK hS (Or.inl rfl) rfl hin tyX9 tyX9_ok nmX9 hO 2 (by decide) ⟨rfl, rfl, rfl, rfl⟩ rfl (hts (.fieldLink RX9 18 "ReplicaFiles$Versions" "counts" "[[I") (cBc 187 rfl)) (by decide) rfl rfl dX9_init_25 (fun H6 locs hO hz o hS => ?_)
  have e1 : H6[sz + 0]? = _ := (o _ (by omega)).trans e1
  have e3 : H6[sz + 1]? = _ := (o _ (by omega)).trans e3
  have e5 : H6[sz + 2]? = _ := (o _ (by omega)).trans e5
  have r5 : ∀ j : Nat, j < 6 → H6[sz + 3 + j]? = some (arrV (dA 0) (N + 4) (fun _ => .int 0)) := fun j hj => (o _ (by omega)).trans (r5 j hj)
  have hsz : H6.size = sz + 9 := by omega
  refine W.vret hx hb hr (fun t ht hW => ⟨⟨(), rfl, trivial, by rw [ht]; omega, fun i hi => ?_⟩, hS.F ht⟩) hS.2.2 dX9_init_28 hlocks
  rw [ht]
  obtain ⟨tg, a, b⟩ := i
  obtain ⟨hlv, h1, h2, h3⟩ := hi
  dsimp only at h1 h2 h3
  subst h3
  rcases (show tg = 60 ∨ tg = 61 ∨ tg = 62 ∨ tg = 63 ∨ tg = 64 by omega) with rfl | rfl | rfl | rfl | rfl
  · have hb0 : b = 0 := hlv.2
    subst hb0
    refine hO.to (fun k hk => ?_)
    rcases (show k = 0 ∨ k = 1 ∨ k = 2 ∨ k = 3 by omega) with rfl | rfl | rfl | rfl <;> simp [updV, gF, cF_X9, h61, h62, h63, gM0, tyX9, defaultValue] <;> omega
  · have hb0 : b = 0 := hlv.2
    subst hb0
    show _[A (61, a, 0)]? = some (arrV _ (cMost a) _)
    rw [h61, hm]; exact e1
  · have hb0 : b = 0 := hlv.2
    subst hb0
    show _[A (62, a, 0)]? = some (arrV _ (cMost a) _)
    rw [h62, hm]; exact e3
  · have hb0 : b = 0 := hlv.2
    subst hb0
    show _[A (63, a, 0)]? = some (arrV _ (cMost a) _)
    rw [h63, hm, e5]
    exact congrArg some (arrV_ext fun j hj => by simp [hj, va_rf, h64 j hj] <;> omega)
  · have hb0 : b < 6 := hm ▸ hlv.2
    show _[A (64, a, b)]? = _
    rw [h64 b hb0]; exact r5 b hb0
set_option maxHeartbeats 4000000 in
set_option maxRecDepth 100000 in
theorem k_X9_24 (l : Launch) (N : Nat) (hN1 : 1 ≤ N) (hN4 : N ≤ 4) (D : va_G) (dA : Nat → ClassId) (A : gI → Nat) (sz : Nat) (v : Nat) (hq : A (60, v, 0) < sz) (hm : cMost v = 24) (h61 : A (61, v, 0) = sz + 0) (h62 : A (62, v, 0) = sz + 1) (h63 : A (63, v, 0) = sz + 2) (h64 : ∀ o, o < 24 → A (64, v, o) = sz + 3 + o) : Met l yX9_init wmX9_init ({ frames := 1, cells := 27, slots := 264, locals := 30 } : Room) (kPc D dA sz (A (60, v, 0)) 9 4 tyX9 [.ref (A (60, v, 0)), .int (nI 24), .int (nI (N + 4))]) (kQ N D dA A (A (60, v, 0)) sz 27 (fun i => cLive N i ∧ 60 ≤ i.1 ∧ i.1 ≤ 64 ∧ i.2.1 = v) gM0) 27 264 (kReg (A (60, v, 0)) sz) := by
  refine Met.ofW (cc := cX9_init) (maxL := 3) (ret := none) (by decide) rfl ?_
  intro p e s m args below meth c s₁ B hml hv
  obtain ⟨rfl, hsz, hO, hK, hAO⟩ := hv
  generalize hargs : ([.ref (A (60, v, 0)), .int (nI 24), .int (nI (N + 4))] : List Value).toArray = args at B ⊢
  have S : CallFix p m c cX9_init 3 s args wmX9_init RX9 := ⟨B.exec, B.bytes, hml, findClass_of_methodNamed B.named, atoms_spec (ws := wmX9_init) B.pre⟩
  obtain ⟨hx, hb, -, hown, hts⟩ := id S
  have hr := B.returns
  have hlocks := B.notSynchronized
  have hin2 : meth.name = "<init>" := (name_of_methodNamed B.named B.method).1
  have hin : ∀ w ∈ wsX90, w ∈ wmX9_init := cin_X9
  have hS : va_S (kReg (A (60, v, 0)) sz) s.heap s.heap [] := va_S.rf
  have hl := lv_entry ([.ref (A (60, v, 0)), .int (nI 24), .int (nI (N + 4))]) (n := 3) (Nat.le_of_ble_eq_true rfl)
  rw [← hargs, lg_entry_eq, hargs]
  generalize (lg_sl ([.ref (A (60, v, 0)), .int (nI 24), .int (nI (N + 4))]) ++ List.replicate (3 - (lg_sl ([.ref (A (60, v, 0)), .int (nI 24), .int (nI (N + 4))])).length) Slot.unset).toArray = ls at hl ⊢
  have hl : lv_has ls 3 [(0, .ref (A (60, v, 0))), (1, .int (nI 24)), (2, .int (nI (N + 4)))] := hl
  refine lv_aload_n hx hb dX9_init_0 rfl (lv_at hl 0 rfl) ?_
  refine W.objInit hx hb hown (hts (.methodLink RX9 1 objectInit) (cBc 318 rfl)) (hts (.instanceMethod objectInit) (cBc 2 rfl)) (hts (.code objectInit ⟨#[0xb1]⟩ 1 none) (cBc 3 rfl)) rfl (by rw [hml]; exact hl.1) rfl dX9_init_1 (Nat.le_of_ble_eq_true rfl) (Nat.le_of_ble_eq_true rfl) ?_
  refine lv_aload_n hx hb dX9_init_4 rfl (lv_at hl 0 rfl) ?_
  refine lv_iload_n hx hb dX9_init_5 rfl (lv_at hl 1 rfl) ?_
  refine k_newI (n := 24) S hK hS (hts (.arrayClass .int) (cBc 4 rfl)) rfl (by omega) (by simp only [componentBytes]; omega) (by show 1 ≤ 27; decide) (by show 0 + 24 ≤ 264; omega) dX9_init_6 (fun H1 e1 hz o hS => ?_)
  rw [hsz] at e1
  have hO := hO.kept (o _ (by omega))
  have hsz : H1.size = sz + 1 := by omega
  refine W.widen (k := 1) (n := 24) (by omega) (by omega) ?_
  refine k_putF (ci := 9) (C := RX9) (T := TX9) (ty := .array .int) S hin2 hK hS (Or.inl rfl) rfl hin tyX9 tyX9_ok nmX9 hO 0 (by decide) ⟨rfl, rfl, rfl, rfl⟩ rfl (hts (.fieldLink RX9 7 "ReplicaFiles$Versions" "value" "[I") (cBc 184 rfl)) (by decide) rfl rfl dX9_init_8 (fun H2 locs hO hz o hS => ?_)
  have e1 : H2[sz + 0]? = _ := (o _ (by omega)).trans e1
  have hsz : H2.size = sz + 1 := by omega
  refine lv_aload_n hx hb dX9_init_11 rfl (lv_at hl 0 rfl) ?_
  refine lv_iload_n hx hb dX9_init_12 rfl (lv_at hl 1 rfl) ?_
  refine k_newI (n := 24) S hK hS (hts (.arrayClass .int) (cBc 4 rfl)) rfl (by omega) (by simp only [componentBytes]; omega) (by show 2 ≤ 27; decide) (by show 24 + 24 ≤ 264; omega) dX9_init_13 (fun H3 e3 hz o hS => ?_)
  rw [hsz] at e3
  have hO := hO.kept (o _ (by omega))
  have e1 : H3[sz + 0]? = _ := (o _ (by omega)).trans e1
  have hsz : H3.size = sz + 2 := by omega
  refine W.widen (k := 2) (n := 48) (by omega) (by omega) ?_
  refine k_putF (ci := 9) (C := RX9) (T := TX9) (ty := .array .int) S hin2 hK hS (Or.inl rfl) rfl hin tyX9 tyX9_ok nmX9 hO 1 (by decide) ⟨rfl, rfl, rfl, rfl⟩ rfl (hts (.fieldLink RX9 13 "ReplicaFiles$Versions" "size" "[I") (cBc 186 rfl)) (by decide) rfl rfl dX9_init_15 (fun H4 locs hO hz o hS => ?_)
  have e1 : H4[sz + 0]? = _ := (o _ (by omega)).trans e1
  have e3 : H4[sz + 1]? = _ := (o _ (by omega)).trans e3
  have hsz : H4.size = sz + 2 := by omega
  refine lv_aload_n hx hb dX9_init_18 rfl (lv_at hl 0 rfl) ?_
  refine lv_iload_n hx hb dX9_init_19 rfl (lv_at hl 1 rfl) ?_
  refine lv_iload_n hx hb dX9_init_20 rfl (lv_at hl 2 rfl) ?_
  refine k_mna (n := 24) (k := (N + 4)) S hK hS (hts (.classLink RX9 16 "[[I") (cBc 319 rfl)) hAO.arr (hts (.arrayClass .int) (cBc 4 rfl)) rfl rfl (by omega) (by omega) (by simp only [componentBytes]; omega) (by show 2 + (1 + 24) ≤ 27; omega) (by show 48 + (24 + 24 * ((N + 4))) ≤ 264; omega) dX9_init_21 (fun H5 e5 r5 hz o hS => ?_)
  rw [hsz] at e5
  have r5 : ∀ j : Nat, j < 24 → H5[sz + 3 + j]? = some (arrV (dA 0) (N + 4) (fun _ => .int 0)) := fun j hj => by have := r5 j hj; rw [hsz] at this; exact this
  have hO := hO.kept (o _ (by omega))
  have e1 : H5[sz + 0]? = _ := (o _ (by omega)).trans e1
  have e3 : H5[sz + 1]? = _ := (o _ (by omega)).trans e3
  have hsz : H5.size = sz + 3 + 24 := by omega
  have hsz : H5.size = sz + 27 := by omega
  refine W.widen (k := 27) (n := 264) (by omega) (by omega) ?_
  refine k_putF (ci := 9) (C := RX9) (T := TX9) (ty := .array (.array .int)) S hin2 hK hS (Or.inl rfl) rfl hin tyX9 tyX9_ok nmX9 hO 2 (by decide) ⟨rfl, rfl, rfl, rfl⟩ rfl (hts (.fieldLink RX9 18 "ReplicaFiles$Versions" "counts" "[[I") (cBc 187 rfl)) (by decide) rfl rfl dX9_init_25 (fun H6 locs hO hz o hS => ?_)
  have e1 : H6[sz + 0]? = _ := (o _ (by omega)).trans e1
  have e3 : H6[sz + 1]? = _ := (o _ (by omega)).trans e3
  have e5 : H6[sz + 2]? = _ := (o _ (by omega)).trans e5
  have r5 : ∀ j : Nat, j < 24 → H6[sz + 3 + j]? = some (arrV (dA 0) (N + 4) (fun _ => .int 0)) := fun j hj => (o _ (by omega)).trans (r5 j hj)
  have hsz : H6.size = sz + 27 := by omega
  refine W.vret hx hb hr (fun t ht hW => ⟨⟨(), rfl, trivial, by rw [ht]; omega, fun i hi => ?_⟩, hS.F ht⟩) hS.2.2 dX9_init_28 hlocks
  rw [ht]
  obtain ⟨tg, a, b⟩ := i
  obtain ⟨hlv, h1, h2, h3⟩ := hi
  dsimp only at h1 h2 h3
  subst h3
  rcases (show tg = 60 ∨ tg = 61 ∨ tg = 62 ∨ tg = 63 ∨ tg = 64 by omega) with rfl | rfl | rfl | rfl | rfl
  · have hb0 : b = 0 := hlv.2
    subst hb0
    refine hO.to (fun k hk => ?_)
    rcases (show k = 0 ∨ k = 1 ∨ k = 2 ∨ k = 3 by omega) with rfl | rfl | rfl | rfl <;> simp [updV, gF, cF_X9, h61, h62, h63, gM0, tyX9, defaultValue] <;> omega
  · have hb0 : b = 0 := hlv.2
    subst hb0
    show _[A (61, a, 0)]? = some (arrV _ (cMost a) _)
    rw [h61, hm]; exact e1
  · have hb0 : b = 0 := hlv.2
    subst hb0
    show _[A (62, a, 0)]? = some (arrV _ (cMost a) _)
    rw [h62, hm]; exact e3
  · have hb0 : b = 0 := hlv.2
    subst hb0
    show _[A (63, a, 0)]? = some (arrV _ (cMost a) _)
    rw [h63, hm, e5]
    exact congrArg some (arrV_ext fun j hj => by simp [hj, va_rf, h64 j hj] <;> omega)
  · have hb0 : b < 24 := hm ▸ hlv.2
    show _[A (64, a, b)]? = _
    rw [h64 b hb0]; exact r5 b hb0
theorem dX3_init_0 : decode cX3_init 0 = .ok (.aload_n 0, 1) := by decide +kernel
theorem dX3_init_1 : decode cX3_init 1 = .ok (.invokespecial 3, 3) := by decide +kernel
theorem dX3_init_4 : decode cX3_init 4 = .ok (.aload_n 0, 1) := by decide +kernel
theorem dX3_init_5 : decode cX3_init 5 = .ok (.bipush 12, 2) := by decide +kernel
theorem dX3_init_7 : decode cX3_init 7 = .ok (.newarray .int, 2) := by decide +kernel
theorem dX3_init_9 : decode cX3_init 9 = .ok (.putfield 9, 3) := by decide +kernel
theorem dX3_init_12 : decode cX3_init 12 = .ok (.aload_n 0, 1) := by decide +kernel
theorem dX3_init_13 : decode cX3_init 13 = .ok (.bipush 12, 2) := by decide +kernel
theorem dX3_init_15 : decode cX3_init 15 = .ok (.newarray .int, 2) := by decide +kernel
theorem dX3_init_17 : decode cX3_init 17 = .ok (.putfield 15, 3) := by decide +kernel
theorem dX3_init_20 : decode cX3_init 20 = .ok (.aload_n 0, 1) := by decide +kernel
theorem dX3_init_21 : decode cX3_init 21 = .ok (.bipush 12, 2) := by decide +kernel
theorem dX3_init_23 : decode cX3_init 23 = .ok (.newarray .int, 2) := by decide +kernel
theorem dX3_init_25 : decode cX3_init 25 = .ok (.putfield 18, 3) := by decide +kernel
theorem dX3_init_28 : decode cX3_init 28 = .ok (.aload_n 0, 1) := by decide +kernel
theorem dX3_init_29 : decode cX3_init 29 = .ok (.bipush 12, 2) := by decide +kernel
theorem dX3_init_31 : decode cX3_init 31 = .ok (.iload_n 1, 1) := by decide +kernel
theorem dX3_init_32 : decode cX3_init 32 = .ok (.multianewarray 21 2, 4) := by decide +kernel
theorem dX3_init_36 : decode cX3_init 36 = .ok (.putfield 23, 3) := by decide +kernel
theorem dX3_init_39 : decode cX3_init 39 = .ok (.return_, 1) := by decide +kernel
abbrev wmX3_init : List Cond := .code yX3_init cX3_init 2 none :: cBig
set_option maxHeartbeats 4000000 in
set_option maxRecDepth 100000 in
theorem k_X3 (l : Launch) (N : Nat) (hN1 : 1 ≤ N) (hN4 : N ≤ 4) (D : va_G) (dA : Nat → ClassId) (A : gI → Nat) (sz : Nat) (v : Nat) (hq : A (40, v, 0) < sz) (h41 : A (41, v, 0) = sz + 0) (h42 : A (42, v, 0) = sz + 1) (h43 : A (43, v, 0) = sz + 2) (h44 : A (44, v, 0) = sz + 3) (h45 : ∀ o, o < 12 → A (45, v, o) = sz + 4 + o) : Met l yX3_init wmX3_init ({ frames := 1, cells := 16, slots := 144, locals := 30 } : Room) (kPc D dA sz (A (40, v, 0)) 3 5 tyX3 [.ref (A (40, v, 0)), .int (nI (N + 4))]) (kQ N D dA A (A (40, v, 0)) sz 16 (fun i => cLive N i ∧ 40 ≤ i.1 ∧ i.1 ≤ 45 ∧ i.2.1 = v) gM0) 16 144 (kReg (A (40, v, 0)) sz) := by
  refine Met.ofW (cc := cX3_init) (maxL := 2) (ret := none) (by decide) rfl ?_
  intro p e s m args below meth c s₁ B hml hv
  obtain ⟨rfl, hsz, hO, hK, hAO⟩ := hv
  generalize hargs : ([.ref (A (40, v, 0)), .int (nI (N + 4))] : List Value).toArray = args at B ⊢
  have S : CallFix p m c cX3_init 2 s args wmX3_init RX3 := ⟨B.exec, B.bytes, hml, findClass_of_methodNamed B.named, atoms_spec (ws := wmX3_init) B.pre⟩
  obtain ⟨hx, hb, -, hown, hts⟩ := id S
  have hr := B.returns
  have hlocks := B.notSynchronized
  have hin2 : meth.name = "<init>" := (name_of_methodNamed B.named B.method).1
  have hin : ∀ w ∈ wsX30, w ∈ wmX3_init := cin_X3
  have hS : va_S (kReg (A (40, v, 0)) sz) s.heap s.heap [] := va_S.rf
  have hl := lv_entry ([.ref (A (40, v, 0)), .int (nI (N + 4))]) (n := 2) (Nat.le_of_ble_eq_true rfl)
  rw [← hargs, lg_entry_eq, hargs]
  generalize (lg_sl ([.ref (A (40, v, 0)), .int (nI (N + 4))]) ++ List.replicate (2 - (lg_sl ([.ref (A (40, v, 0)), .int (nI (N + 4))])).length) Slot.unset).toArray = ls at hl ⊢
  have hl : lv_has ls 2 [(0, .ref (A (40, v, 0))), (1, .int (nI (N + 4)))] := hl
  refine lv_aload_n hx hb dX3_init_0 rfl (lv_at hl 0 rfl) ?_
  refine W.objInit hx hb hown (hts (.methodLink RX3 3 objectInit) (cBc 28 rfl)) (hts (.instanceMethod objectInit) (cBc 2 rfl)) (hts (.code objectInit ⟨#[0xb1]⟩ 1 none) (cBc 3 rfl)) rfl (by rw [hml]; exact hl.1) rfl dX3_init_1 (Nat.le_of_ble_eq_true rfl) (Nat.le_of_ble_eq_true rfl) ?_
  refine lv_aload_n hx hb dX3_init_4 rfl (lv_at hl 0 rfl) ?_
  refine lv_bipush (v := (12 : Int32)) hx hb dX3_init_5 (by decide) ?_
  refine k_newI (n := 12) S hK hS (hts (.arrayClass .int) (cBc 4 rfl)) rfl (by omega) (by simp only [componentBytes]; omega) (by show 1 ≤ 16; decide) (by show 0 + 12 ≤ 144; omega) dX3_init_7 (fun H1 e1 hz o hS => ?_)
  rw [hsz] at e1
  have hO := hO.kept (o _ (by omega))
  have hsz : H1.size = sz + 1 := by omega
  refine W.widen (k := 1) (n := 12) (by omega) (by omega) ?_
  refine k_putF (ci := 3) (C := RX3) (T := TX3) (ty := .array .int) S hin2 hK hS (Or.inl rfl) rfl hin tyX3 tyX3_ok nmX3 hO 0 (by decide) ⟨rfl, rfl, rfl, rfl⟩ rfl (hts (.fieldLink RX3 9 "ReplicaFiles$Log" "kind" "[I") (cBc 29 rfl)) (by decide) rfl rfl dX3_init_9 (fun H2 locs hO hz o hS => ?_)
  have e1 : H2[sz + 0]? = _ := (o _ (by omega)).trans e1
  have hsz : H2.size = sz + 1 := by omega
  refine lv_aload_n hx hb dX3_init_12 rfl (lv_at hl 0 rfl) ?_
  refine lv_bipush (v := (12 : Int32)) hx hb dX3_init_13 (by decide) ?_
  refine k_newI (n := 12) S hK hS (hts (.arrayClass .int) (cBc 4 rfl)) rfl (by omega) (by simp only [componentBytes]; omega) (by show 2 ≤ 16; decide) (by show 12 + 12 ≤ 144; omega) dX3_init_15 (fun H3 e3 hz o hS => ?_)
  rw [hsz] at e3
  have hO := hO.kept (o _ (by omega))
  have e1 : H3[sz + 0]? = _ := (o _ (by omega)).trans e1
  have hsz : H3.size = sz + 2 := by omega
  refine W.widen (k := 2) (n := 24) (by omega) (by omega) ?_
  refine k_putF (ci := 3) (C := RX3) (T := TX3) (ty := .array .int) S hin2 hK hS (Or.inl rfl) rfl hin tyX3 tyX3_ok nmX3 hO 1 (by decide) ⟨rfl, rfl, rfl, rfl⟩ rfl (hts (.fieldLink RX3 15 "ReplicaFiles$Log" "object" "[I") (cBc 30 rfl)) (by decide) rfl rfl dX3_init_17 (fun H4 locs hO hz o hS => ?_)
  have e1 : H4[sz + 0]? = _ := (o _ (by omega)).trans e1
  have e3 : H4[sz + 1]? = _ := (o _ (by omega)).trans e3
  have hsz : H4.size = sz + 2 := by omega
  refine lv_aload_n hx hb dX3_init_20 rfl (lv_at hl 0 rfl) ?_
  refine lv_bipush (v := (12 : Int32)) hx hb dX3_init_21 (by decide) ?_
  refine k_newI (n := 12) S hK hS (hts (.arrayClass .int) (cBc 4 rfl)) rfl (by omega) (by simp only [componentBytes]; omega) (by show 3 ≤ 16; decide) (by show 24 + 12 ≤ 144; omega) dX3_init_23 (fun H5 e5 hz o hS => ?_)
  rw [hsz] at e5
  have hO := hO.kept (o _ (by omega))
  have e1 : H5[sz + 0]? = _ := (o _ (by omega)).trans e1
  have e3 : H5[sz + 1]? = _ := (o _ (by omega)).trans e3
  have hsz : H5.size = sz + 3 := by omega
  refine W.widen (k := 3) (n := 36) (by omega) (by omega) ?_
  refine k_putF (ci := 3) (C := RX3) (T := TX3) (ty := .array .int) S hin2 hK hS (Or.inl rfl) rfl hin tyX3 tyX3_ok nmX3 hO 2 (by decide) ⟨rfl, rfl, rfl, rfl⟩ rfl (hts (.fieldLink RX3 18 "ReplicaFiles$Log" "directory" "[I") (cBc 31 rfl)) (by decide) rfl rfl dX3_init_25 (fun H6 locs hO hz o hS => ?_)
  have e1 : H6[sz + 0]? = _ := (o _ (by omega)).trans e1
  have e3 : H6[sz + 1]? = _ := (o _ (by omega)).trans e3
  have e5 : H6[sz + 2]? = _ := (o _ (by omega)).trans e5
  have hsz : H6.size = sz + 3 := by omega
  refine lv_aload_n hx hb dX3_init_28 rfl (lv_at hl 0 rfl) ?_
  refine lv_bipush (v := (12 : Int32)) hx hb dX3_init_29 (by decide) ?_
  refine lv_iload_n hx hb dX3_init_31 rfl (lv_at hl 1 rfl) ?_
  refine k_mna (n := 12) (k := (N + 4)) S hK hS (hts (.classLink RX3 21 "[[I") (cBc 32 rfl)) hAO.arr (hts (.arrayClass .int) (cBc 4 rfl)) rfl rfl (by omega) (by omega) (by simp only [componentBytes]; omega) (by show 3 + (1 + 12) ≤ 16; omega) (by show 36 + (12 + 12 * ((N + 4))) ≤ 144; omega) dX3_init_32 (fun H7 e7 r7 hz o hS => ?_)
  rw [hsz] at e7
  have r7 : ∀ j : Nat, j < 12 → H7[sz + 4 + j]? = some (arrV (dA 0) (N + 4) (fun _ => .int 0)) := fun j hj => by have := r7 j hj; rw [hsz] at this; exact this
  have hO := hO.kept (o _ (by omega))
  have e1 : H7[sz + 0]? = _ := (o _ (by omega)).trans e1
  have e3 : H7[sz + 1]? = _ := (o _ (by omega)).trans e3
  have e5 : H7[sz + 2]? = _ := (o _ (by omega)).trans e5
  have hsz : H7.size = sz + 4 + 12 := by omega
  have hsz : H7.size = sz + 16 := by omega
  refine W.widen (k := 16) (n := 144) (by omega) (by omega) ?_
  refine k_putF (ci := 3) (C := RX3) (T := TX3) (ty := .array (.array .int)) S hin2 hK hS (Or.inl rfl) rfl hin tyX3 tyX3_ok nmX3 hO 3 (by decide) ⟨rfl, rfl, rfl, rfl⟩ rfl (hts (.fieldLink RX3 23 "ReplicaFiles$Log" "counts" "[[I") (cBc 33 rfl)) (by decide) rfl rfl dX3_init_36 (fun H8 locs hO hz o hS => ?_)
  have e1 : H8[sz + 0]? = _ := (o _ (by omega)).trans e1
  have e3 : H8[sz + 1]? = _ := (o _ (by omega)).trans e3
  have e5 : H8[sz + 2]? = _ := (o _ (by omega)).trans e5
  have e7 : H8[sz + 3]? = _ := (o _ (by omega)).trans e7
  have r7 : ∀ j : Nat, j < 12 → H8[sz + 4 + j]? = some (arrV (dA 0) (N + 4) (fun _ => .int 0)) := fun j hj => (o _ (by omega)).trans (r7 j hj)
  have hsz : H8.size = sz + 16 := by omega
  refine W.vret hx hb hr (fun t ht hW => ⟨⟨(), rfl, trivial, by rw [ht]; omega, fun i hi => ?_⟩, hS.F ht⟩) hS.2.2 dX3_init_39 hlocks
  rw [ht]
  obtain ⟨tg, a, b⟩ := i
  obtain ⟨hlv, h1, h2, h3⟩ := hi
  dsimp only at h1 h2 h3
  subst h3
  rcases (show tg = 40 ∨ tg = 41 ∨ tg = 42 ∨ tg = 43 ∨ tg = 44 ∨ tg = 45 by omega) with rfl | rfl | rfl | rfl | rfl | rfl
  · have hb0 : b = 0 := hlv.2
    subst hb0
    refine hO.to (fun k hk => ?_)
    rcases (show k = 0 ∨ k = 1 ∨ k = 2 ∨ k = 3 ∨ k = 4 by omega) with rfl | rfl | rfl | rfl | rfl <;> simp [updV, gF, cF_X3, h41, h42, h43, h44, gM0, tyX3, defaultValue] <;> omega
  · have hb0 : b = 0 := hlv.2
    subst hb0
    show _[A (41, a, 0)]? = _
    rw [h41]; exact e1
  · have hb0 : b = 0 := hlv.2
    subst hb0
    show _[A (42, a, 0)]? = _
    rw [h42]; exact e3
  · have hb0 : b = 0 := hlv.2
    subst hb0
    show _[A (43, a, 0)]? = _
    rw [h43]; exact e5
  · have hb0 : b = 0 := hlv.2
    subst hb0
    show _[A (44, a, 0)]? = _
    rw [h44, e7]
    exact congrArg some (arrV_ext fun j hj => by simp [hj, va_rf, h45 j hj] <;> omega)
  · have hb0 : b < 12 := hlv.2
    show _[A (45, a, b)]? = _
    rw [h45 b hb0]; exact r7 b hb0
theorem dX5_init_0 : decode cX5_init 0 = .ok (.aload_n 0, 1) := by decide +kernel
theorem dX5_init_1 : decode cX5_init 1 = .ok (.invokespecial 3, 3) := by decide +kernel
theorem dX5_init_4 : decode cX5_init 4 = .ok (.aload_n 0, 1) := by decide +kernel
theorem dX5_init_5 : decode cX5_init 5 = .ok (.iload_n 1, 1) := by decide +kernel
theorem dX5_init_6 : decode cX5_init 6 = .ok (.putfield 9, 3) := by decide +kernel
theorem dX5_init_9 : decode cX5_init 9 = .ok (.aload_n 0, 1) := by decide +kernel
theorem dX5_init_10 : decode cX5_init 10 = .ok (.iload_n 1, 1) := by decide +kernel
theorem dX5_init_11 : decode cX5_init 11 = .ok (.newarray .int, 2) := by decide +kernel
theorem dX5_init_13 : decode cX5_init 13 = .ok (.putfield 15, 3) := by decide +kernel
theorem dX5_init_16 : decode cX5_init 16 = .ok (.aload_n 0, 1) := by decide +kernel
theorem dX5_init_17 : decode cX5_init 17 = .ok (.iconst 1, 1) := by decide +kernel
theorem dX5_init_18 : decode cX5_init 18 = .ok (.iload_n 1, 1) := by decide +kernel
theorem dX5_init_19 : decode cX5_init 19 = .ok (.ishl, 1) := by decide +kernel
theorem dX5_init_20 : decode cX5_init 20 = .ok (.iconst 1, 1) := by decide +kernel
theorem dX5_init_21 : decode cX5_init 21 = .ok (.isub, 1) := by decide +kernel
theorem dX5_init_22 : decode cX5_init 22 = .ok (.putfield 19, 3) := by decide +kernel
theorem dX5_init_25 : decode cX5_init 25 = .ok (.return_, 1) := by decide +kernel
abbrev wmX5_init : List Cond := .code yX5_init cX5_init 2 none :: cBig
set_option maxHeartbeats 4000000 in
set_option maxRecDepth 100000 in
theorem k_X5 (l : Launch) (N : Nat) (hN1 : 1 ≤ N) (hN4 : N ≤ 4) (D : va_G) (dA : Nat → ClassId) (A : gI → Nat) (sz : Nat)  (hq : A (5, 0, 0) < sz) (h6 : A (6, 0, 0) = sz + 0) : Met l yX5_init wmX5_init ({ frames := 1, cells := 1, slots := 4, locals := 30 } : Room) (kPc D dA sz (A (5, 0, 0)) 5 3 tyX5 [.ref (A (5, 0, 0)), .int (nI N)]) (kQ N D dA A (A (5, 0, 0)) sz 1 (fun i => i = (5, 0, 0) ∨ i = (6, 0, 0)) (gset (gset gM0 (5, 0, 0) 0 (nI N)) (5, 0, 0) 2 (((1 : Int32) <<< (nI N &&& 31)) - 1))) 1 4 (kReg (A (5, 0, 0)) sz) := by
  refine Met.ofW (cc := cX5_init) (maxL := 2) (ret := none) (by decide) rfl ?_
  intro p e s m args below meth c s₁ B hml hv
  obtain ⟨rfl, hsz, hO, hK, hAO⟩ := hv
  generalize hargs : ([.ref (A (5, 0, 0)), .int (nI N)] : List Value).toArray = args at B ⊢
  have S : CallFix p m c cX5_init 2 s args wmX5_init RX5 := ⟨B.exec, B.bytes, hml, findClass_of_methodNamed B.named, atoms_spec (ws := wmX5_init) B.pre⟩
  obtain ⟨hx, hb, -, hown, hts⟩ := id S
  have hr := B.returns
  have hlocks := B.notSynchronized
  have hin2 : meth.name = "<init>" := (name_of_methodNamed B.named B.method).1
  have hin : ∀ w ∈ wsX50, w ∈ wmX5_init := cin_X5
  have hS : va_S (kReg (A (5, 0, 0)) sz) s.heap s.heap [] := va_S.rf
  have hl := lv_entry ([.ref (A (5, 0, 0)), .int (nI N)]) (n := 2) (Nat.le_of_ble_eq_true rfl)
  rw [← hargs, lg_entry_eq, hargs]
  generalize (lg_sl ([.ref (A (5, 0, 0)), .int (nI N)]) ++ List.replicate (2 - (lg_sl ([.ref (A (5, 0, 0)), .int (nI N)])).length) Slot.unset).toArray = ls at hl ⊢
  have hl : lv_has ls 2 [(0, .ref (A (5, 0, 0))), (1, .int (nI N))] := hl
  refine lv_aload_n hx hb dX5_init_0 rfl (lv_at hl 0 rfl) ?_
  refine W.objInit hx hb hown (hts (.methodLink RX5 3 objectInit) (cBc 476 rfl)) (hts (.instanceMethod objectInit) (cBc 2 rfl)) (hts (.code objectInit ⟨#[0xb1]⟩ 1 none) (cBc 3 rfl)) rfl (by rw [hml]; exact hl.1) rfl dX5_init_1 (Nat.le_of_ble_eq_true rfl) (Nat.le_of_ble_eq_true rfl) ?_
  refine lv_aload_n hx hb dX5_init_4 rfl (lv_at hl 0 rfl) ?_
  refine lv_iload_n hx hb dX5_init_5 rfl (lv_at hl 1 rfl) ?_
  refine k_putF (ci := 5) (C := RX5) (T := TX5) (ty := .int) S hin2 hK hS (Or.inl rfl) rfl hin tyX5 tyX5_ok nmX5 hO 0 (by decide) ⟨rfl, rfl, rfl, rfl⟩ rfl (hts (.fieldLink RX5 9 "ReplicaFiles$Net" "serverCount" "I") (cBc 477 rfl)) (by decide) rfl rfl dX5_init_6 (fun H1 locs hO hz o hS => ?_)
  have hsz : H1.size = sz + 0 := by omega
  refine lv_aload_n hx hb dX5_init_9 rfl (lv_at hl 0 rfl) ?_
  refine lv_iload_n hx hb dX5_init_10 rfl (lv_at hl 1 rfl) ?_
  refine k_newI (n := N) S hK hS (hts (.arrayClass .int) (cBc 4 rfl)) rfl (by omega) (by simp only [componentBytes]; omega) (by show 1 ≤ 1; decide) (by show 0 + N ≤ 4; omega) dX5_init_11 (fun H2 e2 hz o hS => ?_)
  rw [hsz] at e2
  have hO := hO.kept (o _ (by omega))
  have hsz : H2.size = sz + 1 := by omega
  refine W.widen (k := 1) (n := 4) (by omega) (by omega) ?_
  refine k_putF (ci := 5) (C := RX5) (T := TX5) (ty := .array .int) S hin2 hK hS (Or.inl rfl) rfl hin tyX5 tyX5_ok nmX5 hO 1 (by decide) ⟨rfl, rfl, rfl, rfl⟩ rfl (hts (.fieldLink RX5 15 "ReplicaFiles$Net" "broken" "[I") (cBc 478 rfl)) (by decide) rfl rfl dX5_init_13 (fun H3 locs hO hz o hS => ?_)
  have e2 : H3[sz + 0]? = _ := (o _ (by omega)).trans e2
  have hsz : H3.size = sz + 1 := by omega
  refine lv_aload_n hx hb dX5_init_16 rfl (lv_at hl 0 rfl) ?_
  refine lv_iconst (v := (1 : Int32)) hx hb dX5_init_17 (by decide) ?_
  refine lv_iload_n hx hb dX5_init_18 rfl (lv_at hl 1 rfl) ?_
  refine lv_ishl hx hb dX5_init_19 ?_
  refine lv_iconst (v := (1 : Int32)) hx hb dX5_init_20 (by decide) ?_
  refine lv_isub hx hb dX5_init_21 ?_
  refine k_put (ci := 5) (C := RX5) (T := TX5) (ty := .int) S hK hS (Or.inl rfl) rfl hin tyX5 tyX5_ok nmX5 hO 2 (by decide) ⟨rfl, rfl, rfl, rfl⟩ (hts (.fieldLink RX5 19 "ReplicaFiles$Net" "up" "I") (cBc 479 rfl)) (by decide) rfl rfl dX5_init_22 (fun H4 locs hO hz o hS => ?_)
  have e2 : H4[sz + 0]? = _ := (o _ (by omega)).trans e2
  have hsz : H4.size = sz + 1 := by omega
  refine W.vret hx hb hr (fun t ht hW => ⟨⟨(), rfl, trivial, by rw [ht]; omega, fun i hi => ?_⟩, hS.F ht⟩) hS.2.2 dX5_init_25 hlocks
  rw [ht]
  rcases hi with rfl | rfl
  · refine hO.to (fun k hk => ?_)
    rcases (show k = 0 ∨ k = 1 ∨ k = 2 by omega) with rfl | rfl | rfl <;> simp [updV, gF, cF_X5, h6, gset] <;> omega
  · show _[A (6, 0, 0)]? = _
    rw [h6, e2]
    rfl
theorem dX0_init_0 : decode cX0_init 0 = .ok (.aload_n 0, 1) := by decide +kernel
theorem dX0_init_1 : decode cX0_init 1 = .ok (.invokespecial 3, 3) := by decide +kernel
theorem dX0_init_4 : decode cX0_init 4 = .ok (.aload_n 0, 1) := by decide +kernel
theorem dX0_init_5 : decode cX0_init 5 = .ok (.bipush 48, 2) := by decide +kernel
theorem dX0_init_7 : decode cX0_init 7 = .ok (.newarray .int, 2) := by decide +kernel
theorem dX0_init_9 : decode cX0_init 9 = .ok (.putfield 9, 3) := by decide +kernel
theorem dX0_init_12 : decode cX0_init 12 = .ok (.aload_n 0, 1) := by decide +kernel
theorem dX0_init_13 : decode cX0_init 13 = .ok (.bipush 48, 2) := by decide +kernel
theorem dX0_init_15 : decode cX0_init 15 = .ok (.newarray .int, 2) := by decide +kernel
theorem dX0_init_17 : decode cX0_init 17 = .ok (.putfield 15, 3) := by decide +kernel
theorem dX0_init_20 : decode cX0_init 20 = .ok (.aload_n 0, 1) := by decide +kernel
theorem dX0_init_21 : decode cX0_init 21 = .ok (.bipush 48, 2) := by decide +kernel
theorem dX0_init_23 : decode cX0_init 23 = .ok (.newarray .boolean, 2) := by decide +kernel
theorem dX0_init_25 : decode cX0_init 25 = .ok (.putfield 18, 3) := by decide +kernel
theorem dX0_init_28 : decode cX0_init 28 = .ok (.aload_n 0, 1) := by decide +kernel
theorem dX0_init_29 : decode cX0_init 29 = .ok (.getfield 18, 3) := by decide +kernel
theorem dX0_init_32 : decode cX0_init 32 = .ok (.iconst 0, 1) := by decide +kernel
theorem dX0_init_33 : decode cX0_init 33 = .ok (.iconst 1, 1) := by decide +kernel
theorem dX0_init_34 : decode cX0_init 34 = .ok (.bastore, 1) := by decide +kernel
theorem dX0_init_35 : decode cX0_init 35 = .ok (.aload_n 0, 1) := by decide +kernel
theorem dX0_init_36 : decode cX0_init 36 = .ok (.getfield 9, 3) := by decide +kernel
theorem dX0_init_39 : decode cX0_init 39 = .ok (.iconst 0, 1) := by decide +kernel
theorem dX0_init_40 : decode cX0_init 40 = .ok (.iconst (-1), 1) := by decide +kernel
theorem dX0_init_41 : decode cX0_init 41 = .ok (.iastore, 1) := by decide +kernel
theorem dX0_init_42 : decode cX0_init 42 = .ok (.return_, 1) := by decide +kernel
abbrev wmX0_init : List Cond := .code yX0_init cX0_init 1 none :: cBig
set_option maxHeartbeats 4000000 in
set_option maxRecDepth 100000 in
theorem k_X0 (l : Launch) (N : Nat) (hN1 : 1 ≤ N) (hN4 : N ≤ 4) (D : va_G) (dA : Nat → ClassId) (A : gI → Nat) (sz : Nat)  (hq : A (1, 0, 0) < sz) (h2 : A (2, 0, 0) = sz + 0) (h3 : A (3, 0, 0) = sz + 1) (h4 : A (4, 0, 0) = sz + 2) : Met l yX0_init wmX0_init ({ frames := 1, cells := 3, slots := 144, locals := 30 } : Room) (kPc D dA sz (A (1, 0, 0)) 0 4 tyX0 [.ref (A (1, 0, 0))]) (kQ N D dA A (A (1, 0, 0)) sz 3 (fun i => i = (1, 0, 0) ∨ i = (2, 0, 0) ∨ i = (3, 0, 0) ∨ i = (4, 0, 0)) (gset (gset gM0 (4, 0, 0) 0 1) (2, 0, 0) 0 (-1))) 3 144 (kReg (A (1, 0, 0)) sz) := by
  refine Met.ofW (cc := cX0_init) (maxL := 1) (ret := none) (by decide) rfl ?_
  intro p e s m args below meth c s₁ B hml hv
  obtain ⟨rfl, hsz, hO, hK, hAO⟩ := hv
  generalize hargs : ([.ref (A (1, 0, 0))] : List Value).toArray = args at B ⊢
  have S : CallFix p m c cX0_init 1 s args wmX0_init RX0 := ⟨B.exec, B.bytes, hml, findClass_of_methodNamed B.named, atoms_spec (ws := wmX0_init) B.pre⟩
  obtain ⟨hx, hb, -, hown, hts⟩ := id S
  have hr := B.returns
  have hlocks := B.notSynchronized
  have hin2 : meth.name = "<init>" := (name_of_methodNamed B.named B.method).1
  have hin : ∀ w ∈ wsX00, w ∈ wmX0_init := cin_X0
  have hS : va_S (kReg (A (1, 0, 0)) sz) s.heap s.heap [] := va_S.rf
  have hl := lv_entry ([.ref (A (1, 0, 0))]) (n := 1) (Nat.le_of_ble_eq_true rfl)
  rw [← hargs, lg_entry_eq, hargs]
  generalize (lg_sl ([.ref (A (1, 0, 0))]) ++ List.replicate (1 - (lg_sl ([.ref (A (1, 0, 0))])).length) Slot.unset).toArray = ls at hl ⊢
  have hl : lv_has ls 1 [(0, .ref (A (1, 0, 0)))] := hl
  refine lv_aload_n hx hb dX0_init_0 rfl (lv_at hl 0 rfl) ?_
  refine W.objInit hx hb hown (hts (.methodLink RX0 3 objectInit) (cBc 1 rfl)) (hts (.instanceMethod objectInit) (cBc 2 rfl)) (hts (.code objectInit ⟨#[0xb1]⟩ 1 none) (cBc 3 rfl)) rfl (by rw [hml]; exact hl.1) rfl dX0_init_1 (Nat.le_of_ble_eq_true rfl) (Nat.le_of_ble_eq_true rfl) ?_
  refine lv_aload_n hx hb dX0_init_4 rfl (lv_at hl 0 rfl) ?_
  refine lv_bipush (v := (48 : Int32)) hx hb dX0_init_5 (by decide) ?_
  refine k_newI (n := 48) S hK hS (hts (.arrayClass .int) (cBc 4 rfl)) rfl (by omega) (by simp only [componentBytes]; omega) (by show 1 ≤ 3; decide) (by show 0 + 48 ≤ 144; omega) dX0_init_7 (fun H1 e1 hz o hS => ?_)
  rw [hsz] at e1
  have hO := hO.kept (o _ (by omega))
  have hsz : H1.size = sz + 1 := by omega
  refine W.widen (k := 1) (n := 48) (by omega) (by omega) ?_
  refine k_putF (ci := 0) (C := RX0) (T := TX0) (ty := .array .int) S hin2 hK hS (Or.inl rfl) rfl hin tyX0 tyX0_ok nmX0 hO 0 (by decide) ⟨rfl, rfl, rfl, rfl⟩ rfl (hts (.fieldLink RX0 9 "ReplicaFiles$Catalog" "parent" "[I") (cBc 5 rfl)) (by decide) rfl rfl dX0_init_9 (fun H2 locs hO hz o hS => ?_)
  have e1 : H2[sz + 0]? = _ := (o _ (by omega)).trans e1
  have hsz : H2.size = sz + 1 := by omega
  refine lv_aload_n hx hb dX0_init_12 rfl (lv_at hl 0 rfl) ?_
  refine lv_bipush (v := (48 : Int32)) hx hb dX0_init_13 (by decide) ?_
  refine k_newI (n := 48) S hK hS (hts (.arrayClass .int) (cBc 4 rfl)) rfl (by omega) (by simp only [componentBytes]; omega) (by show 2 ≤ 3; decide) (by show 48 + 48 ≤ 144; omega) dX0_init_15 (fun H3 e3 hz o hS => ?_)
  rw [hsz] at e3
  have hO := hO.kept (o _ (by omega))
  have e1 : H3[sz + 0]? = _ := (o _ (by omega)).trans e1
  have hsz : H3.size = sz + 2 := by omega
  refine W.widen (k := 2) (n := 96) (by omega) (by omega) ?_
  refine k_putF (ci := 0) (C := RX0) (T := TX0) (ty := .array .int) S hin2 hK hS (Or.inl rfl) rfl hin tyX0 tyX0_ok nmX0 hO 1 (by decide) ⟨rfl, rfl, rfl, rfl⟩ rfl (hts (.fieldLink RX0 15 "ReplicaFiles$Catalog" "name" "[I") (cBc 6 rfl)) (by decide) rfl rfl dX0_init_17 (fun H4 locs hO hz o hS => ?_)
  have e1 : H4[sz + 0]? = _ := (o _ (by omega)).trans e1
  have e3 : H4[sz + 1]? = _ := (o _ (by omega)).trans e3
  have hsz : H4.size = sz + 2 := by omega
  refine lv_aload_n hx hb dX0_init_20 rfl (lv_at hl 0 rfl) ?_
  refine lv_bipush (v := (48 : Int32)) hx hb dX0_init_21 (by decide) ?_
  refine k_newZ (n := 48) S hK hS (hts (.arrayClass .boolean) (cBc 7 rfl)) rfl (by omega) (by simp only [componentBytes]; omega) (by show 3 ≤ 3; decide) (by show 96 + 48 ≤ 144; omega) dX0_init_23 (fun H5 e5 hz o hS => ?_)
  rw [hsz] at e5
  have hO := hO.kept (o _ (by omega))
  have e1 : H5[sz + 0]? = _ := (o _ (by omega)).trans e1
  have e3 : H5[sz + 1]? = _ := (o _ (by omega)).trans e3
  have hsz : H5.size = sz + 3 := by omega
  refine W.widen (k := 3) (n := 144) (by omega) (by omega) ?_
  refine k_putF (ci := 0) (C := RX0) (T := TX0) (ty := .array .boolean) S hin2 hK hS (Or.inl rfl) rfl hin tyX0 tyX0_ok nmX0 hO 2 (by decide) ⟨rfl, rfl, rfl, rfl⟩ rfl (hts (.fieldLink RX0 18 "ReplicaFiles$Catalog" "isDirectory" "[Z") (cBc 8 rfl)) (by decide) rfl rfl dX0_init_25 (fun H6 locs hO hz o hS => ?_)
  have e1 : H6[sz + 0]? = _ := (o _ (by omega)).trans e1
  have e3 : H6[sz + 1]? = _ := (o _ (by omega)).trans e3
  have e5 : H6[sz + 2]? = _ := (o _ (by omega)).trans e5
  have hsz : H6.size = sz + 3 := by omega
  refine lv_aload_n hx hb dX0_init_28 rfl (lv_at hl 0 rfl) ?_
  refine k_get (ci := 0) (C := RX0) (T := TX0) S hK rfl hin hO 2 (by decide) ⟨rfl, rfl, rfl⟩ (v := .ref (sz + 2)) (by simp [updV] <;> omega) (hts (.fieldLink RX0 18 "ReplicaFiles$Catalog" "isDirectory" "[Z") (cBc 8 rfl)) dX0_init_29 ?_
  refine lv_iconst (v := (0 : Int32)) hx hb dX0_init_32 (by decide) ?_
  refine lv_iconst (v := (1 : Int32)) hx hb dX0_init_33 (by decide) ?_
  refine k_zast S hK hS (Or.inr (Nat.le_add_right _ _)) e5 (Or.inr rfl) (gin_in (by decide)) dX0_init_34 (fun H7 locs e_ hz o hS => ?_)
  have hO := hO.kept (o _ (by omega))
  have e1 : H7[sz + 0]? = _ := (o _ (by omega)).trans e1
  have e3 : H7[sz + 1]? = _ := (o _ (by omega)).trans e3
  have e5 := e_
  have hsz : H7.size = sz + 3 := by omega
  refine lv_aload_n hx hb dX0_init_35 rfl (lv_at hl 0 rfl) ?_
  refine k_get (ci := 0) (C := RX0) (T := TX0) S hK rfl hin hO 0 (by decide) ⟨rfl, rfl, rfl⟩ (v := .ref (sz + 0)) (by simp [updV] <;> omega) (hts (.fieldLink RX0 9 "ReplicaFiles$Catalog" "parent" "[I") (cBc 5 rfl)) dX0_init_36 ?_
  refine lv_iconst (v := (0 : Int32)) hx hb dX0_init_39 (by decide) ?_
  refine lv_iconst (v := (-1 : Int32)) hx hb dX0_init_40 (by decide) ?_
  refine k_iast S hK hS (Or.inr (Nat.le_add_right _ _)) e1 (gin_in (by decide)) dX0_init_41 (fun H8 locs e_ hz o hS => ?_)
  have hO := hO.kept (o _ (by omega))
  have e3 : H8[sz + 1]? = _ := (o _ (by omega)).trans e3
  have e5 : H8[sz + 2]? = _ := (o _ (by omega)).trans e5
  have e1 := e_
  have hsz : H8.size = sz + 3 := by omega
  refine W.vret hx hb hr (fun t ht hW => ⟨⟨(), rfl, trivial, by rw [ht]; omega, fun i hi => ?_⟩, hS.F ht⟩) hS.2.2 dX0_init_42 hlocks
  rw [ht]
  rcases hi with rfl | rfl | rfl | rfl
  · refine hO.to (fun k hk => ?_)
    rcases (show k = 0 ∨ k = 1 ∨ k = 2 ∨ k = 3 by omega) with rfl | rfl | rfl | rfl <;> simp [updV, gF, cF_X0, h2, h3, h4, gset, gM0, tyX0, defaultValue] <;> omega
  · show _[A (2, 0, 0)]? = _
    rw [h2, e1]
    refine congrArg some (arrV_ext fun j hj => ?_)
    by_cases ej : j = 0 <;> simp [updV, gset, gM0, ej]
  · show _[A (3, 0, 0)]? = _
    rw [h3, e3]
    exact congrArg some (arrV_ext fun j hj => by simp [gset, gM0])
  · show _[A (4, 0, 0)]? = _
    rw [h4, e5]
    refine congrArg some (arrV_ext fun j hj => ?_)
    by_cases ej : j = 0 <;> simp [updV, gset, gM0, ej]
