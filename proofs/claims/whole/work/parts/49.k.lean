
def gM0 : gM := fun _ _ => 0
/-- arrays of references can be made -/
def kAO (U : State) : Prop := (Cond.arrayOver (.array .int)).before #[] U = true ∧ va_AO "ReplicaFiles$Server" U ∧ va_AO "ReplicaFiles$Client" U ∧ va_AO "ReplicaFiles$Versions" U
theorem kAO.moved {u U : State} (hvm : u.vm.Alike U.vm) (h : kAO u) : kAO U := by
  refine ⟨?_, h.2.1.moved hvm, h.2.2.1.moved hvm, h.2.2.2.moved hvm⟩
  obtain ⟨comp, c, k, h1, h2, h3, h4, h5⟩ := arrayOverA_spec h.1
  obtain ⟨k', hk', he⟩ := hvm.2.2 _ _ h3
  have hi : (U.vm.classes.findIdx? fun (x : Class) => match x.kind with | .array component _ => component == comp | _ => false) = some c := by
    have e1 := va_idx_bare U.vm comp
    have e2 := va_idx_bare u.vm comp
    first | rw [hvm.bare_eq] at e1 | rw [← hvm.bare_eq] at e1
    exact e1.symm.trans (e2.trans h2)
  have hkind : k'.kind = .array comp (.array .int) := by rw [he]; exact h4
  have f1 : U.vm.findClass (FieldType.array FieldType.int).toString = some comp := by rw [hvm.findClass]; exact h1
  have f2 : U.vm.findClass ("[" ++ (FieldType.array FieldType.int).toString) = some c := by rw [hvm.findClass]; exact h5
  unfold Cond.before Cond.holds
  simp only [Cond.value]
  rw [f1, Option.bind_some]
  refine (congrArg (fun o : Option Nat => (o.bind (fun c => (U.vm.classes[c]?).map fun (k : Class) => match k.kind with | .array _ ty => decide (ty = FieldType.array FieldType.int) && decide (U.vm.findClass ("[" ++ (FieldType.array FieldType.int).toString) = some c) | _ => false) == some true)) hi).trans ?_
  simp [hk', hkind, f2]
theorem kAO.arr {args : Array Value} {s : State} (h : kAO s) : (Cond.arrayOver (.array .int)).before args s = true := h.1
def kReg (q sz : Nat) : Nat → Prop := fun x => x = q ∨ sz ≤ x
abbrev kPc (D : va_G) (dA : Nat → ClassId) (sz q ci nf : Nat) (ty : Nat → FieldType) (av : List Value) : Array Value → State → Prop := va_Pc av (fun U => U.heap.size = sz ∧ t_OB q (D.1 ci) nf (D.2 ci) U.heap (fun k => defaultValue (ty k)) ∧ va_K D vwCl (gT dA) U ∧ kAO U)
/-- behind a constructor: the heap's size, and each of its cells as the layout has it -/
abbrev kQ (N : Nat) (D : va_G) (dA : Nat → ClassId) (A : gI → Nat) (q sz cnt : Nat) (ids : gI → Prop) (M : gM) : Array Value → State → Outcome → State → Prop := va_Qv (fun _ : Unit => True) (fun _ t => t.heap.size = sz + cnt ∧ ∀ i, ids i → gAt D (cLay N) dA A M t.heap i) (kReg q sz)

theorem dX8_init_0 : decode cX8_init 0 = .ok (.aload_n 0, 1) := by decide +kernel
theorem dX8_init_1 : decode cX8_init 1 = .ok (.invokespecial 3, 3) := by decide +kernel
theorem dX8_init_4 : decode cX8_init 4 = .ok (.aload_n 0, 1) := by decide +kernel
theorem dX8_init_5 : decode cX8_init 5 = .ok (.bipush 48, 2) := by decide +kernel
theorem dX8_init_7 : decode cX8_init 7 = .ok (.newarray .boolean, 2) := by decide +kernel
theorem dX8_init_9 : decode cX8_init 9 = .ok (.putfield 9, 3) := by decide +kernel
theorem dX8_init_12 : decode cX8_init 12 = .ok (.aload_n 0, 1) := by decide +kernel
theorem dX8_init_13 : decode cX8_init 13 = .ok (.bipush 48, 2) := by decide +kernel
theorem dX8_init_15 : decode cX8_init 15 = .ok (.newarray .int, 2) := by decide +kernel
theorem dX8_init_17 : decode cX8_init 17 = .ok (.putfield 15, 3) := by decide +kernel
theorem dX8_init_20 : decode cX8_init 20 = .ok (.aload_n 0, 1) := by decide +kernel
theorem dX8_init_21 : decode cX8_init 21 = .ok (.bipush 48, 2) := by decide +kernel
theorem dX8_init_23 : decode cX8_init 23 = .ok (.newarray .int, 2) := by decide +kernel
theorem dX8_init_25 : decode cX8_init 25 = .ok (.putfield 19, 3) := by decide +kernel
theorem dX8_init_28 : decode cX8_init 28 = .ok (.aload_n 0, 1) := by decide +kernel
theorem dX8_init_29 : decode cX8_init 29 = .ok (.bipush 48, 2) := by decide +kernel
theorem dX8_init_31 : decode cX8_init 31 = .ok (.newarray .int, 2) := by decide +kernel
theorem dX8_init_33 : decode cX8_init 33 = .ok (.putfield 22, 3) := by decide +kernel
theorem dX8_init_36 : decode cX8_init 36 = .ok (.aload_n 0, 1) := by decide +kernel
theorem dX8_init_37 : decode cX8_init 37 = .ok (.aload_n 1, 1) := by decide +kernel
theorem dX8_init_38 : decode cX8_init 38 = .ok (.putfield 25, 3) := by decide +kernel
theorem dX8_init_41 : decode cX8_init 41 = .ok (.aload_n 0, 1) := by decide +kernel
theorem dX8_init_42 : decode cX8_init 42 = .ok (.bipush 48, 2) := by decide +kernel
theorem dX8_init_44 : decode cX8_init 44 = .ok (.iload_n 2, 1) := by decide +kernel
theorem dX8_init_45 : decode cX8_init 45 = .ok (.multianewarray 29 2, 4) := by decide +kernel
theorem dX8_init_49 : decode cX8_init 49 = .ok (.putfield 31, 3) := by decide +kernel
theorem dX8_init_52 : decode cX8_init 52 = .ok (.aload_n 0, 1) := by decide +kernel
theorem dX8_init_53 : decode cX8_init 53 = .ok (.bipush 48, 2) := by decide +kernel
theorem dX8_init_55 : decode cX8_init 55 = .ok (.iload_n 2, 1) := by decide +kernel
theorem dX8_init_56 : decode cX8_init 56 = .ok (.multianewarray 29 2, 4) := by decide +kernel
theorem dX8_init_60 : decode cX8_init 60 = .ok (.putfield 34, 3) := by decide +kernel
theorem dX8_init_63 : decode cX8_init 63 = .ok (.return_, 1) := by decide +kernel
abbrev wmX8_init : List Cond := .code yX8_init cX8_init 3 none :: cBig
theorem arrV_ext {c : ClassId} {n : Nat} {f g : Nat → Value} (h : ∀ j, j < n → f j = g j) : arrV c n f = arrV c n g := by
  have e : (fun j : Fin n => f j.val) = fun j => g j.val := funext fun j => h j.val j.isLt
  unfold arrV
  rw [e]
set_option maxHeartbeats 4000000 in
set_option maxRecDepth 100000 in
theorem k_X8 (l : Launch) (N : Nat) (hN4 : N ≤ 4) (D : va_G) (dA : Nat → ClassId) (A : gI → Nat) (sz : Nat) (t : Nat) (hq : A (50, t, 0) < sz) (h51 : A (51, t, 0) = sz + 0) (h52 : A (52, t, 0) = sz + 1) (h53 : A (53, t, 0) = sz + 2) (h56 : A (56, t, 0) = sz + 3) (h54 : A (54, t, 0) = sz + 4) (h55 : ∀ o, o < 48 → A (55, t, o) = sz + 5 + o) (h57 : A (57, t, 0) = sz + 53) (h58 : ∀ o, o < 48 → A (58, t, o) = sz + 54 + o) : Met l yX8_init wmX8_init ({ frames := 1, cells := 102, slots := 1056, locals := 30 } : Room) (kPc D dA sz (A (50, t, 0)) 8 7 tyX8 [.ref (A (50, t, 0)), .ref (A (1, 0, 0)), .int (nI (N + 4))]) (kQ N D dA A (A (50, t, 0)) sz 102 (fun i => cLive N i ∧ 50 ≤ i.1 ∧ i.1 ≤ 58 ∧ i.2.1 = t) gM0) 102 1056 (kReg (A (50, t, 0)) sz) := by
  refine Met.ofW (cc := cX8_init) (maxL := 3) (ret := none) (by decide) rfl ?_
  intro p e s m args below meth c s₁ B hml hv
  obtain ⟨rfl, hsz, hO, hK, hAO⟩ := hv
  generalize hargs : ([.ref (A (50, t, 0)), .ref (A (1, 0, 0)), .int (nI (N + 4))] : List Value).toArray = args at B ⊢
  have S : CallFix p m c cX8_init 3 s args wmX8_init RX8 := ⟨B.exec, B.bytes, hml, findClass_of_methodNamed B.named, atoms_spec (ws := wmX8_init) B.pre⟩
  obtain ⟨hx, hb, -, hown, hts⟩ := id S
  have hr := B.returns
  have hlocks := B.notSynchronized
  have hin2 : meth.name = "<init>" := (name_of_methodNamed B.named B.method).1
  have hin : ∀ w ∈ wsX80, w ∈ wmX8_init := cin_X8
  have hS : va_S (kReg (A (50, t, 0)) sz) s.heap s.heap [] := va_S.rf
  have hl := lv_entry ([.ref (A (50, t, 0)), .ref (A (1, 0, 0)), .int (nI (N + 4))]) (n := 3) (Nat.le_of_ble_eq_true rfl)
  rw [← hargs, lg_entry_eq, hargs]
  generalize (lg_sl ([.ref (A (50, t, 0)), .ref (A (1, 0, 0)), .int (nI (N + 4))]) ++ List.replicate (3 - (lg_sl ([.ref (A (50, t, 0)), .ref (A (1, 0, 0)), .int (nI (N + 4))])).length) Slot.unset).toArray = ls at hl ⊢
  have hl : lv_has ls 3 [(0, .ref (A (50, t, 0))), (1, .ref (A (1, 0, 0))), (2, .int (nI (N + 4)))] := hl
  refine lv_aload_n hx hb dX8_init_0 rfl (lv_at hl 0 rfl) ?_
  refine W.objInit hx hb hown (hts (.methodLink RX8 3 objectInit) (cBc 18 rfl)) (hts (.instanceMethod objectInit) (cBc 2 rfl)) (hts (.code objectInit ⟨#[0xb1]⟩ 1 none) (cBc 3 rfl)) rfl (by rw [hml]; exact hl.1) rfl dX8_init_1 (Nat.le_of_ble_eq_true rfl) (Nat.le_of_ble_eq_true rfl) ?_
  refine lv_aload_n hx hb dX8_init_4 rfl (lv_at hl 0 rfl) ?_
  refine lv_bipush (v := (48 : Int32)) hx hb dX8_init_5 (by decide) ?_
  refine k_newZ (n := 48) S hK hS (hts (.arrayClass .boolean) (cBc 7 rfl)) rfl (by omega) (by simp only [componentBytes]; omega) (by show 1 ≤ 102; decide) (by show 0 + 48 ≤ 1056; omega) dX8_init_7 (fun H1 e1 hz o hS => ?_)
  rw [hsz] at e1
  have hO := hO.kept (o _ (by omega))
  have hsz : H1.size = sz + 1 := by omega
  refine W.widen (k := 1) (n := 48) (by omega) (by omega) ?_
  refine k_putF (ci := 8) (C := RX8) (T := TX8) (ty := .array .boolean) S hin2 hK hS (Or.inl rfl) rfl hin tyX8 tyX8_ok nmX8 hO 1 (by decide) ⟨rfl, rfl, rfl, rfl⟩ rfl (hts (.fieldLink RX8 9 "ReplicaFiles$Tree" "held" "[Z") (cBc 19 rfl)) (by decide) rfl rfl dX8_init_9 (fun H2 locs hO hz o hS => ?_)
  have e1 : H2[sz + 0]? = _ := (o _ (by omega)).trans e1
  have hsz : H2.size = sz + 1 := by omega
  refine lv_aload_n hx hb dX8_init_12 rfl (lv_at hl 0 rfl) ?_
  refine lv_bipush (v := (48 : Int32)) hx hb dX8_init_13 (by decide) ?_
  refine k_newI (n := 48) S hK hS (hts (.arrayClass .int) (cBc 4 rfl)) rfl (by omega) (by simp only [componentBytes]; omega) (by show 2 ≤ 102; decide) (by show 48 + 48 ≤ 1056; omega) dX8_init_15 (fun H3 e3 hz o hS => ?_)
  rw [hsz] at e3
  have hO := hO.kept (o _ (by omega))
  have e1 : H3[sz + 0]? = _ := (o _ (by omega)).trans e1
  have hsz : H3.size = sz + 2 := by omega
  refine W.widen (k := 2) (n := 96) (by omega) (by omega) ?_
  refine k_putF (ci := 8) (C := RX8) (T := TX8) (ty := .array .int) S hin2 hK hS (Or.inl rfl) rfl hin tyX8 tyX8_ok nmX8 hO 2 (by decide) ⟨rfl, rfl, rfl, rfl⟩ rfl (hts (.fieldLink RX8 15 "ReplicaFiles$Tree" "value" "[I") (cBc 20 rfl)) (by decide) rfl rfl dX8_init_17 (fun H4 locs hO hz o hS => ?_)
  have e1 : H4[sz + 0]? = _ := (o _ (by omega)).trans e1
  have e3 : H4[sz + 1]? = _ := (o _ (by omega)).trans e3
  have hsz : H4.size = sz + 2 := by omega
  refine lv_aload_n hx hb dX8_init_20 rfl (lv_at hl 0 rfl) ?_
  refine lv_bipush (v := (48 : Int32)) hx hb dX8_init_21 (by decide) ?_
  refine k_newI (n := 48) S hK hS (hts (.arrayClass .int) (cBc 4 rfl)) rfl (by omega) (by simp only [componentBytes]; omega) (by show 3 ≤ 102; decide) (by show 96 + 48 ≤ 1056; omega) dX8_init_23 (fun H5 e5 hz o hS => ?_)
  rw [hsz] at e5
  have hO := hO.kept (o _ (by omega))
  have e1 : H5[sz + 0]? = _ := (o _ (by omega)).trans e1
  have e3 : H5[sz + 1]? = _ := (o _ (by omega)).trans e3
  have hsz : H5.size = sz + 3 := by omega
  refine W.widen (k := 3) (n := 144) (by omega) (by omega) ?_
  refine k_putF (ci := 8) (C := RX8) (T := TX8) (ty := .array .int) S hin2 hK hS (Or.inl rfl) rfl hin tyX8 tyX8_ok nmX8 hO 3 (by decide) ⟨rfl, rfl, rfl, rfl⟩ rfl (hts (.fieldLink RX8 19 "ReplicaFiles$Tree" "size" "[I") (cBc 21 rfl)) (by decide) rfl rfl dX8_init_25 (fun H6 locs hO hz o hS => ?_)
  have e1 : H6[sz + 0]? = _ := (o _ (by omega)).trans e1
  have e3 : H6[sz + 1]? = _ := (o _ (by omega)).trans e3
  have e5 : H6[sz + 2]? = _ := (o _ (by omega)).trans e5
  have hsz : H6.size = sz + 3 := by omega
  refine lv_aload_n hx hb dX8_init_28 rfl (lv_at hl 0 rfl) ?_
  refine lv_bipush (v := (48 : Int32)) hx hb dX8_init_29 (by decide) ?_
  refine k_newI (n := 48) S hK hS (hts (.arrayClass .int) (cBc 4 rfl)) rfl (by omega) (by simp only [componentBytes]; omega) (by show 4 ≤ 102; decide) (by show 144 + 48 ≤ 1056; omega) dX8_init_31 (fun H7 e7 hz o hS => ?_)
  rw [hsz] at e7
  have hO := hO.kept (o _ (by omega))
  have e1 : H7[sz + 0]? = _ := (o _ (by omega)).trans e1
  have e3 : H7[sz + 1]? = _ := (o _ (by omega)).trans e3
  have e5 : H7[sz + 2]? = _ := (o _ (by omega)).trans e5
  have hsz : H7.size = sz + 4 := by omega
  refine W.widen (k := 4) (n := 192) (by omega) (by omega) ?_
  refine k_putF (ci := 8) (C := RX8) (T := TX8) (ty := .array .int) S hin2 hK hS (Or.inl rfl) rfl hin tyX8 tyX8_ok nmX8 hO 5 (by decide) ⟨rfl, rfl, rfl, rfl⟩ rfl (hts (.fieldLink RX8 22 "ReplicaFiles$Tree" "state" "[I") (cBc 22 rfl)) (by decide) rfl rfl dX8_init_33 (fun H8 locs hO hz o hS => ?_)
  have e1 : H8[sz + 0]? = _ := (o _ (by omega)).trans e1
  have e3 : H8[sz + 1]? = _ := (o _ (by omega)).trans e3
  have e5 : H8[sz + 2]? = _ := (o _ (by omega)).trans e5
  have e7 : H8[sz + 3]? = _ := (o _ (by omega)).trans e7
  have hsz : H8.size = sz + 4 := by omega
  refine lv_aload_n hx hb dX8_init_36 rfl (lv_at hl 0 rfl) ?_
  refine lv_aload_n hx hb dX8_init_37 rfl (lv_at hl 1 rfl) ?_
  refine k_putF (ci := 8) (C := RX8) (T := TX8) (ty := .object "ReplicaFiles$Catalog") S hin2 hK hS (Or.inl rfl) rfl hin tyX8 tyX8_ok nmX8 hO 0 (by decide) ⟨rfl, rfl, rfl, rfl⟩ rfl (hts (.fieldLink RX8 25 "ReplicaFiles$Tree" "catalog" "LReplicaFiles$Catalog;") (cBc 23 rfl)) (by decide) rfl rfl dX8_init_38 (fun H9 locs hO hz o hS => ?_)
  have e1 : H9[sz + 0]? = _ := (o _ (by omega)).trans e1
  have e3 : H9[sz + 1]? = _ := (o _ (by omega)).trans e3
  have e5 : H9[sz + 2]? = _ := (o _ (by omega)).trans e5
  have e7 : H9[sz + 3]? = _ := (o _ (by omega)).trans e7
  have hsz : H9.size = sz + 4 := by omega
  refine lv_aload_n hx hb dX8_init_41 rfl (lv_at hl 0 rfl) ?_
  refine lv_bipush (v := (48 : Int32)) hx hb dX8_init_42 (by decide) ?_
  refine lv_iload_n hx hb dX8_init_44 rfl (lv_at hl 2 rfl) ?_
  refine k_mna (n := 48) (k := (N + 4)) S hK hS (hts (.classLink RX8 29 "[[I") (cBc 24 rfl)) hAO.arr (hts (.arrayClass .int) (cBc 4 rfl)) rfl rfl (by omega) (by omega) (by simp only [componentBytes]; omega) (by show 4 + (1 + 48) ≤ 102; omega) (by show 192 + (48 + 48 * ((N + 4))) ≤ 1056; omega) dX8_init_45 (fun H10 e10 r10 hz o hS => ?_)
  rw [hsz] at e10
  have r10 : ∀ j : Nat, j < 48 → H10[sz + 5 + j]? = some (arrV (dA 0) (N + 4) (fun _ => .int 0)) := fun j hj => by have := r10 j hj; rw [hsz] at this; exact this
  have hO := hO.kept (o _ (by omega))
  have e1 : H10[sz + 0]? = _ := (o _ (by omega)).trans e1
  have e3 : H10[sz + 1]? = _ := (o _ (by omega)).trans e3
  have e5 : H10[sz + 2]? = _ := (o _ (by omega)).trans e5
  have e7 : H10[sz + 3]? = _ := (o _ (by omega)).trans e7
  have hsz : H10.size = sz + 5 + 48 := by omega
  have hsz : H10.size = sz + 53 := by omega
  refine W.widen (k := 53) (n := 624) (by omega) (by omega) ?_
  refine k_putF (ci := 8) (C := RX8) (T := TX8) (ty := .array (.array .int)) S hin2 hK hS (Or.inl rfl) rfl hin tyX8 tyX8_ok nmX8 hO 4 (by decide) ⟨rfl, rfl, rfl, rfl⟩ rfl (hts (.fieldLink RX8 31 "ReplicaFiles$Tree" "counts" "[[I") (cBc 25 rfl)) (by decide) rfl rfl dX8_init_49 (fun H11 locs hO hz o hS => ?_)
  have e1 : H11[sz + 0]? = _ := (o _ (by omega)).trans e1
  have e3 : H11[sz + 1]? = _ := (o _ (by omega)).trans e3
  have e5 : H11[sz + 2]? = _ := (o _ (by omega)).trans e5
  have e7 : H11[sz + 3]? = _ := (o _ (by omega)).trans e7
  have e10 : H11[sz + 4]? = _ := (o _ (by omega)).trans e10
  have r10 : ∀ j : Nat, j < 48 → H11[sz + 5 + j]? = some (arrV (dA 0) (N + 4) (fun _ => .int 0)) := fun j hj => (o _ (by omega)).trans (r10 j hj)
  have hsz : H11.size = sz + 53 := by omega
  refine lv_aload_n hx hb dX8_init_52 rfl (lv_at hl 0 rfl) ?_
  refine lv_bipush (v := (48 : Int32)) hx hb dX8_init_53 (by decide) ?_
  refine lv_iload_n hx hb dX8_init_55 rfl (lv_at hl 2 rfl) ?_
  refine k_mna (n := 48) (k := (N + 4)) S hK hS (hts (.classLink RX8 29 "[[I") (cBc 24 rfl)) hAO.arr (hts (.arrayClass .int) (cBc 4 rfl)) rfl rfl (by omega) (by omega) (by simp only [componentBytes]; omega) (by show 53 + (1 + 48) ≤ 102; omega) (by show 624 + (48 + 48 * ((N + 4))) ≤ 1056; omega) dX8_init_56 (fun H12 e12 r12 hz o hS => ?_)
  rw [hsz] at e12
  have r12 : ∀ j : Nat, j < 48 → H12[sz + 54 + j]? = some (arrV (dA 0) (N + 4) (fun _ => .int 0)) := fun j hj => by have := r12 j hj; rw [hsz] at this; exact this
  have hO := hO.kept (o _ (by omega))
  have e1 : H12[sz + 0]? = _ := (o _ (by omega)).trans e1
  have e3 : H12[sz + 1]? = _ := (o _ (by omega)).trans e3
  have e5 : H12[sz + 2]? = _ := (o _ (by omega)).trans e5
  have e7 : H12[sz + 3]? = _ := (o _ (by omega)).trans e7
  have e10 : H12[sz + 4]? = _ := (o _ (by omega)).trans e10
  have r10 : ∀ j : Nat, j < 48 → H12[sz + 5 + j]? = some (arrV (dA 0) (N + 4) (fun _ => .int 0)) := fun j hj => (o _ (by omega)).trans (r10 j hj)
  have hsz : H12.size = sz + 54 + 48 := by omega
  have hsz : H12.size = sz + 102 := by omega
  refine W.widen (k := 102) (n := 1056) (by omega) (by omega) ?_
  refine k_putF (ci := 8) (C := RX8) (T := TX8) (ty := .array (.array .int)) S hin2 hK hS (Or.inl rfl) rfl hin tyX8 tyX8_ok nmX8 hO 6 (by decide) ⟨rfl, rfl, rfl, rfl⟩ rfl (hts (.fieldLink RX8 34 "ReplicaFiles$Tree" "goneCounts" "[[I") (cBc 26 rfl)) (by decide) rfl rfl dX8_init_60 (fun H13 locs hO hz o hS => ?_)
  have e1 : H13[sz + 0]? = _ := (o _ (by omega)).trans e1
  have e3 : H13[sz + 1]? = _ := (o _ (by omega)).trans e3
  have e5 : H13[sz + 2]? = _ := (o _ (by omega)).trans e5
  have e7 : H13[sz + 3]? = _ := (o _ (by omega)).trans e7
  have e10 : H13[sz + 4]? = _ := (o _ (by omega)).trans e10
  have r10 : ∀ j : Nat, j < 48 → H13[sz + 5 + j]? = some (arrV (dA 0) (N + 4) (fun _ => .int 0)) := fun j hj => (o _ (by omega)).trans (r10 j hj)
  have e12 : H13[sz + 53]? = _ := (o _ (by omega)).trans e12
  have r12 : ∀ j : Nat, j < 48 → H13[sz + 54 + j]? = some (arrV (dA 0) (N + 4) (fun _ => .int 0)) := fun j hj => (o _ (by omega)).trans (r12 j hj)
  have hsz : H13.size = sz + 102 := by omega
  refine W.vret hx hb hr (fun t ht hW => ⟨⟨(), rfl, trivial, by rw [ht]; omega, fun i hi => ?_⟩, hS.F ht⟩) hS.2.2 dX8_init_63 hlocks
  rw [ht]
  obtain ⟨tg, a, b⟩ := i
  obtain ⟨hlv, h1, h2, h3⟩ := hi
  dsimp only at h1 h2 h3
  subst h3
  rcases (show tg = 50 ∨ tg = 51 ∨ tg = 52 ∨ tg = 53 ∨ tg = 54 ∨ tg = 55 ∨ tg = 56 ∨ tg = 57 ∨ tg = 58 by omega) with rfl | rfl | rfl | rfl | rfl | rfl | rfl | rfl | rfl
  · have hb0 : b = 0 := hlv.2
    subst hb0
    refine hO.to (fun k hk => ?_)
    rcases (show k = 0 ∨ k = 1 ∨ k = 2 ∨ k = 3 ∨ k = 4 ∨ k = 5 ∨ k = 6 by omega) with rfl | rfl | rfl | rfl | rfl | rfl | rfl <;> simp [updV, gF, cF_X8, h51, h52, h53, h54, h56, h57] <;> omega
  · have hb0 : b = 0 := hlv.2
    subst hb0
    show _[A (51, a, 0)]? = _
    rw [h51]; exact e1
  · have hb0 : b = 0 := hlv.2
    subst hb0
    show _[A (52, a, 0)]? = _
    rw [h52]; exact e3
  · have hb0 : b = 0 := hlv.2
    subst hb0
    show _[A (53, a, 0)]? = _
    rw [h53]; exact e5
  · have hb0 : b = 0 := hlv.2
    subst hb0
    show _[A (54, a, 0)]? = _
    rw [h54, e10]
    exact congrArg some (arrV_ext fun j hj => by simp [hj, va_rf, h55 j hj] <;> omega)
  · have hb0 : b < 48 := hlv.2
    show _[A (55, a, b)]? = _
    rw [h55 b hb0]; exact r10 b hb0
  · have hb0 : b = 0 := hlv.2
    subst hb0
    show _[A (56, a, 0)]? = _
    rw [h56]; exact e7
  · have hb0 : b = 0 := hlv.2
    subst hb0
    show _[A (57, a, 0)]? = _
    rw [h57, e12]
    exact congrArg some (arrV_ext fun j hj => by simp [hj, va_rf, h58 j hj] <;> omega)
  · have hb0 : b < 48 := hlv.2
    show _[A (58, a, b)]? = _
    rw [h58 b hb0]; exact r12 b hb0
