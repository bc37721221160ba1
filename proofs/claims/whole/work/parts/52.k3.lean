theorem kG.ne {N q lo hi a : Nat} {D : va_G} {dA : Nat → ClassId} {H H1 : Heap} {P : gI → Prop} (h : kG N D dA q lo hi H P) (o : ∀ x : Nat, x ≠ a → H1[x]? = H[x]?) (ha : ∀ i, P i → cAd N q i ≠ a) : kG N D dA q lo hi H1 P := fun i hi' => ⟨(h i hi').1, (h i hi').2.to rfl (o _ (ha i hi'))⟩
theorem cAd_tree_ne {N q t : Nat} {i : gI} (h : (cLive N i ∧ 50 ≤ i.1 ∧ i.1 ≤ 58 ∧ i.2.1 = t) ∧ i.1 ≠ 51) : cAd N q i ≠ cAd N q (51, t, 0) := by
  obtain ⟨tg, a, b⟩ := i
  obtain ⟨⟨hlv, h1, h2, h3⟩, h51⟩ := h
  dsimp only at h1 h2 h3 h51
  subst h3
  rcases (show tg = 50 ∨ tg = 52 ∨ tg = 53 ∨ tg = 54 ∨ tg = 55 ∨ tg = 56 ∨ tg = 57 ∨ tg = 58 by omega) with rfl | rfl | rfl | rfl | rfl | rfl | rfl | rfl <;> have hb := hlv.2 <;> simp only [cAd] <;> dsimp only at hb <;> omega
theorem cAd_21 {N q v o : Nat} {i : gI} (h : ((i = (22, v, 0) ∨ (cLive N i ∧ 50 ≤ i.1 ∧ i.1 ≤ 58 ∧ i.2.1 = v)) ∨ (cLive N i ∧ 60 ≤ i.1 ∧ i.1 ≤ 64 ∧ 48 * v ≤ i.2.1 ∧ i.2.1 < 48 * v + o)) ∨ (cLive N i ∧ 60 ≤ i.1 ∧ i.1 ≤ 64 ∧ i.2.1 = 48 * v + o)) (hv : v < 4) (ho : o < 48) : q + 11 + 586 * v ≤ cAd N q i := by
  rcases h with ((rfl | h) | h) | h
  · exact Nat.le_refl _
  · have h1 := cAd_tree (q := q) h
    unfold cTb at h1
    rw [if_pos hv] at h1
    omega
  · have h1 := cAd_ver (q := q) (v := i.2.1) ⟨h.1, h.2.1, h.2.2.1, rfl⟩
    unfold cVb at h1
    rw [if_neg (by omega), show i.2.1 / 48 = v by omega] at h1
    omega
  · have h1 := cAd_ver (q := q) h
    unfold cVb at h1
    rw [if_neg (by omega), show (48 * v + o) / 48 = v by omega] at h1
    omega
theorem dX7_init_0 : decode cX7_init 0 = .ok (.aload_n 0, 1) := by decide +kernel
theorem dX7_init_1 : decode cX7_init 1 = .ok (.invokespecial 3, 3) := by decide +kernel
theorem dX7_init_4 : decode cX7_init 4 = .ok (.aload_n 0, 1) := by decide +kernel
theorem dX7_init_5 : decode cX7_init 5 = .ok (.bipush 48, 2) := by decide +kernel
theorem dX7_init_7 : decode cX7_init 7 = .ok (.anewarray 9, 3) := by decide +kernel
theorem dX7_init_10 : decode cX7_init 10 = .ok (.putfield 11, 3) := by decide +kernel
theorem dX7_init_13 : decode cX7_init 13 = .ok (.aload_n 0, 1) := by decide +kernel
theorem dX7_init_14 : decode cX7_init 14 = .ok (.bipush 48, 2) := by decide +kernel
theorem dX7_init_16 : decode cX7_init 16 = .ok (.newarray .int, 2) := by decide +kernel
theorem dX7_init_18 : decode cX7_init 18 = .ok (.putfield 17, 3) := by decide +kernel
theorem dX7_init_21 : decode cX7_init 21 = .ok (.aload_n 0, 1) := by decide +kernel
theorem dX7_init_22 : decode cX7_init 22 = .ok (.new 21, 3) := by decide +kernel
theorem dX7_init_25 : decode cX7_init 25 = .ok (.dup, 1) := by decide +kernel
theorem dX7_init_26 : decode cX7_init 26 = .ok (.aload_n 1, 1) := by decide +kernel
theorem dX7_init_27 : decode cX7_init 27 = .ok (.iload_n 2, 1) := by decide +kernel
theorem dX7_init_28 : decode cX7_init 28 = .ok (.invokespecial 23, 3) := by decide +kernel
theorem dX7_init_31 : decode cX7_init 31 = .ok (.putfield 26, 3) := by decide +kernel
theorem dX7_init_34 : decode cX7_init 34 = .ok (.aload_n 0, 1) := by decide +kernel
theorem dX7_init_35 : decode cX7_init 35 = .ok (.getfield 26, 3) := by decide +kernel
theorem dX7_init_38 : decode cX7_init 38 = .ok (.getfield 30, 3) := by decide +kernel
theorem dX7_init_41 : decode cX7_init 41 = .ok (.iconst 0, 1) := by decide +kernel
theorem dX7_init_42 : decode cX7_init 42 = .ok (.iconst 1, 1) := by decide +kernel
theorem dX7_init_43 : decode cX7_init 43 = .ok (.bastore, 1) := by decide +kernel
theorem dX7_init_44 : decode cX7_init 44 = .ok (.iconst 0, 1) := by decide +kernel
theorem dX7_init_45 : decode cX7_init 45 = .ok (.istore_n 3, 1) := by decide +kernel
theorem dX7_init_46 : decode cX7_init 46 = .ok (.iload_n 3, 1) := by decide +kernel
theorem dX7_init_47 : decode cX7_init 47 = .ok (.bipush 48, 2) := by decide +kernel
theorem dX7_init_49 : decode cX7_init 49 = .ok (.if_icmp .ge 25, 3) := by decide +kernel
theorem dX7_init_52 : decode cX7_init 52 = .ok (.aload_n 0, 1) := by decide +kernel
theorem dX7_init_53 : decode cX7_init 53 = .ok (.getfield 11, 3) := by decide +kernel
theorem dX7_init_56 : decode cX7_init 56 = .ok (.iload_n 3, 1) := by decide +kernel
theorem dX7_init_57 : decode cX7_init 57 = .ok (.new 9, 3) := by decide +kernel
theorem dX7_init_60 : decode cX7_init 60 = .ok (.dup, 1) := by decide +kernel
theorem dX7_init_61 : decode cX7_init 61 = .ok (.bipush 6, 2) := by decide +kernel
theorem dX7_init_63 : decode cX7_init 63 = .ok (.iload_n 2, 1) := by decide +kernel
theorem dX7_init_64 : decode cX7_init 64 = .ok (.invokespecial 34, 3) := by decide +kernel
theorem dX7_init_67 : decode cX7_init 67 = .ok (.aastore, 1) := by decide +kernel
theorem dX7_init_68 : decode cX7_init 68 = .ok (.iinc 3 1, 3) := by decide +kernel
theorem dX7_init_71 : decode cX7_init 71 = .ok (.goto (-25), 3) := by decide +kernel
theorem dX7_init_74 : decode cX7_init 74 = .ok (.return_, 1) := by decide +kernel
abbrev wmX7_init : List Cond := .code yX7_init cX7_init 4 none :: cBig
set_option maxHeartbeats 8000000 in
set_option maxRecDepth 100000 in
theorem k_X7 (l : Launch) (N : Nat) (hN1 : 1 ≤ N) (hN4 : N ≤ 4) (D : va_G) (dA : Nat → ClassId) (q : Nat) (v : Nat) (hv : v < N) : Met l yX7_init wmX7_init ({ frames := 2, cells := 585, slots := 4519, locals := 60 } : Room) (kPp N D dA q (q + 9 + 586 * v + 1) (cAd N q (20, v, 0)) 7 4 tyX7 (fun i => False) [.ref (cAd N q (20, v, 0)), .ref (cAd N q (1, 0, 0)), .int (nI (N + 4))]) (kQ N D dA (cAd N q) (cAd N q (20, v, 0)) (q + 9 + 586 * v + 1) (585) (fun i => cLive N i ∧ ((20 ≤ i.1 ∧ i.1 ≤ 22 ∧ i.2.1 = v) ∨ (50 ≤ i.1 ∧ i.1 ≤ 58 ∧ i.2.1 = v) ∨ (60 ≤ i.1 ∧ i.1 ≤ 64 ∧ i.2.1 / 48 = v))) (cM0 N)) 585 4519 (kReg (cAd N q (20, v, 0)) (q + 9 + 586 * v + 1)) := by
  refine Met.ofW (cc := cX7_init) (maxL := 4) (ret := none) (by decide) rfl ?_
  intro p e s m args below meth c s₁ B hml hv
  obtain ⟨rfl, hsz, hO, hK, hAO, hNw, hpre⟩ := hv
  generalize hargs : ([.ref (cAd N q (20, v, 0)), .ref (cAd N q (1, 0, 0)), .int (nI (N + 4))] : List Value).toArray = args at B ⊢
  have S : CallFix p m c cX7_init 4 s args wmX7_init RX7 := ⟨B.exec, B.bytes, hml, findClass_of_methodNamed B.named, atoms_spec (ws := wmX7_init) B.pre⟩
  obtain ⟨hx, hb, -, hown, hts⟩ := id S
  have hr := B.returns
  have hlocks := B.notSynchronized
  have hin2 : meth.name = "<init>" := (name_of_methodNamed B.named B.method).1
  have hin : ∀ w ∈ wsX70, w ∈ wmX7_init := cin_X7
  have hS : va_S (kReg (cAd N q (20, v, 0)) (q + 9 + 586 * v + 1)) s.heap s.heap [] := va_S.rf
  have hme : cAd N q (20, v, 0) = q + 9 + 586 * v := rfl
  have hg : kG N D dA q (q + 9 + 586 * v + 1) (q + 9 + 586 * v + 1) s.heap (fun _ => False) := kG.none
  have hl := lv_entry ([.ref (cAd N q (20, v, 0)), .ref (cAd N q (1, 0, 0)), .int (nI (N + 4))]) (n := 4) (Nat.le_of_ble_eq_true rfl)
  rw [← hargs, lg_entry_eq, hargs]
  generalize (lg_sl ([.ref (cAd N q (20, v, 0)), .ref (cAd N q (1, 0, 0)), .int (nI (N + 4))]) ++ List.replicate (4 - (lg_sl ([.ref (cAd N q (20, v, 0)), .ref (cAd N q (1, 0, 0)), .int (nI (N + 4))])).length) Slot.unset).toArray = ls at hl ⊢
  have hl : lv_has ls 4 [(0, .ref (cAd N q (20, v, 0))), (1, .ref (cAd N q (1, 0, 0))), (2, .int (nI (N + 4)))] := hl
  have htb : cTb N q v = q + 12 + 586 * v := by unfold cTb; rw [if_pos (by omega)]
  have hb50 : cAd N q (50, v, 0) = cTb N q v := rfl
  have hb51 : cAd N q (51, v, 0) = cTb N q v + 1 := rfl
  have hb21 : cAd N q (21, v, 0) = q + 10 + 586 * v := rfl
  have hsz : s.heap.size = q + 586 * v + 10 := by omega
  have hg := hg.wide (lo' := q + 9 + 586 * v + 1) (hi' := q + 586 * v + 10) (by omega) (by omega)
  refine lv_aload_n hx hb dX7_init_0 rfl (lv_at hl 0 rfl) ?_
  refine W.objInit hx hb hown (hts (.methodLink RX7 3 objectInit) (cBc 510 rfl)) (hts (.instanceMethod objectInit) (cBc 2 rfl)) (hts (.code objectInit ⟨#[0xb1]⟩ 1 none) (cBc 3 rfl)) rfl (by rw [hml]; exact hl.1) rfl dX7_init_1 (Nat.le_of_ble_eq_true rfl) (Nat.le_of_ble_eq_true rfl) ?_
  refine lv_aload_n hx hb dX7_init_4 rfl (lv_at hl 0 rfl) ?_
  refine lv_bipush (v := (48 : Int32)) hx hb dX7_init_5 (by decide) ?_
  have hi_ : cAd N q (21, v, 0) = q + 586 * v + 10 := by show q + 10 + 586 * v = _; omega
  have hsI : s.heap.size = cAd N q (21, v, 0) := by omega
  refine k_anew (C := RX9) (n := 48) 4 rfl S hK hS (hts (.classLink RX7 9 RX9) (cBc 511 rfl)) hAO.2.2.2 rfl (by omega) (by show 0 + 1 ≤ 585; omega) (by show 0 + 48 ≤ 4519; omega) dX7_init_7 (fun H1 eR hz o hS_ => ?_)
  rw [hsI] at eR ⊢
  replace hS := hS_
  clear hS_
  replace hO := hO.kept (o _ (by omega))
  replace hg := hg.old o (by omega)
  replace hsz : H1.size = q + 586 * v + 11 := by omega
  replace hg := hg.wide (lo' := q + 9 + 586 * v + 1) (hi' := q + 586 * v + 11) (by omega) (by omega)
  clear hz o hsI hi_
  refine W.widen (k := 1) (n := 48) (by omega) (by omega) ?_
  refine k_putF (ci := 7) (C := RX7) (T := TX7) (ty := .array (.object "ReplicaFiles$Versions")) S hin2 hK hS (Or.inl rfl) rfl hin tyX7 tyX7_ok nmX7 hO 1 (by decide) ⟨rfl, rfl, rfl, rfl⟩ rfl (hts (.fieldLink RX7 11 "ReplicaFiles$Server" "versions" "[LReplicaFiles$Versions;") (cBc 180 rfl)) (by decide) rfl rfl dX7_init_10 (fun H2 locs hO_ hz o hS_ => ?_)
  replace hS := hS_
  clear hS_
  replace hO := hO_
  clear hO_
  replace eR : H2[cAd N q (21, v, 0)]? = _ := (o _ (by omega)).trans eR
  replace hg := hg.put o (Or.inl (by omega))
  replace hsz : H2.size = q + 586 * v + 11 := by omega
  clear hz o
  refine lv_aload_n hx hb dX7_init_13 rfl (lv_at hl 0 rfl) ?_
  refine lv_bipush (v := (48 : Int32)) hx hb dX7_init_14 (by decide) ?_
  have hi_ : cAd N q (22, v, 0) = q + 586 * v + 11 := by show q + 11 + 586 * v = _; omega
  have hsI : H2.size = cAd N q (22, v, 0) := by omega
  refine k_newI (n := 48) S hK hS (hts (.arrayClass .int) (cBc 4 rfl)) rfl (by omega) (by simp only [componentBytes]; omega) (by show 1 + 1 ≤ 585; omega) (by show 48 + 48 ≤ 4519; omega) dX7_init_16 (fun H3 e_ hz o hS_ => ?_)
  rw [hsI] at e_ ⊢
  replace hS := hS_
  clear hS_
  replace hO := hO.kept (o _ (by omega))
  replace eR : H3[cAd N q (21, v, 0)]? = _ := (o _ (by omega)).trans eR
  replace hg := hg.old o (by omega)
  replace hsz : H3.size = q + 586 * v + 12 := by omega
  replace hg := (hg.wide (lo' := q + 9 + 586 * v + 1) (hi' := q + 586 * v + 12) (by omega) (by omega)).join (kG.arr (id := (22, v, 0)) (ca := 0) (n := 48) rfl rfl rfl e_ (by omega) (by omega))
  clear e_ hz o hsI hi_
  refine W.widen (k := 2) (n := 96) (by omega) (by omega) ?_
  refine k_putF (ci := 7) (C := RX7) (T := TX7) (ty := .array .int) S hin2 hK hS (Or.inl rfl) rfl hin tyX7 tyX7_ok nmX7 hO 2 (by decide) ⟨rfl, rfl, rfl, rfl⟩ rfl (hts (.fieldLink RX7 17 "ReplicaFiles$Server" "marks" "[I") (cBc 512 rfl)) (by decide) rfl rfl dX7_init_18 (fun H4 locs hO_ hz o hS_ => ?_)
  replace hS := hS_
  clear hS_
  replace hO := hO_
  clear hO_
  replace eR : H4[cAd N q (21, v, 0)]? = _ := (o _ (by omega)).trans eR
  replace hg := hg.put o (Or.inl (by omega))
  replace hsz : H4.size = q + 586 * v + 12 := by omega
  clear hz o
  refine lv_aload_n hx hb dX7_init_21 rfl (lv_at hl 0 rfl) ?_
  have hi_ : cAd N q (50, v, 0) = q + 586 * v + 12 := by show cTb N q v = _; omega
  have hsI : H4.size = cAd N q (50, v, 0) := by omega
  refine k_new (ci := 8) (C := RX8) (T := TX8) S hK hS rfl cin_X8 tyX8 tyX8_ok (hts (.classLink RX7 21 RX8) (cBc 513 rfl)) (hts (.instantiable RX8 7) (cBc 43 rfl)) (hts (.initialized RX8) (cBc 44 rfl)) (by show 2 + 1 ≤ 585; omega) (by show 96 + 7 ≤ 4519; omega) dX7_init_22 (fun H5 hOn hz o hS_ => ?_)
  rw [hsI] at hOn ⊢
  replace hS := hS_
  clear hS_
  replace hO := hO.kept (o _ (by omega))
  replace eR : H5[cAd N q (21, v, 0)]? = _ := (o _ (by omega)).trans eR
  replace hg := hg.old o (by omega)
  replace hsz : H5.size = q + 586 * v + 13 := by omega
  clear hz o hsI
  refine W.widen (k := 3) (n := 103) (by omega) (by omega) ?_
  refine lv_dup hx hb dX7_init_25 rfl ?_
  refine lv_aload_n hx hb dX7_init_26 rfl (lv_at hl 1 rfl) ?_
  refine lv_iload_n hx hb dX7_init_27 rfl (lv_at hl 2 rfl) ?_
  refine k_call (N := N) (A := cAd N q) (a := cAd N q (50, v, 0)) (sz := q + 586 * v + 13) (As := [.ref (cAd N q (1, 0, 0)), .int (nI (N + 4))]) (rest := [.ref (cAd N q (50, v, 0)), .ref (cAd N q (20, v, 0))]) S hK hAO hS hsz hOn (k_X8 l N hN1 hN4 D dA (cAd N q) (q + 586 * v + 13) v (by omega) (by show cTb N q v + 1 = _; omega) (by show cTb N q v + 2 = _; omega) (by show cTb N q v + 3 = _; omega) (by show cTb N q v + 4 = _; omega) (by show cTb N q v + 5 = _; omega) (fun o ho => by show cTb N q v + 6 + o = _; omega) (by show cTb N q v + 54 = _; omega) (fun o ho => by show cTb N q v + 55 + o = _; omega)) (cwI 2 hts (cG (cB 17 rfl)) rfl rfl rfl (hts (.initialized RX8) (cBc 44 rfl)) (hts (.methodLink RX7 23 yX8_init) (cBc 514 rfl)) (hts (.instanceMethod yX8_init) (cBc 51 rfl)) rfl (by decide +kernel) ⟨Nat.le_of_ble_eq_true rfl, Nat.le_of_ble_eq_true rfl⟩) (fun x h => Or.inr (h.elim (fun h => by omega) (fun h => by omega))) rfl hl.1 rfl (Nat.le_of_ble_eq_true rfl) dX7_init_28 ⟨by show 3 + 102 ≤ 585; omega, by show 103 + 1056 ≤ 4519; omega⟩ (fun H6 locs hz hB o hS_ => ?_)
  replace hS := hS_
  clear hS_
  replace hO := hO.kept (o _ (by omega) (by omega))
  replace eR : H6[cAd N q (21, v, 0)]? = _ := (o _ (by omega) (by omega)).trans eR
  replace hg := hg.call o (by omega) (Or.inr (by omega))
  replace hsz : H6.size = q + 586 * v + 115 := by omega
  have hT : kG N D dA q (q + 9 + 586 * v + 1) (q + 586 * v + 115) H6 (fun i => (cLive N i ∧ 50 ≤ i.1 ∧ i.1 ≤ 58 ∧ i.2.1 = v) ∧ i.1 ≠ 51) := kG.of (fun i hi => hB i hi.1) (fun i hi => cM0_tag (by omega) (by omega) (by omega) (by omega) hi.2 (by omega)) (fun i hi => by have h1 := cAd_tree (q := q) hi.1; omega)
  have e51 : H6[cAd N q (51, v, 0)]? = some (arrV (dA 1) 48 (fun _ => .int 0)) := hB (51, v, 0) ⟨⟨Or.inl hv, rfl⟩, by dsimp only; omega, by dsimp only; omega, rfl⟩
  clear hz o hB hOn hi_
  refine W.widen (k := 105) (n := 1159) (by omega) (by omega) ?_
  refine k_putF (ci := 7) (C := RX7) (T := TX7) (ty := .object "ReplicaFiles$Tree") S hin2 hK hS (Or.inl rfl) rfl hin tyX7 tyX7_ok nmX7 hO 0 (by decide) ⟨rfl, rfl, rfl, rfl⟩ rfl (hts (.fieldLink RX7 26 "ReplicaFiles$Server" "tree" "LReplicaFiles$Tree;") (cBc 275 rfl)) (by decide) rfl rfl dX7_init_31 (fun H7 locs hO_ hz o hS_ => ?_)
  replace hS := hS_
  clear hS_
  replace hO := hO_
  clear hO_
  replace eR : H7[cAd N q (21, v, 0)]? = _ := (o _ (by omega)).trans eR
  replace hT := hT.put o (Or.inl (by omega))
  replace e51 : H7[cAd N q (51, v, 0)]? = _ := (o _ (by omega)).trans e51
  replace hg := hg.put o (Or.inl (by omega))
  replace hsz : H7.size = q + 586 * v + 115 := by omega
  clear hz o
  refine lv_aload_n hx hb dX7_init_34 rfl (lv_at hl 0 rfl) ?_
  refine k_get (ci := 7) (C := RX7) (T := TX7) S hK rfl hin hO 0 (by decide) ⟨rfl, rfl, rfl⟩ (v := .ref (cAd N q (50, v, 0))) (by simp [updV]) (hts (.fieldLink RX7 26 "ReplicaFiles$Server" "tree" "LReplicaFiles$Tree;") (cBc 275 rfl)) dX7_init_35 ?_
  refine k_getN (ci := 8) (C := RX8) (T := TX8) S hK rfl cin_X8 (hT (50, v, 0) ⟨⟨⟨Or.inl hv, rfl⟩, by dsimp only; omega, by dsimp only; omega, rfl⟩, by dsimp only; omega⟩).2 1 (by decide) ⟨rfl, rfl, rfl⟩ (v := .ref (cAd N q (51, v, 0))) rfl (va_Nw.use (A := args) rfl (hNw.1 ("ReplicaFiles$Server", 30, "ReplicaFiles$Tree", "held", "[Z", "ReplicaFiles") (by decide +kernel))) dX7_init_38 ?_
  refine lv_iconst (v := (0 : Int32)) hx hb dX7_init_41 (by decide) ?_
  refine lv_iconst (v := (1 : Int32)) hx hb dX7_init_42 (by decide) ?_
  refine k_zast S hK hS (Or.inr (by omega)) e51 (Or.inr rfl) (gin_in (by decide)) dX7_init_43 (fun H8 locs e_ hz o hS_ => ?_)
  replace hS := hS_
  clear hS_
  replace hO := hO.kept (o _ (by omega))
  replace eR : H8[cAd N q (21, v, 0)]? = _ := (o _ (by omega)).trans eR
  replace hsz : H8.size = q + 586 * v + 115 := by omega
  replace hg := hg.put o (Or.inr (by omega))
  replace hT : kG N D dA q (q + 9 + 586 * v + 1) (q + 586 * v + 115) H8 (fun i => (cLive N i ∧ 50 ≤ i.1 ∧ i.1 ≤ 58 ∧ i.2.1 = v) ∧ i.1 ≠ 51) := fun i hi => ⟨(hT i hi).1, (hT i hi).2.to rfl (o _ (cAd_tree_ne hi))⟩
  replace hg : kG N D dA q (q + 9 + 586 * v + 1) (q + 115 + 586 * v + 10 * 0) H8 (fun i => (i = (22, v, 0) ∨ (cLive N i ∧ 50 ≤ i.1 ∧ i.1 ≤ 58 ∧ i.2.1 = v)) ∨ (cLive N i ∧ 60 ≤ i.1 ∧ i.1 ≤ 64 ∧ 48 * v ≤ i.2.1 ∧ i.2.1 < 48 * v + 0)) := by
    intro i hi
    rcases hi with (rfl | hi) | hi
    · exact (hg.wide (by omega) (by omega)) _ (Or.inr rfl)
    · by_cases h51 : i.1 = 51
      · obtain ⟨tg, a, b⟩ := i
        dsimp only at h51
        subst h51
        obtain ⟨hlv, -, -, ha⟩ := hi
        dsimp only at ha
        subst ha
        obtain rfl : b = 0 := hlv.2
        refine ⟨by omega, ?_⟩
        show _[cAd N q (51, a, 0)]? = _
        rw [e_]
        refine congrArg some (arrV_ext fun j hj => ?_)
        have h4 : a < 4 := by omega
        by_cases hj0 : j = 0 <;> simp [updV, cM0, hj0, h4]
      · exact (hT.wide (by omega) (by omega)) i ⟨hi, h51⟩
    · omega
  replace eR : H8[cAd N q (21, v, 0)]? = some (arrV (dA 4) 48 (fun j => if j < 0 then .ref (cAd N q (60, 48 * v + j, 0)) else .null)) := eR.trans (congrArg some (arrV_ext fun j hj => by simp))
  replace hsz : H8.size = q + 115 + 586 * v + 10 * 0 := by omega
  clear hz o e_ e51 hT
  refine lv_iconst (v := (0 : Int32)) hx hb dX7_init_44 (by decide) ?_
  rw [show (0 : Int32) = nI 0 from rfl]
  refine lv_istore_n (lv' := [(3, .int (nI 0)), (0, .ref (cAd N q (20, v, 0))), (1, .ref (cAd N q (1, 0, 0))), (2, .int (nI (N + 4)))]) hx hb dX7_init_45 rfl hl (by decide) rfl (fun ls hl => ?_)
  have loop : ∀ (n j0 : Nat) (H : Heap) (locs : List Loc) (ls : Array Slot), j0 ≤ 48 → 48 < j0 + n → H.size = q + 115 + 586 * v + 10 * j0 → t_OB (cAd N q (20, v, 0)) (D.1 7) 4 (D.2 7) H (updV (updV (updV (fun k => defaultValue (tyX7 k)) 1 (.ref (cAd N q (21, v, 0)))) 2 (.ref (cAd N q (22, v, 0)))) 0 (.ref (cAd N q (50, v, 0)))) → H[cAd N q (21, v, 0)]? = some (arrV (dA 4) 48 (fun j => if j < j0 then .ref (cAd N q (60, 48 * v + j, 0)) else .null)) → kG N D dA q (q + 9 + 586 * v + 1) (q + 115 + 586 * v + 10 * j0) H (fun i => (i = (22, v, 0) ∨ (cLive N i ∧ 50 ≤ i.1 ∧ i.1 ≤ 58 ∧ i.2.1 = v)) ∨ (cLive N i ∧ 60 ≤ i.1 ∧ i.1 ≤ 64 ∧ 48 * v ≤ i.2.1 ∧ i.2.1 < 48 * v + j0)) → va_S (kReg (cAd N q (20, v, 0)) (q + 9 + 586 * v + 1)) s.heap H locs → lv_has ls 4 [(3, .int (nI j0)), (0, .ref (cAd N q (20, v, 0))), (1, .ref (cAd N q (1, 0, 0))), (2, .int (nI (N + 4)))] → W p l e (headSpec wmX7_init ({ frames := 2, cells := 585, slots := 4519, locals := 60 } : Room)).room s m args below meth c H locs (105 + 10 * j0) (1159 + 70 * j0) (MQ below (kQ N D dA (cAd N q) (cAd N q (20, v, 0)) (q + 9 + 586 * v + 1) (585) (fun i => cLive N i ∧ ((20 ≤ i.1 ∧ i.1 ≤ 22 ∧ i.2.1 = v) ∨ (50 ≤ i.1 ∧ i.1 ≤ 58 ∧ i.2.1 = v) ∨ (60 ≤ i.1 ∧ i.1 ≤ 64 ∧ i.2.1 / 48 = v))) (cM0 N)) args s 585 4519 (kReg (cAd N q (20, v, 0)) (q + 9 + 586 * v + 1))) (F0 m 46 ls []) := by
    clear hg eR hO hsz hS hl
    intro n
    induction n with
    | zero => intro j0 H locs ls h1 h2; omega
    | succ n ih =>
      intro j0 H locs ls ho48 hon hsz hO eR hg hS hl
      refine lv_iload_n hx hb dX7_init_46 rfl (lv_at hl 0 rfl) ?_
      refine lv_bipush (v := (48 : Int32)) hx hb dX7_init_47 (by decide) ?_
      refine lv_icmp_ge (tgt := 74) hx hb dX7_init_49 (by decide) (fun c4 => ?_) (fun c4 => ?_)
      · obtain rfl : j0 = 48 := by have := (nI_leI (a := 48) (b := j0) (by omega) (by omega)).mp c4; omega
        refine W.widen (k := 585) (n := 4519) (by omega) (by omega) ?_
        refine W.vret hx hb hr (fun t ht hW => ⟨⟨(), rfl, trivial, by rw [ht]; omega, fun i hi => ?_⟩, hS.F ht⟩) hS.2.2 dX7_init_74 hlocks
        rw [ht]
        obtain ⟨hlv, h | h | h⟩ := hi
        · obtain ⟨tg, a, b⟩ := i
          obtain ⟨h1, h2, h3⟩ := h
          dsimp only at h1 h2 h3
          subst h3
          rcases (show tg = 20 ∨ tg = 21 ∨ tg = 22 by omega) with rfl | rfl | rfl <;> obtain rfl : b = 0 := hlv.2
          · exact hO.to (fun k hk => by
                  rcases (show k = 0 ∨ k = 1 ∨ k = 2 ∨ k = 3 by omega) with rfl | rfl | rfl | rfl <;> first | rfl | simp [updV, gF, cF_X7, cM0, tyX7, defaultValue])
          · show _[cAd N q (21, a, 0)]? = _
            rw [eR]
            exact congrArg some (arrV_ext fun j hj => by simp [hj])
          · exact (hg _ (Or.inl (Or.inl rfl))).2
        · exact (hg i (Or.inl (Or.inr ⟨hlv, h⟩))).2
        · exact (hg i (Or.inr ⟨hlv, h.1, h.2.1, by omega, by omega⟩)).2
      · have ho : j0 < 48 := by rcases Nat.lt_or_ge j0 48 with h | h; exact h; exact absurd (nI_le h (by omega)) c4
        have hvb : cVb N q (48 * v + j0) = q + 115 + 586 * v + 10 * j0 := by unfold cVb; rw [if_neg (by omega), show (48 * v + j0) / 48 = v by omega, show (48 * v + j0) % 48 = j0 by omega]
        have hb60 : cAd N q (60, 48 * v + j0, 0) = cVb N q (48 * v + j0) := rfl
        have hcm : cMost (48 * v + j0) = 6 := by unfold cMost; rw [if_neg (by omega)]
        replace hsz : H.size = q + 586 * v + 10 * j0 + 115 := by omega
        replace hg := hg.wide (lo' := q + 9 + 586 * v + 1) (hi' := q + 586 * v + 10 * j0 + 115) (by omega) (by omega)
        refine lv_aload_n hx hb dX7_init_52 rfl (lv_at hl 1 rfl) ?_
        refine k_get (ci := 7) (C := RX7) (T := TX7) S hK rfl hin hO 1 (by decide) ⟨rfl, rfl, rfl⟩ (v := .ref (cAd N q (21, v, 0))) (by simp [updV]) (hts (.fieldLink RX7 11 "ReplicaFiles$Server" "versions" "[LReplicaFiles$Versions;") (cBc 180 rfl)) dX7_init_53 ?_
        refine lv_iload_n hx hb dX7_init_56 rfl (lv_at hl 0 rfl) ?_
        have hi_ : cAd N q (60, (48 * v + j0), 0) = q + 586 * v + 10 * j0 + 115 := by show cVb N q (48 * v + j0) = _; omega
        have hsI : H.size = cAd N q (60, (48 * v + j0), 0) := by omega
        refine k_new (ci := 9) (C := RX9) (T := TX9) S hK hS rfl cin_X9 tyX9 tyX9_ok (hts (.classLink RX7 9 RX9) (cBc 511 rfl)) (hts (.instantiable RX9 4) (cBc 327 rfl)) (hts (.initialized RX9) (cBc 191 rfl)) (by show 105 + 10 * j0 + 1 ≤ 585; omega) (by show 1159 + 70 * j0 + 4 ≤ 4519; omega) dX7_init_57 (fun H9 hOn hz o hS_ => ?_)
        rw [hsI] at hOn ⊢
        replace hS := hS_
        clear hS_
        replace hO := hO.kept (o _ (by omega))
        replace eR : H9[cAd N q (21, v, 0)]? = _ := (o _ (by omega)).trans eR
        replace hg := hg.old o (by omega)
        replace hsz : H9.size = q + 586 * v + 10 * j0 + 116 := by omega
        clear hz o hsI
        refine W.widen (k := 106 + 10 * j0) (n := 1163 + 70 * j0) (by omega) (by omega) ?_
        refine lv_dup hx hb dX7_init_60 rfl ?_
        refine lv_bipush (v := (6 : Int32)) hx hb dX7_init_61 (by decide) ?_
        refine lv_iload_n hx hb dX7_init_63 rfl (lv_at hl 3 rfl) ?_
        refine k_call (N := N) (A := cAd N q) (a := cAd N q (60, (48 * v + j0), 0)) (sz := q + 586 * v + 10 * j0 + 116) (As := [.int (6 : Int32), .int (nI (N + 4))]) (rest := [.ref (cAd N q (60, (48 * v + j0), 0)), .int (nI j0), .ref (cAd N q (21, v, 0))]) S hK hAO hS hsz hOn (k_X9_6 l N hN1 hN4 D dA (cAd N q) (q + 586 * v + 10 * j0 + 116) (48 * v + j0) (by omega) hcm (by show cVb N q (48 * v + j0) + 1 = _; omega) (by show cVb N q (48 * v + j0) + 2 = _; omega) (by show cVb N q (48 * v + j0) + 3 = _; omega) (fun k hk => by show cVb N q (48 * v + j0) + 4 + k = _; omega)) (cwI 2 hts (cG (cB 317 rfl)) rfl rfl rfl (hts (.initialized RX9) (cBc 191 rfl)) (hts (.methodLink RX7 34 yX9_init) (cBc 515 rfl)) (hts (.instanceMethod yX9_init) (cBc 331 rfl)) rfl (by decide +kernel) ⟨Nat.le_of_ble_eq_true rfl, Nat.le_of_ble_eq_true rfl⟩) (fun x h => Or.inr (h.elim (fun h => by omega) (fun h => by omega))) rfl hl.1 rfl (Nat.le_of_ble_eq_true rfl) dX7_init_64 ⟨by show 106 + 10 * j0 + 9 ≤ 585; omega, by show 1163 + 70 * j0 + 66 ≤ 4519; omega⟩ (fun H10 locs hz hB o hS_ => ?_)
        replace hS := hS_
        clear hS_
        replace hO := hO.kept (o _ (by omega) (by omega))
        replace eR : H10[cAd N q (21, v, 0)]? = _ := (o _ (by omega) (by omega)).trans eR
        replace hg := hg.call o (by omega) (Or.inr (by omega))
        replace hsz : H10.size = q + 586 * v + 10 * j0 + 125 := by omega
        replace hg := (hg.wide (lo' := q + 9 + 586 * v + 1) (hi' := q + 586 * v + 10 * j0 + 125) (by omega) (by omega)).join (kG.of hB (fun i hi => cM0_tag (by omega) (by omega) (by omega) (by omega) (by omega) (by omega)) (fun i hi => by have h1 := cAd_ver (q := q) hi; omega))
        clear hz o hB hOn hi_
        refine W.widen (k := 115 + 10 * j0) (n := 1229 + 70 * j0) (by omega) (by omega) ?_
        refine k_aast (C := RX9) (ci := 9) (nf := 4) (T := TX9) 4 rfl S hK hS (Or.inr (by omega)) rfl eR (hg (60, 48 * v + j0, 0) (Or.inr ⟨cl_ver (s := v) ⟨hv, rfl⟩ ho, Nat.le_refl _, by dsimp only; omega, rfl⟩)).2 (vp_in_nI ho (by omega)) dX7_init_67 (fun H11 locs e_ hz o_ hS_ => ?_)
        replace hS := hS_
        clear hS_
        replace hO := hO.kept (o_ _ (by omega))
        replace hg := hg.ne o_ (fun i hi => by have h2 := cAd_21 (q := q) hi (by omega) ho; omega)
        rw [nI_clamp (by omega)] at e_
        refine lv_iinc (v := nI (j0 + 1)) (lv' := [(3, .int (nI (j0 + 1))), (0, .ref (cAd N q (20, v, 0))), (1, .ref (cAd N q (1, 0, 0))), (2, .int (nI (N + 4)))]) hx hb dX7_init_68 hl (k := 0) rfl (nI_1 j0) (by decide) rfl (fun ls hl => ?_)
        refine lv_goto (tgt := 46) hx hb dX7_init_71 (by decide) ?_
        refine W.widen (k := 105 + 10 * (j0 + 1)) (n := 1159 + 70 * (j0 + 1)) (by omega) (by omega) ?_
        refine ih (j0 + 1) H11 locs ls (by omega) (by omega) (by omega) hO ?_ ?_ hS hl
        · rw [e_]
          refine congrArg some (arrV_ext fun j hj => ?_)
          by_cases ej : j = j0
          · subst ej; simp [updV]
          · by_cases h : j < j0
            · simp [updV, ej, h, Nat.lt_succ_of_lt h]
            · simp [updV, ej, h, show ¬ j < j0 + 1 by omega]
        · refine kG.wide (lo := q + 9 + 586 * v + 1) (hi := q + 586 * v + 10 * j0 + 125) ?_ (by omega) (by omega)
          refine kG.sub (P := _) hg (fun i hi => ?_)
          rcases hi with hi | ⟨h1, h2, h3, h4, h5⟩
          · exact Or.inl (Or.inl hi)
          · by_cases e : i.2.1 = 48 * v + j0
            · exact Or.inr ⟨h1, h2, h3, e⟩
            · exact Or.inl (Or.inr ⟨h1, h2, h3, h4, by omega⟩)
  exact loop 49 0 _ _ _ (by omega) (by omega) hsz hO eR hg hS hl
