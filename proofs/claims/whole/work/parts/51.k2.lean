theorem dX6_init_0 : decode cX6_init 0 = .ok (.aload_n 0, 1) := by decide +kernel
theorem dX6_init_1 : decode cX6_init 1 = .ok (.invokespecial 3, 3) := by decide +kernel
theorem dX6_init_4 : decode cX6_init 4 = .ok (.aload_n 0, 1) := by decide +kernel
theorem dX6_init_5 : decode cX6_init 5 = .ok (.aload_n 1, 1) := by decide +kernel
theorem dX6_init_6 : decode cX6_init 6 = .ok (.putfield 9, 3) := by decide +kernel
theorem dX6_init_9 : decode cX6_init 9 = .ok (.aload_n 0, 1) := by decide +kernel
theorem dX6_init_10 : decode cX6_init 10 = .ok (.aload_n 2, 1) := by decide +kernel
theorem dX6_init_11 : decode cX6_init 11 = .ok (.putfield 15, 3) := by decide +kernel
theorem dX6_init_14 : decode cX6_init 14 = .ok (.aload_n 0, 1) := by decide +kernel
theorem dX6_init_15 : decode cX6_init 15 = .ok (.aload_n 3, 1) := by decide +kernel
theorem dX6_init_16 : decode cX6_init 16 = .ok (.putfield 19, 3) := by decide +kernel
theorem dX6_init_19 : decode cX6_init 19 = .ok (.aload_n 0, 1) := by decide +kernel
theorem dX6_init_20 : decode cX6_init 20 = .ok (.aload 4, 2) := by decide +kernel
theorem dX6_init_22 : decode cX6_init 22 = .ok (.putfield 23, 3) := by decide +kernel
theorem dX6_init_25 : decode cX6_init 25 = .ok (.return_, 1) := by decide +kernel
abbrev wmX6_init : List Cond := .code yX6_init cX6_init 5 none :: cBig
set_option maxHeartbeats 8000000 in
set_option maxRecDepth 100000 in
theorem k_X6 (l : Launch) (N : Nat) (hN1 : 1 ≤ N) (hN4 : N ≤ 4) (D : va_G) (dA : Nat → ClassId) (q : Nat)   : Met l yX6_init wmX6_init ({ frames := 1, cells := 0, slots := 0, locals := 30 } : Room) (kPp N D dA q (q + 510 + 586 * N + 1) (cAd N q (10, 0, 0)) 6 4 tyX6 (fun i => False) [.ref (cAd N q (10, 0, 0)), .ref (cAd N q (1, 0, 0)), .ref (cAd N q (7, 0, 0)), .ref (cAd N q (8, 0, 0)), .ref (cAd N q (9, 0, 0))]) (kQ N D dA (cAd N q) (cAd N q (10, 0, 0)) (q + 510 + 586 * N + 1) (0) (fun i => i = (10, 0, 0)) (cM0 N)) 0 0 (kReg (cAd N q (10, 0, 0)) (q + 510 + 586 * N + 1)) := by
  refine Met.ofW (cc := cX6_init) (maxL := 5) (ret := none) (by decide) rfl ?_
  intro p e s m args below meth c s₁ B hml hv
  obtain ⟨rfl, hsz, hO, hK, hAO, hNw, hpre⟩ := hv
  generalize hargs : ([.ref (cAd N q (10, 0, 0)), .ref (cAd N q (1, 0, 0)), .ref (cAd N q (7, 0, 0)), .ref (cAd N q (8, 0, 0)), .ref (cAd N q (9, 0, 0))] : List Value).toArray = args at B ⊢
  have S : CallFix p m c cX6_init 5 s args wmX6_init RX6 := ⟨B.exec, B.bytes, hml, findClass_of_methodNamed B.named, atoms_spec (ws := wmX6_init) B.pre⟩
  obtain ⟨hx, hb, -, hown, hts⟩ := id S
  have hr := B.returns
  have hlocks := B.notSynchronized
  have hin2 : meth.name = "<init>" := (name_of_methodNamed B.named B.method).1
  have hin : ∀ w ∈ wsX60, w ∈ wmX6_init := cin_X6
  have hS : va_S (kReg (cAd N q (10, 0, 0)) (q + 510 + 586 * N + 1)) s.heap s.heap [] := va_S.rf
  have hme : cAd N q (10, 0, 0) = q + 510 + 586 * N := rfl
  have hg : kG N D dA q (q + 510 + 586 * N + 1) (q + 510 + 586 * N + 1) s.heap (fun _ => False) := kG.none
  have hl := lv_entry ([.ref (cAd N q (10, 0, 0)), .ref (cAd N q (1, 0, 0)), .ref (cAd N q (7, 0, 0)), .ref (cAd N q (8, 0, 0)), .ref (cAd N q (9, 0, 0))]) (n := 5) (Nat.le_of_ble_eq_true rfl)
  rw [← hargs, lg_entry_eq, hargs]
  generalize (lg_sl ([.ref (cAd N q (10, 0, 0)), .ref (cAd N q (1, 0, 0)), .ref (cAd N q (7, 0, 0)), .ref (cAd N q (8, 0, 0)), .ref (cAd N q (9, 0, 0))]) ++ List.replicate (5 - (lg_sl ([.ref (cAd N q (10, 0, 0)), .ref (cAd N q (1, 0, 0)), .ref (cAd N q (7, 0, 0)), .ref (cAd N q (8, 0, 0)), .ref (cAd N q (9, 0, 0))])).length) Slot.unset).toArray = ls at hl ⊢
  have hl : lv_has ls 5 [(0, .ref (cAd N q (10, 0, 0))), (1, .ref (cAd N q (1, 0, 0))), (2, .ref (cAd N q (7, 0, 0))), (3, .ref (cAd N q (8, 0, 0))), (4, .ref (cAd N q (9, 0, 0)))] := hl
  refine lv_aload_n hx hb dX6_init_0 rfl (lv_at hl 0 rfl) ?_
  refine W.objInit hx hb hown (hts (.methodLink RX6 3 objectInit) (cBc 494 rfl)) (hts (.instanceMethod objectInit) (cBc 2 rfl)) (hts (.code objectInit ⟨#[0xb1]⟩ 1 none) (cBc 3 rfl)) rfl (by rw [hml]; exact hl.1) rfl dX6_init_1 (Nat.le_of_ble_eq_true rfl) (Nat.le_of_ble_eq_true rfl) ?_
  refine lv_aload_n hx hb dX6_init_4 rfl (lv_at hl 0 rfl) ?_
  refine lv_aload_n hx hb dX6_init_5 rfl (lv_at hl 1 rfl) ?_
  refine k_putF (ci := 6) (C := RX6) (T := TX6) (ty := .object "ReplicaFiles$Catalog") S hin2 hK hS (Or.inl rfl) rfl hin tyX6 tyX6_ok nmX6 hO 0 (by decide) ⟨rfl, rfl, rfl, rfl⟩ rfl (hts (.fieldLink RX6 9 "ReplicaFiles$Replicas" "catalog" "LReplicaFiles$Catalog;") (cBc 495 rfl)) (by decide) rfl rfl dX6_init_6 (fun H1 locs hO_ hz o hS_ => ?_)
  replace hS := hS_
  clear hS_
  replace hO := hO_
  clear hO_
  replace hg := hg.put o (Or.inl (by omega))
  replace hsz : H1.size = q + 510 + 586 * N + 1 := by omega
  clear hz o
  refine lv_aload_n hx hb dX6_init_9 rfl (lv_at hl 0 rfl) ?_
  refine lv_aload_n hx hb dX6_init_10 rfl (lv_at hl 2 rfl) ?_
  refine k_putF (ci := 6) (C := RX6) (T := TX6) (ty := .array (.object "ReplicaFiles$Server")) S hin2 hK hS (Or.inl rfl) rfl hin tyX6 tyX6_ok nmX6 hO 1 (by decide) ⟨rfl, rfl, rfl, rfl⟩ rfl (hts (.fieldLink RX6 15 "ReplicaFiles$Replicas" "servers" "[LReplicaFiles$Server;") (cBc 177 rfl)) (by decide) rfl rfl dX6_init_11 (fun H2 locs hO_ hz o hS_ => ?_)
  replace hS := hS_
  clear hS_
  replace hO := hO_
  clear hO_
  replace hg := hg.put o (Or.inl (by omega))
  replace hsz : H2.size = q + 510 + 586 * N + 1 := by omega
  clear hz o
  refine lv_aload_n hx hb dX6_init_14 rfl (lv_at hl 0 rfl) ?_
  refine lv_aload_n hx hb dX6_init_15 rfl (lv_at hl 3 rfl) ?_
  refine k_putF (ci := 6) (C := RX6) (T := TX6) (ty := .array (.object "ReplicaFiles$Client")) S hin2 hK hS (Or.inl rfl) rfl hin tyX6 tyX6_ok nmX6 hO 2 (by decide) ⟨rfl, rfl, rfl, rfl⟩ rfl (hts (.fieldLink RX6 19 "ReplicaFiles$Replicas" "clients" "[LReplicaFiles$Client;") (cBc 208 rfl)) (by decide) rfl rfl dX6_init_16 (fun H3 locs hO_ hz o hS_ => ?_)
  replace hS := hS_
  clear hS_
  replace hO := hO_
  clear hO_
  replace hg := hg.put o (Or.inl (by omega))
  replace hsz : H3.size = q + 510 + 586 * N + 1 := by omega
  clear hz o
  refine lv_aload_n hx hb dX6_init_19 rfl (lv_at hl 0 rfl) ?_
  refine lv_aload hx hb dX6_init_20 (lv_at hl 4 rfl) ?_
  refine k_putF (ci := 6) (C := RX6) (T := TX6) (ty := .array .int) S hin2 hK hS (Or.inl rfl) rfl hin tyX6 tyX6_ok nmX6 hO 3 (by decide) ⟨rfl, rfl, rfl, rfl⟩ rfl (hts (.fieldLink RX6 23 "ReplicaFiles$Replicas" "tallies" "[I") (cBc 237 rfl)) (by decide) rfl rfl dX6_init_22 (fun H4 locs hO_ hz o hS_ => ?_)
  replace hS := hS_
  clear hS_
  replace hO := hO_
  clear hO_
  replace hg := hg.put o (Or.inl (by omega))
  replace hsz : H4.size = q + 510 + 586 * N + 1 := by omega
  clear hz o
  refine W.widen (k := 0) (n := 0) (by omega) (by omega) ?_
  refine W.vret hx hb hr (fun t ht hW => ⟨⟨(), rfl, trivial, by rw [ht]; omega, fun i hi => ?_⟩, hS.F ht⟩) hS.2.2 dX6_init_25 hlocks
  rw [ht]
  subst hi
  exact hO.to (fun k hk => by
      rcases (show k = 0 ∨ k = 1 ∨ k = 2 ∨ k = 3 by omega) with rfl | rfl | rfl | rfl <;> first | rfl | simp [updV, gF, cF_X6, cM0, tyX6, defaultValue])
theorem dX2_init_0 : decode cX2_init 0 = .ok (.aload_n 0, 1) := by decide +kernel
theorem dX2_init_1 : decode cX2_init 1 = .ok (.invokespecial 3, 3) := by decide +kernel
theorem dX2_init_4 : decode cX2_init 4 = .ok (.aload_n 0, 1) := by decide +kernel
theorem dX2_init_5 : decode cX2_init 5 = .ok (.aload_n 1, 1) := by decide +kernel
theorem dX2_init_6 : decode cX2_init 6 = .ok (.putfield 9, 3) := by decide +kernel
theorem dX2_init_9 : decode cX2_init 9 = .ok (.aload_n 0, 1) := by decide +kernel
theorem dX2_init_10 : decode cX2_init 10 = .ok (.iload_n 2, 1) := by decide +kernel
theorem dX2_init_11 : decode cX2_init 11 = .ok (.newarray .int, 2) := by decide +kernel
theorem dX2_init_13 : decode cX2_init 13 = .ok (.putfield 15, 3) := by decide +kernel
theorem dX2_init_16 : decode cX2_init 16 = .ok (.aload_n 0, 1) := by decide +kernel
theorem dX2_init_17 : decode cX2_init 17 = .ok (.aload_n 1, 1) := by decide +kernel
theorem dX2_init_18 : decode cX2_init 18 = .ok (.getfield 19, 3) := by decide +kernel
theorem dX2_init_21 : decode cX2_init 21 = .ok (.iconst 0, 1) := by decide +kernel
theorem dX2_init_22 : decode cX2_init 22 = .ok (.aaload, 1) := by decide +kernel
theorem dX2_init_23 : decode cX2_init 23 = .ok (.putfield 25, 3) := by decide +kernel
theorem dX2_init_26 : decode cX2_init 26 = .ok (.return_, 1) := by decide +kernel
abbrev wmX2_init : List Cond := .code yX2_init cX2_init 3 none :: cBig
set_option maxHeartbeats 8000000 in
set_option maxRecDepth 100000 in
theorem k_X2 (l : Launch) (N : Nat) (hN1 : 1 ≤ N) (hN4 : N ≤ 4) (D : va_G) (dA : Nat → ClassId) (q : Nat)   : Met l yX2_init wmX2_init ({ frames := 1, cells := 1, slots := 8, locals := 30 } : Room) (kPp N D dA q (q + 511 + 586 * N + 1) (cAd N q (11, 0, 0)) 2 5 tyX2 (fun i => i = (10, 0, 0) ∨ i = (8, 0, 0)) [.ref (cAd N q (11, 0, 0)), .ref (cAd N q (10, 0, 0)), .int (nI (N + 4))]) (kQ N D dA (cAd N q) (cAd N q (11, 0, 0)) (q + 511 + 586 * N + 1) (1) (fun i => i = (11, 0, 0) ∨ i = (12, 0, 0)) (cM0 N)) 1 8 (kReg (cAd N q (11, 0, 0)) (q + 511 + 586 * N + 1)) := by
  refine Met.ofW (cc := cX2_init) (maxL := 3) (ret := none) (by decide) rfl ?_
  intro p e s m args below meth c s₁ B hml hv
  obtain ⟨rfl, hsz, hO, hK, hAO, hNw, hpre⟩ := hv
  generalize hargs : ([.ref (cAd N q (11, 0, 0)), .ref (cAd N q (10, 0, 0)), .int (nI (N + 4))] : List Value).toArray = args at B ⊢
  have S : CallFix p m c cX2_init 3 s args wmX2_init RX2 := ⟨B.exec, B.bytes, hml, findClass_of_methodNamed B.named, atoms_spec (ws := wmX2_init) B.pre⟩
  obtain ⟨hx, hb, -, hown, hts⟩ := id S
  have hr := B.returns
  have hlocks := B.notSynchronized
  have hin2 : meth.name = "<init>" := (name_of_methodNamed B.named B.method).1
  have hin : ∀ w ∈ wsX20, w ∈ wmX2_init := cin_X2
  have hS : va_S (kReg (cAd N q (11, 0, 0)) (q + 511 + 586 * N + 1)) s.heap s.heap [] := va_S.rf
  have hme : cAd N q (11, 0, 0) = q + 511 + 586 * N := rfl
  have hg : kG N D dA q (q + 511 + 586 * N + 1) (q + 511 + 586 * N + 1) s.heap (fun _ => False) := kG.none
  have hl := lv_entry ([.ref (cAd N q (11, 0, 0)), .ref (cAd N q (10, 0, 0)), .int (nI (N + 4))]) (n := 3) (Nat.le_of_ble_eq_true rfl)
  rw [← hargs, lg_entry_eq, hargs]
  generalize (lg_sl ([.ref (cAd N q (11, 0, 0)), .ref (cAd N q (10, 0, 0)), .int (nI (N + 4))]) ++ List.replicate (3 - (lg_sl ([.ref (cAd N q (11, 0, 0)), .ref (cAd N q (10, 0, 0)), .int (nI (N + 4))])).length) Slot.unset).toArray = ls at hl ⊢
  have hl : lv_has ls 3 [(0, .ref (cAd N q (11, 0, 0))), (1, .ref (cAd N q (10, 0, 0))), (2, .int (nI (N + 4)))] := hl
  have h10 : t_OB (cAd N q (10, 0, 0)) (D.1 6) 4 (D.2 6) s.heap (fun k => gF (cAd N q) (cM0 N) (10, 0, 0) k (cF_X6 0 k)) := hpre (10, 0, 0) (Or.inl rfl)
  have h8 : s.heap[cAd N q (8, 0, 0)]? = some (arrV (dA 3) 4 (fun j => .ref (cAd N q (30, j, 0)))) := hpre (8, 0, 0) (Or.inr rfl)
  have b10 : cAd N q (10, 0, 0) = q + 510 + 586 * N := rfl
  have b8 : cAd N q (8, 0, 0) = q + 9 + 586 * N := rfl
  refine lv_aload_n hx hb dX2_init_0 rfl (lv_at hl 0 rfl) ?_
  refine W.objInit hx hb hown (hts (.methodLink RX2 3 objectInit) (cBc 171 rfl)) (hts (.instanceMethod objectInit) (cBc 2 rfl)) (hts (.code objectInit ⟨#[0xb1]⟩ 1 none) (cBc 3 rfl)) rfl (by rw [hml]; exact hl.1) rfl dX2_init_1 (Nat.le_of_ble_eq_true rfl) (Nat.le_of_ble_eq_true rfl) ?_
  refine lv_aload_n hx hb dX2_init_4 rfl (lv_at hl 0 rfl) ?_
  refine lv_aload_n hx hb dX2_init_5 rfl (lv_at hl 1 rfl) ?_
  refine k_putF (ci := 2) (C := RX2) (T := TX2) (ty := .object "ReplicaFiles$Replicas") S hin2 hK hS (Or.inl rfl) rfl hin tyX2 tyX2_ok nmX2 hO 0 (by decide) ⟨rfl, rfl, rfl, rfl⟩ rfl (hts (.fieldLink RX2 9 "ReplicaFiles$HandingIn" "replicas" "LReplicaFiles$Replicas;") (cBc 172 rfl)) (by decide) rfl rfl dX2_init_6 (fun H1 locs hO_ hz o hS_ => ?_)
  replace hS := hS_
  clear hS_
  replace hO := hO_
  clear hO_
  replace h10 := h10.kept (o _ (by omega))
  replace h8 : H1[cAd N q (8, 0, 0)]? = _ := (o _ (by omega)).trans h8
  replace hg := hg.put o (Or.inl (by omega))
  replace hsz : H1.size = q + 511 + 586 * N + 1 := by omega
  clear hz o
  refine lv_aload_n hx hb dX2_init_9 rfl (lv_at hl 0 rfl) ?_
  refine lv_iload_n hx hb dX2_init_10 rfl (lv_at hl 2 rfl) ?_
  have hi_ : cAd N q (12, 0, 0) = q + 511 + 586 * N + 1 := by show q + 512 + 586 * N = _; omega
  have hsI : H1.size = cAd N q (12, 0, 0) := by omega
  refine k_newI (n := (N + 4)) S hK hS (hts (.arrayClass .int) (cBc 4 rfl)) rfl (by omega) (by simp only [componentBytes]; omega) (by show 0 + 1 ≤ 1; omega) (by show 0 + (N + 4) ≤ 8; omega) dX2_init_11 (fun H2 e_ hz o hS_ => ?_)
  rw [hsI] at e_ ⊢
  replace hS := hS_
  clear hS_
  replace hO := hO.kept (o _ (by omega))
  replace h10 := h10.kept (o _ (by omega))
  replace h8 : H2[cAd N q (8, 0, 0)]? = _ := (o _ (by omega)).trans h8
  replace hg := hg.old o (by omega)
  replace hsz : H2.size = q + 511 + 586 * N + 2 := by omega
  replace hg := (hg.wide (lo' := q + 511 + 586 * N + 1) (hi' := q + 511 + 586 * N + 2) (by omega) (by omega)).join (kG.arr (id := (12, 0, 0)) (ca := 0) (n := (N + 4)) rfl rfl rfl e_ (by omega) (by omega))
  clear e_ hz o hsI hi_
  refine W.widen (k := 1) (n := 8) (by omega) (by omega) ?_
  refine k_putF (ci := 2) (C := RX2) (T := TX2) (ty := .array .int) S hin2 hK hS (Or.inl rfl) rfl hin tyX2 tyX2_ok nmX2 hO 1 (by decide) ⟨rfl, rfl, rfl, rfl⟩ rfl (hts (.fieldLink RX2 15 "ReplicaFiles$HandingIn" "vector" "[I") (cBc 173 rfl)) (by decide) rfl rfl dX2_init_13 (fun H3 locs hO_ hz o hS_ => ?_)
  replace hS := hS_
  clear hS_
  replace hO := hO_
  clear hO_
  replace h10 := h10.kept (o _ (by omega))
  replace h8 : H3[cAd N q (8, 0, 0)]? = _ := (o _ (by omega)).trans h8
  replace hg := hg.put o (Or.inl (by omega))
  replace hsz : H3.size = q + 511 + 586 * N + 2 := by omega
  clear hz o
  refine lv_aload_n hx hb dX2_init_16 rfl (lv_at hl 0 rfl) ?_
  refine lv_aload_n hx hb dX2_init_17 rfl (lv_at hl 1 rfl) ?_
  refine k_getN (ci := 6) (C := RX6) (T := TX6) S hK rfl cin_X6 h10 2 (by decide) ⟨rfl, rfl, rfl⟩ (v := .ref (cAd N q (8, 0, 0))) rfl (va_Nw.use (A := args) rfl (hNw.1 ("ReplicaFiles$HandingIn", 19, "ReplicaFiles$Replicas", "clients", "[LReplicaFiles$Client;", "ReplicaFiles") (by decide +kernel))) dX2_init_18 ?_
  refine lv_iconst (v := (0 : Int32)) hx hb dX2_init_21 (by decide) ?_
  refine k_aald (C := "ReplicaFiles$Client") 3 rfl S hK h8 (v := .ref (cAd N q (30, 0, 0))) (gin_in (by decide)) rfl dX2_init_22 ?_
  refine k_put (ci := 2) (C := RX2) (T := TX2) (ty := .object "ReplicaFiles$Client") S hK hS (Or.inl rfl) rfl hin tyX2 tyX2_ok nmX2 hO 2 (by decide) ⟨rfl, rfl, rfl, rfl⟩ (hts (.fieldLink RX2 25 "ReplicaFiles$HandingIn" "client" "LReplicaFiles$Client;") (cBc 174 rfl)) (by decide) rfl rfl dX2_init_23 (fun H4 locs hO_ hz o hS_ => ?_)
  replace hS := hS_
  clear hS_
  replace hO := hO_
  clear hO_
  replace h10 := h10.kept (o _ (by omega))
  replace h8 : H4[cAd N q (8, 0, 0)]? = _ := (o _ (by omega)).trans h8
  replace hg := hg.put o (Or.inl (by omega))
  replace hsz : H4.size = q + 511 + 586 * N + 2 := by omega
  clear hz o
  refine W.widen (k := 1) (n := 8) (by omega) (by omega) ?_
  refine W.vret hx hb hr (fun t ht hW => ⟨⟨(), rfl, trivial, by rw [ht]; omega, fun i hi => ?_⟩, hS.F ht⟩) hS.2.2 dX2_init_26 hlocks
  rw [ht]
  rcases hi with rfl | rfl
  · exact hO.to (fun k hk => by
      rcases (show k = 0 ∨ k = 1 ∨ k = 2 ∨ k = 3 ∨ k = 4 by omega) with rfl | rfl | rfl | rfl | rfl <;> first | rfl | simp [updV, gF, cF_X2, cM0, tyX2, defaultValue])
  · exact (hg (12, 0, 0) (Or.inr rfl)).2
theorem dX4_init_0 : decode cX4_init 0 = .ok (.aload_n 0, 1) := by decide +kernel
theorem dX4_init_1 : decode cX4_init 1 = .ok (.invokespecial 3, 3) := by decide +kernel
theorem dX4_init_4 : decode cX4_init 4 = .ok (.aload_n 0, 1) := by decide +kernel
theorem dX4_init_5 : decode cX4_init 5 = .ok (.bipush 48, 2) := by decide +kernel
theorem dX4_init_7 : decode cX4_init 7 = .ok (.newarray .boolean, 2) := by decide +kernel
theorem dX4_init_9 : decode cX4_init 9 = .ok (.putfield 9, 3) := by decide +kernel
theorem dX4_init_12 : decode cX4_init 12 = .ok (.aload_n 0, 1) := by decide +kernel
theorem dX4_init_13 : decode cX4_init 13 = .ok (.aload_n 1, 1) := by decide +kernel
theorem dX4_init_14 : decode cX4_init 14 = .ok (.putfield 15, 3) := by decide +kernel
theorem dX4_init_17 : decode cX4_init 17 = .ok (.aload_n 0, 1) := by decide +kernel
theorem dX4_init_18 : decode cX4_init 18 = .ok (.aload_n 1, 1) := by decide +kernel
theorem dX4_init_19 : decode cX4_init 19 = .ok (.getfield 19, 3) := by decide +kernel
theorem dX4_init_22 : decode cX4_init 22 = .ok (.putfield 25, 3) := by decide +kernel
theorem dX4_init_25 : decode cX4_init 25 = .ok (.aload_n 0, 1) := by decide +kernel
theorem dX4_init_26 : decode cX4_init 26 = .ok (.aload_n 1, 1) := by decide +kernel
theorem dX4_init_27 : decode cX4_init 27 = .ok (.getfield 26, 3) := by decide +kernel
theorem dX4_init_30 : decode cX4_init 30 = .ok (.putfield 30, 3) := by decide +kernel
theorem dX4_init_33 : decode cX4_init 33 = .ok (.aload_n 0, 1) := by decide +kernel
theorem dX4_init_34 : decode cX4_init 34 = .ok (.new 31, 3) := by decide +kernel
theorem dX4_init_37 : decode cX4_init 37 = .ok (.dup, 1) := by decide +kernel
theorem dX4_init_38 : decode cX4_init 38 = .ok (.bipush 24, 2) := by decide +kernel
theorem dX4_init_40 : decode cX4_init 40 = .ok (.iload_n 2, 1) := by decide +kernel
theorem dX4_init_41 : decode cX4_init 41 = .ok (.invokespecial 33, 3) := by decide +kernel
theorem dX4_init_44 : decode cX4_init 44 = .ok (.putfield 36, 3) := by decide +kernel
theorem dX4_init_47 : decode cX4_init 47 = .ok (.aload_n 0, 1) := by decide +kernel
theorem dX4_init_48 : decode cX4_init 48 = .ok (.iload_n 2, 1) := by decide +kernel
theorem dX4_init_49 : decode cX4_init 49 = .ok (.newarray .int, 2) := by decide +kernel
theorem dX4_init_51 : decode cX4_init 51 = .ok (.putfield 40, 3) := by decide +kernel
theorem dX4_init_54 : decode cX4_init 54 = .ok (.return_, 1) := by decide +kernel
abbrev wmX4_init : List Cond := .code yX4_init cX4_init 3 none :: cBig
set_option maxHeartbeats 8000000 in
set_option maxRecDepth 100000 in
theorem k_X4 (l : Launch) (N : Nat) (hN1 : 1 ≤ N) (hN4 : N ≤ 4) (D : va_G) (dA : Nat → ClassId) (q : Nat)   : Met l yX4_init wmX4_init ({ frames := 2, cells := 30, slots := 324, locals := 60 } : Room) (kPp N D dA q (q + 513 + 586 * N + 1) (cAd N q (13, 0, 0)) 4 8 tyX4 (fun i => i = (10, 0, 0)) [.ref (cAd N q (13, 0, 0)), .ref (cAd N q (10, 0, 0)), .int (nI (N + 4))]) (kQ N D dA (cAd N q) (cAd N q (13, 0, 0)) (q + 513 + 586 * N + 1) (30) (fun i => i = (13, 0, 0) ∨ i = (14, 0, 0) ∨ i = (15, 0, 0) ∨ (cLive N i ∧ 60 ≤ i.1 ∧ i.1 ≤ 64 ∧ i.2.1 = 192)) (cM0 N)) 30 324 (kReg (cAd N q (13, 0, 0)) (q + 513 + 586 * N + 1)) := by
  refine Met.ofW (cc := cX4_init) (maxL := 3) (ret := none) (by decide) rfl ?_
  intro p e s m args below meth c s₁ B hml hv
  obtain ⟨rfl, hsz, hO, hK, hAO, hNw, hpre⟩ := hv
  generalize hargs : ([.ref (cAd N q (13, 0, 0)), .ref (cAd N q (10, 0, 0)), .int (nI (N + 4))] : List Value).toArray = args at B ⊢
  have S : CallFix p m c cX4_init 3 s args wmX4_init RX4 := ⟨B.exec, B.bytes, hml, findClass_of_methodNamed B.named, atoms_spec (ws := wmX4_init) B.pre⟩
  obtain ⟨hx, hb, -, hown, hts⟩ := id S
  have hr := B.returns
  have hlocks := B.notSynchronized
  have hin2 : meth.name = "<init>" := (name_of_methodNamed B.named B.method).1
  have hin : ∀ w ∈ wsX40, w ∈ wmX4_init := cin_X4
  have hS : va_S (kReg (cAd N q (13, 0, 0)) (q + 513 + 586 * N + 1)) s.heap s.heap [] := va_S.rf
  have hme : cAd N q (13, 0, 0) = q + 513 + 586 * N := rfl
  have hg : kG N D dA q (q + 513 + 586 * N + 1) (q + 513 + 586 * N + 1) s.heap (fun _ => False) := kG.none
  have hl := lv_entry ([.ref (cAd N q (13, 0, 0)), .ref (cAd N q (10, 0, 0)), .int (nI (N + 4))]) (n := 3) (Nat.le_of_ble_eq_true rfl)
  rw [← hargs, lg_entry_eq, hargs]
  generalize (lg_sl ([.ref (cAd N q (13, 0, 0)), .ref (cAd N q (10, 0, 0)), .int (nI (N + 4))]) ++ List.replicate (3 - (lg_sl ([.ref (cAd N q (13, 0, 0)), .ref (cAd N q (10, 0, 0)), .int (nI (N + 4))])).length) Slot.unset).toArray = ls at hl ⊢
  have hl : lv_has ls 3 [(0, .ref (cAd N q (13, 0, 0))), (1, .ref (cAd N q (10, 0, 0))), (2, .int (nI (N + 4)))] := hl
  have h10 : t_OB (cAd N q (10, 0, 0)) (D.1 6) 4 (D.2 6) s.heap (fun k => gF (cAd N q) (cM0 N) (10, 0, 0) k (cF_X6 0 k)) := hpre (10, 0, 0) rfl
  have b10 : cAd N q (10, 0, 0) = q + 510 + 586 * N := rfl
  have hvb : cVb N q 192 = q + 515 + 586 * N := rfl
  have hb60 : cAd N q (60, 192, 0) = cVb N q 192 := rfl
  refine lv_aload_n hx hb dX4_init_0 rfl (lv_at hl 0 rfl) ?_
  refine W.objInit hx hb hown (hts (.methodLink RX4 3 objectInit) (cBc 321 rfl)) (hts (.instanceMethod objectInit) (cBc 2 rfl)) (hts (.code objectInit ⟨#[0xb1]⟩ 1 none) (cBc 3 rfl)) rfl (by rw [hml]; exact hl.1) rfl dX4_init_1 (Nat.le_of_ble_eq_true rfl) (Nat.le_of_ble_eq_true rfl) ?_
  refine lv_aload_n hx hb dX4_init_4 rfl (lv_at hl 0 rfl) ?_
  refine lv_bipush (v := (48 : Int32)) hx hb dX4_init_5 (by decide) ?_
  have hi_ : cAd N q (15, 0, 0) = q + 513 + 586 * N + 1 := by show q + 514 + 586 * N = _; omega
  have hsI : s.heap.size = cAd N q (15, 0, 0) := by omega
  refine k_newZ (n := 48) S hK hS (hts (.arrayClass .boolean) (cBc 7 rfl)) rfl (by omega) (by simp only [componentBytes]; omega) (by show 0 + 1 ≤ 30; omega) (by show 0 + 48 ≤ 324; omega) dX4_init_7 (fun H1 e_ hz o hS_ => ?_)
  rw [hsI] at e_ ⊢
  replace hS := hS_
  clear hS_
  replace hO := hO.kept (o _ (by omega))
  replace h10 := h10.kept (o _ (by omega))
  replace hg := hg.old o (by omega)
  replace hsz : H1.size = q + 513 + 586 * N + 2 := by omega
  replace hg := (hg.wide (lo' := q + 513 + 586 * N + 1) (hi' := q + 513 + 586 * N + 2) (by omega) (by omega)).join (kG.arr (id := (15, 0, 0)) (ca := 1) (n := 48) rfl rfl rfl e_ (by omega) (by omega))
  clear e_ hz o hsI hi_
  refine W.widen (k := 1) (n := 48) (by omega) (by omega) ?_
  refine k_putF (ci := 4) (C := RX4) (T := TX4) (ty := .array .boolean) S hin2 hK hS (Or.inl rfl) rfl hin tyX4 tyX4_ok nmX4 hO 5 (by decide) ⟨rfl, rfl, rfl, rfl⟩ rfl (hts (.fieldLink RX4 9 "ReplicaFiles$Meeting" "inside" "[Z") (cBc 322 rfl)) (by decide) rfl rfl dX4_init_9 (fun H2 locs hO_ hz o hS_ => ?_)
  replace hS := hS_
  clear hS_
  replace hO := hO_
  clear hO_
  replace h10 := h10.kept (o _ (by omega))
  replace hg := hg.put o (Or.inl (by omega))
  replace hsz : H2.size = q + 513 + 586 * N + 2 := by omega
  clear hz o
  refine lv_aload_n hx hb dX4_init_12 rfl (lv_at hl 0 rfl) ?_
  refine lv_aload_n hx hb dX4_init_13 rfl (lv_at hl 1 rfl) ?_
  refine k_putF (ci := 4) (C := RX4) (T := TX4) (ty := .object "ReplicaFiles$Replicas") S hin2 hK hS (Or.inl rfl) rfl hin tyX4 tyX4_ok nmX4 hO 0 (by decide) ⟨rfl, rfl, rfl, rfl⟩ rfl (hts (.fieldLink RX4 15 "ReplicaFiles$Meeting" "replicas" "LReplicaFiles$Replicas;") (cBc 323 rfl)) (by decide) rfl rfl dX4_init_14 (fun H3 locs hO_ hz o hS_ => ?_)
  replace hS := hS_
  clear hS_
  replace hO := hO_
  clear hO_
  replace h10 := h10.kept (o _ (by omega))
  replace hg := hg.put o (Or.inl (by omega))
  replace hsz : H3.size = q + 513 + 586 * N + 2 := by omega
  clear hz o
  refine lv_aload_n hx hb dX4_init_17 rfl (lv_at hl 0 rfl) ?_
  refine lv_aload_n hx hb dX4_init_18 rfl (lv_at hl 1 rfl) ?_
  refine k_getN (ci := 6) (C := RX6) (T := TX6) S hK rfl cin_X6 h10 0 (by decide) ⟨rfl, rfl, rfl⟩ (v := .ref (cAd N q (1, 0, 0))) rfl (va_Nw.use (A := args) rfl (hNw.1 ("ReplicaFiles$Meeting", 19, "ReplicaFiles$Replicas", "catalog", "LReplicaFiles$Catalog;", "ReplicaFiles") (by decide +kernel))) dX4_init_19 ?_
  refine k_putF (ci := 4) (C := RX4) (T := TX4) (ty := .object "ReplicaFiles$Catalog") S hin2 hK hS (Or.inl rfl) rfl hin tyX4 tyX4_ok nmX4 hO 1 (by decide) ⟨rfl, rfl, rfl, rfl⟩ rfl (hts (.fieldLink RX4 25 "ReplicaFiles$Meeting" "catalog" "LReplicaFiles$Catalog;") (cBc 324 rfl)) (by decide) rfl rfl dX4_init_22 (fun H4 locs hO_ hz o hS_ => ?_)
  replace hS := hS_
  clear hS_
  replace hO := hO_
  clear hO_
  replace h10 := h10.kept (o _ (by omega))
  replace hg := hg.put o (Or.inl (by omega))
  replace hsz : H4.size = q + 513 + 586 * N + 2 := by omega
  clear hz o
  refine lv_aload_n hx hb dX4_init_25 rfl (lv_at hl 0 rfl) ?_
  refine lv_aload_n hx hb dX4_init_26 rfl (lv_at hl 1 rfl) ?_
  refine k_getN (ci := 6) (C := RX6) (T := TX6) S hK rfl cin_X6 h10 1 (by decide) ⟨rfl, rfl, rfl⟩ (v := .ref (cAd N q (7, 0, 0))) rfl (va_Nw.use (A := args) rfl (hNw.1 ("ReplicaFiles$Meeting", 26, "ReplicaFiles$Replicas", "servers", "[LReplicaFiles$Server;", "ReplicaFiles") (by decide +kernel))) dX4_init_27 ?_
  refine k_putF (ci := 4) (C := RX4) (T := TX4) (ty := .array (.object "ReplicaFiles$Server")) S hin2 hK hS (Or.inl rfl) rfl hin tyX4 tyX4_ok nmX4 hO 2 (by decide) ⟨rfl, rfl, rfl, rfl⟩ rfl (hts (.fieldLink RX4 30 "ReplicaFiles$Meeting" "servers" "[LReplicaFiles$Server;") (cBc 325 rfl)) (by decide) rfl rfl dX4_init_30 (fun H5 locs hO_ hz o hS_ => ?_)
  replace hS := hS_
  clear hS_
  replace hO := hO_
  clear hO_
  replace h10 := h10.kept (o _ (by omega))
  replace hg := hg.put o (Or.inl (by omega))
  replace hsz : H5.size = q + 513 + 586 * N + 2 := by omega
  clear hz o
  refine lv_aload_n hx hb dX4_init_33 rfl (lv_at hl 0 rfl) ?_
  have hi_ : cAd N q (60, 192, 0) = q + 513 + 586 * N + 2 := by show cVb N q 192 = _; omega
  have hsI : H5.size = cAd N q (60, 192, 0) := by omega
  refine k_new (ci := 9) (C := RX9) (T := TX9) S hK hS rfl cin_X9 tyX9 tyX9_ok (hts (.classLink RX4 31 RX9) (cBc 326 rfl)) (hts (.instantiable RX9 4) (cBc 327 rfl)) (hts (.initialized RX9) (cBc 191 rfl)) (by show 1 + 1 ≤ 30; omega) (by show 48 + 4 ≤ 324; omega) dX4_init_34 (fun H6 hOn hz o hS_ => ?_)
  rw [hsI] at hOn ⊢
  replace hS := hS_
  clear hS_
  replace hO := hO.kept (o _ (by omega))
  replace h10 := h10.kept (o _ (by omega))
  replace hg := hg.old o (by omega)
  replace hsz : H6.size = q + 513 + 586 * N + 3 := by omega
  clear hz o hsI
  refine W.widen (k := 2) (n := 52) (by omega) (by omega) ?_
  refine lv_dup hx hb dX4_init_37 rfl ?_
  refine lv_bipush (v := (24 : Int32)) hx hb dX4_init_38 (by decide) ?_
  refine lv_iload_n hx hb dX4_init_40 rfl (lv_at hl 2 rfl) ?_
  refine k_call (N := N) (A := cAd N q) (a := cAd N q (60, 192, 0)) (sz := q + 513 + 586 * N + 3) (As := [.int (24 : Int32), .int (nI (N + 4))]) (rest := [.ref (cAd N q (60, 192, 0)), .ref (cAd N q (13, 0, 0))]) S hK hAO hS hsz hOn (k_X9_24 l N hN1 hN4 D dA (cAd N q) (q + 513 + 586 * N + 3) 192 (by omega) rfl (by show cVb N q 192 + 1 = _; omega) (by show cVb N q 192 + 2 = _; omega) (by show cVb N q 192 + 3 = _; omega) (fun o ho => by show cVb N q 192 + 4 + o = _; omega)) (cwI 2 hts (cG (cB 317 rfl)) rfl rfl rfl (hts (.initialized RX9) (cBc 191 rfl)) (hts (.methodLink RX4 33 yX9_init) (cBc 330 rfl)) (hts (.instanceMethod yX9_init) (cBc 331 rfl)) rfl (by decide +kernel) ⟨Nat.le_of_ble_eq_true rfl, Nat.le_of_ble_eq_true rfl⟩) (fun x h => Or.inr (h.elim (fun h => by omega) (fun h => by omega))) rfl hl.1 rfl (Nat.le_of_ble_eq_true rfl) dX4_init_41 ⟨by show 2 + 27 ≤ 30; omega, by show 52 + 264 ≤ 324; omega⟩ (fun H7 locs hz hB o hS_ => ?_)
  replace hS := hS_
  clear hS_
  replace hO := hO.kept (o _ (by omega) (by omega))
  replace h10 := h10.kept (o _ (by omega) (by omega))
  replace hg := hg.call o (by omega) (Or.inr (by omega))
  replace hsz : H7.size = q + 513 + 586 * N + 30 := by omega
  replace hg := (hg.wide (lo' := q + 513 + 586 * N + 1) (hi' := q + 513 + 586 * N + 30) (by omega) (by omega)).join (kG.of hB (fun i hi => cM0_tag (by omega) (by omega) (by omega) (by omega) (by omega) (by omega)) (fun i hi => by have h1 := cAd_ver (q := q) hi; have h2 : cMost 192 = 24 := rfl; omega))
  clear hz o hB hOn hi_
  refine W.widen (k := 29) (n := 316) (by omega) (by omega) ?_
  refine k_putF (ci := 4) (C := RX4) (T := TX4) (ty := .object "ReplicaFiles$Versions") S hin2 hK hS (Or.inl rfl) rfl hin tyX4 tyX4_ok nmX4 hO 3 (by decide) ⟨rfl, rfl, rfl, rfl⟩ rfl (hts (.fieldLink RX4 36 "ReplicaFiles$Meeting" "candidates" "LReplicaFiles$Versions;") (cBc 328 rfl)) (by decide) rfl rfl dX4_init_44 (fun H8 locs hO_ hz o hS_ => ?_)
  replace hS := hS_
  clear hS_
  replace hO := hO_
  clear hO_
  replace h10 := h10.kept (o _ (by omega))
  replace hg := hg.put o (Or.inl (by omega))
  replace hsz : H8.size = q + 513 + 586 * N + 30 := by omega
  clear hz o
  refine lv_aload_n hx hb dX4_init_47 rfl (lv_at hl 0 rfl) ?_
  refine lv_iload_n hx hb dX4_init_48 rfl (lv_at hl 2 rfl) ?_
  have hi_ : cAd N q (14, 0, 0) = q + 513 + 586 * N + 30 := by show q + 543 + 586 * N = _; omega
  have hsI : H8.size = cAd N q (14, 0, 0) := by omega
  refine k_newI (n := (N + 4)) S hK hS (hts (.arrayClass .int) (cBc 4 rfl)) rfl (by omega) (by simp only [componentBytes]; omega) (by show 29 + 1 ≤ 30; omega) (by show 316 + (N + 4) ≤ 324; omega) dX4_init_49 (fun H9 e_ hz o hS_ => ?_)
  rw [hsI] at e_ ⊢
  replace hS := hS_
  clear hS_
  replace hO := hO.kept (o _ (by omega))
  replace h10 := h10.kept (o _ (by omega))
  replace hg := hg.old o (by omega)
  replace hsz : H9.size = q + 513 + 586 * N + 31 := by omega
  replace hg := (hg.wide (lo' := q + 513 + 586 * N + 1) (hi' := q + 513 + 586 * N + 31) (by omega) (by omega)).join (kG.arr (id := (14, 0, 0)) (ca := 0) (n := (N + 4)) rfl rfl rfl e_ (by omega) (by omega))
  clear e_ hz o hsI hi_
  refine W.widen (k := 30) (n := 324) (by omega) (by omega) ?_
  refine k_putF (ci := 4) (C := RX4) (T := TX4) (ty := .array .int) S hin2 hK hS (Or.inl rfl) rfl hin tyX4 tyX4_ok nmX4 hO 4 (by decide) ⟨rfl, rfl, rfl, rfl⟩ rfl (hts (.fieldLink RX4 40 "ReplicaFiles$Meeting" "greater" "[I") (cBc 329 rfl)) (by decide) rfl rfl dX4_init_51 (fun H10 locs hO_ hz o hS_ => ?_)
  replace hS := hS_
  clear hS_
  replace hO := hO_
  clear hO_
  replace h10 := h10.kept (o _ (by omega))
  replace hg := hg.put o (Or.inl (by omega))
  replace hsz : H10.size = q + 513 + 586 * N + 31 := by omega
  clear hz o
  refine W.widen (k := 30) (n := 324) (by omega) (by omega) ?_
  refine W.vret hx hb hr (fun t ht hW => ⟨⟨(), rfl, trivial, by rw [ht]; omega, fun i hi => ?_⟩, hS.F ht⟩) hS.2.2 dX4_init_54 hlocks
  rw [ht]
  rcases hi with rfl | rfl | rfl | hi
  · exact hO.to (fun k hk => by
      rcases (show k = 0 ∨ k = 1 ∨ k = 2 ∨ k = 3 ∨ k = 4 ∨ k = 5 ∨ k = 6 ∨ k = 7 by omega) with rfl | rfl | rfl | rfl | rfl | rfl | rfl | rfl <;> first | rfl | simp [updV, gF, cF_X4, cM0, tyX4, defaultValue])
  · exact (hg (14, 0, 0) (Or.inr rfl)).2
  · exact (hg (15, 0, 0) (Or.inl (Or.inl (Or.inr rfl)))).2
  · exact (hg i (Or.inl (Or.inr hi))).2
theorem dX1_init_0 : decode cX1_init 0 = .ok (.aload_n 0, 1) := by decide +kernel
theorem dX1_init_1 : decode cX1_init 1 = .ok (.invokespecial 3, 3) := by decide +kernel
theorem dX1_init_4 : decode cX1_init 4 = .ok (.aload_n 0, 1) := by decide +kernel
theorem dX1_init_5 : decode cX1_init 5 = .ok (.bipush 48, 2) := by decide +kernel
theorem dX1_init_7 : decode cX1_init 7 = .ok (.newarray .int, 2) := by decide +kernel
theorem dX1_init_9 : decode cX1_init 9 = .ok (.putfield 9, 3) := by decide +kernel
theorem dX1_init_12 : decode cX1_init 12 = .ok (.aload_n 0, 1) := by decide +kernel
theorem dX1_init_13 : decode cX1_init 13 = .ok (.bipush 48, 2) := by decide +kernel
theorem dX1_init_15 : decode cX1_init 15 = .ok (.newarray .int, 2) := by decide +kernel
theorem dX1_init_17 : decode cX1_init 17 = .ok (.putfield 15, 3) := by decide +kernel
theorem dX1_init_20 : decode cX1_init 20 = .ok (.aload_n 0, 1) := by decide +kernel
theorem dX1_init_21 : decode cX1_init 21 = .ok (.bipush 48, 2) := by decide +kernel
theorem dX1_init_23 : decode cX1_init 23 = .ok (.newarray .boolean, 2) := by decide +kernel
theorem dX1_init_25 : decode cX1_init 25 = .ok (.putfield 18, 3) := by decide +kernel
theorem dX1_init_28 : decode cX1_init 28 = .ok (.aload_n 0, 1) := by decide +kernel
theorem dX1_init_29 : decode cX1_init 29 = .ok (.bipush 48, 2) := by decide +kernel
theorem dX1_init_31 : decode cX1_init 31 = .ok (.newarray .int, 2) := by decide +kernel
theorem dX1_init_33 : decode cX1_init 33 = .ok (.putfield 22, 3) := by decide +kernel
theorem dX1_init_36 : decode cX1_init 36 = .ok (.aload_n 0, 1) := by decide +kernel
theorem dX1_init_37 : decode cX1_init 37 = .ok (.iload_n 1, 1) := by decide +kernel
theorem dX1_init_38 : decode cX1_init 38 = .ok (.putfield 25, 3) := by decide +kernel
theorem dX1_init_41 : decode cX1_init 41 = .ok (.aload_n 0, 1) := by decide +kernel
theorem dX1_init_42 : decode cX1_init 42 = .ok (.aload_n 2, 1) := by decide +kernel
theorem dX1_init_43 : decode cX1_init 43 = .ok (.putfield 29, 3) := by decide +kernel
theorem dX1_init_46 : decode cX1_init 46 = .ok (.aload_n 0, 1) := by decide +kernel
theorem dX1_init_47 : decode cX1_init 47 = .ok (.aload 4, 2) := by decide +kernel
theorem dX1_init_49 : decode cX1_init 49 = .ok (.putfield 33, 3) := by decide +kernel
theorem dX1_init_52 : decode cX1_init 52 = .ok (.aload_n 0, 1) := by decide +kernel
theorem dX1_init_53 : decode cX1_init 53 = .ok (.new 36, 3) := by decide +kernel
theorem dX1_init_56 : decode cX1_init 56 = .ok (.dup, 1) := by decide +kernel
theorem dX1_init_57 : decode cX1_init 57 = .ok (.aload_n 2, 1) := by decide +kernel
theorem dX1_init_58 : decode cX1_init 58 = .ok (.iload_n 3, 1) := by decide +kernel
theorem dX1_init_59 : decode cX1_init 59 = .ok (.invokespecial 38, 3) := by decide +kernel
theorem dX1_init_62 : decode cX1_init 62 = .ok (.putfield 41, 3) := by decide +kernel
theorem dX1_init_65 : decode cX1_init 65 = .ok (.aload_n 0, 1) := by decide +kernel
theorem dX1_init_66 : decode cX1_init 66 = .ok (.new 45, 3) := by decide +kernel
theorem dX1_init_69 : decode cX1_init 69 = .ok (.dup, 1) := by decide +kernel
theorem dX1_init_70 : decode cX1_init 70 = .ok (.iload_n 3, 1) := by decide +kernel
theorem dX1_init_71 : decode cX1_init 71 = .ok (.invokespecial 47, 3) := by decide +kernel
theorem dX1_init_74 : decode cX1_init 74 = .ok (.putfield 50, 3) := by decide +kernel
theorem dX1_init_77 : decode cX1_init 77 = .ok (.return_, 1) := by decide +kernel
abbrev wmX1_init : List Cond := .code yX1_init cX1_init 5 none :: cBig
set_option maxHeartbeats 8000000 in
set_option maxRecDepth 100000 in
theorem k_X1 (l : Launch) (N : Nat) (hN1 : 1 ≤ N) (hN4 : N ≤ 4) (D : va_G) (dA : Nat → ClassId) (q : Nat) (v : Nat) (hv : v < 4) : Met l yX1_init wmX1_init ({ frames := 2, cells := 124, slots := 1404, locals := 60 } : Room) (kPp N D dA q (q + 10 + 586 * N + 125 * v + 1) (cAd N q (30, v, 0)) 1 12 tyX1 (fun i => False) [.ref (cAd N q (30, v, 0)), .int (nI v), .ref (cAd N q (1, 0, 0)), .int (nI (N + 4)), .ref (cAd N q (9, 0, 0))]) (kQ N D dA (cAd N q) (cAd N q (30, v, 0)) (q + 10 + 586 * N + 125 * v + 1) (124) (fun i => cLive N i ∧ ((30 ≤ i.1 ∧ i.1 ≤ 45 ∧ i.2.1 = v) ∨ (50 ≤ i.1 ∧ i.1 ≤ 58 ∧ i.2.1 = 4 + v))) (cM0 N)) 124 1404 (kReg (cAd N q (30, v, 0)) (q + 10 + 586 * N + 125 * v + 1)) := by
  refine Met.ofW (cc := cX1_init) (maxL := 5) (ret := none) (by decide) rfl ?_
  intro p e s m args below meth c s₁ B hml hv
  obtain ⟨rfl, hsz, hO, hK, hAO, hNw, hpre⟩ := hv
  generalize hargs : ([.ref (cAd N q (30, v, 0)), .int (nI v), .ref (cAd N q (1, 0, 0)), .int (nI (N + 4)), .ref (cAd N q (9, 0, 0))] : List Value).toArray = args at B ⊢
  have S : CallFix p m c cX1_init 5 s args wmX1_init RX1 := ⟨B.exec, B.bytes, hml, findClass_of_methodNamed B.named, atoms_spec (ws := wmX1_init) B.pre⟩
  obtain ⟨hx, hb, -, hown, hts⟩ := id S
  have hr := B.returns
  have hlocks := B.notSynchronized
  have hin2 : meth.name = "<init>" := (name_of_methodNamed B.named B.method).1
  have hin : ∀ w ∈ wsX10, w ∈ wmX1_init := cin_X1
  have hS : va_S (kReg (cAd N q (30, v, 0)) (q + 10 + 586 * N + 125 * v + 1)) s.heap s.heap [] := va_S.rf
  have hme : cAd N q (30, v, 0) = q + 10 + 586 * N + 125 * v := rfl
  have hg : kG N D dA q (q + 10 + 586 * N + 125 * v + 1) (q + 10 + 586 * N + 125 * v + 1) s.heap (fun _ => False) := kG.none
  have hl := lv_entry ([.ref (cAd N q (30, v, 0)), .int (nI v), .ref (cAd N q (1, 0, 0)), .int (nI (N + 4)), .ref (cAd N q (9, 0, 0))]) (n := 5) (Nat.le_of_ble_eq_true rfl)
  rw [← hargs, lg_entry_eq, hargs]
  generalize (lg_sl ([.ref (cAd N q (30, v, 0)), .int (nI v), .ref (cAd N q (1, 0, 0)), .int (nI (N + 4)), .ref (cAd N q (9, 0, 0))]) ++ List.replicate (5 - (lg_sl ([.ref (cAd N q (30, v, 0)), .int (nI v), .ref (cAd N q (1, 0, 0)), .int (nI (N + 4)), .ref (cAd N q (9, 0, 0))])).length) Slot.unset).toArray = ls at hl ⊢
  have hl : lv_has ls 5 [(0, .ref (cAd N q (30, v, 0))), (1, .int (nI v)), (2, .ref (cAd N q (1, 0, 0))), (3, .int (nI (N + 4))), (4, .ref (cAd N q (9, 0, 0)))] := hl
  have htb : cTb N q (4 + v) = q + 15 + 586 * N + 125 * v := by unfold cTb; rw [if_neg (by omega)]; omega
  have hb40 : cAd N q (40, v, 0) = q + 118 + 586 * N + 125 * v := rfl
  have hb50 : cAd N q (50, 4 + v, 0) = cTb N q (4 + v) := rfl
  have hsz : s.heap.size = q + 586 * N + 125 * v + 11 := by omega
  replace hg := hg.wide (lo' := q + 10 + 586 * N + 125 * v + 1) (hi' := q + 586 * N + 125 * v + 11) (by omega) (by omega)
  refine lv_aload_n hx hb dX1_init_0 rfl (lv_at hl 0 rfl) ?_
  refine W.objInit hx hb hown (hts (.methodLink RX1 3 objectInit) (cBc 34 rfl)) (hts (.instanceMethod objectInit) (cBc 2 rfl)) (hts (.code objectInit ⟨#[0xb1]⟩ 1 none) (cBc 3 rfl)) rfl (by rw [hml]; exact hl.1) rfl dX1_init_1 (Nat.le_of_ble_eq_true rfl) (Nat.le_of_ble_eq_true rfl) ?_
  refine lv_aload_n hx hb dX1_init_4 rfl (lv_at hl 0 rfl) ?_
  refine lv_bipush (v := (48 : Int32)) hx hb dX1_init_5 (by decide) ?_
  have hi_ : cAd N q (31, v, 0) = q + 586 * N + 125 * v + 11 := by show q + 11 + 586 * N + 125 * v = _; omega
  have hsI : s.heap.size = cAd N q (31, v, 0) := by omega
  refine k_newI (n := 48) S hK hS (hts (.arrayClass .int) (cBc 4 rfl)) rfl (by omega) (by simp only [componentBytes]; omega) (by show 0 + 1 ≤ 124; omega) (by show 0 + 48 ≤ 1404; omega) dX1_init_7 (fun H1 e_ hz o hS_ => ?_)
  rw [hsI] at e_ ⊢
  replace hS := hS_
  clear hS_
  replace hO := hO.kept (o _ (by omega))
  replace hg := hg.old o (by omega)
  replace hsz : H1.size = q + 586 * N + 125 * v + 12 := by omega
  replace hg := (hg.wide (lo' := q + 10 + 586 * N + 125 * v + 1) (hi' := q + 586 * N + 125 * v + 12) (by omega) (by omega)).join (kG.arr (id := (31, v, 0)) (ca := 0) (n := 48) rfl rfl rfl e_ (by omega) (by omega))
  clear e_ hz o hsI hi_
  refine W.widen (k := 1) (n := 48) (by omega) (by omega) ?_
  refine k_putF (ci := 1) (C := RX1) (T := TX1) (ty := .array .int) S hin2 hK hS (Or.inl rfl) rfl hin tyX1 tyX1_ok nmX1 hO 4 (by decide) ⟨rfl, rfl, rfl, rfl⟩ rfl (hts (.fieldLink RX1 9 "ReplicaFiles$Client" "priority" "[I") (cBc 35 rfl)) (by decide) rfl rfl dX1_init_9 (fun H2 locs hO_ hz o hS_ => ?_)
  replace hS := hS_
  clear hS_
  replace hO := hO_
  clear hO_
  replace hg := hg.put o (Or.inl (by omega))
  replace hsz : H2.size = q + 586 * N + 125 * v + 12 := by omega
  clear hz o
  refine lv_aload_n hx hb dX1_init_12 rfl (lv_at hl 0 rfl) ?_
  refine lv_bipush (v := (48 : Int32)) hx hb dX1_init_13 (by decide) ?_
  have hi_ : cAd N q (32, v, 0) = q + 586 * N + 125 * v + 12 := by show q + 12 + 586 * N + 125 * v = _; omega
  have hsI : H2.size = cAd N q (32, v, 0) := by omega
  refine k_newI (n := 48) S hK hS (hts (.arrayClass .int) (cBc 4 rfl)) rfl (by omega) (by simp only [componentBytes]; omega) (by show 1 + 1 ≤ 124; omega) (by show 48 + 48 ≤ 1404; omega) dX1_init_15 (fun H3 e_ hz o hS_ => ?_)
  rw [hsI] at e_ ⊢
  replace hS := hS_
  clear hS_
  replace hO := hO.kept (o _ (by omega))
  replace hg := hg.old o (by omega)
  replace hsz : H3.size = q + 586 * N + 125 * v + 13 := by omega
  replace hg := (hg.wide (lo' := q + 10 + 586 * N + 125 * v + 1) (hi' := q + 586 * N + 125 * v + 13) (by omega) (by omega)).join (kG.arr (id := (32, v, 0)) (ca := 0) (n := 48) rfl rfl rfl e_ (by omega) (by omega))
  clear e_ hz o hsI hi_
  refine W.widen (k := 2) (n := 96) (by omega) (by omega) ?_
  refine k_putF (ci := 1) (C := RX1) (T := TX1) (ty := .array .int) S hin2 hK hS (Or.inl rfl) rfl hin tyX1 tyX1_ok nmX1 hO 5 (by decide) ⟨rfl, rfl, rfl, rfl⟩ rfl (hts (.fieldLink RX1 15 "ReplicaFiles$Client" "promised" "[I") (cBc 36 rfl)) (by decide) rfl rfl dX1_init_17 (fun H4 locs hO_ hz o hS_ => ?_)
  replace hS := hS_
  clear hS_
  replace hO := hO_
  clear hO_
  replace hg := hg.put o (Or.inl (by omega))
  replace hsz : H4.size = q + 586 * N + 125 * v + 13 := by omega
  clear hz o
  refine lv_aload_n hx hb dX1_init_20 rfl (lv_at hl 0 rfl) ?_
  refine lv_bipush (v := (48 : Int32)) hx hb dX1_init_21 (by decide) ?_
  have hi_ : cAd N q (33, v, 0) = q + 586 * N + 125 * v + 13 := by show q + 13 + 586 * N + 125 * v = _; omega
  have hsI : H4.size = cAd N q (33, v, 0) := by omega
  refine k_newZ (n := 48) S hK hS (hts (.arrayClass .boolean) (cBc 7 rfl)) rfl (by omega) (by simp only [componentBytes]; omega) (by show 2 + 1 ≤ 124; omega) (by show 96 + 48 ≤ 1404; omega) dX1_init_23 (fun H5 e_ hz o hS_ => ?_)
  rw [hsI] at e_ ⊢
  replace hS := hS_
  clear hS_
  replace hO := hO.kept (o _ (by omega))
  replace hg := hg.old o (by omega)
  replace hsz : H5.size = q + 586 * N + 125 * v + 14 := by omega
  replace hg := (hg.wide (lo' := q + 10 + 586 * N + 125 * v + 1) (hi' := q + 586 * N + 125 * v + 14) (by omega) (by omega)).join (kG.arr (id := (33, v, 0)) (ca := 1) (n := 48) rfl rfl rfl e_ (by omega) (by omega))
  clear e_ hz o hsI hi_
  refine W.widen (k := 3) (n := 144) (by omega) (by omega) ?_
  refine k_putF (ci := 1) (C := RX1) (T := TX1) (ty := .array .boolean) S hin2 hK hS (Or.inl rfl) rfl hin tyX1 tyX1_ok nmX1 hO 6 (by decide) ⟨rfl, rfl, rfl, rfl⟩ rfl (hts (.fieldLink RX1 18 "ReplicaFiles$Client" "dirty" "[Z") (cBc 37 rfl)) (by decide) rfl rfl dX1_init_25 (fun H6 locs hO_ hz o hS_ => ?_)
  replace hS := hS_
  clear hS_
  replace hO := hO_
  clear hO_
  replace hg := hg.put o (Or.inl (by omega))
  replace hsz : H6.size = q + 586 * N + 125 * v + 14 := by omega
  clear hz o
  refine lv_aload_n hx hb dX1_init_28 rfl (lv_at hl 0 rfl) ?_
  refine lv_bipush (v := (48 : Int32)) hx hb dX1_init_29 (by decide) ?_
  have hi_ : cAd N q (34, v, 0) = q + 586 * N + 125 * v + 14 := by show q + 14 + 586 * N + 125 * v = _; omega
  have hsI : H6.size = cAd N q (34, v, 0) := by omega
  refine k_newI (n := 48) S hK hS (hts (.arrayClass .int) (cBc 4 rfl)) rfl (by omega) (by simp only [componentBytes]; omega) (by show 3 + 1 ≤ 124; omega) (by show 144 + 48 ≤ 1404; omega) dX1_init_31 (fun H7 e_ hz o hS_ => ?_)
  rw [hsI] at e_ ⊢
  replace hS := hS_
  clear hS_
  replace hO := hO.kept (o _ (by omega))
  replace hg := hg.old o (by omega)
  replace hsz : H7.size = q + 586 * N + 125 * v + 15 := by omega
  replace hg := (hg.wide (lo' := q + 10 + 586 * N + 125 * v + 1) (hi' := q + 586 * N + 125 * v + 15) (by omega) (by omega)).join (kG.arr (id := (34, v, 0)) (ca := 0) (n := 48) rfl rfl rfl e_ (by omega) (by omega))
  clear e_ hz o hsI hi_
  refine W.widen (k := 4) (n := 192) (by omega) (by omega) ?_
  refine k_putF (ci := 1) (C := RX1) (T := TX1) (ty := .array .int) S hin2 hK hS (Or.inl rfl) rfl hin tyX1 tyX1_ok nmX1 hO 7 (by decide) ⟨rfl, rfl, rfl, rfl⟩ rfl (hts (.fieldLink RX1 22 "ReplicaFiles$Client" "used" "[I") (cBc 38 rfl)) (by decide) rfl rfl dX1_init_33 (fun H8 locs hO_ hz o hS_ => ?_)
  replace hS := hS_
  clear hS_
  replace hO := hO_
  clear hO_
  replace hg := hg.put o (Or.inl (by omega))
  replace hsz : H8.size = q + 586 * N + 125 * v + 15 := by omega
  clear hz o
  refine lv_aload_n hx hb dX1_init_36 rfl (lv_at hl 0 rfl) ?_
  refine lv_iload_n hx hb dX1_init_37 rfl (lv_at hl 1 rfl) ?_
  refine k_putF (ci := 1) (C := RX1) (T := TX1) (ty := .int) S hin2 hK hS (Or.inl rfl) rfl hin tyX1 tyX1_ok nmX1 hO 0 (by decide) ⟨rfl, rfl, rfl, rfl⟩ rfl (hts (.fieldLink RX1 25 "ReplicaFiles$Client" "number" "I") (cBc 39 rfl)) (by decide) rfl rfl dX1_init_38 (fun H9 locs hO_ hz o hS_ => ?_)
  replace hS := hS_
  clear hS_
  replace hO := hO_
  clear hO_
  replace hg := hg.put o (Or.inl (by omega))
  replace hsz : H9.size = q + 586 * N + 125 * v + 15 := by omega
  clear hz o
  refine lv_aload_n hx hb dX1_init_41 rfl (lv_at hl 0 rfl) ?_
  refine lv_aload_n hx hb dX1_init_42 rfl (lv_at hl 2 rfl) ?_
  refine k_putF (ci := 1) (C := RX1) (T := TX1) (ty := .object "ReplicaFiles$Catalog") S hin2 hK hS (Or.inl rfl) rfl hin tyX1 tyX1_ok nmX1 hO 1 (by decide) ⟨rfl, rfl, rfl, rfl⟩ rfl (hts (.fieldLink RX1 29 "ReplicaFiles$Client" "catalog" "LReplicaFiles$Catalog;") (cBc 40 rfl)) (by decide) rfl rfl dX1_init_43 (fun H10 locs hO_ hz o hS_ => ?_)
  replace hS := hS_
  clear hS_
  replace hO := hO_
  clear hO_
  replace hg := hg.put o (Or.inl (by omega))
  replace hsz : H10.size = q + 586 * N + 125 * v + 15 := by omega
  clear hz o
  refine lv_aload_n hx hb dX1_init_46 rfl (lv_at hl 0 rfl) ?_
  refine lv_aload hx hb dX1_init_47 (lv_at hl 4 rfl) ?_
  refine k_putF (ci := 1) (C := RX1) (T := TX1) (ty := .array .int) S hin2 hK hS (Or.inl rfl) rfl hin tyX1 tyX1_ok nmX1 hO 2 (by decide) ⟨rfl, rfl, rfl, rfl⟩ rfl (hts (.fieldLink RX1 33 "ReplicaFiles$Client" "tallies" "[I") (cBc 41 rfl)) (by decide) rfl rfl dX1_init_49 (fun H11 locs hO_ hz o hS_ => ?_)
  replace hS := hS_
  clear hS_
  replace hO := hO_
  clear hO_
  replace hg := hg.put o (Or.inl (by omega))
  replace hsz : H11.size = q + 586 * N + 125 * v + 15 := by omega
  clear hz o
  refine lv_aload_n hx hb dX1_init_52 rfl (lv_at hl 0 rfl) ?_
  have hi_ : cAd N q (50, (4 + v), 0) = q + 586 * N + 125 * v + 15 := by show cTb N q (4 + v) = _; omega
  have hsI : H11.size = cAd N q (50, (4 + v), 0) := by omega
  refine k_new (ci := 8) (C := RX8) (T := TX8) S hK hS rfl cin_X8 tyX8 tyX8_ok (hts (.classLink RX1 36 RX8) (cBc 42 rfl)) (hts (.instantiable RX8 7) (cBc 43 rfl)) (hts (.initialized RX8) (cBc 44 rfl)) (by show 4 + 1 ≤ 124; omega) (by show 192 + 7 ≤ 1404; omega) dX1_init_53 (fun H12 hOn hz o hS_ => ?_)
  rw [hsI] at hOn ⊢
  replace hS := hS_
  clear hS_
  replace hO := hO.kept (o _ (by omega))
  replace hg := hg.old o (by omega)
  replace hsz : H12.size = q + 586 * N + 125 * v + 16 := by omega
  clear hz o hsI
  refine W.widen (k := 5) (n := 199) (by omega) (by omega) ?_
  refine lv_dup hx hb dX1_init_56 rfl ?_
  refine lv_aload_n hx hb dX1_init_57 rfl (lv_at hl 2 rfl) ?_
  refine lv_iload_n hx hb dX1_init_58 rfl (lv_at hl 3 rfl) ?_
  refine k_call (N := N) (A := cAd N q) (a := cAd N q (50, (4 + v), 0)) (sz := q + 586 * N + 125 * v + 16) (As := [.ref (cAd N q (1, 0, 0)), .int (nI (N + 4))]) (rest := [.ref (cAd N q (50, (4 + v), 0)), .ref (cAd N q (30, v, 0))]) S hK hAO hS hsz hOn (k_X8 l N hN1 hN4 D dA (cAd N q) (q + 586 * N + 125 * v + 16) (4 + v) (by omega) (by show cTb N q (4 + v) + 1 = _; omega) (by show cTb N q (4 + v) + 2 = _; omega) (by show cTb N q (4 + v) + 3 = _; omega) (by show cTb N q (4 + v) + 4 = _; omega) (by show cTb N q (4 + v) + 5 = _; omega) (fun o ho => by show cTb N q (4 + v) + 6 + o = _; omega) (by show cTb N q (4 + v) + 54 = _; omega) (fun o ho => by show cTb N q (4 + v) + 55 + o = _; omega)) (cwI 2 hts (cG (cB 17 rfl)) rfl rfl rfl (hts (.initialized RX8) (cBc 44 rfl)) (hts (.methodLink RX1 38 yX8_init) (cBc 50 rfl)) (hts (.instanceMethod yX8_init) (cBc 51 rfl)) rfl (by decide +kernel) ⟨Nat.le_of_ble_eq_true rfl, Nat.le_of_ble_eq_true rfl⟩) (fun x h => Or.inr (h.elim (fun h => by omega) (fun h => by omega))) rfl hl.1 rfl (Nat.le_of_ble_eq_true rfl) dX1_init_59 ⟨by show 5 + 102 ≤ 124; omega, by show 199 + 1056 ≤ 1404; omega⟩ (fun H13 locs hz hB o hS_ => ?_)
  replace hS := hS_
  clear hS_
  replace hO := hO.kept (o _ (by omega) (by omega))
  replace hg := hg.call o (by omega) (Or.inr (by omega))
  replace hsz : H13.size = q + 586 * N + 125 * v + 118 := by omega
  replace hg := (hg.wide (lo' := q + 10 + 586 * N + 125 * v + 1) (hi' := q + 586 * N + 125 * v + 118) (by omega) (by omega)).join (kG.of hB (fun i hi => cM0_tree (by omega) hi) (fun i hi => by have h1 := cAd_tree (q := q) hi; omega))
  clear hz o hB hOn hi_
  refine W.widen (k := 107) (n := 1255) (by omega) (by omega) ?_
  refine k_putF (ci := 1) (C := RX1) (T := TX1) (ty := .object "ReplicaFiles$Tree") S hin2 hK hS (Or.inl rfl) rfl hin tyX1 tyX1_ok nmX1 hO 3 (by decide) ⟨rfl, rfl, rfl, rfl⟩ rfl (hts (.fieldLink RX1 41 "ReplicaFiles$Client" "tree" "LReplicaFiles$Tree;") (cBc 45 rfl)) (by decide) rfl rfl dX1_init_62 (fun H14 locs hO_ hz o hS_ => ?_)
  replace hS := hS_
  clear hS_
  replace hO := hO_
  clear hO_
  replace hg := hg.put o (Or.inl (by omega))
  replace hsz : H14.size = q + 586 * N + 125 * v + 118 := by omega
  clear hz o
  refine lv_aload_n hx hb dX1_init_65 rfl (lv_at hl 0 rfl) ?_
  have hi_ : cAd N q (40, v, 0) = q + 586 * N + 125 * v + 118 := by show q + 118 + 586 * N + 125 * v = _; omega
  have hsI : H14.size = cAd N q (40, v, 0) := by omega
  refine k_new (ci := 3) (C := RX3) (T := TX3) S hK hS rfl cin_X3 tyX3 tyX3_ok (hts (.classLink RX1 45 RX3) (cBc 46 rfl)) (hts (.instantiable RX3 5) (cBc 47 rfl)) (hts (.initialized RX3) (cBc 48 rfl)) (by show 107 + 1 ≤ 124; omega) (by show 1255 + 5 ≤ 1404; omega) dX1_init_66 (fun H15 hOn hz o hS_ => ?_)
  rw [hsI] at hOn ⊢
  replace hS := hS_
  clear hS_
  replace hO := hO.kept (o _ (by omega))
  replace hg := hg.old o (by omega)
  replace hsz : H15.size = q + 586 * N + 125 * v + 119 := by omega
  clear hz o hsI
  refine W.widen (k := 108) (n := 1260) (by omega) (by omega) ?_
  refine lv_dup hx hb dX1_init_69 rfl ?_
  refine lv_iload_n hx hb dX1_init_70 rfl (lv_at hl 3 rfl) ?_
  refine k_call (N := N) (A := cAd N q) (a := cAd N q (40, v, 0)) (sz := q + 586 * N + 125 * v + 119) (As := [.int (nI (N + 4))]) (rest := [.ref (cAd N q (40, v, 0)), .ref (cAd N q (30, v, 0))]) S hK hAO hS hsz hOn (k_X3 l N hN1 hN4 D dA (cAd N q) (q + 586 * N + 125 * v + 119) v (by omega) (by show q + 119 + 586 * N + 125 * v = _; omega) (by show q + 120 + 586 * N + 125 * v = _; omega) (by show q + 121 + 586 * N + 125 * v = _; omega) (by show q + 122 + 586 * N + 125 * v = _; omega) (fun o ho => by show q + 123 + 586 * N + 125 * v + o = _; omega)) (cwI 1 hts (cG (cB 27 rfl)) rfl rfl rfl (hts (.initialized RX3) (cBc 48 rfl)) (hts (.methodLink RX1 47 yX3_init) (cBc 52 rfl)) (hts (.instanceMethod yX3_init) (cBc 53 rfl)) rfl (by decide +kernel) ⟨Nat.le_of_ble_eq_true rfl, Nat.le_of_ble_eq_true rfl⟩) (fun x h => Or.inr (h.elim (fun h => by omega) (fun h => by omega))) rfl hl.1 rfl (Nat.le_of_ble_eq_true rfl) dX1_init_71 ⟨by show 108 + 16 ≤ 124; omega, by show 1260 + 144 ≤ 1404; omega⟩ (fun H16 locs hz hB o hS_ => ?_)
  replace hS := hS_
  clear hS_
  replace hO := hO.kept (o _ (by omega) (by omega))
  replace hg := hg.call o (by omega) (Or.inr (by omega))
  replace hsz : H16.size = q + 586 * N + 125 * v + 135 := by omega
  replace hg := (hg.wide (lo' := q + 10 + 586 * N + 125 * v + 1) (hi' := q + 586 * N + 125 * v + 135) (by omega) (by omega)).join (kG.of hB (fun i hi => cM0_tag (by omega) (by omega) (by omega) (by omega) (by omega) (by omega)) (fun i hi => by have h1 := cAd_log (q := q) hi; omega))
  clear hz o hB hOn hi_
  refine W.widen (k := 124) (n := 1404) (by omega) (by omega) ?_
  refine k_putF (ci := 1) (C := RX1) (T := TX1) (ty := .object "ReplicaFiles$Log") S hin2 hK hS (Or.inl rfl) rfl hin tyX1 tyX1_ok nmX1 hO 8 (by decide) ⟨rfl, rfl, rfl, rfl⟩ rfl (hts (.fieldLink RX1 50 "ReplicaFiles$Client" "log" "LReplicaFiles$Log;") (cBc 49 rfl)) (by decide) rfl rfl dX1_init_74 (fun H17 locs hO_ hz o hS_ => ?_)
  replace hS := hS_
  clear hS_
  replace hO := hO_
  clear hO_
  replace hg := hg.put o (Or.inl (by omega))
  replace hsz : H17.size = q + 586 * N + 125 * v + 135 := by omega
  clear hz o
  refine W.widen (k := 124) (n := 1404) (by omega) (by omega) ?_
  refine W.vret hx hb hr (fun t ht hW => ⟨⟨(), rfl, trivial, by rw [ht]; omega, fun i hi => ?_⟩, hS.F ht⟩) hS.2.2 dX1_init_77 hlocks
  rw [ht]
  obtain ⟨hlv, h | h⟩ := hi
  · by_cases h40 : 40 ≤ i.1
    · exact (hg i (Or.inr ⟨hlv, h40, h.2.1, h.2.2⟩)).2
    · obtain ⟨tg, a, b⟩ := i
      obtain ⟨h1, h2, h3⟩ := h
      dsimp only at h1 h2 h3 h40
      subst h3
      by_cases h34 : tg ≤ 34
      · rcases (show tg = 30 ∨ tg = 31 ∨ tg = 32 ∨ tg = 33 ∨ tg = 34 by omega) with rfl | rfl | rfl | rfl | rfl <;> obtain rfl : b = 0 := hlv.2
        · exact hO.to (fun k hk => by
          rcases (show k = 0 ∨ k = 1 ∨ k = 2 ∨ k = 3 ∨ k = 4 ∨ k = 5 ∨ k = 6 ∨ k = 7 ∨ k = 8 ∨ k = 9 ∨ k = 10 ∨ k = 11 by omega) with rfl | rfl | rfl | rfl | rfl | rfl | rfl | rfl | rfl | rfl | rfl | rfl <;> first | rfl | simp [updV, gF, cF_X1, cM0, tyX1, defaultValue])
        · exact (hg (31, _, 0) (Or.inl (Or.inl (Or.inl (Or.inl (Or.inl (Or.inr rfl))))))).2
        · exact (hg (32, _, 0) (Or.inl (Or.inl (Or.inl (Or.inl (Or.inr rfl)))))).2
        · exact (hg (33, _, 0) (Or.inl (Or.inl (Or.inl (Or.inr rfl))))).2
        · exact (hg (34, _, 0) (Or.inl (Or.inl (Or.inr rfl)))).2
      · exfalso
        rcases (show tg = 35 ∨ tg = 36 ∨ tg = 37 ∨ tg = 38 ∨ tg = 39 by omega) with rfl | rfl | rfl | rfl | rfl <;> exact hlv
  · exact (hg i (Or.inl (Or.inr ⟨hlv, h⟩))).2
