-- L_link
theorem dL_link_0 : decode cL_link 0 = .ok (.aload 4, 2) := by decide +kernel
theorem dL_link_2 : decode cL_link 2 = .ok (.iconst 0, 1) := by decide +kernel
theorem dL_link_3 : decode cL_link 3 = .ok (.aload_n 0, 1) := by decide +kernel
theorem dL_link_4 : decode cL_link 4 = .ok (.iload_n 1, 1) := by decide +kernel
theorem dL_link_5 : decode cL_link 5 = .ok (.iload_n 2, 1) := by decide +kernel
theorem dL_link_6 : decode cL_link 6 = .ok (.iload_n 3, 1) := by decide +kernel
theorem dL_link_7 : decode cL_link 7 = .ok (.invokevirtual 7, 3) := by decide +kernel
theorem dL_link_10 : decode cL_link 10 = .ok (.ifCond .eq 7, 3) := by decide +kernel
theorem dL_link_13 : decode cL_link 13 = .ok (.lconst 1, 1) := by decide +kernel
theorem dL_link_14 : decode cL_link 14 = .ok (.goto 4, 3) := by decide +kernel
theorem dL_link_17 : decode cL_link 17 = .ok (.lconst 0, 1) := by decide +kernel
theorem dL_link_18 : decode cL_link 18 = .ok (.lastore, 1) := by decide +kernel
theorem dL_link_19 : decode cL_link 19 = .ok (.goto 7, 3) := by decide +kernel
theorem dL_link_22 : decode cL_link 22 = .ok (.astore 5, 2) := by decide +kernel
theorem dL_link_24 : decode cL_link 24 = .ok (.iconst 1, 1) := by decide +kernel
theorem dL_link_25 : decode cL_link 25 = .ok (.ireturn, 1) := by decide +kernel
theorem dL_link_26 : decode cL_link 26 = .ok (.iconst 0, 1) := by decide +kernel
theorem dL_link_27 : decode cL_link 27 = .ok (.ireturn, 1) := by decide +kernel
abbrev wmL_link : List Cond := .codeWith yL_link cL_link 6 (some .int) [(0, 19, 22, 13)] :: lBig
def f_L_link (N : Nat) (M : gM) (w : Int64) (a1 : Int32) (a2 : Int32) (a3 : Int32) : Option (Int32 × Int64 × gM) :=
  o1 (f_X10_link N M a1 a2 a3) (fun y => if y.1 = 0 then some (0, (if y.2.1 = 0 then (0 : Int64) else 1), y.2.2) else if y.1 = 1 then some (1, w, y.2.2) else none)
set_option maxHeartbeats 4000000 in
set_option maxRecDepth 100000 in
theorem t_L_link (l : Launch) (hst : l.stackTraces = false) (N : Nat) (D : va_G) (dA : Nat → ClassId) (A : gI → Nat) (hJ : gJ (cLive N) A) (tx : Nat → Nat) (sz : Nat) (cL : ClassId) (qo : Nat) (hqo : ¬ gA (cLive N) A qo ∧ qo < sz) (w : Int64) {M : gM} {a1 : Int32} {a2 : Int32} {a3 : Int32} {y : Int32 × Int64 × gM} (h : f_L_link N M w a1 a2 a3 = some y) : wM l yL_link wmL_link ({ frames := 8, cells := 3, slots := 18, locals := 136 } : Room) N D dA A tx sz cL qo w M [.ref (A (0, 0, 0)), .int a1, .int a2, .int a3, .ref qo] y 3 18 := by
  refine va_MetW (cc := cL_link) (maxL := 6) (ret := some .int) (hh := [(0, 19, 22, 13)]) (by decide) rfl ?_
  intro p e s m args below meth c s₁ B hml hv
  obtain ⟨rfl, hsz, hP, hK, hN, hT, hO, hAr, hNc⟩ := hv
  subst hsz
  generalize hargs : ([.ref (A (0, 0, 0)), .int a1, .int a2, .int a3, .ref qo] : List Value).toArray = args at B ⊢
  have S : CallFix p m c cL_link 6 s args wmL_link RL := ⟨B.exec, B.bytes, hml, findClass_of_methodNamed B.named, atoms_spec (ws := wmL_link) B.pre⟩
  obtain ⟨hx, hb, -, hown, hts⟩ := id S
  have hr := B.returns
  have hlocks := B.notSynchronized
  have htab : c.exceptionTable.toList = tableOf [(0, 19, 22, 13)] := vx_table (x := yL_link) B (hts _ List.mem_cons_self)
  have hcs := c_at (args := args) (s := s) (fun w h => hts w (List.mem_cons_of_mem _ (l_t (List.mem_append_right _ (List.mem_append_left _ h))))) hT.2.2.2
  have hl := lv_entry ([.ref (A (0, 0, 0)), .int a1, .int a2, .int a3, .ref qo]) (n := 6) (Nat.le_of_ble_eq_true rfl)
  rw [← hargs, lg_entry_eq, hargs]
  generalize (lg_sl ([.ref (A (0, 0, 0)), .int a1, .int a2, .int a3, .ref qo]) ++ List.replicate (6 - (lg_sl ([.ref (A (0, 0, 0)), .int a1, .int a2, .int a3, .ref qo])).length) Slot.unset).toArray = ls at hl ⊢
  have hl : lv_has ls 6 [(0, .ref (A (0, 0, 0))), (1, .int a1), (2, .int a2), (3, .int a3), (4, .ref qo)] := hl
  unfold f_L_link at h
  obtain ⟨z, hc, h⟩ := o1_e h
  refine lv_aload hx hb dL_link_0 (lv_at hl 4 rfl) ?_
  refine lv_iconst (v := (0 : Int32)) hx hb dL_link_2 (by decide) ?_
  refine lv_aload_n hx hb dL_link_3 rfl (lv_at hl 0 rfl) ?_
  refine lv_iload_n hx hb dL_link_4 rfl (lv_at hl 1 rfl) ?_
  refine lv_iload_n hx hb dL_link_5 rfl (lv_at hl 2 rfl) ?_
  refine lv_iload_n hx hb dL_link_6 rfl (lv_at hl 3 rfl) ?_
  refine w_i hqo hO (vx_runV (As := [.int a1, .int a2, .int a3]) (rest := [.int (0 : Int32), .ref qo]) (b := A (0, 0, 0)) S (t_X10_link l hst N D dA A hJ tx _ hc) (cwV 3 hts (lGV (lB 3 rfl) (lB 4 rfl) (lB 5 rfl) (lB 2 rfl) (lB 6 rfl)) rfl rfl rfl (by decide +kernel) ⟨Nat.le_of_ble_eq_true rfl, Nat.le_of_ble_eq_true rfl⟩) ⟨tPc.blind, g_recv (reg := fun _ => True) (H0 := s.heap) (locs := []) ⟨hK, hJ, fun _ _ => trivial⟩ ⟨hP, va_S.rf⟩ (cl_one N 0 (by decide)) rfl rfl, w_pre hP hK hN hT _⟩ rfl rfl hl.1 rfl (lv_room (m := m) (pc := 7) (ls := ls) (rest := [.int a3, .int a2, .int a1, .ref (A (0, 0, 0)), .int (0 : Int32), .ref qo]) (Nat.le_of_ble_eq_true rfl)) dL_link_7 ⟨Nat.le_of_ble_eq_true rfl, Nat.le_of_ble_eq_true rfl⟩) (fun hk ce q9 H locs Z hce hcv hcl => ?_) (fun hk H locs Z => ?_)
  · have h := if_f hk h
    by_cases h1 : z.1 = 1
    · have h := if_t h1 h
      have hy := Option.some.inj h
      subst hy
      rw [h1] at hcl
      refine vx_catch (E := cIO) (name := cIO) hown [] ⟨0, 19, 22, 13⟩ [] htab (fun z hz => by cases hz) (by decide) (by decide) (hts _ (lBc 0 rfl)) (hcs _ w_cI) hce hcv hcl ?_
      refine lv_astore (lv' := [(5, .ref q9), (0, .ref (A (0, 0, 0))), (1, .int a1), (2, .int a2), (3, .int a3), (4, .ref qo)]) hx hb dL_link_22 hl (by decide) rfl (fun ls hl => ?_)
      refine lv_iconst (v := (1 : Int32)) hx hb dL_link_24 (by decide) ?_
      exact w_ri S Z hr hlocks dL_link_25
    · have h := if_f h1 h
      cases h
  · have h := if_t hk h
    have hy := Option.some.inj h
    subst hy
    refine lv_if_eq (tgt := 17) hx hb dL_link_10 (by decide) (fun cz => ?_) (fun cz => ?_)
    · rw [if_pos cz]
      refine lv_lconst (v := (0 : Int64)) hx hb dL_link_17 (by decide) ?_
      refine w_last S hqo hAr Z dL_link_18 (fun H locs Z => ?_)
      refine lv_goto (tgt := 26) hx hb dL_link_19 (by decide) ?_
      refine lv_iconst (v := (0 : Int32)) hx hb dL_link_26 (by decide) ?_
      exact w_ri S Z hr hlocks dL_link_27
    · rw [if_neg cz]
      refine lv_lconst (v := (1 : Int64)) hx hb dL_link_13 (by decide) ?_
      refine lv_goto (tgt := 18) hx hb dL_link_14 (by decide) ?_
      refine w_last S hqo hAr Z dL_link_18 (fun H locs Z => ?_)
      refine lv_goto (tgt := 26) hx hb dL_link_19 (by decide) ?_
      refine lv_iconst (v := (0 : Int32)) hx hb dL_link_26 (by decide) ?_
      exact w_ri S Z hr hlocks dL_link_27
-- L_server
theorem dL_server_0 : decode cL_server 0 = .ok (.aload_n 3, 1) := by decide +kernel
theorem dL_server_1 : decode cL_server 1 = .ok (.iconst 0, 1) := by decide +kernel
theorem dL_server_2 : decode cL_server 2 = .ok (.aload_n 0, 1) := by decide +kernel
theorem dL_server_3 : decode cL_server 3 = .ok (.iload_n 1, 1) := by decide +kernel
theorem dL_server_4 : decode cL_server 4 = .ok (.iload_n 2, 1) := by decide +kernel
theorem dL_server_5 : decode cL_server 5 = .ok (.invokevirtual 15, 3) := by decide +kernel
theorem dL_server_8 : decode cL_server 8 = .ok (.ifCond .eq 7, 3) := by decide +kernel
theorem dL_server_11 : decode cL_server 11 = .ok (.lconst 1, 1) := by decide +kernel
theorem dL_server_12 : decode cL_server 12 = .ok (.goto 4, 3) := by decide +kernel
theorem dL_server_15 : decode cL_server 15 = .ok (.lconst 0, 1) := by decide +kernel
theorem dL_server_16 : decode cL_server 16 = .ok (.lastore, 1) := by decide +kernel
theorem dL_server_17 : decode cL_server 17 = .ok (.goto 7, 3) := by decide +kernel
theorem dL_server_20 : decode cL_server 20 = .ok (.astore 4, 2) := by decide +kernel
theorem dL_server_22 : decode cL_server 22 = .ok (.iconst 1, 1) := by decide +kernel
theorem dL_server_23 : decode cL_server 23 = .ok (.ireturn, 1) := by decide +kernel
theorem dL_server_24 : decode cL_server 24 = .ok (.iconst 0, 1) := by decide +kernel
theorem dL_server_25 : decode cL_server 25 = .ok (.ireturn, 1) := by decide +kernel
abbrev wmL_server : List Cond := .codeWith yL_server cL_server 5 (some .int) [(0, 17, 20, 13)] :: lBig
def f_L_server (N : Nat) (M : gM) (w : Int64) (a1 : Int32) (a2 : Int32) : Option (Int32 × Int64 × gM) :=
  o1 (f_X10_server N M a1 a2) (fun y => if y.1 = 0 then some (0, (if y.2.1 = 0 then (0 : Int64) else 1), y.2.2) else if y.1 = 1 then some (1, w, y.2.2) else none)
set_option maxHeartbeats 4000000 in
set_option maxRecDepth 100000 in
theorem t_L_server (l : Launch) (hst : l.stackTraces = false) (N : Nat) (D : va_G) (dA : Nat → ClassId) (A : gI → Nat) (hJ : gJ (cLive N) A) (tx : Nat → Nat) (sz : Nat) (cL : ClassId) (qo : Nat) (hqo : ¬ gA (cLive N) A qo ∧ qo < sz) (w : Int64) {M : gM} {a1 : Int32} {a2 : Int32} {y : Int32 × Int64 × gM} (h : f_L_server N M w a1 a2 = some y) : wM l yL_server wmL_server ({ frames := 8, cells := 1, slots := 6, locals := 134 } : Room) N D dA A tx sz cL qo w M [.ref (A (0, 0, 0)), .int a1, .int a2, .ref qo] y 1 6 := by
  refine va_MetW (cc := cL_server) (maxL := 5) (ret := some .int) (hh := [(0, 17, 20, 13)]) (by decide) rfl ?_
  intro p e s m args below meth c s₁ B hml hv
  obtain ⟨rfl, hsz, hP, hK, hN, hT, hO, hAr, hNc⟩ := hv
  subst hsz
  generalize hargs : ([.ref (A (0, 0, 0)), .int a1, .int a2, .ref qo] : List Value).toArray = args at B ⊢
  have S : CallFix p m c cL_server 5 s args wmL_server RL := ⟨B.exec, B.bytes, hml, findClass_of_methodNamed B.named, atoms_spec (ws := wmL_server) B.pre⟩
  obtain ⟨hx, hb, -, hown, hts⟩ := id S
  have hr := B.returns
  have hlocks := B.notSynchronized
  have htab : c.exceptionTable.toList = tableOf [(0, 17, 20, 13)] := vx_table (x := yL_server) B (hts _ List.mem_cons_self)
  have hcs := c_at (args := args) (s := s) (fun w h => hts w (List.mem_cons_of_mem _ (l_t (List.mem_append_right _ (List.mem_append_left _ h))))) hT.2.2.2
  have hl := lv_entry ([.ref (A (0, 0, 0)), .int a1, .int a2, .ref qo]) (n := 5) (Nat.le_of_ble_eq_true rfl)
  rw [← hargs, lg_entry_eq, hargs]
  generalize (lg_sl ([.ref (A (0, 0, 0)), .int a1, .int a2, .ref qo]) ++ List.replicate (5 - (lg_sl ([.ref (A (0, 0, 0)), .int a1, .int a2, .ref qo])).length) Slot.unset).toArray = ls at hl ⊢
  have hl : lv_has ls 5 [(0, .ref (A (0, 0, 0))), (1, .int a1), (2, .int a2), (3, .ref qo)] := hl
  unfold f_L_server at h
  obtain ⟨z, hc, h⟩ := o1_e h
  refine lv_aload_n hx hb dL_server_0 rfl (lv_at hl 3 rfl) ?_
  refine lv_iconst (v := (0 : Int32)) hx hb dL_server_1 (by decide) ?_
  refine lv_aload_n hx hb dL_server_2 rfl (lv_at hl 0 rfl) ?_
  refine lv_iload_n hx hb dL_server_3 rfl (lv_at hl 1 rfl) ?_
  refine lv_iload_n hx hb dL_server_4 rfl (lv_at hl 2 rfl) ?_
  refine w_i hqo hO (vx_runV (As := [.int a1, .int a2]) (rest := [.int (0 : Int32), .ref qo]) (b := A (0, 0, 0)) S (t_X10_server l hst N D dA A hJ tx _ hc) (cwV 2 hts (lGV (lB 7 rfl) (lB 8 rfl) (lB 9 rfl) (lB 2 rfl) (lB 10 rfl)) rfl rfl rfl (by decide +kernel) ⟨Nat.le_of_ble_eq_true rfl, Nat.le_of_ble_eq_true rfl⟩) ⟨tPc.blind, g_recv (reg := fun _ => True) (H0 := s.heap) (locs := []) ⟨hK, hJ, fun _ _ => trivial⟩ ⟨hP, va_S.rf⟩ (cl_one N 0 (by decide)) rfl rfl, w_pre hP hK hN hT _⟩ rfl rfl hl.1 rfl (lv_room (m := m) (pc := 5) (ls := ls) (rest := [.int a2, .int a1, .ref (A (0, 0, 0)), .int (0 : Int32), .ref qo]) (Nat.le_of_ble_eq_true rfl)) dL_server_5 ⟨Nat.le_of_ble_eq_true rfl, Nat.le_of_ble_eq_true rfl⟩) (fun hk ce q9 H locs Z hce hcv hcl => ?_) (fun hk H locs Z => ?_)
  · have h := if_f hk h
    by_cases h1 : z.1 = 1
    · have h := if_t h1 h
      have hy := Option.some.inj h
      subst hy
      rw [h1] at hcl
      refine vx_catch (E := cIO) (name := cIO) hown [] ⟨0, 17, 20, 13⟩ [] htab (fun z hz => by cases hz) (by decide) (by decide) (hts _ (lBc 0 rfl)) (hcs _ w_cI) hce hcv hcl ?_
      refine lv_astore (lv' := [(4, .ref q9), (0, .ref (A (0, 0, 0))), (1, .int a1), (2, .int a2), (3, .ref qo)]) hx hb dL_server_20 hl (by decide) rfl (fun ls hl => ?_)
      refine lv_iconst (v := (1 : Int32)) hx hb dL_server_22 (by decide) ?_
      exact w_ri S Z hr hlocks dL_server_23
    · have h := if_f h1 h
      cases h
  · have h := if_t hk h
    have hy := Option.some.inj h
    subst hy
    refine lv_if_eq (tgt := 15) hx hb dL_server_8 (by decide) (fun cz => ?_) (fun cz => ?_)
    · rw [if_pos cz]
      refine lv_lconst (v := (0 : Int64)) hx hb dL_server_15 (by decide) ?_
      refine w_last S hqo hAr Z dL_server_16 (fun H locs Z => ?_)
      refine lv_goto (tgt := 24) hx hb dL_server_17 (by decide) ?_
      refine lv_iconst (v := (0 : Int32)) hx hb dL_server_24 (by decide) ?_
      exact w_ri S Z hr hlocks dL_server_25
    · rw [if_neg cz]
      refine lv_lconst (v := (1 : Int64)) hx hb dL_server_11 (by decide) ?_
      refine lv_goto (tgt := 16) hx hb dL_server_12 (by decide) ?_
      refine w_last S hqo hAr Z dL_server_16 (fun H locs Z => ?_)
      refine lv_goto (tgt := 24) hx hb dL_server_17 (by decide) ?_
      refine lv_iconst (v := (0 : Int32)) hx hb dL_server_24 (by decide) ?_
      exact w_ri S Z hr hlocks dL_server_25
-- L_lose
theorem dL_lose_0 : decode cL_lose 0 = .ok (.aload_n 2, 1) := by decide +kernel
theorem dL_lose_1 : decode cL_lose 1 = .ok (.iconst 0, 1) := by decide +kernel
theorem dL_lose_2 : decode cL_lose 2 = .ok (.aload_n 0, 1) := by decide +kernel
theorem dL_lose_3 : decode cL_lose 3 = .ok (.iload_n 1, 1) := by decide +kernel
theorem dL_lose_4 : decode cL_lose 4 = .ok (.invokevirtual 19, 3) := by decide +kernel
theorem dL_lose_7 : decode cL_lose 7 = .ok (.ifCond .eq 7, 3) := by decide +kernel
theorem dL_lose_10 : decode cL_lose 10 = .ok (.lconst 1, 1) := by decide +kernel
theorem dL_lose_11 : decode cL_lose 11 = .ok (.goto 4, 3) := by decide +kernel
theorem dL_lose_14 : decode cL_lose 14 = .ok (.lconst 0, 1) := by decide +kernel
theorem dL_lose_15 : decode cL_lose 15 = .ok (.lastore, 1) := by decide +kernel
theorem dL_lose_16 : decode cL_lose 16 = .ok (.goto 6, 3) := by decide +kernel
theorem dL_lose_19 : decode cL_lose 19 = .ok (.astore_n 3, 1) := by decide +kernel
theorem dL_lose_20 : decode cL_lose 20 = .ok (.iconst 1, 1) := by decide +kernel
theorem dL_lose_21 : decode cL_lose 21 = .ok (.ireturn, 1) := by decide +kernel
theorem dL_lose_22 : decode cL_lose 22 = .ok (.iconst 0, 1) := by decide +kernel
theorem dL_lose_23 : decode cL_lose 23 = .ok (.ireturn, 1) := by decide +kernel
abbrev wmL_lose : List Cond := .codeWith yL_lose cL_lose 4 (some .int) [(0, 16, 19, 13)] :: lBig
def f_L_lose (N : Nat) (M : gM) (w : Int64) (a1 : Int32) : Option (Int32 × Int64 × gM) :=
  o1 (f_X10_lose N M a1) (fun y => if y.1 = 0 then some (0, (if y.2.1 = 0 then (0 : Int64) else 1), y.2.2) else if y.1 = 1 then some (1, w, y.2.2) else none)
set_option maxHeartbeats 4000000 in
set_option maxRecDepth 100000 in
theorem t_L_lose (l : Launch) (hst : l.stackTraces = false) (N : Nat) (D : va_G) (dA : Nat → ClassId) (A : gI → Nat) (hJ : gJ (cLive N) A) (tx : Nat → Nat) (sz : Nat) (cL : ClassId) (qo : Nat) (hqo : ¬ gA (cLive N) A qo ∧ qo < sz) (w : Int64) {M : gM} {a1 : Int32} {y : Int32 × Int64 × gM} (h : f_L_lose N M w a1 = some y) : wM l yL_lose wmL_lose ({ frames := 8, cells := 1, slots := 6, locals := 133 } : Room) N D dA A tx sz cL qo w M [.ref (A (0, 0, 0)), .int a1, .ref qo] y 1 6 := by
  refine va_MetW (cc := cL_lose) (maxL := 4) (ret := some .int) (hh := [(0, 16, 19, 13)]) (by decide) rfl ?_
  intro p e s m args below meth c s₁ B hml hv
  obtain ⟨rfl, hsz, hP, hK, hN, hT, hO, hAr, hNc⟩ := hv
  subst hsz
  generalize hargs : ([.ref (A (0, 0, 0)), .int a1, .ref qo] : List Value).toArray = args at B ⊢
  have S : CallFix p m c cL_lose 4 s args wmL_lose RL := ⟨B.exec, B.bytes, hml, findClass_of_methodNamed B.named, atoms_spec (ws := wmL_lose) B.pre⟩
  obtain ⟨hx, hb, -, hown, hts⟩ := id S
  have hr := B.returns
  have hlocks := B.notSynchronized
  have htab : c.exceptionTable.toList = tableOf [(0, 16, 19, 13)] := vx_table (x := yL_lose) B (hts _ List.mem_cons_self)
  have hcs := c_at (args := args) (s := s) (fun w h => hts w (List.mem_cons_of_mem _ (l_t (List.mem_append_right _ (List.mem_append_left _ h))))) hT.2.2.2
  have hl := lv_entry ([.ref (A (0, 0, 0)), .int a1, .ref qo]) (n := 4) (Nat.le_of_ble_eq_true rfl)
  rw [← hargs, lg_entry_eq, hargs]
  generalize (lg_sl ([.ref (A (0, 0, 0)), .int a1, .ref qo]) ++ List.replicate (4 - (lg_sl ([.ref (A (0, 0, 0)), .int a1, .ref qo])).length) Slot.unset).toArray = ls at hl ⊢
  have hl : lv_has ls 4 [(0, .ref (A (0, 0, 0))), (1, .int a1), (2, .ref qo)] := hl
  unfold f_L_lose at h
  obtain ⟨z, hc, h⟩ := o1_e h
  refine lv_aload_n hx hb dL_lose_0 rfl (lv_at hl 2 rfl) ?_
  refine lv_iconst (v := (0 : Int32)) hx hb dL_lose_1 (by decide) ?_
  refine lv_aload_n hx hb dL_lose_2 rfl (lv_at hl 0 rfl) ?_
  refine lv_iload_n hx hb dL_lose_3 rfl (lv_at hl 1 rfl) ?_
  refine w_i hqo hO (vx_runV (As := [.int a1]) (rest := [.int (0 : Int32), .ref qo]) (b := A (0, 0, 0)) S (t_X10_lose l hst N D dA A hJ tx _ hc) (cwV 1 hts (lGV (lB 11 rfl) (lB 12 rfl) (lB 13 rfl) (lB 2 rfl) (lB 14 rfl)) rfl rfl rfl (by decide +kernel) ⟨Nat.le_of_ble_eq_true rfl, Nat.le_of_ble_eq_true rfl⟩) ⟨tPc.blind, g_recv (reg := fun _ => True) (H0 := s.heap) (locs := []) ⟨hK, hJ, fun _ _ => trivial⟩ ⟨hP, va_S.rf⟩ (cl_one N 0 (by decide)) rfl rfl, w_pre hP hK hN hT _⟩ rfl rfl hl.1 rfl (lv_room (m := m) (pc := 4) (ls := ls) (rest := [.int a1, .ref (A (0, 0, 0)), .int (0 : Int32), .ref qo]) (Nat.le_of_ble_eq_true rfl)) dL_lose_4 ⟨Nat.le_of_ble_eq_true rfl, Nat.le_of_ble_eq_true rfl⟩) (fun hk ce q9 H locs Z hce hcv hcl => ?_) (fun hk H locs Z => ?_)
  · have h := if_f hk h
    by_cases h1 : z.1 = 1
    · have h := if_t h1 h
      have hy := Option.some.inj h
      subst hy
      rw [h1] at hcl
      refine vx_catch (E := cIO) (name := cIO) hown [] ⟨0, 16, 19, 13⟩ [] htab (fun z hz => by cases hz) (by decide) (by decide) (hts _ (lBc 0 rfl)) (hcs _ w_cI) hce hcv hcl ?_
      refine lv_astore_n (lv' := [(3, .ref q9), (0, .ref (A (0, 0, 0))), (1, .int a1), (2, .ref qo)]) hx hb dL_lose_19 rfl hl (by decide) rfl (fun ls hl => ?_)
      refine lv_iconst (v := (1 : Int32)) hx hb dL_lose_20 (by decide) ?_
      exact w_ri S Z hr hlocks dL_lose_21
    · have h := if_f h1 h
      cases h
  · have h := if_t hk h
    have hy := Option.some.inj h
    subst hy
    refine lv_if_eq (tgt := 14) hx hb dL_lose_7 (by decide) (fun cz => ?_) (fun cz => ?_)
    · rw [if_pos cz]
      refine lv_lconst (v := (0 : Int64)) hx hb dL_lose_14 (by decide) ?_
      refine w_last S hqo hAr Z dL_lose_15 (fun H locs Z => ?_)
      refine lv_goto (tgt := 22) hx hb dL_lose_16 (by decide) ?_
      refine lv_iconst (v := (0 : Int32)) hx hb dL_lose_22 (by decide) ?_
      exact w_ri S Z hr hlocks dL_lose_23
    · rw [if_neg cz]
      refine lv_lconst (v := (1 : Int64)) hx hb dL_lose_10 (by decide) ?_
      refine lv_goto (tgt := 15) hx hb dL_lose_11 (by decide) ?_
      refine w_last S hqo hAr Z dL_lose_15 (fun H locs Z => ?_)
      refine lv_goto (tgt := 22) hx hb dL_lose_16 (by decide) ?_
      refine lv_iconst (v := (0 : Int32)) hx hb dL_lose_22 (by decide) ?_
      exact w_ri S Z hr hlocks dL_lose_23
-- L_priority
theorem dL_priority_0 : decode cL_priority 0 = .ok (.aload 4, 2) := by decide +kernel
theorem dL_priority_2 : decode cL_priority 2 = .ok (.iconst 0, 1) := by decide +kernel
theorem dL_priority_3 : decode cL_priority 3 = .ok (.aload_n 0, 1) := by decide +kernel
theorem dL_priority_4 : decode cL_priority 4 = .ok (.iload_n 1, 1) := by decide +kernel
theorem dL_priority_5 : decode cL_priority 5 = .ok (.iload_n 2, 1) := by decide +kernel
theorem dL_priority_6 : decode cL_priority 6 = .ok (.iload_n 3, 1) := by decide +kernel
theorem dL_priority_7 : decode cL_priority 7 = .ok (.invokevirtual 23, 3) := by decide +kernel
theorem dL_priority_10 : decode cL_priority 10 = .ok (.i2l, 1) := by decide +kernel
theorem dL_priority_11 : decode cL_priority 11 = .ok (.lastore, 1) := by decide +kernel
theorem dL_priority_12 : decode cL_priority 12 = .ok (.goto 11, 3) := by decide +kernel
theorem dL_priority_15 : decode cL_priority 15 = .ok (.astore 5, 2) := by decide +kernel
theorem dL_priority_17 : decode cL_priority 17 = .ok (.iconst 1, 1) := by decide +kernel
theorem dL_priority_18 : decode cL_priority 18 = .ok (.ireturn, 1) := by decide +kernel
theorem dL_priority_19 : decode cL_priority 19 = .ok (.astore 5, 2) := by decide +kernel
theorem dL_priority_21 : decode cL_priority 21 = .ok (.iconst 2, 1) := by decide +kernel
theorem dL_priority_22 : decode cL_priority 22 = .ok (.ireturn, 1) := by decide +kernel
theorem dL_priority_23 : decode cL_priority 23 = .ok (.iconst 0, 1) := by decide +kernel
theorem dL_priority_24 : decode cL_priority 24 = .ok (.ireturn, 1) := by decide +kernel
abbrev wmL_priority : List Cond := .codeWith yL_priority cL_priority 6 (some .int) [(0, 12, 15, 13), (0, 12, 19, 27)] :: lBig
def f_L_priority (N : Nat) (M : gM) (w : Int64) (a1 : Int32) (a2 : Int32) (a3 : Int32) : Option (Int32 × Int64 × gM) :=
  o1 (f_X10_priority N M a1 a2 a3) (fun y => if y.1 = 0 then some (0, y.2.1.toInt64, y.2.2) else if y.1 = 1 then some (1, w, y.2.2) else if y.1 = 2 then some (2, w, y.2.2) else none)
set_option maxHeartbeats 4000000 in
set_option maxRecDepth 100000 in
theorem t_L_priority (l : Launch) (hst : l.stackTraces = false) (N : Nat) (D : va_G) (dA : Nat → ClassId) (A : gI → Nat) (hJ : gJ (cLive N) A) (tx : Nat → Nat) (sz : Nat) (cL : ClassId) (qo : Nat) (hqo : ¬ gA (cLive N) A qo ∧ qo < sz) (w : Int64) {M : gM} {a1 : Int32} {a2 : Int32} {a3 : Int32} {y : Int32 × Int64 × gM} (h : f_L_priority N M w a1 a2 a3 = some y) : wM l yL_priority wmL_priority ({ frames := 8, cells := 3, slots := 18, locals := 135 } : Room) N D dA A tx sz cL qo w M [.ref (A (0, 0, 0)), .int a1, .int a2, .int a3, .ref qo] y 3 18 := by
  refine va_MetW (cc := cL_priority) (maxL := 6) (ret := some .int) (hh := [(0, 12, 15, 13), (0, 12, 19, 27)]) (by decide) rfl ?_
  intro p e s m args below meth c s₁ B hml hv
  obtain ⟨rfl, hsz, hP, hK, hN, hT, hO, hAr, hNc⟩ := hv
  subst hsz
  generalize hargs : ([.ref (A (0, 0, 0)), .int a1, .int a2, .int a3, .ref qo] : List Value).toArray = args at B ⊢
  have S : CallFix p m c cL_priority 6 s args wmL_priority RL := ⟨B.exec, B.bytes, hml, findClass_of_methodNamed B.named, atoms_spec (ws := wmL_priority) B.pre⟩
  obtain ⟨hx, hb, -, hown, hts⟩ := id S
  have hr := B.returns
  have hlocks := B.notSynchronized
  have htab : c.exceptionTable.toList = tableOf [(0, 12, 15, 13), (0, 12, 19, 27)] := vx_table (x := yL_priority) B (hts _ List.mem_cons_self)
  have hcs := c_at (args := args) (s := s) (fun w h => hts w (List.mem_cons_of_mem _ (l_t (List.mem_append_right _ (List.mem_append_left _ h))))) hT.2.2.2
  have hl := lv_entry ([.ref (A (0, 0, 0)), .int a1, .int a2, .int a3, .ref qo]) (n := 6) (Nat.le_of_ble_eq_true rfl)
  rw [← hargs, lg_entry_eq, hargs]
  generalize (lg_sl ([.ref (A (0, 0, 0)), .int a1, .int a2, .int a3, .ref qo]) ++ List.replicate (6 - (lg_sl ([.ref (A (0, 0, 0)), .int a1, .int a2, .int a3, .ref qo])).length) Slot.unset).toArray = ls at hl ⊢
  have hl : lv_has ls 6 [(0, .ref (A (0, 0, 0))), (1, .int a1), (2, .int a2), (3, .int a3), (4, .ref qo)] := hl
  unfold f_L_priority at h
  obtain ⟨z, hc, h⟩ := o1_e h
  refine lv_aload hx hb dL_priority_0 (lv_at hl 4 rfl) ?_
  refine lv_iconst (v := (0 : Int32)) hx hb dL_priority_2 (by decide) ?_
  refine lv_aload_n hx hb dL_priority_3 rfl (lv_at hl 0 rfl) ?_
  refine lv_iload_n hx hb dL_priority_4 rfl (lv_at hl 1 rfl) ?_
  refine lv_iload_n hx hb dL_priority_5 rfl (lv_at hl 2 rfl) ?_
  refine lv_iload_n hx hb dL_priority_6 rfl (lv_at hl 3 rfl) ?_
  refine w_i hqo hO (vx_runV (As := [.int a1, .int a2, .int a3]) (rest := [.int (0 : Int32), .ref qo]) (b := A (0, 0, 0)) S (t_X10_priority l hst N D dA A hJ tx _ hc) (cwV 3 hts (lGV (lB 15 rfl) (lB 16 rfl) (lB 17 rfl) (lB 2 rfl) (lB 18 rfl)) rfl rfl rfl (by decide +kernel) ⟨Nat.le_of_ble_eq_true rfl, Nat.le_of_ble_eq_true rfl⟩) ⟨tPc.blind, g_recv (reg := fun _ => True) (H0 := s.heap) (locs := []) ⟨hK, hJ, fun _ _ => trivial⟩ ⟨hP, va_S.rf⟩ (cl_one N 0 (by decide)) rfl rfl, w_pre hP hK hN hT _⟩ rfl rfl hl.1 rfl (lv_room (m := m) (pc := 7) (ls := ls) (rest := [.int a3, .int a2, .int a1, .ref (A (0, 0, 0)), .int (0 : Int32), .ref qo]) (Nat.le_of_ble_eq_true rfl)) dL_priority_7 ⟨Nat.le_of_ble_eq_true rfl, Nat.le_of_ble_eq_true rfl⟩) (fun hk ce q9 H locs Z hce hcv hcl => ?_) (fun hk H locs Z => ?_)
  · have h := if_f hk h
    by_cases h1 : z.1 = 1
    · have h := if_t h1 h
      have hy := Option.some.inj h
      subst hy
      rw [h1] at hcl
      refine vx_catch (E := cIO) (name := cIO) hown [] ⟨0, 12, 15, 13⟩ [⟨0, 12, 19, 27⟩] htab (fun z hz => by cases hz) (by decide) (by decide) (hts _ (lBc 0 rfl)) (hcs _ w_cI) hce hcv hcl ?_
      refine lv_astore (lv' := [(5, .ref q9), (0, .ref (A (0, 0, 0))), (1, .int a1), (2, .int a2), (3, .int a3), (4, .ref qo)]) hx hb dL_priority_15 hl (by decide) rfl (fun ls hl => ?_)
      refine lv_iconst (v := (1 : Int32)) hx hb dL_priority_17 (by decide) ?_
      exact w_ri S Z hr hlocks dL_priority_18
    · have h := if_f h1 h
      by_cases h2 : z.1 = 2
      · have h := if_t h2 h
        have hy := Option.some.inj h
        subst hy
        rw [h2] at hcl
        refine vx_catch (E := cIA) (name := cIA) hown [⟨0, 12, 15, 13⟩] ⟨0, 12, 19, 27⟩ [] htab (fun z hz => by rw [List.mem_singleton.mp hz]; exact Or.inr ⟨by decide, cIO, hts _ (lBc 0 rfl), hNc⟩) (by decide) (by decide) (hts _ (lBc 1 rfl)) (hcs _ w_cA) hce hcv hcl ?_
        refine lv_astore (lv' := [(5, .ref q9), (0, .ref (A (0, 0, 0))), (1, .int a1), (2, .int a2), (3, .int a3), (4, .ref qo)]) hx hb dL_priority_19 hl (by decide) rfl (fun ls hl => ?_)
        refine lv_iconst (v := (2 : Int32)) hx hb dL_priority_21 (by decide) ?_
        exact w_ri S Z hr hlocks dL_priority_22
      · have h := if_f h2 h
        cases h
  · have h := if_t hk h
    have hy := Option.some.inj h
    subst hy
    refine lv_i2l hx hb dL_priority_10 rfl ?_
    refine w_last S hqo hAr Z dL_priority_11 (fun H locs Z => ?_)
    refine lv_goto (tgt := 23) hx hb dL_priority_12 (by decide) ?_
    refine lv_iconst (v := (0 : Int32)) hx hb dL_priority_23 (by decide) ?_
    exact w_ri S Z hr hlocks dL_priority_24
-- L_find
theorem dL_find_0 : decode cL_find 0 = .ok (.aload 4, 2) := by decide +kernel
theorem dL_find_2 : decode cL_find 2 = .ok (.iconst 0, 1) := by decide +kernel
theorem dL_find_3 : decode cL_find 3 = .ok (.aload_n 0, 1) := by decide +kernel
theorem dL_find_4 : decode cL_find 4 = .ok (.iload_n 1, 1) := by decide +kernel
theorem dL_find_5 : decode cL_find 5 = .ok (.iload_n 2, 1) := by decide +kernel
theorem dL_find_6 : decode cL_find 6 = .ok (.iload_n 3, 1) := by decide +kernel
theorem dL_find_7 : decode cL_find 7 = .ok (.invokevirtual 29, 3) := by decide +kernel
theorem dL_find_10 : decode cL_find 10 = .ok (.lastore, 1) := by decide +kernel
theorem dL_find_11 : decode cL_find 11 = .ok (.goto 11, 3) := by decide +kernel
theorem dL_find_14 : decode cL_find 14 = .ok (.astore 5, 2) := by decide +kernel
theorem dL_find_16 : decode cL_find 16 = .ok (.iconst 1, 1) := by decide +kernel
theorem dL_find_17 : decode cL_find 17 = .ok (.ireturn, 1) := by decide +kernel
theorem dL_find_18 : decode cL_find 18 = .ok (.astore 5, 2) := by decide +kernel
theorem dL_find_20 : decode cL_find 20 = .ok (.iconst 2, 1) := by decide +kernel
theorem dL_find_21 : decode cL_find 21 = .ok (.ireturn, 1) := by decide +kernel
theorem dL_find_22 : decode cL_find 22 = .ok (.iconst 0, 1) := by decide +kernel
theorem dL_find_23 : decode cL_find 23 = .ok (.ireturn, 1) := by decide +kernel
abbrev wmL_find : List Cond := .codeWith yL_find cL_find 6 (some .int) [(0, 11, 14, 13), (0, 11, 18, 27)] :: lBig
def f_L_find (N : Nat) (M : gM) (w : Int64) (a1 : Int32) (a2 : Int32) (a3 : Int32) : Option (Int32 × Int64 × gM) :=
  o1 (f_X10_find N M a1 a2 a3) (fun y => if y.1 = 0 then some (0, y.2.1, y.2.2) else if y.1 = 1 then some (1, w, y.2.2) else if y.1 = 2 then some (2, w, y.2.2) else none)
set_option maxHeartbeats 4000000 in
set_option maxRecDepth 100000 in
theorem t_L_find (l : Launch) (hst : l.stackTraces = false) (N : Nat) (D : va_G) (dA : Nat → ClassId) (A : gI → Nat) (hJ : gJ (cLive N) A) (tx : Nat → Nat) (sz : Nat) (cL : ClassId) (qo : Nat) (hqo : ¬ gA (cLive N) A qo ∧ qo < sz) (w : Int64) {M : gM} {a1 : Int32} {a2 : Int32} {a3 : Int32} {y : Int32 × Int64 × gM} (h : f_L_find N M w a1 a2 a3 = some y) : wM l yL_find wmL_find ({ frames := 8, cells := 3, slots := 18, locals := 194 } : Room) N D dA A tx sz cL qo w M [.ref (A (0, 0, 0)), .int a1, .int a2, .int a3, .ref qo] y 3 18 := by
  refine va_MetW (cc := cL_find) (maxL := 6) (ret := some .int) (hh := [(0, 11, 14, 13), (0, 11, 18, 27)]) (by decide) rfl ?_
  intro p e s m args below meth c s₁ B hml hv
  obtain ⟨rfl, hsz, hP, hK, hN, hT, hO, hAr, hNc⟩ := hv
  subst hsz
  generalize hargs : ([.ref (A (0, 0, 0)), .int a1, .int a2, .int a3, .ref qo] : List Value).toArray = args at B ⊢
  have S : CallFix p m c cL_find 6 s args wmL_find RL := ⟨B.exec, B.bytes, hml, findClass_of_methodNamed B.named, atoms_spec (ws := wmL_find) B.pre⟩
  obtain ⟨hx, hb, -, hown, hts⟩ := id S
  have hr := B.returns
  have hlocks := B.notSynchronized
  have htab : c.exceptionTable.toList = tableOf [(0, 11, 14, 13), (0, 11, 18, 27)] := vx_table (x := yL_find) B (hts _ List.mem_cons_self)
  have hcs := c_at (args := args) (s := s) (fun w h => hts w (List.mem_cons_of_mem _ (l_t (List.mem_append_right _ (List.mem_append_left _ h))))) hT.2.2.2
  have hl := lv_entry ([.ref (A (0, 0, 0)), .int a1, .int a2, .int a3, .ref qo]) (n := 6) (Nat.le_of_ble_eq_true rfl)
  rw [← hargs, lg_entry_eq, hargs]
  generalize (lg_sl ([.ref (A (0, 0, 0)), .int a1, .int a2, .int a3, .ref qo]) ++ List.replicate (6 - (lg_sl ([.ref (A (0, 0, 0)), .int a1, .int a2, .int a3, .ref qo])).length) Slot.unset).toArray = ls at hl ⊢
  have hl : lv_has ls 6 [(0, .ref (A (0, 0, 0))), (1, .int a1), (2, .int a2), (3, .int a3), (4, .ref qo)] := hl
  unfold f_L_find at h
  obtain ⟨z, hc, h⟩ := o1_e h
  refine lv_aload hx hb dL_find_0 (lv_at hl 4 rfl) ?_
  refine lv_iconst (v := (0 : Int32)) hx hb dL_find_2 (by decide) ?_
  refine lv_aload_n hx hb dL_find_3 rfl (lv_at hl 0 rfl) ?_
  refine lv_iload_n hx hb dL_find_4 rfl (lv_at hl 1 rfl) ?_
  refine lv_iload_n hx hb dL_find_5 rfl (lv_at hl 2 rfl) ?_
  refine lv_iload_n hx hb dL_find_6 rfl (lv_at hl 3 rfl) ?_
  refine w_l hqo hO (vx_runV (As := [.int a1, .int a2, .int a3]) (rest := [.int (0 : Int32), .ref qo]) (b := A (0, 0, 0)) S (t_X10_find l hst N D dA A hJ tx _ hc) (cwV 3 hts (lGV (lB 19 rfl) (lB 20 rfl) (lB 21 rfl) (lB 2 rfl) (lB 22 rfl)) rfl rfl rfl (by decide +kernel) ⟨Nat.le_of_ble_eq_true rfl, Nat.le_of_ble_eq_true rfl⟩) ⟨tPc.blind, g_recv (reg := fun _ => True) (H0 := s.heap) (locs := []) ⟨hK, hJ, fun _ _ => trivial⟩ ⟨hP, va_S.rf⟩ (cl_one N 0 (by decide)) rfl rfl, w_pre hP hK hN hT _⟩ rfl rfl hl.1 rfl (lv_room (m := m) (pc := 7) (ls := ls) (rest := [.int a3, .int a2, .int a1, .ref (A (0, 0, 0)), .int (0 : Int32), .ref qo]) (Nat.le_of_ble_eq_true rfl)) dL_find_7 ⟨Nat.le_of_ble_eq_true rfl, Nat.le_of_ble_eq_true rfl⟩) (fun hk ce q9 H locs Z hce hcv hcl => ?_) (fun hk H locs Z => ?_)
  · have h := if_f hk h
    by_cases h1 : z.1 = 1
    · have h := if_t h1 h
      have hy := Option.some.inj h
      subst hy
      rw [h1] at hcl
      refine vx_catch (E := cIO) (name := cIO) hown [] ⟨0, 11, 14, 13⟩ [⟨0, 11, 18, 27⟩] htab (fun z hz => by cases hz) (by decide) (by decide) (hts _ (lBc 0 rfl)) (hcs _ w_cI) hce hcv hcl ?_
      refine lv_astore (lv' := [(5, .ref q9), (0, .ref (A (0, 0, 0))), (1, .int a1), (2, .int a2), (3, .int a3), (4, .ref qo)]) hx hb dL_find_14 hl (by decide) rfl (fun ls hl => ?_)
      refine lv_iconst (v := (1 : Int32)) hx hb dL_find_16 (by decide) ?_
      exact w_ri S Z hr hlocks dL_find_17
    · have h := if_f h1 h
      by_cases h2 : z.1 = 2
      · have h := if_t h2 h
        have hy := Option.some.inj h
        subst hy
        rw [h2] at hcl
        refine vx_catch (E := cIA) (name := cIA) hown [⟨0, 11, 14, 13⟩] ⟨0, 11, 18, 27⟩ [] htab (fun z hz => by rw [List.mem_singleton.mp hz]; exact Or.inr ⟨by decide, cIO, hts _ (lBc 0 rfl), hNc⟩) (by decide) (by decide) (hts _ (lBc 1 rfl)) (hcs _ w_cA) hce hcv hcl ?_
        refine lv_astore (lv' := [(5, .ref q9), (0, .ref (A (0, 0, 0))), (1, .int a1), (2, .int a2), (3, .int a3), (4, .ref qo)]) hx hb dL_find_18 hl (by decide) rfl (fun ls hl => ?_)
        refine lv_iconst (v := (2 : Int32)) hx hb dL_find_20 (by decide) ?_
        exact w_ri S Z hr hlocks dL_find_21
      · have h := if_f h2 h
        cases h
  · have h := if_t hk h
    have hy := Option.some.inj h
    subst hy
    refine w_last S hqo hAr Z dL_find_10 (fun H locs Z => ?_)
    refine lv_goto (tgt := 22) hx hb dL_find_11 (by decide) ?_
    refine lv_iconst (v := (0 : Int32)) hx hb dL_find_22 (by decide) ?_
    exact w_ri S Z hr hlocks dL_find_23
-- L_read
theorem dL_read_0 : decode cL_read 0 = .ok (.aload_n 3, 1) := by decide +kernel
theorem dL_read_1 : decode cL_read 1 = .ok (.iconst 0, 1) := by decide +kernel
theorem dL_read_2 : decode cL_read 2 = .ok (.aload_n 0, 1) := by decide +kernel
theorem dL_read_3 : decode cL_read 3 = .ok (.iload_n 1, 1) := by decide +kernel
theorem dL_read_4 : decode cL_read 4 = .ok (.iload_n 2, 1) := by decide +kernel
theorem dL_read_5 : decode cL_read 5 = .ok (.invokevirtual 33, 3) := by decide +kernel
theorem dL_read_8 : decode cL_read 8 = .ok (.lastore, 1) := by decide +kernel
theorem dL_read_9 : decode cL_read 9 = .ok (.goto 7, 3) := by decide +kernel
theorem dL_read_12 : decode cL_read 12 = .ok (.astore 4, 2) := by decide +kernel
theorem dL_read_14 : decode cL_read 14 = .ok (.iconst 1, 1) := by decide +kernel
theorem dL_read_15 : decode cL_read 15 = .ok (.ireturn, 1) := by decide +kernel
theorem dL_read_16 : decode cL_read 16 = .ok (.iconst 0, 1) := by decide +kernel
theorem dL_read_17 : decode cL_read 17 = .ok (.ireturn, 1) := by decide +kernel
abbrev wmL_read : List Cond := .codeWith yL_read cL_read 5 (some .int) [(0, 9, 12, 13)] :: lBig
def f_L_read (N : Nat) (M : gM) (w : Int64) (a1 : Int32) (a2 : Int32) : Option (Int32 × Int64 × gM) :=
  o1 (f_X10_read N M a1 a2) (fun y => if y.1 = 0 then some (0, y.2.1, y.2.2) else if y.1 = 1 then some (1, w, y.2.2) else none)
set_option maxHeartbeats 4000000 in
set_option maxRecDepth 100000 in
theorem t_L_read (l : Launch) (hst : l.stackTraces = false) (N : Nat) (D : va_G) (dA : Nat → ClassId) (A : gI → Nat) (hJ : gJ (cLive N) A) (tx : Nat → Nat) (sz : Nat) (cL : ClassId) (qo : Nat) (hqo : ¬ gA (cLive N) A qo ∧ qo < sz) (w : Int64) {M : gM} {a1 : Int32} {a2 : Int32} {y : Int32 × Int64 × gM} (h : f_L_read N M w a1 a2 = some y) : wM l yL_read wmL_read ({ frames := 8, cells := 2, slots := 12, locals := 193 } : Room) N D dA A tx sz cL qo w M [.ref (A (0, 0, 0)), .int a1, .int a2, .ref qo] y 2 12 := by
  refine va_MetW (cc := cL_read) (maxL := 5) (ret := some .int) (hh := [(0, 9, 12, 13)]) (by decide) rfl ?_
  intro p e s m args below meth c s₁ B hml hv
  obtain ⟨rfl, hsz, hP, hK, hN, hT, hO, hAr, hNc⟩ := hv
  subst hsz
  generalize hargs : ([.ref (A (0, 0, 0)), .int a1, .int a2, .ref qo] : List Value).toArray = args at B ⊢
  have S : CallFix p m c cL_read 5 s args wmL_read RL := ⟨B.exec, B.bytes, hml, findClass_of_methodNamed B.named, atoms_spec (ws := wmL_read) B.pre⟩
  obtain ⟨hx, hb, -, hown, hts⟩ := id S
  have hr := B.returns
  have hlocks := B.notSynchronized
  have htab : c.exceptionTable.toList = tableOf [(0, 9, 12, 13)] := vx_table (x := yL_read) B (hts _ List.mem_cons_self)
  have hcs := c_at (args := args) (s := s) (fun w h => hts w (List.mem_cons_of_mem _ (l_t (List.mem_append_right _ (List.mem_append_left _ h))))) hT.2.2.2
  have hl := lv_entry ([.ref (A (0, 0, 0)), .int a1, .int a2, .ref qo]) (n := 5) (Nat.le_of_ble_eq_true rfl)
  rw [← hargs, lg_entry_eq, hargs]
  generalize (lg_sl ([.ref (A (0, 0, 0)), .int a1, .int a2, .ref qo]) ++ List.replicate (5 - (lg_sl ([.ref (A (0, 0, 0)), .int a1, .int a2, .ref qo])).length) Slot.unset).toArray = ls at hl ⊢
  have hl : lv_has ls 5 [(0, .ref (A (0, 0, 0))), (1, .int a1), (2, .int a2), (3, .ref qo)] := hl
  unfold f_L_read at h
  obtain ⟨z, hc, h⟩ := o1_e h
  refine lv_aload_n hx hb dL_read_0 rfl (lv_at hl 3 rfl) ?_
  refine lv_iconst (v := (0 : Int32)) hx hb dL_read_1 (by decide) ?_
  refine lv_aload_n hx hb dL_read_2 rfl (lv_at hl 0 rfl) ?_
  refine lv_iload_n hx hb dL_read_3 rfl (lv_at hl 1 rfl) ?_
  refine lv_iload_n hx hb dL_read_4 rfl (lv_at hl 2 rfl) ?_
  refine w_l hqo hO (vx_runV (As := [.int a1, .int a2]) (rest := [.int (0 : Int32), .ref qo]) (b := A (0, 0, 0)) S (t_X10_read l hst N D dA A hJ tx _ hc) (cwV 2 hts (lGV (lB 23 rfl) (lB 24 rfl) (lB 25 rfl) (lB 2 rfl) (lB 26 rfl)) rfl rfl rfl (by decide +kernel) ⟨Nat.le_of_ble_eq_true rfl, Nat.le_of_ble_eq_true rfl⟩) ⟨tPc.blind, g_recv (reg := fun _ => True) (H0 := s.heap) (locs := []) ⟨hK, hJ, fun _ _ => trivial⟩ ⟨hP, va_S.rf⟩ (cl_one N 0 (by decide)) rfl rfl, w_pre hP hK hN hT _⟩ rfl rfl hl.1 rfl (lv_room (m := m) (pc := 5) (ls := ls) (rest := [.int a2, .int a1, .ref (A (0, 0, 0)), .int (0 : Int32), .ref qo]) (Nat.le_of_ble_eq_true rfl)) dL_read_5 ⟨Nat.le_of_ble_eq_true rfl, Nat.le_of_ble_eq_true rfl⟩) (fun hk ce q9 H locs Z hce hcv hcl => ?_) (fun hk H locs Z => ?_)
  · have h := if_f hk h
    by_cases h1 : z.1 = 1
    · have h := if_t h1 h
      have hy := Option.some.inj h
      subst hy
      rw [h1] at hcl
      refine vx_catch (E := cIO) (name := cIO) hown [] ⟨0, 9, 12, 13⟩ [] htab (fun z hz => by cases hz) (by decide) (by decide) (hts _ (lBc 0 rfl)) (hcs _ w_cI) hce hcv hcl ?_
      refine lv_astore (lv' := [(4, .ref q9), (0, .ref (A (0, 0, 0))), (1, .int a1), (2, .int a2), (3, .ref qo)]) hx hb dL_read_12 hl (by decide) rfl (fun ls hl => ?_)
      refine lv_iconst (v := (1 : Int32)) hx hb dL_read_14 (by decide) ?_
      exact w_ri S Z hr hlocks dL_read_15
    · have h := if_f h1 h
      cases h
  · have h := if_t hk h
    have hy := Option.some.inj h
    subst hy
    refine w_last S hqo hAr Z dL_read_8 (fun H locs Z => ?_)
    refine lv_goto (tgt := 16) hx hb dL_read_9 (by decide) ?_
    refine lv_iconst (v := (0 : Int32)) hx hb dL_read_16 (by decide) ?_
    exact w_ri S Z hr hlocks dL_read_17
-- L_write
theorem dL_write_0 : decode cL_write 0 = .ok (.aload 5, 2) := by decide +kernel
theorem dL_write_2 : decode cL_write 2 = .ok (.iconst 0, 1) := by decide +kernel
theorem dL_write_3 : decode cL_write 3 = .ok (.aload_n 0, 1) := by decide +kernel
theorem dL_write_4 : decode cL_write 4 = .ok (.iload_n 1, 1) := by decide +kernel
theorem dL_write_5 : decode cL_write 5 = .ok (.iload_n 2, 1) := by decide +kernel
theorem dL_write_6 : decode cL_write 6 = .ok (.iload_n 3, 1) := by decide +kernel
theorem dL_write_7 : decode cL_write 7 = .ok (.iload 4, 2) := by decide +kernel
theorem dL_write_9 : decode cL_write 9 = .ok (.invokevirtual 37, 3) := by decide +kernel
theorem dL_write_12 : decode cL_write 12 = .ok (.lastore, 1) := by decide +kernel
theorem dL_write_13 : decode cL_write 13 = .ok (.goto 11, 3) := by decide +kernel
theorem dL_write_16 : decode cL_write 16 = .ok (.astore 6, 2) := by decide +kernel
theorem dL_write_18 : decode cL_write 18 = .ok (.iconst 1, 1) := by decide +kernel
theorem dL_write_19 : decode cL_write 19 = .ok (.ireturn, 1) := by decide +kernel
theorem dL_write_20 : decode cL_write 20 = .ok (.astore 6, 2) := by decide +kernel
theorem dL_write_22 : decode cL_write 22 = .ok (.iconst 2, 1) := by decide +kernel
theorem dL_write_23 : decode cL_write 23 = .ok (.ireturn, 1) := by decide +kernel
theorem dL_write_24 : decode cL_write 24 = .ok (.iconst 0, 1) := by decide +kernel
theorem dL_write_25 : decode cL_write 25 = .ok (.ireturn, 1) := by decide +kernel
abbrev wmL_write : List Cond := .codeWith yL_write cL_write 7 (some .int) [(0, 13, 16, 13), (0, 13, 20, 27)] :: lBig
def f_L_write (N : Nat) (M : gM) (w : Int64) (a1 : Int32) (a2 : Int32) (a3 : Int32) (a4 : Int32) : Option (Int32 × Int64 × gM) :=
  o1 (f_X10_write N M a1 a2 a3 a4) (fun y => if y.1 = 0 then some (0, y.2.1, y.2.2) else if y.1 = 1 then some (1, w, y.2.2) else if y.1 = 2 then some (2, w, y.2.2) else none)
set_option maxHeartbeats 4000000 in
set_option maxRecDepth 100000 in
theorem t_L_write (l : Launch) (hst : l.stackTraces = false) (N : Nat) (D : va_G) (dA : Nat → ClassId) (A : gI → Nat) (hJ : gJ (cLive N) A) (tx : Nat → Nat) (sz : Nat) (cL : ClassId) (qo : Nat) (hqo : ¬ gA (cLive N) A qo ∧ qo < sz) (w : Int64) {M : gM} {a1 : Int32} {a2 : Int32} {a3 : Int32} {a4 : Int32} {y : Int32 × Int64 × gM} (h : f_L_write N M w a1 a2 a3 a4 = some y) : wM l yL_write wmL_write ({ frames := 8, cells := 3, slots := 18, locals := 195 } : Room) N D dA A tx sz cL qo w M [.ref (A (0, 0, 0)), .int a1, .int a2, .int a3, .int a4, .ref qo] y 3 18 := by
  refine va_MetW (cc := cL_write) (maxL := 7) (ret := some .int) (hh := [(0, 13, 16, 13), (0, 13, 20, 27)]) (by decide) rfl ?_
  intro p e s m args below meth c s₁ B hml hv
  obtain ⟨rfl, hsz, hP, hK, hN, hT, hO, hAr, hNc⟩ := hv
  subst hsz
  generalize hargs : ([.ref (A (0, 0, 0)), .int a1, .int a2, .int a3, .int a4, .ref qo] : List Value).toArray = args at B ⊢
  have S : CallFix p m c cL_write 7 s args wmL_write RL := ⟨B.exec, B.bytes, hml, findClass_of_methodNamed B.named, atoms_spec (ws := wmL_write) B.pre⟩
  obtain ⟨hx, hb, -, hown, hts⟩ := id S
  have hr := B.returns
  have hlocks := B.notSynchronized
  have htab : c.exceptionTable.toList = tableOf [(0, 13, 16, 13), (0, 13, 20, 27)] := vx_table (x := yL_write) B (hts _ List.mem_cons_self)
  have hcs := c_at (args := args) (s := s) (fun w h => hts w (List.mem_cons_of_mem _ (l_t (List.mem_append_right _ (List.mem_append_left _ h))))) hT.2.2.2
  have hl := lv_entry ([.ref (A (0, 0, 0)), .int a1, .int a2, .int a3, .int a4, .ref qo]) (n := 7) (Nat.le_of_ble_eq_true rfl)
  rw [← hargs, lg_entry_eq, hargs]
  generalize (lg_sl ([.ref (A (0, 0, 0)), .int a1, .int a2, .int a3, .int a4, .ref qo]) ++ List.replicate (7 - (lg_sl ([.ref (A (0, 0, 0)), .int a1, .int a2, .int a3, .int a4, .ref qo])).length) Slot.unset).toArray = ls at hl ⊢
  have hl : lv_has ls 7 [(0, .ref (A (0, 0, 0))), (1, .int a1), (2, .int a2), (3, .int a3), (4, .int a4), (5, .ref qo)] := hl
  unfold f_L_write at h
  obtain ⟨z, hc, h⟩ := o1_e h
  refine lv_aload hx hb dL_write_0 (lv_at hl 5 rfl) ?_
  refine lv_iconst (v := (0 : Int32)) hx hb dL_write_2 (by decide) ?_
  refine lv_aload_n hx hb dL_write_3 rfl (lv_at hl 0 rfl) ?_
  refine lv_iload_n hx hb dL_write_4 rfl (lv_at hl 1 rfl) ?_
  refine lv_iload_n hx hb dL_write_5 rfl (lv_at hl 2 rfl) ?_
  refine lv_iload_n hx hb dL_write_6 rfl (lv_at hl 3 rfl) ?_
  refine lv_iload hx hb dL_write_7 (lv_at hl 4 rfl) ?_
  refine w_l hqo hO (vx_runV (As := [.int a1, .int a2, .int a3, .int a4]) (rest := [.int (0 : Int32), .ref qo]) (b := A (0, 0, 0)) S (t_X10_write l hst N D dA A hJ tx _ hc) (cwV 4 hts (lGV (lB 27 rfl) (lB 28 rfl) (lB 29 rfl) (lB 2 rfl) (lB 30 rfl)) rfl rfl rfl (by decide +kernel) ⟨Nat.le_of_ble_eq_true rfl, Nat.le_of_ble_eq_true rfl⟩) ⟨tPc.blind, g_recv (reg := fun _ => True) (H0 := s.heap) (locs := []) ⟨hK, hJ, fun _ _ => trivial⟩ ⟨hP, va_S.rf⟩ (cl_one N 0 (by decide)) rfl rfl, w_pre hP hK hN hT _⟩ rfl rfl hl.1 rfl (lv_room (m := m) (pc := 9) (ls := ls) (rest := [.int a4, .int a3, .int a2, .int a1, .ref (A (0, 0, 0)), .int (0 : Int32), .ref qo]) (Nat.le_of_ble_eq_true rfl)) dL_write_9 ⟨Nat.le_of_ble_eq_true rfl, Nat.le_of_ble_eq_true rfl⟩) (fun hk ce q9 H locs Z hce hcv hcl => ?_) (fun hk H locs Z => ?_)
  · have h := if_f hk h
    by_cases h1 : z.1 = 1
    · have h := if_t h1 h
      have hy := Option.some.inj h
      subst hy
      rw [h1] at hcl
      refine vx_catch (E := cIO) (name := cIO) hown [] ⟨0, 13, 16, 13⟩ [⟨0, 13, 20, 27⟩] htab (fun z hz => by cases hz) (by decide) (by decide) (hts _ (lBc 0 rfl)) (hcs _ w_cI) hce hcv hcl ?_
      refine lv_astore (lv' := [(6, .ref q9), (0, .ref (A (0, 0, 0))), (1, .int a1), (2, .int a2), (3, .int a3), (4, .int a4), (5, .ref qo)]) hx hb dL_write_16 hl (by decide) rfl (fun ls hl => ?_)
      refine lv_iconst (v := (1 : Int32)) hx hb dL_write_18 (by decide) ?_
      exact w_ri S Z hr hlocks dL_write_19
    · have h := if_f h1 h
      by_cases h2 : z.1 = 2
      · have h := if_t h2 h
        have hy := Option.some.inj h
        subst hy
        rw [h2] at hcl
        refine vx_catch (E := cIA) (name := cIA) hown [⟨0, 13, 16, 13⟩] ⟨0, 13, 20, 27⟩ [] htab (fun z hz => by rw [List.mem_singleton.mp hz]; exact Or.inr ⟨by decide, cIO, hts _ (lBc 0 rfl), hNc⟩) (by decide) (by decide) (hts _ (lBc 1 rfl)) (hcs _ w_cA) hce hcv hcl ?_
        refine lv_astore (lv' := [(6, .ref q9), (0, .ref (A (0, 0, 0))), (1, .int a1), (2, .int a2), (3, .int a3), (4, .int a4), (5, .ref qo)]) hx hb dL_write_20 hl (by decide) rfl (fun ls hl => ?_)
        refine lv_iconst (v := (2 : Int32)) hx hb dL_write_22 (by decide) ?_
        exact w_ri S Z hr hlocks dL_write_23
      · have h := if_f h2 h
        cases h
  · have h := if_t hk h
    have hy := Option.some.inj h
    subst hy
    refine w_last S hqo hAr Z dL_write_12 (fun H locs Z => ?_)
    refine lv_goto (tgt := 24) hx hb dL_write_13 (by decide) ?_
    refine lv_iconst (v := (0 : Int32)) hx hb dL_write_24 (by decide) ?_
    exact w_ri S Z hr hlocks dL_write_25
-- L_make
theorem dL_make_0 : decode cL_make 0 = .ok (.aload 5, 2) := by decide +kernel
theorem dL_make_2 : decode cL_make 2 = .ok (.iconst 0, 1) := by decide +kernel
theorem dL_make_3 : decode cL_make 3 = .ok (.aload_n 0, 1) := by decide +kernel
theorem dL_make_4 : decode cL_make 4 = .ok (.iload_n 1, 1) := by decide +kernel
theorem dL_make_5 : decode cL_make 5 = .ok (.iload_n 2, 1) := by decide +kernel
theorem dL_make_6 : decode cL_make 6 = .ok (.iload_n 3, 1) := by decide +kernel
theorem dL_make_7 : decode cL_make 7 = .ok (.iload 4, 2) := by decide +kernel
theorem dL_make_9 : decode cL_make 9 = .ok (.invokevirtual 41, 3) := by decide +kernel
theorem dL_make_12 : decode cL_make 12 = .ok (.lastore, 1) := by decide +kernel
theorem dL_make_13 : decode cL_make 13 = .ok (.goto 11, 3) := by decide +kernel
theorem dL_make_16 : decode cL_make 16 = .ok (.astore 6, 2) := by decide +kernel
theorem dL_make_18 : decode cL_make 18 = .ok (.iconst 1, 1) := by decide +kernel
theorem dL_make_19 : decode cL_make 19 = .ok (.ireturn, 1) := by decide +kernel
theorem dL_make_20 : decode cL_make 20 = .ok (.astore 6, 2) := by decide +kernel
theorem dL_make_22 : decode cL_make 22 = .ok (.iconst 2, 1) := by decide +kernel
theorem dL_make_23 : decode cL_make 23 = .ok (.ireturn, 1) := by decide +kernel
theorem dL_make_24 : decode cL_make 24 = .ok (.iconst 0, 1) := by decide +kernel
theorem dL_make_25 : decode cL_make 25 = .ok (.ireturn, 1) := by decide +kernel
abbrev wmL_make : List Cond := .codeWith yL_make cL_make 7 (some .int) [(0, 13, 16, 13), (0, 13, 20, 27)] :: lBig
def f_L_make (N : Nat) (M : gM) (w : Int64) (a1 : Int32) (a2 : Int32) (a3 : Int32) (a4 : Int32) : Option (Int32 × Int64 × gM) :=
  o1 (f_X10_make N M a1 a2 a3 a4) (fun y => if y.1 = 0 then some (0, y.2.1, y.2.2) else if y.1 = 1 then some (1, w, y.2.2) else if y.1 = 2 then some (2, w, y.2.2) else none)
set_option maxHeartbeats 4000000 in
set_option maxRecDepth 100000 in
theorem t_L_make (l : Launch) (hst : l.stackTraces = false) (N : Nat) (D : va_G) (dA : Nat → ClassId) (A : gI → Nat) (hJ : gJ (cLive N) A) (tx : Nat → Nat) (sz : Nat) (cL : ClassId) (qo : Nat) (hqo : ¬ gA (cLive N) A qo ∧ qo < sz) (w : Int64) {M : gM} {a1 : Int32} {a2 : Int32} {a3 : Int32} {a4 : Int32} {y : Int32 × Int64 × gM} (h : f_L_make N M w a1 a2 a3 a4 = some y) : wM l yL_make wmL_make ({ frames := 8, cells := 3, slots := 18, locals := 195 } : Room) N D dA A tx sz cL qo w M [.ref (A (0, 0, 0)), .int a1, .int a2, .int a3, .int a4, .ref qo] y 3 18 := by
  refine va_MetW (cc := cL_make) (maxL := 7) (ret := some .int) (hh := [(0, 13, 16, 13), (0, 13, 20, 27)]) (by decide) rfl ?_
  intro p e s m args below meth c s₁ B hml hv
  obtain ⟨rfl, hsz, hP, hK, hN, hT, hO, hAr, hNc⟩ := hv
  subst hsz
  generalize hargs : ([.ref (A (0, 0, 0)), .int a1, .int a2, .int a3, .int a4, .ref qo] : List Value).toArray = args at B ⊢
  have S : CallFix p m c cL_make 7 s args wmL_make RL := ⟨B.exec, B.bytes, hml, findClass_of_methodNamed B.named, atoms_spec (ws := wmL_make) B.pre⟩
  obtain ⟨hx, hb, -, hown, hts⟩ := id S
  have hr := B.returns
  have hlocks := B.notSynchronized
  have htab : c.exceptionTable.toList = tableOf [(0, 13, 16, 13), (0, 13, 20, 27)] := vx_table (x := yL_make) B (hts _ List.mem_cons_self)
  have hcs := c_at (args := args) (s := s) (fun w h => hts w (List.mem_cons_of_mem _ (l_t (List.mem_append_right _ (List.mem_append_left _ h))))) hT.2.2.2
  have hl := lv_entry ([.ref (A (0, 0, 0)), .int a1, .int a2, .int a3, .int a4, .ref qo]) (n := 7) (Nat.le_of_ble_eq_true rfl)
  rw [← hargs, lg_entry_eq, hargs]
  generalize (lg_sl ([.ref (A (0, 0, 0)), .int a1, .int a2, .int a3, .int a4, .ref qo]) ++ List.replicate (7 - (lg_sl ([.ref (A (0, 0, 0)), .int a1, .int a2, .int a3, .int a4, .ref qo])).length) Slot.unset).toArray = ls at hl ⊢
  have hl : lv_has ls 7 [(0, .ref (A (0, 0, 0))), (1, .int a1), (2, .int a2), (3, .int a3), (4, .int a4), (5, .ref qo)] := hl
  unfold f_L_make at h
  obtain ⟨z, hc, h⟩ := o1_e h
  refine lv_aload hx hb dL_make_0 (lv_at hl 5 rfl) ?_
  refine lv_iconst (v := (0 : Int32)) hx hb dL_make_2 (by decide) ?_
  refine lv_aload_n hx hb dL_make_3 rfl (lv_at hl 0 rfl) ?_
  refine lv_iload_n hx hb dL_make_4 rfl (lv_at hl 1 rfl) ?_
  refine lv_iload_n hx hb dL_make_5 rfl (lv_at hl 2 rfl) ?_
  refine lv_iload_n hx hb dL_make_6 rfl (lv_at hl 3 rfl) ?_
  refine lv_iload hx hb dL_make_7 (lv_at hl 4 rfl) ?_
  refine w_l hqo hO (vx_runV (As := [.int a1, .int a2, .int a3, .int a4]) (rest := [.int (0 : Int32), .ref qo]) (b := A (0, 0, 0)) S (t_X10_make l hst N D dA A hJ tx _ hc) (cwV 4 hts (lGV (lB 31 rfl) (lB 32 rfl) (lB 33 rfl) (lB 2 rfl) (lB 34 rfl)) rfl rfl rfl (by decide +kernel) ⟨Nat.le_of_ble_eq_true rfl, Nat.le_of_ble_eq_true rfl⟩) ⟨tPc.blind, g_recv (reg := fun _ => True) (H0 := s.heap) (locs := []) ⟨hK, hJ, fun _ _ => trivial⟩ ⟨hP, va_S.rf⟩ (cl_one N 0 (by decide)) rfl rfl, w_pre hP hK hN hT _⟩ rfl rfl hl.1 rfl (lv_room (m := m) (pc := 9) (ls := ls) (rest := [.int a4, .int a3, .int a2, .int a1, .ref (A (0, 0, 0)), .int (0 : Int32), .ref qo]) (Nat.le_of_ble_eq_true rfl)) dL_make_9 ⟨Nat.le_of_ble_eq_true rfl, Nat.le_of_ble_eq_true rfl⟩) (fun hk ce q9 H locs Z hce hcv hcl => ?_) (fun hk H locs Z => ?_)
  · have h := if_f hk h
    by_cases h1 : z.1 = 1
    · have h := if_t h1 h
      have hy := Option.some.inj h
      subst hy
      rw [h1] at hcl
      refine vx_catch (E := cIO) (name := cIO) hown [] ⟨0, 13, 16, 13⟩ [⟨0, 13, 20, 27⟩] htab (fun z hz => by cases hz) (by decide) (by decide) (hts _ (lBc 0 rfl)) (hcs _ w_cI) hce hcv hcl ?_
      refine lv_astore (lv' := [(6, .ref q9), (0, .ref (A (0, 0, 0))), (1, .int a1), (2, .int a2), (3, .int a3), (4, .int a4), (5, .ref qo)]) hx hb dL_make_16 hl (by decide) rfl (fun ls hl => ?_)
      refine lv_iconst (v := (1 : Int32)) hx hb dL_make_18 (by decide) ?_
      exact w_ri S Z hr hlocks dL_make_19
    · have h := if_f h1 h
      by_cases h2 : z.1 = 2
      · have h := if_t h2 h
        have hy := Option.some.inj h
        subst hy
        rw [h2] at hcl
        refine vx_catch (E := cIA) (name := cIA) hown [⟨0, 13, 16, 13⟩] ⟨0, 13, 20, 27⟩ [] htab (fun z hz => by rw [List.mem_singleton.mp hz]; exact Or.inr ⟨by decide, cIO, hts _ (lBc 0 rfl), hNc⟩) (by decide) (by decide) (hts _ (lBc 1 rfl)) (hcs _ w_cA) hce hcv hcl ?_
        refine lv_astore (lv' := [(6, .ref q9), (0, .ref (A (0, 0, 0))), (1, .int a1), (2, .int a2), (3, .int a3), (4, .int a4), (5, .ref qo)]) hx hb dL_make_20 hl (by decide) rfl (fun ls hl => ?_)
        refine lv_iconst (v := (2 : Int32)) hx hb dL_make_22 (by decide) ?_
        exact w_ri S Z hr hlocks dL_make_23
      · have h := if_f h2 h
        cases h
  · have h := if_t hk h
    have hy := Option.some.inj h
    subst hy
    refine w_last S hqo hAr Z dL_make_12 (fun H locs Z => ?_)
    refine lv_goto (tgt := 24) hx hb dL_make_13 (by decide) ?_
    refine lv_iconst (v := (0 : Int32)) hx hb dL_make_24 (by decide) ?_
    exact w_ri S Z hr hlocks dL_make_25
-- L_remove
theorem dL_remove_0 : decode cL_remove 0 = .ok (.aload 4, 2) := by decide +kernel
theorem dL_remove_2 : decode cL_remove 2 = .ok (.iconst 0, 1) := by decide +kernel
theorem dL_remove_3 : decode cL_remove 3 = .ok (.aload_n 0, 1) := by decide +kernel
theorem dL_remove_4 : decode cL_remove 4 = .ok (.iload_n 1, 1) := by decide +kernel
theorem dL_remove_5 : decode cL_remove 5 = .ok (.iload_n 2, 1) := by decide +kernel
theorem dL_remove_6 : decode cL_remove 6 = .ok (.iload_n 3, 1) := by decide +kernel
theorem dL_remove_7 : decode cL_remove 7 = .ok (.invokevirtual 45, 3) := by decide +kernel
theorem dL_remove_10 : decode cL_remove 10 = .ok (.lastore, 1) := by decide +kernel
theorem dL_remove_11 : decode cL_remove 11 = .ok (.goto 7, 3) := by decide +kernel
theorem dL_remove_14 : decode cL_remove 14 = .ok (.astore 5, 2) := by decide +kernel
theorem dL_remove_16 : decode cL_remove 16 = .ok (.iconst 1, 1) := by decide +kernel
theorem dL_remove_17 : decode cL_remove 17 = .ok (.ireturn, 1) := by decide +kernel
theorem dL_remove_18 : decode cL_remove 18 = .ok (.iconst 0, 1) := by decide +kernel
theorem dL_remove_19 : decode cL_remove 19 = .ok (.ireturn, 1) := by decide +kernel
abbrev wmL_remove : List Cond := .codeWith yL_remove cL_remove 6 (some .int) [(0, 11, 14, 13)] :: lBig
def f_L_remove (N : Nat) (M : gM) (w : Int64) (a1 : Int32) (a2 : Int32) (a3 : Int32) : Option (Int32 × Int64 × gM) :=
  o1 (f_X10_remove N M a1 a2 a3) (fun y => if y.1 = 0 then some (0, y.2.1, y.2.2) else if y.1 = 1 then some (1, w, y.2.2) else none)
set_option maxHeartbeats 4000000 in
set_option maxRecDepth 100000 in
theorem t_L_remove (l : Launch) (hst : l.stackTraces = false) (N : Nat) (D : va_G) (dA : Nat → ClassId) (A : gI → Nat) (hJ : gJ (cLive N) A) (tx : Nat → Nat) (sz : Nat) (cL : ClassId) (qo : Nat) (hqo : ¬ gA (cLive N) A qo ∧ qo < sz) (w : Int64) {M : gM} {a1 : Int32} {a2 : Int32} {a3 : Int32} {y : Int32 × Int64 × gM} (h : f_L_remove N M w a1 a2 a3 = some y) : wM l yL_remove wmL_remove ({ frames := 8, cells := 3, slots := 18, locals := 194 } : Room) N D dA A tx sz cL qo w M [.ref (A (0, 0, 0)), .int a1, .int a2, .int a3, .ref qo] y 3 18 := by
  refine va_MetW (cc := cL_remove) (maxL := 6) (ret := some .int) (hh := [(0, 11, 14, 13)]) (by decide) rfl ?_
  intro p e s m args below meth c s₁ B hml hv
  obtain ⟨rfl, hsz, hP, hK, hN, hT, hO, hAr, hNc⟩ := hv
  subst hsz
  generalize hargs : ([.ref (A (0, 0, 0)), .int a1, .int a2, .int a3, .ref qo] : List Value).toArray = args at B ⊢
  have S : CallFix p m c cL_remove 6 s args wmL_remove RL := ⟨B.exec, B.bytes, hml, findClass_of_methodNamed B.named, atoms_spec (ws := wmL_remove) B.pre⟩
  obtain ⟨hx, hb, -, hown, hts⟩ := id S
  have hr := B.returns
  have hlocks := B.notSynchronized
  have htab : c.exceptionTable.toList = tableOf [(0, 11, 14, 13)] := vx_table (x := yL_remove) B (hts _ List.mem_cons_self)
  have hcs := c_at (args := args) (s := s) (fun w h => hts w (List.mem_cons_of_mem _ (l_t (List.mem_append_right _ (List.mem_append_left _ h))))) hT.2.2.2
  have hl := lv_entry ([.ref (A (0, 0, 0)), .int a1, .int a2, .int a3, .ref qo]) (n := 6) (Nat.le_of_ble_eq_true rfl)
  rw [← hargs, lg_entry_eq, hargs]
  generalize (lg_sl ([.ref (A (0, 0, 0)), .int a1, .int a2, .int a3, .ref qo]) ++ List.replicate (6 - (lg_sl ([.ref (A (0, 0, 0)), .int a1, .int a2, .int a3, .ref qo])).length) Slot.unset).toArray = ls at hl ⊢
  have hl : lv_has ls 6 [(0, .ref (A (0, 0, 0))), (1, .int a1), (2, .int a2), (3, .int a3), (4, .ref qo)] := hl
  unfold f_L_remove at h
  obtain ⟨z, hc, h⟩ := o1_e h
  refine lv_aload hx hb dL_remove_0 (lv_at hl 4 rfl) ?_
  refine lv_iconst (v := (0 : Int32)) hx hb dL_remove_2 (by decide) ?_
  refine lv_aload_n hx hb dL_remove_3 rfl (lv_at hl 0 rfl) ?_
  refine lv_iload_n hx hb dL_remove_4 rfl (lv_at hl 1 rfl) ?_
  refine lv_iload_n hx hb dL_remove_5 rfl (lv_at hl 2 rfl) ?_
  refine lv_iload_n hx hb dL_remove_6 rfl (lv_at hl 3 rfl) ?_
  refine w_l hqo hO (vx_runV (As := [.int a1, .int a2, .int a3]) (rest := [.int (0 : Int32), .ref qo]) (b := A (0, 0, 0)) S (t_X10_remove l hst N D dA A hJ tx _ hc) (cwV 3 hts (lGV (lB 35 rfl) (lB 36 rfl) (lB 37 rfl) (lB 2 rfl) (lB 38 rfl)) rfl rfl rfl (by decide +kernel) ⟨Nat.le_of_ble_eq_true rfl, Nat.le_of_ble_eq_true rfl⟩) ⟨tPc.blind, g_recv (reg := fun _ => True) (H0 := s.heap) (locs := []) ⟨hK, hJ, fun _ _ => trivial⟩ ⟨hP, va_S.rf⟩ (cl_one N 0 (by decide)) rfl rfl, w_pre hP hK hN hT _⟩ rfl rfl hl.1 rfl (lv_room (m := m) (pc := 7) (ls := ls) (rest := [.int a3, .int a2, .int a1, .ref (A (0, 0, 0)), .int (0 : Int32), .ref qo]) (Nat.le_of_ble_eq_true rfl)) dL_remove_7 ⟨Nat.le_of_ble_eq_true rfl, Nat.le_of_ble_eq_true rfl⟩) (fun hk ce q9 H locs Z hce hcv hcl => ?_) (fun hk H locs Z => ?_)
  · have h := if_f hk h
    by_cases h1 : z.1 = 1
    · have h := if_t h1 h
      have hy := Option.some.inj h
      subst hy
      rw [h1] at hcl
      refine vx_catch (E := cIO) (name := cIO) hown [] ⟨0, 11, 14, 13⟩ [] htab (fun z hz => by cases hz) (by decide) (by decide) (hts _ (lBc 0 rfl)) (hcs _ w_cI) hce hcv hcl ?_
      refine lv_astore (lv' := [(5, .ref q9), (0, .ref (A (0, 0, 0))), (1, .int a1), (2, .int a2), (3, .int a3), (4, .ref qo)]) hx hb dL_remove_14 hl (by decide) rfl (fun ls hl => ?_)
      refine lv_iconst (v := (1 : Int32)) hx hb dL_remove_16 (by decide) ?_
      exact w_ri S Z hr hlocks dL_remove_17
    · have h := if_f h1 h
      cases h
  · have h := if_t hk h
    have hy := Option.some.inj h
    subst hy
    refine w_last S hqo hAr Z dL_remove_10 (fun H locs Z => ?_)
    refine lv_goto (tgt := 18) hx hb dL_remove_11 (by decide) ?_
    refine lv_iconst (v := (0 : Int32)) hx hb dL_remove_18 (by decide) ?_
    exact w_ri S Z hr hlocks dL_remove_19
-- L_handIn
theorem dL_handIn_0 : decode cL_handIn 0 = .ok (.aload_n 2, 1) := by decide +kernel
theorem dL_handIn_1 : decode cL_handIn 1 = .ok (.iconst 0, 1) := by decide +kernel
theorem dL_handIn_2 : decode cL_handIn 2 = .ok (.aload_n 0, 1) := by decide +kernel
theorem dL_handIn_3 : decode cL_handIn 3 = .ok (.iload_n 1, 1) := by decide +kernel
theorem dL_handIn_4 : decode cL_handIn 4 = .ok (.invokevirtual 48, 3) := by decide +kernel
theorem dL_handIn_7 : decode cL_handIn 7 = .ok (.lastore, 1) := by decide +kernel
theorem dL_handIn_8 : decode cL_handIn 8 = .ok (.goto 6, 3) := by decide +kernel
theorem dL_handIn_11 : decode cL_handIn 11 = .ok (.astore_n 3, 1) := by decide +kernel
theorem dL_handIn_12 : decode cL_handIn 12 = .ok (.iconst 1, 1) := by decide +kernel
theorem dL_handIn_13 : decode cL_handIn 13 = .ok (.ireturn, 1) := by decide +kernel
theorem dL_handIn_14 : decode cL_handIn 14 = .ok (.iconst 0, 1) := by decide +kernel
theorem dL_handIn_15 : decode cL_handIn 15 = .ok (.ireturn, 1) := by decide +kernel
abbrev wmL_handIn : List Cond := .codeWith yL_handIn cL_handIn 4 (some .int) [(0, 8, 11, 13)] :: lBig
def f_L_handIn (N : Nat) (M : gM) (w : Int64) (a1 : Int32) : Option (Int32 × Int64 × gM) :=
  o1 (f_X10_handIn N M a1) (fun y => if y.1 = 0 then some (0, y.2.1, y.2.2) else if y.1 = 1 then some (1, w, y.2.2) else none)
set_option maxHeartbeats 4000000 in
set_option maxRecDepth 100000 in
theorem t_L_handIn (l : Launch) (hst : l.stackTraces = false) (N : Nat) (D : va_G) (dA : Nat → ClassId) (A : gI → Nat) (hJ : gJ (cLive N) A) (tx : Nat → Nat) (sz : Nat) (cL : ClassId) (qo : Nat) (hqo : ¬ gA (cLive N) A qo ∧ qo < sz) (w : Int64) {M : gM} {a1 : Int32} {y : Int32 × Int64 × gM} (h : f_L_handIn N M w a1 = some y) : wM l yL_handIn wmL_handIn ({ frames := 8, cells := 1, slots := 6, locals := 186 } : Room) N D dA A tx sz cL qo w M [.ref (A (0, 0, 0)), .int a1, .ref qo] y 1 6 := by
  refine va_MetW (cc := cL_handIn) (maxL := 4) (ret := some .int) (hh := [(0, 8, 11, 13)]) (by decide) rfl ?_
  intro p e s m args below meth c s₁ B hml hv
  obtain ⟨rfl, hsz, hP, hK, hN, hT, hO, hAr, hNc⟩ := hv
  subst hsz
  generalize hargs : ([.ref (A (0, 0, 0)), .int a1, .ref qo] : List Value).toArray = args at B ⊢
  have S : CallFix p m c cL_handIn 4 s args wmL_handIn RL := ⟨B.exec, B.bytes, hml, findClass_of_methodNamed B.named, atoms_spec (ws := wmL_handIn) B.pre⟩
  obtain ⟨hx, hb, -, hown, hts⟩ := id S
  have hr := B.returns
  have hlocks := B.notSynchronized
  have htab : c.exceptionTable.toList = tableOf [(0, 8, 11, 13)] := vx_table (x := yL_handIn) B (hts _ List.mem_cons_self)
  have hcs := c_at (args := args) (s := s) (fun w h => hts w (List.mem_cons_of_mem _ (l_t (List.mem_append_right _ (List.mem_append_left _ h))))) hT.2.2.2
  have hl := lv_entry ([.ref (A (0, 0, 0)), .int a1, .ref qo]) (n := 4) (Nat.le_of_ble_eq_true rfl)
  rw [← hargs, lg_entry_eq, hargs]
  generalize (lg_sl ([.ref (A (0, 0, 0)), .int a1, .ref qo]) ++ List.replicate (4 - (lg_sl ([.ref (A (0, 0, 0)), .int a1, .ref qo])).length) Slot.unset).toArray = ls at hl ⊢
  have hl : lv_has ls 4 [(0, .ref (A (0, 0, 0))), (1, .int a1), (2, .ref qo)] := hl
  unfold f_L_handIn at h
  obtain ⟨z, hc, h⟩ := o1_e h
  refine lv_aload_n hx hb dL_handIn_0 rfl (lv_at hl 2 rfl) ?_
  refine lv_iconst (v := (0 : Int32)) hx hb dL_handIn_1 (by decide) ?_
  refine lv_aload_n hx hb dL_handIn_2 rfl (lv_at hl 0 rfl) ?_
  refine lv_iload_n hx hb dL_handIn_3 rfl (lv_at hl 1 rfl) ?_
  refine w_l hqo hO (vx_runV (As := [.int a1]) (rest := [.int (0 : Int32), .ref qo]) (b := A (0, 0, 0)) S (t_X10_handIn l hst N D dA A hJ tx _ hc) (cwV 1 hts (lGV (lB 39 rfl) (lB 40 rfl) (lB 41 rfl) (lB 2 rfl) (lB 42 rfl)) rfl rfl rfl (by decide +kernel) ⟨Nat.le_of_ble_eq_true rfl, Nat.le_of_ble_eq_true rfl⟩) ⟨tPc.blind, g_recv (reg := fun _ => True) (H0 := s.heap) (locs := []) ⟨hK, hJ, fun _ _ => trivial⟩ ⟨hP, va_S.rf⟩ (cl_one N 0 (by decide)) rfl rfl, w_pre hP hK hN hT _⟩ rfl rfl hl.1 rfl (lv_room (m := m) (pc := 4) (ls := ls) (rest := [.int a1, .ref (A (0, 0, 0)), .int (0 : Int32), .ref qo]) (Nat.le_of_ble_eq_true rfl)) dL_handIn_4 ⟨Nat.le_of_ble_eq_true rfl, Nat.le_of_ble_eq_true rfl⟩) (fun hk ce q9 H locs Z hce hcv hcl => ?_) (fun hk H locs Z => ?_)
  · have h := if_f hk h
    by_cases h1 : z.1 = 1
    · have h := if_t h1 h
      have hy := Option.some.inj h
      subst hy
      rw [h1] at hcl
      refine vx_catch (E := cIO) (name := cIO) hown [] ⟨0, 8, 11, 13⟩ [] htab (fun z hz => by cases hz) (by decide) (by decide) (hts _ (lBc 0 rfl)) (hcs _ w_cI) hce hcv hcl ?_
      refine lv_astore_n (lv' := [(3, .ref q9), (0, .ref (A (0, 0, 0))), (1, .int a1), (2, .ref qo)]) hx hb dL_handIn_11 rfl hl (by decide) rfl (fun ls hl => ?_)
      refine lv_iconst (v := (1 : Int32)) hx hb dL_handIn_12 (by decide) ?_
      exact w_ri S Z hr hlocks dL_handIn_13
    · have h := if_f h1 h
      cases h
  · have h := if_t hk h
    have hy := Option.some.inj h
    subst hy
    refine w_last S hqo hAr Z dL_handIn_7 (fun H locs Z => ?_)
    refine lv_goto (tgt := 14) hx hb dL_handIn_8 (by decide) ?_
    refine lv_iconst (v := (0 : Int32)) hx hb dL_handIn_14 (by decide) ?_
    exact w_ri S Z hr hlocks dL_handIn_15
-- L_walk
theorem dL_walk_0 : decode cL_walk 0 = .ok (.aload_n 2, 1) := by decide +kernel
theorem dL_walk_1 : decode cL_walk 1 = .ok (.iconst 0, 1) := by decide +kernel
theorem dL_walk_2 : decode cL_walk 2 = .ok (.aload_n 0, 1) := by decide +kernel
theorem dL_walk_3 : decode cL_walk 3 = .ok (.iload_n 1, 1) := by decide +kernel
theorem dL_walk_4 : decode cL_walk 4 = .ok (.invokevirtual 52, 3) := by decide +kernel
theorem dL_walk_7 : decode cL_walk 7 = .ok (.lastore, 1) := by decide +kernel
theorem dL_walk_8 : decode cL_walk 8 = .ok (.goto 6, 3) := by decide +kernel
theorem dL_walk_11 : decode cL_walk 11 = .ok (.astore_n 3, 1) := by decide +kernel
theorem dL_walk_12 : decode cL_walk 12 = .ok (.iconst 1, 1) := by decide +kernel
theorem dL_walk_13 : decode cL_walk 13 = .ok (.ireturn, 1) := by decide +kernel
theorem dL_walk_14 : decode cL_walk 14 = .ok (.iconst 0, 1) := by decide +kernel
theorem dL_walk_15 : decode cL_walk 15 = .ok (.ireturn, 1) := by decide +kernel
abbrev wmL_walk : List Cond := .codeWith yL_walk cL_walk 4 (some .int) [(0, 8, 11, 13)] :: lBig
def f_L_walk (N : Nat) (M : gM) (w : Int64) (a1 : Int32) : Option (Int32 × Int64 × gM) :=
  o1 (f_X10_walk N M a1) (fun y => if y.1 = 0 then some (0, y.2.1, y.2.2) else if y.1 = 1 then some (1, w, y.2.2) else none)
set_option maxHeartbeats 4000000 in
set_option maxRecDepth 100000 in
theorem t_L_walk (l : Launch) (hst : l.stackTraces = false) (N : Nat) (D : va_G) (dA : Nat → ClassId) (A : gI → Nat) (hJ : gJ (cLive N) A) (tx : Nat → Nat) (sz : Nat) (cL : ClassId) (qo : Nat) (hqo : ¬ gA (cLive N) A qo ∧ qo < sz) (w : Int64) {M : gM} {a1 : Int32} {y : Int32 × Int64 × gM} (h : f_L_walk N M w a1 = some y) : wM l yL_walk wmL_walk ({ frames := 8, cells := 1, slots := 6, locals := 168 } : Room) N D dA A tx sz cL qo w M [.ref (A (0, 0, 0)), .int a1, .ref qo] y 1 6 := by
  refine va_MetW (cc := cL_walk) (maxL := 4) (ret := some .int) (hh := [(0, 8, 11, 13)]) (by decide) rfl ?_
  intro p e s m args below meth c s₁ B hml hv
  obtain ⟨rfl, hsz, hP, hK, hN, hT, hO, hAr, hNc⟩ := hv
  subst hsz
  generalize hargs : ([.ref (A (0, 0, 0)), .int a1, .ref qo] : List Value).toArray = args at B ⊢
  have S : CallFix p m c cL_walk 4 s args wmL_walk RL := ⟨B.exec, B.bytes, hml, findClass_of_methodNamed B.named, atoms_spec (ws := wmL_walk) B.pre⟩
  obtain ⟨hx, hb, -, hown, hts⟩ := id S
  have hr := B.returns
  have hlocks := B.notSynchronized
  have htab : c.exceptionTable.toList = tableOf [(0, 8, 11, 13)] := vx_table (x := yL_walk) B (hts _ List.mem_cons_self)
  have hcs := c_at (args := args) (s := s) (fun w h => hts w (List.mem_cons_of_mem _ (l_t (List.mem_append_right _ (List.mem_append_left _ h))))) hT.2.2.2
  have hl := lv_entry ([.ref (A (0, 0, 0)), .int a1, .ref qo]) (n := 4) (Nat.le_of_ble_eq_true rfl)
  rw [← hargs, lg_entry_eq, hargs]
  generalize (lg_sl ([.ref (A (0, 0, 0)), .int a1, .ref qo]) ++ List.replicate (4 - (lg_sl ([.ref (A (0, 0, 0)), .int a1, .ref qo])).length) Slot.unset).toArray = ls at hl ⊢
  have hl : lv_has ls 4 [(0, .ref (A (0, 0, 0))), (1, .int a1), (2, .ref qo)] := hl
  unfold f_L_walk at h
  obtain ⟨z, hc, h⟩ := o1_e h
  refine lv_aload_n hx hb dL_walk_0 rfl (lv_at hl 2 rfl) ?_
  refine lv_iconst (v := (0 : Int32)) hx hb dL_walk_1 (by decide) ?_
  refine lv_aload_n hx hb dL_walk_2 rfl (lv_at hl 0 rfl) ?_
  refine lv_iload_n hx hb dL_walk_3 rfl (lv_at hl 1 rfl) ?_
  refine w_l hqo hO (vx_runV (As := [.int a1]) (rest := [.int (0 : Int32), .ref qo]) (b := A (0, 0, 0)) S (t_X10_walk l hst N D dA A hJ tx _ hc) (cwV 1 hts (lGV (lB 43 rfl) (lB 44 rfl) (lB 45 rfl) (lB 2 rfl) (lB 46 rfl)) rfl rfl rfl (by decide +kernel) ⟨Nat.le_of_ble_eq_true rfl, Nat.le_of_ble_eq_true rfl⟩) ⟨tPc.blind, g_recv (reg := fun _ => True) (H0 := s.heap) (locs := []) ⟨hK, hJ, fun _ _ => trivial⟩ ⟨hP, va_S.rf⟩ (cl_one N 0 (by decide)) rfl rfl, w_pre hP hK hN hT _⟩ rfl rfl hl.1 rfl (lv_room (m := m) (pc := 4) (ls := ls) (rest := [.int a1, .ref (A (0, 0, 0)), .int (0 : Int32), .ref qo]) (Nat.le_of_ble_eq_true rfl)) dL_walk_4 ⟨Nat.le_of_ble_eq_true rfl, Nat.le_of_ble_eq_true rfl⟩) (fun hk ce q9 H locs Z hce hcv hcl => ?_) (fun hk H locs Z => ?_)
  · have h := if_f hk h
    by_cases h1 : z.1 = 1
    · have h := if_t h1 h
      have hy := Option.some.inj h
      subst hy
      rw [h1] at hcl
      refine vx_catch (E := cIO) (name := cIO) hown [] ⟨0, 8, 11, 13⟩ [] htab (fun z hz => by cases hz) (by decide) (by decide) (hts _ (lBc 0 rfl)) (hcs _ w_cI) hce hcv hcl ?_
      refine lv_astore_n (lv' := [(3, .ref q9), (0, .ref (A (0, 0, 0))), (1, .int a1), (2, .ref qo)]) hx hb dL_walk_11 rfl hl (by decide) rfl (fun ls hl => ?_)
      refine lv_iconst (v := (1 : Int32)) hx hb dL_walk_12 (by decide) ?_
      exact w_ri S Z hr hlocks dL_walk_13
    · have h := if_f h1 h
      cases h
  · have h := if_t hk h
    have hy := Option.some.inj h
    subst hy
    refine w_last S hqo hAr Z dL_walk_7 (fun H locs Z => ?_)
    refine lv_goto (tgt := 14) hx hb dL_walk_8 (by decide) ?_
    refine lv_iconst (v := (0 : Int32)) hx hb dL_walk_14 (by decide) ?_
    exact w_ri S Z hr hlocks dL_walk_15
-- L_meet
theorem dL_meet_0 : decode cL_meet 0 = .ok (.aload_n 2, 1) := by decide +kernel
theorem dL_meet_1 : decode cL_meet 1 = .ok (.iconst 0, 1) := by decide +kernel
theorem dL_meet_2 : decode cL_meet 2 = .ok (.aload_n 0, 1) := by decide +kernel
theorem dL_meet_3 : decode cL_meet 3 = .ok (.iload_n 1, 1) := by decide +kernel
theorem dL_meet_4 : decode cL_meet 4 = .ok (.invokevirtual 55, 3) := by decide +kernel
theorem dL_meet_7 : decode cL_meet 7 = .ok (.lastore, 1) := by decide +kernel
theorem dL_meet_8 : decode cL_meet 8 = .ok (.goto 6, 3) := by decide +kernel
theorem dL_meet_11 : decode cL_meet 11 = .ok (.astore_n 3, 1) := by decide +kernel
theorem dL_meet_12 : decode cL_meet 12 = .ok (.iconst 1, 1) := by decide +kernel
theorem dL_meet_13 : decode cL_meet 13 = .ok (.ireturn, 1) := by decide +kernel
theorem dL_meet_14 : decode cL_meet 14 = .ok (.iconst 0, 1) := by decide +kernel
theorem dL_meet_15 : decode cL_meet 15 = .ok (.ireturn, 1) := by decide +kernel
abbrev wmL_meet : List Cond := .codeWith yL_meet cL_meet 4 (some .int) [(0, 8, 11, 13)] :: lBig
def f_L_meet (N : Nat) (M : gM) (w : Int64) (a1 : Int32) : Option (Int32 × Int64 × gM) :=
  o1 (f_X10_meet N M a1) (fun y => if y.1 = 0 then some (0, y.2.1, y.2.2) else if y.1 = 1 then some (1, w, y.2.2) else none)
set_option maxHeartbeats 4000000 in
set_option maxRecDepth 100000 in
theorem t_L_meet (l : Launch) (hst : l.stackTraces = false) (N : Nat) (D : va_G) (dA : Nat → ClassId) (A : gI → Nat) (hJ : gJ (cLive N) A) (tx : Nat → Nat) (sz : Nat) (cL : ClassId) (qo : Nat) (hqo : ¬ gA (cLive N) A qo ∧ qo < sz) (w : Int64) {M : gM} {a1 : Int32} {y : Int32 × Int64 × gM} (h : f_L_meet N M w a1 = some y) : wM l yL_meet wmL_meet ({ frames := 8, cells := 1, slots := 6, locals := 179 } : Room) N D dA A tx sz cL qo w M [.ref (A (0, 0, 0)), .int a1, .ref qo] y 1 6 := by
  refine va_MetW (cc := cL_meet) (maxL := 4) (ret := some .int) (hh := [(0, 8, 11, 13)]) (by decide) rfl ?_
  intro p e s m args below meth c s₁ B hml hv
  obtain ⟨rfl, hsz, hP, hK, hN, hT, hO, hAr, hNc⟩ := hv
  subst hsz
  generalize hargs : ([.ref (A (0, 0, 0)), .int a1, .ref qo] : List Value).toArray = args at B ⊢
  have S : CallFix p m c cL_meet 4 s args wmL_meet RL := ⟨B.exec, B.bytes, hml, findClass_of_methodNamed B.named, atoms_spec (ws := wmL_meet) B.pre⟩
  obtain ⟨hx, hb, -, hown, hts⟩ := id S
  have hr := B.returns
  have hlocks := B.notSynchronized
  have htab : c.exceptionTable.toList = tableOf [(0, 8, 11, 13)] := vx_table (x := yL_meet) B (hts _ List.mem_cons_self)
  have hcs := c_at (args := args) (s := s) (fun w h => hts w (List.mem_cons_of_mem _ (l_t (List.mem_append_right _ (List.mem_append_left _ h))))) hT.2.2.2
  have hl := lv_entry ([.ref (A (0, 0, 0)), .int a1, .ref qo]) (n := 4) (Nat.le_of_ble_eq_true rfl)
  rw [← hargs, lg_entry_eq, hargs]
  generalize (lg_sl ([.ref (A (0, 0, 0)), .int a1, .ref qo]) ++ List.replicate (4 - (lg_sl ([.ref (A (0, 0, 0)), .int a1, .ref qo])).length) Slot.unset).toArray = ls at hl ⊢
  have hl : lv_has ls 4 [(0, .ref (A (0, 0, 0))), (1, .int a1), (2, .ref qo)] := hl
  unfold f_L_meet at h
  obtain ⟨z, hc, h⟩ := o1_e h
  refine lv_aload_n hx hb dL_meet_0 rfl (lv_at hl 2 rfl) ?_
  refine lv_iconst (v := (0 : Int32)) hx hb dL_meet_1 (by decide) ?_
  refine lv_aload_n hx hb dL_meet_2 rfl (lv_at hl 0 rfl) ?_
  refine lv_iload_n hx hb dL_meet_3 rfl (lv_at hl 1 rfl) ?_
  refine w_l hqo hO (vx_runV (As := [.int a1]) (rest := [.int (0 : Int32), .ref qo]) (b := A (0, 0, 0)) S (t_X10_meet l hst N D dA A hJ tx _ hc) (cwV 1 hts (lGV (lB 47 rfl) (lB 48 rfl) (lB 49 rfl) (lB 2 rfl) (lB 50 rfl)) rfl rfl rfl (by decide +kernel) ⟨Nat.le_of_ble_eq_true rfl, Nat.le_of_ble_eq_true rfl⟩) ⟨tPc.blind, g_recv (reg := fun _ => True) (H0 := s.heap) (locs := []) ⟨hK, hJ, fun _ _ => trivial⟩ ⟨hP, va_S.rf⟩ (cl_one N 0 (by decide)) rfl rfl, w_pre hP hK hN hT _⟩ rfl rfl hl.1 rfl (lv_room (m := m) (pc := 4) (ls := ls) (rest := [.int a1, .ref (A (0, 0, 0)), .int (0 : Int32), .ref qo]) (Nat.le_of_ble_eq_true rfl)) dL_meet_4 ⟨Nat.le_of_ble_eq_true rfl, Nat.le_of_ble_eq_true rfl⟩) (fun hk ce q9 H locs Z hce hcv hcl => ?_) (fun hk H locs Z => ?_)
  · have h := if_f hk h
    by_cases h1 : z.1 = 1
    · have h := if_t h1 h
      have hy := Option.some.inj h
      subst hy
      rw [h1] at hcl
      refine vx_catch (E := cIO) (name := cIO) hown [] ⟨0, 8, 11, 13⟩ [] htab (fun z hz => by cases hz) (by decide) (by decide) (hts _ (lBc 0 rfl)) (hcs _ w_cI) hce hcv hcl ?_
      refine lv_astore_n (lv' := [(3, .ref q9), (0, .ref (A (0, 0, 0))), (1, .int a1), (2, .ref qo)]) hx hb dL_meet_11 rfl hl (by decide) rfl (fun ls hl => ?_)
      refine lv_iconst (v := (1 : Int32)) hx hb dL_meet_12 (by decide) ?_
      exact w_ri S Z hr hlocks dL_meet_13
    · have h := if_f h1 h
      cases h
  · have h := if_t hk h
    have hy := Option.some.inj h
    subst hy
    refine w_last S hqo hAr Z dL_meet_7 (fun H locs Z => ?_)
    refine lv_goto (tgt := 14) hx hb dL_meet_8 (by decide) ?_
    refine lv_iconst (v := (0 : Int32)) hx hb dL_meet_14 (by decide) ?_
    exact w_ri S Z hr hlocks dL_meet_15
-- L_repair
theorem dL_repair_0 : decode cL_repair 0 = .ok (.aload 4, 2) := by decide +kernel
theorem dL_repair_2 : decode cL_repair 2 = .ok (.iconst 0, 1) := by decide +kernel
theorem dL_repair_3 : decode cL_repair 3 = .ok (.aload_n 0, 1) := by decide +kernel
theorem dL_repair_4 : decode cL_repair 4 = .ok (.iload_n 1, 1) := by decide +kernel
theorem dL_repair_5 : decode cL_repair 5 = .ok (.iload_n 2, 1) := by decide +kernel
theorem dL_repair_6 : decode cL_repair 6 = .ok (.iload_n 3, 1) := by decide +kernel
theorem dL_repair_7 : decode cL_repair 7 = .ok (.invokevirtual 58, 3) := by decide +kernel
theorem dL_repair_10 : decode cL_repair 10 = .ok (.lastore, 1) := by decide +kernel
theorem dL_repair_11 : decode cL_repair 11 = .ok (.goto 7, 3) := by decide +kernel
theorem dL_repair_14 : decode cL_repair 14 = .ok (.astore 5, 2) := by decide +kernel
theorem dL_repair_16 : decode cL_repair 16 = .ok (.iconst 1, 1) := by decide +kernel
theorem dL_repair_17 : decode cL_repair 17 = .ok (.ireturn, 1) := by decide +kernel
theorem dL_repair_18 : decode cL_repair 18 = .ok (.iconst 0, 1) := by decide +kernel
theorem dL_repair_19 : decode cL_repair 19 = .ok (.ireturn, 1) := by decide +kernel
abbrev wmL_repair : List Cond := .codeWith yL_repair cL_repair 6 (some .int) [(0, 11, 14, 13)] :: lBig
def f_L_repair (N : Nat) (M : gM) (w : Int64) (a1 : Int32) (a2 : Int32) (a3 : Int32) : Option (Int32 × Int64 × gM) :=
  o1 (f_X10_repair N M a1 a2 a3) (fun y => if y.1 = 0 then some (0, y.2.1, y.2.2) else if y.1 = 1 then some (1, w, y.2.2) else none)
set_option maxHeartbeats 4000000 in
set_option maxRecDepth 100000 in
theorem t_L_repair (l : Launch) (hst : l.stackTraces = false) (N : Nat) (D : va_G) (dA : Nat → ClassId) (A : gI → Nat) (hJ : gJ (cLive N) A) (tx : Nat → Nat) (sz : Nat) (cL : ClassId) (qo : Nat) (hqo : ¬ gA (cLive N) A qo ∧ qo < sz) (w : Int64) {M : gM} {a1 : Int32} {a2 : Int32} {a3 : Int32} {y : Int32 × Int64 × gM} (h : f_L_repair N M w a1 a2 a3 = some y) : wM l yL_repair wmL_repair ({ frames := 8, cells := 2, slots := 12, locals := 137 } : Room) N D dA A tx sz cL qo w M [.ref (A (0, 0, 0)), .int a1, .int a2, .int a3, .ref qo] y 2 12 := by
  refine va_MetW (cc := cL_repair) (maxL := 6) (ret := some .int) (hh := [(0, 11, 14, 13)]) (by decide) rfl ?_
  intro p e s m args below meth c s₁ B hml hv
  obtain ⟨rfl, hsz, hP, hK, hN, hT, hO, hAr, hNc⟩ := hv
  subst hsz
  generalize hargs : ([.ref (A (0, 0, 0)), .int a1, .int a2, .int a3, .ref qo] : List Value).toArray = args at B ⊢
  have S : CallFix p m c cL_repair 6 s args wmL_repair RL := ⟨B.exec, B.bytes, hml, findClass_of_methodNamed B.named, atoms_spec (ws := wmL_repair) B.pre⟩
  obtain ⟨hx, hb, -, hown, hts⟩ := id S
  have hr := B.returns
  have hlocks := B.notSynchronized
  have htab : c.exceptionTable.toList = tableOf [(0, 11, 14, 13)] := vx_table (x := yL_repair) B (hts _ List.mem_cons_self)
  have hcs := c_at (args := args) (s := s) (fun w h => hts w (List.mem_cons_of_mem _ (l_t (List.mem_append_right _ (List.mem_append_left _ h))))) hT.2.2.2
  have hl := lv_entry ([.ref (A (0, 0, 0)), .int a1, .int a2, .int a3, .ref qo]) (n := 6) (Nat.le_of_ble_eq_true rfl)
  rw [← hargs, lg_entry_eq, hargs]
  generalize (lg_sl ([.ref (A (0, 0, 0)), .int a1, .int a2, .int a3, .ref qo]) ++ List.replicate (6 - (lg_sl ([.ref (A (0, 0, 0)), .int a1, .int a2, .int a3, .ref qo])).length) Slot.unset).toArray = ls at hl ⊢
  have hl : lv_has ls 6 [(0, .ref (A (0, 0, 0))), (1, .int a1), (2, .int a2), (3, .int a3), (4, .ref qo)] := hl
  unfold f_L_repair at h
  obtain ⟨z, hc, h⟩ := o1_e h
  refine lv_aload hx hb dL_repair_0 (lv_at hl 4 rfl) ?_
  refine lv_iconst (v := (0 : Int32)) hx hb dL_repair_2 (by decide) ?_
  refine lv_aload_n hx hb dL_repair_3 rfl (lv_at hl 0 rfl) ?_
  refine lv_iload_n hx hb dL_repair_4 rfl (lv_at hl 1 rfl) ?_
  refine lv_iload_n hx hb dL_repair_5 rfl (lv_at hl 2 rfl) ?_
  refine lv_iload_n hx hb dL_repair_6 rfl (lv_at hl 3 rfl) ?_
  refine w_l hqo hO (vx_runV (As := [.int a1, .int a2, .int a3]) (rest := [.int (0 : Int32), .ref qo]) (b := A (0, 0, 0)) S (t_X10_repair l hst N D dA A hJ tx _ hc) (cwV 3 hts (lGV (lB 51 rfl) (lB 52 rfl) (lB 53 rfl) (lB 2 rfl) (lB 54 rfl)) rfl rfl rfl (by decide +kernel) ⟨Nat.le_of_ble_eq_true rfl, Nat.le_of_ble_eq_true rfl⟩) ⟨tPc.blind, g_recv (reg := fun _ => True) (H0 := s.heap) (locs := []) ⟨hK, hJ, fun _ _ => trivial⟩ ⟨hP, va_S.rf⟩ (cl_one N 0 (by decide)) rfl rfl, w_pre hP hK hN hT _⟩ rfl rfl hl.1 rfl (lv_room (m := m) (pc := 7) (ls := ls) (rest := [.int a3, .int a2, .int a1, .ref (A (0, 0, 0)), .int (0 : Int32), .ref qo]) (Nat.le_of_ble_eq_true rfl)) dL_repair_7 ⟨Nat.le_of_ble_eq_true rfl, Nat.le_of_ble_eq_true rfl⟩) (fun hk ce q9 H locs Z hce hcv hcl => ?_) (fun hk H locs Z => ?_)
  · have h := if_f hk h
    by_cases h1 : z.1 = 1
    · have h := if_t h1 h
      have hy := Option.some.inj h
      subst hy
      rw [h1] at hcl
      refine vx_catch (E := cIO) (name := cIO) hown [] ⟨0, 11, 14, 13⟩ [] htab (fun z hz => by cases hz) (by decide) (by decide) (hts _ (lBc 0 rfl)) (hcs _ w_cI) hce hcv hcl ?_
      refine lv_astore (lv' := [(5, .ref q9), (0, .ref (A (0, 0, 0))), (1, .int a1), (2, .int a2), (3, .int a3), (4, .ref qo)]) hx hb dL_repair_14 hl (by decide) rfl (fun ls hl => ?_)
      refine lv_iconst (v := (1 : Int32)) hx hb dL_repair_16 (by decide) ?_
      exact w_ri S Z hr hlocks dL_repair_17
    · have h := if_f h1 h
      cases h
  · have h := if_t hk h
    have hy := Option.some.inj h
    subst hy
    refine w_last S hqo hAr Z dL_repair_10 (fun H locs Z => ?_)
    refine lv_goto (tgt := 18) hx hb dL_repair_11 (by decide) ?_
    refine lv_iconst (v := (0 : Int32)) hx hb dL_repair_18 (by decide) ?_
    exact w_ri S Z hr hlocks dL_repair_19
-- L_copy
theorem dL_copy_0 : decode cL_copy 0 = .ok (.aload 4, 2) := by decide +kernel
theorem dL_copy_2 : decode cL_copy 2 = .ok (.iconst 0, 1) := by decide +kernel
theorem dL_copy_3 : decode cL_copy 3 = .ok (.aload_n 0, 1) := by decide +kernel
theorem dL_copy_4 : decode cL_copy 4 = .ok (.iload_n 1, 1) := by decide +kernel
theorem dL_copy_5 : decode cL_copy 5 = .ok (.iload_n 2, 1) := by decide +kernel
theorem dL_copy_6 : decode cL_copy 6 = .ok (.iload_n 3, 1) := by decide +kernel
theorem dL_copy_7 : decode cL_copy 7 = .ok (.invokevirtual 61, 3) := by decide +kernel
theorem dL_copy_10 : decode cL_copy 10 = .ok (.lastore, 1) := by decide +kernel
theorem dL_copy_11 : decode cL_copy 11 = .ok (.goto 7, 3) := by decide +kernel
theorem dL_copy_14 : decode cL_copy 14 = .ok (.astore 5, 2) := by decide +kernel
theorem dL_copy_16 : decode cL_copy 16 = .ok (.iconst 1, 1) := by decide +kernel
theorem dL_copy_17 : decode cL_copy 17 = .ok (.ireturn, 1) := by decide +kernel
theorem dL_copy_18 : decode cL_copy 18 = .ok (.iconst 0, 1) := by decide +kernel
theorem dL_copy_19 : decode cL_copy 19 = .ok (.ireturn, 1) := by decide +kernel
abbrev wmL_copy : List Cond := .codeWith yL_copy cL_copy 6 (some .int) [(0, 11, 14, 13)] :: lBig
def f_L_copy (N : Nat) (M : gM) (w : Int64) (a1 : Int32) (a2 : Int32) (a3 : Int32) : Option (Int32 × Int64 × gM) :=
  o1 (f_X10_copy N M a1 a2 a3) (fun y => if y.1 = 0 then some (0, y.2.1, y.2.2) else if y.1 = 1 then some (1, w, y.2.2) else none)
set_option maxHeartbeats 4000000 in
set_option maxRecDepth 100000 in
theorem t_L_copy (l : Launch) (hst : l.stackTraces = false) (N : Nat) (D : va_G) (dA : Nat → ClassId) (A : gI → Nat) (hJ : gJ (cLive N) A) (tx : Nat → Nat) (sz : Nat) (cL : ClassId) (qo : Nat) (hqo : ¬ gA (cLive N) A qo ∧ qo < sz) (w : Int64) {M : gM} {a1 : Int32} {a2 : Int32} {a3 : Int32} {y : Int32 × Int64 × gM} (h : f_L_copy N M w a1 a2 a3 = some y) : wM l yL_copy wmL_copy ({ frames := 8, cells := 3, slots := 18, locals := 135 } : Room) N D dA A tx sz cL qo w M [.ref (A (0, 0, 0)), .int a1, .int a2, .int a3, .ref qo] y 3 18 := by
  refine va_MetW (cc := cL_copy) (maxL := 6) (ret := some .int) (hh := [(0, 11, 14, 13)]) (by decide) rfl ?_
  intro p e s m args below meth c s₁ B hml hv
  obtain ⟨rfl, hsz, hP, hK, hN, hT, hO, hAr, hNc⟩ := hv
  subst hsz
  generalize hargs : ([.ref (A (0, 0, 0)), .int a1, .int a2, .int a3, .ref qo] : List Value).toArray = args at B ⊢
  have S : CallFix p m c cL_copy 6 s args wmL_copy RL := ⟨B.exec, B.bytes, hml, findClass_of_methodNamed B.named, atoms_spec (ws := wmL_copy) B.pre⟩
  obtain ⟨hx, hb, -, hown, hts⟩ := id S
  have hr := B.returns
  have hlocks := B.notSynchronized
  have htab : c.exceptionTable.toList = tableOf [(0, 11, 14, 13)] := vx_table (x := yL_copy) B (hts _ List.mem_cons_self)
  have hcs := c_at (args := args) (s := s) (fun w h => hts w (List.mem_cons_of_mem _ (l_t (List.mem_append_right _ (List.mem_append_left _ h))))) hT.2.2.2
  have hl := lv_entry ([.ref (A (0, 0, 0)), .int a1, .int a2, .int a3, .ref qo]) (n := 6) (Nat.le_of_ble_eq_true rfl)
  rw [← hargs, lg_entry_eq, hargs]
  generalize (lg_sl ([.ref (A (0, 0, 0)), .int a1, .int a2, .int a3, .ref qo]) ++ List.replicate (6 - (lg_sl ([.ref (A (0, 0, 0)), .int a1, .int a2, .int a3, .ref qo])).length) Slot.unset).toArray = ls at hl ⊢
  have hl : lv_has ls 6 [(0, .ref (A (0, 0, 0))), (1, .int a1), (2, .int a2), (3, .int a3), (4, .ref qo)] := hl
  unfold f_L_copy at h
  obtain ⟨z, hc, h⟩ := o1_e h
  refine lv_aload hx hb dL_copy_0 (lv_at hl 4 rfl) ?_
  refine lv_iconst (v := (0 : Int32)) hx hb dL_copy_2 (by decide) ?_
  refine lv_aload_n hx hb dL_copy_3 rfl (lv_at hl 0 rfl) ?_
  refine lv_iload_n hx hb dL_copy_4 rfl (lv_at hl 1 rfl) ?_
  refine lv_iload_n hx hb dL_copy_5 rfl (lv_at hl 2 rfl) ?_
  refine lv_iload_n hx hb dL_copy_6 rfl (lv_at hl 3 rfl) ?_
  refine w_l hqo hO (vx_runV (As := [.int a1, .int a2, .int a3]) (rest := [.int (0 : Int32), .ref qo]) (b := A (0, 0, 0)) S (t_X10_copy l hst N D dA A hJ tx _ hc) (cwV 3 hts (lGV (lB 55 rfl) (lB 56 rfl) (lB 57 rfl) (lB 2 rfl) (lB 58 rfl)) rfl rfl rfl (by decide +kernel) ⟨Nat.le_of_ble_eq_true rfl, Nat.le_of_ble_eq_true rfl⟩) ⟨tPc.blind, g_recv (reg := fun _ => True) (H0 := s.heap) (locs := []) ⟨hK, hJ, fun _ _ => trivial⟩ ⟨hP, va_S.rf⟩ (cl_one N 0 (by decide)) rfl rfl, w_pre hP hK hN hT _⟩ rfl rfl hl.1 rfl (lv_room (m := m) (pc := 7) (ls := ls) (rest := [.int a3, .int a2, .int a1, .ref (A (0, 0, 0)), .int (0 : Int32), .ref qo]) (Nat.le_of_ble_eq_true rfl)) dL_copy_7 ⟨Nat.le_of_ble_eq_true rfl, Nat.le_of_ble_eq_true rfl⟩) (fun hk ce q9 H locs Z hce hcv hcl => ?_) (fun hk H locs Z => ?_)
  · have h := if_f hk h
    by_cases h1 : z.1 = 1
    · have h := if_t h1 h
      have hy := Option.some.inj h
      subst hy
      rw [h1] at hcl
      refine vx_catch (E := cIO) (name := cIO) hown [] ⟨0, 11, 14, 13⟩ [] htab (fun z hz => by cases hz) (by decide) (by decide) (hts _ (lBc 0 rfl)) (hcs _ w_cI) hce hcv hcl ?_
      refine lv_astore (lv' := [(5, .ref q9), (0, .ref (A (0, 0, 0))), (1, .int a1), (2, .int a2), (3, .int a3), (4, .ref qo)]) hx hb dL_copy_14 hl (by decide) rfl (fun ls hl => ?_)
      refine lv_iconst (v := (1 : Int32)) hx hb dL_copy_16 (by decide) ?_
      exact w_ri S Z hr hlocks dL_copy_17
    · have h := if_f h1 h
      cases h
  · have h := if_t hk h
    have hy := Option.some.inj h
    subst hy
    refine w_last S hqo hAr Z dL_copy_10 (fun H locs Z => ?_)
    refine lv_goto (tgt := 18) hx hb dL_copy_11 (by decide) ?_
    refine lv_iconst (v := (0 : Int32)) hx hb dL_copy_18 (by decide) ?_
    exact w_ri S Z hr hlocks dL_copy_19
-- L_vector
theorem dL_vector_0 : decode cL_vector 0 = .ok (.aload 5, 2) := by decide +kernel
theorem dL_vector_2 : decode cL_vector 2 = .ok (.iconst 0, 1) := by decide +kernel
theorem dL_vector_3 : decode cL_vector 3 = .ok (.aload_n 0, 1) := by decide +kernel
theorem dL_vector_4 : decode cL_vector 4 = .ok (.iload_n 1, 1) := by decide +kernel
theorem dL_vector_5 : decode cL_vector 5 = .ok (.iload_n 2, 1) := by decide +kernel
theorem dL_vector_6 : decode cL_vector 6 = .ok (.iload_n 3, 1) := by decide +kernel
theorem dL_vector_7 : decode cL_vector 7 = .ok (.iload 4, 2) := by decide +kernel
theorem dL_vector_9 : decode cL_vector 9 = .ok (.invokevirtual 64, 3) := by decide +kernel
theorem dL_vector_12 : decode cL_vector 12 = .ok (.lastore, 1) := by decide +kernel
theorem dL_vector_13 : decode cL_vector 13 = .ok (.goto 7, 3) := by decide +kernel
theorem dL_vector_16 : decode cL_vector 16 = .ok (.astore 6, 2) := by decide +kernel
theorem dL_vector_18 : decode cL_vector 18 = .ok (.iconst 1, 1) := by decide +kernel
theorem dL_vector_19 : decode cL_vector 19 = .ok (.ireturn, 1) := by decide +kernel
theorem dL_vector_20 : decode cL_vector 20 = .ok (.iconst 0, 1) := by decide +kernel
theorem dL_vector_21 : decode cL_vector 21 = .ok (.ireturn, 1) := by decide +kernel
abbrev wmL_vector : List Cond := .codeWith yL_vector cL_vector 7 (some .int) [(0, 13, 16, 13)] :: lBig
def f_L_vector (N : Nat) (M : gM) (w : Int64) (a1 : Int32) (a2 : Int32) (a3 : Int32) (a4 : Int32) : Option (Int32 × Int64 × gM) :=
  o1 (f_X10_vector N M a1 a2 a3 a4) (fun y => if y.1 = 0 then some (0, y.2.1, y.2.2) else if y.1 = 1 then some (1, w, y.2.2) else none)
set_option maxHeartbeats 4000000 in
set_option maxRecDepth 100000 in
theorem t_L_vector (l : Launch) (hst : l.stackTraces = false) (N : Nat) (D : va_G) (dA : Nat → ClassId) (A : gI → Nat) (hJ : gJ (cLive N) A) (tx : Nat → Nat) (sz : Nat) (cL : ClassId) (qo : Nat) (hqo : ¬ gA (cLive N) A qo ∧ qo < sz) (w : Int64) {M : gM} {a1 : Int32} {a2 : Int32} {a3 : Int32} {a4 : Int32} {y : Int32 × Int64 × gM} (h : f_L_vector N M w a1 a2 a3 a4 = some y) : wM l yL_vector wmL_vector ({ frames := 8, cells := 3, slots := 18, locals := 137 } : Room) N D dA A tx sz cL qo w M [.ref (A (0, 0, 0)), .int a1, .int a2, .int a3, .int a4, .ref qo] y 3 18 := by
  refine va_MetW (cc := cL_vector) (maxL := 7) (ret := some .int) (hh := [(0, 13, 16, 13)]) (by decide) rfl ?_
  intro p e s m args below meth c s₁ B hml hv
  obtain ⟨rfl, hsz, hP, hK, hN, hT, hO, hAr, hNc⟩ := hv
  subst hsz
  generalize hargs : ([.ref (A (0, 0, 0)), .int a1, .int a2, .int a3, .int a4, .ref qo] : List Value).toArray = args at B ⊢
  have S : CallFix p m c cL_vector 7 s args wmL_vector RL := ⟨B.exec, B.bytes, hml, findClass_of_methodNamed B.named, atoms_spec (ws := wmL_vector) B.pre⟩
  obtain ⟨hx, hb, -, hown, hts⟩ := id S
  have hr := B.returns
  have hlocks := B.notSynchronized
  have htab : c.exceptionTable.toList = tableOf [(0, 13, 16, 13)] := vx_table (x := yL_vector) B (hts _ List.mem_cons_self)
  have hcs := c_at (args := args) (s := s) (fun w h => hts w (List.mem_cons_of_mem _ (l_t (List.mem_append_right _ (List.mem_append_left _ h))))) hT.2.2.2
  have hl := lv_entry ([.ref (A (0, 0, 0)), .int a1, .int a2, .int a3, .int a4, .ref qo]) (n := 7) (Nat.le_of_ble_eq_true rfl)
  rw [← hargs, lg_entry_eq, hargs]
  generalize (lg_sl ([.ref (A (0, 0, 0)), .int a1, .int a2, .int a3, .int a4, .ref qo]) ++ List.replicate (7 - (lg_sl ([.ref (A (0, 0, 0)), .int a1, .int a2, .int a3, .int a4, .ref qo])).length) Slot.unset).toArray = ls at hl ⊢
  have hl : lv_has ls 7 [(0, .ref (A (0, 0, 0))), (1, .int a1), (2, .int a2), (3, .int a3), (4, .int a4), (5, .ref qo)] := hl
  unfold f_L_vector at h
  obtain ⟨z, hc, h⟩ := o1_e h
  refine lv_aload hx hb dL_vector_0 (lv_at hl 5 rfl) ?_
  refine lv_iconst (v := (0 : Int32)) hx hb dL_vector_2 (by decide) ?_
  refine lv_aload_n hx hb dL_vector_3 rfl (lv_at hl 0 rfl) ?_
  refine lv_iload_n hx hb dL_vector_4 rfl (lv_at hl 1 rfl) ?_
  refine lv_iload_n hx hb dL_vector_5 rfl (lv_at hl 2 rfl) ?_
  refine lv_iload_n hx hb dL_vector_6 rfl (lv_at hl 3 rfl) ?_
  refine lv_iload hx hb dL_vector_7 (lv_at hl 4 rfl) ?_
  refine w_l hqo hO (vx_runV (As := [.int a1, .int a2, .int a3, .int a4]) (rest := [.int (0 : Int32), .ref qo]) (b := A (0, 0, 0)) S (t_X10_vector l hst N D dA A hJ tx _ hc) (cwV 4 hts (lGV (lB 59 rfl) (lB 60 rfl) (lB 61 rfl) (lB 2 rfl) (lB 62 rfl)) rfl rfl rfl (by decide +kernel) ⟨Nat.le_of_ble_eq_true rfl, Nat.le_of_ble_eq_true rfl⟩) ⟨tPc.blind, g_recv (reg := fun _ => True) (H0 := s.heap) (locs := []) ⟨hK, hJ, fun _ _ => trivial⟩ ⟨hP, va_S.rf⟩ (cl_one N 0 (by decide)) rfl rfl, w_pre hP hK hN hT _⟩ rfl rfl hl.1 rfl (lv_room (m := m) (pc := 9) (ls := ls) (rest := [.int a4, .int a3, .int a2, .int a1, .ref (A (0, 0, 0)), .int (0 : Int32), .ref qo]) (Nat.le_of_ble_eq_true rfl)) dL_vector_9 ⟨Nat.le_of_ble_eq_true rfl, Nat.le_of_ble_eq_true rfl⟩) (fun hk ce q9 H locs Z hce hcv hcl => ?_) (fun hk H locs Z => ?_)
  · have h := if_f hk h
    by_cases h1 : z.1 = 1
    · have h := if_t h1 h
      have hy := Option.some.inj h
      subst hy
      rw [h1] at hcl
      refine vx_catch (E := cIO) (name := cIO) hown [] ⟨0, 13, 16, 13⟩ [] htab (fun z hz => by cases hz) (by decide) (by decide) (hts _ (lBc 0 rfl)) (hcs _ w_cI) hce hcv hcl ?_
      refine lv_astore (lv' := [(6, .ref q9), (0, .ref (A (0, 0, 0))), (1, .int a1), (2, .int a2), (3, .int a3), (4, .int a4), (5, .ref qo)]) hx hb dL_vector_16 hl (by decide) rfl (fun ls hl => ?_)
      refine lv_iconst (v := (1 : Int32)) hx hb dL_vector_18 (by decide) ?_
      exact w_ri S Z hr hlocks dL_vector_19
    · have h := if_f h1 h
      cases h
  · have h := if_t hk h
    have hy := Option.some.inj h
    subst hy
    refine w_last S hqo hAr Z dL_vector_12 (fun H locs Z => ?_)
    refine lv_goto (tgt := 20) hx hb dL_vector_13 (by decide) ?_
    refine lv_iconst (v := (0 : Int32)) hx hb dL_vector_20 (by decide) ?_
    exact w_ri S Z hr hlocks dL_vector_21
-- L_version
theorem dL_version_0 : decode cL_version 0 = .ok (.aload 5, 2) := by decide +kernel
theorem dL_version_2 : decode cL_version 2 = .ok (.iconst 0, 1) := by decide +kernel
theorem dL_version_3 : decode cL_version 3 = .ok (.aload_n 0, 1) := by decide +kernel
theorem dL_version_4 : decode cL_version 4 = .ok (.iload_n 1, 1) := by decide +kernel
theorem dL_version_5 : decode cL_version 5 = .ok (.iload_n 2, 1) := by decide +kernel
theorem dL_version_6 : decode cL_version 6 = .ok (.iload_n 3, 1) := by decide +kernel
theorem dL_version_7 : decode cL_version 7 = .ok (.iload 4, 2) := by decide +kernel
theorem dL_version_9 : decode cL_version 9 = .ok (.invokevirtual 67, 3) := by decide +kernel
theorem dL_version_12 : decode cL_version 12 = .ok (.lastore, 1) := by decide +kernel
theorem dL_version_13 : decode cL_version 13 = .ok (.goto 7, 3) := by decide +kernel
theorem dL_version_16 : decode cL_version 16 = .ok (.astore 6, 2) := by decide +kernel
theorem dL_version_18 : decode cL_version 18 = .ok (.iconst 1, 1) := by decide +kernel
theorem dL_version_19 : decode cL_version 19 = .ok (.ireturn, 1) := by decide +kernel
theorem dL_version_20 : decode cL_version 20 = .ok (.iconst 0, 1) := by decide +kernel
theorem dL_version_21 : decode cL_version 21 = .ok (.ireturn, 1) := by decide +kernel
abbrev wmL_version : List Cond := .codeWith yL_version cL_version 7 (some .int) [(0, 13, 16, 13)] :: lBig
def f_L_version (N : Nat) (M : gM) (w : Int64) (a1 : Int32) (a2 : Int32) (a3 : Int32) (a4 : Int32) : Option (Int32 × Int64 × gM) :=
  o1 (f_X10_version N M a1 a2 a3 a4) (fun y => if y.1 = 0 then some (0, y.2.1, y.2.2) else if y.1 = 1 then some (1, w, y.2.2) else none)
set_option maxHeartbeats 4000000 in
set_option maxRecDepth 100000 in
theorem t_L_version (l : Launch) (hst : l.stackTraces = false) (N : Nat) (D : va_G) (dA : Nat → ClassId) (A : gI → Nat) (hJ : gJ (cLive N) A) (tx : Nat → Nat) (sz : Nat) (cL : ClassId) (qo : Nat) (hqo : ¬ gA (cLive N) A qo ∧ qo < sz) (w : Int64) {M : gM} {a1 : Int32} {a2 : Int32} {a3 : Int32} {a4 : Int32} {y : Int32 × Int64 × gM} (h : f_L_version N M w a1 a2 a3 a4 = some y) : wM l yL_version wmL_version ({ frames := 8, cells := 3, slots := 18, locals := 136 } : Room) N D dA A tx sz cL qo w M [.ref (A (0, 0, 0)), .int a1, .int a2, .int a3, .int a4, .ref qo] y 3 18 := by
  refine va_MetW (cc := cL_version) (maxL := 7) (ret := some .int) (hh := [(0, 13, 16, 13)]) (by decide) rfl ?_
  intro p e s m args below meth c s₁ B hml hv
  obtain ⟨rfl, hsz, hP, hK, hN, hT, hO, hAr, hNc⟩ := hv
  subst hsz
  generalize hargs : ([.ref (A (0, 0, 0)), .int a1, .int a2, .int a3, .int a4, .ref qo] : List Value).toArray = args at B ⊢
  have S : CallFix p m c cL_version 7 s args wmL_version RL := ⟨B.exec, B.bytes, hml, findClass_of_methodNamed B.named, atoms_spec (ws := wmL_version) B.pre⟩
  obtain ⟨hx, hb, -, hown, hts⟩ := id S
  have hr := B.returns
  have hlocks := B.notSynchronized
  have htab : c.exceptionTable.toList = tableOf [(0, 13, 16, 13)] := vx_table (x := yL_version) B (hts _ List.mem_cons_self)
  have hcs := c_at (args := args) (s := s) (fun w h => hts w (List.mem_cons_of_mem _ (l_t (List.mem_append_right _ (List.mem_append_left _ h))))) hT.2.2.2
  have hl := lv_entry ([.ref (A (0, 0, 0)), .int a1, .int a2, .int a3, .int a4, .ref qo]) (n := 7) (Nat.le_of_ble_eq_true rfl)
  rw [← hargs, lg_entry_eq, hargs]
  generalize (lg_sl ([.ref (A (0, 0, 0)), .int a1, .int a2, .int a3, .int a4, .ref qo]) ++ List.replicate (7 - (lg_sl ([.ref (A (0, 0, 0)), .int a1, .int a2, .int a3, .int a4, .ref qo])).length) Slot.unset).toArray = ls at hl ⊢
  have hl : lv_has ls 7 [(0, .ref (A (0, 0, 0))), (1, .int a1), (2, .int a2), (3, .int a3), (4, .int a4), (5, .ref qo)] := hl
  unfold f_L_version at h
  obtain ⟨z, hc, h⟩ := o1_e h
  refine lv_aload hx hb dL_version_0 (lv_at hl 5 rfl) ?_
  refine lv_iconst (v := (0 : Int32)) hx hb dL_version_2 (by decide) ?_
  refine lv_aload_n hx hb dL_version_3 rfl (lv_at hl 0 rfl) ?_
  refine lv_iload_n hx hb dL_version_4 rfl (lv_at hl 1 rfl) ?_
  refine lv_iload_n hx hb dL_version_5 rfl (lv_at hl 2 rfl) ?_
  refine lv_iload_n hx hb dL_version_6 rfl (lv_at hl 3 rfl) ?_
  refine lv_iload hx hb dL_version_7 (lv_at hl 4 rfl) ?_
  refine w_l hqo hO (vx_runV (As := [.int a1, .int a2, .int a3, .int a4]) (rest := [.int (0 : Int32), .ref qo]) (b := A (0, 0, 0)) S (t_X10_version l hst N D dA A hJ tx _ hc) (cwV 4 hts (lGV (lB 63 rfl) (lB 64 rfl) (lB 65 rfl) (lB 2 rfl) (lB 66 rfl)) rfl rfl rfl (by decide +kernel) ⟨Nat.le_of_ble_eq_true rfl, Nat.le_of_ble_eq_true rfl⟩) ⟨tPc.blind, g_recv (reg := fun _ => True) (H0 := s.heap) (locs := []) ⟨hK, hJ, fun _ _ => trivial⟩ ⟨hP, va_S.rf⟩ (cl_one N 0 (by decide)) rfl rfl, w_pre hP hK hN hT _⟩ rfl rfl hl.1 rfl (lv_room (m := m) (pc := 9) (ls := ls) (rest := [.int a4, .int a3, .int a2, .int a1, .ref (A (0, 0, 0)), .int (0 : Int32), .ref qo]) (Nat.le_of_ble_eq_true rfl)) dL_version_9 ⟨Nat.le_of_ble_eq_true rfl, Nat.le_of_ble_eq_true rfl⟩) (fun hk ce q9 H locs Z hce hcv hcl => ?_) (fun hk H locs Z => ?_)
  · have h := if_f hk h
    by_cases h1 : z.1 = 1
    · have h := if_t h1 h
      have hy := Option.some.inj h
      subst hy
      rw [h1] at hcl
      refine vx_catch (E := cIO) (name := cIO) hown [] ⟨0, 13, 16, 13⟩ [] htab (fun z hz => by cases hz) (by decide) (by decide) (hts _ (lBc 0 rfl)) (hcs _ w_cI) hce hcv hcl ?_
      refine lv_astore (lv' := [(6, .ref q9), (0, .ref (A (0, 0, 0))), (1, .int a1), (2, .int a2), (3, .int a3), (4, .int a4), (5, .ref qo)]) hx hb dL_version_16 hl (by decide) rfl (fun ls hl => ?_)
      refine lv_iconst (v := (1 : Int32)) hx hb dL_version_18 (by decide) ?_
      exact w_ri S Z hr hlocks dL_version_19
    · have h := if_f h1 h
      cases h
  · have h := if_t hk h
    have hy := Option.some.inj h
    subst hy
    refine w_last S hqo hAr Z dL_version_12 (fun H locs Z => ?_)
    refine lv_goto (tgt := 20) hx hb dL_version_13 (by decide) ?_
    refine lv_iconst (v := (0 : Int32)) hx hb dL_version_20 (by decide) ?_
    exact w_ri S Z hr hlocks dL_version_21
-- L_entry
theorem dL_entry_0 : decode cL_entry 0 = .ok (.aload 5, 2) := by decide +kernel
theorem dL_entry_2 : decode cL_entry 2 = .ok (.iconst 0, 1) := by decide +kernel
theorem dL_entry_3 : decode cL_entry 3 = .ok (.aload_n 0, 1) := by decide +kernel
theorem dL_entry_4 : decode cL_entry 4 = .ok (.iload_n 1, 1) := by decide +kernel
theorem dL_entry_5 : decode cL_entry 5 = .ok (.iload_n 2, 1) := by decide +kernel
theorem dL_entry_6 : decode cL_entry 6 = .ok (.iload_n 3, 1) := by decide +kernel
theorem dL_entry_7 : decode cL_entry 7 = .ok (.iload 4, 2) := by decide +kernel
theorem dL_entry_9 : decode cL_entry 9 = .ok (.invokevirtual 70, 3) := by decide +kernel
theorem dL_entry_12 : decode cL_entry 12 = .ok (.lastore, 1) := by decide +kernel
theorem dL_entry_13 : decode cL_entry 13 = .ok (.goto 7, 3) := by decide +kernel
theorem dL_entry_16 : decode cL_entry 16 = .ok (.astore 6, 2) := by decide +kernel
theorem dL_entry_18 : decode cL_entry 18 = .ok (.iconst 1, 1) := by decide +kernel
theorem dL_entry_19 : decode cL_entry 19 = .ok (.ireturn, 1) := by decide +kernel
theorem dL_entry_20 : decode cL_entry 20 = .ok (.iconst 0, 1) := by decide +kernel
theorem dL_entry_21 : decode cL_entry 21 = .ok (.ireturn, 1) := by decide +kernel
abbrev wmL_entry : List Cond := .codeWith yL_entry cL_entry 7 (some .int) [(0, 13, 16, 13)] :: lBig
def f_L_entry (N : Nat) (M : gM) (w : Int64) (a1 : Int32) (a2 : Int32) (a3 : Int32) (a4 : Int32) : Option (Int32 × Int64 × gM) :=
  o1 (f_X10_entry N M a1 a2 a3 a4) (fun y => if y.1 = 0 then some (0, y.2.1, y.2.2) else if y.1 = 1 then some (1, w, y.2.2) else none)
set_option maxHeartbeats 4000000 in
set_option maxRecDepth 100000 in
theorem t_L_entry (l : Launch) (hst : l.stackTraces = false) (N : Nat) (D : va_G) (dA : Nat → ClassId) (A : gI → Nat) (hJ : gJ (cLive N) A) (tx : Nat → Nat) (sz : Nat) (cL : ClassId) (qo : Nat) (hqo : ¬ gA (cLive N) A qo ∧ qo < sz) (w : Int64) {M : gM} {a1 : Int32} {a2 : Int32} {a3 : Int32} {a4 : Int32} {y : Int32 × Int64 × gM} (h : f_L_entry N M w a1 a2 a3 a4 = some y) : wM l yL_entry wmL_entry ({ frames := 8, cells := 3, slots := 18, locals := 137 } : Room) N D dA A tx sz cL qo w M [.ref (A (0, 0, 0)), .int a1, .int a2, .int a3, .int a4, .ref qo] y 3 18 := by
  refine va_MetW (cc := cL_entry) (maxL := 7) (ret := some .int) (hh := [(0, 13, 16, 13)]) (by decide) rfl ?_
  intro p e s m args below meth c s₁ B hml hv
  obtain ⟨rfl, hsz, hP, hK, hN, hT, hO, hAr, hNc⟩ := hv
  subst hsz
  generalize hargs : ([.ref (A (0, 0, 0)), .int a1, .int a2, .int a3, .int a4, .ref qo] : List Value).toArray = args at B ⊢
  have S : CallFix p m c cL_entry 7 s args wmL_entry RL := ⟨B.exec, B.bytes, hml, findClass_of_methodNamed B.named, atoms_spec (ws := wmL_entry) B.pre⟩
  obtain ⟨hx, hb, -, hown, hts⟩ := id S
  have hr := B.returns
  have hlocks := B.notSynchronized
  have htab : c.exceptionTable.toList = tableOf [(0, 13, 16, 13)] := vx_table (x := yL_entry) B (hts _ List.mem_cons_self)
  have hcs := c_at (args := args) (s := s) (fun w h => hts w (List.mem_cons_of_mem _ (l_t (List.mem_append_right _ (List.mem_append_left _ h))))) hT.2.2.2
  have hl := lv_entry ([.ref (A (0, 0, 0)), .int a1, .int a2, .int a3, .int a4, .ref qo]) (n := 7) (Nat.le_of_ble_eq_true rfl)
  rw [← hargs, lg_entry_eq, hargs]
  generalize (lg_sl ([.ref (A (0, 0, 0)), .int a1, .int a2, .int a3, .int a4, .ref qo]) ++ List.replicate (7 - (lg_sl ([.ref (A (0, 0, 0)), .int a1, .int a2, .int a3, .int a4, .ref qo])).length) Slot.unset).toArray = ls at hl ⊢
  have hl : lv_has ls 7 [(0, .ref (A (0, 0, 0))), (1, .int a1), (2, .int a2), (3, .int a3), (4, .int a4), (5, .ref qo)] := hl
  unfold f_L_entry at h
  obtain ⟨z, hc, h⟩ := o1_e h
  refine lv_aload hx hb dL_entry_0 (lv_at hl 5 rfl) ?_
  refine lv_iconst (v := (0 : Int32)) hx hb dL_entry_2 (by decide) ?_
  refine lv_aload_n hx hb dL_entry_3 rfl (lv_at hl 0 rfl) ?_
  refine lv_iload_n hx hb dL_entry_4 rfl (lv_at hl 1 rfl) ?_
  refine lv_iload_n hx hb dL_entry_5 rfl (lv_at hl 2 rfl) ?_
  refine lv_iload_n hx hb dL_entry_6 rfl (lv_at hl 3 rfl) ?_
  refine lv_iload hx hb dL_entry_7 (lv_at hl 4 rfl) ?_
  refine w_l hqo hO (vx_runV (As := [.int a1, .int a2, .int a3, .int a4]) (rest := [.int (0 : Int32), .ref qo]) (b := A (0, 0, 0)) S (t_X10_entry l hst N D dA A hJ tx _ hc) (cwV 4 hts (lGV (lB 67 rfl) (lB 68 rfl) (lB 69 rfl) (lB 2 rfl) (lB 70 rfl)) rfl rfl rfl (by decide +kernel) ⟨Nat.le_of_ble_eq_true rfl, Nat.le_of_ble_eq_true rfl⟩) ⟨tPc.blind, g_recv (reg := fun _ => True) (H0 := s.heap) (locs := []) ⟨hK, hJ, fun _ _ => trivial⟩ ⟨hP, va_S.rf⟩ (cl_one N 0 (by decide)) rfl rfl, w_pre hP hK hN hT _⟩ rfl rfl hl.1 rfl (lv_room (m := m) (pc := 9) (ls := ls) (rest := [.int a4, .int a3, .int a2, .int a1, .ref (A (0, 0, 0)), .int (0 : Int32), .ref qo]) (Nat.le_of_ble_eq_true rfl)) dL_entry_9 ⟨Nat.le_of_ble_eq_true rfl, Nat.le_of_ble_eq_true rfl⟩) (fun hk ce q9 H locs Z hce hcv hcl => ?_) (fun hk H locs Z => ?_)
  · have h := if_f hk h
    by_cases h1 : z.1 = 1
    · have h := if_t h1 h
      have hy := Option.some.inj h
      subst hy
      rw [h1] at hcl
      refine vx_catch (E := cIO) (name := cIO) hown [] ⟨0, 13, 16, 13⟩ [] htab (fun z hz => by cases hz) (by decide) (by decide) (hts _ (lBc 0 rfl)) (hcs _ w_cI) hce hcv hcl ?_
      refine lv_astore (lv' := [(6, .ref q9), (0, .ref (A (0, 0, 0))), (1, .int a1), (2, .int a2), (3, .int a3), (4, .int a4), (5, .ref qo)]) hx hb dL_entry_16 hl (by decide) rfl (fun ls hl => ?_)
      refine lv_iconst (v := (1 : Int32)) hx hb dL_entry_18 (by decide) ?_
      exact w_ri S Z hr hlocks dL_entry_19
    · have h := if_f h1 h
      cases h
  · have h := if_t hk h
    have hy := Option.some.inj h
    subst hy
    refine w_last S hqo hAr Z dL_entry_12 (fun H locs Z => ?_)
    refine lv_goto (tgt := 20) hx hb dL_entry_13 (by decide) ?_
    refine lv_iconst (v := (0 : Int32)) hx hb dL_entry_20 (by decide) ?_
    exact w_ri S Z hr hlocks dL_entry_21
-- L_cached
theorem dL_cached_0 : decode cL_cached 0 = .ok (.aload 4, 2) := by decide +kernel
theorem dL_cached_2 : decode cL_cached 2 = .ok (.iconst 0, 1) := by decide +kernel
theorem dL_cached_3 : decode cL_cached 3 = .ok (.aload_n 0, 1) := by decide +kernel
theorem dL_cached_4 : decode cL_cached 4 = .ok (.iload_n 1, 1) := by decide +kernel
theorem dL_cached_5 : decode cL_cached 5 = .ok (.iload_n 2, 1) := by decide +kernel
theorem dL_cached_6 : decode cL_cached 6 = .ok (.iload_n 3, 1) := by decide +kernel
theorem dL_cached_7 : decode cL_cached 7 = .ok (.invokevirtual 73, 3) := by decide +kernel
theorem dL_cached_10 : decode cL_cached 10 = .ok (.lastore, 1) := by decide +kernel
theorem dL_cached_11 : decode cL_cached 11 = .ok (.goto 7, 3) := by decide +kernel
theorem dL_cached_14 : decode cL_cached 14 = .ok (.astore 5, 2) := by decide +kernel
theorem dL_cached_16 : decode cL_cached 16 = .ok (.iconst 1, 1) := by decide +kernel
theorem dL_cached_17 : decode cL_cached 17 = .ok (.ireturn, 1) := by decide +kernel
theorem dL_cached_18 : decode cL_cached 18 = .ok (.iconst 0, 1) := by decide +kernel
theorem dL_cached_19 : decode cL_cached 19 = .ok (.ireturn, 1) := by decide +kernel
abbrev wmL_cached : List Cond := .codeWith yL_cached cL_cached 6 (some .int) [(0, 11, 14, 13)] :: lBig
def f_L_cached (N : Nat) (M : gM) (w : Int64) (a1 : Int32) (a2 : Int32) (a3 : Int32) : Option (Int32 × Int64 × gM) :=
  o1 (f_X10_cached N M a1 a2 a3) (fun y => if y.1 = 0 then some (0, y.2.1, y.2.2) else if y.1 = 1 then some (1, w, y.2.2) else none)
set_option maxHeartbeats 4000000 in
set_option maxRecDepth 100000 in
theorem t_L_cached (l : Launch) (hst : l.stackTraces = false) (N : Nat) (D : va_G) (dA : Nat → ClassId) (A : gI → Nat) (hJ : gJ (cLive N) A) (tx : Nat → Nat) (sz : Nat) (cL : ClassId) (qo : Nat) (hqo : ¬ gA (cLive N) A qo ∧ qo < sz) (w : Int64) {M : gM} {a1 : Int32} {a2 : Int32} {a3 : Int32} {y : Int32 × Int64 × gM} (h : f_L_cached N M w a1 a2 a3 = some y) : wM l yL_cached wmL_cached ({ frames := 8, cells := 3, slots := 18, locals := 135 } : Room) N D dA A tx sz cL qo w M [.ref (A (0, 0, 0)), .int a1, .int a2, .int a3, .ref qo] y 3 18 := by
  refine va_MetW (cc := cL_cached) (maxL := 6) (ret := some .int) (hh := [(0, 11, 14, 13)]) (by decide) rfl ?_
  intro p e s m args below meth c s₁ B hml hv
  obtain ⟨rfl, hsz, hP, hK, hN, hT, hO, hAr, hNc⟩ := hv
  subst hsz
  generalize hargs : ([.ref (A (0, 0, 0)), .int a1, .int a2, .int a3, .ref qo] : List Value).toArray = args at B ⊢
  have S : CallFix p m c cL_cached 6 s args wmL_cached RL := ⟨B.exec, B.bytes, hml, findClass_of_methodNamed B.named, atoms_spec (ws := wmL_cached) B.pre⟩
  obtain ⟨hx, hb, -, hown, hts⟩ := id S
  have hr := B.returns
  have hlocks := B.notSynchronized
  have htab : c.exceptionTable.toList = tableOf [(0, 11, 14, 13)] := vx_table (x := yL_cached) B (hts _ List.mem_cons_self)
  have hcs := c_at (args := args) (s := s) (fun w h => hts w (List.mem_cons_of_mem _ (l_t (List.mem_append_right _ (List.mem_append_left _ h))))) hT.2.2.2
  have hl := lv_entry ([.ref (A (0, 0, 0)), .int a1, .int a2, .int a3, .ref qo]) (n := 6) (Nat.le_of_ble_eq_true rfl)
  rw [← hargs, lg_entry_eq, hargs]
  generalize (lg_sl ([.ref (A (0, 0, 0)), .int a1, .int a2, .int a3, .ref qo]) ++ List.replicate (6 - (lg_sl ([.ref (A (0, 0, 0)), .int a1, .int a2, .int a3, .ref qo])).length) Slot.unset).toArray = ls at hl ⊢
  have hl : lv_has ls 6 [(0, .ref (A (0, 0, 0))), (1, .int a1), (2, .int a2), (3, .int a3), (4, .ref qo)] := hl
  unfold f_L_cached at h
  obtain ⟨z, hc, h⟩ := o1_e h
  refine lv_aload hx hb dL_cached_0 (lv_at hl 4 rfl) ?_
  refine lv_iconst (v := (0 : Int32)) hx hb dL_cached_2 (by decide) ?_
  refine lv_aload_n hx hb dL_cached_3 rfl (lv_at hl 0 rfl) ?_
  refine lv_iload_n hx hb dL_cached_4 rfl (lv_at hl 1 rfl) ?_
  refine lv_iload_n hx hb dL_cached_5 rfl (lv_at hl 2 rfl) ?_
  refine lv_iload_n hx hb dL_cached_6 rfl (lv_at hl 3 rfl) ?_
  refine w_l hqo hO (vx_runV (As := [.int a1, .int a2, .int a3]) (rest := [.int (0 : Int32), .ref qo]) (b := A (0, 0, 0)) S (t_X10_cached l hst N D dA A hJ tx _ hc) (cwV 3 hts (lGV (lB 71 rfl) (lB 72 rfl) (lB 73 rfl) (lB 2 rfl) (lB 74 rfl)) rfl rfl rfl (by decide +kernel) ⟨Nat.le_of_ble_eq_true rfl, Nat.le_of_ble_eq_true rfl⟩) ⟨tPc.blind, g_recv (reg := fun _ => True) (H0 := s.heap) (locs := []) ⟨hK, hJ, fun _ _ => trivial⟩ ⟨hP, va_S.rf⟩ (cl_one N 0 (by decide)) rfl rfl, w_pre hP hK hN hT _⟩ rfl rfl hl.1 rfl (lv_room (m := m) (pc := 7) (ls := ls) (rest := [.int a3, .int a2, .int a1, .ref (A (0, 0, 0)), .int (0 : Int32), .ref qo]) (Nat.le_of_ble_eq_true rfl)) dL_cached_7 ⟨Nat.le_of_ble_eq_true rfl, Nat.le_of_ble_eq_true rfl⟩) (fun hk ce q9 H locs Z hce hcv hcl => ?_) (fun hk H locs Z => ?_)
  · have h := if_f hk h
    by_cases h1 : z.1 = 1
    · have h := if_t h1 h
      have hy := Option.some.inj h
      subst hy
      rw [h1] at hcl
      refine vx_catch (E := cIO) (name := cIO) hown [] ⟨0, 11, 14, 13⟩ [] htab (fun z hz => by cases hz) (by decide) (by decide) (hts _ (lBc 0 rfl)) (hcs _ w_cI) hce hcv hcl ?_
      refine lv_astore (lv' := [(5, .ref q9), (0, .ref (A (0, 0, 0))), (1, .int a1), (2, .int a2), (3, .int a3), (4, .ref qo)]) hx hb dL_cached_14 hl (by decide) rfl (fun ls hl => ?_)
      refine lv_iconst (v := (1 : Int32)) hx hb dL_cached_16 (by decide) ?_
      exact w_ri S Z hr hlocks dL_cached_17
    · have h := if_f h1 h
      cases h
  · have h := if_t hk h
    have hy := Option.some.inj h
    subst hy
    refine w_last S hqo hAr Z dL_cached_10 (fun H locs Z => ?_)
    refine lv_goto (tgt := 18) hx hb dL_cached_11 (by decide) ?_
    refine lv_iconst (v := (0 : Int32)) hx hb dL_cached_18 (by decide) ?_
    exact w_ri S Z hr hlocks dL_cached_19
-- L_record
theorem dL_record_0 : decode cL_record 0 = .ok (.aload 4, 2) := by decide +kernel
theorem dL_record_2 : decode cL_record 2 = .ok (.iconst 0, 1) := by decide +kernel
theorem dL_record_3 : decode cL_record 3 = .ok (.aload_n 0, 1) := by decide +kernel
theorem dL_record_4 : decode cL_record 4 = .ok (.iload_n 1, 1) := by decide +kernel
theorem dL_record_5 : decode cL_record 5 = .ok (.iload_n 2, 1) := by decide +kernel
theorem dL_record_6 : decode cL_record 6 = .ok (.iload_n 3, 1) := by decide +kernel
theorem dL_record_7 : decode cL_record 7 = .ok (.invokevirtual 76, 3) := by decide +kernel
theorem dL_record_10 : decode cL_record 10 = .ok (.lastore, 1) := by decide +kernel
theorem dL_record_11 : decode cL_record 11 = .ok (.goto 7, 3) := by decide +kernel
theorem dL_record_14 : decode cL_record 14 = .ok (.astore 5, 2) := by decide +kernel
theorem dL_record_16 : decode cL_record 16 = .ok (.iconst 1, 1) := by decide +kernel
theorem dL_record_17 : decode cL_record 17 = .ok (.ireturn, 1) := by decide +kernel
theorem dL_record_18 : decode cL_record 18 = .ok (.iconst 0, 1) := by decide +kernel
theorem dL_record_19 : decode cL_record 19 = .ok (.ireturn, 1) := by decide +kernel
abbrev wmL_record : List Cond := .codeWith yL_record cL_record 6 (some .int) [(0, 11, 14, 13)] :: lBig
def f_L_record (N : Nat) (M : gM) (w : Int64) (a1 : Int32) (a2 : Int32) (a3 : Int32) : Option (Int32 × Int64 × gM) :=
  o1 (f_X10_record N M a1 a2 a3) (fun y => if y.1 = 0 then some (0, y.2.1, y.2.2) else if y.1 = 1 then some (1, w, y.2.2) else none)
set_option maxHeartbeats 4000000 in
set_option maxRecDepth 100000 in
theorem t_L_record (l : Launch) (hst : l.stackTraces = false) (N : Nat) (D : va_G) (dA : Nat → ClassId) (A : gI → Nat) (hJ : gJ (cLive N) A) (tx : Nat → Nat) (sz : Nat) (cL : ClassId) (qo : Nat) (hqo : ¬ gA (cLive N) A qo ∧ qo < sz) (w : Int64) {M : gM} {a1 : Int32} {a2 : Int32} {a3 : Int32} {y : Int32 × Int64 × gM} (h : f_L_record N M w a1 a2 a3 = some y) : wM l yL_record wmL_record ({ frames := 8, cells := 2, slots := 12, locals := 135 } : Room) N D dA A tx sz cL qo w M [.ref (A (0, 0, 0)), .int a1, .int a2, .int a3, .ref qo] y 2 12 := by
  refine va_MetW (cc := cL_record) (maxL := 6) (ret := some .int) (hh := [(0, 11, 14, 13)]) (by decide) rfl ?_
  intro p e s m args below meth c s₁ B hml hv
  obtain ⟨rfl, hsz, hP, hK, hN, hT, hO, hAr, hNc⟩ := hv
  subst hsz
  generalize hargs : ([.ref (A (0, 0, 0)), .int a1, .int a2, .int a3, .ref qo] : List Value).toArray = args at B ⊢
  have S : CallFix p m c cL_record 6 s args wmL_record RL := ⟨B.exec, B.bytes, hml, findClass_of_methodNamed B.named, atoms_spec (ws := wmL_record) B.pre⟩
  obtain ⟨hx, hb, -, hown, hts⟩ := id S
  have hr := B.returns
  have hlocks := B.notSynchronized
  have htab : c.exceptionTable.toList = tableOf [(0, 11, 14, 13)] := vx_table (x := yL_record) B (hts _ List.mem_cons_self)
  have hcs := c_at (args := args) (s := s) (fun w h => hts w (List.mem_cons_of_mem _ (l_t (List.mem_append_right _ (List.mem_append_left _ h))))) hT.2.2.2
  have hl := lv_entry ([.ref (A (0, 0, 0)), .int a1, .int a2, .int a3, .ref qo]) (n := 6) (Nat.le_of_ble_eq_true rfl)
  rw [← hargs, lg_entry_eq, hargs]
  generalize (lg_sl ([.ref (A (0, 0, 0)), .int a1, .int a2, .int a3, .ref qo]) ++ List.replicate (6 - (lg_sl ([.ref (A (0, 0, 0)), .int a1, .int a2, .int a3, .ref qo])).length) Slot.unset).toArray = ls at hl ⊢
  have hl : lv_has ls 6 [(0, .ref (A (0, 0, 0))), (1, .int a1), (2, .int a2), (3, .int a3), (4, .ref qo)] := hl
  unfold f_L_record at h
  obtain ⟨z, hc, h⟩ := o1_e h
  refine lv_aload hx hb dL_record_0 (lv_at hl 4 rfl) ?_
  refine lv_iconst (v := (0 : Int32)) hx hb dL_record_2 (by decide) ?_
  refine lv_aload_n hx hb dL_record_3 rfl (lv_at hl 0 rfl) ?_
  refine lv_iload_n hx hb dL_record_4 rfl (lv_at hl 1 rfl) ?_
  refine lv_iload_n hx hb dL_record_5 rfl (lv_at hl 2 rfl) ?_
  refine lv_iload_n hx hb dL_record_6 rfl (lv_at hl 3 rfl) ?_
  refine w_l hqo hO (vx_runV (As := [.int a1, .int a2, .int a3]) (rest := [.int (0 : Int32), .ref qo]) (b := A (0, 0, 0)) S (t_X10_record l hst N D dA A hJ tx _ hc) (cwV 3 hts (lGV (lB 75 rfl) (lB 76 rfl) (lB 77 rfl) (lB 2 rfl) (lB 78 rfl)) rfl rfl rfl (by decide +kernel) ⟨Nat.le_of_ble_eq_true rfl, Nat.le_of_ble_eq_true rfl⟩) ⟨tPc.blind, g_recv (reg := fun _ => True) (H0 := s.heap) (locs := []) ⟨hK, hJ, fun _ _ => trivial⟩ ⟨hP, va_S.rf⟩ (cl_one N 0 (by decide)) rfl rfl, w_pre hP hK hN hT _⟩ rfl rfl hl.1 rfl (lv_room (m := m) (pc := 7) (ls := ls) (rest := [.int a3, .int a2, .int a1, .ref (A (0, 0, 0)), .int (0 : Int32), .ref qo]) (Nat.le_of_ble_eq_true rfl)) dL_record_7 ⟨Nat.le_of_ble_eq_true rfl, Nat.le_of_ble_eq_true rfl⟩) (fun hk ce q9 H locs Z hce hcv hcl => ?_) (fun hk H locs Z => ?_)
  · have h := if_f hk h
    by_cases h1 : z.1 = 1
    · have h := if_t h1 h
      have hy := Option.some.inj h
      subst hy
      rw [h1] at hcl
      refine vx_catch (E := cIO) (name := cIO) hown [] ⟨0, 11, 14, 13⟩ [] htab (fun z hz => by cases hz) (by decide) (by decide) (hts _ (lBc 0 rfl)) (hcs _ w_cI) hce hcv hcl ?_
      refine lv_astore (lv' := [(5, .ref q9), (0, .ref (A (0, 0, 0))), (1, .int a1), (2, .int a2), (3, .int a3), (4, .ref qo)]) hx hb dL_record_14 hl (by decide) rfl (fun ls hl => ?_)
      refine lv_iconst (v := (1 : Int32)) hx hb dL_record_16 (by decide) ?_
      exact w_ri S Z hr hlocks dL_record_17
    · have h := if_f h1 h
      cases h
  · have h := if_t hk h
    have hy := Option.some.inj h
    subst hy
    refine w_last S hqo hAr Z dL_record_10 (fun H locs Z => ?_)
    refine lv_goto (tgt := 18) hx hb dL_record_11 (by decide) ?_
    refine lv_iconst (v := (0 : Int32)) hx hb dL_record_18 (by decide) ?_
    exact w_ri S Z hr hlocks dL_record_19
-- L_told
theorem dL_told_0 : decode cL_told 0 = .ok (.aload_n 2, 1) := by decide +kernel
theorem dL_told_1 : decode cL_told 1 = .ok (.iconst 0, 1) := by decide +kernel
theorem dL_told_2 : decode cL_told 2 = .ok (.aload_n 0, 1) := by decide +kernel
theorem dL_told_3 : decode cL_told 3 = .ok (.iload_n 1, 1) := by decide +kernel
theorem dL_told_4 : decode cL_told 4 = .ok (.invokevirtual 79, 3) := by decide +kernel
theorem dL_told_7 : decode cL_told 7 = .ok (.i2l, 1) := by decide +kernel
theorem dL_told_8 : decode cL_told 8 = .ok (.lastore, 1) := by decide +kernel
theorem dL_told_9 : decode cL_told 9 = .ok (.goto 6, 3) := by decide +kernel
theorem dL_told_12 : decode cL_told 12 = .ok (.astore_n 3, 1) := by decide +kernel
theorem dL_told_13 : decode cL_told 13 = .ok (.iconst 1, 1) := by decide +kernel
theorem dL_told_14 : decode cL_told 14 = .ok (.ireturn, 1) := by decide +kernel
theorem dL_told_15 : decode cL_told 15 = .ok (.iconst 0, 1) := by decide +kernel
theorem dL_told_16 : decode cL_told 16 = .ok (.ireturn, 1) := by decide +kernel
abbrev wmL_told : List Cond := .codeWith yL_told cL_told 4 (some .int) [(0, 9, 12, 13)] :: lBig
def f_L_told (N : Nat) (M : gM) (w : Int64) (a1 : Int32) : Option (Int32 × Int64 × gM) :=
  o1 (f_X10_told N M a1) (fun y => if y.1 = 0 then some (0, y.2.1.toInt64, y.2.2) else if y.1 = 1 then some (1, w, y.2.2) else none)
set_option maxHeartbeats 4000000 in
set_option maxRecDepth 100000 in
theorem t_L_told (l : Launch) (hst : l.stackTraces = false) (N : Nat) (D : va_G) (dA : Nat → ClassId) (A : gI → Nat) (hJ : gJ (cLive N) A) (tx : Nat → Nat) (sz : Nat) (cL : ClassId) (qo : Nat) (hqo : ¬ gA (cLive N) A qo ∧ qo < sz) (w : Int64) {M : gM} {a1 : Int32} {y : Int32 × Int64 × gM} (h : f_L_told N M w a1 = some y) : wM l yL_told wmL_told ({ frames := 8, cells := 1, slots := 6, locals := 157 } : Room) N D dA A tx sz cL qo w M [.ref (A (0, 0, 0)), .int a1, .ref qo] y 1 6 := by
  refine va_MetW (cc := cL_told) (maxL := 4) (ret := some .int) (hh := [(0, 9, 12, 13)]) (by decide) rfl ?_
  intro p e s m args below meth c s₁ B hml hv
  obtain ⟨rfl, hsz, hP, hK, hN, hT, hO, hAr, hNc⟩ := hv
  subst hsz
  generalize hargs : ([.ref (A (0, 0, 0)), .int a1, .ref qo] : List Value).toArray = args at B ⊢
  have S : CallFix p m c cL_told 4 s args wmL_told RL := ⟨B.exec, B.bytes, hml, findClass_of_methodNamed B.named, atoms_spec (ws := wmL_told) B.pre⟩
  obtain ⟨hx, hb, -, hown, hts⟩ := id S
  have hr := B.returns
  have hlocks := B.notSynchronized
  have htab : c.exceptionTable.toList = tableOf [(0, 9, 12, 13)] := vx_table (x := yL_told) B (hts _ List.mem_cons_self)
  have hcs := c_at (args := args) (s := s) (fun w h => hts w (List.mem_cons_of_mem _ (l_t (List.mem_append_right _ (List.mem_append_left _ h))))) hT.2.2.2
  have hl := lv_entry ([.ref (A (0, 0, 0)), .int a1, .ref qo]) (n := 4) (Nat.le_of_ble_eq_true rfl)
  rw [← hargs, lg_entry_eq, hargs]
  generalize (lg_sl ([.ref (A (0, 0, 0)), .int a1, .ref qo]) ++ List.replicate (4 - (lg_sl ([.ref (A (0, 0, 0)), .int a1, .ref qo])).length) Slot.unset).toArray = ls at hl ⊢
  have hl : lv_has ls 4 [(0, .ref (A (0, 0, 0))), (1, .int a1), (2, .ref qo)] := hl
  unfold f_L_told at h
  obtain ⟨z, hc, h⟩ := o1_e h
  refine lv_aload_n hx hb dL_told_0 rfl (lv_at hl 2 rfl) ?_
  refine lv_iconst (v := (0 : Int32)) hx hb dL_told_1 (by decide) ?_
  refine lv_aload_n hx hb dL_told_2 rfl (lv_at hl 0 rfl) ?_
  refine lv_iload_n hx hb dL_told_3 rfl (lv_at hl 1 rfl) ?_
  refine w_i hqo hO (vx_runV (As := [.int a1]) (rest := [.int (0 : Int32), .ref qo]) (b := A (0, 0, 0)) S (t_X10_told l hst N D dA A hJ tx _ hc) (cwV 1 hts (lGV (lB 79 rfl) (lB 80 rfl) (lB 81 rfl) (lB 2 rfl) (lB 82 rfl)) rfl rfl rfl (by decide +kernel) ⟨Nat.le_of_ble_eq_true rfl, Nat.le_of_ble_eq_true rfl⟩) ⟨tPc.blind, g_recv (reg := fun _ => True) (H0 := s.heap) (locs := []) ⟨hK, hJ, fun _ _ => trivial⟩ ⟨hP, va_S.rf⟩ (cl_one N 0 (by decide)) rfl rfl, w_pre hP hK hN hT _⟩ rfl rfl hl.1 rfl (lv_room (m := m) (pc := 4) (ls := ls) (rest := [.int a1, .ref (A (0, 0, 0)), .int (0 : Int32), .ref qo]) (Nat.le_of_ble_eq_true rfl)) dL_told_4 ⟨Nat.le_of_ble_eq_true rfl, Nat.le_of_ble_eq_true rfl⟩) (fun hk ce q9 H locs Z hce hcv hcl => ?_) (fun hk H locs Z => ?_)
  · have h := if_f hk h
    by_cases h1 : z.1 = 1
    · have h := if_t h1 h
      have hy := Option.some.inj h
      subst hy
      rw [h1] at hcl
      refine vx_catch (E := cIO) (name := cIO) hown [] ⟨0, 9, 12, 13⟩ [] htab (fun z hz => by cases hz) (by decide) (by decide) (hts _ (lBc 0 rfl)) (hcs _ w_cI) hce hcv hcl ?_
      refine lv_astore_n (lv' := [(3, .ref q9), (0, .ref (A (0, 0, 0))), (1, .int a1), (2, .ref qo)]) hx hb dL_told_12 rfl hl (by decide) rfl (fun ls hl => ?_)
      refine lv_iconst (v := (1 : Int32)) hx hb dL_told_13 (by decide) ?_
      exact w_ri S Z hr hlocks dL_told_14
    · have h := if_f h1 h
      cases h
  · have h := if_t hk h
    have hy := Option.some.inj h
    subst hy
    refine lv_i2l hx hb dL_told_7 rfl ?_
    refine w_last S hqo hAr Z dL_told_8 (fun H locs Z => ?_)
    refine lv_goto (tgt := 15) hx hb dL_told_9 (by decide) ?_
    refine lv_iconst (v := (0 : Int32)) hx hb dL_told_15 (by decide) ?_
    exact w_ri S Z hr hlocks dL_told_16
