def R_law : String := "ReplicaFilesLaw"
def lw_P (b : Addr) (xs : List Int32) (args : Array Value) (s : State) : Prop := args = #[.ref b] ∧ s.IntsAt b xs ∧ xs.length ≤ 321 ∧ (Jvm.Cond.and given_1 narrow_1).before args s = true
def lw_Q (_ : Array Value) (s : State) (o : Outcome) (t : State) : Prop := o = .returned (some (.int 1)) ∧ Framed s o t [] 600128 7301064
def lw_Z (below : List Frame) (a : Array Value) (s : State) : State → Prop := fun t => ∃ o, t.status = .running ∧ Ended t below o ∧ lw_Q a s o t
/-- the law's own end, with 1 on the stack, nothing written that was there before, its room as the claim has it -/
theorem lw_ret {p : Program} {l : Launch} {e : Env} {s : State} {m : MethodId} {below : List Frame} {meth : Method} {c : Code} {b : Nat} (hx : p.tables.exec = Jvm.exec) (hb : c.code = code) (hr : meth.sig.returnType = ret) (hlocks : meth.locks = false) {pc : Nat} {H : Heap} {ls : Array Slot} (hdg : decode code pc = .ok (.ireturn, 1)) : W p l e room_1 s m #[Value.ref b] below meth c H [] 600128 7301064 (lw_Z below #[Value.ref b] s) (F0 m pc ls [.int 1]) := by
  intro T hT X
  obtain ⟨fs, hret, hrun, hended, hW, hframe⟩ := X.leave (v := some (.int 1)) (hlocks := hlocks) (fun h => by rw [hr] at h; cases h)
  have hmeth' : T.vm.method? m = some meth := X.method'
  refine ⟨T.setFrames fs, ?_, .returned (some (.int 1)), hrun, hended, rfl, ⟨_, rfl⟩, hW, hframe⟩
  jvm_step X.here [X.here.top, hx, hb, hdg, hmeth', hr, ret, narrow_b1]
  (try refine ⟨rfl, ?_⟩); (try refine ⟨rfl, ?_⟩)
  first | (intro acts; rw [hret _ acts rfl rfl rfl]) | rw [hret _ _ rfl rfl rfl]
  exact Steps.refl _
/-- what holds at the law's entry: the machine, the code, the tables' words (any of lw_tbl by 'hts w (by decide +kernel)'), the script of L ints xs at the cell b, what the Statement gives of the start (any of its parts by flat_of_before) -/
def lw_At (p : Program) (s : State) (m : MethodId) (meth : Method) (c : Code) (b L : Nat) (xs : Nat → Int32) : Prop :=
  p.tables.exec = Jvm.exec ∧ c.code = code ∧ meth.sig.returnType = ret ∧ c.maxLocals = 8 ∧ s.vm.findClass R_law = some m.cls ∧ (∀ w ∈ lw_tbl, w.before #[Value.ref b] s = true) ∧ va_X b L xs s s.heap ∧ b < s.heap.size ∧ meth.locks = false ∧ (Jvm.Cond.and given_1 narrow_1).before #[Value.ref b] s = true
/-! the law's head: both worlds, the cell 'out' -/
abbrev lS : Type := gM × gM × Int64
abbrev lQm (N : Nat) (s : State) : Nat := s.heap.size + 544 + 586 * N
abbrev lQo (N : Nat) (s : State) : Nat := s.heap.size + 593 + 586 * N
abbrev lReg0 (s : State) : Nat → Prop := fun q => s.heap.size ≤ q
def lF (l : Launch) (s : State) (N : Nat) (D : va_G) (dA : Nat → ClassId) (tx : Nat → Nat) (cL : ClassId) : Prop := l.stackTraces = false ∧ (1 ≤ N ∧ N ≤ 4) ∧ va_K D vwCl (gT dA) s ∧ cNw s ∧ cT tx (fun q => s.heap.size ≤ q) s s.heap ∧ ArrOfT s cL .long ∧ va_Nc cIA cIO s
def lH (N : Nat) (D : va_G) (dA : Nat → ClassId) (cL : ClassId) (s : State) (z : lS) (H : Heap) (locs : List Loc) : Prop := gW D (cLay N) dA (cLive N) (cAd N s.heap.size) z.1 H ∧ gW D mLay dA mLive (mAd (lQm N s)) z.2.1 H ∧ lO cL (lQo N s) z.2.2 H ∧ va_S (lReg0 s) s.heap H locs ∧ s.heap.size + 594 + 586 * N ≤ H.size
theorem mAd_ge {q : Nat} {i : gI} (hi : mLive i) : q ≤ mAd q i ∧ mAd q i < q + 49 := by
  have h : mOrd i.1 ≤ 48 := by
    by_cases h0 : i.1 = 0
    · rw [h0]; decide
    · exact (mOrd_pos i.1 hi.1 h0).2
  show q ≤ q + mOrd i.1 ∧ q + mOrd i.1 < q + 49
  omega
theorem wPc.blind {N : Nat} {D : va_G} {dA : Nat → ClassId} {A : gI → Nat} {tx : Nat → Nat} {sz : Nat} {cL : ClassId} {qo : Nat} {w : Int64} {M : gM} {av : List Value} : FrameBlind (wPc N D dA A tx sz cL qo w M av) := fun a U g mk q => ⟨q.1, q.2.1, q.2.2.1, va_K.moved (u := U) (U := U.calling g mk a) (Vm.Alike.refl U.vm) q.2.2.2.1, cNw.same (U := U.calling g mk a) rfl q.2.2.2.2.1, q.2.2.2.2.2.1.same rfl, q.2.2.2.2.2.2.1, arrOfT_moved (u := U) (E := U.calling g mk a) (Vm.Alike.refl U.vm) q.2.2.2.2.2.2.2.1, va_Nc.moved (u := U) (U := U.calling g mk a) (Vm.Alike.refl U.vm) q.2.2.2.2.2.2.2.2⟩
theorem aGV {b : Cond} {idx : Nat} {y : MethodName} (h1 : Cond.methodLink RL idx y ∈ aBig) (h2 : Cond.instanceMethod y ∈ aBig) (h3 : Cond.selects RX11 y y ∈ aBig) (h4 : Cond.initialized RX11 ∈ aBig) (hb : b ∈ aBig) : GoodIn aBig (wsV RL idx RX11 y (b :: mBig)) := by
  intro w hw
  have hm : w ∈ aBig := by
    unfold wsV at hw
    simp only [List.mem_append, List.mem_cons, List.not_mem_nil, or_false] at hw
    rcases hw with (rfl | rfl | rfl | rfl) | rfl | h
    · exact h1
    · exact h2
    · exact h3
    · exact h4
    · exact hb
    · exact a_m h
  exact ⟨hm, aBig_ok w hm⟩
theorem aGS {b : Cond} {idx : Nat} {y : MethodName} {bs : List Cond} (hbs : ∀ w ∈ bs, w ∈ aBig) (h1 : Cond.methodLink RL idx y ∈ aBig) (h2 : Cond.static y ∈ aBig) (h4 : Cond.initialized y.cls ∈ aBig) (hb : b ∈ aBig) : GoodIn aBig (va_wsS RL idx y (b :: bs)) := by
  intro w hw
  have hm : w ∈ aBig := by
    unfold va_wsS at hw
    simp only [List.mem_append, List.mem_cons, List.not_mem_nil, or_false] at hw
    rcases hw with (rfl | rfl | rfl) | rfl | h
    · exact h1
    · exact h2
    · exact h4
    · exact hb
    · exact hbs w h
  exact ⟨hm, aBig_ok w hm⟩
theorem lg_cmp_z (x : Int64) : lg_cmp x x = 0 := by
  unfold lg_cmp
  simp
section LR
variable {p : Program} {l : Launch} {e : Env} {R : Room} {s : State} {m : MethodId} {args : Array Value} {below : List Frame} {meth : Method} {c : Code} {H : Heap} {locs : List Loc} {cells slots : Nat} {Q : State → Prop}
variable {cc bytes : ByteArray} {pc nL maxL n index N mc ms : Nat} {ls : Array Slot} {rest st As : List Value} {Ts ws : List Cond} {own C : String} {y : MethodName} {ret : Option FieldType} {rm : Room} {hh : List (Nat × Nat × Nat × Nat)}
variable {D : va_G} {dA : Nat → ClassId} {tx : Nat → Nat} {cL : ClassId} {z : lS}
theorem l_qo (F : lF l s N D dA tx cL) {H : Heap} (h : s.heap.size + 594 + 586 * N ≤ H.size) : ¬ gA (cLive N) (cAd N s.heap.size) (lQo N s) ∧ lQo N s < H.size := ⟨fun ⟨i, hi, e⟩ => by
  have := cAd_ge (q := s.heap.size) F.2.1.2 hi
  have eO : lQo N s = s.heap.size + 593 + 586 * N := rfl
  omega, by unfold lQo; omega⟩
theorem a_wrap {r : Int32 × Int64 × gM} (F : lF l s N D dA tx cL) (Z : lH N D dA cL s z H locs) (S : CallFix p m c cc nL s args Ts own) (hM : wM l y ws rm N D dA (cAd N s.heap.size) tx H.size cL (lQo N s) z.2.2 z.1 As r mc ms) (cw : vx_CSW R s args own index y bytes maxL ret hh ws rm mc ms n) (hn : As.length = n) (hls : ls.size = nL) (hst : st = As.reverse ++ rest) (hW : (rest.map fun v => v.category).sum ≤ 8) (hdg : decode cc pc = .ok (.invokestatic index, 3)) (hf : cells + mc ≤ R.cells ∧ slots + ms ≤ R.slots)
    (kk : ∀ (H1 : Heap) (locs1 : List Loc), lH N D dA cL s (r.2.2, z.2.1, r.2.1) H1 locs1 → W p l e R s m args below meth c H1 locs1 (cells + mc) (slots + ms) Q (F0 m (pc + 3) ls (.int r.1 :: rest))) : W p l e R s m args below meth c H locs cells slots Q (F0 m pc ls st) := by
  obtain ⟨z1, z2, z3, z4, z5⟩ := Z
  obtain ⟨f1, f2, f3, f4, f5, f6, f7⟩ := id F
  have hreg : ∀ q, lReg N (cAd N s.heap.size) H.size (lQo N s) q → lReg0 s q := fun q h => by
    rcases h with (⟨i, hi, e⟩ | h) | h
    · have := cAd_ge (q := s.heap.size) f2.2 hi
      show s.heap.size ≤ q
      omega
    · show s.heap.size ≤ q
      omega
    · show s.heap.size ≤ q
      rw [h]; unfold lQo; omega
  refine va_calli (vx_runSW (As := As) (rest := rest) S hM cw ⟨wPc.blind, fun U hU hWm => ⟨rfl, by rw [hU], by rw [hU]; exact z1, va_K.moved hWm.alike f3, f4.warm hWm, ?_, by rw [hU]; exact z3, arrOfT_moved hWm.alike f6, va_Nc.moved hWm.alike f7⟩⟩ rfl hn hls hst (lv_room (m := m) (pc := pc) (ls := ls) (rest := st) hW) hdg hf) z4 (fun q _ h => hreg q h) hreg (fun r1 u t H1 locs1 ht hvm hp hB hz hk hS => ?_)
  · rw [hU]
    exact f5.to hWm z4.2.1 (fun q h => hreg q (Or.inl h))
  · obtain ⟨rfl, rfl⟩ := hp
    obtain ⟨hB1, hB2⟩ := hB
    rw [ht] at hB1 hB2
    refine kk H1 locs1 ⟨hB1, fun i hi => (z2 i hi).to rfl (hk _ ?_ ?_), hB2, hS, by omega⟩
    · have := mAd_ge (q := lQm N s) hi
      have eQ : lQm N s = s.heap.size + 544 + 586 * N := rfl
      omega
    · rintro ((⟨j, hj, e⟩ | h) | h)
      · have h1 := mAd_ge (q := lQm N s) hi
        have h2 := cAd_ge (q := s.heap.size) f2.2 hj
        have eQ : lQm N s = s.heap.size + 544 + 586 * N := rfl
        omega
      · have h1 := mAd_ge (q := lQm N s) hi
        have eQ : lQm N s = s.heap.size + 544 + 586 * N := rfl
        omega
      · have h1 := mAd_ge (q := lQm N s) hi
        have eQ : lQm N s = s.heap.size + 544 + 586 * N := rfl
        have eO : lQo N s = s.heap.size + 593 + 586 * N := rfl
        omega
theorem l_ref (Z : lH N D dA cL s z H locs) (hK : va_K D vwCl (gT dA) s) : ∃ cellB : Cell, H[mAd (lQm N s) m_o]? = some cellB ∧ cellB.vm.isStatics = false ∧ s.vm.findClass RX11 = some cellB.cls := by
  obtain ⟨cell, q1, q2, q3, q4⟩ := Z.2.1 m_o mlv_o
  exact ⟨cell, q1, by rw [q3]; rfl, by rw [q2]; exact (hK.1 11 _ rfl).2.1⟩
theorem l_frame (F : lF l s N D dA tx cL) (Z : lH N D dA cL s z H locs) {M' : gM} {H1 : Heap} {locs1 : List Loc} (hB : gW D mLay dA mLive (mAd (lQm N s)) M' H1) (hz : H.size ≤ H1.size) (hk : ∀ q : Nat, q < H.size → ¬ gA mLive (mAd (lQm N s)) q → H1[q]? = H[q]?) (hS : va_S (lReg0 s) s.heap H1 locs1) : lH N D dA cL s (z.1, M', z.2.2) H1 locs1 := by
  obtain ⟨z1, z2, z3, z4, z5⟩ := Z
  have f2 := F.2.1
  refine ⟨fun i hi => (z1 i hi).to rfl (hk _ ?_ ?_), hB, (hk _ (by unfold lQo; omega) ?_).trans z3, hS, by omega⟩
  · have := cAd_ge (q := s.heap.size) f2.2 hi
    omega
  · rintro ⟨j, hj, e⟩
    have h1 := mAd_ge (q := lQm N s) hj
    have h2 := cAd_ge (q := s.heap.size) f2.2 hi
    have eQ : lQm N s = s.heap.size + 544 + 586 * N := rfl
    omega
  · rintro ⟨j, hj, e⟩
    have h1 := mAd_ge (q := lQm N s) hj
    have eQ : lQm N s = s.heap.size + 544 + 586 * N := rfl
    have eO : lQo N s = s.heap.size + 593 + 586 * N := rfl
    omega
theorem l_reg (F : lF l s N D dA tx cL) : ∀ q, gA mLive (mAd (lQm N s)) q → lReg0 s q := by
  rintro q ⟨i, hi, e⟩
  have h1 := mAd_ge (q := lQm N s) hi
  have eQ : lQm N s = s.heap.size + 544 + 586 * N := rfl
  show s.heap.size ≤ q
  omega
theorem a_refI {r : Int32} {M' : gM} (F : lF l s N D dA tx cL) (Z : lH N D dA cL s z H locs) (S : CallFix p m c cc nL s args Ts own) (hM : mMi l y ws rm D dA (mAd (lQm N s)) (.ref (mAd (lQm N s) m_o) :: As) z.2.1 r M') (cw : CallW R s args own RX11 index y bytes maxL ret ws rm 0 0 n) (hn : As.length = n) (hls : ls.size = nL) (hst : st = As.reverse ++ .ref (mAd (lQm N s) m_o) :: rest) (hW : (rest.map fun v => v.category).sum ≤ 8) (hdg : decode cc pc = .ok (.invokevirtual index, 3)) (hf : cells ≤ R.cells ∧ slots ≤ R.slots)
    (kk : ∀ (H1 : Heap) (locs1 : List Loc), lH N D dA cL s (z.1, M', z.2.2) H1 locs1 → W p l e R s m args below meth c H1 locs1 cells slots Q (F0 m (pc + 3) ls (.int r :: rest))) : W p l e R s m args below meth c H locs cells slots Q (F0 m pc ls st) := by
  have f3 := F.2.2.1
  refine va_calli (va_runV (As := As) (rest := rest) (b := mAd (lQm N s) m_o) S hM cw ⟨gPc.blind, l_ref Z f3, fun U hU hWm => ⟨rfl, by rw [hU]; exact Z.2.1, va_K.moved hWm.alike f3⟩⟩ rfl hn hls hst (lv_room (m := m) (pc := pc) (ls := ls) (rest := st) hW) hdg hf) Z.2.2.2.1 (fun q _ h => l_reg F q h) (l_reg F) (fun r1 u t H1 locs1 ht hvm hw hB hz1 hk1 hS => ?_)
  obtain ⟨rfl, rfl⟩ := hw
  rw [ht] at hB
  exact kk H1 locs1 (l_frame F Z hB hz1 hk1 hS)
theorem a_refL {r : Int64} {M' : gM} (F : lF l s N D dA tx cL) (Z : lH N D dA cL s z H locs) (S : CallFix p m c cc nL s args Ts own) (hM : mMl l y ws rm D dA (mAd (lQm N s)) (.ref (mAd (lQm N s) m_o) :: As) z.2.1 r M') (cw : CallW R s args own RX11 index y bytes maxL ret ws rm 0 0 n) (hn : As.length = n) (hls : ls.size = nL) (hst : st = As.reverse ++ .ref (mAd (lQm N s) m_o) :: rest) (hW : (rest.map fun v => v.category).sum ≤ 8) (hdg : decode cc pc = .ok (.invokevirtual index, 3)) (hf : cells ≤ R.cells ∧ slots ≤ R.slots)
    (kk : ∀ (H1 : Heap) (locs1 : List Loc), lH N D dA cL s (z.1, M', z.2.2) H1 locs1 → W p l e R s m args below meth c H1 locs1 cells slots Q (F0 m (pc + 3) ls (.long r :: rest))) : W p l e R s m args below meth c H locs cells slots Q (F0 m pc ls st) := by
  have f3 := F.2.2.1
  refine va_calll (va_runV (As := As) (rest := rest) (b := mAd (lQm N s) m_o) S hM cw ⟨gPc.blind, l_ref Z f3, fun U hU hWm => ⟨rfl, by rw [hU]; exact Z.2.1, va_K.moved hWm.alike f3⟩⟩ rfl hn hls hst (lv_room (m := m) (pc := pc) (ls := ls) (rest := st) hW) hdg hf) Z.2.2.2.1 (fun q _ h => l_reg F q h) (l_reg F) (fun r1 u t H1 locs1 ht hvm hw hB hz1 hk1 hS => ?_)
  obtain ⟨rfl, rfl⟩ := hw
  rw [ht] at hB
  exact kk H1 locs1 (l_frame F Z hB hz1 hk1 hS)
theorem a_lald (F : lF l s N D dA tx cL) (Z : lH N D dA cL s z H locs) (hx : p.tables.exec = Jvm.exec) (hb : c.code = cc) (hdg : decode cc pc = .ok (.laload, 1))
    (kk : W p l e R s m args below meth c H locs cells slots Q (F0 m (pc + 1) ls (.long z.2.2 :: rest))) : W p l e R s m args below meth c H locs cells slots Q (F0 m pc ls (.int 0 :: .ref (lQo N s) :: rest)) := by
  have f6 := F.2.2.2.2.2.1
  exact W.lald (v := .long z.2.2) hx hb Z.2.2.1 (f6 1 (fun _ => .long z.2.2)) (fun q => by cases q) (by rw [arrV_size]; decide) (by rw [arrV_read _ _ (by decide)]) rfl rfl hdg kk
/-- an int of the script -/
theorem a_sld {b L : Nat} {xs : Nat → Int32} (hX : va_X b L xs s s.heap) (hbl : b < s.heap.size) (Z : lH N D dA cL s z H locs) (hx : p.tables.exec = Jvm.exec) (hb : c.code = cc) {k : Nat} (hk : k < L) (hL : L ≤ 321) {x : Int32} (e1 : x = nI k) (hdg : decode cc pc = .ok (.iaload, 1))
    (kk : W p l e R s m args below meth c H locs cells slots Q (F0 m (pc + 1) ls (.int (xs k) :: rest))) : W p l e R s m args below meth c H locs cells slots Q (F0 m pc ls (.int x :: .ref b :: rest)) := by
  subst e1
  refine va_sld (A := lReg0 s) hx hb hX hbl (Nat.not_le.mpr hbl) Z.2.2.2.1 (vp_in_nI hk (by omega)) hdg ?_
  rw [nI_clamp (by omega)]
  exact kk
end LR
/-! cell(script, 0) -/
def lCell (L : Nat) (xs : Nat → Int32) : Int32 := if 0 < L then xs 0 else 0
abbrev wmL_cell : List Cond := [.code yL_cell cL_cell 2 (some .int)]
abbrev cePc (sz b L : Nat) (xs : Nat → Int32) : Array Value → State → Prop := va_Pc [.ref b, .int 0] (fun U => U.heap.size = sz ∧ va_X b L xs U U.heap ∧ b < U.heap.size)
theorem cePc.blind {sz b L : Nat} {xs : Nat → Int32} : FrameBlind (cePc sz b L xs) := fun a U g mk h => ⟨h.1, h.2.1, va_X.moved (u := U) (U := U.calling g mk a) (Vm.Alike.refl U.vm) h.2.2.1, h.2.2.2⟩
theorem dL_cell_0 : decode cL_cell 0 = .ok (.iload_n 1, 1) := by decide +kernel
theorem dL_cell_1 : decode cL_cell 1 = .ok (.aload_n 0, 1) := by decide +kernel
theorem dL_cell_2 : decode cL_cell 2 = .ok (.arraylength, 1) := by decide +kernel
theorem dL_cell_3 : decode cL_cell 3 = .ok (.if_icmp .ge 9, 3) := by decide +kernel
theorem dL_cell_6 : decode cL_cell 6 = .ok (.aload_n 0, 1) := by decide +kernel
theorem dL_cell_7 : decode cL_cell 7 = .ok (.iload_n 1, 1) := by decide +kernel
theorem dL_cell_8 : decode cL_cell 8 = .ok (.iaload, 1) := by decide +kernel
theorem dL_cell_9 : decode cL_cell 9 = .ok (.goto 4, 3) := by decide +kernel
theorem dL_cell_12 : decode cL_cell 12 = .ok (.iconst 0, 1) := by decide +kernel
theorem dL_cell_13 : decode cL_cell 13 = .ok (.ireturn, 1) := by decide +kernel
theorem c_cell (l : Launch) (sz b L : Nat) (xs : Nat → Int32) (hL : L ≤ 321) : Met l yL_cell wmL_cell ({ frames := 0, cells := 0, slots := 0, locals := 0 } : Room) (cePc sz b L xs) (va_Qi (fun r (_ : Unit) => r = lCell L xs) (fun _ t => t.heap.size = sz) (fun _ => False)) 0 0 (fun _ => False) := by
  refine Met.ofW (cc := cL_cell) (maxL := 2) (ret := some .int) (by decide) rfl ?_
  intro p e s m args below meth c s₁ B hml hv
  obtain ⟨rfl, hsz, hX, hbl⟩ := hv
  generalize hargs : ([.ref b, .int 0] : List Value).toArray = args at B ⊢
  have hx := B.exec
  have hb : c.code = cL_cell := B.bytes
  have hr := B.returns
  have hlocks := B.notSynchronized
  have hS : va_S (fun _ => False) s.heap s.heap [] := va_S.rf
  have hl := lv_entry ([.ref b, .int 0]) (n := 2) (Nat.le_of_ble_eq_true rfl)
  rw [← hargs, lg_entry_eq, hargs]
  generalize (lg_sl ([.ref b, .int 0]) ++ List.replicate (2 - (lg_sl ([.ref b, .int 0])).length) Slot.unset).toArray = ls at hl ⊢
  have hl : lv_has ls 2 [(0, .ref b), (1, .int 0)] := hl
  have fin : ∀ r : Int32, r = lCell L xs → W p l e (headSpec wmL_cell ({ frames := 0, cells := 0, slots := 0, locals := 0 } : Room)).room s m args below meth c s.heap [] 0 0 (MQ below (va_Qi (fun r (_ : Unit) => r = lCell L xs) (fun _ t => t.heap.size = sz) (fun _ => False)) args s 0 0 (fun _ => False)) (F0 m 13 ls [.int r]) := fun r hrr => W.iret hx hb hr (fun t ht hWm => ⟨⟨r, (), rfl, hrr, by show t.heap.size = sz; rw [ht]; exact hsz⟩, hS.F ht⟩) hS.2.2 dL_cell_13 hlocks
  refine lv_iload_n hx hb dL_cell_0 rfl (lv_at hl 1 rfl) ?_
  refine lv_aload_n hx hb dL_cell_1 rfl (lv_at hl 0 rfl) ?_
  refine va_slen hx hb hX hbl (fun h => h) hS dL_cell_2 ?_
  refine lv_icmp_ge (tgt := 12) hx hb dL_cell_3 (by decide) (fun c1 => ?_) (fun c1 => ?_)
  · refine lv_iconst (v := (0 : Int32)) hx hb dL_cell_12 (by decide) ?_
    have h0 : ¬ 0 < L := fun h => nI_ge (a := 0) (b := L) h (by omega) c1
    exact fin 0 (by unfold lCell; rw [if_neg h0])
  · have h0 : 0 < L := by
      rcases Nat.lt_or_ge 0 L with h | h
      · exact h
      · exact absurd (show Int32.ofNat L ≤ 0 by rw [show L = 0 by omega]; decide) c1
    refine lv_aload_n hx hb dL_cell_6 rfl (lv_at hl 0 rfl) ?_
    refine lv_iload_n hx hb dL_cell_7 rfl (lv_at hl 1 rfl) ?_
    refine va_sld hx hb hX hbl (fun h => h) hS (vp_in_nI (n := 0) h0 (by omega)) dL_cell_8 ?_
    refine lv_goto (tgt := 13) hx hb dL_cell_9 (by decide) ?_
    exact fin _ (by unfold lCell; rw [if_pos h0]; rfl)
