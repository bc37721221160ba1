/-! methods that may throw: the words, what they start from, how they end -/
def cIO : String := "java/lang/IndexOutOfBoundsException"
def cIA : String := "java/lang/IllegalArgumentException"
def cUp : List String := ["java/lang/RuntimeException", "java/lang/Exception"]
def cWI : List Cond := vx_atS RX10 92 cIO cUp
def cWA : List Cond := vx_atS RX10 311 cIA cUp
def cIsC : Cond → Bool
  | .castable .. => true
  | .declares _ => true
  | _ => false
set_option maxRecDepth 100000 in
theorem cWI_all : (cWI ++ cWA).all (fun w => goodWord w || cIsC w) = true := by decide +kernel
set_option maxRecDepth 100000 in
theorem cWI_ot : (cWI ++ cWA).all vx_ot = true := by decide +kernel
/-- those of the words that the tables alone don't keep: castable -/
def cCs (U : State) : Prop := ∀ w ∈ cWI ++ cWA, cIsC w = true → va_Nw w U
theorem cCs.warm {s U : State} (hW : s.WarmedH U.vm) (h : cCs s) : cCs U := fun w hw hc => by
  have h1 := h w hw hc
  match w, hc, h1 with
  | .castable a b, _, h1 => exact va_Nw.warmC hW h1
  | .declares x, _, h1 => exact va_Nw.warmD hW h1
theorem cCs.same {s U : State} (hv : s.vm = U.vm) (h : cCs s) : cCs U := fun w hw hc => by
  have h1 := h w hw hc
  match w, hc, h1 with
  | .castable a b, _, h1 => exact va_Nw.same rfl hv h1
  | .declares x, _, h1 => exact va_Nw.same rfl hv h1
def cWg : List Cond := (cWI ++ cWA).filter goodWord
theorem cWg_good : ∀ w ∈ cWg, goodWord w = true := fun w h => (List.mem_filter.mp h).2
/-- all the words of a throw hold: the good ones by the method's list, castable by the start -/
theorem c_at {args : Array Value} {s : State} (h1 : ∀ w ∈ cWg, w.before args s = true) (h2 : cCs s) : ∀ w ∈ cWI ++ cWA, w.before args s = true := by
  intro w hw
  have h := List.all_eq_true.mp cWI_all w hw
  by_cases g : goodWord w = true
  · exact h1 w (List.mem_filter.mpr ⟨hw, g⟩)
  · have hc : cIsC w = true := by
      cases hg : goodWord w with
      | true => exact absurd hg g
      | false => rw [hg] at h; simpa using h
    have h3 := h2 w hw hc
    match w, hc, h3 with
    | .castable a b, _, h3 => exact va_Nw.use rfl h3
    | .declares x, _, h3 => exact va_Nw.use rfl h3
/-- the words of a method that may throw -/
def tBig0 : List Cond := [.classLink RX10 88 cIO, .initialized cIO, .classLink RX10 307 cIA, .initialized cIA]
def tBig : List Cond := tBig0 ++ (cWg ++ cBig)
set_option maxRecDepth 100000 in
theorem tBig0_all : tBig0.all goodWord = true := by decide +kernel
theorem tBig_ok : ∀ w ∈ tBig, (w.onTables && w.keeps) = true ∨ ∃ ty, w = .arrayClass ty := by
  intro w h
  unfold tBig at h
  simp only [List.mem_append] at h
  rcases h with h | h | h
  · exact good_of_word (List.all_eq_true.mp tBig0_all w h)
  · exact good_of_word (cWg_good w h)
  · exact cBig_ok w h
theorem t_c {w : Cond} (h : w ∈ cBig) : w ∈ tBig := List.mem_append_right _ (List.mem_append_right _ h)
theorem tB {w : Cond} (k : Nat) (h : cBig0[k]? = some w) : w ∈ tBig := t_c (cB k h)
theorem tBc {a w : Cond} (k : Nat) (h : cBig0[k]? = some w) : w ∈ a :: tBig := List.mem_cons_of_mem _ (tB k h)
theorem tG {a b : Cond} (hb : b ∈ cBig) : GoodIn (a :: tBig) (b :: cBig) := fun w hw => (List.mem_cons.mp hw).elim (fun e => e ▸ ⟨List.mem_cons_of_mem _ (t_c hb), cBig_ok b hb⟩) (fun h => ⟨List.mem_cons_of_mem _ (t_c h), cBig_ok w h⟩)
theorem tGV {a b : Cond} {own C : String} {idx : Nat} {y : MethodName} (h1 : Cond.methodLink own idx y ∈ cBig) (h2 : Cond.instanceMethod y ∈ cBig) (h3 : Cond.selects C y y ∈ cBig) (h4 : Cond.initialized C ∈ cBig) (hb : b ∈ cBig) : GoodIn (a :: tBig) (wsV own idx C y (b :: cBig)) := fun w hw => ⟨List.mem_cons_of_mem _ (by
  have h := (cGV (a := b) h1 h2 h3 h4 hb w hw).1
  rcases List.mem_cons.mp h with h | h
  · rw [h]; exact t_c hb
  · exact t_c h), (cGV (a := b) h1 h2 h3 h4 hb w hw).2⟩
theorem tGS {a b : Cond} {own : String} {idx : Nat} {y : MethodName} (h1 : Cond.methodLink own idx y ∈ cBig) (h2 : Cond.static y ∈ cBig) (h4 : Cond.initialized y.cls ∈ cBig) (hb : b ∈ cBig) : GoodIn (a :: tBig) (va_wsS own idx y (b :: cBig)) := fun w hw => ⟨List.mem_cons_of_mem _ (by
  have h := (cGS (a := b) h1 h2 h4 hb w hw).1
  rcases List.mem_cons.mp h with h | h
  · rw [h]; exact t_c hb
  · exact t_c h), (cGS (a := b) h1 h2 h4 hb w hw).2⟩
/-- .. of a callee that may throw itself -/
theorem tTV {a b : Cond} {own C : String} {idx : Nat} {y : MethodName} (h1 : Cond.methodLink own idx y ∈ tBig) (h2 : Cond.instanceMethod y ∈ tBig) (h3 : Cond.selects C y y ∈ tBig) (h4 : Cond.initialized C ∈ tBig) (hb : b ∈ tBig) : GoodIn (a :: tBig) (wsV own idx C y (b :: tBig)) := by
  intro w hw
  have hm : w ∈ tBig := by
    unfold wsV at hw
    simp only [List.mem_append, List.mem_cons, List.not_mem_nil, or_false] at hw
    rcases hw with (rfl | rfl | rfl | rfl) | rfl | h
    · exact h1
    · exact h2
    · exact h3
    · exact h4
    · exact hb
    · exact h
  exact ⟨List.mem_cons_of_mem _ hm, tBig_ok w hm⟩
theorem tTS {a b : Cond} {own : String} {idx : Nat} {y : MethodName} (h1 : Cond.methodLink own idx y ∈ tBig) (h2 : Cond.static y ∈ tBig) (h4 : Cond.initialized y.cls ∈ tBig) (hb : b ∈ tBig) : GoodIn (a :: tBig) (va_wsS own idx y (b :: tBig)) := by
  intro w hw
  have hm : w ∈ tBig := by
    unfold va_wsS at hw
    simp only [List.mem_append, List.mem_cons, List.not_mem_nil, or_false] at hw
    rcases hw with (rfl | rfl | rfl) | rfl | h
    · exact h1
    · exact h2
    · exact h4
    · exact hb
    · exact h
  exact ⟨List.mem_cons_of_mem _ hm, tBig_ok w hm⟩
theorem tin {a : Cond} {ws : List Cond} (h : ∀ w ∈ ws, w ∈ a :: cBig) (h2 : a ∉ ws ∨ True) : ∀ w ∈ ws, w ∈ a :: tBig := fun w hw => (List.mem_cons.mp (h w hw)).elim (fun e => e ▸ List.mem_cons_self) (fun q => List.mem_cons_of_mem _ (t_c q))
/-- the texts of the exceptions, by the places of their constants -/
def cTx : List (Nat × String) := [(299, "no such server"), (301, "no such client"), (303, "no such object"), (305, "another what"), (309, "an argument is out of its range"), (90, "a server has no link to itself")]
def cReg (N : Nat) (A : gI → Nat) (sz : Nat) : Nat → Prop := fun q => gA (cLive N) A q ∨ sz ≤ q
def cT (tx : Nat → Nat) (reg : Nat → Prop) (U : State) (H : Heap) : Prop := (∀ q ∈ cTx, vk_R RX10 q.1 q.2 (tx q.1) U) ∧ vx_Zq Bundle.tN "UNASSIGNED_STACK" Bundle.steD reg U H ∧ vx_Zq Bundle.tN "SUPPRESSED_SENTINEL" Bundle.listD reg U H ∧ cCs U
theorem cT.to {tx : Nat → Nat} {reg reg' : Nat → Prop} {s U : State} {H H' : Heap} (h : cT tx reg s H) (hW : s.WarmedH U.vm) (hq : ∀ a : Nat, a < H.size → ¬ reg a → H'[a]? = H[a]?) (hr : ∀ q, reg' q → reg q) : cT tx reg' U H' := ⟨fun q hq => (h.1 q hq).warm hW, ((h.2.1.kept hq).narrow hr).moved hW.alike, ((h.2.2.1.kept hq).narrow hr).moved hW.alike, h.2.2.2.warm hW⟩
theorem cT.same {tx : Nat → Nat} {reg : Nat → Prop} {s U : State} {H : Heap} (h : cT tx reg s H) (hv : s.vm = U.vm) : cT tx reg U H := ⟨fun q hq => (h.1 q hq).same hv.symm, h.2.1.moved (hv ▸ Vm.Alike.refl _), h.2.2.1.moved (hv ▸ Vm.Alike.refl _), h.2.2.2.same hv⟩
abbrev tPc (N : Nat) (D : va_G) (dA : Nat → ClassId) (A : gI → Nat) (tx : Nat → Nat) (sz : Nat) (M : gM) (av : List Value) : Array Value → State → Prop := va_Pc av (fun U => U.heap.size = sz ∧ gW D (cLay N) dA (cLive N) A M U.heap ∧ va_K D vwCl (gT dA) U ∧ cNw U ∧ cT tx (cReg N A sz) U U.heap)
theorem tPc.blind {N : Nat} {D : va_G} {dA : Nat → ClassId} {A : gI → Nat} {tx : Nat → Nat} {sz : Nat} {M : gM} {av : List Value} : FrameBlind (tPc N D dA A tx sz M av) := fun a U g mk q => ⟨q.1, q.2.1, q.2.2.1, va_K.moved (u := U) (U := U.calling g mk a) (Vm.Alike.refl U.vm) q.2.2.2.1, cNw.same (U := U.calling g mk a) rfl q.2.2.2.2.1, q.2.2.2.2.2.same rfl⟩
/-- how it ends: the answer's number (0: it returns; 1, 2: which exception) and the store -/
def cEx (k : Nat) : String := if k = 1 then cIO else cIA
abbrev tX (N : Nat) (D : va_G) (dA : Nat → ClassId) (A : gI → Nat) (sz : Nat) (k : Nat) (M : gM) : String → State → State → Prop := vx_X (fun u : gM => u = M ∧ ¬ k = 0) (fun E u t => E = cEx k ∧ gW D (cLay N) dA (cLive N) A u t.heap) (cReg N A sz)
abbrev tQi (N : Nat) (D : va_G) (dA : Nat → ClassId) (A : gI → Nat) (sz : Nat) (y : Nat × Int32 × gM) : Array Value → State → Outcome → State → Prop := va_Qi (fun r' u => (y.1 = 0 ∧ r' = y.2.1) ∧ u = y.2.2) (fun u t => gW D (cLay N) dA (cLive N) A u t.heap) (cReg N A sz)
abbrev tQl (N : Nat) (D : va_G) (dA : Nat → ClassId) (A : gI → Nat) (sz : Nat) (y : Nat × Int64 × gM) : Array Value → State → Outcome → State → Prop := va_Ql (fun r' u => (y.1 = 0 ∧ r' = y.2.1) ∧ u = y.2.2) (fun u t => gW D (cLay N) dA (cLive N) A u t.heap) (cReg N A sz)
abbrev tQv (N : Nat) (D : va_G) (dA : Nat → ClassId) (A : gI → Nat) (sz : Nat) (k : Nat) (M : gM) : Array Value → State → Outcome → State → Prop := va_Qv (fun u => k = 0 ∧ u = M) (fun u t => gW D (cLay N) dA (cLive N) A u t.heap) (cReg N A sz)
abbrev tMi (l : Launch) (y : MethodName) (ws : List Cond) (rm : Room) (N : Nat) (D : va_G) (dA : Nat → ClassId) (A : gI → Nat) (tx : Nat → Nat) (sz : Nat) (av : List Value) (M : gM) (r : Nat × Int32 × gM) (mc ms : Nat) : Prop := vx_Met l y ws rm (tPc N D dA A tx sz M av) (tQi N D dA A sz r) (tX N D dA A sz r.1 r.2.2) mc ms (cReg N A sz)
abbrev tMl (l : Launch) (y : MethodName) (ws : List Cond) (rm : Room) (N : Nat) (D : va_G) (dA : Nat → ClassId) (A : gI → Nat) (tx : Nat → Nat) (sz : Nat) (av : List Value) (M : gM) (r : Nat × Int64 × gM) (mc ms : Nat) : Prop := vx_Met l y ws rm (tPc N D dA A tx sz M av) (tQl N D dA A sz r) (tX N D dA A sz r.1 r.2.2) mc ms (cReg N A sz)
abbrev tMv (l : Launch) (y : MethodName) (ws : List Cond) (rm : Room) (N : Nat) (D : va_G) (dA : Nat → ClassId) (A : gI → Nat) (tx : Nat → Nat) (sz : Nat) (av : List Value) (M : gM) (k : Nat) (mc ms : Nat) : Prop := vx_Met l y ws rm (tPc N D dA A tx sz M av) (tQv N D dA A sz k M) (tX N D dA A sz k M) mc ms (cReg N A sz)
theorem gW.kept {D : va_G} {lay : gI → gL} {dA : Nat → ClassId} {live : gI → Prop} {A : gI → Nat} {M : gM} {H H1 : Heap} (h : gW D lay dA live A M H) (hq : ∀ q : Nat, q < H.size → H1[q]? = H[q]?) : gW D lay dA live A M H1 := by
  intro i hi
  have h0 := h i hi
  refine h0.to rfl (hq _ ?_)
  unfold gAt at h0
  cases e : lay i with
  | inl a => rw [e] at h0; exact (Array.getElem?_eq_some_iff.mp h0).1
  | inr b =>
    cases b with
    | inl a => rw [e] at h0; exact (Array.getElem?_eq_some_iff.mp h0).1
    | inr o => rw [e] at h0; obtain ⟨cell, q1, -⟩ := h0; exact (Array.getElem?_eq_some_iff.mp q1).1
section TR
variable {p : Program} {l : Launch} {e : Env} {R : Room} {s : State} {m : MethodId} {args : Array Value} {below : List Frame} {meth : Method} {c : Code} {H : Heap} {locs : List Loc} {cells slots : Nat} {Q : State → Prop}
variable {cc bytes : ByteArray} {pc nL maxL n index N mc ms : Nat} {ls : Array Slot} {rest st As : List Value} {Ts ws : List Cond} {own C : String} {y : MethodName} {ret : Option FieldType} {rm : Room}
variable {D : va_G} {dA : Nat → ClassId} {A : gI → Nat} {tx : Nat → Nat} {M : gM} {Qc : Array Value → State → Outcome → State → Prop}
/-- the world of a method that may throw, at its start -/
abbrev tZ (D : va_G) (N : Nat) (dA : Nat → ClassId) (A : gI → Nat) (s : State) (M : gM) (H : Heap) (locs : List Loc) : Prop := gZ D (cLay N) dA (cLive N) A (cReg N A s.heap.size) s.heap M H locs
theorem t_after {H1 : Heap} (Z : tZ D N dA A s M H locs) (q : ∀ q : Nat, q < H.size → H1[q]? = H[q]?) (hz : H.size ≤ H1.size) {t : State} (ht : t.heap = H1) : va_F (cReg N A s.heap.size) s t := ⟨by rw [ht]; exact Nat.le_trans Z.2.1 hz, fun x h1 h2 => by rw [ht, q x (Nat.lt_of_lt_of_le h1 Z.2.1)]; exact Z.2.2.1 x h1 h2⟩
/-- 'throw new E("text")', the text by a wide index: E is cEx k -/
theorem t_throwW {ik is ic : Nat} {cls text : String} {k : Nat} (hk0 : ¬ k = 0) (hcl : cls = cEx k) (S : CallFix p m c cc nL s args (Cond.code y bytes maxL ret :: tBig) RX10) (hst : l.stackTraces = false) (hT : cT tx (cReg N A s.heap.size) s s.heap) (Z : tZ D N dA A s M H locs) (htx : (is, text) ∈ cTx) (hfit : Bundle.fit cls = true) (hw : Cond.classLink RX10 ik cls ∈ tBig0 ∧ Cond.initialized cls ∈ tBig0) (hsub : ∀ w ∈ vx_atS RX10 ic cls cUp, w ∈ cWI ++ cWA)
    (hsize : ls.size = c.maxLocals) (d0 : decode cc pc = .ok (.new ik, 3)) (d3 : decode cc (pc + 3) = .ok (.dup, 1)) (d4 : decode cc (pc + 4) = .ok (.ldc_w is, 3)) (d7 : decode cc (pc + 7) = .ok (.invokespecial ic, 3)) (d10 : decode cc (pc + 10) = .ok (.athrow, 1)) (hout : ∀ x ∈ c.exceptionTable.toList, False)
    (hRf : 5 < R.frames) (hRl : (rest.map fun v => v.category).sum + 82 ≤ R.locals) (hRc : cells + 1 ≤ R.cells) (hRs : slots + 6 ≤ R.slots) (hlocks : meth.locks = false) (hc : cells + 1 ≤ mc) (hs : slots + 6 ≤ ms) :
    W p l e R s m args below meth c H locs cells slots (vx_MQ below Qc (tX N D dA A s.heap.size k M) args s mc ms (cReg N A s.heap.size)) (F0 m pc ls rest) := by
  obtain ⟨hx, hb, hml, hown, hts⟩ := S
  have hin : ∀ w ∈ tBig0, w.before args s = true := fun w h => hts w (List.mem_cons_of_mem _ (List.mem_append_left _ h))
  have hg : ∀ w ∈ cWg, w.before args s = true := fun w h => hts w (List.mem_cons_of_mem _ (List.mem_append_right _ (List.mem_append_left _ h)))
  refine vx_throwSW hx hb hst (names := cUp) (sa := tx is) (A := cReg N A s.heap.size) hown hfit (by decide) (hin _ hw.1) (hin _ hw.2) (hT.1 _ htx) (fun w h => c_at hg hT.2.2.2 w (hsub w h)) ?_ hT.2.1 hT.2.2.1 Z.2 hsize d0 d3 d4 d7 d10 (fun x h => (hout x h).elim) hRf hRl hRc hRs hlocks ?_ Z.2.2.2 hc hs
  · intro w h
    rcases List.mem_cons.mp h with rfl | h
    · rfl
    · rcases List.mem_cons.mp h with rfl | h
      · rfl
      · exact List.all_eq_true.mp cWI_ot w (hsub w h)
  · intro t hv hz hq
    exact ⟨M, ⟨rfl, hk0⟩, ⟨hcl, Z.1.kept hq⟩, t_after Z hq hz rfl⟩
/-- .. by a narrow index -/
theorem t_throwN {ik is ic : Nat} {cls text : String} {k : Nat} (hk0 : ¬ k = 0) (hcl : cls = cEx k) (S : CallFix p m c cc nL s args (Cond.code y bytes maxL ret :: tBig) RX10) (hst : l.stackTraces = false) (hT : cT tx (cReg N A s.heap.size) s s.heap) (Z : tZ D N dA A s M H locs) (htx : (is, text) ∈ cTx) (hfit : Bundle.fit cls = true) (hw : Cond.classLink RX10 ik cls ∈ tBig0 ∧ Cond.initialized cls ∈ tBig0) (hsub : ∀ w ∈ vx_atS RX10 ic cls cUp, w ∈ cWI ++ cWA)
    (hsize : ls.size = c.maxLocals) (d0 : decode cc pc = .ok (.new ik, 3)) (d3 : decode cc (pc + 3) = .ok (.dup, 1)) (d4 : decode cc (pc + 4) = .ok (.ldc is, 2)) (d6 : decode cc (pc + 6) = .ok (.invokespecial ic, 3)) (d9 : decode cc (pc + 9) = .ok (.athrow, 1)) (hout : ∀ x ∈ c.exceptionTable.toList, False)
    (hRf : 5 < R.frames) (hRl : (rest.map fun v => v.category).sum + 82 ≤ R.locals) (hRc : cells + 1 ≤ R.cells) (hRs : slots + 6 ≤ R.slots) (hlocks : meth.locks = false) (hc : cells + 1 ≤ mc) (hs : slots + 6 ≤ ms) :
    W p l e R s m args below meth c H locs cells slots (vx_MQ below Qc (tX N D dA A s.heap.size k M) args s mc ms (cReg N A s.heap.size)) (F0 m pc ls rest) := by
  obtain ⟨hx, hb, hml, hown, hts⟩ := S
  have hin : ∀ w ∈ tBig0, w.before args s = true := fun w h => hts w (List.mem_cons_of_mem _ (List.mem_append_left _ h))
  have hg : ∀ w ∈ cWg, w.before args s = true := fun w h => hts w (List.mem_cons_of_mem _ (List.mem_append_right _ (List.mem_append_left _ h)))
  refine vx_throwS hx hb hst (names := cUp) (sa := tx is) (A := cReg N A s.heap.size) hown hfit (by decide) (hin _ hw.1) (hin _ hw.2) (hT.1 _ htx) (fun w h => c_at hg hT.2.2.2 w (hsub w h)) ?_ hT.2.1 hT.2.2.1 Z.2 hsize d0 d3 d4 d6 d9 (fun x h => (hout x h).elim) hRf hRl hRc hRs hlocks ?_ Z.2.2.2 hc hs
  · intro w h
    rcases List.mem_cons.mp h with rfl | h
    · rfl
    · rcases List.mem_cons.mp h with rfl | h
      · rfl
      · exact List.all_eq_true.mp cWI_ot w (hsub w h)
  · intro t hv hz hq
    exact ⟨M, ⟨rfl, hk0⟩, ⟨hcl, Z.1.kept hq⟩, t_after Z hq hz rfl⟩
theorem t_wI : ∀ w ∈ vx_atS RX10 92 cIO cUp, w ∈ cWI ++ cWA := fun w h => List.mem_append_left _ h
theorem t_wA : ∀ w ∈ vx_atS RX10 311 cIA cUp, w ∈ cWI ++ cWA := fun w h => List.mem_append_right _ h
/-- what a callee that may throw starts from -/
theorem t_pre (X : gX D vwCl dA (cLive N) A (cReg N A s.heap.size) s) (hN : cNw s) (hT : cT tx (cReg N A s.heap.size) s s.heap) (Z : tZ D N dA A s M H locs) (av : List Value) : ∀ U : State, U.heap = H → s.WarmedH U.vm → tPc N D dA A tx H.size M av av.toArray U := fun U hU hWm => ⟨rfl, by rw [hU], by rw [hU]; exact Z.1, va_K.moved hWm.alike X.1, hN.warm hWm, by
  rw [hU]
  exact hT.to hWm (fun a h1 h2 => Z.2.2.1 a h1 h2) (fun q h => h.elim Or.inl (fun h => Or.inr (Nat.le_trans Z.2.1 h)))⟩
/-- a call of a test that may throw: it returns, or it has thrown -/
theorem t_chk {k : Nat} (X : gX D vwCl dA (cLive N) A (cReg N A s.heap.size) s) (Z : tZ D N dA A s M H locs) {a : Array Value} (hr : vx_Run p l e R s m args below meth c H locs cells slots 1 6 (F0 m pc ls st) rest (tQv N D dA A H.size k M a) (tX N D dA A H.size k M) (cReg N A H.size))
    (kx : ¬ k = 0 → ∀ (ce : Cell) (q9 : Addr) (H1 : Heap) (locs1 : List Loc), tZ D N dA A s M H1 locs1 → H1[q9]? = some ce → ce.vm = .none → s.vm.findClass (cEx k) = some ce.cls → vx_W p l e R s m args below meth c H1 locs1 (cells + 1) (slots + 6) Q (F0 m pc ls rest) q9)
    (kk : k = 0 → ∀ (H1 : Heap) (locs1 : List Loc), tZ D N dA A s M H1 locs1 → W p l e R s m args below meth c H1 locs1 (cells + 1) (slots + 6) Q (F0 m (pc + 3) ls rest)) : W p l e R s m args below meth c H locs cells slots Q (F0 m pc ls st) := by
  have hreg : ∀ q, cReg N A H.size q → cReg N A s.heap.size q := fun q h => h.elim Or.inl (fun h => Or.inr (Nat.le_trans Z.2.1 h))
  refine vx_callv hr Z.2 (fun q _ h => hreg q h) hreg (fun q _ h => hreg q h) (fun E ce q9 u t H1 locs1 ht hvm hp hB hz hk hS hce hcv hcl => ?_) (fun u t H1 locs1 ht hvm hp hB hz hk hS => ?_)
  · obtain ⟨rfl, hk0⟩ := hp
    obtain ⟨rfl, hB⟩ := hB
    rw [ht] at hB
    exact kx hk0 ce q9 H1 locs1 ⟨hB, hS⟩ hce hcv hcl
  · obtain ⟨h0, rfl⟩ := hp
    rw [ht] at hB
    exact kk h0 H1 locs1 ⟨hB, hS⟩
/-- it goes on to the caller -/
theorem t_out {k : Nat} (hk0 : ¬ k = 0) {ce : Cell} {q : Addr} (hout : ∀ x ∈ c.exceptionTable.toList, False) (hlocks : meth.locks = false) (Z : tZ D N dA A s M H locs) (hce : H[q]? = some ce) (hcv : ce.vm = .none) (hcl : s.vm.findClass (cEx k) = some ce.cls) (hc : cells ≤ mc) (hs : slots ≤ ms) :
    vx_W p l e R s m args below meth c H locs cells slots (vx_MQ below Qc (tX N D dA A s.heap.size k M) args s mc ms (cReg N A s.heap.size)) (F0 m pc ls rest) q :=
  vx_out (fun x h => (hout x h).elim) hlocks hce hcv hcl (fun t ht hv => ⟨M, ⟨rfl, hk0⟩, ⟨rfl, by rw [ht]; exact Z.1⟩, Z.2.F ht⟩) Z.2.2.2 hc hs
theorem t_ri {r : Int32} {XC : String → State → State → Prop} (S : CallFix p m c cc nL s args Ts own) (Z : tZ D N dA A s M H locs) (hr : meth.sig.returnType = some .int) (hlocks : meth.locks = false) (hdg : decode cc pc = .ok (.ireturn, 1)) : W p l e R s m args below meth c H locs cells slots (vx_MQ below (tQi N D dA A s.heap.size (0, r, M)) XC args s cells slots (cReg N A s.heap.size)) (F0 m pc ls [.int r]) :=
  vx_ret (W.iret S.1 S.2.1 hr (fun t ht hWm => ⟨⟨r, M, rfl, ⟨⟨rfl, rfl⟩, rfl⟩, by show gW D (cLay N) dA (cLive N) A M t.heap; rw [ht]; exact Z.1⟩, Z.2.F ht⟩) Z.2.2.2 hdg hlocks)
theorem t_rz {r : Int32} {XC : String → State → State → Prop} (hz : r = 0 ∨ r = 1) (S : CallFix p m c cc nL s args Ts own) (Z : tZ D N dA A s M H locs) (hr : meth.sig.returnType = some .boolean) (hlocks : meth.locks = false) (hdg : decode cc pc = .ok (.ireturn, 1)) : W p l e R s m args below meth c H locs cells slots (vx_MQ below (tQi N D dA A s.heap.size (0, r, M)) XC args s cells slots (cReg N A s.heap.size)) (F0 m pc ls [.int r]) :=
  vx_ret (W.zret S.1 S.2.1 hr (by rcases hz with rfl | rfl <;> decide +kernel) (fun t ht hWm => ⟨⟨r, M, rfl, ⟨⟨rfl, rfl⟩, rfl⟩, by show gW D (cLay N) dA (cLive N) A M t.heap; rw [ht]; exact Z.1⟩, Z.2.F ht⟩) Z.2.2.2 hdg hlocks)
theorem t_rl {r : Int64} {XC : String → State → State → Prop} (S : CallFix p m c cc nL s args Ts own) (Z : tZ D N dA A s M H locs) (hr : meth.sig.returnType = some .long) (hlocks : meth.locks = false) (hdg : decode cc pc = .ok (.lreturn, 1)) : W p l e R s m args below meth c H locs cells slots (vx_MQ below (tQl N D dA A s.heap.size (0, r, M)) XC args s cells slots (cReg N A s.heap.size)) (F0 m pc ls [.long r]) :=
  vx_ret (W.lret S.1 S.2.1 hr (fun t ht hWm => ⟨⟨r, M, rfl, ⟨⟨rfl, rfl⟩, rfl⟩, by show gW D (cLay N) dA (cLive N) A M t.heap; rw [ht]; exact Z.1⟩, Z.2.F ht⟩) Z.2.2.2 hdg hlocks)
theorem t_rv {XC : String → State → State → Prop} (S : CallFix p m c cc nL s args Ts own) (Z : tZ D N dA A s M H locs) (hr : meth.sig.returnType = none) (hlocks : meth.locks = false) (hdg : decode cc pc = .ok (.return_, 1)) : W p l e R s m args below meth c H locs cells slots (vx_MQ below (tQv N D dA A s.heap.size 0 M) XC args s cells slots (cReg N A s.heap.size)) (F0 m pc ls []) :=
  vx_ret (W.vret S.1 S.2.1 hr (fun t ht hWm => ⟨⟨M, rfl, ⟨rfl, rfl⟩, by show gW D (cLay N) dA (cLive N) A M t.heap; rw [ht]; exact Z.1⟩, Z.2.F ht⟩) Z.2.2.2 hdg hlocks)
end TR
def gnl {β : Type} (v n : Nat) (k : Option β) : Option β := if v < n then k else none
theorem gnl_e {β : Type} {v n : Nat} {k : Option β} {y : β} (h : gnl v n k = some y) : v < n ∧ k = some y := by
  unfold gnl at h
  by_cases e : v < n
  · rw [if_pos e] at h; exact ⟨e, h⟩
  · rw [if_neg e] at h; cases h
