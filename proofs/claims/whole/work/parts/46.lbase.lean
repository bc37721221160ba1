def lBig0 : List Cond := [.classLink RL 13 cIO,
  .classLink RL 27 cIA,
  .initialized RX10,
  .methodLink RL 7 yX10_link,
  .instanceMethod yX10_link,
  .selects RX10 yX10_link yX10_link,
  .code yX10_link cX10_link 6 (some .boolean),
  .methodLink RL 15 yX10_server,
  .instanceMethod yX10_server,
  .selects RX10 yX10_server yX10_server,
  .code yX10_server cX10_server 4 (some .boolean),
  .methodLink RL 19 yX10_lose,
  .instanceMethod yX10_lose,
  .selects RX10 yX10_lose yX10_lose,
  .code yX10_lose cX10_lose 3 (some .boolean),
  .methodLink RL 23 yX10_priority,
  .instanceMethod yX10_priority,
  .selects RX10 yX10_priority yX10_priority,
  .code yX10_priority cX10_priority 5 (some .int),
  .methodLink RL 29 yX10_find,
  .instanceMethod yX10_find,
  .selects RX10 yX10_find yX10_find,
  .code yX10_find cX10_find 7 (some .long),
  .methodLink RL 33 yX10_read,
  .instanceMethod yX10_read,
  .selects RX10 yX10_read yX10_read,
  .code yX10_read cX10_read 6 (some .long),
  .methodLink RL 37 yX10_write,
  .instanceMethod yX10_write,
  .selects RX10 yX10_write yX10_write,
  .code yX10_write cX10_write 8 (some .long),
  .methodLink RL 41 yX10_make,
  .instanceMethod yX10_make,
  .selects RX10 yX10_make yX10_make,
  .code yX10_make cX10_make 8 (some .long),
  .methodLink RL 45 yX10_remove,
  .instanceMethod yX10_remove,
  .selects RX10 yX10_remove yX10_remove,
  .code yX10_remove cX10_remove 7 (some .long),
  .methodLink RL 48 yX10_handIn,
  .instanceMethod yX10_handIn,
  .selects RX10 yX10_handIn yX10_handIn,
  .code yX10_handIn cX10_handIn 5 (some .long),
  .methodLink RL 52 yX10_walk,
  .instanceMethod yX10_walk,
  .selects RX10 yX10_walk yX10_walk,
  .code yX10_walk cX10_walk 6 (some .long),
  .methodLink RL 55 yX10_meet,
  .instanceMethod yX10_meet,
  .selects RX10 yX10_meet yX10_meet,
  .code yX10_meet cX10_meet 2 (some .long),
  .methodLink RL 58 yX10_repair,
  .instanceMethod yX10_repair,
  .selects RX10 yX10_repair yX10_repair,
  .code yX10_repair cX10_repair 8 (some .long),
  .methodLink RL 61 yX10_copy,
  .instanceMethod yX10_copy,
  .selects RX10 yX10_copy yX10_copy,
  .code yX10_copy cX10_copy 5 (some .long),
  .methodLink RL 64 yX10_vector,
  .instanceMethod yX10_vector,
  .selects RX10 yX10_vector yX10_vector,
  .code yX10_vector cX10_vector 7 (some .long),
  .methodLink RL 67 yX10_version,
  .instanceMethod yX10_version,
  .selects RX10 yX10_version yX10_version,
  .code yX10_version cX10_version 6 (some .long),
  .methodLink RL 70 yX10_entry,
  .instanceMethod yX10_entry,
  .selects RX10 yX10_entry yX10_entry,
  .code yX10_entry cX10_entry 7 (some .long),
  .methodLink RL 73 yX10_cached,
  .instanceMethod yX10_cached,
  .selects RX10 yX10_cached yX10_cached,
  .code yX10_cached cX10_cached 5 (some .long),
  .methodLink RL 76 yX10_record,
  .instanceMethod yX10_record,
  .selects RX10 yX10_record yX10_record,
  .code yX10_record cX10_record 5 (some .long),
  .methodLink RL 79 yX10_told,
  .instanceMethod yX10_told,
  .selects RX10 yX10_told yX10_told,
  .code yX10_told cX10_told 2 (some .int)]

/-! the law's wrappers: the class's world beside the cell 'out' (one long) -/
def lBig : List Cond := lBig0 ++ tBig
set_option maxRecDepth 100000 in
theorem lBig0_all : lBig0.all goodWord = true := by decide +kernel
theorem lBig_ok : ∀ w ∈ lBig, (w.onTables && w.keeps) = true ∨ ∃ ty, w = .arrayClass ty := fun w h => (List.mem_append.mp h).elim (fun h => good_of_word (List.all_eq_true.mp lBig0_all w h)) (tBig_ok w)
theorem lB {w : Cond} (k : Nat) (h : lBig0[k]? = some w) : w ∈ lBig := List.mem_append_left _ (List.mem_of_getElem? h)
theorem lBc {a w : Cond} (k : Nat) (h : lBig0[k]? = some w) : w ∈ a :: lBig := List.mem_cons_of_mem _ (lB k h)
theorem l_t {w : Cond} (h : w ∈ tBig) : w ∈ lBig := List.mem_append_right _ h
theorem lGV {a b : Cond} {own C : String} {idx : Nat} {y : MethodName} (h1 : Cond.methodLink own idx y ∈ lBig) (h2 : Cond.instanceMethod y ∈ lBig) (h3 : Cond.selects C y y ∈ lBig) (h4 : Cond.initialized C ∈ lBig) (hb : b ∈ lBig) : GoodIn (a :: lBig) (wsV own idx C y (b :: tBig)) := by
  intro w hw
  have hm : w ∈ lBig := by
    unfold wsV at hw
    simp only [List.mem_append, List.mem_cons, List.not_mem_nil, or_false] at hw
    rcases hw with (rfl | rfl | rfl | rfl) | rfl | h
    · exact h1
    · exact h2
    · exact h3
    · exact h4
    · exact hb
    · exact l_t h
  exact ⟨List.mem_cons_of_mem _ hm, lBig_ok w hm⟩
def lO (cL : ClassId) (qo : Nat) (w : Int64) (H : Heap) : Prop := H[qo]? = some (arrV cL 1 (fun _ => .long w))
def lReg (N : Nat) (A : gI → Nat) (sz qo : Nat) : Nat → Prop := fun q => cReg N A sz q ∨ q = qo
abbrev wPc (N : Nat) (D : va_G) (dA : Nat → ClassId) (A : gI → Nat) (tx : Nat → Nat) (sz : Nat) (cL : ClassId) (qo : Nat) (w : Int64) (M : gM) (av : List Value) : Array Value → State → Prop := va_Pc av (fun U => U.heap.size = sz ∧ gW D (cLay N) dA (cLive N) A M U.heap ∧ va_K D vwCl (gT dA) U ∧ cNw U ∧ cT tx (cReg N A sz) U U.heap ∧ lO cL qo w U.heap ∧ ArrOfT U cL .long ∧ va_Nc cIA cIO U)
abbrev wQ (N : Nat) (D : va_G) (dA : Nat → ClassId) (A : gI → Nat) (sz : Nat) (cL : ClassId) (qo : Nat) (y : Int32 × Int64 × gM) : Array Value → State → Outcome → State → Prop := va_Qi (fun r u => r = y.1 ∧ u = y.2) (fun u t => gW D (cLay N) dA (cLive N) A u.2 t.heap ∧ lO cL qo u.1 t.heap) (lReg N A sz qo)
abbrev wM (l : Launch) (y : MethodName) (ws : List Cond) (rm : Room) (N : Nat) (D : va_G) (dA : Nat → ClassId) (A : gI → Nat) (tx : Nat → Nat) (sz : Nat) (cL : ClassId) (qo : Nat) (w : Int64) (M : gM) (av : List Value) (r : Int32 × Int64 × gM) (mc ms : Nat) : Prop := Met l y ws rm (wPc N D dA A tx sz cL qo w M av) (wQ N D dA A sz cL qo r) mc ms (lReg N A sz qo)
abbrev wZ (D : va_G) (N : Nat) (dA : Nat → ClassId) (A : gI → Nat) (s : State) (cL : ClassId) (qo : Nat) (M : gM) (w : Int64) (H : Heap) (locs : List Loc) : Prop := (gW D (cLay N) dA (cLive N) A M H ∧ lO cL qo w H) ∧ va_S (lReg N A s.heap.size qo) s.heap H locs
section WR
variable {p : Program} {l : Launch} {e : Env} {R : Room} {s : State} {m : MethodId} {args : Array Value} {below : List Frame} {meth : Method} {c : Code} {H : Heap} {locs : List Loc} {cells slots : Nat} {Q : State → Prop}
variable {cc bytes : ByteArray} {pc nL maxL n index N mc ms : Nat} {ls : Array Slot} {rest st As : List Value} {Ts ws : List Cond} {own C : String} {y : MethodName} {ret : Option FieldType} {rm : Room}
variable {D : va_G} {dA : Nat → ClassId} {A : gI → Nat} {tx : Nat → Nat} {M : gM} {cL : ClassId} {qo : Nat} {w : Int64}
theorem w_pre (hP : gW D (cLay N) dA (cLive N) A M s.heap) (hK : va_K D vwCl (gT dA) s) (hN : cNw s) (hT : cT tx (cReg N A s.heap.size) s s.heap) (av : List Value) : ∀ U : State, U.heap = s.heap → s.WarmedH U.vm → tPc N D dA A tx s.heap.size M av av.toArray U := fun U hU hWm => ⟨rfl, by rw [hU], by rw [hU]; exact hP, va_K.moved hWm.alike hK, hN.warm hWm, by
  rw [hU]
  exact hT.to hWm (fun a h1 h2 => rfl) (fun q h => h)⟩
theorem w_sub (hqo : ¬ gA (cLive N) A qo ∧ qo < s.heap.size) : ¬ cReg N A s.heap.size qo := fun h => h.elim hqo.1 (fun h => absurd hqo.2 (Nat.not_lt.mpr h))
theorem w_i {r : Nat × Int32 × gM} {a : Array Value} (hqo : ¬ gA (cLive N) A qo ∧ qo < s.heap.size) (hO : lO cL qo w s.heap) (hr : vx_Run p l e R s m args below meth c s.heap [] 0 0 mc ms (F0 m pc ls st) rest (tQi N D dA A s.heap.size r a) (tX N D dA A s.heap.size r.1 r.2.2) (cReg N A s.heap.size))
    (kx : ¬ r.1 = 0 → ∀ (ce : Cell) (q9 : Addr) (H1 : Heap) (locs1 : List Loc), wZ D N dA A s cL qo r.2.2 w H1 locs1 → H1[q9]? = some ce → ce.vm = .none → s.vm.findClass (cEx r.1) = some ce.cls → vx_W p l e R s m args below meth c H1 locs1 mc ms Q (F0 m pc ls rest) q9)
    (kk : r.1 = 0 → ∀ (H1 : Heap) (locs1 : List Loc), wZ D N dA A s cL qo r.2.2 w H1 locs1 → W p l e R s m args below meth c H1 locs1 mc ms Q (F0 m (pc + 3) ls (.int r.2.1 :: rest))) : W p l e R s m args below meth c s.heap [] 0 0 Q (F0 m pc ls st) := by
  have hS : va_S (lReg N A s.heap.size qo) s.heap s.heap [] := va_S.rf
  refine vx_calli hr hS (fun q _ h => Or.inl h) (fun q h => Or.inl h) (fun q _ h => Or.inl h) (fun E ce q9 u t H1 locs1 ht hvm hp hB hz hk hS hce hcv hcl => ?_) (fun r1 u t H1 locs1 ht hvm hp hB hz hk hS => ?_)
  · obtain ⟨rfl, hk0⟩ := hp
    obtain ⟨rfl, hB⟩ := hB
    rw [ht] at hB
    have h := kx hk0 ce q9 H1 locs1 ⟨⟨hB, (hk qo hqo.2 (w_sub hqo)).trans hO⟩, hS⟩ hce hcv hcl
    rwa [Nat.zero_add, Nat.zero_add]
  · obtain ⟨⟨h0, rfl⟩, rfl⟩ := hp
    rw [ht] at hB
    have h := kk h0 H1 locs1 ⟨⟨hB, (hk qo hqo.2 (w_sub hqo)).trans hO⟩, hS⟩
    rwa [Nat.zero_add, Nat.zero_add]
theorem w_l {r : Nat × Int64 × gM} {a : Array Value} (hqo : ¬ gA (cLive N) A qo ∧ qo < s.heap.size) (hO : lO cL qo w s.heap) (hr : vx_Run p l e R s m args below meth c s.heap [] 0 0 mc ms (F0 m pc ls st) rest (tQl N D dA A s.heap.size r a) (tX N D dA A s.heap.size r.1 r.2.2) (cReg N A s.heap.size))
    (kx : ¬ r.1 = 0 → ∀ (ce : Cell) (q9 : Addr) (H1 : Heap) (locs1 : List Loc), wZ D N dA A s cL qo r.2.2 w H1 locs1 → H1[q9]? = some ce → ce.vm = .none → s.vm.findClass (cEx r.1) = some ce.cls → vx_W p l e R s m args below meth c H1 locs1 mc ms Q (F0 m pc ls rest) q9)
    (kk : r.1 = 0 → ∀ (H1 : Heap) (locs1 : List Loc), wZ D N dA A s cL qo r.2.2 w H1 locs1 → W p l e R s m args below meth c H1 locs1 mc ms Q (F0 m (pc + 3) ls (.long r.2.1 :: rest))) : W p l e R s m args below meth c s.heap [] 0 0 Q (F0 m pc ls st) := by
  have hS : va_S (lReg N A s.heap.size qo) s.heap s.heap [] := va_S.rf
  refine vx_calll hr hS (fun q _ h => Or.inl h) (fun q h => Or.inl h) (fun q _ h => Or.inl h) (fun E ce q9 u t H1 locs1 ht hvm hp hB hz hk hS hce hcv hcl => ?_) (fun r1 u t H1 locs1 ht hvm hp hB hz hk hS => ?_)
  · obtain ⟨rfl, hk0⟩ := hp
    obtain ⟨rfl, hB⟩ := hB
    rw [ht] at hB
    have h := kx hk0 ce q9 H1 locs1 ⟨⟨hB, (hk qo hqo.2 (w_sub hqo)).trans hO⟩, hS⟩ hce hcv hcl
    rwa [Nat.zero_add, Nat.zero_add]
  · obtain ⟨⟨h0, rfl⟩, rfl⟩ := hp
    rw [ht] at hB
    have h := kk h0 H1 locs1 ⟨⟨hB, (hk qo hqo.2 (w_sub hqo)).trans hO⟩, hS⟩
    rwa [Nat.zero_add, Nat.zero_add]
theorem w_arr1 (cL : ClassId) (f g : Nat → Value) (h : f 0 = g 0) : arrV cL 1 f = arrV cL 1 g := by
  have e : (fun j : Fin 1 => f j.val) = fun j => g j.val := by
    funext j
    rw [show j.val = 0 by omega]
    exact h
  unfold arrV
  rw [e]
theorem w_last (S : CallFix p m c cc nL s args Ts own) (hqo : ¬ gA (cLive N) A qo ∧ qo < s.heap.size) (hAr : ArrOfT s cL .long) (Z : wZ D N dA A s cL qo M w H locs) {x : Int64} (hdg : decode cc pc = .ok (.lastore, 1))
    (kk : ∀ (H1 : Heap) (locs1 : List Loc), wZ D N dA A s cL qo M x H1 locs1 → W p l e R s m args below meth c H1 locs1 cells slots Q (F0 m (pc + 1) ls rest)) : W p l e R s m args below meth c H locs cells slots Q (F0 m pc ls (.long x :: .int 0 :: .ref qo :: rest)) := by
  refine W.last S.1 S.2.1 Z.1.2 (hAr 1 (fun _ => .long w)) (fun q => by cases q) (by rw [arrV_size]; decide) rfl rfl hdg fun H1 e1 z oq => ?_
  refine kk H1 _ ⟨⟨fun i hi => (Z.1.1 i hi).to rfl (oq _ (fun h => hqo.1 ⟨i, hi, h⟩)), ?_⟩, Z.2.put z oq (Or.inr rfl)⟩
  show H1[qo]? = _
  rw [e1, arrV_store]
  exact congrArg some (w_arr1 cL _ _ (by simp [updV]))
theorem w_ri {r : Int32} (S : CallFix p m c cc nL s args Ts own) (Z : wZ D N dA A s cL qo M w H locs) (hr : meth.sig.returnType = some .int) (hlocks : meth.locks = false) (hdg : decode cc pc = .ok (.ireturn, 1)) : W p l e R s m args below meth c H locs cells slots (MQ below (wQ N D dA A s.heap.size cL qo (r, w, M)) args s cells slots (lReg N A s.heap.size qo)) (F0 m pc ls [.int r]) :=
  W.iret S.1 S.2.1 hr (fun t ht hWm => ⟨⟨r, (w, M), rfl, ⟨rfl, rfl⟩, by rw [ht]; exact Z.1.1, by rw [ht]; exact Z.1.2⟩, Z.2.F ht⟩) Z.2.2.2 hdg hlocks
set_option maxRecDepth 100000 in
theorem w_cI : Cond.castable cIO cIO ∈ cWI ++ cWA := by decide +kernel
set_option maxRecDepth 100000 in
theorem w_cA : Cond.castable cIA cIA ∈ cWI ++ cWA := by decide +kernel
end WR
