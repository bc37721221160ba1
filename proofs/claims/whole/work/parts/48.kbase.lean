/-! rows for constructors: cells made one behind another, an object whose fields are still being put -/
theorem k_outer (c : ClassId) (N h0 : Nat) : ∀ i : Nat, Jvm.Free.Multi.outerC c N h0 i = arrV c N (fun j => va_rf (if j < i then some (h0 + 1 + j) else none))
  | 0 => by
    show ({ cls := c, slots := Array.replicate N .null, vm := .none } : Cell) = _
    rw [arrV_new]
    refine congrArg (arrV c N) (funext fun j => ?_)
    simp [va_rf]
  | i + 1 => by
    show (Jvm.Free.Multi.outerC c N h0 i).setSlot i (.ref (h0 + 1 + i)) = _
    rw [k_outer c N h0 i, arrV_store]
    refine congrArg (arrV c N) (funext fun j => ?_)
    by_cases e : j = i
    · subst e
      simp [updV, va_rf]
    · by_cases h : j < i
      · simp [updV, e, h, Nat.lt_succ_of_lt h]
      · simp [updV, e, h, show ¬ j < i + 1 by omega]
section KR
variable {p : Program} {l : Launch} {e : Env} {R : Room} {s : State} {m : MethodId} {args : Array Value} {below : List Frame} {meth : Method} {c : Code} {H : Heap} {locs : List Loc} {cells slots : Nat} {Q : State → Prop}
variable {cc bytes : ByteArray} {pc nL maxL n index : Nat} {ls : Array Slot} {rest st As : List Value} {Ts ws : List Cond} {own : String} {reg : Nat → Prop} {H0 : Heap}
variable {D : va_G} {dA : Nat → ClassId}
theorem k_newI (S : CallFix p m c cc nL s args Ts own) (hK : va_K D vwCl (gT dA) s) (hS : va_S reg H0 H locs) (harr : (Cond.arrayClass .int).before args s = true) {x : Int32} {n : Nat} (hx : x = nI n) (hn : n < 2 ^ 31) (hby : n * componentBytes .int ≤ 536870912) (hc : cells + 1 ≤ R.cells) (hs : slots + n ≤ R.slots) (hdg : decode cc pc = .ok (.newarray .int, 2))
    (kk : ∀ H1 : Heap, H1[H.size]? = some (arrV (dA 0) n (fun _ => .int 0)) → H1.size = H.size + 1 → (∀ q : Nat, q < H.size → H1[q]? = H[q]?) → va_S reg H0 H1 locs → W p l e R s m args below meth c H1 locs (cells + 1) (slots + n) Q (F0 m (pc + 2) ls (.ref H.size :: rest))) : W p l e R s m args below meth c H locs cells slots Q (F0 m pc ls (.int x :: rest)) := by
  subst hx
  refine va_newaK S.1 S.2.1 (atype := .int) harr rfl hdg rfl (nI_pos hn) (nI_clamp hn) hby hc hs rfl fun H1 cA e1 z1 o1 hAr hNm => ?_
  have e : cA = dA 0 := Option.some.inj (hNm.symm.trans (hK.2 0 _ rfl).2)
  subst e
  exact kk H1 e1 z1 o1 ⟨Nat.le_trans hS.1 (by omega), fun q h1 h2 => (o1 q (Nat.lt_of_lt_of_le h1 hS.1)).trans (hS.2.1 q h1 h2), hS.2.2⟩
theorem k_newZ (S : CallFix p m c cc nL s args Ts own) (hK : va_K D vwCl (gT dA) s) (hS : va_S reg H0 H locs) (harr : (Cond.arrayClass .boolean).before args s = true) {x : Int32} {n : Nat} (hx : x = nI n) (hn : n < 2 ^ 31) (hby : n * componentBytes .boolean ≤ 536870912) (hc : cells + 1 ≤ R.cells) (hs : slots + n ≤ R.slots) (hdg : decode cc pc = .ok (.newarray .boolean, 2))
    (kk : ∀ H1 : Heap, H1[H.size]? = some (arrV (dA 1) n (fun _ => .int 0)) → H1.size = H.size + 1 → (∀ q : Nat, q < H.size → H1[q]? = H[q]?) → va_S reg H0 H1 locs → W p l e R s m args below meth c H1 locs (cells + 1) (slots + n) Q (F0 m (pc + 2) ls (.ref H.size :: rest))) : W p l e R s m args below meth c H locs cells slots Q (F0 m pc ls (.int x :: rest)) := by
  subst hx
  refine va_newaK S.1 S.2.1 (atype := .boolean) harr rfl hdg rfl (nI_pos hn) (nI_clamp hn) hby hc hs rfl fun H1 cA e1 z1 o1 hAr hNm => ?_
  have e : cA = dA 1 := Option.some.inj (hNm.symm.trans (hK.2 1 _ rfl).2)
  subst e
  exact kk H1 e1 z1 o1 ⟨Nat.le_trans hS.1 (by omega), fun q h1 h2 => (o1 q (Nat.lt_of_lt_of_le h1 hS.1)).trans (hS.2.1 q h1 h2), hS.2.2⟩
/-- new C: its fields hold their types' defaults -/
theorem k_new {C : String} {T : u_T} {N ci : Nat} (S : CallFix p m c cc nL s args Ts own) (hK : va_K D vwCl (gT dA) s) (hS : va_S reg H0 H locs) (hcv : vwCl[ci]? = some (C, T, N)) (hin : ∀ w ∈ u_ws C T N, w ∈ Ts) (ty : Nat → FieldType) (hty : ∀ k, k < N → parseFieldDescriptor (T k).2.2.1 = some (ty k)) (hcl : (Cond.classLink own index C).before args s = true) (hinst : (Cond.instantiable C N).before args s = true) (hini : (Cond.initialized C).before args s = true) (hc : cells + 1 ≤ R.cells) (hs : slots + N ≤ R.slots) (hdg : decode cc pc = .ok (.new index, 3))
    (kk : ∀ H1 : Heap, t_OB H.size (D.1 ci) N (D.2 ci) H1 (fun k => defaultValue (ty k)) → H1.size = H.size + 1 → (∀ q : Nat, q < H.size → H1[q]? = H[q]?) → va_S reg H0 H1 locs → W p l e R s m args below meth c H1 locs (cells + 1) (slots + N) Q (F0 m (pc + 3) ls (.ref H.size :: rest))) : W p l e R s m args below meth c H locs cells slots Q (F0 m pc ls rest) := by
  obtain ⟨hx, hb, hml, hown, hts⟩ := S
  have hKn := hK.1 ci _ hcv
  refine W.newcK hx hb hown hcl hinst hini rfl hdg hc hs hKn.2.1 rfl fun H1 kC hkC e1 z1 o1 => ?_
  exact kk H1 (u_born ty hts hin hKn hkC e1 hty) z1 o1 ⟨Nat.le_trans hS.1 (by omega), fun q h1 h2 => (o1 q (Nat.lt_of_lt_of_le h1 hS.1)).trans (hS.2.1 q h1 h2), hS.2.2⟩
/-- a final field of an object that is being made -/
theorem k_putF {C : String} {T : u_T} {N ci a : Nat} {V : Nat → Value} (S : CallFix p m c cc nL s args Ts own) (hin2 : meth.name = "<init>") (hK : va_K D vwCl (gT dA) s) (hS : va_S reg H0 H locs) (hra : reg a) (hcv : vwCl[ci]? = some (C, T, N)) (hin : ∀ w ∈ u_ws C T N, w ∈ Ts) (ty0 : Nat → FieldType) (hty : ∀ k, k < N → parseFieldDescriptor (T k).2.2.1 = some (ty0 k)) (hnm : ∀ a, a < N → ∀ b, b < N → a ≠ b → (T a).2.1 ≠ (T b).2.1) (hO : t_OB a (D.1 ci) N (D.2 ci) H V) (k : Nat) (hk : k < N) {f d : String} (ht : (T k).1 = C ∧ (T k).2.1 = f ∧ (T k).2.2.1 = d ∧ (T k).2.2.2 = true) (ho : C = own) (hlink : (Cond.fieldLink own index C f d).before args s = true) {v : Value} {ty : FieldType} (hd : parseFieldDescriptor d = some ty) (hn : narrow ty v = v) (hfit : fits ty v = true) (hdg : decode cc pc = .ok (.putfield index, 3))
    (kk : ∀ (H1 : Heap) (locs1 : List Loc), t_OB a (D.1 ci) N (D.2 ci) H1 (updV V k v) → H1.size = H.size → (∀ q : Nat, q ≠ a → H1[q]? = H[q]?) → va_S reg H0 H1 locs1 → W p l e R s m args below meth c H1 locs1 cells slots Q (F0 m (pc + 3) ls rest)) : W p l e R s m args below meth c H locs cells slots Q (F0 m pc ls (v :: .ref a :: rest)) := by
  obtain ⟨hx, hb, hml, hown, hts⟩ := S
  have hap := va_apart (own := own) hts hin ty0 hty hnm hK hcv
  obtain ⟨cell, q1, q2, q3, q4⟩ := hO
  obtain ⟨hSl, hfc, kC, hkC, hkind⟩ := hK.1 ci _ hcv
  obtain ⟨cf, kf, fi, fd, hfi, hsl⟩ := hSl k hk
  obtain ⟨t1, t2, t3, t4⟩ := ht
  have hlay := hts _ (hin _ (u_in_lay hk))
  unfold u_lay at hlay
  rw [if_pos t4] at hlay
  have hst := (u_facts hfc hkC (u_lays hts hin hk) hfi).1
  have hcf : m.cls = cf := by
    obtain ⟨_, _, c', _, _, _, -, -, hf', -, -, -, hown2, -⟩ := Cond.laysFinal_spec hlay
    have e1 : c' = cf := by have := hfi.symm.trans hf'; simp at this; exact this.1.symm
    rw [t1, ho] at hown2
    rw [← e1]; exact Option.some.inj (hown.symm.trans hown2)
  have h6 := u_fits (v := v) hfc hkC hkind (Or.inr hlay) hfi (by rw [t3]; exact hd) hn hfit
  have hfi' := hfi
  dsimp only at hfi'
  rw [t1, t2, t3] at hfi'
  refine W.putFinK hx hb hown hlink hfi' hst hcf hin2 (by rw [q2]; exact h6) q1 q3 (by rw [hsl]; exact k2_hasslot (q4 k hk)) rfl rfl hdg fun H' e1 e2 e3 => ?_
  rw [hsl] at e1 ⊢
  exact kk H' _ ⟨_, e1, q2, q3, t_set q4 hap hk _⟩ e2 e3 (hS.put e2 e3 hra)
/-- .. one that isn't final -/
theorem k_put {C : String} {T : u_T} {N ci a : Nat} {V : Nat → Value} (S : CallFix p m c cc nL s args Ts own) (hK : va_K D vwCl (gT dA) s) (hS : va_S reg H0 H locs) (hra : reg a) (hcv : vwCl[ci]? = some (C, T, N)) (hin : ∀ w ∈ u_ws C T N, w ∈ Ts) (ty0 : Nat → FieldType) (hty : ∀ k, k < N → parseFieldDescriptor (T k).2.2.1 = some (ty0 k)) (hnm : ∀ a, a < N → ∀ b, b < N → a ≠ b → (T a).2.1 ≠ (T b).2.1) (hO : t_OB a (D.1 ci) N (D.2 ci) H V) (k : Nat) (hk : k < N) {f d : String} (ht : (T k).1 = C ∧ (T k).2.1 = f ∧ (T k).2.2.1 = d ∧ (T k).2.2.2 = false) (hlink : (Cond.fieldLink own index C f d).before args s = true) {v : Value} {ty : FieldType} (hd : parseFieldDescriptor d = some ty) (hn : narrow ty v = v) (hfit : fits ty v = true) (hdg : decode cc pc = .ok (.putfield index, 3))
    (kk : ∀ (H1 : Heap) (locs1 : List Loc), t_OB a (D.1 ci) N (D.2 ci) H1 (updV V k v) → H1.size = H.size → (∀ q : Nat, q ≠ a → H1[q]? = H[q]?) → va_S reg H0 H1 locs1 → W p l e R s m args below meth c H1 locs1 cells slots Q (F0 m (pc + 3) ls rest)) : W p l e R s m args below meth c H locs cells slots Q (F0 m pc ls (v :: .ref a :: rest)) := by
  obtain ⟨hx, hb, hml, hown, hts⟩ := S
  have hap := va_apart (own := own) hts hin ty0 hty hnm hK hcv
  obtain ⟨cell, q1, q2, q3, q4⟩ := hO
  obtain ⟨hSl, hfc, kC, hkC, hkind⟩ := hK.1 ci _ hcv
  obtain ⟨cf, kf, fi, fd, hfi, hsl⟩ := hSl k hk
  obtain ⟨t1, t2, t3, t4⟩ := ht
  have hlay := hts _ (hin _ (u_in_lay hk))
  unfold u_lay at hlay
  rw [if_neg (by rw [t4]; decide)] at hlay
  have hst := (u_facts hfc hkC (u_lays hts hin hk) hfi).1
  have h6 := u_store (v := v) hfc hkC hkind hlay hfi (by rw [t3]; exact hd) hn hfit
  have hfi' := hfi
  dsimp only at hfi'
  rw [t1, t2, t3] at hfi'
  refine W.putK hx hb (f := fd) ⟨hown, hlink, ⟨_, _, _, hfi'⟩, hst⟩ (by rw [q2]; exact h6) q1 q3 (by rw [hsl]; exact k2_hasslot (q4 k hk)) rfl rfl hdg fun H' e1 e2 e3 => ?_
  rw [hsl] at e1 ⊢
  exact kk H' _ ⟨_, e1, q2, q3, t_set q4 hap hk _⟩ e2 e3 (hS.put e2 e3 hra)
theorem k_get {C : String} {T : u_T} {N ci a : Nat} {V : Nat → Value} (S : CallFix p m c cc nL s args Ts own) (hK : va_K D vwCl (gT dA) s) (hcv : vwCl[ci]? = some (C, T, N)) (hin : ∀ w ∈ u_ws C T N, w ∈ Ts) (hO : t_OB a (D.1 ci) N (D.2 ci) H V) (k : Nat) (hk : k < N) {f d : String} (ht : (T k).1 = C ∧ (T k).2.1 = f ∧ (T k).2.2.1 = d) {v : Value} (hv : V k = v) (hlink : (Cond.fieldLink own index C f d).before args s = true) (hdg : decode cc pc = .ok (.getfield index, 3))
    (kk : W p l e R s m args below meth c H locs cells slots Q (F0 m (pc + 3) ls (v :: rest))) : W p l e R s m args below meth c H locs cells slots Q (F0 m pc ls (.ref a :: rest)) := by
  obtain ⟨hx, hb, hml, hown, hts⟩ := S
  obtain ⟨cell, q1, q2, q3, q4⟩ := hO
  obtain ⟨hS, hfc, kC, hkC, hkind⟩ := hK.1 ci _ hcv
  obtain ⟨cf, kf, fi, fd, hfi, hsl⟩ := hS k hk
  obtain ⟨t1, t2, t3⟩ := ht
  have hfi' := hfi
  dsimp only at hfi'
  rw [t1, t2, t3] at hfi'
  refine W.getf hx hb hown hlink hfi' (u_facts hfc hkC (u_lays hts hin hk) hfi).1 q1 (by rw [q3]; exact fun h => by cases h) (v := v) ?_ rfl rfl hdg kk
  rw [hsl, q4 k hk, hv]
theorem k_iast {a n : Nat} {f : Nat → Value} (S : CallFix p m c cc nL s args Ts own) (hK : va_K D vwCl (gT dA) s) (hS : va_S reg H0 H locs) (hra : reg a) (hA : H[a]? = some (arrV (dA 0) n f)) {x v : Int32} (hin : vp_in x n) (hdg : decode cc pc = .ok (.iastore, 1))
    (kk : ∀ (H1 : Heap) (locs1 : List Loc), H1[a]? = some (arrV (dA 0) n (updV f x.toNatClampNeg (.int v))) → H1.size = H.size → (∀ q : Nat, q ≠ a → H1[q]? = H[q]?) → va_S reg H0 H1 locs1 → W p l e R s m args below meth c H1 locs1 cells slots Q (F0 m (pc + 1) ls rest)) : W p l e R s m args below meth c H locs cells slots Q (F0 m pc ls (.int v :: .int x :: .ref a :: rest)) := by
  refine W.iast S.1 S.2.1 hA ((hK.2 0 _ rfl).1 n f) (fun q => by cases q) (by rw [arrV_size]; exact hin) rfl rfl hdg fun H1 e1 z oq => ?_
  rw [arrV_store] at e1
  exact kk H1 _ e1 z oq (hS.put z oq hra)
theorem k_zast {a n : Nat} {f : Nat → Value} (S : CallFix p m c cc nL s args Ts own) (hK : va_K D vwCl (gT dA) s) (hS : va_S reg H0 H locs) (hra : reg a) (hA : H[a]? = some (arrV (dA 1) n f)) {x v : Int32} (hv : v = 0 ∨ v = 1) (hin : vp_in x n) (hdg : decode cc pc = .ok (.bastore, 1))
    (kk : ∀ (H1 : Heap) (locs1 : List Loc), H1[a]? = some (arrV (dA 1) n (updV f x.toNatClampNeg (.int v))) → H1.size = H.size → (∀ q : Nat, q ≠ a → H1[q]? = H[q]?) → va_S reg H0 H1 locs1 → W p l e R s m args below meth c H1 locs1 cells slots Q (F0 m (pc + 1) ls rest)) : W p l e R s m args below meth c H locs cells slots Q (F0 m pc ls (.int v :: .int x :: .ref a :: rest)) := by
  refine W.zast S.1 S.2.1 hA ((hK.2 1 _ rfl).1 n f) (fun q => by cases q) (by rw [arrV_size]; exact hin) rfl rfl hdg fun H1 e1 z oq => ?_
  have e2 : narrow .boolean (.int v) = .int v := by rcases hv with rfl | rfl <;> decide
  rw [e2, arrV_store] at e1
  exact kk H1 _ e1 z oq (hS.put z oq hra)
/-- new int[n][k] -/
theorem k_mna (S : CallFix p m c cc nL s args Ts own) (hK : va_K D vwCl (gT dA) s) (hS : va_S reg H0 H locs) (hclink : (Cond.classLink own index "[[I").before args s = true) (hover : (Cond.arrayOver (.array .int)).before args s = true) (harr : (Cond.arrayClass .int).before args s = true) {x z : Int32} {n k : Nat} (hx : x = nI n) (hz : z = nI k) (hn : n < 2 ^ 20) (hk : k < 2 ^ 20) (hby : k * componentBytes .int ≤ 536870912) (hc : cells + (1 + n) ≤ R.cells) (hs : slots + (n + n * k) ≤ R.slots) (hdg : decode cc pc = .ok (.multianewarray index 2, 4))
    (kk : ∀ H1 : Heap, H1[H.size]? = some (arrV (dA 5) n (fun j => va_rf (if j < n then some (H.size + 1 + j) else none))) → (∀ j : Nat, j < n → H1[H.size + 1 + j]? = some (arrV (dA 0) k (fun _ => .int 0))) → H1.size = H.size + 1 + n → (∀ q : Nat, q < H.size → H1[q]? = H[q]?) → va_S reg H0 H1 locs → W p l e R s m args below meth c H1 locs (cells + 1 + n) (slots + n + n * k) Q (F0 m (pc + 4) ls (.ref H.size :: rest))) : W p l e R s m args below meth c H locs cells slots Q (F0 m pc ls (.int z :: .int x :: rest)) := by
  subst hx
  subst hz
  obtain ⟨hx, hb, hml, hown, hts⟩ := S
  have en : (nI n).toNatClampNeg = n := nI_clamp (by omega)
  have ek : (nI k).toNatClampNeg = k := nI_clamp (by omega)
  intro T hT Xs
  obtain ⟨vm₁, cA, comp, -, fA, fC, hO, -, X', step⟩ := Xs.multianewarray2F (ty := .int) hx hown hclink hover harr (g := F0 m pc ls (.int (nI k) :: .int (nI n) :: rest)) rfl (by rw [hb]; exact hdg) rfl (nI_pos (by omega)) (nI_pos (by omega)) (by rw [en]; omega) (by rw [ek]; exact hby) (by rw [ek]; omega) rfl rfl (by rw [en]; exact hc) (by rw [en, ek]; exact hs)
  rw [en, ek] at X' step
  have e5 : cA = dA 5 := Option.some.inj (fA.symm.trans (hK.2 5 _ rfl).2)
  have e0 : comp = dA 0 := Option.some.inj (fC.symm.trans (hK.2 0 _ rfl).2)
  subst e5
  subst e0
  generalize hF : Jvm.Free.Multi.fill (T.setVm vm₁) (dA 5) (dA 0) n k (defaultValue .int) n = F at X' step
  have hTh : (T.setVm vm₁).heap = H := hT
  obtain ⟨f1, f2, -, -⟩ := Jvm.Free.Multi.fill_facts (T.setVm vm₁) (dA 5) (dA 0) n k (defaultValue .int) n
  rw [hF, hTh] at f1 f2
  have hold : ∀ q : Nat, q < H.size → F.heap[q]? = H[q]? := fun q hq => by
    have := Jvm.Free.Multi.fill_old (T.setVm vm₁) (dA 5) (dA 0) n k (defaultValue .int) (a := q) (by rw [hTh]; exact hq) n
    rw [hF, hTh] at this
    exact this
  have hrow : ∀ j : Nat, j < n → F.heap[H.size + 1 + j]? = some (arrV (dA 0) k (fun _ => .int 0)) := fun j hj => by
    have := Jvm.Free.Multi.fill_inner (T.setVm vm₁) (dA 5) (dA 0) n k (defaultValue .int) n j hj
    rw [hF, hTh] at this
    rw [this, ← arrV_new]
    rfl
  have hout : Jvm.Free.Multi.outerC (dA 5) n H.size n = arrV (dA 5) n (fun j => va_rf (if j < n then some (H.size + 1 + j) else none)) := k_outer (dA 5) n H.size n
  rw [hout] at f2
  obtain ⟨t, a1, b1⟩ := kk F.heap f2 hrow f1 hold ⟨by rw [f1]; have := hS.1; omega, fun q h1 h2 => (hold q (Nat.lt_of_lt_of_le h1 hS.1)).trans (hS.2.1 q h1 h2), hS.2.2⟩ F rfl X'
  refine ⟨t, step t ?_, b1⟩
  have e : T.heap.size = H.size := by rw [hT]
  rw [e]
  exact a1
end KR
