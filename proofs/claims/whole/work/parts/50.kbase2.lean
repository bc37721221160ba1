/-! rows for constructors that call constructors; the class's cells by their addresses: all are made one behind another -/
def cTb (N q t : Nat) : Nat := if t < 4 then q + 12 + 586 * t else q + 15 + 586 * N + 125 * (t - 4)
def cVb (N q v : Nat) : Nat := if v = 192 then q + 515 + 586 * N else q + 115 + 586 * (v / 48) + 10 * (v % 48)
def cAd (N q : Nat) : gI → Nat := fun i => match i.1 with
  | 0 => q
  | 1 => q + 1
  | 2 => q + 2
  | 3 => q + 3
  | 4 => q + 4
  | 5 => q + 5
  | 6 => q + 6
  | 9 => q + 7
  | 7 => q + 8
  | 20 => q + 9 + 586 * i.2.1
  | 21 => q + 10 + 586 * i.2.1
  | 22 => q + 11 + 586 * i.2.1
  | 8 => q + 9 + 586 * N
  | 30 => q + 10 + 586 * N + 125 * i.2.1
  | 31 => q + 11 + 586 * N + 125 * i.2.1
  | 32 => q + 12 + 586 * N + 125 * i.2.1
  | 33 => q + 13 + 586 * N + 125 * i.2.1
  | 34 => q + 14 + 586 * N + 125 * i.2.1
  | 40 => q + 118 + 586 * N + 125 * i.2.1
  | 41 => q + 119 + 586 * N + 125 * i.2.1
  | 42 => q + 120 + 586 * N + 125 * i.2.1
  | 43 => q + 121 + 586 * N + 125 * i.2.1
  | 44 => q + 122 + 586 * N + 125 * i.2.1
  | 45 => q + 123 + 586 * N + 125 * i.2.1 + i.2.2
  | 10 => q + 510 + 586 * N
  | 11 => q + 511 + 586 * N
  | 12 => q + 512 + 586 * N
  | 13 => q + 513 + 586 * N
  | 15 => q + 514 + 586 * N
  | 14 => q + 543 + 586 * N
  | 50 => cTb N q i.2.1
  | 51 => cTb N q i.2.1 + 1
  | 52 => cTb N q i.2.1 + 2
  | 53 => cTb N q i.2.1 + 3
  | 56 => cTb N q i.2.1 + 4
  | 54 => cTb N q i.2.1 + 5
  | 55 => cTb N q i.2.1 + 6 + i.2.2
  | 57 => cTb N q i.2.1 + 54
  | 58 => cTb N q i.2.1 + 55 + i.2.2
  | 60 => cVb N q i.2.1
  | 61 => cVb N q i.2.1 + 1
  | 62 => cVb N q i.2.1 + 2
  | 63 => cVb N q i.2.1 + 3
  | 64 => cVb N q i.2.1 + 4 + i.2.2
  | _ => q
/-- the numbers that a new object holds -/
def cM0 (N : Nat) : gM := fun i k => match i.1 with
  | 0 => if k = 0 then nI N else 0
  | 5 => if k = 0 then nI N else if k = 2 then ((1 : Int32) <<< (nI N &&& 31)) - 1 else 0
  | 4 => if k = 0 then 1 else 0
  | 2 => if k = 0 then -1 else 0
  | 51 => if i.2.1 < 4 ∧ k = 0 then 1 else 0
  | 30 => if k = 0 then nI i.2.1 else 0
  | _ => 0
theorem cAd_tree {N q t : Nat} {i : gI} (h : cLive N i ∧ 50 ≤ i.1 ∧ i.1 ≤ 58 ∧ i.2.1 = t) : cTb N q t ≤ cAd N q i ∧ cAd N q i < cTb N q t + 103 := by
  obtain ⟨tg, a, b⟩ := i
  obtain ⟨hlv, h1, h2, h3⟩ := h
  dsimp only at h1 h2 h3
  subst h3
  rcases (show tg = 50 ∨ tg = 51 ∨ tg = 52 ∨ tg = 53 ∨ tg = 54 ∨ tg = 55 ∨ tg = 56 ∨ tg = 57 ∨ tg = 58 by omega) with rfl | rfl | rfl | rfl | rfl | rfl | rfl | rfl | rfl <;> have hb := hlv.2 <;> simp only [cAd] <;> dsimp only at hb <;> omega
theorem cAd_ver {N q v : Nat} {i : gI} (h : cLive N i ∧ 60 ≤ i.1 ∧ i.1 ≤ 64 ∧ i.2.1 = v) : cVb N q v ≤ cAd N q i ∧ cAd N q i < cVb N q v + 4 + cMost v := by
  obtain ⟨tg, a, b⟩ := i
  obtain ⟨hlv, h1, h2, h3⟩ := h
  dsimp only at h1 h2 h3
  subst h3
  rcases (show tg = 60 ∨ tg = 61 ∨ tg = 62 ∨ tg = 63 ∨ tg = 64 by omega) with rfl | rfl | rfl | rfl | rfl <;> have hb := hlv.2 <;> simp only [cAd] <;> dsimp only at hb <;> omega
theorem cAd_log {N q c : Nat} {i : gI} (h : cLive N i ∧ 40 ≤ i.1 ∧ i.1 ≤ 45 ∧ i.2.1 = c) : q + 118 + 586 * N + 125 * c ≤ cAd N q i ∧ cAd N q i < q + 118 + 586 * N + 125 * c + 17 := by
  obtain ⟨tg, a, b⟩ := i
  obtain ⟨hlv, h1, h2, h3⟩ := h
  dsimp only at h1 h2 h3
  subst h3
  rcases (show tg = 40 ∨ tg = 41 ∨ tg = 42 ∨ tg = 43 ∨ tg = 44 ∨ tg = 45 by omega) with rfl | rfl | rfl | rfl | rfl | rfl <;> have hb := hlv.2 <;> simp only [cAd] <;> dsimp only at hb <;> omega
theorem cM0_tag {N : Nat} {i : gI} (h0 : i.1 ≠ 0) (h1 : i.1 ≠ 5) (h2 : i.1 ≠ 4) (h3 : i.1 ≠ 2) (h4 : i.1 ≠ 51) (h5 : i.1 ≠ 30) : cM0 N i = gM0 i := by
  funext k
  unfold cM0 gM0
  split <;> simp_all
theorem cM0_tree {N t : Nat} (ht : ¬ t < 4) {i : gI} (h : cLive N i ∧ 50 ≤ i.1 ∧ i.1 ≤ 58 ∧ i.2.1 = t) : cM0 N i = gM0 i := by
  by_cases h51 : i.1 = 51
  · funext k
    obtain ⟨tg, a, b⟩ := i
    obtain ⟨-, -, -, h3⟩ := h
    dsimp only at h51 h3
    subst h51
    subst h3
    simp [cM0, gM0, ht]
  · exact cM0_tag (by omega) (by omega) (by omega) (by omega) h51 (by omega)
/-- cells that are made, by their ids: where they lie, and that they are as the layout has them -/
def kG (N : Nat) (D : va_G) (dA : Nat → ClassId) (q lo hi : Nat) (H : Heap) (P : gI → Prop) : Prop := ∀ i, P i → (lo ≤ cAd N q i ∧ cAd N q i < hi) ∧ gAt D (cLay N) dA (cAd N q) (cM0 N) H i
section KG
variable {N q lo hi : Nat} {D : va_G} {dA : Nat → ClassId} {H H1 : Heap} {P : gI → Prop}
theorem kG.none : kG N D dA q lo hi H (fun _ => False) := fun i h => h.elim
theorem kG.old (h : kG N D dA q lo hi H P) (o : ∀ x : Nat, x < H.size → H1[x]? = H[x]?) (hh : hi ≤ H.size) : kG N D dA q lo hi H1 P := fun i hi' => ⟨(h i hi').1, (h i hi').2.to rfl (o _ (by have := (h i hi').1; omega))⟩
theorem kG.put (h : kG N D dA q lo hi H P) {a : Nat} (o : ∀ x : Nat, x ≠ a → H1[x]? = H[x]?) (ha : a < lo ∨ hi ≤ a) : kG N D dA q lo hi H1 P := fun i hi' => ⟨(h i hi').1, (h i hi').2.to rfl (o _ (by have := (h i hi').1; omega))⟩
theorem kG.call (h : kG N D dA q lo hi H P) {a : Nat} (o : ∀ x : Nat, x < H.size → x ≠ a → H1[x]? = H[x]?) (hh : hi ≤ H.size) (ha : a < lo ∨ hi ≤ a) : kG N D dA q lo hi H1 P := fun i hi' => ⟨(h i hi').1, (h i hi').2.to rfl (o _ (by have := (h i hi').1; omega) (by have := (h i hi').1; omega))⟩
theorem kG.wide (h : kG N D dA q lo hi H P) {lo' hi' : Nat} (h1 : lo' ≤ lo) (h2 : hi ≤ hi') : kG N D dA q lo' hi' H P := fun i hp => ⟨by have := (h i hp).1; omega, (h i hp).2⟩
theorem kG.join (h : kG N D dA q lo hi H P) {P' : gI → Prop} (h' : kG N D dA q lo hi H P') : kG N D dA q lo hi H (fun i => P i ∨ P' i) := fun i hp => hp.elim (h i) (h' i)
theorem kG.sub (h : kG N D dA q lo hi H P) {P' : gI → Prop} (hs : ∀ i, P' i → P i) : kG N D dA q lo hi H P' := fun i hp => h i (hs i hp)
/-- an array of numbers, all 0 -/
theorem kG.arr {id : gI} {ca n x : Nat} (hA : cAd N q id = x) (hl : cLay N id = .inl (ca, n)) (hm : cM0 N id = gM0 id) (e : H[x]? = some (arrV (dA ca) n (fun _ => .int 0))) (h1 : lo ≤ x) (h2 : x < hi) : kG N D dA q lo hi H (fun i => i = id) := by
  intro i hi'
  subst hi'
  refine ⟨by omega, ?_⟩
  unfold gAt
  rw [hl]
  dsimp only
  rw [hA, e, hm]
  rfl
theorem kG.of {ids : gI → Prop} {M1 : gM} (h : ∀ i, ids i → gAt D (cLay N) dA (cAd N q) M1 H i) (hm : ∀ i, ids i → cM0 N i = M1 i) (hb : ∀ i, ids i → lo ≤ cAd N q i ∧ cAd N q i < hi) : kG N D dA q lo hi H ids := fun i hp => ⟨hb i hp, (h i hp).to (hm i hp) rfl⟩
end KG
section KR2
variable {p : Program} {l : Launch} {e : Env} {R : Room} {s : State} {m : MethodId} {args : Array Value} {below : List Frame} {meth : Method} {c : Code} {H : Heap} {locs : List Loc} {cells slots : Nat} {Q : State → Prop}
variable {cc bytes : ByteArray} {pc nL maxL n index mc ms : Nat} {ls : Array Slot} {rest st As : List Value} {Ts ws : List Cond} {own : String} {reg : Nat → Prop} {H0 : Heap} {y : MethodName} {rm : Room}
variable {D : va_G} {dA : Nat → ClassId}
/-- new C[n] -/
theorem k_anew {C : String} (t : Nat) (ht : (gT dA)[t]? = some (dA t, .object C)) (S : CallFix p m c cc nL s args Ts own) (hK : va_K D vwCl (gT dA) s) (hS : va_S reg H0 H locs) (hcl : (Cond.classLink own index C).before args s = true) (hover : va_AO C s) {x : Int32} {n : Nat} (hx : x = nI n) (hn : n < 2 ^ 20) (hc : cells + 1 ≤ R.cells) (hs : slots + n ≤ R.slots) (hdg : decode cc pc = .ok (.anewarray index, 3))
    (kk : ∀ H1 : Heap, H1[H.size]? = some (arrV (dA t) n (fun _ => .null)) → H1.size = H.size + 1 → (∀ q : Nat, q < H.size → H1[q]? = H[q]?) → va_S reg H0 H1 locs → W p l e R s m args below meth c H1 locs (cells + 1) (slots + n) Q (F0 m (pc + 3) ls (.ref H.size :: rest))) : W p l e R s m args below meth c H locs cells slots Q (F0 m pc ls (.int x :: rest)) := by
  subst hx
  have en : (nI n).toNatClampNeg = n := nI_clamp (by omega)
  refine W.anew S.1 S.2.1 S.2.2.2.1 hcl (va_AO.use hover) rfl hdg rfl (nI_pos (by omega)) (by rw [en]; omega) hc (by rw [en]; exact hs) fun cA kA comp f1 f2 f3 f4 => ?_
  obtain ⟨kB, compB, -, -, -, k4⟩ := (hK.2 t _ ht).2
  have eA : cA = dA t := Option.some.inj (f1.symm.trans k4)
  subst eA
  rw [en]
  generalize hH1 : H.push ({ cls := dA t, slots := Array.replicate n .null, vm := .none } : Cell) = H1
  have z1 : H1.size = H.size + 1 := by rw [← hH1, Array.size_push]
  have e1 : H1[H.size]? = some (arrV (dA t) n (fun _ => .null)) := by rw [← hH1, Array.getElem?_push_size, ← arrV_new]
  have o1 : ∀ q : Nat, q < H.size → H1[q]? = H[q]? := fun q hq => by rw [← hH1, Array.getElem?_push, if_neg (Nat.ne_of_lt hq)]
  exact kk H1 e1 z1 o1 ⟨Nat.le_trans hS.1 (by omega), fun q h1 h2 => (o1 q (Nat.lt_of_lt_of_le h1 hS.1)).trans (hS.2.1 q h1 h2), hS.2.2⟩
theorem k_aast {C : String} {T : u_T} {nf ci a v : Nat} {V : Nat → Value} {f : Nat → Value} (t : Nat) (ht : (gT dA)[t]? = some (dA t, .object C)) (S : CallFix p m c cc nL s args Ts own) (hK : va_K D vwCl (gT dA) s) (hS : va_S reg H0 H locs) (hra : reg a) (hcv : vwCl[ci]? = some (C, T, nf)) (hA : H[a]? = some (arrV (dA t) n f)) (hv : t_OB v (D.1 ci) nf (D.2 ci) H V) {x : Int32} (hin : vp_in x n) (hdg : decode cc pc = .ok (.aastore, 1))
    (kk : ∀ (H1 : Heap) (locs1 : List Loc), H1[a]? = some (arrV (dA t) n (updV f x.toNatClampNeg (.ref v))) → H1.size = H.size → (∀ q : Nat, q ≠ a → H1[q]? = H[q]?) → va_S reg H0 H1 locs1 → W p l e R s m args below meth c H1 locs1 cells slots Q (F0 m (pc + 1) ls rest)) : W p l e R s m args below meth c H locs cells slots Q (F0 m pc ls (.ref v :: .int x :: .ref a :: rest)) := by
  have hlt : x.toNatClampNeg < n := Nat.not_le.mp fun q => hin (Or.inr q)
  have h0 : ¬ x < 0 := fun q => hin (Or.inl q)
  obtain ⟨cellV, g1, g2, g3, -⟩ := hv
  have hcls := (hK.1 ci _ hcv).2
  obtain ⟨kA, comp, k1, k2, k3, -⟩ := (hK.2 t _ ht).2
  have hcomp : comp = D.1 ci := Option.some.inj (k3.symm.trans hcls.1)
  subst hcomp
  have hca : s.vm.assignable (D.1 ci) (D.1 ci) = true := va_assign hcls
  obtain ⟨kC, hkC, -⟩ := hcls.2
  refine W.aast S.1 S.2.1 hA (fun q h => by cases h) (fun h => by cases h) k1 k2 rfl hkC ⟨h0, by show _ < (arrV _ _ _).slots.size; rw [arrV_size]; exact hlt⟩ g1 (fun q h => by rw [g3] at h; cases h) (by rw [g2]; exact hkC) (by rw [g2]; exact hca) rfl rfl hdg fun H1 e1 z oq => ?_
  rw [arrV_store] at e1
  exact kk H1 _ e1 z oq (hS.put z oq hra)
theorem k_getN {C host : String} {T : u_T} {nf ci a : Nat} {V : Nat → Value} (S : CallFix p m c cc nL s args Ts own) (hK : va_K D vwCl (gT dA) s) (hcv : vwCl[ci]? = some (C, T, nf)) (hin : ∀ w ∈ u_ws C T nf, w ∈ Ts) (hO : t_OB a (D.1 ci) nf (D.2 ci) H V) (k : Nat) (hk : k < nf) {f d : String} (ht : (T k).1 = C ∧ (T k).2.1 = f ∧ (T k).2.2.1 = d) {v : Value} (hv : V k = v) (hlink : (Cond.fieldLinkNest own index C f d host).before args s = true) (hdg : decode cc pc = .ok (.getfield index, 3))
    (kk : W p l e R s m args below meth c H locs cells slots Q (F0 m (pc + 3) ls (v :: rest))) : W p l e R s m args below meth c H locs cells slots Q (F0 m pc ls (.ref a :: rest)) := by
  obtain ⟨hx, hb, hml, hown, hts⟩ := S
  obtain ⟨cell, q1, q2, q3, q4⟩ := hO
  obtain ⟨hS, hfc, kC, hkC, hkind⟩ := hK.1 ci _ hcv
  obtain ⟨cf, kf, fi, fd, hfi, hsl⟩ := hS k hk
  obtain ⟨t1, t2, t3⟩ := ht
  have hfi' := hfi
  dsimp only at hfi'
  rw [t1, t2, t3] at hfi'
  refine va_Wgetf hx hb hown hlink hfi' (u_facts hfc hkC (u_lays hts hin hk) hfi).1 q1 (by rw [q3]; exact fun h => by cases h) (v := v) ?_ rfl rfl hdg kk
  rw [hsl, q4 k hk, hv]
theorem k_aald {C : String} {a : Nat} {f : Nat → Value} (t : Nat) (ht : (gT dA)[t]? = some (dA t, .object C)) (S : CallFix p m c cc nL s args Ts own) (hK : va_K D vwCl (gT dA) s) (hA : H[a]? = some (arrV (dA t) n f)) {x : Int32} {v : Value} (hin : vp_in x n) (hv : f x.toNatClampNeg = v) (hdg : decode cc pc = .ok (.aaload, 1))
    (kk : W p l e R s m args below meth c H locs cells slots Q (F0 m (pc + 1) ls (v :: rest))) : W p l e R s m args below meth c H locs cells slots Q (F0 m pc ls (.int x :: .ref a :: rest)) := by
  have hlt : x.toNatClampNeg < n := Nat.not_le.mp fun q => hin (Or.inr q)
  exact W.aald (v := v) (ty := .object C) S.1 S.2.1 hA ((hK.2 t _ ht).1 n f) rfl (fun q => by cases q) (by rw [arrV_size]; exact hin) (by rw [arrV_read _ _ hlt, hv]) rfl rfl hdg kk
end KR2
/-- before a constructor that needs other cells: those too, and the nest's words -/
abbrev kPp (N : Nat) (D : va_G) (dA : Nat → ClassId) (q sz a ci nf : Nat) (ty : Nat → FieldType) (pre : gI → Prop) (av : List Value) : Array Value → State → Prop := va_Pc av (fun U => U.heap.size = sz ∧ t_OB a (D.1 ci) nf (D.2 ci) U.heap (fun k => defaultValue (ty k)) ∧ va_K D vwCl (gT dA) U ∧ kAO U ∧ cNw U ∧ ∀ i, pre i → gAt D (cLay N) dA (cAd N q) (cM0 N) U.heap i)
theorem kPc.blind {D : va_G} {dA : Nat → ClassId} {sz q ci nf : Nat} {ty : Nat → FieldType} {av : List Value} : FrameBlind (kPc D dA sz q ci nf ty av) := fun a U g mk h => ⟨h.1, h.2.1, h.2.2.1, va_K.moved (u := U) (U := U.calling g mk a) (Vm.Alike.refl U.vm) h.2.2.2.1, kAO.moved (u := U) (U := U.calling g mk a) (Vm.Alike.refl U.vm) h.2.2.2.2⟩
theorem kPp.blind {N : Nat} {D : va_G} {dA : Nat → ClassId} {q sz a ci nf : Nat} {ty : Nat → FieldType} {pre : gI → Prop} {av : List Value} : FrameBlind (kPp N D dA q sz a ci nf ty pre av) := fun a U g mk h => ⟨h.1, h.2.1, h.2.2.1, va_K.moved (u := U) (U := U.calling g mk a) (Vm.Alike.refl U.vm) h.2.2.2.1, kAO.moved (u := U) (U := U.calling g mk a) (Vm.Alike.refl U.vm) h.2.2.2.2.1, cNw.same (U := U.calling g mk a) rfl h.2.2.2.2.2.1, h.2.2.2.2.2.2⟩
section KC
variable {p : Program} {l : Launch} {e : Env} {R : Room} {s : State} {m : MethodId} {args : Array Value} {below : List Frame} {meth : Method} {c : Code} {H : Heap} {locs : List Loc} {cells slots : Nat} {Q : State → Prop}
variable {cc bytes : ByteArray} {pc nL maxL n index mc ms N q a sz ci nf cnt : Nat} {ls : Array Slot} {rest st As : List Value} {Ts ws : List Cond} {own : String} {reg : Nat → Prop} {H0 : Heap} {y : MethodName} {rm : Room}
variable {D : va_G} {dA : Nat → ClassId} {A : gI → Nat} {ty : Nat → FieldType} {pre ids : gI → Prop} {M1 : gM}
theorem k_call (S : CallFix p m c cc nL s args Ts own) (hK : va_K D vwCl (gT dA) s) (hAO : kAO s) (hS : va_S reg H0 H locs) (hsz : H.size = sz) (hO : t_OB a (D.1 ci) nf (D.2 ci) H (fun k => defaultValue (ty k))) (hM : Met l y ws rm (kPc D dA sz a ci nf ty (.ref a :: As)) (kQ N D dA A a sz cnt ids M1) mc ms (kReg a sz)) (cw : CallB R s args own index y bytes maxL none ws rm mc ms n ∧ y.name = "<init>" ∧ (Cond.instanceMethod y).before args s = true) (hreg : ∀ x, kReg a sz x → reg x) (hn : As.length = n) (hls : ls.size = nL) (hst : st = As.reverse ++ .ref a :: rest) (hW : (rest.map fun v => v.category).sum ≤ 8) (hdg : decode cc pc = .ok (.invokespecial index, 3)) (hf : cells + mc ≤ R.cells ∧ slots + ms ≤ R.slots)
    (kk : ∀ (H1 : Heap) (locs1 : List Loc), H1.size = sz + cnt → (∀ i, ids i → gAt D (cLay N) dA A M1 H1 i) → (∀ x : Nat, x < H.size → x ≠ a → H1[x]? = H[x]?) → va_S reg H0 H1 locs1 → W p l e R s m args below meth c H1 locs1 (cells + mc) (slots + ms) Q (F0 m (pc + 3) ls rest)) : W p l e R s m args below meth c H locs cells slots Q (F0 m pc ls st) := by
  refine va_callv (va_runI (As := As) (rest := rest) (b := a) S hM cw ⟨kPc.blind, fun U hU hWm => ⟨rfl, by rw [hU]; exact hsz, by rw [hU]; exact hO, va_K.moved hWm.alike hK, kAO.moved hWm.alike hAO⟩⟩ rfl hn hls hst (lv_room (m := m) (pc := pc) (ls := ls) (rest := st) hW) hdg hf) hS (fun x _ h => hreg x h) hreg (fun u t H1 locs1 ht hvm hw hB hz1 hk1 hS => ?_)
  obtain ⟨hB1, hB2⟩ := hB
  rw [ht] at hB1
  refine kk H1 locs1 hB1 (fun i hi => by have := hB2 i hi; rw [ht] at this; exact this) (fun x h1 h2 => hk1 x h1 (fun h => h.elim h2 (fun h => by omega))) hS
theorem k_callP (S : CallFix p m c cc nL s args Ts own) (hK : va_K D vwCl (gT dA) s) (hAO : kAO s) (hNw : cNw s) (hpre : ∀ i, pre i → gAt D (cLay N) dA (cAd N q) (cM0 N) H i) (hS : va_S reg H0 H locs) (hsz : H.size = sz) (hO : t_OB a (D.1 ci) nf (D.2 ci) H (fun k => defaultValue (ty k))) (hM : Met l y ws rm (kPp N D dA q sz a ci nf ty pre (.ref a :: As)) (kQ N D dA A a sz cnt ids M1) mc ms (kReg a sz)) (cw : CallB R s args own index y bytes maxL none ws rm mc ms n ∧ y.name = "<init>" ∧ (Cond.instanceMethod y).before args s = true) (hreg : ∀ x, kReg a sz x → reg x) (hn : As.length = n) (hls : ls.size = nL) (hst : st = As.reverse ++ .ref a :: rest) (hW : (rest.map fun v => v.category).sum ≤ 8) (hdg : decode cc pc = .ok (.invokespecial index, 3)) (hf : cells + mc ≤ R.cells ∧ slots + ms ≤ R.slots)
    (kk : ∀ (H1 : Heap) (locs1 : List Loc), H1.size = sz + cnt → (∀ i, ids i → gAt D (cLay N) dA A M1 H1 i) → (∀ x : Nat, x < H.size → x ≠ a → H1[x]? = H[x]?) → va_S reg H0 H1 locs1 → W p l e R s m args below meth c H1 locs1 (cells + mc) (slots + ms) Q (F0 m (pc + 3) ls rest)) : W p l e R s m args below meth c H locs cells slots Q (F0 m pc ls st) := by
  refine va_callv (va_runI (As := As) (rest := rest) (b := a) S hM cw ⟨kPp.blind, fun U hU hWm => ⟨rfl, by rw [hU]; exact hsz, by rw [hU]; exact hO, va_K.moved hWm.alike hK, kAO.moved hWm.alike hAO, hNw.warm hWm, fun i hi => by rw [hU]; exact hpre i hi⟩⟩ rfl hn hls hst (lv_room (m := m) (pc := pc) (ls := ls) (rest := st) hW) hdg hf) hS (fun x _ h => hreg x h) hreg (fun u t H1 locs1 ht hvm hw hB hz1 hk1 hS => ?_)
  obtain ⟨hB1, hB2⟩ := hB
  rw [ht] at hB1
  refine kk H1 locs1 hB1 (fun i hi => by have := hB2 i hi; rw [ht] at this; exact this) (fun x h1 h2 => hk1 x h1 (fun h => h.elim h2 (fun h => by omega))) hS
end KC
