/-! my own words for a world: a cell by an index (tag, a, b), its numbers in a store; what a method does as a function on stores -/
abbrev gI : Type := Nat × Nat × Nat
abbrev gM : Type := gI → Nat → Int32
/-- a cell: ints or booleans (array kind, length); references (array kind, length, which); an object (kind, fields, what each is: 0 a number, 1 a cell for good, 2 a cell that changes) -/
abbrev gL : Type := (Nat × Nat) ⊕ (Nat × Nat × (Nat → gI)) ⊕ (Nat × Nat × (Nat → Nat × gI))
def gset (M : gM) (i : gI) (k : Nat) (v : Int32) : gM := fun j q => if j = i ∧ q = k then v else M j q
theorem gset_at (M : gM) (i : gI) (k : Nat) (v : Int32) : gset M i k v i = upd (M i) k v := by
  funext q
  simp [gset, upd]
theorem gset_ne (M : gM) {i j : gI} (k : Nat) (v : Int32) (h : j ≠ i) : gset M i k v j = M j := by
  funext q
  simp [gset, h]
def gF (A : gI → Nat) (M : gM) (i : gI) (k : Nat) (f : Nat × gI) : Value := match f.1 with
  | 0 => .int (M i k)
  | 1 => .ref (A f.2)
  | _ => .ref (A (f.2.1, (M i k).toNatClampNeg, 0))
def gAt (D : va_G) (lay : gI → gL) (dA : Nat → ClassId) (A : gI → Nat) (M : gM) (H : Heap) (i : gI) : Prop := match lay i with
  | .inl a => H[A i]? = some (arrV (dA a.1) a.2 (fun j => .int (M i j)))
  | .inr (.inl a) => H[A i]? = some (arrV (dA a.1) a.2.1 (fun j => .ref (A (a.2.2 j))))
  | .inr (.inr o) => t_OB (A i) (D.1 o.1) o.2.1 (D.2 o.1) H (fun k => gF A M i k (o.2.2 k))
def gW (D : va_G) (lay : gI → gL) (dA : Nat → ClassId) (live : gI → Prop) (A : gI → Nat) (M : gM) (H : Heap) : Prop := ∀ i, live i → gAt D lay dA A M H i
def gJ (live : gI → Prop) (A : gI → Nat) : Prop := ∀ i j, live i → live j → A i = A j → i = j
def gA (live : gI → Prop) (A : gI → Nat) : Nat → Prop := fun q => ∃ i, live i ∧ A i = q
abbrev gT (dA : Nat → ClassId) : List (ClassId × FieldType) := [(dA 0, .int), (dA 1, .boolean), (dA 2, .object "ReplicaFiles$Server"), (dA 3, .object "ReplicaFiles$Client"), (dA 4, .object "ReplicaFiles$Versions"), (dA 5, .array .int)]
/-- what stays: the tables, the addresses apart, the cells in the region -/
abbrev gX (D : va_G) (cl : List vw_C) (dA : Nat → ClassId) (live : gI → Prop) (A : gI → Nat) (reg : Nat → Prop) (s : State) : Prop := va_K D cl (gT dA) s ∧ gJ live A ∧ ∀ i, live i → reg (A i)
/-- what moves: the world, and what was written since H0 -/
abbrev gZ (D : va_G) (lay : gI → gL) (dA : Nat → ClassId) (live : gI → Prop) (A : gI → Nat) (reg : Nat → Prop) (H0 : Heap) (M : gM) (H : Heap) (locs : List Loc) : Prop := gW D lay dA live A M H ∧ va_S reg H0 H locs
theorem gAt.to {D : va_G} {lay : gI → gL} {dA : Nat → ClassId} {A : gI → Nat} {M M' : gM} {H H' : Heap} {i : gI} (h : gAt D lay dA A M H i) (hm : M' i = M i) (hh : H'[A i]? = H[A i]?) : gAt D lay dA A M' H' i := by
  unfold gAt at h ⊢
  cases e : lay i with
  | inl a => rw [e] at h; dsimp only at h ⊢; rw [hh, hm]; exact h
  | inr b =>
    cases b with
    | inl a => rw [e] at h; dsimp only at h ⊢; rw [hh]; exact h
    | inr o =>
      rw [e] at h
      dsimp only at h ⊢
      exact (h.kept hh).to (fun k _ => by unfold gF; rw [hm])
theorem gW.put {D : va_G} {lay : gI → gL} {dA : Nat → ClassId} {live : gI → Prop} {A : gI → Nat} {M : gM} {H H1 : Heap} {i : gI} {k : Nat} {v : Int32} (h : gW D lay dA live A M H) (hJ : gJ live A) (hi : live i) (oq : ∀ q : Nat, q ≠ A i → H1[q]? = H[q]?) (hn : gAt D lay dA A (gset M i k v) H1 i) : gW D lay dA live A (gset M i k v) H1 := by
  intro j hj
  by_cases e : j = i
  · subst e; exact hn
  · exact (h j hj).to (gset_ne M k v e) (oq _ (fun q => e (hJ j i hj hi q)))
/-! the words of which the methods' functions are made -/
def lt {α β : Type} (x : α) (k : α → β) : β := k x
def gin (x : Int32) (n : Nat) : Bool := decide (¬ (x < 0 ∨ n ≤ x.toNatClampNeg))
theorem gin_in {x : Int32} {n : Nat} (h : gin x n = true) : vp_in x n := by
  unfold gin at h
  unfold vp_in
  exact of_decide_eq_true h
def rd {β : Type} (M : gM) (i : gI) (n : Nat) (x : Int32) (k : Int32 → Option β) : Option β := match gin x n with
  | true => k (M i x.toNatClampNeg)
  | false => none
def wr {β : Type} (M : gM) (i : gI) (n : Nat) (x v : Int32) (k : gM → Option β) : Option β := match gin x n with
  | true => k (gset M i x.toNatClampNeg v)
  | false => none
def wz {β : Type} (M : gM) (i : gI) (n : Nat) (x v : Int32) (k : gM → Option β) : Option β := match gin x n with
  | true => k (gset M i x.toNatClampNeg (vp_nar .boolean v))
  | false => none
def ob {α β : Type} (x : Option (α × gM)) (k : α → gM → Option β) : Option β := match x with
  | some q => k q.1 q.2
  | none => none
def o1 {α β : Type} (x : Option α) (k : α → Option β) : Option β := match x with
  | some q => k q
  | none => none
def gz {β : Type} (r : Int32) (k : Option β) : Option β := if r = 0 ∨ r = 1 then k else none
theorem gz_e {β : Type} {r : Int32} {k : Option β} {y : β} (h : gz r k = some y) : (r = 0 ∨ r = 1) ∧ k = some y := by
  unfold gz at h
  by_cases e : r = 0 ∨ r = 1
  · rw [if_pos e] at h; exact ⟨e, h⟩
  · rw [if_neg e] at h; cases h
def jn {α β : Type} (J : α → Option β) (k : (α → Option β) → Option β) : Option β := k J
theorem rd_e {β : Type} {M : gM} {i : gI} {n : Nat} {x : Int32} {k : Int32 → Option β} {y : β} (h : rd M i n x k = some y) : vp_in x n ∧ k (M i x.toNatClampNeg) = some y := by
  unfold rd at h
  cases e : gin x n with
  | true => rw [e] at h; exact ⟨gin_in e, h⟩
  | false => rw [e] at h; cases h
theorem wr_e {β : Type} {M : gM} {i : gI} {n : Nat} {x v : Int32} {k : gM → Option β} {y : β} (h : wr M i n x v k = some y) : vp_in x n ∧ k (gset M i x.toNatClampNeg v) = some y := by
  unfold wr at h
  cases e : gin x n with
  | true => rw [e] at h; exact ⟨gin_in e, h⟩
  | false => rw [e] at h; cases h
theorem wz_e {β : Type} {M : gM} {i : gI} {n : Nat} {x v : Int32} {k : gM → Option β} {y : β} (h : wz M i n x v k = some y) : vp_in x n ∧ k (gset M i x.toNatClampNeg (vp_nar .boolean v)) = some y := by
  unfold wz at h
  cases e : gin x n with
  | true => rw [e] at h; exact ⟨gin_in e, h⟩
  | false => rw [e] at h; cases h
theorem ob_e {α β : Type} {x : Option (α × gM)} {k : α → gM → Option β} {y : β} (h : ob x k = some y) : ∃ r M, x = some (r, M) ∧ k r M = some y := by
  cases x with
  | none => cases h
  | some q => exact ⟨q.1, q.2, rfl, h⟩
theorem o1_e {α β : Type} {x : Option α} {k : α → Option β} {y : β} (h : o1 x k = some y) : ∃ r, x = some r ∧ k r = some y := by
  cases x with
  | none => cases h
  | some q => exact ⟨q, rfl, h⟩
theorem jn_e {α β : Type} {J : α → Option β} {k : (α → Option β) → Option β} {y : β} (h : jn J k = some y) : ∃ J' : α → Option β, (∀ x, J' x = J x) ∧ k J' = some y := ⟨J, fun _ => rfl, h⟩
theorem if_t {c : Prop} {d : Decidable c} {α : Type} {a b z : α} (hc : c) (h : (if c then a else b) = z) : a = z := by rw [if_pos hc] at h; exact h
theorem if_f {c : Prop} {d : Decidable c} {α : Type} {a b z : α} (hc : ¬ c) (h : (if c then a else b) = z) : b = z := by rw [if_neg hc] at h; exact h
section GR
variable {p : Program} {l : Launch} {e : Env} {R : Room} {s : State} {m : MethodId} {args : Array Value} {below : List Frame} {meth : Method} {c : Code} {H : Heap} {locs : List Loc} {cells slots : Nat} {Q : State → Prop}
variable {cc : ByteArray} {pc nL : Nat} {ls : Array Slot} {rest : List Value} {Ts : List Cond} {own : String}
variable {D : va_G} {cl : List vw_C} {lay : gI → gL} {dA : Nat → ClassId} {live : gI → Prop} {A : gI → Nat} {reg : Nat → Prop} {H0 : Heap} {M : gM}
theorem g_topi {β : Type} {x : Int32} {k : Int32 → Option β} {y : β} (h : lt x k = some y) (kk : ∀ z : Int32, k z = some y → W p l e R s m args below meth c H locs cells slots Q (F0 m pc ls (.int z :: rest))) : W p l e R s m args below meth c H locs cells slots Q (F0 m pc ls (.int x :: rest)) := kk x h
theorem g_topl {β : Type} {x : Int64} {k : Int64 → Option β} {y : β} (h : lt x k = some y) (kk : ∀ z : Int64, k z = some y → W p l e R s m args below meth c H locs cells slots Q (F0 m pc ls (.long z :: rest))) : W p l e R s m args below meth c H locs cells slots Q (F0 m pc ls (.long x :: rest)) := kk x h
/-- a field that is a number -/
theorem g_gi {C : String} {T : u_T} {N ci index : Nat} {fl : Nat → Nat × gI} (S : CallFix p m c cc nL s args Ts own) (X : gX D cl dA live A reg s) (Z : gZ D lay dA live A reg H0 M H locs) (hin : ∀ w ∈ u_ws C T N, w ∈ Ts) (hc : cl[ci]? = some (C, T, N)) {i : gI} (hi : live i) (hl : lay i = .inr (.inr (ci, N, fl))) (k : Nat) (hk : k < N) {f d : String} (ht : (T k).1 = C ∧ (T k).2.1 = f ∧ (T k).2.2.1 = d) (hf : (fl k).1 = 0) (hlink : (Cond.fieldLink own index C f d).before args s = true) (hdg : decode cc pc = .ok (.getfield index, 3))
    (kk : W p l e R s m args below meth c H locs cells slots Q (F0 m (pc + 3) ls (.int (M i k) :: rest))) : W p l e R s m args below meth c H locs cells slots Q (F0 m pc ls (.ref (A i) :: rest)) := by
  obtain ⟨hx, hb, hml, hown, hts⟩ := S
  obtain ⟨hK, hJ, hR⟩ := X
  have h0 := Z.1 i hi
  unfold gAt at h0
  rw [hl] at h0
  obtain ⟨cell, q1, q2, q3, q4⟩ := h0
  obtain ⟨hS, hfc, kC, hkC, hkind⟩ := hK.1 ci _ hc
  obtain ⟨cf, kf, fi, fd, hfi, hsl⟩ := hS k hk
  obtain ⟨t1, t2, t3⟩ := ht
  have hfi' := hfi
  dsimp only at hfi'
  rw [t1, t2, t3] at hfi'
  refine W.getf hx hb hown hlink hfi' (u_facts hfc hkC (u_lays hts hin hk) hfi).1 q1 (by rw [q3]; exact fun h => by cases h) (v := .int (M i k)) ?_ rfl rfl hdg kk
  rw [hsl, q4 k hk]
  simp [gF, hf]
/-- a field that is a cell, for good -/
theorem g_gr {C : String} {T : u_T} {N ci index : Nat} {fl : Nat → Nat × gI} (S : CallFix p m c cc nL s args Ts own) (X : gX D cl dA live A reg s) (Z : gZ D lay dA live A reg H0 M H locs) (hin : ∀ w ∈ u_ws C T N, w ∈ Ts) (hc : cl[ci]? = some (C, T, N)) {i : gI} (hi : live i) (hl : lay i = .inr (.inr (ci, N, fl))) (k : Nat) (hk : k < N) {f d : String} (ht : (T k).1 = C ∧ (T k).2.1 = f ∧ (T k).2.2.1 = d) {j : gI} (hf : fl k = (1, j)) (hlink : (Cond.fieldLink own index C f d).before args s = true) (hdg : decode cc pc = .ok (.getfield index, 3))
    (kk : W p l e R s m args below meth c H locs cells slots Q (F0 m (pc + 3) ls (.ref (A j) :: rest))) : W p l e R s m args below meth c H locs cells slots Q (F0 m pc ls (.ref (A i) :: rest)) := by
  obtain ⟨hx, hb, hml, hown, hts⟩ := S
  obtain ⟨hK, hJ, hR⟩ := X
  have h0 := Z.1 i hi
  unfold gAt at h0
  rw [hl] at h0
  obtain ⟨cell, q1, q2, q3, q4⟩ := h0
  obtain ⟨hS, hfc, kC, hkC, hkind⟩ := hK.1 ci _ hc
  obtain ⟨cf, kf, fi, fd, hfi, hsl⟩ := hS k hk
  obtain ⟨t1, t2, t3⟩ := ht
  have hfi' := hfi
  dsimp only at hfi'
  rw [t1, t2, t3] at hfi'
  refine W.getf hx hb hown hlink hfi' (u_facts hfc hkC (u_lays hts hin hk) hfi).1 q1 (by rw [q3]; exact fun h => by cases h) (v := .ref (A j)) ?_ rfl rfl hdg kk
  rw [hsl, q4 k hk]
  simp [gF, hf]
/-- a number is put into a field -/
theorem g_pi {C : String} {T : u_T} {N ci index : Nat} {fl : Nat → Nat × gI} (S : CallFix p m c cc nL s args Ts own) (X : gX D cl dA live A reg s) (Z : gZ D lay dA live A reg H0 M H locs) (hin : ∀ w ∈ u_ws C T N, w ∈ Ts) (hc : cl[ci]? = some (C, T, N)) (ty0 : Nat → FieldType) (hty : ∀ k, k < N → parseFieldDescriptor (T k).2.2.1 = some (ty0 k)) (hnm : ∀ a, a < N → ∀ b, b < N → a ≠ b → (T a).2.1 ≠ (T b).2.1) {i : gI} (hi : live i) (hl : lay i = .inr (.inr (ci, N, fl))) (k : Nat) (hk : k < N) {f d : String} (ht : (T k).1 = C ∧ (T k).2.1 = f ∧ (T k).2.2.1 = d ∧ (T k).2.2.2 = false) (hf : (fl k).1 = 0) (hlink : (Cond.fieldLink own index C f d).before args s = true) {x : Int32} {ty : FieldType} (hd : parseFieldDescriptor d = some ty) (hn : narrow ty (.int x) = .int x) (hfit : fits ty (.int x) = true) (hdg : decode cc pc = .ok (.putfield index, 3))
    {β : Type} {kq : gM → Option β} {y : β} (h : lt (gset M i k x) kq = some y)
    (kk : ∀ (M1 : gM) (H1 : Heap) (locs1 : List Loc), gZ D lay dA live A reg H0 M1 H1 locs1 → kq M1 = some y → W p l e R s m args below meth c H1 locs1 cells slots Q (F0 m (pc + 3) ls rest)) : W p l e R s m args below meth c H locs cells slots Q (F0 m pc ls (.int x :: .ref (A i) :: rest)) := by
  obtain ⟨hx, hb, hml, hown, hts⟩ := S
  obtain ⟨hK, hJ, hR⟩ := X
  have hap := va_apart (own := own) hts hin ty0 hty hnm hK hc
  have h0 := Z.1 i hi
  unfold gAt at h0
  rw [hl] at h0
  obtain ⟨cell, q1, q2, q3, q4⟩ := h0
  obtain ⟨hS, hfc, kC, hkC, hkind⟩ := hK.1 ci _ hc
  obtain ⟨cf, kf, fi, fd, hfi, hsl⟩ := hS k hk
  obtain ⟨t1, t2, t3, t4⟩ := ht
  have hlay := hts _ (hin _ (u_in_lay hk))
  unfold u_lay at hlay
  rw [if_neg (by rw [t4]; decide)] at hlay
  have hst := (u_facts hfc hkC (u_lays hts hin hk) hfi).1
  have h6 := u_store (v := .int x) hfc hkC hkind hlay hfi (by rw [t3]; exact hd) hn hfit
  have hfi' := hfi
  dsimp only at hfi'
  rw [t1, t2, t3] at hfi'
  refine W.putK hx hb (f := fd) ⟨hown, hlink, ⟨_, _, _, hfi'⟩, hst⟩ (by rw [q2]; exact h6) q1 q3 (by rw [hsl]; exact k2_hasslot (q4 k hk)) rfl rfl hdg fun H' e1 e2 e3 => ?_
  rw [hsl] at e1 ⊢
  refine kk _ H' _ ⟨Z.1.put hJ hi e3 ?_, Z.2.put e2 e3 (hR i hi)⟩ h
  unfold gAt
  rw [hl]
  refine t_OB.to (V := updV (fun k => gF A M i k (fl k)) k (.int x)) ⟨_, e1, q2, q3, t_set q4 hap hk _⟩ (fun j _ => ?_)
  by_cases ej : j = k
  · subst ej
    simp [updV, gF, gset, hf]
  · simp only [updV, if_neg ej]
    unfold gF
    simp [gset, ej]
theorem g_iald {i : gI} {n : Nat} (S : CallFix p m c cc nL s args Ts own) (X : gX D cl dA live A reg s) (Z : gZ D lay dA live A reg H0 M H locs) (hi : live i) (hl : lay i = .inl (0, n)) (hdg : decode cc pc = .ok (.iaload, 1)) {x : Int32} {β : Type} {k : Int32 → Option β} {y : β} (h : rd M i n x k = some y)
    (kk : ∀ v : Int32, k v = some y → W p l e R s m args below meth c H locs cells slots Q (F0 m (pc + 1) ls (.int v :: rest))) : W p l e R s m args below meth c H locs cells slots Q (F0 m pc ls (.int x :: .ref (A i) :: rest)) := by
  obtain ⟨hx, hb, hml, hown, hts⟩ := S
  obtain ⟨hin, h⟩ := rd_e h
  have h0 := Z.1 i hi
  unfold gAt at h0
  rw [hl] at h0
  have hlt : x.toNatClampNeg < n := Nat.not_le.mp fun q => hin (Or.inr q)
  exact W.iald (v := .int (M i x.toNatClampNeg)) hx hb h0 ((X.1.2 0 _ rfl).1 n (fun j => .int (M i j))) (fun q => by cases q) (by rw [arrV_size]; exact hin) (by rw [arrV_read _ _ hlt]) rfl rfl hdg (kk _ h)
theorem g_zald {i : gI} {n : Nat} (S : CallFix p m c cc nL s args Ts own) (X : gX D cl dA live A reg s) (Z : gZ D lay dA live A reg H0 M H locs) (hi : live i) (hl : lay i = .inl (1, n)) (hdg : decode cc pc = .ok (.baload, 1)) {x : Int32} {β : Type} {k : Int32 → Option β} {y : β} (h : rd M i n x k = some y)
    (kk : ∀ v : Int32, k v = some y → W p l e R s m args below meth c H locs cells slots Q (F0 m (pc + 1) ls (.int v :: rest))) : W p l e R s m args below meth c H locs cells slots Q (F0 m pc ls (.int x :: .ref (A i) :: rest)) := by
  obtain ⟨hx, hb, hml, hown, hts⟩ := S
  obtain ⟨hin, h⟩ := rd_e h
  have h0 := Z.1 i hi
  unfold gAt at h0
  rw [hl] at h0
  have hlt : x.toNatClampNeg < n := Nat.not_le.mp fun q => hin (Or.inr q)
  exact W.zald (v := .int (M i x.toNatClampNeg)) hx hb h0 ((X.1.2 1 _ rfl).1 n (fun j => .int (M i j))) (fun q => by cases q) (by rw [arrV_size]; exact hin) (by rw [arrV_read _ _ hlt]) rfl rfl hdg (kk _ h)
theorem g_upd {D : va_G} {lay : gI → gL} {dA : Nat → ClassId} {A : gI → Nat} {M : gM} {H1 : Heap} {i : gI} {ca n k : Nat} {v : Int32} (hl : lay i = .inl (ca, n)) (e1 : H1[A i]? = some ((arrV (dA ca) n (fun j => .int (M i j))).setSlot k (.int v))) : gAt D lay dA A (gset M i k v) H1 i := by
  unfold gAt
  rw [hl]
  dsimp only
  rw [e1, arrV_store]
  congr 2
  funext q
  by_cases hq : q = k
  · subst hq; simp [updV, gset]
  · simp [updV, gset, hq]
theorem g_iast {i : gI} {n : Nat} (S : CallFix p m c cc nL s args Ts own) (X : gX D cl dA live A reg s) (Z : gZ D lay dA live A reg H0 M H locs) (hi : live i) (hl : lay i = .inl (0, n)) (hdg : decode cc pc = .ok (.iastore, 1)) {x v : Int32} {β : Type} {k : gM → Option β} {y : β} (h : wr M i n x v k = some y)
    (kk : ∀ (M1 : gM) (H1 : Heap) (locs1 : List Loc), gZ D lay dA live A reg H0 M1 H1 locs1 → k M1 = some y → W p l e R s m args below meth c H1 locs1 cells slots Q (F0 m (pc + 1) ls rest)) : W p l e R s m args below meth c H locs cells slots Q (F0 m pc ls (.int v :: .int x :: .ref (A i) :: rest)) := by
  obtain ⟨hx, hb, hml, hown, hts⟩ := S
  obtain ⟨hin, h⟩ := wr_e h
  have h0 := Z.1 i hi
  unfold gAt at h0
  rw [hl] at h0
  refine W.iast hx hb h0 ((X.1.2 0 _ rfl).1 n (fun j => .int (M i j))) (fun q => by cases q) (by rw [arrV_size]; exact hin) rfl rfl hdg fun H1 e1 z oq => ?_
  exact kk _ H1 _ ⟨Z.1.put X.2.1 hi oq (g_upd hl e1), Z.2.put z oq (X.2.2 i hi)⟩ h
theorem g_zast {i : gI} {n : Nat} (S : CallFix p m c cc nL s args Ts own) (X : gX D cl dA live A reg s) (Z : gZ D lay dA live A reg H0 M H locs) (hi : live i) (hl : lay i = .inl (1, n)) (hdg : decode cc pc = .ok (.bastore, 1)) {x v : Int32} {β : Type} {k : gM → Option β} {y : β} (h : wz M i n x v k = some y)
    (kk : ∀ (M1 : gM) (H1 : Heap) (locs1 : List Loc), gZ D lay dA live A reg H0 M1 H1 locs1 → k M1 = some y → W p l e R s m args below meth c H1 locs1 cells slots Q (F0 m (pc + 1) ls rest)) : W p l e R s m args below meth c H locs cells slots Q (F0 m pc ls (.int v :: .int x :: .ref (A i) :: rest)) := by
  obtain ⟨hx, hb, hml, hown, hts⟩ := S
  obtain ⟨hin, h⟩ := wz_e h
  have h0 := Z.1 i hi
  unfold gAt at h0
  rw [hl] at h0
  refine W.zast hx hb h0 ((X.1.2 1 _ rfl).1 n (fun j => .int (M i j))) (fun q => by cases q) (by rw [arrV_size]; exact hin) rfl rfl hdg fun H1 e1 z oq => ?_
  have e2 : narrow .boolean (.int v) = .int (vp_nar .boolean v) := by simp [vp_nar, narrow]
  rw [e2] at e1
  exact kk _ H1 _ ⟨Z.1.put X.2.1 hi oq (g_upd hl e1), Z.2.put z oq (X.2.2 i hi)⟩ h
end GR
/-! contracts of methods that make no cell: from a store to a store -/
abbrev gPc (D : va_G) (cl : List vw_C) (lay : gI → gL) (dA : Nat → ClassId) (live : gI → Prop) (A : gI → Nat) (M : gM) (av : List Value) : Array Value → State → Prop := va_Pc av (fun U => gW D lay dA live A M U.heap ∧ va_K D cl (gT dA) U)
abbrev gMi (l : Launch) (y : MethodName) (ws : List Cond) (rm : Room) (D : va_G) (cl : List vw_C) (lay : gI → gL) (dA : Nat → ClassId) (live : gI → Prop) (A : gI → Nat) (av : List Value) (M : gM) (r : Int32) (M' : gM) : Prop := Met l y ws rm (gPc D cl lay dA live A M av) (va_Qi (fun r' u => r' = r ∧ u = M') (fun u t => gW D lay dA live A u t.heap) (gA live A)) 0 0 (gA live A)
abbrev gMl (l : Launch) (y : MethodName) (ws : List Cond) (rm : Room) (D : va_G) (cl : List vw_C) (lay : gI → gL) (dA : Nat → ClassId) (live : gI → Prop) (A : gI → Nat) (av : List Value) (M : gM) (r : Int64) (M' : gM) : Prop := Met l y ws rm (gPc D cl lay dA live A M av) (va_Ql (fun r' u => r' = r ∧ u = M') (fun u t => gW D lay dA live A u t.heap) (gA live A)) 0 0 (gA live A)
abbrev gMv (l : Launch) (y : MethodName) (ws : List Cond) (rm : Room) (D : va_G) (cl : List vw_C) (lay : gI → gL) (dA : Nat → ClassId) (live : gI → Prop) (A : gI → Nat) (av : List Value) (M : gM) (M' : gM) : Prop := Met l y ws rm (gPc D cl lay dA live A M av) (va_Qv (fun u => u = M') (fun u t => gW D lay dA live A u t.heap) (gA live A)) 0 0 (gA live A)
theorem gPc.blind {D : va_G} {cl : List vw_C} {lay : gI → gL} {dA : Nat → ClassId} {live : gI → Prop} {A : gI → Nat} {M : gM} {av : List Value} : FrameBlind (gPc D cl lay dA live A M av) := fun a U g mk q => ⟨q.1, q.2.1, va_K.moved (u := U) (U := U.calling g mk a) (Vm.Alike.refl U.vm) q.2.2⟩
section GC
variable {p : Program} {l : Launch} {e : Env} {R : Room} {s : State} {m : MethodId} {args : Array Value} {below : List Frame} {meth : Method} {c : Code} {H : Heap} {locs : List Loc} {cells slots : Nat} {Q : State → Prop}
variable {cc bytes : ByteArray} {pc nL maxL n index : Nat} {ls : Array Slot} {rest st As : List Value} {Ts ws : List Cond} {own C : String} {y : MethodName} {ret : Option FieldType} {rm : Room}
variable {D : va_G} {cl : List vw_C} {lay : gI → gL} {dA : Nat → ClassId} {live : gI → Prop} {A : gI → Nat} {reg : Nat → Prop} {H0 : Heap} {M M' : gM}
theorem g_recv {i : gI} {ci N : Nat} {fl : Nat → Nat × gI} {T : u_T} (X : gX D cl dA live A reg s) (Z : gZ D lay dA live A reg H0 M H locs) (hi : live i) (hl : lay i = .inr (.inr (ci, N, fl))) (hc : cl[ci]? = some (C, T, N)) : ∃ cellB : Cell, H[A i]? = some cellB ∧ cellB.vm.isStatics = false ∧ s.vm.findClass C = some cellB.cls := by
  have h0 := Z.1 i hi
  unfold gAt at h0
  rw [hl] at h0
  obtain ⟨cell, q1, q2, q3, q4⟩ := h0
  exact ⟨cell, q1, by rw [q3]; rfl, by rw [q2]; exact (X.1.1 ci _ hc).2.1⟩
theorem g_inreg (X : gX D cl dA live A reg s) : ∀ q, gA live A q → reg q := fun q ⟨i, hi, e⟩ => e ▸ X.2.2 i hi
theorem g_Vi {i : gI} {ci N : Nat} {fl : Nat → Nat × gI} {T : u_T} {r : Int32} (S : CallFix p m c cc nL s args Ts own) (X : gX D cl dA live A reg s) (Z : gZ D lay dA live A reg H0 M H locs) (hi : live i) (hl : lay i = .inr (.inr (ci, N, fl))) (hc : cl[ci]? = some (C, T, N)) (hM : gMi l y ws rm D cl lay dA live A (.ref (A i) :: As) M r M') (cw : CallW R s args own C index y bytes maxL ret ws rm 0 0 n) (hn : As.length = n) (hsz : ls.size = nL) (hst : st = As.reverse ++ .ref (A i) :: rest) (hW : (rest.map fun v => v.category).sum ≤ 8) (hdg : decode cc pc = .ok (.invokevirtual index, 3)) (hf : cells ≤ R.cells ∧ slots ≤ R.slots)
    (kk : ∀ (H1 : Heap) (locs1 : List Loc), gZ D lay dA live A reg H0 M' H1 locs1 → W p l e R s m args below meth c H1 locs1 cells slots Q (F0 m (pc + 3) ls (.int r :: rest))) : W p l e R s m args below meth c H locs cells slots Q (F0 m pc ls st) := by
  refine va_calli (va_runV (As := As) (rest := rest) (b := A i) S hM cw ⟨gPc.blind, g_recv X Z hi hl hc, fun U hU hWm => ⟨rfl, by rw [hU]; exact Z.1, va_K.moved hWm.alike X.1⟩⟩ rfl hn hsz hst (lv_room (m := m) (pc := pc) (ls := ls) (rest := st) hW) hdg hf) Z.2 (fun q _ h => g_inreg X q h) (g_inreg X) (fun r1 u t H1 locs1 ht hvm hw hB hz1 hk1 hS => ?_)
  obtain ⟨rfl, rfl⟩ := hw
  rw [ht] at hB
  exact kk H1 locs1 ⟨hB, hS⟩
theorem g_Vl {i : gI} {ci N : Nat} {fl : Nat → Nat × gI} {T : u_T} {r : Int64} (S : CallFix p m c cc nL s args Ts own) (X : gX D cl dA live A reg s) (Z : gZ D lay dA live A reg H0 M H locs) (hi : live i) (hl : lay i = .inr (.inr (ci, N, fl))) (hc : cl[ci]? = some (C, T, N)) (hM : gMl l y ws rm D cl lay dA live A (.ref (A i) :: As) M r M') (cw : CallW R s args own C index y bytes maxL ret ws rm 0 0 n) (hn : As.length = n) (hsz : ls.size = nL) (hst : st = As.reverse ++ .ref (A i) :: rest) (hW : (rest.map fun v => v.category).sum ≤ 8) (hdg : decode cc pc = .ok (.invokevirtual index, 3)) (hf : cells ≤ R.cells ∧ slots ≤ R.slots)
    (kk : ∀ (H1 : Heap) (locs1 : List Loc), gZ D lay dA live A reg H0 M' H1 locs1 → W p l e R s m args below meth c H1 locs1 cells slots Q (F0 m (pc + 3) ls (.long r :: rest))) : W p l e R s m args below meth c H locs cells slots Q (F0 m pc ls st) := by
  refine va_calll (va_runV (As := As) (rest := rest) (b := A i) S hM cw ⟨gPc.blind, g_recv X Z hi hl hc, fun U hU hWm => ⟨rfl, by rw [hU]; exact Z.1, va_K.moved hWm.alike X.1⟩⟩ rfl hn hsz hst (lv_room (m := m) (pc := pc) (ls := ls) (rest := st) hW) hdg hf) Z.2 (fun q _ h => g_inreg X q h) (g_inreg X) (fun r1 u t H1 locs1 ht hvm hw hB hz1 hk1 hS => ?_)
  obtain ⟨rfl, rfl⟩ := hw
  rw [ht] at hB
  exact kk H1 locs1 ⟨hB, hS⟩
theorem g_Vv {i : gI} {ci N : Nat} {fl : Nat → Nat × gI} {T : u_T} (S : CallFix p m c cc nL s args Ts own) (X : gX D cl dA live A reg s) (Z : gZ D lay dA live A reg H0 M H locs) (hi : live i) (hl : lay i = .inr (.inr (ci, N, fl))) (hc : cl[ci]? = some (C, T, N)) (hM : gMv l y ws rm D cl lay dA live A (.ref (A i) :: As) M M') (cw : CallW R s args own C index y bytes maxL ret ws rm 0 0 n) (hn : As.length = n) (hsz : ls.size = nL) (hst : st = As.reverse ++ .ref (A i) :: rest) (hW : (rest.map fun v => v.category).sum ≤ 8) (hdg : decode cc pc = .ok (.invokevirtual index, 3)) (hf : cells ≤ R.cells ∧ slots ≤ R.slots)
    (kk : ∀ (H1 : Heap) (locs1 : List Loc), gZ D lay dA live A reg H0 M' H1 locs1 → W p l e R s m args below meth c H1 locs1 cells slots Q (F0 m (pc + 3) ls rest)) : W p l e R s m args below meth c H locs cells slots Q (F0 m pc ls st) := by
  refine va_callv (va_runV (As := As) (rest := rest) (b := A i) S hM cw ⟨gPc.blind, g_recv X Z hi hl hc, fun U hU hWm => ⟨rfl, by rw [hU]; exact Z.1, va_K.moved hWm.alike X.1⟩⟩ rfl hn hsz hst (lv_room (m := m) (pc := pc) (ls := ls) (rest := st) hW) hdg hf) Z.2 (fun q _ h => g_inreg X q h) (g_inreg X) (fun u t H1 locs1 ht hvm hw hB hz1 hk1 hS => ?_)
  subst hw
  rw [ht] at hB
  exact kk H1 locs1 ⟨hB, hS⟩
theorem g_Si {r : Int32} (S : CallFix p m c cc nL s args Ts own) (X : gX D cl dA live A reg s) (Z : gZ D lay dA live A reg H0 M H locs) (hM : gMi l y ws rm D cl lay dA live A As M r M') (cw : CallB R s args own index y bytes maxL ret ws rm 0 0 n ∧ (Cond.static y).before args s = true) (hn : As.length = n) (hsz : ls.size = nL) (hst : st = As.reverse ++ rest) (hW : (rest.map fun v => v.category).sum ≤ 8) (hdg : decode cc pc = .ok (.invokestatic index, 3)) (hf : cells ≤ R.cells ∧ slots ≤ R.slots)
    (kk : ∀ (H1 : Heap) (locs1 : List Loc), gZ D lay dA live A reg H0 M' H1 locs1 → W p l e R s m args below meth c H1 locs1 cells slots Q (F0 m (pc + 3) ls (.int r :: rest))) : W p l e R s m args below meth c H locs cells slots Q (F0 m pc ls st) := by
  refine va_calli (va_runS (As := As) (rest := rest) S hM cw ⟨gPc.blind, fun U hU hWm => ⟨rfl, by rw [hU]; exact Z.1, va_K.moved hWm.alike X.1⟩⟩ rfl hn hsz hst (lv_room (m := m) (pc := pc) (ls := ls) (rest := st) hW) hdg hf) Z.2 (fun q _ h => g_inreg X q h) (g_inreg X) (fun r1 u t H1 locs1 ht hvm hw hB hz1 hk1 hS => ?_)
  obtain ⟨rfl, rfl⟩ := hw
  rw [ht] at hB
  exact kk H1 locs1 ⟨hB, hS⟩
/-- ends -/
theorem g_ri {r : Int32} (S : CallFix p m c cc nL s args Ts own) (Z : gZ D lay dA live A (gA live A) s.heap M H locs) (hr : meth.sig.returnType = some .int) (hlocks : meth.locks = false) (hdg : decode cc pc = .ok (.ireturn, 1)) : W p l e R s m args below meth c H locs 0 0 (MQ below (va_Qi (fun r' u => r' = r ∧ u = M) (fun u t => gW D lay dA live A u t.heap) (gA live A)) args s 0 0 (gA live A)) (F0 m pc ls [.int r]) :=
  W.iret S.1 S.2.1 hr (fun t ht hWm => ⟨⟨r, M, rfl, ⟨rfl, rfl⟩, by show gW D lay dA live A M t.heap; rw [ht]; exact Z.1⟩, Z.2.F ht⟩) Z.2.2.2 hdg hlocks
theorem g_rz {r : Int32} (hz : r = 0 ∨ r = 1) (S : CallFix p m c cc nL s args Ts own) (Z : gZ D lay dA live A (gA live A) s.heap M H locs) (hr : meth.sig.returnType = some .boolean) (hlocks : meth.locks = false) (hdg : decode cc pc = .ok (.ireturn, 1)) : W p l e R s m args below meth c H locs 0 0 (MQ below (va_Qi (fun r' u => r' = r ∧ u = M) (fun u t => gW D lay dA live A u t.heap) (gA live A)) args s 0 0 (gA live A)) (F0 m pc ls [.int r]) :=
  W.zret S.1 S.2.1 hr (by rcases hz with rfl | rfl <;> decide +kernel) (fun t ht hWm => ⟨⟨r, M, rfl, ⟨rfl, rfl⟩, by show gW D lay dA live A M t.heap; rw [ht]; exact Z.1⟩, Z.2.F ht⟩) Z.2.2.2 hdg hlocks
theorem g_rl {r : Int64} (S : CallFix p m c cc nL s args Ts own) (Z : gZ D lay dA live A (gA live A) s.heap M H locs) (hr : meth.sig.returnType = some .long) (hlocks : meth.locks = false) (hdg : decode cc pc = .ok (.lreturn, 1)) : W p l e R s m args below meth c H locs 0 0 (MQ below (va_Ql (fun r' u => r' = r ∧ u = M) (fun u t => gW D lay dA live A u t.heap) (gA live A)) args s 0 0 (gA live A)) (F0 m pc ls [.long r]) :=
  W.lret S.1 S.2.1 hr (fun t ht hWm => ⟨⟨r, M, rfl, ⟨rfl, rfl⟩, by show gW D lay dA live A M t.heap; rw [ht]; exact Z.1⟩, Z.2.F ht⟩) Z.2.2.2 hdg hlocks
theorem g_rv (S : CallFix p m c cc nL s args Ts own) (Z : gZ D lay dA live A (gA live A) s.heap M H locs) (hr : meth.sig.returnType = none) (hlocks : meth.locks = false) (hdg : decode cc pc = .ok (.return_, 1)) : W p l e R s m args below meth c H locs 0 0 (MQ below (va_Qv (fun u => u = M) (fun u t => gW D lay dA live A u t.heap) (gA live A)) args s 0 0 (gA live A)) (F0 m pc ls []) :=
  W.vret S.1 S.2.1 hr (fun t ht hWm => ⟨⟨M, rfl, rfl, by show gW D lay dA live A M t.heap; rw [ht]; exact Z.1⟩, Z.2.F ht⟩) Z.2.2.2 hdg hlocks
end GC
