/-! the reference's constructor: its arrays one behind another, then its numbers -/
section GS
variable {p : Program} {l : Launch} {e : Env} {R : Room} {s : State} {m : MethodId} {args : Array Value} {below : List Frame} {meth : Method} {c : Code} {H : Heap} {locs : List Loc} {cells slots : Nat} {Q : State → Prop}
variable {cc : ByteArray} {pc nL : Nat} {ls : Array Slot} {rest : List Value} {Ts : List Cond} {own : String}
variable {D : va_G} {cl : List vw_C} {lay : gI → gL} {dA : Nat → ClassId} {live : gI → Prop} {A : gI → Nat} {reg : Nat → Prop} {H0 : Heap} {M : gM}
theorem gz_ast {i : gI} {n k : Nat} (S : CallFix p m c cc nL s args Ts own) (X : gX D cl dA live A reg s) (Z : gZ D lay dA live A reg H0 M H locs) (hi : live i) (hl : lay i = .inl (1, n)) (hdg : decode cc pc = .ok (.bastore, 1)) {x : Int32} (hx : x = nI k) (hk : k < n) (hn : n < 2 ^ 31)
    (kk : ∀ (H1 : Heap) (locs1 : List Loc), gZ D lay dA live A reg H0 (gset M i k 1) H1 locs1 → H1.size = H.size → W p l e R s m args below meth c H1 locs1 cells slots Q (F0 m (pc + 1) ls rest)) : W p l e R s m args below meth c H locs cells slots Q (F0 m pc ls (.int 1 :: .int x :: .ref (A i) :: rest)) := by
  subst hx
  obtain ⟨hx, hb, hml, hown, hts⟩ := S
  have hin : vp_in (nI k) n := vp_in_nI hk hn
  have h0 := Z.1 i hi
  unfold gAt at h0
  rw [hl] at h0
  refine W.zast hx hb h0 ((X.1.2 1 _ rfl).1 n (fun j => .int (M i j))) (fun q => by cases q) (by rw [arrV_size]; exact hin) rfl rfl hdg fun H1 e1 z oq => ?_
  rw [nI_clamp (by omega), show narrow .boolean (.int 1) = .int 1 by decide] at e1
  exact kk H1 _ ⟨Z.1.put X.2.1 hi oq (g_upd hl e1), Z.2.put z oq (X.2.2 i hi)⟩ z
theorem gi_ast {i : gI} {n k : Nat} (S : CallFix p m c cc nL s args Ts own) (X : gX D cl dA live A reg s) (Z : gZ D lay dA live A reg H0 M H locs) (hi : live i) (hl : lay i = .inl (0, n)) (hdg : decode cc pc = .ok (.iastore, 1)) {x v : Int32} (hx : x = nI k) (hk : k < n) (hn : n < 2 ^ 31)
    (kk : ∀ (H1 : Heap) (locs1 : List Loc), gZ D lay dA live A reg H0 (gset M i k v) H1 locs1 → H1.size = H.size → W p l e R s m args below meth c H1 locs1 cells slots Q (F0 m (pc + 1) ls rest)) : W p l e R s m args below meth c H locs cells slots Q (F0 m pc ls (.int v :: .int x :: .ref (A i) :: rest)) := by
  subst hx
  obtain ⟨hx, hb, hml, hown, hts⟩ := S
  have hin : vp_in (nI k) n := vp_in_nI hk hn
  have h0 := Z.1 i hi
  unfold gAt at h0
  rw [hl] at h0
  refine W.iast hx hb h0 ((X.1.2 0 _ rfl).1 n (fun j => .int (M i j))) (fun q => by cases q) (by rw [arrV_size]; exact hin) rfl rfl hdg fun H1 e1 z oq => ?_
  rw [nI_clamp (by omega)] at e1
  exact kk H1 _ ⟨Z.1.put X.2.1 hi oq (g_upd hl e1), Z.2.put z oq (X.2.2 i hi)⟩ z
theorem g_piS {C : String} {T : u_T} {N ci index : Nat} {fl : Nat → Nat × gI} (S : CallFix p m c cc nL s args Ts own) (X : gX D cl dA live A reg s) (Z : gZ D lay dA live A reg H0 M H locs) (hin : ∀ w ∈ u_ws C T N, w ∈ Ts) (hc : cl[ci]? = some (C, T, N)) (ty0 : Nat → FieldType) (hty : ∀ k, k < N → parseFieldDescriptor (T k).2.2.1 = some (ty0 k)) (hnm : ∀ a, a < N → ∀ b, b < N → a ≠ b → (T a).2.1 ≠ (T b).2.1) {i : gI} (hi : live i) (hl : lay i = .inr (.inr (ci, N, fl))) (k : Nat) (hk : k < N) {f : String} (ht : (T k).1 = C ∧ (T k).2.1 = f ∧ (T k).2.2.1 = "I" ∧ (T k).2.2.2 = false) (hf : (fl k).1 = 0) (hlink : (Cond.fieldLink own index C f "I").before args s = true) {x : Int32} (hdg : decode cc pc = .ok (.putfield index, 3))
    (kk : ∀ (H1 : Heap) (locs1 : List Loc), gZ D lay dA live A reg H0 (gset M i k x) H1 locs1 → H1.size = H.size → W p l e R s m args below meth c H1 locs1 cells slots Q (F0 m (pc + 3) ls rest)) : W p l e R s m args below meth c H locs cells slots Q (F0 m pc ls (.int x :: .ref (A i) :: rest)) := by
  obtain ⟨hx, hb, hml, hown, hts⟩ := S
  obtain ⟨hK, hJ, hR⟩ := X
  have hap := va_apart (own := own) hts hin ty0 hty hnm hK hc
  have h0 := Z.1 i hi
  unfold gAt at h0
  rw [hl] at h0
  obtain ⟨cell, q1, q2, q3, q4⟩ := h0
  obtain ⟨hS, hfc, kC, hkC, hkind⟩ := hK.1 ci _ hc
  obtain ⟨cf, kf, fi, fd, hfi, hsl⟩ := hS k hk
  obtain ⟨t1, t2, t3, t4⟩ := ht
  have hlay := hts _ (hin _ (u_in_lay hk))
  unfold u_lay at hlay
  rw [if_neg (by rw [t4]; decide)] at hlay
  have hst := (u_facts hfc hkC (u_lays hts hin hk) hfi).1
  have h6 := u_store (v := .int x) (ty := .int) hfc hkC hkind hlay hfi (by rw [t3]; decide) rfl rfl
  have hfi' := hfi
  dsimp only at hfi'
  rw [t1, t2, t3] at hfi'
  refine W.putK hx hb (f := fd) ⟨hown, hlink, ⟨_, _, _, hfi'⟩, hst⟩ (by rw [q2]; exact h6) q1 q3 (by rw [hsl]; exact k2_hasslot (q4 k hk)) rfl rfl hdg fun H' e1 e2 e3 => ?_
  rw [hsl] at e1 ⊢
  refine kk H' _ ⟨Z.1.put hJ hi e3 ?_, Z.2.put e2 e3 (hR i hi)⟩ e2
  unfold gAt
  rw [hl]
  refine t_OB.to (V := updV (fun k => gF A M i k (fl k)) k (.int x)) ⟨_, e1, q2, q3, t_set q4 hap hk _⟩ (fun j _ => ?_)
  by_cases ej : j = k
  · subst ej
    simp [updV, gF, gset, hf]
  · simp only [updV, if_neg ej]
    unfold gF
    simp [gset, ej]
end GS
def mOrd (t : Nat) : Nat := match t with
  | 3 => 1
  | 4 => 2
  | 5 => 3
  | 6 => 4
  | 8 => 5
  | 9 => 6
  | 10 => 7
  | 11 => 8
  | 12 => 9
  | 13 => 10
  | 14 => 11
  | 15 => 12
  | 16 => 13
  | 17 => 14
  | 18 => 15
  | 19 => 16
  | 20 => 17
  | 21 => 18
  | 22 => 19
  | 23 => 20
  | 24 => 21
  | 25 => 22
  | 26 => 23
  | 27 => 24
  | 28 => 25
  | 29 => 26
  | 30 => 27
  | 31 => 28
  | 32 => 29
  | 35 => 30
  | 36 => 31
  | 37 => 32
  | 38 => 33
  | 39 => 34
  | 40 => 35
  | 41 => 36
  | 42 => 37
  | 44 => 38
  | 45 => 39
  | 57 => 40
  | 58 => 41
  | 59 => 42
  | 60 => 43
  | 61 => 44
  | 63 => 45
  | 64 => 46
  | 65 => 47
  | 66 => 48
  | _ => 0
def mAd (q : Nat) : gI → Nat := fun i => q + mOrd i.1
def mV (q n : Nat) (k : Nat) : Value := if (mFl k).1 = 0 then .int 0 else if mOrd (mFl k).2.1 ≤ n then .ref (mAd q (mFl k).2) else .null
def mGd (D : va_G) (dA : Nat → ClassId) (q n : Nat) (H : Heap) : Prop := ∀ i : gI, i.1 ∈ mTags → i.2 = (0, 0) → 1 ≤ mOrd i.1 → mOrd i.1 ≤ n → gAt D mLay dA (mAd q) gM0 H i
theorem mGd.new {D : va_G} {dA : Nat → ClassId} {q n t ca len : Nat} {H H1 : Heap} (h : mGd D dA q n H) (hsz : H.size = q + 1 + n) (o : ∀ x : Nat, x < H.size → H1[x]? = H[x]?) (hu : ∀ t' ∈ mTags, mOrd t' = n + 1 → t' = t) (hl : mLay (t, 0, 0) = .inl (ca, len)) (e : H1[H.size]? = some (arrV (dA ca) len (fun _ => .int 0))) : mGd D dA q (n + 1) H1 := by
  intro i h1 h2 h3 h4
  by_cases hn : mOrd i.1 ≤ n
  · exact (h i h1 h2 h3 hn).to rfl (o _ (by show q + mOrd i.1 < _; omega))
  · have ho : mOrd i.1 = n + 1 := by omega
    obtain ⟨t', ab⟩ := i
    dsimp only at h1 h2 ho
    obtain rfl := hu t' h1 ho
    subst h2
    unfold gAt
    rw [hl]
    dsimp only
    rw [show mAd q (t', 0, 0) = H.size by show q + mOrd t' = _; omega, e]
    rfl
theorem mGd.put {D : va_G} {dA : Nat → ClassId} {q n : Nat} {H H1 : Heap} (h : mGd D dA q n H) (o : ∀ x : Nat, x ≠ q → H1[x]? = H[x]?) : mGd D dA q n H1 := fun i h1 h2 h3 h4 => (h i h1 h2 h3 h4).to rfl (o _ (by show q + mOrd i.1 ≠ q; omega))
theorem mV.up {q n k0 : Nat} (h1 : (mFl k0).1 = 1 ∧ mOrd (mFl k0).2.1 = n + 1) (hu : ∀ k, k < 67 → (mFl k).1 ≠ 0 → mOrd (mFl k).2.1 = n + 1 → k = k0) (k : Nat) (hk : k < 67) : updV (mV q n) k0 (.ref (q + 1 + n)) k = mV q (n + 1) k := by
  by_cases e : k = k0
  · subst e
    have h2 : (mFl k).1 ≠ 0 := by rw [h1.1]; decide
    simp only [updV, if_true, mV, if_neg h2]
    rw [if_pos (by omega)]
    show Value.ref (q + 1 + n) = .ref (q + mOrd (mFl k).2.1)
    have h3 : (q + 1 + n : Nat) = q + mOrd (mFl k).2.1 := by have := h1.2; omega
    exact congrArg Value.ref h3
  · simp only [updV, if_neg e, mV]
    by_cases h0 : (mFl k).1 = 0
    · rw [if_pos h0, if_pos h0]
    · rw [if_neg h0, if_neg h0]
      by_cases hn : mOrd (mFl k).2.1 ≤ n
      · rw [if_pos hn, if_pos (by omega)]
      · rw [if_neg hn, if_neg (fun h => e (hu k hk h0 (by omega)))]
set_option maxRecDepth 100000 in
theorem mFl_all : ∀ k, k < 67 → (mFl k).1 = 0 ∨ ((mFl k).1 = 1 ∧ mOrd (mFl k).2.1 ≤ 48) := by decide +kernel
theorem mV.end (q k : Nat) (hk : k < 67) : mV q 48 k = gF (mAd q) gM0 m_o k (mFl k) := by
  unfold mV gF
  rcases mFl_all k hk with h | h
  · rw [if_pos h, h]
    rfl
  · rw [if_neg (by rw [h.1]; decide), if_pos h.2, h.1]
    rfl
set_option maxRecDepth 100000 in
theorem mOrd_inj : ∀ a ∈ mTags, ∀ b ∈ mTags, mOrd a = mOrd b → a = b := by decide +kernel
set_option maxRecDepth 100000 in
theorem mOrd_pos : ∀ a ∈ mTags, a ≠ 0 → 1 ≤ mOrd a ∧ mOrd a ≤ 48 := by decide +kernel
theorem mJ (q : Nat) : gJ mLive (mAd q) := by
  intro i j hi hj h
  have h1 := mOrd_inj i.1 hi.1 j.1 hj.1 (by have : q + mOrd i.1 = q + mOrd j.1 := h; omega)
  obtain ⟨a, b⟩ := i
  obtain ⟨c, d⟩ := j
  dsimp only at h1
  subst h1
  have e1 : b = (0, 0) := hi.2
  have e2 : d = (0, 0) := hj.2
  rw [e1, e2]
theorem wz_s {M : gM} {i : gI} {n k : Nat} {x : Int32} (hx : x = nI k) (hk : k < n) (hn : n < 2 ^ 31) : wz M i n x 1 some = some (gset M i k 1) := by
  subst hx
  have h1 : gin (nI k) n = true := decide_eq_true (vp_in_nI hk hn)
  have h2 : vp_nar .boolean 1 = 1 := by decide +kernel
  unfold wz
  rw [h1, nI_clamp (by omega), h2]
theorem wr_s {M : gM} {i : gI} {n k : Nat} {x v : Int32} (hx : x = nI k) (hk : k < n) (hn : n < 2 ^ 31) : wr M i n x v some = some (gset M i k v) := by
  subst hx
  have h1 : gin (nI k) n = true := decide_eq_true (vp_in_nI hk hn)
  unfold wr
  rw [h1, nI_clamp (by omega)]
theorem nI_mul48 (j : Nat) : (48 : Int32) * nI j = nI (48 * j) := by
  show Int32.ofNat 48 * Int32.ofNat j = Int32.ofNat (48 * j)
  rw [Int32.ofNat_mul]
def mM1 (N k : Nat) : gM := fun j q => if (j = m_linked ∨ j = m_reaches) ∧ q < k then 1 else gset (gset gM0 m_o 0 (nI N)) m_o 1 (nI (N + 4)) j q
theorem mM1.up (N k : Nat) : gset (gset (mM1 N k) m_linked k 1) m_reaches k 1 = mM1 N (k + 1) := by
  funext j q
  have hne : m_linked ≠ m_reaches := by decide
  by_cases h1 : j = m_linked
  · subst h1
    rcases Nat.lt_trichotomy q k with h | h | h
    · simp [gset, mM1, h, Nat.ne_of_lt h, Nat.lt_succ_of_lt h]
    · subst h; simp [gset, mM1]
    · simp [gset, mM1, show ¬ q < k by omega, show ¬ q = k by omega, show ¬ q < k + 1 by omega]
  · by_cases h2 : j = m_reaches
    · subst h2
      rcases Nat.lt_trichotomy q k with h | h | h
      · simp [gset, mM1, h, Nat.ne_of_lt h, Nat.lt_succ_of_lt h]
      · subst h; simp [gset, mM1]
      · simp [gset, mM1, show ¬ q < k by omega, show ¬ q = k by omega, show ¬ q < k + 1 by omega]
    · simp [gset, mM1, h1, h2]
def mM2 (N s : Nat) : gM := fun j q => if (j = m_up ∧ q < s) ∨ (j = m_has ∧ q % 48 = 0 ∧ q < 48 * s) then 1 else gset (gset (gset (mM1 N 16) m_o 6 1) m_isDirectory 0 1) m_parent 0 (-1) j q
theorem mM2.up (N s : Nat) : gset (gset (mM2 N s) m_up s 1) m_has (48 * s) 1 = mM2 N (s + 1) := by
  funext j q
  by_cases h1 : j = m_up
  · subst h1
    rcases Nat.lt_trichotomy q s with h | h | h
    · simp [gset, mM2, h, Nat.ne_of_lt h, Nat.lt_succ_of_lt h]
    · subst h; simp [gset, mM2]
    · simp [gset, mM2, show ¬ q < s by omega, show ¬ q = s by omega, show ¬ q < s + 1 by omega]
  · by_cases h2 : j = m_has
    · subst h2
      by_cases h3 : q = 48 * s
      · subst h3; simp [gset, mM2, show 48 * s < 48 * (s + 1) by omega]
      · by_cases h4 : q % 48 = 0
        · by_cases h5 : q < 48 * s
          · simp [gset, mM2, h3, h4, h5, show q < 48 * (s + 1) by omega]
          · simp [gset, mM2, h3, h4, h5, show ¬ q < 48 * (s + 1) by omega]
        · simp [gset, mM2, h3, h4]
    · simp [gset, mM2, h1, h2]
/-- the numbers that a new reference holds -/
def mM0 (N : Nat) : gM := mM2 N N
theorem mM2.zero (N : Nat) : gset (gset (gset (mM1 N 16) m_o 6 1) m_isDirectory 0 1) m_parent 0 (-1) = mM2 N 0 := by
  funext j q
  simp [mM2]
theorem mM1.zero (N : Nat) : gset (gset gM0 m_o 0 (nI N)) m_o 1 (nI (N + 4)) = mM1 N 0 := by
  funext j q
  simp [mM1]
theorem dX11_init_0 : decode cX11_init 0 = .ok (.aload_n 0, 1) := by decide +kernel
theorem dX11_init_1 : decode cX11_init 1 = .ok (.invokespecial 1, 3) := by decide +kernel
theorem dX11_init_4 : decode cX11_init 4 = .ok (.aload_n 0, 1) := by decide +kernel
theorem dX11_init_5 : decode cX11_init 5 = .ok (.iconst 4, 1) := by decide +kernel
theorem dX11_init_6 : decode cX11_init 6 = .ok (.newarray .boolean, 2) := by decide +kernel
theorem dX11_init_8 : decode cX11_init 8 = .ok (.putfield 7, 3) := by decide +kernel
theorem dX11_init_11 : decode cX11_init 11 = .ok (.aload_n 0, 1) := by decide +kernel
theorem dX11_init_12 : decode cX11_init 12 = .ok (.bipush 16, 2) := by decide +kernel
theorem dX11_init_14 : decode cX11_init 14 = .ok (.newarray .boolean, 2) := by decide +kernel
theorem dX11_init_16 : decode cX11_init 16 = .ok (.putfield 13, 3) := by decide +kernel
theorem dX11_init_19 : decode cX11_init 19 = .ok (.aload_n 0, 1) := by decide +kernel
theorem dX11_init_20 : decode cX11_init 20 = .ok (.bipush 16, 2) := by decide +kernel
theorem dX11_init_22 : decode cX11_init 22 = .ok (.newarray .boolean, 2) := by decide +kernel
theorem dX11_init_24 : decode cX11_init 24 = .ok (.putfield 16, 3) := by decide +kernel
theorem dX11_init_27 : decode cX11_init 27 = .ok (.aload_n 0, 1) := by decide +kernel
theorem dX11_init_28 : decode cX11_init 28 = .ok (.iconst 4, 1) := by decide +kernel
theorem dX11_init_29 : decode cX11_init 29 = .ok (.newarray .boolean, 2) := by decide +kernel
theorem dX11_init_31 : decode cX11_init 31 = .ok (.putfield 19, 3) := by decide +kernel
theorem dX11_init_34 : decode cX11_init 34 = .ok (.aload_n 0, 1) := by decide +kernel
theorem dX11_init_35 : decode cX11_init 35 = .ok (.bipush 48, 2) := by decide +kernel
theorem dX11_init_37 : decode cX11_init 37 = .ok (.newarray .int, 2) := by decide +kernel
theorem dX11_init_39 : decode cX11_init 39 = .ok (.putfield 22, 3) := by decide +kernel
theorem dX11_init_42 : decode cX11_init 42 = .ok (.aload_n 0, 1) := by decide +kernel
theorem dX11_init_43 : decode cX11_init 43 = .ok (.bipush 48, 2) := by decide +kernel
theorem dX11_init_45 : decode cX11_init 45 = .ok (.newarray .int, 2) := by decide +kernel
theorem dX11_init_47 : decode cX11_init 47 = .ok (.putfield 26, 3) := by decide +kernel
theorem dX11_init_50 : decode cX11_init 50 = .ok (.aload_n 0, 1) := by decide +kernel
theorem dX11_init_51 : decode cX11_init 51 = .ok (.bipush 48, 2) := by decide +kernel
theorem dX11_init_53 : decode cX11_init 53 = .ok (.newarray .boolean, 2) := by decide +kernel
theorem dX11_init_55 : decode cX11_init 55 = .ok (.putfield 29, 3) := by decide +kernel
theorem dX11_init_58 : decode cX11_init 58 = .ok (.aload_n 0, 1) := by decide +kernel
theorem dX11_init_59 : decode cX11_init 59 = .ok (.sipush 192, 3) := by decide +kernel
theorem dX11_init_62 : decode cX11_init 62 = .ok (.newarray .boolean, 2) := by decide +kernel
theorem dX11_init_64 : decode cX11_init 64 = .ok (.putfield 32, 3) := by decide +kernel
theorem dX11_init_67 : decode cX11_init 67 = .ok (.aload_n 0, 1) := by decide +kernel
theorem dX11_init_68 : decode cX11_init 68 = .ok (.sipush 192, 3) := by decide +kernel
theorem dX11_init_71 : decode cX11_init 71 = .ok (.newarray .int, 2) := by decide +kernel
theorem dX11_init_73 : decode cX11_init 73 = .ok (.putfield 35, 3) := by decide +kernel
theorem dX11_init_76 : decode cX11_init 76 = .ok (.aload_n 0, 1) := by decide +kernel
theorem dX11_init_77 : decode cX11_init 77 = .ok (.sipush 192, 3) := by decide +kernel
theorem dX11_init_80 : decode cX11_init 80 = .ok (.newarray .int, 2) := by decide +kernel
theorem dX11_init_82 : decode cX11_init 82 = .ok (.putfield 38, 3) := by decide +kernel
theorem dX11_init_85 : decode cX11_init 85 = .ok (.aload_n 0, 1) := by decide +kernel
theorem dX11_init_86 : decode cX11_init 86 = .ok (.sipush 1536, 3) := by decide +kernel
theorem dX11_init_89 : decode cX11_init 89 = .ok (.newarray .int, 2) := by decide +kernel
theorem dX11_init_91 : decode cX11_init 91 = .ok (.putfield 41, 3) := by decide +kernel
theorem dX11_init_94 : decode cX11_init 94 = .ok (.aload_n 0, 1) := by decide +kernel
theorem dX11_init_95 : decode cX11_init 95 = .ok (.sipush 192, 3) := by decide +kernel
theorem dX11_init_98 : decode cX11_init 98 = .ok (.newarray .int, 2) := by decide +kernel
theorem dX11_init_100 : decode cX11_init 100 = .ok (.putfield 44, 3) := by decide +kernel
theorem dX11_init_103 : decode cX11_init 103 = .ok (.aload_n 0, 1) := by decide +kernel
theorem dX11_init_104 : decode cX11_init 104 = .ok (.sipush 1152, 3) := by decide +kernel
theorem dX11_init_107 : decode cX11_init 107 = .ok (.newarray .int, 2) := by decide +kernel
theorem dX11_init_109 : decode cX11_init 109 = .ok (.putfield 47, 3) := by decide +kernel
theorem dX11_init_112 : decode cX11_init 112 = .ok (.aload_n 0, 1) := by decide +kernel
theorem dX11_init_113 : decode cX11_init 113 = .ok (.sipush 1152, 3) := by decide +kernel
theorem dX11_init_116 : decode cX11_init 116 = .ok (.newarray .int, 2) := by decide +kernel
theorem dX11_init_118 : decode cX11_init 118 = .ok (.putfield 50, 3) := by decide +kernel
theorem dX11_init_121 : decode cX11_init 121 = .ok (.aload_n 0, 1) := by decide +kernel
theorem dX11_init_122 : decode cX11_init 122 = .ok (.sipush 9216, 3) := by decide +kernel
theorem dX11_init_125 : decode cX11_init 125 = .ok (.newarray .int, 2) := by decide +kernel
theorem dX11_init_127 : decode cX11_init 127 = .ok (.putfield 53, 3) := by decide +kernel
theorem dX11_init_130 : decode cX11_init 130 = .ok (.aload_n 0, 1) := by decide +kernel
theorem dX11_init_131 : decode cX11_init 131 = .ok (.sipush 192, 3) := by decide +kernel
theorem dX11_init_134 : decode cX11_init 134 = .ok (.newarray .int, 2) := by decide +kernel
theorem dX11_init_136 : decode cX11_init 136 = .ok (.putfield 56, 3) := by decide +kernel
theorem dX11_init_139 : decode cX11_init 139 = .ok (.aload_n 0, 1) := by decide +kernel
theorem dX11_init_140 : decode cX11_init 140 = .ok (.sipush 1536, 3) := by decide +kernel
theorem dX11_init_143 : decode cX11_init 143 = .ok (.newarray .int, 2) := by decide +kernel
theorem dX11_init_145 : decode cX11_init 145 = .ok (.putfield 59, 3) := by decide +kernel
theorem dX11_init_148 : decode cX11_init 148 = .ok (.aload_n 0, 1) := by decide +kernel
theorem dX11_init_149 : decode cX11_init 149 = .ok (.sipush 192, 3) := by decide +kernel
theorem dX11_init_152 : decode cX11_init 152 = .ok (.newarray .int, 2) := by decide +kernel
theorem dX11_init_154 : decode cX11_init 154 = .ok (.putfield 62, 3) := by decide +kernel
theorem dX11_init_157 : decode cX11_init 157 = .ok (.aload_n 0, 1) := by decide +kernel
theorem dX11_init_158 : decode cX11_init 158 = .ok (.sipush 192, 3) := by decide +kernel
theorem dX11_init_161 : decode cX11_init 161 = .ok (.newarray .boolean, 2) := by decide +kernel
theorem dX11_init_163 : decode cX11_init 163 = .ok (.putfield 65, 3) := by decide +kernel
theorem dX11_init_166 : decode cX11_init 166 = .ok (.aload_n 0, 1) := by decide +kernel
theorem dX11_init_167 : decode cX11_init 167 = .ok (.sipush 192, 3) := by decide +kernel
theorem dX11_init_170 : decode cX11_init 170 = .ok (.newarray .int, 2) := by decide +kernel
theorem dX11_init_172 : decode cX11_init 172 = .ok (.putfield 68, 3) := by decide +kernel
theorem dX11_init_175 : decode cX11_init 175 = .ok (.aload_n 0, 1) := by decide +kernel
theorem dX11_init_176 : decode cX11_init 176 = .ok (.sipush 192, 3) := by decide +kernel
theorem dX11_init_179 : decode cX11_init 179 = .ok (.newarray .int, 2) := by decide +kernel
theorem dX11_init_181 : decode cX11_init 181 = .ok (.putfield 71, 3) := by decide +kernel
theorem dX11_init_184 : decode cX11_init 184 = .ok (.aload_n 0, 1) := by decide +kernel
theorem dX11_init_185 : decode cX11_init 185 = .ok (.sipush 1536, 3) := by decide +kernel
theorem dX11_init_188 : decode cX11_init 188 = .ok (.newarray .int, 2) := by decide +kernel
theorem dX11_init_190 : decode cX11_init 190 = .ok (.putfield 74, 3) := by decide +kernel
theorem dX11_init_193 : decode cX11_init 193 = .ok (.aload_n 0, 1) := by decide +kernel
theorem dX11_init_194 : decode cX11_init 194 = .ok (.sipush 192, 3) := by decide +kernel
theorem dX11_init_197 : decode cX11_init 197 = .ok (.newarray .int, 2) := by decide +kernel
theorem dX11_init_199 : decode cX11_init 199 = .ok (.putfield 77, 3) := by decide +kernel
theorem dX11_init_202 : decode cX11_init 202 = .ok (.aload_n 0, 1) := by decide +kernel
theorem dX11_init_203 : decode cX11_init 203 = .ok (.sipush 192, 3) := by decide +kernel
theorem dX11_init_206 : decode cX11_init 206 = .ok (.newarray .boolean, 2) := by decide +kernel
theorem dX11_init_208 : decode cX11_init 208 = .ok (.putfield 80, 3) := by decide +kernel
theorem dX11_init_211 : decode cX11_init 211 = .ok (.aload_n 0, 1) := by decide +kernel
theorem dX11_init_212 : decode cX11_init 212 = .ok (.sipush 192, 3) := by decide +kernel
theorem dX11_init_215 : decode cX11_init 215 = .ok (.newarray .int, 2) := by decide +kernel
theorem dX11_init_217 : decode cX11_init 217 = .ok (.putfield 83, 3) := by decide +kernel
theorem dX11_init_220 : decode cX11_init 220 = .ok (.aload_n 0, 1) := by decide +kernel
theorem dX11_init_221 : decode cX11_init 221 = .ok (.sipush 192, 3) := by decide +kernel
theorem dX11_init_224 : decode cX11_init 224 = .ok (.newarray .int, 2) := by decide +kernel
theorem dX11_init_226 : decode cX11_init 226 = .ok (.putfield 86, 3) := by decide +kernel
theorem dX11_init_229 : decode cX11_init 229 = .ok (.aload_n 0, 1) := by decide +kernel
theorem dX11_init_230 : decode cX11_init 230 = .ok (.sipush 192, 3) := by decide +kernel
theorem dX11_init_233 : decode cX11_init 233 = .ok (.newarray .int, 2) := by decide +kernel
theorem dX11_init_235 : decode cX11_init 235 = .ok (.putfield 89, 3) := by decide +kernel
theorem dX11_init_238 : decode cX11_init 238 = .ok (.aload_n 0, 1) := by decide +kernel
theorem dX11_init_239 : decode cX11_init 239 = .ok (.sipush 1536, 3) := by decide +kernel
theorem dX11_init_242 : decode cX11_init 242 = .ok (.newarray .int, 2) := by decide +kernel
theorem dX11_init_244 : decode cX11_init 244 = .ok (.putfield 92, 3) := by decide +kernel
theorem dX11_init_247 : decode cX11_init 247 = .ok (.aload_n 0, 1) := by decide +kernel
theorem dX11_init_248 : decode cX11_init 248 = .ok (.sipush 192, 3) := by decide +kernel
theorem dX11_init_251 : decode cX11_init 251 = .ok (.newarray .int, 2) := by decide +kernel
theorem dX11_init_253 : decode cX11_init 253 = .ok (.putfield 95, 3) := by decide +kernel
theorem dX11_init_256 : decode cX11_init 256 = .ok (.aload_n 0, 1) := by decide +kernel
theorem dX11_init_257 : decode cX11_init 257 = .ok (.iconst 4, 1) := by decide +kernel
theorem dX11_init_258 : decode cX11_init 258 = .ok (.newarray .int, 2) := by decide +kernel
theorem dX11_init_260 : decode cX11_init 260 = .ok (.putfield 98, 3) := by decide +kernel
theorem dX11_init_263 : decode cX11_init 263 = .ok (.aload_n 0, 1) := by decide +kernel
theorem dX11_init_264 : decode cX11_init 264 = .ok (.bipush 48, 2) := by decide +kernel
theorem dX11_init_266 : decode cX11_init 266 = .ok (.newarray .int, 2) := by decide +kernel
theorem dX11_init_268 : decode cX11_init 268 = .ok (.putfield 101, 3) := by decide +kernel
theorem dX11_init_271 : decode cX11_init 271 = .ok (.aload_n 0, 1) := by decide +kernel
theorem dX11_init_272 : decode cX11_init 272 = .ok (.bipush 48, 2) := by decide +kernel
theorem dX11_init_274 : decode cX11_init 274 = .ok (.newarray .int, 2) := by decide +kernel
theorem dX11_init_276 : decode cX11_init 276 = .ok (.putfield 104, 3) := by decide +kernel
theorem dX11_init_279 : decode cX11_init 279 = .ok (.aload_n 0, 1) := by decide +kernel
theorem dX11_init_280 : decode cX11_init 280 = .ok (.bipush 48, 2) := by decide +kernel
theorem dX11_init_282 : decode cX11_init 282 = .ok (.newarray .int, 2) := by decide +kernel
theorem dX11_init_284 : decode cX11_init 284 = .ok (.putfield 107, 3) := by decide +kernel
theorem dX11_init_287 : decode cX11_init 287 = .ok (.aload_n 0, 1) := by decide +kernel
theorem dX11_init_288 : decode cX11_init 288 = .ok (.sipush 384, 3) := by decide +kernel
theorem dX11_init_291 : decode cX11_init 291 = .ok (.newarray .int, 2) := by decide +kernel
theorem dX11_init_293 : decode cX11_init 293 = .ok (.putfield 110, 3) := by decide +kernel
theorem dX11_init_296 : decode cX11_init 296 = .ok (.aload_n 0, 1) := by decide +kernel
theorem dX11_init_297 : decode cX11_init 297 = .ok (.iconst 4, 1) := by decide +kernel
theorem dX11_init_298 : decode cX11_init 298 = .ok (.newarray .int, 2) := by decide +kernel
theorem dX11_init_300 : decode cX11_init 300 = .ok (.putfield 113, 3) := by decide +kernel
theorem dX11_init_303 : decode cX11_init 303 = .ok (.aload_n 0, 1) := by decide +kernel
theorem dX11_init_304 : decode cX11_init 304 = .ok (.bipush 8, 2) := by decide +kernel
theorem dX11_init_306 : decode cX11_init 306 = .ok (.newarray .int, 2) := by decide +kernel
theorem dX11_init_308 : decode cX11_init 308 = .ok (.putfield 116, 3) := by decide +kernel
theorem dX11_init_311 : decode cX11_init 311 = .ok (.aload_n 0, 1) := by decide +kernel
theorem dX11_init_312 : decode cX11_init 312 = .ok (.bipush 48, 2) := by decide +kernel
theorem dX11_init_314 : decode cX11_init 314 = .ok (.newarray .int, 2) := by decide +kernel
theorem dX11_init_316 : decode cX11_init 316 = .ok (.putfield 119, 3) := by decide +kernel
theorem dX11_init_319 : decode cX11_init 319 = .ok (.aload_n 0, 1) := by decide +kernel
theorem dX11_init_320 : decode cX11_init 320 = .ok (.bipush 8, 2) := by decide +kernel
theorem dX11_init_322 : decode cX11_init 322 = .ok (.newarray .int, 2) := by decide +kernel
theorem dX11_init_324 : decode cX11_init 324 = .ok (.putfield 122, 3) := by decide +kernel
theorem dX11_init_327 : decode cX11_init 327 = .ok (.aload_n 0, 1) := by decide +kernel
theorem dX11_init_328 : decode cX11_init 328 = .ok (.bipush 8, 2) := by decide +kernel
theorem dX11_init_330 : decode cX11_init 330 = .ok (.newarray .int, 2) := by decide +kernel
theorem dX11_init_332 : decode cX11_init 332 = .ok (.putfield 125, 3) := by decide +kernel
theorem dX11_init_335 : decode cX11_init 335 = .ok (.aload_n 0, 1) := by decide +kernel
theorem dX11_init_336 : decode cX11_init 336 = .ok (.bipush 48, 2) := by decide +kernel
theorem dX11_init_338 : decode cX11_init 338 = .ok (.newarray .boolean, 2) := by decide +kernel
theorem dX11_init_340 : decode cX11_init 340 = .ok (.putfield 128, 3) := by decide +kernel
theorem dX11_init_343 : decode cX11_init 343 = .ok (.aload_n 0, 1) := by decide +kernel
theorem dX11_init_344 : decode cX11_init 344 = .ok (.bipush 48, 2) := by decide +kernel
theorem dX11_init_346 : decode cX11_init 346 = .ok (.newarray .boolean, 2) := by decide +kernel
theorem dX11_init_348 : decode cX11_init 348 = .ok (.putfield 131, 3) := by decide +kernel
theorem dX11_init_351 : decode cX11_init 351 = .ok (.aload_n 0, 1) := by decide +kernel
theorem dX11_init_352 : decode cX11_init 352 = .ok (.sipush 384, 3) := by decide +kernel
theorem dX11_init_355 : decode cX11_init 355 = .ok (.newarray .int, 2) := by decide +kernel
theorem dX11_init_357 : decode cX11_init 357 = .ok (.putfield 134, 3) := by decide +kernel
theorem dX11_init_360 : decode cX11_init 360 = .ok (.aload_n 0, 1) := by decide +kernel
theorem dX11_init_361 : decode cX11_init 361 = .ok (.bipush 48, 2) := by decide +kernel
theorem dX11_init_363 : decode cX11_init 363 = .ok (.newarray .boolean, 2) := by decide +kernel
theorem dX11_init_365 : decode cX11_init 365 = .ok (.putfield 137, 3) := by decide +kernel
theorem dX11_init_368 : decode cX11_init 368 = .ok (.aload_n 0, 1) := by decide +kernel
theorem dX11_init_369 : decode cX11_init 369 = .ok (.bipush 48, 2) := by decide +kernel
theorem dX11_init_371 : decode cX11_init 371 = .ok (.newarray .boolean, 2) := by decide +kernel
theorem dX11_init_373 : decode cX11_init 373 = .ok (.putfield 140, 3) := by decide +kernel
theorem dX11_init_376 : decode cX11_init 376 = .ok (.aload_n 0, 1) := by decide +kernel
theorem dX11_init_377 : decode cX11_init 377 = .ok (.bipush 24, 2) := by decide +kernel
theorem dX11_init_379 : decode cX11_init 379 = .ok (.newarray .int, 2) := by decide +kernel
theorem dX11_init_381 : decode cX11_init 381 = .ok (.putfield 143, 3) := by decide +kernel
theorem dX11_init_384 : decode cX11_init 384 = .ok (.aload_n 0, 1) := by decide +kernel
theorem dX11_init_385 : decode cX11_init 385 = .ok (.bipush 24, 2) := by decide +kernel
theorem dX11_init_387 : decode cX11_init 387 = .ok (.newarray .int, 2) := by decide +kernel
theorem dX11_init_389 : decode cX11_init 389 = .ok (.putfield 146, 3) := by decide +kernel
theorem dX11_init_392 : decode cX11_init 392 = .ok (.aload_n 0, 1) := by decide +kernel
theorem dX11_init_393 : decode cX11_init 393 = .ok (.sipush 192, 3) := by decide +kernel
theorem dX11_init_396 : decode cX11_init 396 = .ok (.newarray .int, 2) := by decide +kernel
theorem dX11_init_398 : decode cX11_init 398 = .ok (.putfield 149, 3) := by decide +kernel
theorem dX11_init_401 : decode cX11_init 401 = .ok (.aload_n 0, 1) := by decide +kernel
theorem dX11_init_402 : decode cX11_init 402 = .ok (.bipush 24, 2) := by decide +kernel
theorem dX11_init_404 : decode cX11_init 404 = .ok (.newarray .boolean, 2) := by decide +kernel
theorem dX11_init_406 : decode cX11_init 406 = .ok (.putfield 152, 3) := by decide +kernel
theorem dX11_init_409 : decode cX11_init 409 = .ok (.aload_n 0, 1) := by decide +kernel
theorem dX11_init_410 : decode cX11_init 410 = .ok (.iload_n 1, 1) := by decide +kernel
theorem dX11_init_411 : decode cX11_init 411 = .ok (.iconst 1, 1) := by decide +kernel
theorem dX11_init_412 : decode cX11_init 412 = .ok (.if_icmp .ge 7, 3) := by decide +kernel
theorem dX11_init_415 : decode cX11_init 415 = .ok (.iconst 1, 1) := by decide +kernel
theorem dX11_init_416 : decode cX11_init 416 = .ok (.goto 13, 3) := by decide +kernel
theorem dX11_init_419 : decode cX11_init 419 = .ok (.iload_n 1, 1) := by decide +kernel
theorem dX11_init_420 : decode cX11_init 420 = .ok (.iconst 4, 1) := by decide +kernel
theorem dX11_init_421 : decode cX11_init 421 = .ok (.if_icmp .le 7, 3) := by decide +kernel
theorem dX11_init_424 : decode cX11_init 424 = .ok (.iconst 4, 1) := by decide +kernel
theorem dX11_init_425 : decode cX11_init 425 = .ok (.goto 4, 3) := by decide +kernel
theorem dX11_init_428 : decode cX11_init 428 = .ok (.iload_n 1, 1) := by decide +kernel
theorem dX11_init_429 : decode cX11_init 429 = .ok (.putfield 155, 3) := by decide +kernel
theorem dX11_init_432 : decode cX11_init 432 = .ok (.aload_n 0, 1) := by decide +kernel
theorem dX11_init_433 : decode cX11_init 433 = .ok (.aload_n 0, 1) := by decide +kernel
theorem dX11_init_434 : decode cX11_init 434 = .ok (.getfield 155, 3) := by decide +kernel
theorem dX11_init_437 : decode cX11_init 437 = .ok (.iconst 4, 1) := by decide +kernel
theorem dX11_init_438 : decode cX11_init 438 = .ok (.iadd, 1) := by decide +kernel
theorem dX11_init_439 : decode cX11_init 439 = .ok (.putfield 159, 3) := by decide +kernel
theorem dX11_init_442 : decode cX11_init 442 = .ok (.iconst 0, 1) := by decide +kernel
theorem dX11_init_443 : decode cX11_init 443 = .ok (.istore_n 2, 1) := by decide +kernel
theorem dX11_init_444 : decode cX11_init 444 = .ok (.iload_n 2, 1) := by decide +kernel
theorem dX11_init_445 : decode cX11_init 445 = .ok (.bipush 16, 2) := by decide +kernel
theorem dX11_init_447 : decode cX11_init 447 = .ok (.if_icmp .ge 23, 3) := by decide +kernel
theorem dX11_init_450 : decode cX11_init 450 = .ok (.aload_n 0, 1) := by decide +kernel
theorem dX11_init_451 : decode cX11_init 451 = .ok (.getfield 13, 3) := by decide +kernel
theorem dX11_init_454 : decode cX11_init 454 = .ok (.iload_n 2, 1) := by decide +kernel
theorem dX11_init_455 : decode cX11_init 455 = .ok (.iconst 1, 1) := by decide +kernel
theorem dX11_init_456 : decode cX11_init 456 = .ok (.bastore, 1) := by decide +kernel
theorem dX11_init_457 : decode cX11_init 457 = .ok (.aload_n 0, 1) := by decide +kernel
theorem dX11_init_458 : decode cX11_init 458 = .ok (.getfield 16, 3) := by decide +kernel
theorem dX11_init_461 : decode cX11_init 461 = .ok (.iload_n 2, 1) := by decide +kernel
theorem dX11_init_462 : decode cX11_init 462 = .ok (.iconst 1, 1) := by decide +kernel
theorem dX11_init_463 : decode cX11_init 463 = .ok (.bastore, 1) := by decide +kernel
theorem dX11_init_464 : decode cX11_init 464 = .ok (.iinc 2 1, 3) := by decide +kernel
theorem dX11_init_467 : decode cX11_init 467 = .ok (.goto (-23), 3) := by decide +kernel
theorem dX11_init_470 : decode cX11_init 470 = .ok (.aload_n 0, 1) := by decide +kernel
theorem dX11_init_471 : decode cX11_init 471 = .ok (.iconst 1, 1) := by decide +kernel
theorem dX11_init_472 : decode cX11_init 472 = .ok (.putfield 162, 3) := by decide +kernel
theorem dX11_init_475 : decode cX11_init 475 = .ok (.aload_n 0, 1) := by decide +kernel
theorem dX11_init_476 : decode cX11_init 476 = .ok (.getfield 29, 3) := by decide +kernel
theorem dX11_init_479 : decode cX11_init 479 = .ok (.iconst 0, 1) := by decide +kernel
theorem dX11_init_480 : decode cX11_init 480 = .ok (.iconst 1, 1) := by decide +kernel
theorem dX11_init_481 : decode cX11_init 481 = .ok (.bastore, 1) := by decide +kernel
theorem dX11_init_482 : decode cX11_init 482 = .ok (.aload_n 0, 1) := by decide +kernel
theorem dX11_init_483 : decode cX11_init 483 = .ok (.getfield 22, 3) := by decide +kernel
theorem dX11_init_486 : decode cX11_init 486 = .ok (.iconst 0, 1) := by decide +kernel
theorem dX11_init_487 : decode cX11_init 487 = .ok (.iconst (-1), 1) := by decide +kernel
theorem dX11_init_488 : decode cX11_init 488 = .ok (.iastore, 1) := by decide +kernel
theorem dX11_init_489 : decode cX11_init 489 = .ok (.iconst 0, 1) := by decide +kernel
theorem dX11_init_490 : decode cX11_init 490 = .ok (.istore_n 2, 1) := by decide +kernel
theorem dX11_init_491 : decode cX11_init 491 = .ok (.iload_n 2, 1) := by decide +kernel
theorem dX11_init_492 : decode cX11_init 492 = .ok (.aload_n 0, 1) := by decide +kernel
theorem dX11_init_493 : decode cX11_init 493 = .ok (.getfield 155, 3) := by decide +kernel
theorem dX11_init_496 : decode cX11_init 496 = .ok (.if_icmp .ge 26, 3) := by decide +kernel
theorem dX11_init_499 : decode cX11_init 499 = .ok (.aload_n 0, 1) := by decide +kernel
theorem dX11_init_500 : decode cX11_init 500 = .ok (.getfield 7, 3) := by decide +kernel
theorem dX11_init_503 : decode cX11_init 503 = .ok (.iload_n 2, 1) := by decide +kernel
theorem dX11_init_504 : decode cX11_init 504 = .ok (.iconst 1, 1) := by decide +kernel
theorem dX11_init_505 : decode cX11_init 505 = .ok (.bastore, 1) := by decide +kernel
theorem dX11_init_506 : decode cX11_init 506 = .ok (.aload_n 0, 1) := by decide +kernel
theorem dX11_init_507 : decode cX11_init 507 = .ok (.getfield 32, 3) := by decide +kernel
theorem dX11_init_510 : decode cX11_init 510 = .ok (.bipush 48, 2) := by decide +kernel
theorem dX11_init_512 : decode cX11_init 512 = .ok (.iload_n 2, 1) := by decide +kernel
theorem dX11_init_513 : decode cX11_init 513 = .ok (.imul, 1) := by decide +kernel
theorem dX11_init_514 : decode cX11_init 514 = .ok (.iconst 1, 1) := by decide +kernel
theorem dX11_init_515 : decode cX11_init 515 = .ok (.bastore, 1) := by decide +kernel
theorem dX11_init_516 : decode cX11_init 516 = .ok (.iinc 2 1, 3) := by decide +kernel
theorem dX11_init_519 : decode cX11_init 519 = .ok (.goto (-28), 3) := by decide +kernel
theorem dX11_init_522 : decode cX11_init 522 = .ok (.return_, 1) := by decide +kernel
abbrev wmX11_init : List Cond := .code yX11_init cX11_init 3 none :: mBig
set_option maxHeartbeats 8000000 in
set_option maxRecDepth 100000 in
theorem k_X11 (l : Launch) (N : Nat) (hN1 : 1 ≤ N) (hN4 : N ≤ 4) (D : va_G) (dA : Nat → ClassId) (q : Nat) (a1 : Int32) (ha1 : (if a1 < (1 : Int32) then (1 : Int32) else if (4 : Int32) < a1 then (4 : Int32) else a1) = nI N) : Met l yX11_init wmX11_init ({ frames := 1, cells := 48, slots := 22176, locals := 30 } : Room) (kPc D dA (q + 1) q 11 67 tyX11 [.ref q, .int a1]) (va_Qv (fun _ : Unit => True) (fun _ t => t.heap.size = q + 1 + 48 ∧ gW D mLay dA mLive (mAd q) (mM0 N) t.heap) (kReg q (q + 1))) 48 22176 (kReg q (q + 1)) := by
  refine Met.ofW (cc := cX11_init) (maxL := 3) (ret := none) (by decide) rfl ?_
  intro p e s m args below meth c s₁ B hml hv
  obtain ⟨rfl, hsz, hO, hK, hAO⟩ := hv
  generalize hargs : ([.ref q, .int a1] : List Value).toArray = args at B ⊢
  have S : CallFix p m c cX11_init 3 s args wmX11_init RX11 := ⟨B.exec, B.bytes, hml, findClass_of_methodNamed B.named, atoms_spec (ws := wmX11_init) B.pre⟩
  obtain ⟨hx, hb, -, hown, hts⟩ := id S
  have hr := B.returns
  have hlocks := B.notSynchronized
  have hin2 : meth.name = "<init>" := (name_of_methodNamed B.named B.method).1
  have hin : ∀ w ∈ wsX110, w ∈ wmX11_init := m_in
  have hS : va_S (kReg q (q + 1)) s.heap s.heap [] := va_S.rf
  have hl := lv_entry ([.ref q, .int a1]) (n := 3) (Nat.le_of_ble_eq_true rfl)
  rw [← hargs, lg_entry_eq, hargs]
  generalize (lg_sl ([.ref q, .int a1]) ++ List.replicate (3 - (lg_sl ([.ref q, .int a1])).length) Slot.unset).toArray = ls at hl ⊢
  have hl : lv_has ls 3 [(0, .ref q), (1, .int a1)] := hl
  have hG : mGd D dA q 0 s.heap := fun i h1 h2 h3 h4 => by omega
  replace hO : t_OB q (D.1 11) 67 (D.2 11) s.heap (mV q 0) := hO.to (fun k hk => by
    rcases (show k = 0 ∨ k = 1 ∨ k = 2 ∨ k = 3 ∨ k = 4 ∨ k = 5 ∨ k = 6 ∨ k = 7 ∨ k = 8 ∨ k = 9 ∨ k = 10 ∨ k = 11 ∨ k = 12 ∨ k = 13 ∨ k = 14 ∨ k = 15 ∨ k = 16 ∨ k = 17 ∨ k = 18 ∨ k = 19 ∨ k = 20 ∨ k = 21 ∨ k = 22 ∨ k = 23 ∨ k = 24 ∨ k = 25 ∨ k = 26 ∨ k = 27 ∨ k = 28 ∨ k = 29 ∨ k = 30 ∨ k = 31 ∨ k = 32 ∨ k = 33 ∨ k = 34 ∨ k = 35 ∨ k = 36 ∨ k = 37 ∨ k = 38 ∨ k = 39 ∨ k = 40 ∨ k = 41 ∨ k = 42 ∨ k = 43 ∨ k = 44 ∨ k = 45 ∨ k = 46 ∨ k = 47 ∨ k = 48 ∨ k = 49 ∨ k = 50 ∨ k = 51 ∨ k = 52 ∨ k = 53 ∨ k = 54 ∨ k = 55 ∨ k = 56 ∨ k = 57 ∨ k = 58 ∨ k = 59 ∨ k = 60 ∨ k = 61 ∨ k = 62 ∨ k = 63 ∨ k = 64 ∨ k = 65 ∨ k = 66 by omega) with rfl | rfl | rfl | rfl | rfl | rfl | rfl | rfl | rfl | rfl | rfl | rfl | rfl | rfl | rfl | rfl | rfl | rfl | rfl | rfl | rfl | rfl | rfl | rfl | rfl | rfl | rfl | rfl | rfl | rfl | rfl | rfl | rfl | rfl | rfl | rfl | rfl | rfl | rfl | rfl | rfl | rfl | rfl | rfl | rfl | rfl | rfl | rfl | rfl | rfl | rfl | rfl | rfl | rfl | rfl | rfl | rfl | rfl | rfl | rfl | rfl | rfl | rfl | rfl | rfl | rfl | rfl <;> rfl)
  have X : gX D vwCl dA mLive (mAd q) (kReg q (q + 1)) s := ⟨hK, mJ q, fun i hi => by
    by_cases h : mOrd i.1 = 0
    · exact Or.inl (by show q + mOrd i.1 = q; omega)
    · exact Or.inr (by show q + 1 ≤ q + mOrd i.1; omega)⟩
  have loop2 : ∀ (n j0 : Nat) (H : Heap) (locs : List Loc) (ls : Array Slot), j0 ≤ N → N < j0 + n → H.size = q + 1 + 48 → gZ D mLay dA mLive (mAd q) (kReg q (q + 1)) s.heap (mM2 N j0) H locs → lv_has ls 3 [(2, .int (nI j0)), (0, .ref q), (1, .int a1)] → W p l e (headSpec wmX11_init ({ frames := 1, cells := 48, slots := 22176, locals := 30 } : Room)).room s m args below meth c H locs 48 22176 (MQ below (va_Qv (fun _ : Unit => True) (fun _ t => t.heap.size = q + 1 + 48 ∧ gW D mLay dA mLive (mAd q) (mM0 N) t.heap) (kReg q (q + 1))) args s 48 22176 (kReg q (q + 1))) (F0 m 491 ls []) := by
    clear hG hO hsz hS hl
    intro n
    induction n with
    | zero => intro j0 H locs ls h1 h2; omega
    | succ n ih =>
      intro j0 H locs ls hjN hon hsz Z hl
      refine lv_iload_n hx hb dX11_init_491 rfl (lv_at hl 0 rfl) ?_
      refine lv_aload_n hx hb dX11_init_492 rfl (lv_at hl 1 rfl) ?_
      refine mr_servers S X Z hin (hts (.fieldLink RX11 155 "ReplicaFilesModel" "servers" "I") (mBc 53 rfl)) dX11_init_493 (kq := some) (y := nI N) (congrArg some (show mM2 N j0 m_o 0 = nI N by simp [mM2, mM1, gset])) (fun v_ hv_ => ?_)
      obtain rfl := Option.some.inj hv_
      refine lv_icmp_ge (tgt := 522) hx hb dX11_init_496 (by decide) (fun c4 => ?_) (fun c4 => ?_)
      · obtain rfl : j0 = N := by have := (nI_leI (a := N) (b := j0) (by omega) (by omega)).mp c4; omega
        exact W.vret hx hb hr (fun t ht hW => ⟨⟨(), rfl, trivial, by rw [ht]; omega, by rw [ht]; exact Z.1⟩, Z.2.F ht⟩) Z.2.2.2 dX11_init_522 hlocks
      · have ho : j0 < N := by rcases Nat.lt_or_ge j0 N with h | h; exact h; exact absurd (nI_le h (by omega)) c4
        refine lv_aload_n hx hb dX11_init_499 rfl (lv_at hl 1 rfl) ?_
        refine mr_up S X Z hin (hts (.fieldLink RX11 7 "ReplicaFilesModel" "up" "[Z") (mBc 4 rfl)) dX11_init_500 ?_
        refine lv_iload_n hx hb dX11_init_503 rfl (lv_at hl 0 rfl) ?_
        refine lv_iconst (v := (1 : Int32)) hx hb dX11_init_504 (by decide) ?_
        have hz0 := Z.2.1
        refine gz_ast S X Z ml_up rfl dX11_init_505 (k := j0) rfl (by omega) (by omega) (fun H1 locs Z hsz1 => ?_)
        refine lv_aload_n hx hb dX11_init_506 rfl (lv_at hl 1 rfl) ?_
        refine mr_has S X Z hin (hts (.fieldLink RX11 32 "ReplicaFilesModel" "has" "[Z") (mBc 12 rfl)) dX11_init_507 ?_
        refine lv_bipush (v := (48 : Int32)) hx hb dX11_init_510 (by decide) ?_
        refine lv_iload_n hx hb dX11_init_512 rfl (lv_at hl 0 rfl) ?_
        refine lv_imul hx hb dX11_init_513 ?_
        refine lv_iconst (v := (1 : Int32)) hx hb dX11_init_514 (by decide) ?_
        refine gz_ast S X Z ml_has rfl dX11_init_515 (k := 48 * j0) (nI_mul48 j0) (by omega) (by omega) (fun H2 locs Z hsz2 => ?_)
        refine lv_iinc (v := nI (j0 + 1)) (lv' := [(2, .int (nI (j0 + 1))), (0, .ref q), (1, .int a1)]) hx hb dX11_init_516 hl (k := 0) rfl (nI_1 j0) (by decide) rfl (fun ls hl => ?_)
        refine lv_goto (tgt := 491) hx hb dX11_init_519 (by decide) ?_
        rw [mM2.up] at Z
        exact ih (j0 + 1) H2 locs ls (by omega) (by omega) (by omega) Z hl
  have mid : ∀ (H : Heap) (locs : List Loc) (ls : Array Slot), H.size = q + 1 + 48 → gZ D mLay dA mLive (mAd q) (kReg q (q + 1)) s.heap (mM1 N 16) H locs → lv_has ls 3 [(2, .int (nI 16)), (0, .ref q), (1, .int a1)] → W p l e (headSpec wmX11_init ({ frames := 1, cells := 48, slots := 22176, locals := 30 } : Room)).room s m args below meth c H locs 48 22176 (MQ below (va_Qv (fun _ : Unit => True) (fun _ t => t.heap.size = q + 1 + 48 ∧ gW D mLay dA mLive (mAd q) (mM0 N) t.heap) (kReg q (q + 1))) args s 48 22176 (kReg q (q + 1))) (F0 m 470 ls []) := by
    clear hG hO hsz hS hl
    intro H locs ls hsz Z hl
    refine lv_aload_n hx hb dX11_init_470 rfl (lv_at hl 1 rfl) ?_
    refine lv_iconst (v := (1 : Int32)) hx hb dX11_init_471 (by decide) ?_
    refine g_piS (C := RX11) (T := TX11) S X Z hin rfl tyX11 tyX11_ok nmX11 mlv_o rfl 6 (by decide) ⟨rfl, rfl, rfl, rfl⟩ rfl (hts (.fieldLink RX11 162 "ReplicaFilesModel" "made" "I") (mBc 55 rfl)) dX11_init_472 (fun H1 locs Z hsz1 => ?_)
    refine lv_aload_n hx hb dX11_init_475 rfl (lv_at hl 1 rfl) ?_
    refine mr_isDirectory S X Z hin (hts (.fieldLink RX11 29 "ReplicaFilesModel" "isDirectory" "[Z") (mBc 11 rfl)) dX11_init_476 ?_
    refine lv_iconst (v := (0 : Int32)) hx hb dX11_init_479 (by decide) ?_
    refine lv_iconst (v := (1 : Int32)) hx hb dX11_init_480 (by decide) ?_
    refine gz_ast S X Z ml_isDirectory rfl dX11_init_481 (k := 0) rfl (by omega) (by omega) (fun H2 locs Z hsz2 => ?_)
    refine lv_aload_n hx hb dX11_init_482 rfl (lv_at hl 1 rfl) ?_
    refine mr_parent S X Z hin (hts (.fieldLink RX11 22 "ReplicaFilesModel" "parent" "[I") (mBc 9 rfl)) dX11_init_483 ?_
    refine lv_iconst (v := (0 : Int32)) hx hb dX11_init_486 (by decide) ?_
    refine lv_iconst (v := (-1 : Int32)) hx hb dX11_init_487 (by decide) ?_
    refine gi_ast S X Z ml_parent rfl dX11_init_488 (k := 0) rfl (by omega) (by omega) (fun H3 locs Z hsz3 => ?_)
    refine lv_iconst (v := (0 : Int32)) hx hb dX11_init_489 (by decide) ?_
    rw [show (0 : Int32) = nI 0 from rfl]
    refine lv_istore_n (lv' := [(2, .int (nI 0)), (0, .ref q), (1, .int a1)]) hx hb dX11_init_490 rfl hl (by decide) rfl (fun ls hl => ?_)
    exact loop2 (N + 1) 0 H3 locs ls (by omega) (by omega) (by omega) (mM2.zero N ▸ Z) hl
  have loop1 : ∀ (n j0 : Nat) (H : Heap) (locs : List Loc) (ls : Array Slot), j0 ≤ 16 → 16 < j0 + n → H.size = q + 1 + 48 → gZ D mLay dA mLive (mAd q) (kReg q (q + 1)) s.heap (mM1 N j0) H locs → lv_has ls 3 [(2, .int (nI j0)), (0, .ref q), (1, .int a1)] → W p l e (headSpec wmX11_init ({ frames := 1, cells := 48, slots := 22176, locals := 30 } : Room)).room s m args below meth c H locs 48 22176 (MQ below (va_Qv (fun _ : Unit => True) (fun _ t => t.heap.size = q + 1 + 48 ∧ gW D mLay dA mLive (mAd q) (mM0 N) t.heap) (kReg q (q + 1))) args s 48 22176 (kReg q (q + 1))) (F0 m 444 ls []) := by
    clear hG hO hsz hS hl
    intro n
    induction n with
    | zero => intro j0 H locs ls h1 h2; omega
    | succ n ih =>
      intro j0 H locs ls hjN hon hsz Z hl
      refine lv_iload_n hx hb dX11_init_444 rfl (lv_at hl 0 rfl) ?_
      refine lv_bipush (v := (16 : Int32)) hx hb dX11_init_445 (by decide) ?_
      refine lv_icmp_ge (tgt := 470) hx hb dX11_init_447 (by decide) (fun c4 => ?_) (fun c4 => ?_)
      · obtain rfl : j0 = 16 := by have := (nI_leI (a := 16) (b := j0) (by omega) (by omega)).mp c4; omega
        exact mid H locs ls hsz Z hl
      · have ho : j0 < 16 := by rcases Nat.lt_or_ge j0 16 with h | h; exact h; exact absurd (nI_le h (by omega)) c4
        refine lv_aload_n hx hb dX11_init_450 rfl (lv_at hl 1 rfl) ?_
        refine mr_linked S X Z hin (hts (.fieldLink RX11 13 "ReplicaFilesModel" "linked" "[Z") (mBc 5 rfl)) dX11_init_451 ?_
        refine lv_iload_n hx hb dX11_init_454 rfl (lv_at hl 0 rfl) ?_
        refine lv_iconst (v := (1 : Int32)) hx hb dX11_init_455 (by decide) ?_
        refine gz_ast S X Z ml_linked rfl dX11_init_456 (k := j0) rfl (by omega) (by omega) (fun H1 locs Z hsz1 => ?_)
        refine lv_aload_n hx hb dX11_init_457 rfl (lv_at hl 1 rfl) ?_
        refine mr_reaches S X Z hin (hts (.fieldLink RX11 16 "ReplicaFilesModel" "reaches" "[Z") (mBc 6 rfl)) dX11_init_458 ?_
        refine lv_iload_n hx hb dX11_init_461 rfl (lv_at hl 0 rfl) ?_
        refine lv_iconst (v := (1 : Int32)) hx hb dX11_init_462 (by decide) ?_
        refine gz_ast S X Z ml_reaches rfl dX11_init_463 (k := j0) rfl (by omega) (by omega) (fun H2 locs Z hsz2 => ?_)
        refine lv_iinc (v := nI (j0 + 1)) (lv' := [(2, .int (nI (j0 + 1))), (0, .ref q), (1, .int a1)]) hx hb dX11_init_464 hl (k := 0) rfl (nI_1 j0) (by decide) rfl (fun ls hl => ?_)
        refine lv_goto (tgt := 444) hx hb dX11_init_467 (by decide) ?_
        rw [mM1.up] at Z
        exact ih (j0 + 1) H2 locs ls (by omega) (by omega) (by omega) Z hl
  have nums : ∀ (H : Heap) (locs : List Loc) (ls : Array Slot), H.size = q + 1 + 48 → gZ D mLay dA mLive (mAd q) (kReg q (q + 1)) s.heap gM0 H locs → lv_has ls 3 [(0, .ref q), (1, .int a1)] → W p l e (headSpec wmX11_init ({ frames := 1, cells := 48, slots := 22176, locals := 30 } : Room)).room s m args below meth c H locs 48 22176 (MQ below (va_Qv (fun _ : Unit => True) (fun _ t => t.heap.size = q + 1 + 48 ∧ gW D mLay dA mLive (mAd q) (mM0 N) t.heap) (kReg q (q + 1))) args s 48 22176 (kReg q (q + 1))) (F0 m 429 ls [.int (nI N), .ref q]) := by
    clear hG hO hsz hS hl
    intro H locs ls hsz Z hl
    refine g_piS (C := RX11) (T := TX11) S X Z hin rfl tyX11 tyX11_ok nmX11 mlv_o rfl 0 (by decide) ⟨rfl, rfl, rfl, rfl⟩ rfl (hts (.fieldLink RX11 155 "ReplicaFilesModel" "servers" "I") (mBc 53 rfl)) dX11_init_429 (fun H1 locs Z hszH1 => ?_)
    refine lv_aload_n hx hb dX11_init_432 rfl (lv_at hl 0 rfl) ?_
    refine lv_aload_n hx hb dX11_init_433 rfl (lv_at hl 0 rfl) ?_
    refine mr_servers S X Z hin (hts (.fieldLink RX11 155 "ReplicaFilesModel" "servers" "I") (mBc 53 rfl)) dX11_init_434 (kq := some) (y := nI N) (congrArg some (show gset gM0 m_o 0 (nI N) m_o 0 = nI N by simp [gset])) (fun v_ hv_ => ?_)
    obtain rfl := Option.some.inj hv_
    refine lv_iconst (v := (4 : Int32)) hx hb dX11_init_437 (by decide) ?_
    refine lv_iadd hx hb dX11_init_438 ?_
    rw [show nI N + (4 : Int32) = nI (N + 4) from nI_add N 4]
    refine g_piS (C := RX11) (T := TX11) S X Z hin rfl tyX11 tyX11_ok nmX11 mlv_o rfl 1 (by decide) ⟨rfl, rfl, rfl, rfl⟩ rfl (hts (.fieldLink RX11 159 "ReplicaFilesModel" "counts" "I") (mBc 54 rfl)) dX11_init_439 (fun H2 locs Z hszH2 => ?_)
    refine lv_iconst (v := (0 : Int32)) hx hb dX11_init_442 (by decide) ?_
    rw [show (0 : Int32) = nI 0 from rfl]
    refine lv_istore_n (lv' := [(2, .int (nI 0)), (0, .ref q), (1, .int a1)]) hx hb dX11_init_443 rfl hl (by decide) rfl (fun ls hl => ?_)
    exact loop1 17 0 H2 locs ls (by omega) (by omega) (by omega) (mM1.zero N ▸ Z) hl
  refine lv_aload_n hx hb dX11_init_0 rfl (lv_at hl 0 rfl) ?_
  refine W.objInit hx hb hown (hts (.methodLink RX11 1 objectInit) (mBc 0 rfl)) (hts (.instanceMethod objectInit) (mBc 1 rfl)) (hts (.code objectInit ⟨#[0xb1]⟩ 1 none) (mBc 2 rfl)) rfl (by rw [hml]; exact hl.1) rfl dX11_init_1 (Nat.le_of_ble_eq_true rfl) (Nat.le_of_ble_eq_true rfl) ?_
  replace hsz : s.heap.size = q + 1 + 0 := by omega
  refine lv_aload_n hx hb dX11_init_4 rfl (lv_at hl 0 rfl) ?_
  refine lv_iconst (v := (4 : Int32)) hx hb dX11_init_5 (by decide) ?_
  refine k_newZ (n := 4) S hK hS (hts (.arrayClass .boolean) (mBc 3 rfl)) rfl (by omega) (by simp only [componentBytes]; omega) (by show 1 ≤ 48; omega) (by show 4 ≤ 22176; omega) dX11_init_6 (fun H1 e_ hz o hS_ => ?_)
  replace hG := hG.new hsz o (t := 3) (by decide +kernel) rfl e_
  rw [hsz]
  replace hO := hO.kept (o _ (by omega))
  replace hS := hS_
  replace hsz : H1.size = q + 1 + 1 := by omega
  clear hS_ hz o e_
  refine W.widen (k := 1) (n := 4) (by omega) (by omega) ?_
  refine k_putF (ci := 11) (C := RX11) (T := TX11) (ty := .array .boolean) S hin2 hK hS (Or.inl rfl) rfl hin tyX11 tyX11_ok nmX11 hO 2 (by decide) ⟨rfl, rfl, rfl, rfl⟩ rfl (hts (.fieldLink RX11 7 "ReplicaFilesModel" "up" "[Z") (mBc 4 rfl)) (by decide) rfl rfl dX11_init_8 (fun H2 locs hO_ hz o hS_ => ?_)
  replace hO := hO_.to (mV.up (by decide +kernel) (by decide +kernel))
  replace hG := hG.put o
  replace hS := hS_
  replace hsz : H2.size = q + 1 + 1 := by omega
  clear hO_ hS_ hz o
  refine lv_aload_n hx hb dX11_init_11 rfl (lv_at hl 0 rfl) ?_
  refine lv_bipush (v := (16 : Int32)) hx hb dX11_init_12 (by decide) ?_
  refine k_newZ (n := 16) S hK hS (hts (.arrayClass .boolean) (mBc 3 rfl)) rfl (by omega) (by simp only [componentBytes]; omega) (by show 2 ≤ 48; omega) (by show 20 ≤ 22176; omega) dX11_init_14 (fun H3 e_ hz o hS_ => ?_)
  replace hG := hG.new hsz o (t := 4) (by decide +kernel) rfl e_
  rw [hsz]
  replace hO := hO.kept (o _ (by omega))
  replace hS := hS_
  replace hsz : H3.size = q + 1 + 2 := by omega
  clear hS_ hz o e_
  refine W.widen (k := 2) (n := 20) (by omega) (by omega) ?_
  refine k_putF (ci := 11) (C := RX11) (T := TX11) (ty := .array .boolean) S hin2 hK hS (Or.inl rfl) rfl hin tyX11 tyX11_ok nmX11 hO 3 (by decide) ⟨rfl, rfl, rfl, rfl⟩ rfl (hts (.fieldLink RX11 13 "ReplicaFilesModel" "linked" "[Z") (mBc 5 rfl)) (by decide) rfl rfl dX11_init_16 (fun H4 locs hO_ hz o hS_ => ?_)
  replace hO := hO_.to (mV.up (by decide +kernel) (by decide +kernel))
  replace hG := hG.put o
  replace hS := hS_
  replace hsz : H4.size = q + 1 + 2 := by omega
  clear hO_ hS_ hz o
  refine lv_aload_n hx hb dX11_init_19 rfl (lv_at hl 0 rfl) ?_
  refine lv_bipush (v := (16 : Int32)) hx hb dX11_init_20 (by decide) ?_
  refine k_newZ (n := 16) S hK hS (hts (.arrayClass .boolean) (mBc 3 rfl)) rfl (by omega) (by simp only [componentBytes]; omega) (by show 3 ≤ 48; omega) (by show 36 ≤ 22176; omega) dX11_init_22 (fun H5 e_ hz o hS_ => ?_)
  replace hG := hG.new hsz o (t := 5) (by decide +kernel) rfl e_
  rw [hsz]
  replace hO := hO.kept (o _ (by omega))
  replace hS := hS_
  replace hsz : H5.size = q + 1 + 3 := by omega
  clear hS_ hz o e_
  refine W.widen (k := 3) (n := 36) (by omega) (by omega) ?_
  refine k_putF (ci := 11) (C := RX11) (T := TX11) (ty := .array .boolean) S hin2 hK hS (Or.inl rfl) rfl hin tyX11 tyX11_ok nmX11 hO 4 (by decide) ⟨rfl, rfl, rfl, rfl⟩ rfl (hts (.fieldLink RX11 16 "ReplicaFilesModel" "reaches" "[Z") (mBc 6 rfl)) (by decide) rfl rfl dX11_init_24 (fun H6 locs hO_ hz o hS_ => ?_)
  replace hO := hO_.to (mV.up (by decide +kernel) (by decide +kernel))
  replace hG := hG.put o
  replace hS := hS_
  replace hsz : H6.size = q + 1 + 3 := by omega
  clear hO_ hS_ hz o
  refine lv_aload_n hx hb dX11_init_27 rfl (lv_at hl 0 rfl) ?_
  refine lv_iconst (v := (4 : Int32)) hx hb dX11_init_28 (by decide) ?_
  refine k_newZ (n := 4) S hK hS (hts (.arrayClass .boolean) (mBc 3 rfl)) rfl (by omega) (by simp only [componentBytes]; omega) (by show 4 ≤ 48; omega) (by show 40 ≤ 22176; omega) dX11_init_29 (fun H7 e_ hz o hS_ => ?_)
  replace hG := hG.new hsz o (t := 6) (by decide +kernel) rfl e_
  rw [hsz]
  replace hO := hO.kept (o _ (by omega))
  replace hS := hS_
  replace hsz : H7.size = q + 1 + 4 := by omega
  clear hS_ hz o e_
  refine W.widen (k := 4) (n := 40) (by omega) (by omega) ?_
  refine k_putF (ci := 11) (C := RX11) (T := TX11) (ty := .array .boolean) S hin2 hK hS (Or.inl rfl) rfl hin tyX11 tyX11_ok nmX11 hO 5 (by decide) ⟨rfl, rfl, rfl, rfl⟩ rfl (hts (.fieldLink RX11 19 "ReplicaFilesModel" "loses" "[Z") (mBc 7 rfl)) (by decide) rfl rfl dX11_init_31 (fun H8 locs hO_ hz o hS_ => ?_)
  replace hO := hO_.to (mV.up (by decide +kernel) (by decide +kernel))
  replace hG := hG.put o
  replace hS := hS_
  replace hsz : H8.size = q + 1 + 4 := by omega
  clear hO_ hS_ hz o
  refine lv_aload_n hx hb dX11_init_34 rfl (lv_at hl 0 rfl) ?_
  refine lv_bipush (v := (48 : Int32)) hx hb dX11_init_35 (by decide) ?_
  refine k_newI (n := 48) S hK hS (hts (.arrayClass .int) (mBc 8 rfl)) rfl (by omega) (by simp only [componentBytes]; omega) (by show 5 ≤ 48; omega) (by show 88 ≤ 22176; omega) dX11_init_37 (fun H9 e_ hz o hS_ => ?_)
  replace hG := hG.new hsz o (t := 8) (by decide +kernel) rfl e_
  rw [hsz]
  replace hO := hO.kept (o _ (by omega))
  replace hS := hS_
  replace hsz : H9.size = q + 1 + 5 := by omega
  clear hS_ hz o e_
  refine W.widen (k := 5) (n := 88) (by omega) (by omega) ?_
  refine k_putF (ci := 11) (C := RX11) (T := TX11) (ty := .array .int) S hin2 hK hS (Or.inl rfl) rfl hin tyX11 tyX11_ok nmX11 hO 7 (by decide) ⟨rfl, rfl, rfl, rfl⟩ rfl (hts (.fieldLink RX11 22 "ReplicaFilesModel" "parent" "[I") (mBc 9 rfl)) (by decide) rfl rfl dX11_init_39 (fun H10 locs hO_ hz o hS_ => ?_)
  replace hO := hO_.to (mV.up (by decide +kernel) (by decide +kernel))
  replace hG := hG.put o
  replace hS := hS_
  replace hsz : H10.size = q + 1 + 5 := by omega
  clear hO_ hS_ hz o
  refine lv_aload_n hx hb dX11_init_42 rfl (lv_at hl 0 rfl) ?_
  refine lv_bipush (v := (48 : Int32)) hx hb dX11_init_43 (by decide) ?_
  refine k_newI (n := 48) S hK hS (hts (.arrayClass .int) (mBc 8 rfl)) rfl (by omega) (by simp only [componentBytes]; omega) (by show 6 ≤ 48; omega) (by show 136 ≤ 22176; omega) dX11_init_45 (fun H11 e_ hz o hS_ => ?_)
  replace hG := hG.new hsz o (t := 9) (by decide +kernel) rfl e_
  rw [hsz]
  replace hO := hO.kept (o _ (by omega))
  replace hS := hS_
  replace hsz : H11.size = q + 1 + 6 := by omega
  clear hS_ hz o e_
  refine W.widen (k := 6) (n := 136) (by omega) (by omega) ?_
  refine k_putF (ci := 11) (C := RX11) (T := TX11) (ty := .array .int) S hin2 hK hS (Or.inl rfl) rfl hin tyX11 tyX11_ok nmX11 hO 8 (by decide) ⟨rfl, rfl, rfl, rfl⟩ rfl (hts (.fieldLink RX11 26 "ReplicaFilesModel" "name" "[I") (mBc 10 rfl)) (by decide) rfl rfl dX11_init_47 (fun H12 locs hO_ hz o hS_ => ?_)
  replace hO := hO_.to (mV.up (by decide +kernel) (by decide +kernel))
  replace hG := hG.put o
  replace hS := hS_
  replace hsz : H12.size = q + 1 + 6 := by omega
  clear hO_ hS_ hz o
  refine lv_aload_n hx hb dX11_init_50 rfl (lv_at hl 0 rfl) ?_
  refine lv_bipush (v := (48 : Int32)) hx hb dX11_init_51 (by decide) ?_
  refine k_newZ (n := 48) S hK hS (hts (.arrayClass .boolean) (mBc 3 rfl)) rfl (by omega) (by simp only [componentBytes]; omega) (by show 7 ≤ 48; omega) (by show 184 ≤ 22176; omega) dX11_init_53 (fun H13 e_ hz o hS_ => ?_)
  replace hG := hG.new hsz o (t := 10) (by decide +kernel) rfl e_
  rw [hsz]
  replace hO := hO.kept (o _ (by omega))
  replace hS := hS_
  replace hsz : H13.size = q + 1 + 7 := by omega
  clear hS_ hz o e_
  refine W.widen (k := 7) (n := 184) (by omega) (by omega) ?_
  refine k_putF (ci := 11) (C := RX11) (T := TX11) (ty := .array .boolean) S hin2 hK hS (Or.inl rfl) rfl hin tyX11 tyX11_ok nmX11 hO 9 (by decide) ⟨rfl, rfl, rfl, rfl⟩ rfl (hts (.fieldLink RX11 29 "ReplicaFilesModel" "isDirectory" "[Z") (mBc 11 rfl)) (by decide) rfl rfl dX11_init_55 (fun H14 locs hO_ hz o hS_ => ?_)
  replace hO := hO_.to (mV.up (by decide +kernel) (by decide +kernel))
  replace hG := hG.put o
  replace hS := hS_
  replace hsz : H14.size = q + 1 + 7 := by omega
  clear hO_ hS_ hz o
  refine lv_aload_n hx hb dX11_init_58 rfl (lv_at hl 0 rfl) ?_
  refine lv_sipush (v := (192 : Int32)) hx hb dX11_init_59 (by decide) ?_
  refine k_newZ (n := 192) S hK hS (hts (.arrayClass .boolean) (mBc 3 rfl)) rfl (by omega) (by simp only [componentBytes]; omega) (by show 8 ≤ 48; omega) (by show 376 ≤ 22176; omega) dX11_init_62 (fun H15 e_ hz o hS_ => ?_)
  replace hG := hG.new hsz o (t := 11) (by decide +kernel) rfl e_
  rw [hsz]
  replace hO := hO.kept (o _ (by omega))
  replace hS := hS_
  replace hsz : H15.size = q + 1 + 8 := by omega
  clear hS_ hz o e_
  refine W.widen (k := 8) (n := 376) (by omega) (by omega) ?_
  refine k_putF (ci := 11) (C := RX11) (T := TX11) (ty := .array .boolean) S hin2 hK hS (Or.inl rfl) rfl hin tyX11 tyX11_ok nmX11 hO 10 (by decide) ⟨rfl, rfl, rfl, rfl⟩ rfl (hts (.fieldLink RX11 32 "ReplicaFilesModel" "has" "[Z") (mBc 12 rfl)) (by decide) rfl rfl dX11_init_64 (fun H16 locs hO_ hz o hS_ => ?_)
  replace hO := hO_.to (mV.up (by decide +kernel) (by decide +kernel))
  replace hG := hG.put o
  replace hS := hS_
  replace hsz : H16.size = q + 1 + 8 := by omega
  clear hO_ hS_ hz o
  refine lv_aload_n hx hb dX11_init_67 rfl (lv_at hl 0 rfl) ?_
  refine lv_sipush (v := (192 : Int32)) hx hb dX11_init_68 (by decide) ?_
  refine k_newI (n := 192) S hK hS (hts (.arrayClass .int) (mBc 8 rfl)) rfl (by omega) (by simp only [componentBytes]; omega) (by show 9 ≤ 48; omega) (by show 568 ≤ 22176; omega) dX11_init_71 (fun H17 e_ hz o hS_ => ?_)
  replace hG := hG.new hsz o (t := 12) (by decide +kernel) rfl e_
  rw [hsz]
  replace hO := hO.kept (o _ (by omega))
  replace hS := hS_
  replace hsz : H17.size = q + 1 + 9 := by omega
  clear hS_ hz o e_
  refine W.widen (k := 9) (n := 568) (by omega) (by omega) ?_
  refine k_putF (ci := 11) (C := RX11) (T := TX11) (ty := .array .int) S hin2 hK hS (Or.inl rfl) rfl hin tyX11 tyX11_ok nmX11 hO 11 (by decide) ⟨rfl, rfl, rfl, rfl⟩ rfl (hts (.fieldLink RX11 35 "ReplicaFilesModel" "value" "[I") (mBc 13 rfl)) (by decide) rfl rfl dX11_init_73 (fun H18 locs hO_ hz o hS_ => ?_)
  replace hO := hO_.to (mV.up (by decide +kernel) (by decide +kernel))
  replace hG := hG.put o
  replace hS := hS_
  replace hsz : H18.size = q + 1 + 9 := by omega
  clear hO_ hS_ hz o
  refine lv_aload_n hx hb dX11_init_76 rfl (lv_at hl 0 rfl) ?_
  refine lv_sipush (v := (192 : Int32)) hx hb dX11_init_77 (by decide) ?_
  refine k_newI (n := 192) S hK hS (hts (.arrayClass .int) (mBc 8 rfl)) rfl (by omega) (by simp only [componentBytes]; omega) (by show 10 ≤ 48; omega) (by show 760 ≤ 22176; omega) dX11_init_80 (fun H19 e_ hz o hS_ => ?_)
  replace hG := hG.new hsz o (t := 13) (by decide +kernel) rfl e_
  rw [hsz]
  replace hO := hO.kept (o _ (by omega))
  replace hS := hS_
  replace hsz : H19.size = q + 1 + 10 := by omega
  clear hS_ hz o e_
  refine W.widen (k := 10) (n := 760) (by omega) (by omega) ?_
  refine k_putF (ci := 11) (C := RX11) (T := TX11) (ty := .array .int) S hin2 hK hS (Or.inl rfl) rfl hin tyX11 tyX11_ok nmX11 hO 12 (by decide) ⟨rfl, rfl, rfl, rfl⟩ rfl (hts (.fieldLink RX11 38 "ReplicaFilesModel" "size" "[I") (mBc 14 rfl)) (by decide) rfl rfl dX11_init_82 (fun H20 locs hO_ hz o hS_ => ?_)
  replace hO := hO_.to (mV.up (by decide +kernel) (by decide +kernel))
  replace hG := hG.put o
  replace hS := hS_
  replace hsz : H20.size = q + 1 + 10 := by omega
  clear hO_ hS_ hz o
  refine lv_aload_n hx hb dX11_init_85 rfl (lv_at hl 0 rfl) ?_
  refine lv_sipush (v := (1536 : Int32)) hx hb dX11_init_86 (by decide) ?_
  refine k_newI (n := 1536) S hK hS (hts (.arrayClass .int) (mBc 8 rfl)) rfl (by omega) (by simp only [componentBytes]; omega) (by show 11 ≤ 48; omega) (by show 2296 ≤ 22176; omega) dX11_init_89 (fun H21 e_ hz o hS_ => ?_)
  replace hG := hG.new hsz o (t := 14) (by decide +kernel) rfl e_
  rw [hsz]
  replace hO := hO.kept (o _ (by omega))
  replace hS := hS_
  replace hsz : H21.size = q + 1 + 11 := by omega
  clear hS_ hz o e_
  refine W.widen (k := 11) (n := 2296) (by omega) (by omega) ?_
  refine k_putF (ci := 11) (C := RX11) (T := TX11) (ty := .array .int) S hin2 hK hS (Or.inl rfl) rfl hin tyX11 tyX11_ok nmX11 hO 13 (by decide) ⟨rfl, rfl, rfl, rfl⟩ rfl (hts (.fieldLink RX11 41 "ReplicaFilesModel" "vector" "[I") (mBc 15 rfl)) (by decide) rfl rfl dX11_init_91 (fun H22 locs hO_ hz o hS_ => ?_)
  replace hO := hO_.to (mV.up (by decide +kernel) (by decide +kernel))
  replace hG := hG.put o
  replace hS := hS_
  replace hsz : H22.size = q + 1 + 11 := by omega
  clear hO_ hS_ hz o
  refine lv_aload_n hx hb dX11_init_94 rfl (lv_at hl 0 rfl) ?_
  refine lv_sipush (v := (192 : Int32)) hx hb dX11_init_95 (by decide) ?_
  refine k_newI (n := 192) S hK hS (hts (.arrayClass .int) (mBc 8 rfl)) rfl (by omega) (by simp only [componentBytes]; omega) (by show 12 ≤ 48; omega) (by show 2488 ≤ 22176; omega) dX11_init_98 (fun H23 e_ hz o hS_ => ?_)
  replace hG := hG.new hsz o (t := 15) (by decide +kernel) rfl e_
  rw [hsz]
  replace hO := hO.kept (o _ (by omega))
  replace hS := hS_
  replace hsz : H23.size = q + 1 + 12 := by omega
  clear hS_ hz o e_
  refine W.widen (k := 12) (n := 2488) (by omega) (by omega) ?_
  refine k_putF (ci := 11) (C := RX11) (T := TX11) (ty := .array .int) S hin2 hK hS (Or.inl rfl) rfl hin tyX11 tyX11_ok nmX11 hO 14 (by decide) ⟨rfl, rfl, rfl, rfl⟩ rfl (hts (.fieldLink RX11 44 "ReplicaFilesModel" "versions" "[I") (mBc 16 rfl)) (by decide) rfl rfl dX11_init_100 (fun H24 locs hO_ hz o hS_ => ?_)
  replace hO := hO_.to (mV.up (by decide +kernel) (by decide +kernel))
  replace hG := hG.put o
  replace hS := hS_
  replace hsz : H24.size = q + 1 + 12 := by omega
  clear hO_ hS_ hz o
  refine lv_aload_n hx hb dX11_init_103 rfl (lv_at hl 0 rfl) ?_
  refine lv_sipush (v := (1152 : Int32)) hx hb dX11_init_104 (by decide) ?_
  refine k_newI (n := 1152) S hK hS (hts (.arrayClass .int) (mBc 8 rfl)) rfl (by omega) (by simp only [componentBytes]; omega) (by show 13 ≤ 48; omega) (by show 3640 ≤ 22176; omega) dX11_init_107 (fun H25 e_ hz o hS_ => ?_)
  replace hG := hG.new hsz o (t := 16) (by decide +kernel) rfl e_
  rw [hsz]
  replace hO := hO.kept (o _ (by omega))
  replace hS := hS_
  replace hsz : H25.size = q + 1 + 13 := by omega
  clear hS_ hz o e_
  refine W.widen (k := 13) (n := 3640) (by omega) (by omega) ?_
  refine k_putF (ci := 11) (C := RX11) (T := TX11) (ty := .array .int) S hin2 hK hS (Or.inl rfl) rfl hin tyX11 tyX11_ok nmX11 hO 15 (by decide) ⟨rfl, rfl, rfl, rfl⟩ rfl (hts (.fieldLink RX11 47 "ReplicaFilesModel" "versionValue" "[I") (mBc 17 rfl)) (by decide) rfl rfl dX11_init_109 (fun H26 locs hO_ hz o hS_ => ?_)
  replace hO := hO_.to (mV.up (by decide +kernel) (by decide +kernel))
  replace hG := hG.put o
  replace hS := hS_
  replace hsz : H26.size = q + 1 + 13 := by omega
  clear hO_ hS_ hz o
  refine lv_aload_n hx hb dX11_init_112 rfl (lv_at hl 0 rfl) ?_
  refine lv_sipush (v := (1152 : Int32)) hx hb dX11_init_113 (by decide) ?_
  refine k_newI (n := 1152) S hK hS (hts (.arrayClass .int) (mBc 8 rfl)) rfl (by omega) (by simp only [componentBytes]; omega) (by show 14 ≤ 48; omega) (by show 4792 ≤ 22176; omega) dX11_init_116 (fun H27 e_ hz o hS_ => ?_)
  replace hG := hG.new hsz o (t := 17) (by decide +kernel) rfl e_
  rw [hsz]
  replace hO := hO.kept (o _ (by omega))
  replace hS := hS_
  replace hsz : H27.size = q + 1 + 14 := by omega
  clear hS_ hz o e_
  refine W.widen (k := 14) (n := 4792) (by omega) (by omega) ?_
  refine k_putF (ci := 11) (C := RX11) (T := TX11) (ty := .array .int) S hin2 hK hS (Or.inl rfl) rfl hin tyX11 tyX11_ok nmX11 hO 16 (by decide) ⟨rfl, rfl, rfl, rfl⟩ rfl (hts (.fieldLink RX11 50 "ReplicaFilesModel" "versionSize" "[I") (mBc 18 rfl)) (by decide) rfl rfl dX11_init_118 (fun H28 locs hO_ hz o hS_ => ?_)
  replace hO := hO_.to (mV.up (by decide +kernel) (by decide +kernel))
  replace hG := hG.put o
  replace hS := hS_
  replace hsz : H28.size = q + 1 + 14 := by omega
  clear hO_ hS_ hz o
  refine lv_aload_n hx hb dX11_init_121 rfl (lv_at hl 0 rfl) ?_
  refine lv_sipush (v := (9216 : Int32)) hx hb dX11_init_122 (by decide) ?_
  refine k_newI (n := 9216) S hK hS (hts (.arrayClass .int) (mBc 8 rfl)) rfl (by omega) (by simp only [componentBytes]; omega) (by show 15 ≤ 48; omega) (by show 14008 ≤ 22176; omega) dX11_init_125 (fun H29 e_ hz o hS_ => ?_)
  replace hG := hG.new hsz o (t := 18) (by decide +kernel) rfl e_
  rw [hsz]
  replace hO := hO.kept (o _ (by omega))
  replace hS := hS_
  replace hsz : H29.size = q + 1 + 15 := by omega
  clear hS_ hz o e_
  refine W.widen (k := 15) (n := 14008) (by omega) (by omega) ?_
  refine k_putF (ci := 11) (C := RX11) (T := TX11) (ty := .array .int) S hin2 hK hS (Or.inl rfl) rfl hin tyX11 tyX11_ok nmX11 hO 17 (by decide) ⟨rfl, rfl, rfl, rfl⟩ rfl (hts (.fieldLink RX11 53 "ReplicaFilesModel" "versionVector" "[I") (mBc 19 rfl)) (by decide) rfl rfl dX11_init_127 (fun H30 locs hO_ hz o hS_ => ?_)
  replace hO := hO_.to (mV.up (by decide +kernel) (by decide +kernel))
  replace hG := hG.put o
  replace hS := hS_
  replace hsz : H30.size = q + 1 + 15 := by omega
  clear hO_ hS_ hz o
  refine lv_aload_n hx hb dX11_init_130 rfl (lv_at hl 0 rfl) ?_
  refine lv_sipush (v := (192 : Int32)) hx hb dX11_init_131 (by decide) ?_
  refine k_newI (n := 192) S hK hS (hts (.arrayClass .int) (mBc 8 rfl)) rfl (by omega) (by simp only [componentBytes]; omega) (by show 16 ≤ 48; omega) (by show 14200 ≤ 22176; omega) dX11_init_134 (fun H31 e_ hz o hS_ => ?_)
  replace hG := hG.new hsz o (t := 19) (by decide +kernel) rfl e_
  rw [hsz]
  replace hO := hO.kept (o _ (by omega))
  replace hS := hS_
  replace hsz : H31.size = q + 1 + 16 := by omega
  clear hS_ hz o e_
  refine W.widen (k := 16) (n := 14200) (by omega) (by omega) ?_
  refine k_putF (ci := 11) (C := RX11) (T := TX11) (ty := .array .int) S hin2 hK hS (Or.inl rfl) rfl hin tyX11 tyX11_ok nmX11 hO 18 (by decide) ⟨rfl, rfl, rfl, rfl⟩ rfl (hts (.fieldLink RX11 56 "ReplicaFilesModel" "entry" "[I") (mBc 20 rfl)) (by decide) rfl rfl dX11_init_136 (fun H32 locs hO_ hz o hS_ => ?_)
  replace hO := hO_.to (mV.up (by decide +kernel) (by decide +kernel))
  replace hG := hG.put o
  replace hS := hS_
  replace hsz : H32.size = q + 1 + 16 := by omega
  clear hO_ hS_ hz o
  refine lv_aload_n hx hb dX11_init_139 rfl (lv_at hl 0 rfl) ?_
  refine lv_sipush (v := (1536 : Int32)) hx hb dX11_init_140 (by decide) ?_
  refine k_newI (n := 1536) S hK hS (hts (.arrayClass .int) (mBc 8 rfl)) rfl (by omega) (by simp only [componentBytes]; omega) (by show 17 ≤ 48; omega) (by show 15736 ≤ 22176; omega) dX11_init_143 (fun H33 e_ hz o hS_ => ?_)
  replace hG := hG.new hsz o (t := 20) (by decide +kernel) rfl e_
  rw [hsz]
  replace hO := hO.kept (o _ (by omega))
  replace hS := hS_
  replace hsz : H33.size = q + 1 + 17 := by omega
  clear hS_ hz o e_
  refine W.widen (k := 17) (n := 15736) (by omega) (by omega) ?_
  refine k_putF (ci := 11) (C := RX11) (T := TX11) (ty := .array .int) S hin2 hK hS (Or.inl rfl) rfl hin tyX11 tyX11_ok nmX11 hO 19 (by decide) ⟨rfl, rfl, rfl, rfl⟩ rfl (hts (.fieldLink RX11 59 "ReplicaFilesModel" "gone" "[I") (mBc 21 rfl)) (by decide) rfl rfl dX11_init_145 (fun H34 locs hO_ hz o hS_ => ?_)
  replace hO := hO_.to (mV.up (by decide +kernel) (by decide +kernel))
  replace hG := hG.put o
  replace hS := hS_
  replace hsz : H34.size = q + 1 + 17 := by omega
  clear hO_ hS_ hz o
  refine lv_aload_n hx hb dX11_init_148 rfl (lv_at hl 0 rfl) ?_
  refine lv_sipush (v := (192 : Int32)) hx hb dX11_init_149 (by decide) ?_
  refine k_newI (n := 192) S hK hS (hts (.arrayClass .int) (mBc 8 rfl)) rfl (by omega) (by simp only [componentBytes]; omega) (by show 18 ≤ 48; omega) (by show 15928 ≤ 22176; omega) dX11_init_152 (fun H35 e_ hz o hS_ => ?_)
  replace hG := hG.new hsz o (t := 21) (by decide +kernel) rfl e_
  rw [hsz]
  replace hO := hO.kept (o _ (by omega))
  replace hS := hS_
  replace hsz : H35.size = q + 1 + 18 := by omega
  clear hS_ hz o e_
  refine W.widen (k := 18) (n := 15928) (by omega) (by omega) ?_
  refine k_putF (ci := 11) (C := RX11) (T := TX11) (ty := .array .int) S hin2 hK hS (Or.inl rfl) rfl hin tyX11 tyX11_ok nmX11 hO 20 (by decide) ⟨rfl, rfl, rfl, rfl⟩ rfl (hts (.fieldLink RX11 62 "ReplicaFilesModel" "marks" "[I") (mBc 22 rfl)) (by decide) rfl rfl dX11_init_154 (fun H36 locs hO_ hz o hS_ => ?_)
  replace hO := hO_.to (mV.up (by decide +kernel) (by decide +kernel))
  replace hG := hG.put o
  replace hS := hS_
  replace hsz : H36.size = q + 1 + 18 := by omega
  clear hO_ hS_ hz o
  refine lv_aload_n hx hb dX11_init_157 rfl (lv_at hl 0 rfl) ?_
  refine lv_sipush (v := (192 : Int32)) hx hb dX11_init_158 (by decide) ?_
  refine k_newZ (n := 192) S hK hS (hts (.arrayClass .boolean) (mBc 3 rfl)) rfl (by omega) (by simp only [componentBytes]; omega) (by show 19 ≤ 48; omega) (by show 16120 ≤ 22176; omega) dX11_init_161 (fun H37 e_ hz o hS_ => ?_)
  replace hG := hG.new hsz o (t := 22) (by decide +kernel) rfl e_
  rw [hsz]
  replace hO := hO.kept (o _ (by omega))
  replace hS := hS_
  replace hsz : H37.size = q + 1 + 19 := by omega
  clear hS_ hz o e_
  refine W.widen (k := 19) (n := 16120) (by omega) (by omega) ?_
  refine k_putF (ci := 11) (C := RX11) (T := TX11) (ty := .array .boolean) S hin2 hK hS (Or.inl rfl) rfl hin tyX11 tyX11_ok nmX11 hO 21 (by decide) ⟨rfl, rfl, rfl, rfl⟩ rfl (hts (.fieldLink RX11 65 "ReplicaFilesModel" "kept" "[Z") (mBc 23 rfl)) (by decide) rfl rfl dX11_init_163 (fun H38 locs hO_ hz o hS_ => ?_)
  replace hO := hO_.to (mV.up (by decide +kernel) (by decide +kernel))
  replace hG := hG.put o
  replace hS := hS_
  replace hsz : H38.size = q + 1 + 19 := by omega
  clear hO_ hS_ hz o
  refine lv_aload_n hx hb dX11_init_166 rfl (lv_at hl 0 rfl) ?_
  refine lv_sipush (v := (192 : Int32)) hx hb dX11_init_167 (by decide) ?_
  refine k_newI (n := 192) S hK hS (hts (.arrayClass .int) (mBc 8 rfl)) rfl (by omega) (by simp only [componentBytes]; omega) (by show 20 ≤ 48; omega) (by show 16312 ≤ 22176; omega) dX11_init_170 (fun H39 e_ hz o hS_ => ?_)
  replace hG := hG.new hsz o (t := 23) (by decide +kernel) rfl e_
  rw [hsz]
  replace hO := hO.kept (o _ (by omega))
  replace hS := hS_
  replace hsz : H39.size = q + 1 + 20 := by omega
  clear hS_ hz o e_
  refine W.widen (k := 20) (n := 16312) (by omega) (by omega) ?_
  refine k_putF (ci := 11) (C := RX11) (T := TX11) (ty := .array .int) S hin2 hK hS (Or.inl rfl) rfl hin tyX11 tyX11_ok nmX11 hO 22 (by decide) ⟨rfl, rfl, rfl, rfl⟩ rfl (hts (.fieldLink RX11 68 "ReplicaFilesModel" "keptValue" "[I") (mBc 24 rfl)) (by decide) rfl rfl dX11_init_172 (fun H40 locs hO_ hz o hS_ => ?_)
  replace hO := hO_.to (mV.up (by decide +kernel) (by decide +kernel))
  replace hG := hG.put o
  replace hS := hS_
  replace hsz : H40.size = q + 1 + 20 := by omega
  clear hO_ hS_ hz o
  refine lv_aload_n hx hb dX11_init_175 rfl (lv_at hl 0 rfl) ?_
  refine lv_sipush (v := (192 : Int32)) hx hb dX11_init_176 (by decide) ?_
  refine k_newI (n := 192) S hK hS (hts (.arrayClass .int) (mBc 8 rfl)) rfl (by omega) (by simp only [componentBytes]; omega) (by show 21 ≤ 48; omega) (by show 16504 ≤ 22176; omega) dX11_init_179 (fun H41 e_ hz o hS_ => ?_)
  replace hG := hG.new hsz o (t := 24) (by decide +kernel) rfl e_
  rw [hsz]
  replace hO := hO.kept (o _ (by omega))
  replace hS := hS_
  replace hsz : H41.size = q + 1 + 21 := by omega
  clear hS_ hz o e_
  refine W.widen (k := 21) (n := 16504) (by omega) (by omega) ?_
  refine k_putF (ci := 11) (C := RX11) (T := TX11) (ty := .array .int) S hin2 hK hS (Or.inl rfl) rfl hin tyX11 tyX11_ok nmX11 hO 23 (by decide) ⟨rfl, rfl, rfl, rfl⟩ rfl (hts (.fieldLink RX11 71 "ReplicaFilesModel" "keptSize" "[I") (mBc 25 rfl)) (by decide) rfl rfl dX11_init_181 (fun H42 locs hO_ hz o hS_ => ?_)
  replace hO := hO_.to (mV.up (by decide +kernel) (by decide +kernel))
  replace hG := hG.put o
  replace hS := hS_
  replace hsz : H42.size = q + 1 + 21 := by omega
  clear hO_ hS_ hz o
  refine lv_aload_n hx hb dX11_init_184 rfl (lv_at hl 0 rfl) ?_
  refine lv_sipush (v := (1536 : Int32)) hx hb dX11_init_185 (by decide) ?_
  refine k_newI (n := 1536) S hK hS (hts (.arrayClass .int) (mBc 8 rfl)) rfl (by omega) (by simp only [componentBytes]; omega) (by show 22 ≤ 48; omega) (by show 18040 ≤ 22176; omega) dX11_init_188 (fun H43 e_ hz o hS_ => ?_)
  replace hG := hG.new hsz o (t := 25) (by decide +kernel) rfl e_
  rw [hsz]
  replace hO := hO.kept (o _ (by omega))
  replace hS := hS_
  replace hsz : H43.size = q + 1 + 22 := by omega
  clear hS_ hz o e_
  refine W.widen (k := 22) (n := 18040) (by omega) (by omega) ?_
  refine k_putF (ci := 11) (C := RX11) (T := TX11) (ty := .array .int) S hin2 hK hS (Or.inl rfl) rfl hin tyX11 tyX11_ok nmX11 hO 24 (by decide) ⟨rfl, rfl, rfl, rfl⟩ rfl (hts (.fieldLink RX11 74 "ReplicaFilesModel" "keptVector" "[I") (mBc 26 rfl)) (by decide) rfl rfl dX11_init_190 (fun H44 locs hO_ hz o hS_ => ?_)
  replace hO := hO_.to (mV.up (by decide +kernel) (by decide +kernel))
  replace hG := hG.put o
  replace hS := hS_
  replace hsz : H44.size = q + 1 + 22 := by omega
  clear hO_ hS_ hz o
  refine lv_aload_n hx hb dX11_init_193 rfl (lv_at hl 0 rfl) ?_
  refine lv_sipush (v := (192 : Int32)) hx hb dX11_init_194 (by decide) ?_
  refine k_newI (n := 192) S hK hS (hts (.arrayClass .int) (mBc 8 rfl)) rfl (by omega) (by simp only [componentBytes]; omega) (by show 23 ≤ 48; omega) (by show 18232 ≤ 22176; omega) dX11_init_197 (fun H45 e_ hz o hS_ => ?_)
  replace hG := hG.new hsz o (t := 26) (by decide +kernel) rfl e_
  rw [hsz]
  replace hO := hO.kept (o _ (by omega))
  replace hS := hS_
  replace hsz : H45.size = q + 1 + 23 := by omega
  clear hS_ hz o e_
  refine W.widen (k := 23) (n := 18232) (by omega) (by omega) ?_
  refine k_putF (ci := 11) (C := RX11) (T := TX11) (ty := .array .int) S hin2 hK hS (Or.inl rfl) rfl hin tyX11 tyX11_ok nmX11 hO 25 (by decide) ⟨rfl, rfl, rfl, rfl⟩ rfl (hts (.fieldLink RX11 77 "ReplicaFilesModel" "promised" "[I") (mBc 27 rfl)) (by decide) rfl rfl dX11_init_199 (fun H46 locs hO_ hz o hS_ => ?_)
  replace hO := hO_.to (mV.up (by decide +kernel) (by decide +kernel))
  replace hG := hG.put o
  replace hS := hS_
  replace hsz : H46.size = q + 1 + 23 := by omega
  clear hO_ hS_ hz o
  refine lv_aload_n hx hb dX11_init_202 rfl (lv_at hl 0 rfl) ?_
  refine lv_sipush (v := (192 : Int32)) hx hb dX11_init_203 (by decide) ?_
  refine k_newZ (n := 192) S hK hS (hts (.arrayClass .boolean) (mBc 3 rfl)) rfl (by omega) (by simp only [componentBytes]; omega) (by show 24 ≤ 48; omega) (by show 18424 ≤ 22176; omega) dX11_init_206 (fun H47 e_ hz o hS_ => ?_)
  replace hG := hG.new hsz o (t := 27) (by decide +kernel) rfl e_
  rw [hsz]
  replace hO := hO.kept (o _ (by omega))
  replace hS := hS_
  replace hsz : H47.size = q + 1 + 24 := by omega
  clear hS_ hz o e_
  refine W.widen (k := 24) (n := 18424) (by omega) (by omega) ?_
  refine k_putF (ci := 11) (C := RX11) (T := TX11) (ty := .array .boolean) S hin2 hK hS (Or.inl rfl) rfl hin tyX11 tyX11_ok nmX11 hO 26 (by decide) ⟨rfl, rfl, rfl, rfl⟩ rfl (hts (.fieldLink RX11 80 "ReplicaFilesModel" "dirty" "[Z") (mBc 28 rfl)) (by decide) rfl rfl dX11_init_208 (fun H48 locs hO_ hz o hS_ => ?_)
  replace hO := hO_.to (mV.up (by decide +kernel) (by decide +kernel))
  replace hG := hG.put o
  replace hS := hS_
  replace hsz : H48.size = q + 1 + 24 := by omega
  clear hO_ hS_ hz o
  refine lv_aload_n hx hb dX11_init_211 rfl (lv_at hl 0 rfl) ?_
  refine lv_sipush (v := (192 : Int32)) hx hb dX11_init_212 (by decide) ?_
  refine k_newI (n := 192) S hK hS (hts (.arrayClass .int) (mBc 8 rfl)) rfl (by omega) (by simp only [componentBytes]; omega) (by show 25 ≤ 48; omega) (by show 18616 ≤ 22176; omega) dX11_init_215 (fun H49 e_ hz o hS_ => ?_)
  replace hG := hG.new hsz o (t := 28) (by decide +kernel) rfl e_
  rw [hsz]
  replace hO := hO.kept (o _ (by omega))
  replace hS := hS_
  replace hsz : H49.size = q + 1 + 25 := by omega
  clear hS_ hz o e_
  refine W.widen (k := 25) (n := 18616) (by omega) (by omega) ?_
  refine k_putF (ci := 11) (C := RX11) (T := TX11) (ty := .array .int) S hin2 hK hS (Or.inl rfl) rfl hin tyX11 tyX11_ok nmX11 hO 27 (by decide) ⟨rfl, rfl, rfl, rfl⟩ rfl (hts (.fieldLink RX11 83 "ReplicaFilesModel" "usedAt" "[I") (mBc 29 rfl)) (by decide) rfl rfl dX11_init_217 (fun H50 locs hO_ hz o hS_ => ?_)
  replace hO := hO_.to (mV.up (by decide +kernel) (by decide +kernel))
  replace hG := hG.put o
  replace hS := hS_
  replace hsz : H50.size = q + 1 + 25 := by omega
  clear hO_ hS_ hz o
  refine lv_aload_n hx hb dX11_init_220 rfl (lv_at hl 0 rfl) ?_
  refine lv_sipush (v := (192 : Int32)) hx hb dX11_init_221 (by decide) ?_
  refine k_newI (n := 192) S hK hS (hts (.arrayClass .int) (mBc 8 rfl)) rfl (by omega) (by simp only [componentBytes]; omega) (by show 26 ≤ 48; omega) (by show 18808 ≤ 22176; omega) dX11_init_224 (fun H51 e_ hz o hS_ => ?_)
  replace hG := hG.new hsz o (t := 29) (by decide +kernel) rfl e_
  rw [hsz]
  replace hO := hO.kept (o _ (by omega))
  replace hS := hS_
  replace hsz : H51.size = q + 1 + 26 := by omega
  clear hS_ hz o e_
  refine W.widen (k := 26) (n := 18808) (by omega) (by omega) ?_
  refine k_putF (ci := 11) (C := RX11) (T := TX11) (ty := .array .int) S hin2 hK hS (Or.inl rfl) rfl hin tyX11 tyX11_ok nmX11 hO 28 (by decide) ⟨rfl, rfl, rfl, rfl⟩ rfl (hts (.fieldLink RX11 86 "ReplicaFilesModel" "usedBy" "[I") (mBc 30 rfl)) (by decide) rfl rfl dX11_init_226 (fun H52 locs hO_ hz o hS_ => ?_)
  replace hO := hO_.to (mV.up (by decide +kernel) (by decide +kernel))
  replace hG := hG.put o
  replace hS := hS_
  replace hsz : H52.size = q + 1 + 26 := by omega
  clear hO_ hS_ hz o
  refine lv_aload_n hx hb dX11_init_229 rfl (lv_at hl 0 rfl) ?_
  refine lv_sipush (v := (192 : Int32)) hx hb dX11_init_230 (by decide) ?_
  refine k_newI (n := 192) S hK hS (hts (.arrayClass .int) (mBc 8 rfl)) rfl (by omega) (by simp only [componentBytes]; omega) (by show 27 ≤ 48; omega) (by show 19000 ≤ 22176; omega) dX11_init_233 (fun H53 e_ hz o hS_ => ?_)
  replace hG := hG.new hsz o (t := 30) (by decide +kernel) rfl e_
  rw [hsz]
  replace hO := hO.kept (o _ (by omega))
  replace hS := hS_
  replace hsz : H53.size = q + 1 + 27 := by omega
  clear hS_ hz o e_
  refine W.widen (k := 27) (n := 19000) (by omega) (by omega) ?_
  refine k_putF (ci := 11) (C := RX11) (T := TX11) (ty := .array .int) S hin2 hK hS (Or.inl rfl) rfl hin tyX11 tyX11_ok nmX11 hO 29 (by decide) ⟨rfl, rfl, rfl, rfl⟩ rfl (hts (.fieldLink RX11 89 "ReplicaFilesModel" "keptEntry" "[I") (mBc 31 rfl)) (by decide) rfl rfl dX11_init_235 (fun H54 locs hO_ hz o hS_ => ?_)
  replace hO := hO_.to (mV.up (by decide +kernel) (by decide +kernel))
  replace hG := hG.put o
  replace hS := hS_
  replace hsz : H54.size = q + 1 + 27 := by omega
  clear hO_ hS_ hz o
  refine lv_aload_n hx hb dX11_init_238 rfl (lv_at hl 0 rfl) ?_
  refine lv_sipush (v := (1536 : Int32)) hx hb dX11_init_239 (by decide) ?_
  refine k_newI (n := 1536) S hK hS (hts (.arrayClass .int) (mBc 8 rfl)) rfl (by omega) (by simp only [componentBytes]; omega) (by show 28 ≤ 48; omega) (by show 20536 ≤ 22176; omega) dX11_init_242 (fun H55 e_ hz o hS_ => ?_)
  replace hG := hG.new hsz o (t := 31) (by decide +kernel) rfl e_
  rw [hsz]
  replace hO := hO.kept (o _ (by omega))
  replace hS := hS_
  replace hsz : H55.size = q + 1 + 28 := by omega
  clear hS_ hz o e_
  refine W.widen (k := 28) (n := 20536) (by omega) (by omega) ?_
  refine k_putF (ci := 11) (C := RX11) (T := TX11) (ty := .array .int) S hin2 hK hS (Or.inl rfl) rfl hin tyX11 tyX11_ok nmX11 hO 30 (by decide) ⟨rfl, rfl, rfl, rfl⟩ rfl (hts (.fieldLink RX11 92 "ReplicaFilesModel" "keptGone" "[I") (mBc 32 rfl)) (by decide) rfl rfl dX11_init_244 (fun H56 locs hO_ hz o hS_ => ?_)
  replace hO := hO_.to (mV.up (by decide +kernel) (by decide +kernel))
  replace hG := hG.put o
  replace hS := hS_
  replace hsz : H56.size = q + 1 + 28 := by omega
  clear hO_ hS_ hz o
  refine lv_aload_n hx hb dX11_init_247 rfl (lv_at hl 0 rfl) ?_
  refine lv_sipush (v := (192 : Int32)) hx hb dX11_init_248 (by decide) ?_
  refine k_newI (n := 192) S hK hS (hts (.arrayClass .int) (mBc 8 rfl)) rfl (by omega) (by simp only [componentBytes]; omega) (by show 29 ≤ 48; omega) (by show 20728 ≤ 22176; omega) dX11_init_251 (fun H57 e_ hz o hS_ => ?_)
  replace hG := hG.new hsz o (t := 32) (by decide +kernel) rfl e_
  rw [hsz]
  replace hO := hO.kept (o _ (by omega))
  replace hS := hS_
  replace hsz : H57.size = q + 1 + 29 := by omega
  clear hS_ hz o e_
  refine W.widen (k := 29) (n := 20728) (by omega) (by omega) ?_
  refine k_putF (ci := 11) (C := RX11) (T := TX11) (ty := .array .int) S hin2 hK hS (Or.inl rfl) rfl hin tyX11 tyX11_ok nmX11 hO 31 (by decide) ⟨rfl, rfl, rfl, rfl⟩ rfl (hts (.fieldLink RX11 95 "ReplicaFilesModel" "priorities" "[I") (mBc 33 rfl)) (by decide) rfl rfl dX11_init_253 (fun H58 locs hO_ hz o hS_ => ?_)
  replace hO := hO_.to (mV.up (by decide +kernel) (by decide +kernel))
  replace hG := hG.put o
  replace hS := hS_
  replace hsz : H58.size = q + 1 + 29 := by omega
  clear hO_ hS_ hz o
  refine lv_aload_n hx hb dX11_init_256 rfl (lv_at hl 0 rfl) ?_
  refine lv_iconst (v := (4 : Int32)) hx hb dX11_init_257 (by decide) ?_
  refine k_newI (n := 4) S hK hS (hts (.arrayClass .int) (mBc 8 rfl)) rfl (by omega) (by simp only [componentBytes]; omega) (by show 30 ≤ 48; omega) (by show 20732 ≤ 22176; omega) dX11_init_258 (fun H59 e_ hz o hS_ => ?_)
  replace hG := hG.new hsz o (t := 35) (by decide +kernel) rfl e_
  rw [hsz]
  replace hO := hO.kept (o _ (by omega))
  replace hS := hS_
  replace hsz : H59.size = q + 1 + 30 := by omega
  clear hS_ hz o e_
  refine W.widen (k := 30) (n := 20732) (by omega) (by omega) ?_
  refine k_putF (ci := 11) (C := RX11) (T := TX11) (ty := .array .int) S hin2 hK hS (Or.inl rfl) rfl hin tyX11 tyX11_ok nmX11 hO 34 (by decide) ⟨rfl, rfl, rfl, rfl⟩ rfl (hts (.fieldLink RX11 98 "ReplicaFilesModel" "records" "[I") (mBc 34 rfl)) (by decide) rfl rfl dX11_init_260 (fun H60 locs hO_ hz o hS_ => ?_)
  replace hO := hO_.to (mV.up (by decide +kernel) (by decide +kernel))
  replace hG := hG.put o
  replace hS := hS_
  replace hsz : H60.size = q + 1 + 30 := by omega
  clear hO_ hS_ hz o
  refine lv_aload_n hx hb dX11_init_263 rfl (lv_at hl 0 rfl) ?_
  refine lv_bipush (v := (48 : Int32)) hx hb dX11_init_264 (by decide) ?_
  refine k_newI (n := 48) S hK hS (hts (.arrayClass .int) (mBc 8 rfl)) rfl (by omega) (by simp only [componentBytes]; omega) (by show 31 ≤ 48; omega) (by show 20780 ≤ 22176; omega) dX11_init_266 (fun H61 e_ hz o hS_ => ?_)
  replace hG := hG.new hsz o (t := 36) (by decide +kernel) rfl e_
  rw [hsz]
  replace hO := hO.kept (o _ (by omega))
  replace hS := hS_
  replace hsz : H61.size = q + 1 + 31 := by omega
  clear hS_ hz o e_
  refine W.widen (k := 31) (n := 20780) (by omega) (by omega) ?_
  refine k_putF (ci := 11) (C := RX11) (T := TX11) (ty := .array .int) S hin2 hK hS (Or.inl rfl) rfl hin tyX11 tyX11_ok nmX11 hO 35 (by decide) ⟨rfl, rfl, rfl, rfl⟩ rfl (hts (.fieldLink RX11 101 "ReplicaFilesModel" "recordKind" "[I") (mBc 35 rfl)) (by decide) rfl rfl dX11_init_268 (fun H62 locs hO_ hz o hS_ => ?_)
  replace hO := hO_.to (mV.up (by decide +kernel) (by decide +kernel))
  replace hG := hG.put o
  replace hS := hS_
  replace hsz : H62.size = q + 1 + 31 := by omega
  clear hO_ hS_ hz o
  refine lv_aload_n hx hb dX11_init_271 rfl (lv_at hl 0 rfl) ?_
  refine lv_bipush (v := (48 : Int32)) hx hb dX11_init_272 (by decide) ?_
  refine k_newI (n := 48) S hK hS (hts (.arrayClass .int) (mBc 8 rfl)) rfl (by omega) (by simp only [componentBytes]; omega) (by show 32 ≤ 48; omega) (by show 20828 ≤ 22176; omega) dX11_init_274 (fun H63 e_ hz o hS_ => ?_)
  replace hG := hG.new hsz o (t := 37) (by decide +kernel) rfl e_
  rw [hsz]
  replace hO := hO.kept (o _ (by omega))
  replace hS := hS_
  replace hsz : H63.size = q + 1 + 32 := by omega
  clear hS_ hz o e_
  refine W.widen (k := 32) (n := 20828) (by omega) (by omega) ?_
  refine k_putF (ci := 11) (C := RX11) (T := TX11) (ty := .array .int) S hin2 hK hS (Or.inl rfl) rfl hin tyX11 tyX11_ok nmX11 hO 36 (by decide) ⟨rfl, rfl, rfl, rfl⟩ rfl (hts (.fieldLink RX11 104 "ReplicaFilesModel" "recordObject" "[I") (mBc 36 rfl)) (by decide) rfl rfl dX11_init_276 (fun H64 locs hO_ hz o hS_ => ?_)
  replace hO := hO_.to (mV.up (by decide +kernel) (by decide +kernel))
  replace hG := hG.put o
  replace hS := hS_
  replace hsz : H64.size = q + 1 + 32 := by omega
  clear hO_ hS_ hz o
  refine lv_aload_n hx hb dX11_init_279 rfl (lv_at hl 0 rfl) ?_
  refine lv_bipush (v := (48 : Int32)) hx hb dX11_init_280 (by decide) ?_
  refine k_newI (n := 48) S hK hS (hts (.arrayClass .int) (mBc 8 rfl)) rfl (by omega) (by simp only [componentBytes]; omega) (by show 33 ≤ 48; omega) (by show 20876 ≤ 22176; omega) dX11_init_282 (fun H65 e_ hz o hS_ => ?_)
  replace hG := hG.new hsz o (t := 38) (by decide +kernel) rfl e_
  rw [hsz]
  replace hO := hO.kept (o _ (by omega))
  replace hS := hS_
  replace hsz : H65.size = q + 1 + 33 := by omega
  clear hS_ hz o e_
  refine W.widen (k := 33) (n := 20876) (by omega) (by omega) ?_
  refine k_putF (ci := 11) (C := RX11) (T := TX11) (ty := .array .int) S hin2 hK hS (Or.inl rfl) rfl hin tyX11 tyX11_ok nmX11 hO 37 (by decide) ⟨rfl, rfl, rfl, rfl⟩ rfl (hts (.fieldLink RX11 107 "ReplicaFilesModel" "recordDirectory" "[I") (mBc 37 rfl)) (by decide) rfl rfl dX11_init_284 (fun H66 locs hO_ hz o hS_ => ?_)
  replace hO := hO_.to (mV.up (by decide +kernel) (by decide +kernel))
  replace hG := hG.put o
  replace hS := hS_
  replace hsz : H66.size = q + 1 + 33 := by omega
  clear hO_ hS_ hz o
  refine lv_aload_n hx hb dX11_init_287 rfl (lv_at hl 0 rfl) ?_
  refine lv_sipush (v := (384 : Int32)) hx hb dX11_init_288 (by decide) ?_
  refine k_newI (n := 384) S hK hS (hts (.arrayClass .int) (mBc 8 rfl)) rfl (by omega) (by simp only [componentBytes]; omega) (by show 34 ≤ 48; omega) (by show 21260 ≤ 22176; omega) dX11_init_291 (fun H67 e_ hz o hS_ => ?_)
  replace hG := hG.new hsz o (t := 39) (by decide +kernel) rfl e_
  rw [hsz]
  replace hO := hO.kept (o _ (by omega))
  replace hS := hS_
  replace hsz : H67.size = q + 1 + 34 := by omega
  clear hS_ hz o e_
  refine W.widen (k := 34) (n := 21260) (by omega) (by omega) ?_
  refine k_putF (ci := 11) (C := RX11) (T := TX11) (ty := .array .int) S hin2 hK hS (Or.inl rfl) rfl hin tyX11 tyX11_ok nmX11 hO 38 (by decide) ⟨rfl, rfl, rfl, rfl⟩ rfl (hts (.fieldLink RX11 110 "ReplicaFilesModel" "recordVector" "[I") (mBc 38 rfl)) (by decide) rfl rfl dX11_init_293 (fun H68 locs hO_ hz o hS_ => ?_)
  replace hO := hO_.to (mV.up (by decide +kernel) (by decide +kernel))
  replace hG := hG.put o
  replace hS := hS_
  replace hsz : H68.size = q + 1 + 34 := by omega
  clear hO_ hS_ hz o
  refine lv_aload_n hx hb dX11_init_296 rfl (lv_at hl 0 rfl) ?_
  refine lv_iconst (v := (4 : Int32)) hx hb dX11_init_297 (by decide) ?_
  refine k_newI (n := 4) S hK hS (hts (.arrayClass .int) (mBc 8 rfl)) rfl (by omega) (by simp only [componentBytes]; omega) (by show 35 ≤ 48; omega) (by show 21264 ≤ 22176; omega) dX11_init_298 (fun H69 e_ hz o hS_ => ?_)
  replace hG := hG.new hsz o (t := 40) (by decide +kernel) rfl e_
  rw [hsz]
  replace hO := hO.kept (o _ (by omega))
  replace hS := hS_
  replace hsz : H69.size = q + 1 + 35 := by omega
  clear hS_ hz o e_
  refine W.widen (k := 35) (n := 21264) (by omega) (by omega) ?_
  refine k_putF (ci := 11) (C := RX11) (T := TX11) (ty := .array .int) S hin2 hK hS (Or.inl rfl) rfl hin tyX11 tyX11_ok nmX11 hO 39 (by decide) ⟨rfl, rfl, rfl, rfl⟩ rfl (hts (.fieldLink RX11 113 "ReplicaFilesModel" "versionsTold" "[I") (mBc 39 rfl)) (by decide) rfl rfl dX11_init_300 (fun H70 locs hO_ hz o hS_ => ?_)
  replace hO := hO_.to (mV.up (by decide +kernel) (by decide +kernel))
  replace hG := hG.put o
  replace hS := hS_
  replace hsz : H70.size = q + 1 + 35 := by omega
  clear hO_ hS_ hz o
  refine lv_aload_n hx hb dX11_init_303 rfl (lv_at hl 0 rfl) ?_
  refine lv_bipush (v := (8 : Int32)) hx hb dX11_init_304 (by decide) ?_
  refine k_newI (n := 8) S hK hS (hts (.arrayClass .int) (mBc 8 rfl)) rfl (by omega) (by simp only [componentBytes]; omega) (by show 36 ≤ 48; omega) (by show 21272 ≤ 22176; omega) dX11_init_306 (fun H71 e_ hz o hS_ => ?_)
  replace hG := hG.new hsz o (t := 41) (by decide +kernel) rfl e_
  rw [hsz]
  replace hO := hO.kept (o _ (by omega))
  replace hS := hS_
  replace hsz : H71.size = q + 1 + 36 := by omega
  clear hS_ hz o e_
  refine W.widen (k := 36) (n := 21272) (by omega) (by omega) ?_
  refine k_putF (ci := 11) (C := RX11) (T := TX11) (ty := .array .int) S hin2 hK hS (Or.inl rfl) rfl hin tyX11 tyX11_ok nmX11 hO 40 (by decide) ⟨rfl, rfl, rfl, rfl⟩ rfl (hts (.fieldLink RX11 116 "ReplicaFilesModel" "gotVector" "[I") (mBc 40 rfl)) (by decide) rfl rfl dX11_init_308 (fun H72 locs hO_ hz o hS_ => ?_)
  replace hO := hO_.to (mV.up (by decide +kernel) (by decide +kernel))
  replace hG := hG.put o
  replace hS := hS_
  replace hsz : H72.size = q + 1 + 36 := by omega
  clear hO_ hS_ hz o
  refine lv_aload_n hx hb dX11_init_311 rfl (lv_at hl 0 rfl) ?_
  refine lv_bipush (v := (48 : Int32)) hx hb dX11_init_312 (by decide) ?_
  refine k_newI (n := 48) S hK hS (hts (.arrayClass .int) (mBc 8 rfl)) rfl (by omega) (by simp only [componentBytes]; omega) (by show 37 ≤ 48; omega) (by show 21320 ≤ 22176; omega) dX11_init_314 (fun H73 e_ hz o hS_ => ?_)
  replace hG := hG.new hsz o (t := 42) (by decide +kernel) rfl e_
  rw [hsz]
  replace hO := hO.kept (o _ (by omega))
  replace hS := hS_
  replace hsz : H73.size = q + 1 + 37 := by omega
  clear hS_ hz o e_
  refine W.widen (k := 37) (n := 21320) (by omega) (by omega) ?_
  refine k_putF (ci := 11) (C := RX11) (T := TX11) (ty := .array .int) S hin2 hK hS (Or.inl rfl) rfl hin tyX11 tyX11_ok nmX11 hO 41 (by decide) ⟨rfl, rfl, rfl, rfl⟩ rfl (hts (.fieldLink RX11 119 "ReplicaFilesModel" "gotEntry" "[I") (mBc 41 rfl)) (by decide) rfl rfl dX11_init_316 (fun H74 locs hO_ hz o hS_ => ?_)
  replace hO := hO_.to (mV.up (by decide +kernel) (by decide +kernel))
  replace hG := hG.put o
  replace hS := hS_
  replace hsz : H74.size = q + 1 + 37 := by omega
  clear hO_ hS_ hz o
  refine lv_aload_n hx hb dX11_init_319 rfl (lv_at hl 0 rfl) ?_
  refine lv_bipush (v := (8 : Int32)) hx hb dX11_init_320 (by decide) ?_
  refine k_newI (n := 8) S hK hS (hts (.arrayClass .int) (mBc 8 rfl)) rfl (by omega) (by simp only [componentBytes]; omega) (by show 38 ≤ 48; omega) (by show 21328 ≤ 22176; omega) dX11_init_322 (fun H75 e_ hz o hS_ => ?_)
  replace hG := hG.new hsz o (t := 44) (by decide +kernel) rfl e_
  rw [hsz]
  replace hO := hO.kept (o _ (by omega))
  replace hS := hS_
  replace hsz : H75.size = q + 1 + 38 := by omega
  clear hS_ hz o e_
  refine W.widen (k := 38) (n := 21328) (by omega) (by omega) ?_
  refine k_putF (ci := 11) (C := RX11) (T := TX11) (ty := .array .int) S hin2 hK hS (Or.inl rfl) rfl hin tyX11 tyX11_ok nmX11 hO 43 (by decide) ⟨rfl, rfl, rfl, rfl⟩ rfl (hts (.fieldLink RX11 122 "ReplicaFilesModel" "directoryVector" "[I") (mBc 42 rfl)) (by decide) rfl rfl dX11_init_324 (fun H76 locs hO_ hz o hS_ => ?_)
  replace hO := hO_.to (mV.up (by decide +kernel) (by decide +kernel))
  replace hG := hG.put o
  replace hS := hS_
  replace hsz : H76.size = q + 1 + 38 := by omega
  clear hO_ hS_ hz o
  refine lv_aload_n hx hb dX11_init_327 rfl (lv_at hl 0 rfl) ?_
  refine lv_bipush (v := (8 : Int32)) hx hb dX11_init_328 (by decide) ?_
  refine k_newI (n := 8) S hK hS (hts (.arrayClass .int) (mBc 8 rfl)) rfl (by omega) (by simp only [componentBytes]; omega) (by show 39 ≤ 48; omega) (by show 21336 ≤ 22176; omega) dX11_init_330 (fun H77 e_ hz o hS_ => ?_)
  replace hG := hG.new hsz o (t := 45) (by decide +kernel) rfl e_
  rw [hsz]
  replace hO := hO.kept (o _ (by omega))
  replace hS := hS_
  replace hsz : H77.size = q + 1 + 39 := by omega
  clear hS_ hz o e_
  refine W.widen (k := 39) (n := 21336) (by omega) (by omega) ?_
  refine k_putF (ci := 11) (C := RX11) (T := TX11) (ty := .array .int) S hin2 hK hS (Or.inl rfl) rfl hin tyX11 tyX11_ok nmX11 hO 44 (by decide) ⟨rfl, rfl, rfl, rfl⟩ rfl (hts (.fieldLink RX11 125 "ReplicaFilesModel" "row" "[I") (mBc 43 rfl)) (by decide) rfl rfl dX11_init_332 (fun H78 locs hO_ hz o hS_ => ?_)
  replace hO := hO_.to (mV.up (by decide +kernel) (by decide +kernel))
  replace hG := hG.put o
  replace hS := hS_
  replace hsz : H78.size = q + 1 + 39 := by omega
  clear hO_ hS_ hz o
  refine lv_aload_n hx hb dX11_init_335 rfl (lv_at hl 0 rfl) ?_
  refine lv_bipush (v := (48 : Int32)) hx hb dX11_init_336 (by decide) ?_
  refine k_newZ (n := 48) S hK hS (hts (.arrayClass .boolean) (mBc 3 rfl)) rfl (by omega) (by simp only [componentBytes]; omega) (by show 40 ≤ 48; omega) (by show 21384 ≤ 22176; omega) dX11_init_338 (fun H79 e_ hz o hS_ => ?_)
  replace hG := hG.new hsz o (t := 57) (by decide +kernel) rfl e_
  rw [hsz]
  replace hO := hO.kept (o _ (by omega))
  replace hS := hS_
  replace hsz : H79.size = q + 1 + 40 := by omega
  clear hS_ hz o e_
  refine W.widen (k := 40) (n := 21384) (by omega) (by omega) ?_
  refine k_putF (ci := 11) (C := RX11) (T := TX11) (ty := .array .boolean) S hin2 hK hS (Or.inl rfl) rfl hin tyX11 tyX11_ok nmX11 hO 56 (by decide) ⟨rfl, rfl, rfl, rfl⟩ rfl (hts (.fieldLink RX11 128 "ReplicaFilesModel" "someThere" "[Z") (mBc 44 rfl)) (by decide) rfl rfl dX11_init_340 (fun H80 locs hO_ hz o hS_ => ?_)
  replace hO := hO_.to (mV.up (by decide +kernel) (by decide +kernel))
  replace hG := hG.put o
  replace hS := hS_
  replace hsz : H80.size = q + 1 + 40 := by omega
  clear hO_ hS_ hz o
  refine lv_aload_n hx hb dX11_init_343 rfl (lv_at hl 0 rfl) ?_
  refine lv_bipush (v := (48 : Int32)) hx hb dX11_init_344 (by decide) ?_
  refine k_newZ (n := 48) S hK hS (hts (.arrayClass .boolean) (mBc 3 rfl)) rfl (by omega) (by simp only [componentBytes]; omega) (by show 41 ≤ 48; omega) (by show 21432 ≤ 22176; omega) dX11_init_346 (fun H81 e_ hz o hS_ => ?_)
  replace hG := hG.new hsz o (t := 58) (by decide +kernel) rfl e_
  rw [hsz]
  replace hO := hO.kept (o _ (by omega))
  replace hS := hS_
  replace hsz : H81.size = q + 1 + 41 := by omega
  clear hS_ hz o e_
  refine W.widen (k := 41) (n := 21432) (by omega) (by omega) ?_
  refine k_putF (ci := 11) (C := RX11) (T := TX11) (ty := .array .boolean) S hin2 hK hS (Or.inl rfl) rfl hin tyX11 tyX11_ok nmX11 hO 57 (by decide) ⟨rfl, rfl, rfl, rfl⟩ rfl (hts (.fieldLink RX11 131 "ReplicaFilesModel" "someGone" "[Z") (mBc 45 rfl)) (by decide) rfl rfl dX11_init_348 (fun H82 locs hO_ hz o hS_ => ?_)
  replace hO := hO_.to (mV.up (by decide +kernel) (by decide +kernel))
  replace hG := hG.put o
  replace hS := hS_
  replace hsz : H82.size = q + 1 + 41 := by omega
  clear hO_ hS_ hz o
  refine lv_aload_n hx hb dX11_init_351 rfl (lv_at hl 0 rfl) ?_
  refine lv_sipush (v := (384 : Int32)) hx hb dX11_init_352 (by decide) ?_
  refine k_newI (n := 384) S hK hS (hts (.arrayClass .int) (mBc 8 rfl)) rfl (by omega) (by simp only [componentBytes]; omega) (by show 42 ≤ 48; omega) (by show 21816 ≤ 22176; omega) dX11_init_355 (fun H83 e_ hz o hS_ => ?_)
  replace hG := hG.new hsz o (t := 59) (by decide +kernel) rfl e_
  rw [hsz]
  replace hO := hO.kept (o _ (by omega))
  replace hS := hS_
  replace hsz : H83.size = q + 1 + 42 := by omega
  clear hS_ hz o e_
  refine W.widen (k := 42) (n := 21816) (by omega) (by omega) ?_
  refine k_putF (ci := 11) (C := RX11) (T := TX11) (ty := .array .int) S hin2 hK hS (Or.inl rfl) rfl hin tyX11 tyX11_ok nmX11 hO 58 (by decide) ⟨rfl, rfl, rfl, rfl⟩ rfl (hts (.fieldLink RX11 134 "ReplicaFilesModel" "mergedGone" "[I") (mBc 46 rfl)) (by decide) rfl rfl dX11_init_357 (fun H84 locs hO_ hz o hS_ => ?_)
  replace hO := hO_.to (mV.up (by decide +kernel) (by decide +kernel))
  replace hG := hG.put o
  replace hS := hS_
  replace hsz : H84.size = q + 1 + 42 := by omega
  clear hO_ hS_ hz o
  refine lv_aload_n hx hb dX11_init_360 rfl (lv_at hl 0 rfl) ?_
  refine lv_bipush (v := (48 : Int32)) hx hb dX11_init_361 (by decide) ?_
  refine k_newZ (n := 48) S hK hS (hts (.arrayClass .boolean) (mBc 3 rfl)) rfl (by omega) (by simp only [componentBytes]; omega) (by show 43 ≤ 48; omega) (by show 21864 ≤ 22176; omega) dX11_init_363 (fun H85 e_ hz o hS_ => ?_)
  replace hG := hG.new hsz o (t := 60) (by decide +kernel) rfl e_
  rw [hsz]
  replace hO := hO.kept (o _ (by omega))
  replace hS := hS_
  replace hsz : H85.size = q + 1 + 43 := by omega
  clear hS_ hz o e_
  refine W.widen (k := 43) (n := 21864) (by omega) (by omega) ?_
  refine k_putF (ci := 11) (C := RX11) (T := TX11) (ty := .array .boolean) S hin2 hK hS (Or.inl rfl) rfl hin tyX11 tyX11_ok nmX11 hO 59 (by decide) ⟨rfl, rfl, rfl, rfl⟩ rfl (hts (.fieldLink RX11 137 "ReplicaFilesModel" "canGo" "[Z") (mBc 47 rfl)) (by decide) rfl rfl dX11_init_365 (fun H86 locs hO_ hz o hS_ => ?_)
  replace hO := hO_.to (mV.up (by decide +kernel) (by decide +kernel))
  replace hG := hG.put o
  replace hS := hS_
  replace hsz : H86.size = q + 1 + 43 := by omega
  clear hO_ hS_ hz o
  refine lv_aload_n hx hb dX11_init_368 rfl (lv_at hl 0 rfl) ?_
  refine lv_bipush (v := (48 : Int32)) hx hb dX11_init_369 (by decide) ?_
  refine k_newZ (n := 48) S hK hS (hts (.arrayClass .boolean) (mBc 3 rfl)) rfl (by omega) (by simp only [componentBytes]; omega) (by show 44 ≤ 48; omega) (by show 21912 ≤ 22176; omega) dX11_init_371 (fun H87 e_ hz o hS_ => ?_)
  replace hG := hG.new hsz o (t := 61) (by decide +kernel) rfl e_
  rw [hsz]
  replace hO := hO.kept (o _ (by omega))
  replace hS := hS_
  replace hsz : H87.size = q + 1 + 44 := by omega
  clear hS_ hz o e_
  refine W.widen (k := 44) (n := 21912) (by omega) (by omega) ?_
  refine k_putF (ci := 11) (C := RX11) (T := TX11) (ty := .array .boolean) S hin2 hK hS (Or.inl rfl) rfl hin tyX11 tyX11_ok nmX11 hO 60 (by decide) ⟨rfl, rfl, rfl, rfl⟩ rfl (hts (.fieldLink RX11 140 "ReplicaFilesModel" "swept" "[Z") (mBc 48 rfl)) (by decide) rfl rfl dX11_init_373 (fun H88 locs hO_ hz o hS_ => ?_)
  replace hO := hO_.to (mV.up (by decide +kernel) (by decide +kernel))
  replace hG := hG.put o
  replace hS := hS_
  replace hsz : H88.size = q + 1 + 44 := by omega
  clear hO_ hS_ hz o
  refine lv_aload_n hx hb dX11_init_376 rfl (lv_at hl 0 rfl) ?_
  refine lv_bipush (v := (24 : Int32)) hx hb dX11_init_377 (by decide) ?_
  refine k_newI (n := 24) S hK hS (hts (.arrayClass .int) (mBc 8 rfl)) rfl (by omega) (by simp only [componentBytes]; omega) (by show 45 ≤ 48; omega) (by show 21936 ≤ 22176; omega) dX11_init_379 (fun H89 e_ hz o hS_ => ?_)
  replace hG := hG.new hsz o (t := 63) (by decide +kernel) rfl e_
  rw [hsz]
  replace hO := hO.kept (o _ (by omega))
  replace hS := hS_
  replace hsz : H89.size = q + 1 + 45 := by omega
  clear hS_ hz o e_
  refine W.widen (k := 45) (n := 21936) (by omega) (by omega) ?_
  refine k_putF (ci := 11) (C := RX11) (T := TX11) (ty := .array .int) S hin2 hK hS (Or.inl rfl) rfl hin tyX11 tyX11_ok nmX11 hO 62 (by decide) ⟨rfl, rfl, rfl, rfl⟩ rfl (hts (.fieldLink RX11 143 "ReplicaFilesModel" "candidateValue" "[I") (mBc 49 rfl)) (by decide) rfl rfl dX11_init_381 (fun H90 locs hO_ hz o hS_ => ?_)
  replace hO := hO_.to (mV.up (by decide +kernel) (by decide +kernel))
  replace hG := hG.put o
  replace hS := hS_
  replace hsz : H90.size = q + 1 + 45 := by omega
  clear hO_ hS_ hz o
  refine lv_aload_n hx hb dX11_init_384 rfl (lv_at hl 0 rfl) ?_
  refine lv_bipush (v := (24 : Int32)) hx hb dX11_init_385 (by decide) ?_
  refine k_newI (n := 24) S hK hS (hts (.arrayClass .int) (mBc 8 rfl)) rfl (by omega) (by simp only [componentBytes]; omega) (by show 46 ≤ 48; omega) (by show 21960 ≤ 22176; omega) dX11_init_387 (fun H91 e_ hz o hS_ => ?_)
  replace hG := hG.new hsz o (t := 64) (by decide +kernel) rfl e_
  rw [hsz]
  replace hO := hO.kept (o _ (by omega))
  replace hS := hS_
  replace hsz : H91.size = q + 1 + 46 := by omega
  clear hS_ hz o e_
  refine W.widen (k := 46) (n := 21960) (by omega) (by omega) ?_
  refine k_putF (ci := 11) (C := RX11) (T := TX11) (ty := .array .int) S hin2 hK hS (Or.inl rfl) rfl hin tyX11 tyX11_ok nmX11 hO 63 (by decide) ⟨rfl, rfl, rfl, rfl⟩ rfl (hts (.fieldLink RX11 146 "ReplicaFilesModel" "candidateSize" "[I") (mBc 50 rfl)) (by decide) rfl rfl dX11_init_389 (fun H92 locs hO_ hz o hS_ => ?_)
  replace hO := hO_.to (mV.up (by decide +kernel) (by decide +kernel))
  replace hG := hG.put o
  replace hS := hS_
  replace hsz : H92.size = q + 1 + 46 := by omega
  clear hO_ hS_ hz o
  refine lv_aload_n hx hb dX11_init_392 rfl (lv_at hl 0 rfl) ?_
  refine lv_sipush (v := (192 : Int32)) hx hb dX11_init_393 (by decide) ?_
  refine k_newI (n := 192) S hK hS (hts (.arrayClass .int) (mBc 8 rfl)) rfl (by omega) (by simp only [componentBytes]; omega) (by show 47 ≤ 48; omega) (by show 22152 ≤ 22176; omega) dX11_init_396 (fun H93 e_ hz o hS_ => ?_)
  replace hG := hG.new hsz o (t := 65) (by decide +kernel) rfl e_
  rw [hsz]
  replace hO := hO.kept (o _ (by omega))
  replace hS := hS_
  replace hsz : H93.size = q + 1 + 47 := by omega
  clear hS_ hz o e_
  refine W.widen (k := 47) (n := 22152) (by omega) (by omega) ?_
  refine k_putF (ci := 11) (C := RX11) (T := TX11) (ty := .array .int) S hin2 hK hS (Or.inl rfl) rfl hin tyX11 tyX11_ok nmX11 hO 64 (by decide) ⟨rfl, rfl, rfl, rfl⟩ rfl (hts (.fieldLink RX11 149 "ReplicaFilesModel" "candidateVector" "[I") (mBc 51 rfl)) (by decide) rfl rfl dX11_init_398 (fun H94 locs hO_ hz o hS_ => ?_)
  replace hO := hO_.to (mV.up (by decide +kernel) (by decide +kernel))
  replace hG := hG.put o
  replace hS := hS_
  replace hsz : H94.size = q + 1 + 47 := by omega
  clear hO_ hS_ hz o
  refine lv_aload_n hx hb dX11_init_401 rfl (lv_at hl 0 rfl) ?_
  refine lv_bipush (v := (24 : Int32)) hx hb dX11_init_402 (by decide) ?_
  refine k_newZ (n := 24) S hK hS (hts (.arrayClass .boolean) (mBc 3 rfl)) rfl (by omega) (by simp only [componentBytes]; omega) (by show 48 ≤ 48; omega) (by show 22176 ≤ 22176; omega) dX11_init_404 (fun H95 e_ hz o hS_ => ?_)
  replace hG := hG.new hsz o (t := 66) (by decide +kernel) rfl e_
  rw [hsz]
  replace hO := hO.kept (o _ (by omega))
  replace hS := hS_
  replace hsz : H95.size = q + 1 + 48 := by omega
  clear hS_ hz o e_
  refine W.widen (k := 48) (n := 22176) (by omega) (by omega) ?_
  refine k_putF (ci := 11) (C := RX11) (T := TX11) (ty := .array .boolean) S hin2 hK hS (Or.inl rfl) rfl hin tyX11 tyX11_ok nmX11 hO 65 (by decide) ⟨rfl, rfl, rfl, rfl⟩ rfl (hts (.fieldLink RX11 152 "ReplicaFilesModel" "beaten" "[Z") (mBc 52 rfl)) (by decide) rfl rfl dX11_init_406 (fun H96 locs hO_ hz o hS_ => ?_)
  replace hO := hO_.to (mV.up (by decide +kernel) (by decide +kernel))
  replace hG := hG.put o
  replace hS := hS_
  replace hsz : H96.size = q + 1 + 48 := by omega
  clear hO_ hS_ hz o
  have Z : gZ D mLay dA mLive (mAd q) (kReg q (q + 1)) s.heap gM0 H96 locs := by
    refine ⟨fun i hi => ?_, hS⟩
    by_cases h0 : i.1 = 0
    · obtain ⟨a, b⟩ := i
      dsimp only at h0
      subst h0
      obtain rfl : b = (0, 0) := hi.2
      exact hO.to (fun k hk => mV.end q k hk)
    · exact hG i hi.1 hi.2 (mOrd_pos i.1 hi.1 h0).1 (mOrd_pos i.1 hi.1 h0).2
  refine lv_aload_n hx hb dX11_init_409 rfl (lv_at hl 0 rfl) ?_
  refine lv_iload_n hx hb dX11_init_410 rfl (lv_at hl 1 rfl) ?_
  refine lv_iconst (v := (1 : Int32)) hx hb dX11_init_411 (by decide) ?_
  refine lv_icmp_ge (tgt := 419) hx hb dX11_init_412 (show ((412 : Nat) : Int) + 7 = ((419 : Nat) : Int) by decide) (fun c1 => ?_) (fun c1 => ?_)
  · have n1 : ¬ a1 < (1 : Int32) := fun h => absurd c1 (Int32.not_le.mpr h)
    rw [if_neg n1] at ha1
    refine lv_iload_n hx hb dX11_init_419 rfl (lv_at hl 1 rfl) ?_
    refine lv_iconst (v := (4 : Int32)) hx hb dX11_init_420 (by decide) ?_
    refine lv_icmp_le (tgt := 428) hx hb dX11_init_421 (by decide) (fun c2 => ?_) (fun c2 => ?_)
    · rw [if_neg (Int32.not_lt.mpr c2)] at ha1
      refine lv_iload_n hx hb dX11_init_428 rfl (lv_at hl 1 rfl) ?_
      rw [ha1]
      exact nums _ _ _ hsz Z hl
    · rw [if_pos (Int32.not_le.mp c2)] at ha1
      refine lv_iconst (v := (4 : Int32)) hx hb dX11_init_424 (by decide) ?_
      refine lv_goto (tgt := 429) hx hb dX11_init_425 (by decide) ?_
      rw [ha1]
      exact nums _ _ _ hsz Z hl
  · rw [if_pos (Int32.not_le.mp c1)] at ha1
    refine lv_iconst (v := (1 : Int32)) hx hb dX11_init_415 (by decide) ?_
    refine lv_goto (tgt := 429) hx hb dX11_init_416 (show ((416 : Nat) : Int) + 13 = ((429 : Nat) : Int) by decide) ?_
    rw [ha1]
    exact nums _ _ _ hsz Z hl
