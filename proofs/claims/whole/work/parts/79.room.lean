/-! layer 2: room in a cache: who may go, who goes first -/
theorem adI {a : Int32} {n : Nat} (h1 : -100000 ≤ a.toInt) (h2 : a.toInt ≤ 100000) (hn : n ≤ 100000) : (a + nI n).toInt = a.toInt + n := by
  rw [Int32.toInt_add, nI_toInt (by omega)]
  exact Int.bmod_eq_of_le (by omega) (by omega)
theorem sbI {a : Int32} {n : Nat} (h1 : -100000 ≤ a.toInt) (h2 : a.toInt ≤ 100000) (hn : n ≤ 100000) : (a - nI n).toInt = a.toInt - n := by
  rw [Int32.toInt_sub, nI_toInt (by omega)]
  exact Int.bmod_eq_of_le (by omega) (by omega)
theorem i24 : (24 : Int32).toInt = 24 := by decide
theorem i0 : (0 : Int32).toInt = 0 := by decide
section RM
variable {N g c o : Nat} {M Mc Mr : gM} {be bu : Int32}
def cMay (M : gM) (c : Nat) (be : Int32) (o : Nat) : Bool := nz (M (51, 4 + c, 0) o) && (!nz (M (33, c, 0) o) && (!decide (M (30, c, 0) 10 < M (34, c, 0) o) && !decide (be ≤ M (31, c, 0) o)))
def rMay (M : gM) (c : Nat) (bu be : Int32) (o : Nat) : Bool := nz (M m_kept (48 * c + o)) && (!nz (M m_dirty (48 * c + o)) && (!decide (M m_usedBy (48 * c + o) = M m_o 33) && (!decide (nI o = bu) && !decide (be ≤ M m_priorities (48 * c + o)))))
theorem c_mayGo (ho : o < 48) : f_X1_mayGo N M c (nI o) be = some (zb (cMay M c be o)) := by
  unfold f_X1_mayGo cMay nz
  rw [rd_n ho (by omega), rd_n ho (by omega), rd_n ho (by omega), rd_n ho (by omega), lt_d]
  by_cases h1 : M (51, 4 + c, 0) o = 0
  · simp [h1, zb]
  · by_cases h2 : M (33, c, 0) o = 0
    · by_cases h3 : M (30, c, 0) 10 < M (34, c, 0) o
      · simp [h1, h2, h3, zb]
      · by_cases h4 : be ≤ M (31, c, 0) o <;> simp [h1, h2, h3, h4, zb]
    · simp [h1, h2, zb]
theorem r_mayGo (hc : c < 4) (ho : o < 48) : f_X11_mayGo M (nI c) (nI o) bu be = some (zb (rMay M c bu be o)) := by
  unfold f_X11_mayGo rMay nz
  simp only [nI_m48, nI_add, lt_d]
  rw [rd_n (by omega) (by omega), rd_n (by omega) (by omega), rd_n (by omega) (by omega), rd_n (by omega) (by omega)]
  by_cases h1 : M m_kept (48 * c + o) = 0
  · simp [h1, zb]
  · by_cases h2 : M m_dirty (48 * c + o) = 0
    · by_cases h3 : M m_usedBy (48 * c + o) = M m_o 33
      · simp [h1, h2, h3, zb]
      · by_cases h5 : nI o = bu
        · simp [h1, h2, h3, h5, zb]
        · by_cases h4 : be ≤ M m_priorities (48 * c + o) <;> simp [h1, h2, h3, h4, h5, zb]
    · simp [h1, h2, zb]
/-- both say the same of who may go -/
theorem may_eq (hc : c < 4) (ho : o < 48) (R : Rel N g Mc Mr) (I : iKl N g c o Mc) {x : Nat} (U : uNow c x Mc Mr) (hx : o = x → nI o = bu) (hb : nI o = bu → cMay Mc c be o = false) : rMay Mr c bu be o = cMay Mc c be o := by
  obtain ⟨f1, -, -, -, -, f6, -, f8⟩ := R.kl hc ho
  by_cases e : nI o = bu
  · rw [hb e]
    unfold rMay
    rw [decide_eq_true e]
    simp
  · unfold rMay cMay
    rw [decide_eq_false e, ← f1, ← f6, ← f8]
    rcases I.1 with h | h
    · rw [h]; rfl
    · have u := U.2 o ho (fun y => e (hx y)) h
      have d : decide (Mr m_usedBy (48 * c + o) = Mr m_o 33) = decide (Mc (30, c, 0) 10 < Mc (34, c, 0) o) := by
        rw [Bool.eq_iff_iff, decide_eq_true_iff, decide_eq_true_iff]
        constructor
        · intro x
          by_cases y : Mc (30, c, 0) 10 < Mc (34, c, 0) o
          · exact y
          · exact absurd x (u.mp (Int32.not_lt.mp y))
        · intro x
          exact Classical.byContradiction fun y => absurd (u.mpr y) (Int32.not_le.mpr x)
      rw [d]
      simp
def cBef (M : gM) (c a b : Nat) : Bool := if M (31, c, 0) a = M (31, c, 0) b then !decide (M (34, c, 0) b ≤ M (34, c, 0) a) else !decide (M (31, c, 0) b ≤ M (31, c, 0) a)
def rBef (M : gM) (c a b : Nat) : Bool := if M m_priorities (48 * c + a) = M m_priorities (48 * c + b) then !decide (M m_usedAt (48 * c + b) ≤ M m_usedAt (48 * c + a)) else !decide (M m_priorities (48 * c + b) ≤ M m_priorities (48 * c + a))
theorem c_goesBefore {a b : Nat} (ha : a < 48) (hb : b < 48) : f_X1_goesBefore N M c (nI a) (nI b) = some (zb (cBef M c a b)) := by
  unfold f_X1_goesBefore cBef
  rw [rd_n ha (by omega), rd_n hb (by omega), rd_n ha (by omega), rd_n hb (by omega), rd_n ha (by omega), rd_n hb (by omega)]
  by_cases e : M (31, c, 0) a = M (31, c, 0) b
  · rw [if_pos e, if_pos e]
    by_cases h : M (34, c, 0) b ≤ M (34, c, 0) a <;> simp [h, zb]
  · rw [if_neg e, if_neg e]
    by_cases h : M (31, c, 0) b ≤ M (31, c, 0) a <;> simp [h, zb]
theorem r_goesBefore {a b : Nat} (hc : c < 4) (ha : a < 48) (hb : b < 48) : f_X11_goesBefore M (nI (48 * c + a)) (nI (48 * c + b)) = some (zb (rBef M c a b)) := by
  unfold f_X11_goesBefore rBef
  rw [rd_n (by omega) (by omega), rd_n (by omega) (by omega), rd_n (by omega) (by omega), rd_n (by omega) (by omega), rd_n (by omega) (by omega), rd_n (by omega) (by omega)]
  by_cases e : M m_priorities (48 * c + a) = M m_priorities (48 * c + b)
  · rw [if_pos e, if_pos e]
    by_cases h : M m_usedAt (48 * c + b) ≤ M m_usedAt (48 * c + a) <;> simp [h, zb]
  · rw [if_neg e, if_neg e]
    by_cases h : M m_priorities (48 * c + b) ≤ M m_priorities (48 * c + a) <;> simp [h, zb]
theorem bef_eq {a b : Nat} (hc : c < 4) (ha : a < 48) (hb : b < 48) (R : Rel N g Mc Mr) {x : Nat} (U : uOrd c x Mc Mr) (n1 : a ≠ x) (n2 : b ≠ x) (h1 : Mc (51, 4 + c, 0) a = 1) (h2 : Mc (51, 4 + c, 0) b = 1) : rBef Mr c a b = cBef Mc c a b := by
  obtain ⟨-, -, -, -, -, p1, -⟩ := R.kl hc ha
  obtain ⟨-, -, -, -, -, p2, -⟩ := R.kl hc hb
  have u := U a b ha hb n1 n2 h1 h2
  unfold rBef cBef
  rw [← p1, ← p2]
  have d : decide (Mr m_usedAt (48 * c + b) ≤ Mr m_usedAt (48 * c + a)) = decide (Mc (34, c, 0) b ≤ Mc (34, c, 0) a) := by
    rw [Bool.eq_iff_iff, decide_eq_true_iff, decide_eq_true_iff, ← Int32.not_lt, ← Int32.not_lt, u]
  rw [d]
def bb (bef : Nat → Nat → Bool) (k : Nat) : Option Nat → Bool
  | none => true
  | some b => bef k b
/-- the first to go among those below k + m, from k on; a is the best so far -/
def bst (may : Nat → Bool) (bef : Nat → Nat → Bool) : Nat → Nat → Option Nat → Option Nat
  | _, 0, a => a
  | k, m + 1, a => bst may bef (k + 1) m (if may k && bb bef k a then some k else a)
def enc : Option Nat → Int32
  | none => -1
  | some b => nI b
theorem bst_ok {may : Nat → Bool} {bef : Nat → Nat → Bool} {P : Nat → Prop} : ∀ (m k : Nat) (a : Option Nat), (∀ j, k ≤ j → j < k + m → may j = true → P j) → (∀ b, a = some b → P b) → ∀ b, bst may bef k m a = some b → P b := by
  intro m
  induction m with
  | zero => intro k a _ ha b h; exact ha b h
  | succ m ih =>
    intro k a hm ha b h
    refine ih (k + 1) _ (fun j h1 h2 => hm j (by omega) (by omega)) ?_ b h
    intro b' hb'
    by_cases e : (may k && bb bef k a) = true
    · rw [if_pos e] at hb'
      cases hb'
      rw [Bool.and_eq_true] at e
      exact hm k (by omega) (by omega) e.1
    · rw [if_neg e] at hb'
      exact ha b' hb'
theorem bst_none {may : Nat → Bool} {bef : Nat → Nat → Bool} : ∀ (m k : Nat) (a : Option Nat), bst may bef k m a = none → a = none ∧ ∀ j, k ≤ j → j < k + m → may j = false := by
  intro m
  induction m with
  | zero => intro k a h; exact ⟨h, fun j h1 h2 => by omega⟩
  | succ m ih =>
    intro k a h
    obtain ⟨h1, h2⟩ := ih (k + 1) _ h
    by_cases e : (may k && bb bef k a) = true
    · rw [if_pos e] at h1; cases h1
    · rw [if_neg e] at h1
      subst h1
      refine ⟨rfl, fun j a b => ?_⟩
      by_cases ej : j = k
      · subst ej
        cases hm : may j
        · rfl
        · simp [hm, bb] at e
      · exact h2 j (by omega) (by omega)
theorem bst_congr {may may' : Nat → Bool} {bef bef' : Nat → Nat → Bool} : ∀ (m k : Nat) (a : Option Nat), (∀ j, k ≤ j → j < k + m → may j = may' j) → (∀ b, a = some b → ∀ j, k ≤ j → j < k + m → may j = true → bef j b = bef' j b) → (∀ i j, k ≤ i → i < k + m → k ≤ j → j < k + m → may i = true → may j = true → bef j i = bef' j i) → bst may bef k m a = bst may' bef' k m a := by
  intro m
  induction m with
  | zero => intro k a _ _ _; rfl
  | succ m ih =>
    intro k a h1 h2 h3
    show bst may bef (k + 1) m _ = bst may' bef' (k + 1) m _
    have e : (if may k && bb bef k a then some k else a) = (if may' k && bb bef' k a then some k else a) := by
      rw [← h1 k (by omega) (by omega)]
      cases hm : may k
      · rfl
      · cases a with
        | none => rfl
        | some b =>
          show (if (true && bef k b) = true then some k else some b) = (if (true && bef' k b) = true then some k else some b)
          rw [h2 b rfl k (by omega) (by omega) hm]
    rw [← e]
    refine ih (k + 1) _ (fun j a b => h1 j (by omega) (by omega)) (fun b hb j x1 x2 hm => ?_) (fun i j x1 x2 x3 x4 => h3 i j (by omega) (by omega) (by omega) (by omega))
    by_cases q : (may k && bb bef k a) = true
    · rw [if_pos q] at hb
      cases hb
      rw [Bool.and_eq_true] at q
      exact h3 k j (by omega) (by omega) (by omega) (by omega) q.1 hm
    · rw [if_neg q] at hb
      exact h2 b hb j (by omega) (by omega) hm
theorem bst_cut {may : Nat → Bool} {bef : Nat → Nat → Bool} : ∀ (m k n : Nat) (a : Option Nat), (∀ j, k + m ≤ j → j < k + m + n → may j = false) → bst may bef k (m + n) a = bst may bef k m a := by
  intro m
  induction m with
  | zero =>
    intro k n
    induction n generalizing k with
    | zero => intro a _; rfl
    | succ n ih =>
      intro a h
      rw [Nat.zero_add]
      show bst may bef (k + 1) n _ = a
      rw [h k (by omega) (by omega)]
      have := ih (k + 1) a (fun j h1 h2 => h j (by omega) (by omega))
      rw [Nat.zero_add] at this
      exact this
  | succ m ih =>
    intro k n a h
    rw [show m + 1 + n = (m + n) + 1 by omega]
    show bst may bef (k + 1) (m + n) _ = bst may bef (k + 1) m _
    exact ih (k + 1) n _ (fun j h1 h2 => h j (by omega) (by omega))
theorem c_nextToGo (h1 : M (1, 0, 0) 3 = nI g) (hg : g ≤ 47) : f_X1_nextToGo N M c be = some (enc (bst (cMay M c be) (cBef M c) 0 (g + 1) none)) := by
  have H : ∀ m k fu a, k + m = g + 1 → m < fu → (∀ b, a = some b → b < 48) → f_X1_nextToGo_L4 N M c be fu (enc a) (nI k) = some (enc (bst (cMay M c be) (cBef M c) k m a)) := by
    intro m
    induction m with
    | zero =>
      intro k fu a hk hf ha
      obtain ⟨fu, rfl⟩ : ∃ q, fu = q + 1 := ⟨fu - 1, by omega⟩
      simp only [f_X1_nextToGo_L4, lt_d, h1]
      rw [if_pos (nI_lt (by omega) (by omega))]
      rfl
    | succ m ih =>
      intro k fu a hk hf ha
      obtain ⟨fu, rfl⟩ : ∃ q, fu = q + 1 := ⟨fu - 1, by omega⟩
      simp only [f_X1_nextToGo_L4, lt_d, h1, jn_d]
      rw [if_neg (nI_nlt (by omega) (by omega)), c_mayGo (by omega), o1_s]
      show _ = some (enc (bst (cMay M c be) (cBef M c) (k + 1) m _))
      cases hm : cMay M c be k with
      | false => rw [zb_f, if_pos rfl, nI_1, ih (k + 1) fu a (by omega) (by omega) ha]; rfl
      | true =>
        rw [zb_t, if_neg (by decide)]
        cases a with
        | none =>
          rw [if_pos (show enc none = -1 from rfl), nI_1, show nI k = enc (some k) from rfl, ih (k + 1) fu (some k) (by omega) (by omega) (fun b h => by cases h; omega)]
          rfl
        | some b =>
          have hb := ha b rfl
          rw [if_neg (by show ¬ nI b = -1; rw [nI_m1 (by omega)]; exact fun h => h), show enc (some b) = nI b from rfl, c_goesBefore (by omega) hb, o1_s]
          cases hbf : cBef M c k b with
          | false =>
            rw [zb_f, if_pos rfl, nI_1, show nI b = enc (some b) from rfl, ih (k + 1) fu (some b) (by omega) (by omega) ha]
            simp [bb, hbf]
          | true =>
            rw [zb_t, if_neg (by decide), nI_1, show nI k = enc (some k) from rfl, ih (k + 1) fu (some k) (by omega) (by omega) (fun b h => by cases h; omega)]
            simp [bb, hbf]
  exact H (g + 1) 0 100 none (by omega) (by omega) (fun b h => by cases h)
theorem r_best {x5 : Int32} {J : Int32 × gM → Option (Int32 × gM)} (hc : c < 4) : f_X11_makeRoom_L88 (nI c) bu be x5 J 100 (-1 : Int32) (0 : Int32) M = J (enc (bst (rMay M c bu be) (rBef M c) 0 48 none), M) := by
  have H : ∀ m k fu a, k + m = 48 → m < fu → (∀ b, a = some b → b < 48) → f_X11_makeRoom_L88 (nI c) bu be x5 J fu (enc a) (nI k) M = J (enc (bst (rMay M c bu be) (rBef M c) k m a), M) := by
    intro m
    induction m with
    | zero =>
      intro k fu a hk hf ha
      obtain ⟨fu, rfl⟩ : ∃ q, fu = q + 1 := ⟨fu - 1, by omega⟩
      simp only [f_X11_makeRoom_L88]
      rw [if_pos (lf_48 (by omega))]
      rfl
    | succ m ih =>
      intro k fu a hk hf ha
      obtain ⟨fu, rfl⟩ : ∃ q, fu = q + 1 := ⟨fu - 1, by omega⟩
      simp only [f_X11_makeRoom_L88, lt_d, jn_d, nI_m48, nI_add]
      rw [if_neg (ge_48 (by omega)), r_mayGo hc (by omega), o1_s]
      show _ = J (enc (bst (rMay M c bu be) (rBef M c) (k + 1) m _), M)
      cases hm : rMay M c bu be k with
      | false => rw [zb_f, if_pos rfl, nI_1, ih (k + 1) fu a (by omega) (by omega) ha]; rfl
      | true =>
        rw [zb_t, if_neg (by decide)]
        cases a with
        | none =>
          rw [if_pos (show enc none = -1 from rfl), nI_1, show nI k = enc (some k) from rfl, ih (k + 1) fu (some k) (by omega) (by omega) (fun b h => by cases h; omega)]
          rfl
        | some b =>
          have hb := ha b rfl
          rw [if_neg (by show ¬ nI b = -1; rw [nI_m1 (by omega)]; exact fun h => h), show enc (some b) = nI b from rfl, nI_add, r_goesBefore hc (by omega) hb, o1_s]
          cases hbf : rBef M c k b with
          | false =>
            rw [zb_f, if_pos rfl, nI_1, show nI b = enc (some b) from rfl, ih (k + 1) fu (some b) (by omega) (by omega) ha]
            simp [bb, hbf]
          | true =>
            rw [zb_t, if_neg (by decide), nI_1, show nI k = enc (some k) from rfl, ih (k + 1) fu (some k) (by omega) (by omega) (fun b h => by cases h; omega)]
            simp [bb, hbf]
  exact H 48 0 100 none (by omega) (by omega) (fun b h => by cases h)
theorem wsum_mono {f : Nat → Nat} : ∀ n m, n ≤ m → wsum f n ≤ wsum f m := by
  intro n m
  induction m with
  | zero => intro h; rw [show n = 0 by omega]; exact Nat.le_refl _
  | succ m ih =>
    intro h
    by_cases e : n = m + 1
    · subst e; exact Nat.le_refl _
    · exact Nat.le_trans (ih (by omega)) (Nat.le_add_right _ _)
theorem wsum_cut {f : Nat → Nat} : ∀ n m, n ≤ m → (∀ k, n ≤ k → k < m → f k = 0) → wsum f m = wsum f n := by
  intro n m
  induction m with
  | zero => intro h _; rw [show n = 0 by omega]
  | succ m ih =>
    intro h hz
    by_cases e : n = m + 1
    · subst e; rfl
    · show wsum f m + f m = _
      rw [ih (by omega) (fun k a b => hz k a (by omega)), hz m (by omega) (by omega), Nat.add_zero]
theorem r_sum {W : Nat → Nat} {mo : Int32} {J : Int32 × Int32 × gM → Option (Int32 × gM)} (hc : c < 4) (hw : ∀ o, o < 48 → f_X11_weightKept M (nI c) (nI o) = some (nI (W o))) : f_X11_makeRoom_L9 (nI c) bu be J 100 mo (0 : Int32) (0 : Int32) M = J (mo + nI (wsum W 48), nI (wsum (fun o => if rMay M c bu be o then W o else 0) 48), M) := by
  have H : ∀ m k fu, k + m = 48 → m < fu → f_X11_makeRoom_L9 (nI c) bu be J fu (mo + nI (wsum W k)) (nI (wsum (fun o => if rMay M c bu be o then W o else 0) k)) (nI k) M = J (mo + nI (wsum W 48), nI (wsum (fun o => if rMay M c bu be o then W o else 0) 48), M) := by
    intro m
    induction m with
    | zero =>
      intro k fu hk hf
      obtain ⟨fu, rfl⟩ : ∃ q, fu = q + 1 := ⟨fu - 1, by omega⟩
      simp only [f_X11_makeRoom_L9]
      rw [if_pos (lf_48 (by omega)), show k = 48 by omega]
    | succ m ih =>
      intro k fu hk hf
      obtain ⟨fu, rfl⟩ : ∃ q, fu = q + 1 := ⟨fu - 1, by omega⟩
      simp only [f_X11_makeRoom_L9, lt_d, jn_d]
      rw [if_neg (ge_48 (by omega)), hw k (by omega), o1_s, r_mayGo hc (by omega), o1_s, Int32.add_assoc, nI_add]
      have ih := ih (k + 1) fu (by omega) (by omega)
      cases hm : rMay M c bu be k with
      | false =>
        rw [zb_f, if_pos rfl, nI_1]
        have e : wsum (fun o => if rMay M c bu be o then W o else 0) (k + 1) = wsum (fun o => if rMay M c bu be o then W o else 0) k := by
          show _ + (if rMay M c bu be k then W k else 0) = _
          rw [hm]; rfl
        rw [e] at ih
        rw [Int32.add_zero]
        exact ih
      | true =>
        rw [zb_t, if_neg (by decide), o1_s, nI_1, nI_add]
        have e : wsum (fun o => if rMay M c bu be o then W o else 0) (k + 1) = wsum (fun o => if rMay M c bu be o then W o else 0) k + W k := by
          show _ + (if rMay M c bu be k then W k else 0) = _
          rw [hm]; rfl
        rw [e] at ih
        exact ih
  have h := H 48 0 100 (by omega) (by omega)
  rw [show mo + nI (wsum W 0) = mo from Int32.add_zero mo] at h
  exact h
theorem c_sum {W : Nat → Nat} {mo : Int32} {J : Int32 × Int32 × gM → Option (Int32 × gM)} (h1 : M (1, 0, 0) 3 = nI g) (hg : g ≤ 47) (hw : ∀ o, o < 48 → f_X1_weightOf N M c (nI o) = some (nI (W o))) (hs : wsum W (g + 1) ≤ 24) : f_X1_makeRoom_L16 N c mo be J 100 (24 : Int32) (24 : Int32) (0 : Int32) M = J (nI (24 - wsum W (g + 1)), nI (24 - wsum (fun o => if cMay M c be o then 0 else W o) (g + 1)), M) := by
  have hle : ∀ k, wsum (fun o => if cMay M c be o then 0 else W o) k ≤ wsum W k := fun k => wsum_le k (fun j _ => by
    cases cMay M c be j <;> simp)
  have H : ∀ m k fu, k + m = g + 1 → m < fu → f_X1_makeRoom_L16 N c mo be J fu (nI (24 - wsum W k)) (nI (24 - wsum (fun o => if cMay M c be o then 0 else W o) k)) (nI k) M = J (nI (24 - wsum W (g + 1)), nI (24 - wsum (fun o => if cMay M c be o then 0 else W o) (g + 1)), M) := by
    intro m
    induction m with
    | zero =>
      intro k fu hk hf
      obtain ⟨fu, rfl⟩ : ∃ q, fu = q + 1 := ⟨fu - 1, by omega⟩
      simp only [f_X1_makeRoom_L16, lt_d, h1]
      rw [if_pos (nI_lt (by omega) (by omega)), show k = g + 1 by omega]
    | succ m ih =>
      intro k fu hk hf
      obtain ⟨fu, rfl⟩ : ∃ q, fu = q + 1 := ⟨fu - 1, by omega⟩
      have hk1 : wsum W (k + 1) = wsum W k + W k := rfl
      have hk2 := wsum_mono (f := W) (k + 1) (g + 1) (by omega)
      have hk3 := hle k
      simp only [f_X1_makeRoom_L16, lt_d, jn_d, h1]
      rw [if_neg (nI_nlt (by omega) (by omega)), hw k (by omega), o1_s, c_mayGo (by omega), o1_s, pk_sub (by omega), show 24 - wsum W k - W k = 24 - wsum W (k + 1) by omega]
      have ih := ih (k + 1) fu (by omega) (by omega)
      cases hm : cMay M c be k with
      | true =>
        rw [zb_t, if_neg (by decide), nI_1]
        have e : wsum (fun o => if cMay M c be o then 0 else W o) (k + 1) = wsum (fun o => if cMay M c be o then 0 else W o) k := by
          show _ + (if cMay M c be k then 0 else W k) = _
          rw [hm]; rfl
        rw [e] at ih
        rw [Int32.sub_zero]
        exact ih
      | false =>
        rw [zb_f, if_pos rfl, o1_s, nI_1]
        have e : wsum (fun o => if cMay M c be o then 0 else W o) (k + 1) = wsum (fun o => if cMay M c be o then 0 else W o) k + W k := by
          show _ + (if cMay M c be k then 0 else W k) = _
          rw [hm]; rfl
        rw [e] at ih
        rw [pk_sub (by omega), show 24 - wsum (fun o => if cMay M c be o then 0 else W o) k - W k = 24 - (wsum (fun o => if cMay M c be o then 0 else W o) k + W k) by omega]
        exact ih
  exact H (g + 1) 0 100 (by omega) (by omega)
/-- the weights -/
theorem c_weightOf (ho : o < 48) (hz : ∃ z, z ≤ 6 ∧ M (53, 4 + c, 0) o = nI z) : f_X1_weightOf N M c (nI o) = some (nI (wt M c o)) := by
  obtain ⟨z, z1, z2⟩ := hz
  unfold f_X1_weightOf f_X1_fullWeight wt
  rw [rd_n ho (by omega)]
  by_cases h1 : M (51, 4 + c, 0) o = 0
  · rw [if_pos h1, if_pos h1]; rfl
  · rw [if_neg h1, if_neg h1, rd_n ho (by omega), rd_n ho (by omega), z2]
    by_cases h2 : M (4, 0, 0) o = 0
    · rw [if_pos h2, if_pos h2, o1_s, nI_clamp (by omega), ← nI_add]; rfl
    · rw [if_neg h2, if_neg h2]; rfl
theorem r_weightKept (hc : c < 4) (ho : o < 48) (R : Rel N g Mc Mr) (hz : ∃ z, z ≤ 6 ∧ Mc (53, 4 + c, 0) o = nI z) : f_X11_weightKept Mr (nI c) (nI o) = some (nI (wt Mc c o)) := by
  obtain ⟨z, z1, z2⟩ := hz
  obtain ⟨f1, -, f3, -⟩ := R.kl hc ho
  have f4 := (R.ct.2.2 o ho).2.2
  unfold f_X11_weightKept f_X11_weight wt
  simp only [nI_m48, nI_add]
  rw [rd_n (by omega) (by omega), f1]
  by_cases h1 : Mr m_kept (48 * c + o) = 0
  · rw [if_pos h1, if_pos h1]; rfl
  · rw [if_neg h1, if_neg h1, rd_n (by omega) (by omega), rd_n ho (by omega), f4]
    by_cases h2 : Mr m_isDirectory o = 0
    · rw [if_neg (fun x => x.elim h1 (fun y => y h2))] at f3
      rw [if_pos h2, if_pos h2, o1_s, ← f3, z2, nI_clamp (by omega), ← nI_add]; rfl
    · rw [if_neg h2, if_neg h2]; rfl
end RM
