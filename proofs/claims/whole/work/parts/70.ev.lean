/-! layer 2: the functions on stores, evaluated; numbers, bits, sets, rows -/
theorem lt_d {α β : Type} (x : α) (k : α → β) : lt x k = k x := rfl
theorem o1_s {α β : Type} (q : α) (k : α → Option β) : o1 (some q) k = k q := rfl
theorem ob_s {α β : Type} (r : α) (M : gM) (k : α → gM → Option β) : ob (some (r, M)) k = k r M := rfl
theorem jn_d {α β : Type} (J : α → Option β) (k : (α → Option β) → Option β) : jn J k = k J := rfl
theorem gz_0 {β : Type} (k : Option β) : gz (0 : Int32) k = k := rfl
theorem gz_1 {β : Type} (k : Option β) : gz (1 : Int32) k = k := rfl
theorem gin_t {k n : Nat} (h : k < n) (hn : n ≤ 16384) : gin (nI k) n = true := by
  unfold gin
  rw [decide_eq_true_iff]
  exact nI_in h (by omega)
theorem rd_n {β : Type} {M : gM} {i : gI} {n k : Nat} {K : Int32 → Option β} (h : k < n) (hn : n ≤ 16384) : rd M i n (nI k) K = K (M i k) := by
  unfold rd
  rw [gin_t h hn]
  show K (M i (nI k).toNatClampNeg) = _
  rw [nI_clamp (by omega)]
theorem wr_n {β : Type} {M : gM} {i : gI} {n k : Nat} {v : Int32} {K : gM → Option β} (h : k < n) (hn : n ≤ 16384) : wr M i n (nI k) v K = K (gset M i k v) := by
  unfold wr
  rw [gin_t h hn]
  show K (gset M i (nI k).toNatClampNeg v) = _
  rw [nI_clamp (by omega)]
theorem nar_01 {v : Int32} (h : v = 0 ∨ v = 1) : vp_nar .boolean v = v := by
  rcases h with rfl | rfl <;> decide
theorem wz_n {β : Type} {M : gM} {i : gI} {n k : Nat} {v : Int32} {K : gM → Option β} (h : k < n) (hn : n ≤ 16384) (hv : v = 0 ∨ v = 1) : wz M i n (nI k) v K = K (gset M i k v) := by
  unfold wz
  rw [gin_t h hn]
  show K (gset M i (nI k).toNatClampNeg (vp_nar .boolean v)) = _
  rw [nI_clamp (by omega), nar_01 hv]
theorem wz_0 {β : Type} {M : gM} {i : gI} {n k : Nat} {K : gM → Option β} (h : k < n) (hn : n ≤ 16384) : wz M i n (nI k) (0 : Int32) K = K (gset M i k 0) := wz_n h hn (Or.inl rfl)
theorem wz_1 {β : Type} {M : gM} {i : gI} {n k : Nat} {K : gM → Option β} (h : k < n) (hn : n ≤ 16384) : wz M i n (nI k) (1 : Int32) K = K (gset M i k 1) := wz_n h hn (Or.inr rfl)
theorem ix_n {β : Type} {n k : Nat} {K : Nat → Option β} (h : k < n) (hn : n ≤ 16384) : ix (nI k) n K = K k := by
  unfold ix
  rw [gin_t h hn]
  show K (nI k).toNatClampNeg = _
  rw [nI_clamp (by omega)]
theorem gset_r (M : gM) (i : gI) (k : Nat) (v : Int32) (j : gI) (q : Nat) : gset M i k v j q = if j = i ∧ q = k then v else M j q := rfl
theorem nI_mul (a b : Nat) : nI a * nI b = nI (a * b) := (Int32.ofNat_mul a b).symm
theorem nI_m48 (j : Nat) : (48 : Int32) * nI j = nI (48 * j) := nI_mul 48 j
theorem nI_m8 (j : Nat) : (8 : Int32) * nI j = nI (8 * j) := nI_mul 8 j
theorem nI_m6 (j : Nat) : (6 : Int32) * nI j = nI (6 * j) := nI_mul 6 j
theorem nI_m4 (j : Nat) : (4 : Int32) * nI j = nI (4 * j) := nI_mul 4 j
theorem nI_m12 (j : Nat) : (12 : Int32) * nI j = nI (12 * j) := nI_mul 12 j
theorem nI_a4 (j : Nat) : (4 : Int32) + nI j = nI (4 + j) := nI_add 4 j
theorem nI_s1 {a : Nat} (h : 1 ≤ a) : nI a - (1 : Int32) = nI (a - 1) := pk_sub h
theorem le48 {k : Nat} (h : k < 2 ^ 31) : ((48 : Int32) ≤ nI k) = (48 ≤ k) := propext (nI_leI (a := 48) (by decide) h)
theorem le24 {k : Nat} (h : k < 2 ^ 31) : ((24 : Int32) ≤ nI k) = (24 ≤ k) := propext (nI_leI (a := 24) (by decide) h)
theorem le12 {k : Nat} (h : k < 2 ^ 31) : ((12 : Int32) ≤ nI k) = (12 ≤ k) := propext (nI_leI (a := 12) (by decide) h)
theorem le8 {k : Nat} (h : k < 2 ^ 31) : ((8 : Int32) ≤ nI k) = (8 ≤ k) := propext (nI_leI (a := 8) (by decide) h)
theorem le6 {k : Nat} (h : k < 2 ^ 31) : ((6 : Int32) ≤ nI k) = (6 ≤ k) := propext (nI_leI (a := 6) (by decide) h)
theorem le4 {k : Nat} (h : k < 2 ^ 31) : ((4 : Int32) ≤ nI k) = (4 ≤ k) := propext (nI_leI (a := 4) (by decide) h)
theorem nle {a b : Nat} (ha : a < 2 ^ 31) (hb : b < 2 ^ 31) : (nI a ≤ nI b) = (a ≤ b) := propext (nI_leI ha hb)
theorem nlt {a b : Nat} (ha : a < 2 ^ 31) (hb : b < 2 ^ 31) : (nI a < nI b) = (a < b) := propext (nI_ltI ha hb)
theorem neq {a b : Nat} (ha : a < 2 ^ 31) (hb : b < 2 ^ 31) : (nI a = nI b) = (a = b) := propext (nI_eq ha hb)
theorem nI_m1 {a : Nat} (h : a < 2 ^ 31) : (nI a = (-1 : Int32)) = False := eq_false fun e => by
  have := congrArg Int32.toInt e
  rw [nI_toInt h, show (-1 : Int32).toInt = -1 by decide] at this
  omega
theorem nI_z {a : Nat} (h : a < 2 ^ 31) : (nI a = (0 : Int32)) = (a = 0) := propext (nI_eq (b := 0) h (by decide))
theorem ge_4 {k : Nat} (h : k < 4) : ¬ (4 : Int32) ≤ nI k := nI_ge (b := 4) h (by omega)
theorem lf_4 {k : Nat} (h : 4 ≤ k ∧ k < 1000000) : (4 : Int32) ≤ nI k := nI_le (a := 4) h.1 (by omega)
theorem lt_4 {k : Nat} (h : k < 4) : nI k < (4 : Int32) := nI_lt (b := 4) h (by omega)
theorem ge_6 {k : Nat} (h : k < 6) : ¬ (6 : Int32) ≤ nI k := nI_ge (b := 6) h (by omega)
theorem lf_6 {k : Nat} (h : 6 ≤ k ∧ k < 1000000) : (6 : Int32) ≤ nI k := nI_le (a := 6) h.1 (by omega)
theorem lt_6 {k : Nat} (h : k < 6) : nI k < (6 : Int32) := nI_lt (b := 6) h (by omega)
theorem ge_8 {k : Nat} (h : k < 8) : ¬ (8 : Int32) ≤ nI k := nI_ge (b := 8) h (by omega)
theorem lf_8 {k : Nat} (h : 8 ≤ k ∧ k < 1000000) : (8 : Int32) ≤ nI k := nI_le (a := 8) h.1 (by omega)
theorem lt_8 {k : Nat} (h : k < 8) : nI k < (8 : Int32) := nI_lt (b := 8) h (by omega)
theorem ge_12 {k : Nat} (h : k < 12) : ¬ (12 : Int32) ≤ nI k := nI_ge (b := 12) h (by omega)
theorem lf_12 {k : Nat} (h : 12 ≤ k ∧ k < 1000000) : (12 : Int32) ≤ nI k := nI_le (a := 12) h.1 (by omega)
theorem lt_12 {k : Nat} (h : k < 12) : nI k < (12 : Int32) := nI_lt (b := 12) h (by omega)
theorem ge_24 {k : Nat} (h : k < 24) : ¬ (24 : Int32) ≤ nI k := nI_ge (b := 24) h (by omega)
theorem lf_24 {k : Nat} (h : 24 ≤ k ∧ k < 1000000) : (24 : Int32) ≤ nI k := nI_le (a := 24) h.1 (by omega)
theorem lt_24 {k : Nat} (h : k < 24) : nI k < (24 : Int32) := nI_lt (b := 24) h (by omega)
theorem ge_48 {k : Nat} (h : k < 48) : ¬ (48 : Int32) ≤ nI k := nI_ge (b := 48) h (by omega)
theorem lf_48 {k : Nat} (h : 48 ≤ k ∧ k < 1000000) : (48 : Int32) ≤ nI k := nI_le (a := 48) h.1 (by omega)
theorem lt_48 {k : Nat} (h : k < 48) : nI k < (48 : Int32) := nI_lt (b := 48) h (by omega)
/-! loops -/
def foF {σ : Type} (g : Nat → σ → σ) : Nat → Nat → σ → σ
  | _, 0, st => st
  | k, m + 1, st => foF g (k + 1) m (g k st)
theorem loopF {σ β : Type} (L : Nat → Nat → σ → Option β) (B : Nat) (g : Nat → σ → σ) (P : Nat → σ → Prop) (E : σ → Option β) (hs : ∀ n k st, k < B → P k st → L (n + 1) k st = L n (k + 1) (g k st) ∧ P (k + 1) (g k st)) (he : ∀ n st, P B st → L (n + 1) B st = E st) : ∀ (m k n : Nat) (st : σ), k + m = B → m < n → P k st → L n k st = E (foF g k m st) ∧ P B (foF g k m st) := by
  intro m
  induction m with
  | zero =>
    intro k n st hk hn hP
    obtain ⟨n, rfl⟩ : ∃ q, n = q + 1 := ⟨n - 1, by omega⟩
    rw [show k = B by omega] at hP ⊢
    exact ⟨he n st hP, hP⟩
  | succ m ih =>
    intro k n st hk hn hP
    obtain ⟨n, rfl⟩ : ∃ q, n = q + 1 := ⟨n - 1, by omega⟩
    obtain ⟨h1, h2⟩ := hs n k st (by omega) hP
    have h3 := ih (k + 1) n (g k st) (by omega) (by omega) h2
    exact ⟨h1.trans h3.1, h3.2⟩
/-- a fold keeps what its steps keep -/
theorem foF_ind {σ : Type} (g : Nat → σ → σ) (P : Nat → σ → Prop) (B : Nat) (hs : ∀ k st, k < B → P k st → P (k + 1) (g k st)) : ∀ (m k : Nat) (st : σ), k + m = B → P k st → P B (foF g k m st) := by
  intro m
  induction m with
  | zero => intro k st hk h; rw [show B = k by omega]; exact h
  | succ m ih => intro k st hk h; exact ih (k + 1) (g k st) (by omega) (hs k st (by omega) h)
/-- two folds in step -/
theorem foF_ind2 {σ τ : Type} (g : Nat → σ → σ) (g' : Nat → τ → τ) (P : Nat → σ → τ → Prop) (B : Nat) (hs : ∀ k st st', k < B → P k st st' → P (k + 1) (g k st) (g' k st')) : ∀ (m k : Nat) (st : σ) (st' : τ), k + m = B → P k st st' → P B (foF g k m st) (foF g' k m st') := by
  intro m
  induction m with
  | zero => intro k st st' hk h; rw [show B = k by omega]; exact h
  | succ m ih => intro k st st' hk h; exact ih (k + 1) (g k st) (g' k st') (by omega) (hs k st st' (by omega) h)
/-! rows -/
def gpu (M : gM) (row : gI) (base n : Nat) (f : Nat → Int32) : gM := fun x q => if x = row ∧ base ≤ q ∧ q < base + n then f (q - base) else M x q
theorem gpu_r (M : gM) (row : gI) (base n : Nat) (f : Nat → Int32) (x : gI) (q : Nat) : gpu M row base n f x q = if x = row ∧ base ≤ q ∧ q < base + n then f (q - base) else M x q := rfl
theorem gpu_in {M : gM} {row : gI} {base n k : Nat} {f : Nat → Int32} (h : k < n) : gpu M row base n f row (base + k) = f k := by
  unfold gpu
  rw [if_pos ⟨rfl, by omega, by omega⟩, show base + k - base = k by omega]
theorem gpu_ne {M : gM} {row x : gI} {base n q : Nat} {f : Nat → Int32} (h : x ≠ row) : gpu M row base n f x q = M x q := if_neg fun e => h e.1
theorem gpu_congr {M : gM} {row : gI} {base n : Nat} {f g : Nat → Int32} (h : ∀ k, k < n → f k = g k) : gpu M row base n f = gpu M row base n g := by
  funext x q
  unfold gpu
  by_cases e : x = row ∧ base ≤ q ∧ q < base + n
  · rw [if_pos e, if_pos e]; exact h _ (by omega)
  · rw [if_neg e, if_neg e]
theorem rowloop {β : Type} {E : gM → Option β} {L : Nat → Nat → gM → Option β} {row : gI} {base B : Nat} {h : gM → Nat → Int32} {P : gM → Prop} (hB : B < 100) (hs : ∀ n k M, k < B → P M → L (n + 1) k M = L n (k + 1) (gset M row (base + k) (h M k)) ∧ P (gset M row (base + k) (h M k))) (he : ∀ n M, P M → L (n + 1) B M = E M) (hh : ∀ (M : gM) (k j : Nat) (v : Int32), P M → k < B → j < B → j ≠ k → h (gset M row (base + k) v) j = h M j) {M : gM} (hP : P M) : L 100 0 M = E (gpu M row base B (h M)) := by
  have H : ∀ m k n M, k + m = B → m < n → P M → L n k M = E (fun x q => if x = row ∧ base + k ≤ q ∧ q < base + B then h M (q - base) else M x q) := by
    intro m
    induction m with
    | zero =>
      intro k n M hk hn hP
      obtain ⟨n, rfl⟩ : ∃ q, n = q + 1 := ⟨n - 1, by omega⟩
      rw [show k = B by omega, he n M hP]
      congr 1
      funext x q
      rw [if_neg (by omega)]
    | succ m ih =>
      intro k n M hk hn hP
      obtain ⟨n, rfl⟩ : ∃ q, n = q + 1 := ⟨n - 1, by omega⟩
      obtain ⟨h1, h2⟩ := hs n k M (by omega) hP
      rw [h1, ih (k + 1) n _ (by omega) (by omega) h2]
      congr 1
      funext x q
      by_cases e : x = row
      · subst e
        by_cases e1 : q = base + k
        · subst e1
          rw [if_neg (by omega), if_pos ⟨rfl, by omega, by omega⟩, gset_r, if_pos ⟨rfl, rfl⟩, show base + k - base = k by omega]
        · by_cases e2 : base + (k + 1) ≤ q ∧ q < base + B
          · rw [if_pos ⟨rfl, e2⟩, if_pos ⟨rfl, by omega, e2.2⟩]
            exact hh M k (q - base) _ hP (by omega) (by omega) (by omega)
          · rw [if_neg (fun z => e2 z.2), if_neg (fun z => e2 ⟨by omega, z.2.2⟩), gset_r, if_neg (fun z => e1 z.2)]
      · rw [if_neg (fun z => e z.1), if_neg (fun z => e z.1), gset_r, if_neg (fun z => e z.1)]
  have h0 := H B 0 100 M (by omega) hB hP
  rw [h0]
  rfl
/-! truth as a number -/
def zb (b : Bool) : Int32 := if b then 1 else 0
theorem zb_t : zb true = 1 := rfl
theorem zb_f : zb false = 0 := rfl
theorem zb_z (b : Bool) : (zb b = 0) = (b = false) := by cases b <;> simp [zb]
theorem zb_o (b : Bool) : (zb b = 1) = (b = true) := by cases b <;> simp [zb]
theorem zb_01 (b : Bool) : zb b = 0 ∨ zb b = 1 := by cases b <;> simp [zb]
theorem gz_b {β : Type} (b : Bool) (k : Option β) : gz (zb b) k = k := by cases b <;> rfl
def nz (x : Int32) : Bool := decide (¬ x = 0)
theorem nz_t (x : Int32) : (nz x = true) = ¬ x = 0 := by simp [nz]
theorem nz_f (x : Int32) : (nz x = false) = (x = 0) := by simp [nz]
theorem nz_zb (b : Bool) : nz (zb b) = b := by cases b <;> rfl
def rEq (f g : Nat → Int32) : Nat → Nat → Bool
  | _, 0 => true
  | k, m + 1 => decide (f k = g k) && rEq f g (k + 1) m
def rLe (f g : Nat → Int32) : Nat → Nat → Bool
  | _, 0 => true
  | k, m + 1 => decide (f k ≤ g k) && rLe f g (k + 1) m
theorem rEq_iff (f g : Nat → Int32) : ∀ m k, rEq f g k m = true ↔ ∀ j, k ≤ j → j < k + m → f j = g j := by
  intro m
  induction m with
  | zero => intro k; simp only [rEq, true_iff]; intro j h1 h2; omega
  | succ m ih =>
    intro k
    simp only [rEq, Bool.and_eq_true, decide_eq_true_eq, ih (k + 1)]
    constructor
    · intro h j h1 h2
      by_cases e : j = k
      · subst e; exact h.1
      · exact h.2 j (by omega) (by omega)
    · intro h
      exact ⟨h k (by omega) (by omega), fun j h1 h2 => h j (by omega) (by omega)⟩
theorem rLe_iff (f g : Nat → Int32) : ∀ m k, rLe f g k m = true ↔ ∀ j, k ≤ j → j < k + m → f j ≤ g j := by
  intro m
  induction m with
  | zero => intro k; simp only [rLe, true_iff]; intro j h1 h2; omega
  | succ m ih =>
    intro k
    simp only [rLe, Bool.and_eq_true, decide_eq_true_eq, ih (k + 1)]
    constructor
    · intro h j h1 h2
      by_cases e : j = k
      · subst e; exact h.1
      · exact h.2 j (by omega) (by omega)
    · intro h
      exact ⟨h k (by omega) (by omega), fun j h1 h2 => h j (by omega) (by omega)⟩
theorem rEq_congr {f g f' g' : Nat → Int32} {n : Nat} (h1 : ∀ k, k < n → f k = f' k) (h2 : ∀ k, k < n → g k = g' k) : rEq f g 0 n = rEq f' g' 0 n := by
  rw [Bool.eq_iff_iff, rEq_iff, rEq_iff]
  constructor
  · intro h j a b; rw [← h1 j (by omega), ← h2 j (by omega)]; exact h j a b
  · intro h j a b; rw [h1 j (by omega), h2 j (by omega)]; exact h j a b
theorem rLe_congr {f g f' g' : Nat → Int32} {n : Nat} (h1 : ∀ k, k < n → f k = f' k) (h2 : ∀ k, k < n → g k = g' k) : rLe f g 0 n = rLe f' g' 0 n := by
  rw [Bool.eq_iff_iff, rLe_iff, rLe_iff]
  constructor
  · intro h j a b; rw [← h1 j (by omega), ← h2 j (by omega)]; exact h j a b
  · intro h j a b; rw [h1 j (by omega), h2 j (by omega)]; exact h j a b
/-! ===== Int32 by its bits: bt x i ===== -/
def bt (x : Int32) (i : Nat) : Bool := x.toBitVec.getLsbD i
theorem b_ext {x y : Int32} (h : ∀ i, i < 32 → bt x i = bt y i) : x = y := Int32.toBitVec_inj.mp (BitVec.eq_of_getLsbD_eq (fun i hi => h i hi))
theorem b_or (x y : Int32) (i : Nat) : bt (x ||| y) i = (bt x i || bt y i) := by unfold bt; rw [Int32.toBitVec_or, BitVec.getLsbD_or]
theorem b_and (x y : Int32) (i : Nat) : bt (x &&& y) i = (bt x i && bt y i) := by unfold bt; rw [Int32.toBitVec_and, BitVec.getLsbD_and]
theorem b_xor (x y : Int32) (i : Nat) : bt (x ^^^ y) i = (bt x i ^^ bt y i) := by unfold bt; rw [Int32.toBitVec_xor, BitVec.getLsbD_xor]
theorem b_big {x : Int32} {i : Nat} (h : 32 ≤ i) : bt x i = false := BitVec.getLsbD_of_ge _ _ h
theorem b_m1 : ∀ i, i < 32 → bt (-1) i = true := by decide +kernel
theorem b_0 (i : Nat) : bt 0 i = false := BitVec.getLsbD_zero
theorem s_l : ∀ n, n < 32 → ((nI n &&& 31).toBitVec.smod 32).toNat = n := by decide +kernel
theorem s_u : ∀ n, n < 32 → (((nI n).toUInt32 &&& Int32.toUInt32 31).toBitVec % 32).toNat = n := by decide +kernel
theorem b_shl (n : Nat) (hn : n < 32) (x : Int32) {i : Nat} (hi : i < 32) : bt (x <<< (nI n &&& 31)) i = (decide (n ≤ i) && bt x (i - n)) := by
  unfold bt
  rw [Int32.toBitVec_shiftLeft]
  show (x.toBitVec <<< ((nI n &&& 31).toBitVec.smod 32).toNat).getLsbD i = _
  rw [s_l n hn, BitVec.getLsbD_shiftLeft]
  rcases Nat.lt_or_ge i n with h | h
  · simp [h, Nat.not_le.mpr h]
  · simp [hi, h, Nat.not_lt.mpr h]
theorem b_ushr (n : Nat) (hn : n < 32) (x : Int32) (i : Nat) : bt ((x.toUInt32 >>> ((nI n).toUInt32 &&& Int32.toUInt32 31)).toInt32) i = bt x (n + i) := by
  show (x.toUInt32 >>> ((nI n).toUInt32 &&& Int32.toUInt32 31)).toBitVec.getLsbD i = x.toUInt32.toBitVec.getLsbD (n + i)
  rw [UInt32.toBitVec_shiftRight]
  show (x.toUInt32.toBitVec >>> (((nI n).toUInt32 &&& Int32.toUInt32 31).toBitVec % 32).toNat).getLsbD i = _
  rw [s_u n hn, BitVec.getLsbD_ushiftRight]
theorem b_sshr (n : Nat) (hn : n < 32) (x : Int32) {i : Nat} (hi : i < 32) : bt (x >>> (nI n &&& 31)) i = if n + i < 32 then bt x (n + i) else bt x 31 := by
  unfold bt
  rw [Int32.toBitVec_shiftRight]
  show (x.toBitVec.sshiftRight ((nI n &&& 31).toBitVec.smod 32).toNat).getLsbD i = _
  rw [s_l n hn, BitVec.getLsbD_sshiftRight, BitVec.msb_eq_getLsbD_last]
  simp [hi]
theorem b_1 : ∀ i, i < 32 → bt 1 i = decide (i = 0) := by decide +kernel
theorem and1 (x : Int32) : x &&& 1 = if bt x 0 then 1 else 0 := by
  apply b_ext
  intro i hi
  rw [b_and, b_1 i hi]
  by_cases e : i = 0
  · subst e
    cases h : bt x 0 <;> simp [b_0, b_1]
  · rw [decide_eq_false e, Bool.and_false]
    cases h : bt x 0 <;> simp [b_0, b_1 i hi, e]
theorem bt_sh {v : Int32} {s : Nat} (h : s < 32) : (v >>> (nI s &&& 31)) &&& (1 : Int32) = if bt v s then 1 else 0 := by
  rw [and1, b_sshr s h v (show 0 < 32 by omega)]
  simp [h]
theorem bt_1 {v : Int32} {s : Nat} (h : s < 32) : ((v >>> (nI s &&& 31)) &&& (1 : Int32) = 1) = (bt v s = true) := by
  rw [bt_sh h]
  cases bt v s <;> simp
theorem bt_0 {v : Int32} {s : Nat} (h : s < 32) : ((v >>> (nI s &&& 31)) &&& (1 : Int32) = 0) = (bt v s = false) := by
  rw [bt_sh h]
  cases bt v s <;> simp
/-! sets of servers -/
def sB (k : Nat) : Int32 := (1 : Int32) <<< (nI k &&& 31)
theorem bt_sB {k i : Nat} (hk : k < 32) (hi : i < 32) : bt (sB k) i = decide (i = k) := by
  unfold sB
  rw [b_shl k hk 1 hi, b_1 (i - k) (by omega)]
  by_cases h : k ≤ i
  · rw [decide_eq_true h, Bool.true_and]
    by_cases e : i = k
    · rw [decide_eq_true e, decide_eq_true (by omega)]
    · rw [decide_eq_false e, decide_eq_false (by omega)]
  · rw [decide_eq_false h, Bool.false_and, decide_eq_false (show ¬ i = k by omega)]
theorem bt_no {v : Int32} {i : Nat} (hi : i < 32) : bt (v ^^^ (-1 : Int32)) i = !bt v i := by
  rw [b_xor, b_m1 i hi]
  cases bt v i <;> rfl
def sN (f : Nat → Bool) : Nat → Nat → Int32 → Int32
  | _, 0, v => v
  | k, m + 1, v => sN f (k + 1) m (if f k then v ||| sB k else v)
theorem sN_congr {f g : Nat → Bool} : ∀ (m k : Nat) (v : Int32), (∀ j, k ≤ j → j < k + m → f j = g j) → sN f k m v = sN g k m v := by
  intro m
  induction m with
  | zero => intro k v _; rfl
  | succ m ih =>
    intro k v h
    show sN f (k + 1) m _ = sN g (k + 1) m _
    rw [h k (by omega) (by omega)]
    exact ih (k + 1) _ (fun j h1 h2 => h j (by omega) (by omega))
theorem bt_sN {f : Nat → Bool} : ∀ (m k : Nat) (v : Int32), k + m ≤ 32 → ∀ i, i < 32 → bt (sN f k m v) i = (bt v i || (decide (k ≤ i ∧ i < k + m) && f i)) := by
  intro m
  induction m with
  | zero =>
    intro k v _ i hi
    rw [decide_eq_false (by omega)]
    show bt v i = _
    simp
  | succ m ih =>
    intro k v hk i hi
    show bt (sN f (k + 1) m _) i = _
    rw [ih (k + 1) _ (by omega) i hi]
    by_cases e : i = k
    · subst e
      rw [decide_eq_false (by omega), decide_eq_true (show i ≤ i ∧ i < i + (m + 1) by omega)]
      cases hf : f i
      · simp
      · simp [b_or, bt_sB hi hi]
    · have e1 : bt (if f k then v ||| sB k else v) i = bt v i := by
        cases hf : f k
        · rfl
        · simp [b_or, bt_sB (show k < 32 by omega) hi, e]
      rw [e1]
      by_cases h2 : k + 1 ≤ i ∧ i < k + 1 + m
      · rw [decide_eq_true h2, decide_eq_true (show k ≤ i ∧ i < k + (m + 1) by omega)]
      · rw [decide_eq_false h2, decide_eq_false (show ¬ (k ≤ i ∧ i < k + (m + 1)) by omega)]
abbrev sS (f : Nat → Bool) (N : Nat) : Int32 := sN f 0 N 0
theorem bt_sS {f : Nat → Bool} {N s : Nat} (hN : N ≤ 32) (hs : s < 32) : bt (sS f N) s = (decide (s < N) && f s) := by
  rw [bt_sN N 0 0 (by omega) s hs, b_0, Bool.false_or]
  by_cases h : s < N
  · rw [decide_eq_true h, decide_eq_true (show 0 ≤ s ∧ s < 0 + N by omega)]
  · rw [decide_eq_false h, decide_eq_false (show ¬ (0 ≤ s ∧ s < 0 + N) by omega)]
theorem sS_out {f : Nat → Bool} {N s : Nat} (hN : N ≤ 32) (hs : s < 32) : sS f N &&& (sB s ^^^ (-1 : Int32)) = sS (fun j => f j && !decide (j = s)) N := b_ext fun i hi => by
  rw [b_and, bt_no hi, bt_sB hs hi, bt_sS hN hi, bt_sS hN hi, Bool.and_assoc]
theorem sS_and {f g : Nat → Bool} {N : Nat} (hN : N ≤ 32) : sS f N &&& sS g N = sS (fun j => f j && g j) N := b_ext fun i hi => by
  rw [b_and, bt_sS hN hi, bt_sS hN hi, bt_sS hN hi]
  cases decide (i < N) <;> cases f i <;> cases g i <;> rfl
theorem sS_no {f g : Nat → Bool} {N : Nat} (hN : N ≤ 32) : sS f N &&& (sS g N ^^^ (-1 : Int32)) = sS (fun j => f j && !g j) N := b_ext fun i hi => by
  rw [b_and, bt_no hi, bt_sS hN hi, bt_sS hN hi, bt_sS hN hi]
  cases decide (i < N) <;> cases f i <;> cases g i <;> rfl
theorem sS_z {f : Nat → Bool} {N : Nat} (hN : N ≤ 32) : (sS f N = 0) = ∀ s, s < N → f s = false := by
  apply propext
  constructor
  · intro h s hs
    have := bt_sS (f := f) hN (show s < 32 by omega)
    rw [h, b_0, decide_eq_true hs, Bool.true_and] at this
    exact this.symm
  · intro h
    apply b_ext
    intro i hi
    rw [bt_sS hN hi, b_0]
    by_cases e : i < N
    · rw [h i e, Bool.and_false]
    · rw [decide_eq_false e, Bool.false_and]
theorem sS_bt {v : Int32} {N : Nat} (hN : N ≤ 32) (h : ∀ i, N ≤ i → i < 32 → bt v i = false) : sS (bt v) N = v := b_ext fun i hi => by
  rw [bt_sS hN hi]
  by_cases e : i < N
  · rw [decide_eq_true e, Bool.true_and]
  · rw [decide_eq_false e, Bool.false_and, h i (by omega) hi]
/-- a set within another -/
theorem and_le {p a b : Int32} (h : p &&& a = p) (h2 : a &&& b = a) : p &&& b = p := by
  rw [← h, Int32.and_assoc, h2]
theorem no_z (p a : Int32) : (a &&& (p ^^^ (-1 : Int32)) = 0) = (p &&& a = a) := by
  apply propext
  constructor
  · intro h
    apply b_ext
    intro i hi
    have := congrArg (fun v => bt v i) h
    simp only [b_and, bt_no hi, b_0] at this
    rw [b_and]
    cases h1 : bt p i <;> cases h2 : bt a i <;> simp_all
  · intro h
    apply b_ext
    intro i hi
    have := congrArg (fun v => bt v i) h
    simp only [b_and] at this
    rw [b_and, bt_no hi, b_0]
    cases h1 : bt p i <;> cases h2 : bt a i <;> simp_all
