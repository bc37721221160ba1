/-! layer 2: vector, copy -/
def cntF (p : Nat → Bool) : Nat → Nat → Nat
  | _, 0 => 0
  | k, m + 1 => (if p k then 1 else 0) + cntF p (k + 1) m
theorem cntF_le {p : Nat → Bool} : ∀ m k, cntF p k m ≤ m := by
  intro m
  induction m with
  | zero => intro k; exact Nat.le_refl _
  | succ m ih =>
    intro k
    have := ih (k + 1)
    show (if p k then 1 else 0) + cntF p (k + 1) m ≤ m + 1
    split <;> omega
theorem cntF_congr {p q : Nat → Bool} : ∀ (m k : Nat), (∀ j, k ≤ j → j < k + m → p j = q j) → cntF p k m = cntF q k m := by
  intro m
  induction m with
  | zero => intro k _; rfl
  | succ m ih =>
    intro k h
    show (if p k then 1 else 0) + cntF p (k + 1) m = (if q k then 1 else 0) + cntF q (k + 1) m
    rw [h k (by omega) (by omega), ih (k + 1) (fun j a b => h j (by omega) (by omega))]
theorem cntF_skip {p : Nat → Bool} : ∀ (d k m : Nat), (∀ j, k ≤ j → j < k + d → p j = false) → cntF p k (d + m) = cntF p (k + d) m := by
  intro d
  induction d with
  | zero => intro k m _; rw [Nat.zero_add, Nat.add_zero]
  | succ d ih =>
    intro k m h
    rw [show d + 1 + m = (d + m) + 1 by omega]
    show (if p k then 1 else 0) + cntF p (k + 1) (d + m) = _
    rw [h k (by omega) (by omega), if_neg (by decide), ih (k + 1) m (fun j a b => h j (by omega) (by omega)), show k + 1 + d = k + (d + 1) by omega, Nat.zero_add]
section CO
variable {N T g o t s : Nat} {M Mc Mr : gM} {z : lS} {a1 a2 a3 a4 : Int32}
theorem vk1 (hN : N ≤ 4) : nI N + 4 - 1 = nI (N + 4 - 1) := by
  rw [show (4 : Int32) = nI 4 from rfl, nI_add]
  exact nI_s1 (by omega)
def kidT (M : gM) (t o : Nat) (x : Nat) : Bool := decide (M (2, 0, 0) x = nI o ∧ M (56, t, 0) x = 1)
def kidE (M : gM) (t o : Nat) (x : Nat) : Bool := decide (M (2, 0, 0) x = nI o ∧ ¬ M (56, t, 0) x = 0)
theorem c_thereIn (h1 : M (1, 0, 0) 3 = nI g) (hg : g ≤ 47) (hog : o ≤ g) : f_X8_thereIn N M t (nI o) = some (nI (cntF (kidT M t o) (o + 1) (g - o))) := by
  have H : ∀ m k fu a, k + m = g + 1 → m < fu → f_X8_thereIn_L6 N M t (nI o) fu (nI a) (nI k) = some (nI (a + cntF (kidT M t o) k m)) := by
    intro m
    induction m with
    | zero =>
      intro k fu a hk hf
      obtain ⟨fu, rfl⟩ : ∃ q, fu = q + 1 := ⟨fu - 1, by omega⟩
      simp only [f_X8_thereIn_L6, lt_d, h1]
      rw [if_pos (nI_lt (by omega) (by omega))]
      rfl
    | succ m ih =>
      intro k fu a hk hf
      obtain ⟨fu, rfl⟩ : ∃ q, fu = q + 1 := ⟨fu - 1, by omega⟩
      simp only [f_X8_thereIn_L6, lt_d, h1, jn_d]
      rw [if_neg (nI_nlt (by omega) (by omega)), c_isThereIn h1 hg (by omega), o1_s]
      have hk9 : decide (k ≤ g ∧ M (2, 0, 0) k = nI o ∧ M (56, t, 0) k = 1) = kidT M t o k := by
        unfold kidT
        rw [Bool.eq_iff_iff, decide_eq_true_iff, decide_eq_true_iff]
        exact ⟨fun x => x.2, fun x => ⟨by omega, x⟩⟩
      have e : cntF (kidT M t o) k (m + 1) = (if kidT M t o k then 1 else 0) + cntF (kidT M t o) (k + 1) m := rfl
      rw [hk9, e]
      cases hq : kidT M t o k with
      | false => rw [zb_f, if_pos rfl, nI_1, ih (k + 1) fu a (by omega) (by omega), if_neg (by decide), Nat.zero_add]
      | true => rw [zb_t, if_neg (by decide), nI_1, nI_1, ih (k + 1) fu (a + 1) (by omega) (by omega), if_pos rfl, Nat.add_assoc]
  unfold f_X8_thereIn
  rw [lt_d, nI_1]
  have h := H (g - o) (o + 1) 100 0 (by omega) (by omega)
  rw [Nat.zero_add] at h
  exact h
theorem c_isEntryOf {x : Nat} (hx : x < 48) : f_X8_isEntryOf N M t (nI o) (nI x) = some (zb (kidE M t o x)) := by
  unfold f_X8_isEntryOf kidE
  rw [rd_n hx (by omega)]
  by_cases e2 : M (2, 0, 0) x = nI o
  · rw [if_pos e2, rd_n hx (by omega)]
    by_cases e3 : M (56, t, 0) x = 0
    · rw [if_pos e3, decide_eq_false (fun y => y.2 e3)]; rfl
    · rw [if_neg e3, decide_eq_true ⟨e2, e3⟩]; rfl
  · rw [if_neg e2, decide_eq_false (fun y => e2 y.1)]; rfl
theorem c_entriesIn (h1 : M (1, 0, 0) 3 = nI g) (hg : g ≤ 47) (hog : o ≤ g) : f_X8_entriesIn N M t (nI o) = some (nI (cntF (kidE M t o) (o + 1) (g - o))) := by
  have H : ∀ m k fu a, k + m = g + 1 → m < fu → f_X8_entriesIn_L6 N M t (nI o) fu (nI a) (nI k) = some (nI (a + cntF (kidE M t o) k m)) := by
    intro m
    induction m with
    | zero =>
      intro k fu a hk hf
      obtain ⟨fu, rfl⟩ : ∃ q, fu = q + 1 := ⟨fu - 1, by omega⟩
      simp only [f_X8_entriesIn_L6, lt_d, h1]
      rw [if_pos (nI_lt (by omega) (by omega))]
      rfl
    | succ m ih =>
      intro k fu a hk hf
      obtain ⟨fu, rfl⟩ : ∃ q, fu = q + 1 := ⟨fu - 1, by omega⟩
      simp only [f_X8_entriesIn_L6, lt_d, h1, jn_d]
      rw [if_neg (nI_nlt (by omega) (by omega)), c_isEntryOf (by omega), o1_s]
      have e : cntF (kidE M t o) k (m + 1) = (if kidE M t o k then 1 else 0) + cntF (kidE M t o) (k + 1) m := rfl
      rw [e]
      cases hq : kidE M t o k with
      | false => rw [zb_f, if_pos rfl, nI_1, ih (k + 1) fu a (by omega) (by omega), if_neg (by decide), Nat.zero_add]
      | true => rw [zb_t, if_neg (by decide), nI_1, nI_1, ih (k + 1) fu (a + 1) (by omega) (by omega), if_pos rfl, Nat.add_assoc]
  unfold f_X8_entriesIn
  rw [lt_d, nI_1]
  have h := H (g - o) (o + 1) 100 0 (by omega) (by omega)
  rw [Nat.zero_add] at h
  exact h
def rCnt (g : Nat) (M : gM) (s o : Nat) (w : Int32) (x : Nat) : Bool := decide ((1 ≤ x ∧ x ≤ g ∧ M m_parent x = nI o) ∧ (M m_entry (48 * s + x) = 1 ∨ (M m_entry (48 * s + x) = 2 ∧ w = 3)))
theorem r_copyL (h6 : M m_o 6 = nI (g + 1)) (hg : g ≤ 47) (hs : s < 4) : f_X11_copy_L128 (nI s) (nI o) a3 100 (0 : Int32) (1 : Int32) M = some ((nI (cntF (rCnt g M s o a3) 1 g)).toInt64, M) := by
  have H : ∀ m k fu a, 1 ≤ k → k + m = g + 1 → m < fu → f_X11_copy_L128 (nI s) (nI o) a3 fu (nI a) (nI k) M = some ((nI (a + cntF (rCnt g M s o a3) k m)).toInt64, M) := by
    intro m
    induction m with
    | zero =>
      intro k fu a _ hk hf
      obtain ⟨fu, rfl⟩ : ∃ q, fu = q + 1 := ⟨fu - 1, by omega⟩
      simp only [f_X11_copy_L128, lt_d, h6]
      rw [if_pos (nI_le (by omega) (by omega))]
      rfl
    | succ m ih =>
      intro k fu a h1 hk hf
      obtain ⟨fu, rfl⟩ : ∃ q, fu = q + 1 := ⟨fu - 1, by omega⟩
      simp only [f_X11_copy_L128, lt_d, h6, jn_d, nI_m48, nI_add, nI_1]
      rw [if_neg (nI_ge (by omega) (by omega)), r_isChild h6 hg (by omega), o1_s]
      have e : cntF (rCnt g M s o a3) k (m + 1) = (if rCnt g M s o a3 k then 1 else 0) + cntF (rCnt g M s o a3) (k + 1) m := rfl
      have no : rCnt g M s o a3 k = false → f_X11_copy_L128 (nI s) (nI o) a3 fu (nI a) (nI (k + 1)) M = some ((nI (a + cntF (rCnt g M s o a3) k (m + 1))).toInt64, M) := fun h => by
        rw [ih (k + 1) fu a (by omega) (by omega) (by omega), e, if_neg (by rw [h]; decide), Nat.zero_add]
      have yes : rCnt g M s o a3 k = true → f_X11_copy_L128 (nI s) (nI o) a3 fu (nI (a + 1)) (nI (k + 1)) M = some ((nI (a + cntF (rCnt g M s o a3) k (m + 1))).toInt64, M) := fun h => by
        rw [ih (k + 1) fu (a + 1) (by omega) (by omega) (by omega), e, if_pos h, Nat.add_assoc]
      by_cases hp : 1 ≤ k ∧ k ≤ g ∧ M m_parent k = nI o
      · rw [decide_eq_true hp, zb_t, if_neg (by decide), rd_n (by omega) (by omega)]
        by_cases e1 : M m_entry (48 * s + k) = 1
        · rw [if_pos e1]
          exact yes (decide_eq_true ⟨hp, Or.inl e1⟩)
        · rw [if_neg e1]
          by_cases e2 : M m_entry (48 * s + k) = 2
          · rw [if_pos e2]
            by_cases e3 : a3 = 3
            · rw [if_pos e3]
              exact yes (decide_eq_true ⟨hp, Or.inr ⟨e2, e3⟩⟩)
            · rw [if_neg e3]
              exact no (decide_eq_false (fun y => y.2.elim e1 (fun w => e3 w.2)))
          · rw [if_neg e2]
            exact no (decide_eq_false (fun y => y.2.elim e1 (fun w => e2 w.1)))
      · rw [decide_eq_false hp, zb_f, if_pos rfl, if_neg (by decide), if_neg (by decide)]
        exact no (decide_eq_false (fun y => hp y.1))
  have h := H g 1 100 0 (by omega) (by omega) (by omega)
  rw [Nat.zero_add] at h
  exact h
theorem copy_eq (R : Rel N g Mc Mr) (I : Inv N g Mc) (hs : s < N) (hog : o ≤ g) : cntF (rCnt g Mr s o 3) 1 g = cntF (kidE Mc s o) (o + 1) (g - o) ∧ ∀ w : Int32, ¬ w = 3 → cntF (rCnt g Mr s o w) 1 g = cntF (kidT Mc s o) (o + 1) (g - o) := by
  have hg := I.1.1
  have hk : ∀ w j, 1 ≤ j → j < 1 + o → rCnt g Mr s o w j = false := fun w j h1 h2 => decide_eq_false (fun y => by
    have ep := (R.ct.2.2 j (by omega)).1
    have := kid_gt I.1 y.1.1 y.1.2.1 (by omega) (ep.trans y.1.2.2)
    omega)
  have hx : ∀ j, o + 1 ≤ j → j < o + 1 + (g - o) → Mc (2, 0, 0) j = Mr m_parent j ∧ Mc (56, s, 0) j = Mr m_entry (48 * s + j) ∧ (Mc (56, s, 0) j = 0 ∨ Mc (56, s, 0) j = 1 ∨ Mc (56, s, 0) j = 2) := fun j h1 h2 => ⟨(R.ct.2.2 j (by omega)).1, (R.sv hs (by omega)).2.2.2.2.1, (I.2.2.1 s hs j (by omega)).2.1⟩
  constructor
  · have sk := cntF_skip (p := rCnt g Mr s o 3) o 1 (g - o) (hk 3)
    rw [show o + (g - o) = g by omega, show 1 + o = o + 1 by omega] at sk
    rw [sk]
    refine cntF_congr (g - o) (o + 1) (fun j h1 h2 => ?_)
    obtain ⟨x1, x2, x3⟩ := hx j h1 h2
    unfold rCnt kidE
    rw [Bool.eq_iff_iff, decide_eq_true_iff, decide_eq_true_iff, ← x1, ← x2]
    constructor
    · rintro ⟨⟨_, _, q⟩, w⟩
      refine ⟨q, fun y => ?_⟩
      rcases w with w | w
      · rw [y] at w; exact absurd w (by decide)
      · rw [y] at w; exact absurd w.1 (by decide)
    · rintro ⟨q, w⟩
      refine ⟨⟨by omega, by omega, q⟩, ?_⟩
      rcases x3 with y | y | y
      · exact absurd y w
      · exact Or.inl y
      · exact Or.inr ⟨y, rfl⟩
  · intro w hw
    have sk := cntF_skip (p := rCnt g Mr s o w) o 1 (g - o) (hk w)
    rw [show o + (g - o) = g by omega, show 1 + o = o + 1 by omega] at sk
    rw [sk]
    refine cntF_congr (g - o) (o + 1) (fun j h1 h2 => ?_)
    obtain ⟨x1, x2, x3⟩ := hx j h1 h2
    unfold rCnt kidT
    rw [Bool.eq_iff_iff, decide_eq_true_iff, decide_eq_true_iff, ← x1, ← x2]
    constructor
    · rintro ⟨⟨_, _, q⟩, v⟩
      exact ⟨q, v.elim id (fun y => absurd y.2 hw)⟩
    · rintro ⟨q, v⟩
      exact ⟨⟨by omega, by omega, q⟩, Or.inl v⟩
set_option maxHeartbeats 1000000 in
theorem st_vector (hN : 1 ≤ N ∧ N ≤ 4) (hT : T ≤ 500) (h : St N T z.1 z.2.1) : ∃ z1, s_vector N z a1 a2 a3 a4 = some z1 ∧ St N (T + 1) z1.1 z1.2.1 := by
  obtain ⟨g, R, I, U, O⟩ := id h
  have hg := I.1.1
  rcases rng a1 N (by omega) with ⟨y1, h1, rfl⟩ | bad
  · rcases rng a2 48 (by omega) with ⟨y2, h2, rfl⟩ | bad
    · rcases rng a4 (N + 4) (by omega) with ⟨y4, h4, rfl⟩ | bad
      · obtain ⟨n, n1, n2, n3, -⟩ := (I.2.2.2.1 y1 h1 y2 h2).2
        obtain ⟨f1, -, -, f4, -, -, -, f8, f9⟩ := R.sv h1 h2
        have hvr : z.2.1 m_versions (48 * y1 + y2) = nI n := by rw [← f8]; exact n2
        have key : ∃ v : Int64, f_X10_vector N z.1 (nI y1) (nI y2) a3 (nI y4) = some (0, v, z.1) ∧ f_X11_vector z.2.1 (nI y1) (nI y2) a3 (nI y4) = some (v, gset z.2.1 m_o 66 0) := by
          unfold f_X10_vector f_X11_vector
          simp only [c_checkServer_ok R.c0 hN.2 h1, c_checkObject_ok h2, lt_d, R.c0, c_checkWhat_ok (n := N + 4) (hi := nI N + 4 - 1) h4 (by omega) (vk1 hN.2), o1_s, if_true, ix_n h1 (show N ≤ 16384 by omega), ix_n h2 (show 48 ≤ 16384 by omega), c_has n2 (show n ≤ 24 by omega), r_isServer_ok R.n0 hN.2 h1, r_isObject_ok h2, R.n1, in_ok (n := N + 4) (hi := nI (N + 4) - 1) h4 (by omega) (nI_s1 (by omega)), jn_d, one_0, if_false, g66, le_00, nI_m48, nI_add, nI_m6, nI_m8, rd_n (show 48 * y1 + y2 < 192 by omega) (show 192 ≤ 16384 by omega), g66n (show (11 : Nat) ≠ 0 by decide), g66n (show (15 : Nat) ≠ 0 by decide), hvr, r_inN (show n ≤ 24 by omega), rd_n h2 (show 48 ≤ 16384 by omega), f1, rd_n h4 (show N + 4 ≤ 16384 by omega), rd_n (show 8 * (48 * y1 + y2) + y4 < 1536 by omega) (show 1536 ≤ 16384 by omega), g66n (show (14 : Nat) ≠ 0 by decide)]
          by_cases hh : z.2.1 m_has (48 * y1 + y2) = 0
          · have hn0 : n = 0 := Classical.byContradiction fun x => by
              have := (n3 x).1
              rw [f1, hh] at this
              exact absurd this (by decide)
            have hf : decide (¬ a3 < 0 ∧ a3 < nI n) = false := decide_eq_false (fun x => by
              rw [hn0] at x
              exact x.1 x.2)
            simp only [hh, if_true, hf, zb_f]
            by_cases e : a3 = -1
            · rw [if_pos e]; exact ⟨_, rfl, rfl⟩
            · rw [if_neg e]; exact ⟨_, rfl, rfl⟩
          · simp only [hh, if_false]
            by_cases e : a3 = -1
            · rw [if_pos e, if_pos e, f4 y4 h4, if_neg hh]; exact ⟨_, rfl, rfl⟩
            · rw [if_neg e, if_neg e]
              rcases rng a3 n (by omega) with ⟨i, hi, rfl⟩ | bad
              · have ht : decide (¬ nI i < 0 ∧ nI i < nI n) = true := decide_eq_true ⟨nI_pos (by omega), nI_lt hi (by omega)⟩
                obtain ⟨-, -, q3⟩ := f9 i (by omega) (by rw [hvr]; exact nI_lt hi (by omega))
                have hm : cMost (48 * y1 + y2) = 6 := if_neg (by omega)
                rw [ht, zb_t]
                simp only [one_0, if_false, hm, nI_add, nI_m8, ix_n (show i < 6 by omega) (show 6 ≤ 16384 by omega), rd_n (show 8 * (6 * (48 * y1 + y2) + i) + y4 < 9216 by omega) (show 9216 ≤ 16384 by omega), g66n (show (18 : Nat) ≠ 0 by decide), q3 y4 h4]
                exact ⟨_, rfl, rfl⟩
              · have hf : decide (¬ a3 < 0 ∧ a3 < nI n) = false := decide_eq_false (fun x => bad.elim x.1 (fun y => Int32.not_lt.mpr y x.2))
                rw [hf, zb_f]
                simp only [if_true]
                exact ⟨_, rfl, rfl⟩
        obtain ⟨v, k1, k2⟩ := key
        exact q_vector k1 k2 (g66 _ _) (by omega) (fun _ => rfl) (h.thr hN.2 0)
      · have c1 : f_X10_vector N z.1 (nI y1) (nI y2) a3 a4 = some (1, 0, z.1) := by
          unfold f_X10_vector
          simp only [c_checkServer_ok R.c0 hN.2 h1, c_checkObject_ok h2, c_checkWhat_bad (n := N + 4) (hi := nI N + 4 - 1) bad (by omega) (by omega) (vk1 hN.2), o1_s, lt_d, R.c0, if_true, if_false, Nat.one_ne_zero, show (2 = 0) = False from eq_false (by decide)]
        have r1 : f_X11_vector z.2.1 (nI y1) (nI y2) a3 a4 = some (0, gset z.2.1 m_o 66 1) := by
          unfold f_X11_vector
          simp only [r_isServer_ok R.n0 hN.2 h1, r_isObject_ok h2, in_bad (n := N + 4) (hi := nI (N + 4) - 1) bad (by omega) (by omega) (nI_s1 (by omega)), o1_s, jn_d, one_0, if_true, lt_d, R.n1, g66, le_10, le_20, if_false]
        exact q_vector c1 r1 (g66 _ _) (by omega) (fun h => absurd h (by decide)) (h.thr hN.2 1)
    · have c1 : f_X10_vector N z.1 (nI y1) a2 a3 a4 = some (1, 0, z.1) := by
        unfold f_X10_vector
        simp only [c_checkServer_ok R.c0 hN.2 h1, c_checkObject_bad bad, o1_s, lt_d, R.c0, if_true, if_false, Nat.one_ne_zero, show (2 = 0) = False from eq_false (by decide)]
      have r1 : f_X11_vector z.2.1 (nI y1) a2 a3 a4 = some (0, gset z.2.1 m_o 66 1) := by
        unfold f_X11_vector
        simp only [r_isServer_ok R.n0 hN.2 h1, r_isObject_bad bad, o1_s, jn_d, one_0, if_true, lt_d, R.n1, g66, le_10, le_20, if_false]
      exact q_vector c1 r1 (g66 _ _) (by omega) (fun h => absurd h (by decide)) (h.thr hN.2 1)
  · have c1 : f_X10_vector N z.1 a1 a2 a3 a4 = some (1, 0, z.1) := by
      unfold f_X10_vector
      simp only [c_checkServer_bad R.c0 bad, o1_s, lt_d, R.c0, if_true, if_false, Nat.one_ne_zero, show (2 = 0) = False from eq_false (by decide)]
    have r1 : f_X11_vector z.2.1 a1 a2 a3 a4 = some (0, gset z.2.1 m_o 66 1) := by
      unfold f_X11_vector
      simp only [r_isServer_bad R.n0 hN.1 hN.2 bad, o1_s, jn_d, one_0, if_true, lt_d, R.n1, g66, le_10, le_20, if_false]
    exact q_vector c1 r1 (g66 _ _) (by omega) (fun h => absurd h (by decide)) (h.thr hN.2 1)
end CO
