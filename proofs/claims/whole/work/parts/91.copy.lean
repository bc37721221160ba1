/-! layer 2: copy, cached, entry -/
section CP
variable {N T g o t s c : Nat} {M Mc Mr : gM} {z : lS} {a1 a2 a3 a4 : Int32}
def rKpt (g : Nat) (M : gM) (c o : Nat) (x : Nat) : Bool := decide ((1 ≤ x ∧ x ≤ g ∧ M m_parent x = nI o) ∧ M m_keptEntry (48 * c + x) = 1)
theorem r_keptThere (h6 : M m_o 6 = nI (g + 1)) (hg : g ≤ 47) (hc : c < 4) : f_X11_keptThere M (nI c) (nI o) = some (nI (cntF (rKpt g M c o) 1 g)) := by
  have H : ∀ m k fu a, 1 ≤ k → k + m = g + 1 → m < fu → f_X11_keptThere_L5 M (nI c) (nI o) fu (nI a) (nI k) = some (nI (a + cntF (rKpt g M c o) k m)) := by
    intro m
    induction m with
    | zero =>
      intro k fu a _ hk hf
      obtain ⟨fu, rfl⟩ : ∃ q, fu = q + 1 := ⟨fu - 1, by omega⟩
      simp only [f_X11_keptThere_L5, lt_d, h6]
      rw [if_pos (nI_le (by omega) (by omega))]
      rfl
    | succ m ih =>
      intro k fu a h1 hk hf
      obtain ⟨fu, rfl⟩ : ∃ q, fu = q + 1 := ⟨fu - 1, by omega⟩
      simp only [f_X11_keptThere_L5, lt_d, h6, jn_d, nI_m48, nI_add, nI_1]
      rw [if_neg (nI_ge (by omega) (by omega)), r_isChild h6 hg (by omega), o1_s]
      have e : cntF (rKpt g M c o) k (m + 1) = (if rKpt g M c o k then 1 else 0) + cntF (rKpt g M c o) (k + 1) m := rfl
      by_cases hp : 1 ≤ k ∧ k ≤ g ∧ M m_parent k = nI o
      · rw [decide_eq_true hp, zb_t, if_neg (by decide), rd_n (by omega) (by omega)]
        by_cases e1 : M m_keptEntry (48 * c + k) = 1
        · rw [if_pos e1, ih (k + 1) fu (a + 1) (by omega) (by omega) (by omega), e, if_pos (show rKpt g M c o k = true from decide_eq_true ⟨hp, e1⟩), Nat.add_assoc]
        · rw [if_neg e1, ih (k + 1) fu a (by omega) (by omega) (by omega), e, if_neg (fun x => e1 (of_decide_eq_true x).2), Nat.zero_add]
      · rw [decide_eq_false hp, zb_f, if_pos rfl, ih (k + 1) fu a (by omega) (by omega) (by omega), e, if_neg (fun x => hp (of_decide_eq_true x).1), Nat.zero_add]
  unfold f_X11_keptThere
  have h := H g 1 100 0 (by omega) (by omega) (by omega)
  rw [Nat.zero_add] at h
  exact h
theorem kept_eq (R : Rel N g Mc Mr) (I : iCat g Mc) (hc : c < 4) (hog : o ≤ g) : cntF (rKpt g Mr c o) 1 g = cntF (kidT Mc (4 + c) o) (o + 1) (g - o) := by
  have hg := I.1
  have sk := cntF_skip (p := rKpt g Mr c o) o 1 (g - o) (fun j h1 h2 => decide_eq_false (fun y => by
    have ep := (R.ct.2.2 j (by omega)).1
    have := kid_gt I y.1.1 y.1.2.1 (by omega) (ep.trans y.1.2.2)
    omega))
  rw [show o + (g - o) = g by omega, show 1 + o = o + 1 by omega] at sk
  rw [sk]
  refine cntF_congr (g - o) (o + 1) (fun j h1 h2 => ?_)
  have x1 := (R.ct.2.2 j (by omega)).1
  have x2 := (R.kl hc (show j < 48 by omega)).2.2.2.2.1
  unfold rKpt kidT
  rw [Bool.eq_iff_iff, decide_eq_true_iff, decide_eq_true_iff, ← x1, ← x2]
  exact ⟨fun y => ⟨y.1.2.2, y.2⟩, fun y => ⟨⟨by omega, by omega, y.1⟩, y.2⟩⟩
set_option maxHeartbeats 1000000 in
theorem st_copy (hN : 1 ≤ N ∧ N ≤ 4) (hT : T ≤ 500) (h : St N T z.1 z.2.1) : ∃ z1, s_copy N z a1 a2 a3 = some z1 ∧ St N (T + 1) z1.1 z1.2.1 := by
  obtain ⟨g, R, I, U, O⟩ := id h
  have hg := I.1.1
  rcases rng a1 N (by omega) with ⟨y1, h1, rfl⟩ | bad
  · rcases rng a2 48 (by omega) with ⟨y2, h2, rfl⟩ | bad
    · rcases rng a3 5 (by omega) with ⟨y3, h3, rfl⟩ | bad
      · obtain ⟨n, n1, n2, n3, -⟩ := (I.2.2.2.1 y1 h1 y2 h2).2
        obtain ⟨f1, f2, f3, -, -, -, -, f8, -⟩ := R.sv h1 h2
        have hvr : z.2.1 m_versions (48 * y1 + y2) = nI n := by rw [← f8]; exact n2
        have hdir := (R.ct.2.2 y2 h2).2.2
        have R5 := R.at0 hN.2 0
        have key : ∃ v : Int64, f_X10_copy N z.1 (nI y1) (nI y2) (nI y3) = some (0, v, z.1) ∧ f_X11_copy z.2.1 (nI y1) (nI y2) (nI y3) = some (v, gset z.2.1 m_o 66 0) := by
          unfold f_X10_copy f_X11_copy
          simp only [c_checkServer_ok R.c0 hN.2 h1, c_checkObject_ok h2, c_checkWhat_ok (n := 5) (hi := 4) h3 (by omega) rfl, o1_s, if_true, ix_n h1 (show N ≤ 16384 by omega), ix_n h2 (show 48 ≤ 16384 by omega), lt_d, rd_n h2 (show 48 ≤ 16384 by omega), r_isServer_ok R.n0 hN.2 h1, r_isObject_ok h2, in_ok (n := 5) (hi := 4) h3 (by omega) rfl, jn_d, one_0, if_false, g66, le_00, nI_m48, nI_add, rd_n (show 48 * y1 + y2 < 192 by omega) (show 192 ≤ 16384 by omega), g66n (show (11 : Nat) ≠ 0 by decide), g66n (show (15 : Nat) ≠ 0 by decide), g66n (show (12 : Nat) ≠ 0 by decide), g66n (show (13 : Nat) ≠ 0 by decide), g66n (show (10 : Nat) ≠ 0 by decide), hvr, f1, n2]
          by_cases hh : z.2.1 m_has (48 * y1 + y2) = 0
          · simp only [hh, if_true]
            exact ⟨_, rfl, rfl⟩
          · simp only [hh, if_false]
            have hog : y2 ≤ g := (I.2.2.1 y1 h1 y2 h2).2.2.1 ((I.2.2.1 y1 h1 y2 h2).1.resolve_left (by rw [f1]; exact hh))
            rw [c_entriesIn R.ct.1 hg hog, c_thereIn R.ct.1 hg hog, r_copyL R5.ct.2.1 hg (by omega)]
            simp only [o1_s]
            rcases (show y3 = 0 ∨ y3 = 1 ∨ y3 = 2 ∨ y3 = 3 ∨ y3 = 4 by omega) with rfl | rfl | rfl | rfl | rfl
            · rw [if_neg (by decide), if_pos (by decide), if_neg (by decide), f2]
              by_cases hd : z.2.1 m_isDirectory y2 = 0
              · rw [if_neg (fun x => x.elim hh (fun y => y hd)), if_pos hd, if_pos (by decide)]; exact ⟨_, rfl, rfl⟩
              · rw [if_pos (Or.inr hd), if_neg hd]; exact ⟨_, rfl, rfl⟩
            · rw [if_neg (by decide), if_neg (by decide), if_pos (by decide), if_neg (by decide), f3]
              by_cases hd : z.2.1 m_isDirectory y2 = 0
              · rw [if_neg (fun x => x.elim hh (fun y => y hd)), if_pos hd, if_neg (by decide), if_pos (by decide)]; exact ⟨_, rfl, rfl⟩
              · rw [if_pos (Or.inr hd), if_neg hd]; exact ⟨_, rfl, rfl⟩
            · rw [if_neg (by decide), if_neg (by decide), if_neg (by decide), if_pos (by decide), if_neg (by decide)]
              by_cases hd : z.2.1 m_isDirectory y2 = 0
              · rw [if_pos hd, if_neg (by decide), if_neg (by decide)]; exact ⟨_, rfl, rfl⟩
              · have hn0 : n = 0 := Classical.byContradiction fun x => hd (by rw [← hdir]; exact (n3 x).2.1)
                rw [if_neg hd, hn0]; exact ⟨_, rfl, rfl⟩
            · rw [if_neg (by decide), if_neg (by decide), if_neg (by decide), if_neg (by decide), if_pos (by decide), if_pos (by decide), show nI 3 = 3 from rfl, (copy_eq R5 I h1 hog).1]; exact ⟨_, rfl, rfl⟩
            · rw [if_pos (by decide), if_pos (by decide), (copy_eq R5 I h1 hog).2 (nI 4) (by decide)]; exact ⟨_, rfl, rfl⟩
        obtain ⟨v, k1, k2⟩ := key
        exact q_copy k1 k2 (g66 _ _) (by omega) (fun _ => rfl) (h.thr hN.2 0)
      · have c1 : f_X10_copy N z.1 (nI y1) (nI y2) a3 = some (1, 0, z.1) := by
          unfold f_X10_copy
          simp only [c_checkServer_ok R.c0 hN.2 h1, c_checkObject_ok h2, c_checkWhat_bad (n := 5) (hi := 4) bad (by omega) (by omega) rfl, o1_s, lt_d, R.c0, if_true, if_false, Nat.one_ne_zero, show (2 = 0) = False from eq_false (by decide)]
        have r1 : f_X11_copy z.2.1 (nI y1) (nI y2) a3 = some (0, gset z.2.1 m_o 66 1) := by
          unfold f_X11_copy
          simp only [r_isServer_ok R.n0 hN.2 h1, r_isObject_ok h2, in_bad (n := 5) (hi := 4) bad (by omega) (by omega) rfl, o1_s, jn_d, one_0, if_true, lt_d, R.n1, g66, le_10, le_20, if_false]
        exact q_copy c1 r1 (g66 _ _) (by omega) (fun h => absurd h (by decide)) (h.thr hN.2 1)
    · have c1 : f_X10_copy N z.1 (nI y1) a2 a3 = some (1, 0, z.1) := by
        unfold f_X10_copy
        simp only [c_checkServer_ok R.c0 hN.2 h1, c_checkObject_bad bad, o1_s, lt_d, R.c0, if_true, if_false, Nat.one_ne_zero, show (2 = 0) = False from eq_false (by decide)]
      have r1 : f_X11_copy z.2.1 (nI y1) a2 a3 = some (0, gset z.2.1 m_o 66 1) := by
        unfold f_X11_copy
        simp only [r_isServer_ok R.n0 hN.2 h1, r_isObject_bad bad, o1_s, jn_d, one_0, if_true, lt_d, R.n1, g66, le_10, le_20, if_false]
      exact q_copy c1 r1 (g66 _ _) (by omega) (fun h => absurd h (by decide)) (h.thr hN.2 1)
  · have c1 : f_X10_copy N z.1 a1 a2 a3 = some (1, 0, z.1) := by
      unfold f_X10_copy
      simp only [c_checkServer_bad R.c0 bad, o1_s, lt_d, R.c0, if_true, if_false, Nat.one_ne_zero, show (2 = 0) = False from eq_false (by decide)]
    have r1 : f_X11_copy z.2.1 a1 a2 a3 = some (0, gset z.2.1 m_o 66 1) := by
      unfold f_X11_copy
      simp only [r_isServer_bad R.n0 hN.1 hN.2 bad, o1_s, jn_d, one_0, if_true, lt_d, R.n1, g66, le_10, le_20, if_false]
    exact q_copy c1 r1 (g66 _ _) (by omega) (fun h => absurd h (by decide)) (h.thr hN.2 1)
set_option maxHeartbeats 1000000 in
theorem st_cached (hN : 1 ≤ N ∧ N ≤ 4) (hT : T ≤ 500) (h : St N T z.1 z.2.1) : ∃ z1, s_cached N z a1 a2 a3 = some z1 ∧ St N (T + 1) z1.1 z1.2.1 := by
  obtain ⟨g, R, I, U, O⟩ := id h
  have hg := I.1.1
  rcases rng a1 4 (by omega) with ⟨y1, h1, rfl⟩ | bad
  · rcases rng a2 48 (by omega) with ⟨y2, h2, rfl⟩ | bad
    · rcases rng a3 5 (by omega) with ⟨y3, h3, rfl⟩ | bad
      · obtain ⟨f1, f2, f3, -, -, -, f7, f8⟩ := R.kl h1 h2
        have R5 := R.at0 hN.2 0
        have key : ∃ v : Int64, f_X10_cached N z.1 (nI y1) (nI y2) (nI y3) = some (0, v, z.1) ∧ f_X11_cached z.2.1 (nI y1) (nI y2) (nI y3) = some (v, gset z.2.1 m_o 66 0) := by
          unfold f_X10_cached f_X11_cached
          simp only [c_checkClient_ok h1, c_checkObject_ok h2, c_checkWhat_ok (n := 5) (hi := 4) h3 (by omega) rfl, o1_s, if_true, ix_n h1 (show 4 ≤ 16384 by omega), lt_d, rd_n h2 (show 48 ≤ 16384 by omega), r_isClient_ok h1, r_isObject_ok h2, in_ok (n := 5) (hi := 4) h3 (by omega) rfl, jn_d, one_0, if_false, g66, le_00, nI_m48, nI_add, rd_n (show 48 * y1 + y2 < 192 by omega) (show 192 ≤ 16384 by omega), g66n (show (22 : Nat) ≠ 0 by decide), g66n (show (23 : Nat) ≠ 0 by decide), g66n (show (24 : Nat) ≠ 0 by decide), g66n (show (10 : Nat) ≠ 0 by decide), g66n (show (26 : Nat) ≠ 0 by decide), g66n (show (27 : Nat) ≠ 0 by decide), c_nearClient R.1.2.1 hN.2 h1, c_isGood h2, r_isGood R5 hN.2 h1 h2, f1, (R.ct.2.2 y2 h2).2.2]
          by_cases hh : z.2.1 m_kept (48 * y1 + y2) = 0
          · simp only [hh, if_true]
            exact ⟨_, rfl, rfl⟩
          · simp only [hh, if_false]
            have hog : y2 ≤ g := (I.2.2.2.2.1 y1 h1 y2 h2).2.2.2.1 ((I.2.2.2.2.1 y1 h1 y2 h2).1.resolve_left (by rw [f1]; exact hh))
            rw [c_thereIn R.ct.1 hg hog, r_keptThere R5.ct.2.1 hg h1, kept_eq R5 I.1 h1 hog]
            simp only [o1_s]
            rcases (show y3 = 0 ∨ y3 = 1 ∨ y3 = 2 ∨ y3 = 3 ∨ y3 = 4 by omega) with rfl | rfl | rfl | rfl | rfl
            · simp only [eq_false (show ¬ ((nI 0).toInt < 0 ∨ 3 < (nI 0).toInt) by decide), eq_true (show nI 0 = 0 from rfl), if_true, if_false]
              rw [f2]
              by_cases hd : z.2.1 m_isDirectory y2 = 0
              · rw [if_pos hd, if_pos hd, if_neg (fun x => x.elim hh (fun y => y hd))]; exact ⟨_, rfl, rfl⟩
              · rw [if_neg hd, if_neg hd]; exact ⟨_, rfl, rfl⟩
            · simp only [eq_false (show ¬ ((nI 1).toInt < 0 ∨ 3 < (nI 1).toInt) by decide), eq_false (show ¬ nI 1 = 0 by decide), eq_true (show nI 1 = 1 from rfl), if_true, if_false]
              rw [f3]
              by_cases hd : z.2.1 m_isDirectory y2 = 0
              · rw [if_neg (fun x => x.elim hh (fun y => y hd)), if_pos hd]; exact ⟨_, rfl, rfl⟩
              · rw [if_pos (Or.inr hd), if_neg hd]; exact ⟨_, rfl, rfl⟩
            · simp only [eq_false (show ¬ ((nI 2).toInt < 0 ∨ 3 < (nI 2).toInt) by decide), eq_false (show ¬ nI 2 = 0 by decide), eq_false (show ¬ nI 2 = 1 by decide), eq_true (show nI 2 = 2 from rfl), if_true, if_false]
              rw [f7]; exact ⟨_, rfl, rfl⟩
            · simp only [eq_false (show ¬ ((nI 3).toInt < 0 ∨ 3 < (nI 3).toInt) by decide), eq_false (show ¬ nI 3 = 0 by decide), eq_false (show ¬ nI 3 = 1 by decide), eq_false (show ¬ nI 3 = 2 by decide), eq_true (show nI 3 = 3 from rfl), if_true, if_false]
              rw [f8]
              by_cases hd : z.2.1 m_dirty (48 * y1 + y2) = 0
              · rw [if_pos hd, if_pos hd]; exact ⟨_, rfl, rfl⟩
              · rw [if_neg hd, if_neg hd]; exact ⟨_, rfl, rfl⟩
            · simp only [eq_true (show (nI 4).toInt < 0 ∨ 3 < (nI 4).toInt by decide), eq_false (show ¬ nI 4 = 0 by decide), eq_false (show ¬ nI 4 = 1 by decide), eq_false (show ¬ nI 4 = 2 by decide), eq_false (show ¬ nI 4 = 3 by decide), if_true, if_false]
              cases cGd z.1 y1 y2 (cNr N z.1 y1)
              · exact ⟨_, rfl, rfl⟩
              · exact ⟨_, rfl, rfl⟩
        obtain ⟨v, k1, k2⟩ := key
        exact q_cached k1 k2 (g66 _ _) (by omega) (fun _ => rfl) (h.thr hN.2 0)
      · have c1 : f_X10_cached N z.1 (nI y1) (nI y2) a3 = some (1, 0, z.1) := by
          unfold f_X10_cached
          simp only [c_checkClient_ok h1, c_checkObject_ok h2, c_checkWhat_bad (n := 5) (hi := 4) bad (by omega) (by omega) rfl, o1_s, lt_d, R.c0, if_true, if_false, Nat.one_ne_zero, show (2 = 0) = False from eq_false (by decide)]
        have r1 : f_X11_cached z.2.1 (nI y1) (nI y2) a3 = some (0, gset z.2.1 m_o 66 1) := by
          unfold f_X11_cached
          simp only [r_isClient_ok h1, r_isObject_ok h2, in_bad (n := 5) (hi := 4) bad (by omega) (by omega) rfl, o1_s, jn_d, one_0, if_true, lt_d, R.n1, g66, le_10, le_20, if_false]
        exact q_cached c1 r1 (g66 _ _) (by omega) (fun h => absurd h (by decide)) (h.thr hN.2 1)
    · have c1 : f_X10_cached N z.1 (nI y1) a2 a3 = some (1, 0, z.1) := by
        unfold f_X10_cached
        simp only [c_checkClient_ok h1, c_checkObject_bad bad, o1_s, lt_d, R.c0, if_true, if_false, Nat.one_ne_zero, show (2 = 0) = False from eq_false (by decide)]
      have r1 : f_X11_cached z.2.1 (nI y1) a2 a3 = some (0, gset z.2.1 m_o 66 1) := by
        unfold f_X11_cached
        simp only [r_isClient_ok h1, r_isObject_bad bad, o1_s, jn_d, one_0, if_true, lt_d, R.n1, g66, le_10, le_20, if_false]
      exact q_cached c1 r1 (g66 _ _) (by omega) (fun h => absurd h (by decide)) (h.thr hN.2 1)
  · have c1 : f_X10_cached N z.1 a1 a2 a3 = some (1, 0, z.1) := by
      unfold f_X10_cached
      simp only [c_checkClient_bad bad, o1_s, lt_d, R.c0, if_true, if_false, Nat.one_ne_zero, show (2 = 0) = False from eq_false (by decide)]
    have r1 : f_X11_cached z.2.1 a1 a2 a3 = some (0, gset z.2.1 m_o 66 1) := by
      unfold f_X11_cached
      simp only [r_isClient_bad bad, o1_s, jn_d, one_0, if_true, lt_d, R.n1, g66, le_10, le_20, if_false]
    exact q_cached c1 r1 (g66 _ _) (by omega) (fun h => absurd h (by decide)) (h.thr hN.2 1)
/-! the i-th entry of a directory -/
def nthF (p : Nat → Bool) : Nat → Nat → Nat → Option Nat
  | _, _, 0 => none
  | i, k, m + 1 => if p k then (if i = 0 then some k else nthF p (i - 1) (k + 1) m) else nthF p i (k + 1) m
theorem nthF_congr {p q : Nat → Bool} : ∀ (m k i : Nat), (∀ j, k ≤ j → j < k + m → p j = q j) → nthF p i k m = nthF q i k m := by
  intro m
  induction m with
  | zero => intro k i _; rfl
  | succ m ih =>
    intro k i h
    show (if p k then (if i = 0 then some k else nthF p (i - 1) (k + 1) m) else nthF p i (k + 1) m) = (if q k then (if i = 0 then some k else nthF q (i - 1) (k + 1) m) else nthF q i (k + 1) m)
    rw [h k (by omega) (by omega), ih (k + 1) i (fun j a b => h j (by omega) (by omega)), ih (k + 1) (i - 1) (fun j a b => h j (by omega) (by omega))]
theorem nthF_skip {p : Nat → Bool} : ∀ (d k m i : Nat), (∀ j, k ≤ j → j < k + d → p j = false) → nthF p i k (d + m) = nthF p i (k + d) m := by
  intro d
  induction d with
  | zero => intro k m i _; rw [Nat.zero_add, Nat.add_zero]
  | succ d ih =>
    intro k m i h
    rw [show d + 1 + m = (d + m) + 1 by omega]
    show (if p k then (if i = 0 then some k else nthF p (i - 1) (k + 1) (d + m)) else nthF p i (k + 1) (d + m)) = _
    rw [if_neg (by rw [h k (by omega) (by omega)]; decide), ih (k + 1) m i (fun j a b => h j (by omega) (by omega)), show k + 1 + d = k + (d + 1) by omega]
theorem nthF_in {p : Nat → Bool} : ∀ (m k i x : Nat), nthF p i k m = some x → k ≤ x ∧ x < k + m ∧ p x = true := by
  intro m
  induction m with
  | zero => intro k i x h; cases h
  | succ m ih =>
    intro k i x h
    by_cases hp : p k = true
    · have e : nthF p i k (m + 1) = if i = 0 then some k else nthF p (i - 1) (k + 1) m := if_pos hp
      rw [e] at h
      by_cases hi : i = 0
      · rw [if_pos hi] at h
        cases h
        exact ⟨Nat.le_refl _, by omega, hp⟩
      · rw [if_neg hi] at h
        obtain ⟨a, b, c⟩ := ih (k + 1) (i - 1) x h
        exact ⟨by omega, by omega, c⟩
    · have e : nthF p i k (m + 1) = nthF p i (k + 1) m := if_neg hp
      rw [e] at h
      obtain ⟨a, b, c⟩ := ih (k + 1) i x h
      exact ⟨by omega, by omega, c⟩
theorem c_entryAt {i : Nat} (h1 : M (1, 0, 0) 3 = nI g) (hg : g ≤ 47) (hog : o ≤ g) (hi : i < 2 ^ 31) : f_X8_entryAt N M t (nI o) (nI i) = some (enc (nthF (kidE M t o) i (o + 1) (g - o))) := by
  have H : ∀ m k fu b, k + m = g + 1 → m < fu → b ≤ i → b + m ≤ 1000 → f_X8_entryAt_L7 N M t (nI o) (nI i) fu (nI b) (nI k) = some (enc (nthF (kidE M t o) (i - b) k m)) := by
    intro m
    induction m with
    | zero =>
      intro k fu b hk hf hb hq
      obtain ⟨fu, rfl⟩ : ∃ q, fu = q + 1 := ⟨fu - 1, by omega⟩
      simp only [f_X8_entryAt_L7, lt_d, h1]
      rw [if_pos (nI_lt (by omega) (by omega))]
      rfl
    | succ m ih =>
      intro k fu b hk hf hb hq
      obtain ⟨fu, rfl⟩ : ∃ q, fu = q + 1 := ⟨fu - 1, by omega⟩
      simp only [f_X8_entryAt_L7, lt_d, h1, jn_d, nI_1]
      rw [if_neg (nI_nlt (by omega) (by omega)), c_isEntryOf (by omega), o1_s]
      cases hp : kidE M t o k with
      | false =>
        have e : nthF (kidE M t o) (i - b) k (m + 1) = nthF (kidE M t o) (i - b) (k + 1) m := if_neg (by rw [hp]; decide)
        rw [zb_f, if_pos rfl, ih (k + 1) fu b (by omega) (by omega) hb (by omega), e]
      | true =>
        have e : nthF (kidE M t o) (i - b) k (m + 1) = if i - b = 0 then some k else nthF (kidE M t o) (i - b - 1) (k + 1) m := if_pos hp
        rw [zb_t, if_neg (by decide), e]
        by_cases hbi : b = i
        · rw [if_pos (by rw [hbi]), if_pos (by omega)]; rfl
        · rw [if_neg (fun x => hbi ((nI_eq (by omega) hi).mp x)), if_neg (by omega), ih (k + 1) fu (b + 1) (by omega) (by omega) (by omega) (by omega), show i - b - 1 = i - (b + 1) by omega]
  unfold f_X8_entryAt
  rw [lt_d, nI_1]
  exact H (g - o) (o + 1) 100 0 (by omega) (by omega) (by omega) (by omega)
theorem c_entryAt_neg {a : Int32} (h1 : M (1, 0, 0) 3 = nI g) (hg : g ≤ 47) (ho : o < 48) (ha : a < 0) : f_X8_entryAt N M t (nI o) a = some (-1) := by
  have H : ∀ m k fu b, k + m = 50 → m < fu → b + m ≤ 1000 → f_X8_entryAt_L7 N M t (nI o) a fu (nI b) (nI k) = some (-1) := by
    intro m
    induction m with
    | zero =>
      intro k fu b hk hf hq
      obtain ⟨fu, rfl⟩ : ∃ q, fu = q + 1 := ⟨fu - 1, by omega⟩
      simp only [f_X8_entryAt_L7, lt_d, h1]
      rw [if_pos (nI_lt (by omega) (by omega))]
    | succ m ih =>
      intro k fu b hk hf hq
      obtain ⟨fu, rfl⟩ : ∃ q, fu = q + 1 := ⟨fu - 1, by omega⟩
      simp only [f_X8_entryAt_L7, lt_d, h1, jn_d, nI_1]
      by_cases hgk : g < k
      · rw [if_pos (nI_lt hgk (by omega))]
      · rw [if_neg (nI_nlt (by omega) (by omega)), c_isEntryOf (by omega), o1_s]
        cases hp : kidE M t o k with
        | false => rw [zb_f, if_pos rfl, ih (k + 1) fu b (by omega) (by omega) (by omega)]
        | true => rw [zb_t, if_neg (by decide), if_neg (fun x => by rw [← x] at ha; exact (nI_pos (show b < 2 ^ 31 by omega)) ha), ih (k + 1) fu (b + 1) (by omega) (by omega) (by omega)]
  unfold f_X8_entryAt
  rw [lt_d, nI_1]
  exact H (49 - o) (o + 1) 100 0 (by omega) (by omega) (by omega)
/-- an entry's search without end is none for what isn't made -/
theorem c_entryAt_un {a : Int32} (h1 : M (1, 0, 0) 3 = nI g) (hg : g ≤ 47) (ho : o < 48) (hog : g < o) : f_X8_entryAt N M t (nI o) a = some (-1) := by
  unfold f_X8_entryAt
  rw [lt_d, nI_1, show (100 : Nat) = 99 + 1 from rfl, f_X8_entryAt_L7, lt_d, h1, if_pos (nI_lt (by omega) (by omega))]
def rEnt (g : Nat) (M : gM) (s o : Nat) (x : Nat) : Bool := decide ((1 ≤ x ∧ x ≤ g ∧ M m_parent x = nI o) ∧ ¬ M m_entry (48 * s + x) ≤ 0)
theorem r_entryL {i : Nat} {J : Int32 × gM → Option (Int64 × gM)} (h6 : M m_o 6 = nI (g + 1)) (hg : g ≤ 47) (hs : s < 4) (hi : i < 2 ^ 31) : f_X11_entry_L67 (nI s) (nI o) (nI i) a4 J 100 (nI i) (1 : Int32) M = (match nthF (rEnt g M s o) i 1 g with | none => some ((-2199023255552 : Int64), M) | some x => J (nI x, M)) := by
  have H : ∀ m k fu r, 1 ≤ k → k + m = g + 1 → m < fu → r < 2 ^ 31 → f_X11_entry_L67 (nI s) (nI o) (nI i) a4 J fu (nI r) (nI k) M = (match nthF (rEnt g M s o) r k m with | none => some ((-2199023255552 : Int64), M) | some x => J (nI x, M)) := by
    intro m
    induction m with
    | zero =>
      intro k fu r _ hk hf hr
      obtain ⟨fu, rfl⟩ : ∃ q, fu = q + 1 := ⟨fu - 1, by omega⟩
      simp only [f_X11_entry_L67, lt_d, h6]
      rw [if_pos (nI_le (by omega) (by omega))]
      rfl
    | succ m ih =>
      intro k fu r hk1 hk hf hr
      obtain ⟨fu, rfl⟩ : ∃ q, fu = q + 1 := ⟨fu - 1, by omega⟩
      simp only [f_X11_entry_L67, lt_d, h6, jn_d, nI_m48, nI_add, nI_1]
      rw [if_neg (nI_ge (by omega) (by omega)), if_neg (nI_pos hi), r_isChild h6 hg (by omega), o1_s]
      have no : rEnt g M s o k = false → f_X11_entry_L67 (nI s) (nI o) (nI i) a4 J fu (nI r) (nI (k + 1)) M = (match nthF (rEnt g M s o) r k (m + 1) with | none => some ((-2199023255552 : Int64), M) | some x => J (nI x, M)) := fun h => by
        have e : nthF (rEnt g M s o) r k (m + 1) = nthF (rEnt g M s o) r (k + 1) m := if_neg (by rw [h]; decide)
        rw [ih (k + 1) fu r (by omega) (by omega) (by omega) hr, e]
      by_cases hp : 1 ≤ k ∧ k ≤ g ∧ M m_parent k = nI o
      · rw [decide_eq_true hp, zb_t, if_neg (by decide), rd_n (by omega) (by omega)]
        by_cases e1 : M m_entry (48 * s + k) ≤ 0
        · rw [if_pos e1]
          exact no (decide_eq_false (fun y => y.2 e1))
        · rw [if_neg e1]
          have e : nthF (rEnt g M s o) r k (m + 1) = if r = 0 then some k else nthF (rEnt g M s o) (r - 1) (k + 1) m := if_pos (decide_eq_true ⟨hp, e1⟩)
          rw [e]
          by_cases hr0 : r = 0
          · rw [if_pos hr0, if_pos (by rw [hr0]; rfl)]
          · obtain ⟨r', rfl⟩ : ∃ q, r = q + 1 := ⟨r - 1, by omega⟩
            rw [if_neg hr0, if_neg (nI_ne0 (by omega) hr), pk_m1, ih (k + 1) fu r' (by omega) (by omega) (by omega) (by omega), Nat.add_sub_cancel]
      · rw [decide_eq_false hp, zb_f, if_pos rfl]
        exact no (decide_eq_false (fun y => hp y.1))
  exact H g 1 100 i (by omega) (by omega) (by omega) hi
theorem r_entryL_neg {a : Int32} {J : Int32 × gM → Option (Int64 × gM)} (ha : a < 0) : f_X11_entry_L67 (nI s) (nI o) a a4 J 100 a (1 : Int32) M = some ((-2199023255552 : Int64), M) := by
  rw [show (100 : Nat) = 99 + 1 from rfl, f_X11_entry_L67, lt_d]
  by_cases e : M m_o 6 ≤ 1
  · rw [if_pos e]
  · rw [if_neg e, if_pos ha]
theorem nth_eq {i : Nat} (R : Rel N g Mc Mr) (I : Inv N g Mc) (hs : s < N) (hog : o ≤ g) : nthF (rEnt g Mr s o) i 1 g = nthF (kidE Mc s o) i (o + 1) (g - o) := by
  have hg := I.1.1
  have sk := nthF_skip (p := rEnt g Mr s o) o 1 (g - o) i (fun j h1 h2 => decide_eq_false (fun y => by
    have ep := (R.ct.2.2 j (by omega)).1
    have := kid_gt I.1 y.1.1 y.1.2.1 (by omega) (ep.trans y.1.2.2)
    omega))
  rw [show o + (g - o) = g by omega, show 1 + o = o + 1 by omega] at sk
  rw [sk]
  refine nthF_congr (g - o) (o + 1) i (fun j h1 h2 => ?_)
  have x1 := (R.ct.2.2 j (by omega)).1
  have x2 := (R.sv hs (show j < 48 by omega)).2.2.2.2.1
  have x3 := (I.2.2.1 s hs j (by omega)).2.1
  unfold rEnt kidE
  rw [Bool.eq_iff_iff, decide_eq_true_iff, decide_eq_true_iff, ← x1, ← x2]
  have x4 : (¬ Mc (56, s, 0) j ≤ 0) ↔ ¬ Mc (56, s, 0) j = 0 := by
    rcases x3 with y | y | y <;> rw [y] <;> decide
  rw [x4]
  exact ⟨fun y => ⟨y.1.2.2, y.2⟩, fun y => ⟨⟨by omega, by omega, y.1⟩, y.2⟩⟩
set_option maxHeartbeats 1000000 in
theorem st_entry (hN : 1 ≤ N ∧ N ≤ 4) (hT : T ≤ 500) (h : St N T z.1 z.2.1) : ∃ z1, s_entry N z a1 a2 a3 a4 = some z1 ∧ St N (T + 1) z1.1 z1.2.1 := by
  obtain ⟨g, R, I, U, O⟩ := id h
  have hg := I.1.1
  rcases rng a1 N (by omega) with ⟨y1, h1, rfl⟩ | bad
  · rcases rng a2 48 (by omega) with ⟨y2, h2, rfl⟩ | bad
    · rcases rng a4 3 (by omega) with ⟨y4, h4, rfl⟩ | bad
      · obtain ⟨f1, -, -, -, -, -, -, -, -⟩ := R.sv h1 h2
        have R5 := R.at0 hN.2 0
        have key : ∃ v : Int64, f_X10_entry N z.1 (nI y1) (nI y2) a3 (nI y4) = some (0, v, z.1) ∧ f_X11_entry z.2.1 (nI y1) (nI y2) a3 (nI y4) = some (v, gset z.2.1 m_o 66 0) := by
          unfold f_X10_entry f_X11_entry
          simp only [c_checkServer_ok R.c0 hN.2 h1, c_checkObject_ok h2, c_checkWhat_ok (n := 3) (hi := 2) h4 (by omega) rfl, o1_s, if_true, ix_n h1 (show N ≤ 16384 by omega), lt_d, r_isServer_ok R.n0 hN.2 h1, r_isObject_ok h2, in_ok (n := 3) (hi := 2) h4 (by omega) rfl, jn_d, one_0, if_false, g66, le_00, nI_m48, nI_add, rd_n (show 48 * y1 + y2 < 192 by omega) (show 192 ≤ 16384 by omega), g66n (show (11 : Nat) ≠ 0 by decide)]
          by_cases hh : z.2.1 m_has (48 * y1 + y2) = 0
          · have hno : f_X8_entryAt N z.1 y1 (nI y2) a3 = some (-1) := by
              by_cases hneg : a3 < 0
              · exact c_entryAt_neg R.ct.1 hg h2 hneg
              · obtain ⟨i, hi, rfl⟩ := nI_of hneg
                rcases Nat.lt_or_ge g y2 with q | q
                · exact c_entryAt_un R.ct.1 hg h2 q
                · have hk : ∀ j, y2 + 1 ≤ j → j < y2 + 1 + (g - y2) → kidE z.1 y1 y2 j = (fun _ => false) j := fun j e1 e2 => decide_eq_false (fun (y : z.1 (2, 0, 0) j = nI y2 ∧ ¬ z.1 (56, y1, 0) j = 0) => by
                    have := ((I.2.2.1 y1 h1 j (by omega)).2.2.2.2 y2 h2 (by omega) y.1).2 y.2
                    rw [f1, hh] at this
                    exact absurd this (by decide))
                  rw [c_entryAt R.ct.1 hg q hi, nthF_congr (g - y2) (y2 + 1) i hk]
                  cases hq : nthF (fun _ => false) i (y2 + 1) (g - y2) with
                  | none => rfl
                  | some x => exact absurd (nthF_in _ _ _ _ hq).2.2 (by decide)
            simp only [hno, o1_s, if_true, hh]
            exact ⟨_, rfl, rfl⟩
          · simp only [hh, if_false]
            have hog : y2 ≤ g := (I.2.2.1 y1 h1 y2 h2).2.2.1 ((I.2.2.1 y1 h1 y2 h2).1.resolve_left (by rw [f1]; exact hh))
            by_cases hneg : a3 < 0
            · rw [c_entryAt_neg R.ct.1 hg h2 hneg, o1_s, if_pos rfl, r_entryL_neg hneg]
              exact ⟨_, rfl, rfl⟩
            · obtain ⟨i, hi, rfl⟩ := nI_of hneg
              rw [c_entryAt R.ct.1 hg hog hi, o1_s, r_entryL R5.ct.2.1 hg (by omega) hi, nth_eq R5 I h1 hog]
              cases hq : nthF (kidE z.1 y1 y2) i (y2 + 1) (g - y2) with
              | none => exact ⟨_, rfl, rfl⟩
              | some x =>
                obtain ⟨x1, x2, -⟩ := nthF_in _ _ _ _ hq
                have hx : x < 48 := by omega
                simp only [enc, nI_m1 (show x < 2 ^ 31 by omega), if_false, rd_n hx (show 48 ≤ 16384 by omega), rd_n (show 48 * y1 + x < 192 by omega) (show 192 ≤ 16384 by omega), g66n (show (9 : Nat) ≠ 0 by decide), g66n (show (19 : Nat) ≠ 0 by decide), nI_add, (R.ct.2.2 x hx).2.1, (R.sv h1 hx).2.2.2.2.1]
                by_cases e0 : nI y4 = 0
                · rw [if_pos e0, if_pos e0]; exact ⟨_, rfl, rfl⟩
                · rw [if_neg e0, if_neg e0]
                  by_cases e1 : nI y4 = 1
                  · rw [if_pos e1, if_pos e1]; exact ⟨_, rfl, rfl⟩
                  · rw [if_neg e1, if_neg e1]
                    by_cases e2 : z.2.1 m_entry (48 * y1 + x) = 2
                    · rw [if_pos e2, if_pos e2]; exact ⟨_, rfl, rfl⟩
                    · rw [if_neg e2, if_neg e2]; exact ⟨_, rfl, rfl⟩
        obtain ⟨v, k1, k2⟩ := key
        exact q_entry k1 k2 (g66 _ _) (by omega) (fun _ => rfl) (h.thr hN.2 0)
      · have c1 : f_X10_entry N z.1 (nI y1) (nI y2) a3 a4 = some (1, 0, z.1) := by
          unfold f_X10_entry
          simp only [c_checkServer_ok R.c0 hN.2 h1, c_checkObject_ok h2, c_checkWhat_bad (n := 3) (hi := 2) bad (by omega) (by omega) rfl, o1_s, lt_d, R.c0, if_true, if_false, Nat.one_ne_zero, show (2 = 0) = False from eq_false (by decide)]
        have r1 : f_X11_entry z.2.1 (nI y1) (nI y2) a3 a4 = some (0, gset z.2.1 m_o 66 1) := by
          unfold f_X11_entry
          simp only [r_isServer_ok R.n0 hN.2 h1, r_isObject_ok h2, in_bad (n := 3) (hi := 2) bad (by omega) (by omega) rfl, o1_s, jn_d, one_0, if_true, lt_d, R.n1, g66, le_10, le_20, if_false]
        exact q_entry c1 r1 (g66 _ _) (by omega) (fun h => absurd h (by decide)) (h.thr hN.2 1)
    · have c1 : f_X10_entry N z.1 (nI y1) a2 a3 a4 = some (1, 0, z.1) := by
        unfold f_X10_entry
        simp only [c_checkServer_ok R.c0 hN.2 h1, c_checkObject_bad bad, o1_s, lt_d, R.c0, if_true, if_false, Nat.one_ne_zero, show (2 = 0) = False from eq_false (by decide)]
      have r1 : f_X11_entry z.2.1 (nI y1) a2 a3 a4 = some (0, gset z.2.1 m_o 66 1) := by
        unfold f_X11_entry
        simp only [r_isServer_ok R.n0 hN.2 h1, r_isObject_bad bad, o1_s, jn_d, one_0, if_true, lt_d, R.n1, g66, le_10, le_20, if_false]
      exact q_entry c1 r1 (g66 _ _) (by omega) (fun h => absurd h (by decide)) (h.thr hN.2 1)
  · have c1 : f_X10_entry N z.1 a1 a2 a3 a4 = some (1, 0, z.1) := by
      unfold f_X10_entry
      simp only [c_checkServer_bad R.c0 bad, o1_s, lt_d, R.c0, if_true, if_false, Nat.one_ne_zero, show (2 = 0) = False from eq_false (by decide)]
    have r1 : f_X11_entry z.2.1 a1 a2 a3 a4 = some (0, gset z.2.1 m_o 66 1) := by
      unfold f_X11_entry
      simp only [r_isServer_bad R.n0 hN.1 hN.2 bad, o1_s, jn_d, one_0, if_true, lt_d, R.n1, g66, le_10, le_20, if_false]
    exact q_entry c1 r1 (g66 _ _) (by omega) (fun h => absurd h (by decide)) (h.thr hN.2 1)
end CP
