/-! layer 2: copies alike -/
def lst (N : Nat) (v : Int32) : Nat := if lsF (bt v) 0 N < N then lsF (bt v) 0 N else 0
/-- copies in two trees -/
def cCl (N g : Nat) (M : gM) (i0 i1 o : Nat) : Bool := decide (M (51, i0, 0) o = M (51, i1, 0) o) && (decide (M (52, i0, 0) o = M (52, i1, 0) o) && (decide (M (53, i0, 0) o = M (53, i1, 0) o) && (rEq (M (55, i0, o)) (M (55, i1, o)) 0 (N + 4) && aF (fun p => !decide (M (2, 0, 0) p = nI o) || (decide (M (56, i0, 0) p = M (56, i1, 0) p) && rEq (M (58, i0, p)) (M (58, i1, p)) 0 (N + 4))) (o + 1) (g - o))))
/-- two rows of versions, the first of n -/
def cVl (N : Nat) (M : gM) (v0 v1 : Nat) : Nat → Nat → Bool := aF (fun i => decide (M (61, v0, 0) i = M (61, v1, 0) i) && (decide (M (62, v0, 0) i = M (62, v1, 0) i) && rEq (M (64, v0, i)) (M (64, v1, i)) 0 (N + 4)))
theorem aF_s {p : Nat → Bool} (k m : Nat) : aF p k (m + 1) = (p k && aF p (k + 1) m) := rfl
section AL
variable {N g B s o c d x z T n t i0 i1 v0 v1 n0 n1 : Nat} {M M' Mc Mr Mc' Mr' : gM} {v w a1 a2 a3 a4 : Int32}
theorem c_leastOf (hN : N ≤ 4) : f_X6_leastOf N M v = some (nI (lst N v)) := by
  have H : ∀ m k fu, k + m = N → m < fu → f_X6_leastOf_L2 N M v fu (nI k) = some (nI (if lsF (bt v) k m < k + m then lsF (bt v) k m else 0)) := by
    intro m
    induction m with
    | zero =>
      intro k fu hk hf
      obtain ⟨fu, rfl⟩ : ∃ q, fu = q + 1 := ⟨fu - 1, by omega⟩
      simp only [f_X6_leastOf_L2]
      rw [if_pos (nI_le (by omega) (by omega)), if_neg (by show ¬ k < k + 0; omega)]
      rfl
    | succ m ih =>
      intro k fu hk hf
      obtain ⟨fu, rfl⟩ : ∃ q, fu = q + 1 := ⟨fu - 1, by omega⟩
      simp only [f_X6_leastOf_L2, lt_d]
      rw [if_neg (nI_ge (by omega) (by omega)), c_isIn v (by omega), o1_s, fst_s]
      have hi := ih (k + 1) fu (by omega) (by omega)
      rw [show k + 1 + m = k + (m + 1) by omega] at hi
      cases hb : bt v k with
      | true => rw [zb_t, if_neg (by decide), if_pos rfl, if_pos (by omega)]
      | false => rw [zb_f, if_pos rfl, nI_1, hi]; rfl
  have h0 := H N 0 100 (by omega) (by omega)
  rw [show 0 + N = N by omega] at h0
  exact h0
theorem lst_lt (hN : 1 ≤ N) : lst N v < N := by unfold lst; split <;> omega
theorem lst_in {s : Nat} (hs : s < N) (hb : bt v s = true) : lst N v < N ∧ bt v (lst N v) = true ∧ lst N v ≤ s := by
  obtain ⟨⟨a, b⟩, c, d⟩ := lsF_spec (f := bt v) N 0
  have hle : lsF (bt v) 0 N ≤ s := by
    rcases Nat.lt_or_ge s (lsF (bt v) 0 N) with h | h
    · rw [d s (by omega) h] at hb; exact absurd hb (by decide)
    · exact h
  have : lst N v = lsF (bt v) 0 N := by unfold lst; rw [if_pos (by omega)]
  rw [this]
  exact ⟨by omega, c (by omega), hle⟩
theorem c_isCopyLike8 (hN : N ≤ 4) (h1 : M (1, 0, 0) 3 = nI g) (hg : g ≤ 47) (hog : o ≤ g) : f_X8_isCopyLike N M i0 i1 (nI o) = some (zb (cCl N g M i0 i1 o)) := by
  have H : ∀ m k fu, k + m = g + 1 → m < fu → f_X8_isCopyLike_L69 N M i0 i1 (nI o) fu (nI k) = some (zb (aF (fun p => !decide (M (2, 0, 0) p = nI o) || (decide (M (56, i0, 0) p = M (56, i1, 0) p) && rEq (M (58, i0, p)) (M (58, i1, p)) 0 (N + 4))) k m)) := by
    intro m
    induction m with
    | zero =>
      intro k fu hk hf
      obtain ⟨fu, rfl⟩ : ∃ q, fu = q + 1 := ⟨fu - 1, by omega⟩
      simp only [f_X8_isCopyLike_L69, lt_d, h1]
      rw [if_pos (nI_lt (by omega) (by omega))]
      rfl
    | succ m ih =>
      intro k fu hk hf
      obtain ⟨fu, rfl⟩ : ∃ q, fu = q + 1 := ⟨fu - 1, by omega⟩
      simp only [f_X8_isCopyLike_L69, lt_d, jn_d, h1]
      rw [if_neg (nI_nlt (by omega) (by omega)), rd_n (by omega) (by omega), aF_s]
      by_cases e1 : M (2, 0, 0) k = nI o
      · rw [if_pos e1, rd_n (by omega) (by omega), rd_n (by omega) (by omega), decide_eq_true e1, Bool.not_true, Bool.false_or]
        by_cases e2 : M (56, i0, 0) k = M (56, i1, 0) k
        · rw [if_pos e2, ix_n (by omega) (by omega), ix_n (by omega) (by omega), c_isSame (cN58 _ _ _) (cN58 _ _ _) (by omega), o1_s, decide_eq_true e2, Bool.true_and]
          cases rEq (M (58, i0, k)) (M (58, i1, k)) 0 (N + 4) with
          | false => rw [zb_f, if_pos rfl]; rfl
          | true => rw [zb_t, if_neg (by decide), nI_1, ih (k + 1) fu (by omega) (by omega), Bool.true_and]
        · rw [if_neg e2, decide_eq_false e2]; rfl
      · rw [if_neg e1, nI_1, ih (k + 1) fu (by omega) (by omega), decide_eq_false e1]; rfl
  unfold f_X8_isCopyLike cCl
  have ho : o < 48 := by omega
  rw [rd_n ho (by omega), rd_n ho (by omega)]
  by_cases e1 : M (51, i0, 0) o = M (51, i1, 0) o
  · rw [if_pos e1, rd_n ho (by omega), rd_n ho (by omega), decide_eq_true e1, Bool.true_and]
    by_cases e2 : M (52, i0, 0) o = M (52, i1, 0) o
    · rw [if_pos e2, rd_n ho (by omega), rd_n ho (by omega), decide_eq_true e2, Bool.true_and]
      by_cases e3 : M (53, i0, 0) o = M (53, i1, 0) o
      · rw [if_pos e3, ix_n ho (by omega), ix_n ho (by omega), c_isSame (cN55 _ _ _) (cN55 _ _ _) (by omega), o1_s, decide_eq_true e3, Bool.true_and]
        cases rEq (M (55, i0, o)) (M (55, i1, o)) 0 (N + 4) with
        | false => rw [zb_f, if_pos rfl]; rfl
        | true => rw [zb_t, if_neg (by decide), lt_d, nI_1, H (g - o) (o + 1) 100 (by omega) (by omega), Bool.true_and]
      · rw [if_neg e3, decide_eq_false e3]; rfl
    · rw [if_neg e2, decide_eq_false e2]; rfl
  · rw [if_neg e1, decide_eq_false e1]; rfl
theorem cMost_lt {v : Nat} (h : v < 192) : cMost v = 6 := by unfold cMost; rw [if_neg (by omega)]
theorem c_isAt {i : Nat} {row : gI} (hN : N ≤ 4) (hi : i < cMost v0) (hm : cMost v0 ≤ 24) (hr : cN N row = N + 4) : f_X9_isAt N M v0 (nI i) a2 a3 row = some (zb (decide (M (61, v0, 0) i = a2) && (decide (M (62, v0, 0) i = a3) && rEq (M (64, v0, i)) (M row) 0 (N + 4)))) := by
  unfold f_X9_isAt
  rw [rd_n hi (by omega)]
  by_cases e1 : M (61, v0, 0) i = a2
  · rw [if_pos e1, rd_n hi (by omega), decide_eq_true e1, Bool.true_and]
    by_cases e2 : M (62, v0, 0) i = a3
    · rw [if_pos e2, ix_n hi (by omega), c_isSame (cN64 _ _ _) hr (by omega), o1_s, decide_eq_true e2, Bool.true_and]
      cases rEq (M (64, v0, i)) (M row) 0 (N + 4) <;> rfl
    · rw [if_neg e2, decide_eq_false e2]; rfl
  · rw [if_neg e1, decide_eq_false e1]; rfl
theorem c_isLike9 (hN : N ≤ 4) (h0 : M (60, v0, 0) 3 = nI n0) (h1 : M (60, v1, 0) 3 = nI n1) (m0 : n0 ≤ cMost v0) (m1 : n1 ≤ cMost v1) (k0 : cMost v0 ≤ 24) (k1 : cMost v1 ≤ 24) : f_X9_isLike N M v0 v1 = some (zb (decide (n0 = n1) && cVl N M v0 v1 0 n0)) := by
  unfold f_X9_isLike
  simp only [lt_d]
  rw [h0, h1]
  by_cases e : n0 = n1
  · subst e
    have H : ∀ m k fu, k + m = n0 → m < fu → f_X9_isLike_L15 N M v0 v1 fu (nI k) = some (zb (cVl N M v0 v1 k m)) := by
      intro m
      induction m with
      | zero =>
        intro k fu hk hf
        obtain ⟨fu, rfl⟩ : ∃ q, fu = q + 1 := ⟨fu - 1, by omega⟩
        simp only [f_X9_isLike_L15, lt_d, h0]
        rw [if_pos (nI_le (by omega) (by omega))]
        rfl
      | succ m ih =>
        intro k fu hk hf
        obtain ⟨fu, rfl⟩ : ∃ q, fu = q + 1 := ⟨fu - 1, by omega⟩
        simp only [f_X9_isLike_L15, lt_d, h0]
        rw [if_neg (nI_ge (by omega) (by omega)), rd_n (by omega) (by omega), rd_n (by omega) (by omega), ix_n (by omega) (by omega), c_isAt hN (by omega) k0 (cN64 _ _ _), o1_s, show cVl N M v0 v1 k (m + 1) = ((decide (M (61, v0, 0) k = M (61, v1, 0) k) && (decide (M (62, v0, 0) k = M (62, v1, 0) k) && rEq (M (64, v0, k)) (M (64, v1, k)) 0 (N + 4))) && cVl N M v0 v1 (k + 1) m) from rfl]
        cases (decide (M (61, v0, 0) k = M (61, v1, 0) k) && (decide (M (62, v0, 0) k = M (62, v1, 0) k) && rEq (M (64, v0, k)) (M (64, v1, k)) 0 (N + 4))) with
        | false => rw [zb_f, if_pos rfl]; rfl
        | true => rw [zb_t, if_neg (by decide), nI_1, ih (k + 1) fu (by omega) (by omega), Bool.true_and]
    rw [if_pos rfl, decide_eq_true rfl, Bool.true_and]
    exact H n0 0 100 (by omega) (by omega)
  · rw [if_neg (by rw [neq (by omega) (by omega)]; exact e), decide_eq_false e]; rfl
/-- copies at two servers -/
def cSl (N g : Nat) (M : gM) (s t o : Nat) : Bool := cCl N g M s t o && (decide (M (60, 48 * s + o, 0) 3 = M (60, 48 * t + o, 0) 3) && cVl N M (48 * s + o) (48 * t + o) 0 (M (60, 48 * s + o, 0) 3).toNatClampNeg)
theorem c_isCopyLike7 (hN : N ≤ 4) (hs : s < N) (ht : t < N) (h1 : M (1, 0, 0) 3 = nI g) (hg : g ≤ 47) (hog : o ≤ g) (h0 : M (60, 48 * s + o, 0) 3 = nI n0) (h0' : M (60, 48 * t + o, 0) 3 = nI n1) (m0 : n0 ≤ 6) (m1 : n1 ≤ 6) : f_X7_isCopyLike N M s t (nI o) = some (zb (cSl N g M s t o)) := by
  have ho : o < 48 := by omega
  unfold f_X7_isCopyLike cSl
  rw [c_isCopyLike8 hN h1 hg hog, o1_s]
  cases cCl N g M s t o with
  | false => rw [zb_f, if_pos rfl]; rfl
  | true =>
    rw [zb_t, if_neg (by decide), ix_n ho (by omega), ix_n ho (by omega), c_isLike9 hN h0 h0' (by rw [cMost_lt (by omega)]; exact m0) (by rw [cMost_lt (by omega)]; exact m1) (by rw [cMost_lt (by omega)]; decide) (by rw [cMost_lt (by omega)]; decide), o1_s, h0, h0', nI_clamp (by omega), Bool.true_and, show decide (nI n0 = nI n1) = decide (n0 = n1) from decide_eq_decide.mpr (by rw [neq (by omega) (by omega)])]
    cases (decide (n0 = n1) && cVl N M (48 * s + o) (48 * t + o) 0 n0) <;> rfl
theorem c_areAlike (hN : 1 ≤ N ∧ N ≤ 4) (h1 : M (1, 0, 0) 3 = nI g) (hg : g ≤ 47) (hog : o ≤ g) (hv : ∀ s, s < N → ∃ n, n ≤ 6 ∧ M (60, 48 * s + o, 0) 3 = nI n) : f_X6_areAlike N M v (nI o) = some (zb (aF (fun s => !bt v s || cSl N g M s (lst N v) o) 0 N)) := by
  have hl := lst_lt (v := v) hN.1
  obtain ⟨n1, m1, e1⟩ := hv (lst N v) hl
  have H : ∀ m k fu, k + m = N → m < fu → f_X6_areAlike_L14 N M v (nI o) (lst N v) fu (nI k) = some (zb (aF (fun s => !bt v s || cSl N g M s (lst N v) o) k m)) := by
    intro m
    induction m with
    | zero =>
      intro k fu hk hf
      obtain ⟨fu, rfl⟩ : ∃ q, fu = q + 1 := ⟨fu - 1, by omega⟩
      simp only [f_X6_areAlike_L14]
      rw [if_pos (nI_le (by omega) (by omega))]
      rfl
    | succ m ih =>
      intro k fu hk hf
      obtain ⟨fu, rfl⟩ : ∃ q, fu = q + 1 := ⟨fu - 1, by omega⟩
      simp only [f_X6_areAlike_L14, lt_d, jn_d]
      rw [if_neg (nI_ge (by omega) (by omega)), c_isIn v (by omega), o1_s, aF_s]
      cases hb : bt v k with
      | false => rw [zb_f, if_pos rfl, nI_1, ih (k + 1) fu (by omega) (by omega)]; rfl
      | true =>
        obtain ⟨n0, m0, e0⟩ := hv k (by omega)
        rw [zb_t, if_neg (by decide), ix_n (by omega) (by omega), c_isCopyLike7 hN.2 (by omega) hl h1 hg hog e0 e1 m0 m1, o1_s, Bool.not_true, Bool.false_or]
        cases cSl N g M k (lst N v) o with
        | false => rw [zb_f, if_pos rfl]; rfl
        | true => rw [zb_t, if_neg (by decide), nI_1, ih (k + 1) fu (by omega) (by omega), Bool.true_and]
  unfold f_X6_areAlike
  rw [c_leastOf hN.2, o1_s, ix_n hl (by omega)]
  exact H N 0 100 (by omega) (by omega)
theorem c_allAlike (hN : 1 ≤ N ∧ N ≤ 4) (h1 : M (1, 0, 0) 3 = nI g) (hg : g ≤ 47) (hv : ∀ s, s < N → ∀ o, o < 48 → ∃ n, n ≤ 6 ∧ M (60, 48 * s + o, 0) 3 = nI n) : f_X6_allAlike N M v = some (zb (aF (fun o => aF (fun s => !bt v s || cSl N g M s (lst N v) o) 0 N) 0 (g + 1))) := by
  have H : ∀ m k fu, k + m = g + 1 → m < fu → f_X6_allAlike_L2 N M v fu (nI k) = some (zb (aF (fun o => aF (fun s => !bt v s || cSl N g M s (lst N v) o) 0 N) k m)) := by
    intro m
    induction m with
    | zero =>
      intro k fu hk hf
      obtain ⟨fu, rfl⟩ : ∃ q, fu = q + 1 := ⟨fu - 1, by omega⟩
      simp only [f_X6_allAlike_L2, lt_d, h1]
      rw [if_pos (nI_lt (by omega) (by omega))]
      rfl
    | succ m ih =>
      intro k fu hk hf
      obtain ⟨fu, rfl⟩ : ∃ q, fu = q + 1 := ⟨fu - 1, by omega⟩
      simp only [f_X6_allAlike_L2, lt_d, h1]
      rw [if_neg (nI_nlt (by omega) (by omega)), c_areAlike hN h1 hg (by omega) (fun s hs => hv s hs k (by omega)), o1_s, aF_s]
      cases aF (fun s => !bt v s || cSl N g M s (lst N v) k) 0 N with
      | false => rw [zb_f, if_pos rfl]; rfl
      | true => rw [zb_t, if_neg (by decide), nI_1, ih (k + 1) fu (by omega) (by omega), Bool.true_and]
  exact H (g + 1) 0 100 (by omega) (by omega)
/-! the reference -/
def rLk (N g : Nat) (M : gM) (s t o : Nat) : Bool := (nz (M m_has (48 * s + o)) && (nz (M m_has (48 * t + o)) && rEq (fun k => M m_vector (8 * (48 * s + o) + k)) (fun k => M m_vector (8 * (48 * t + o) + k)) 0 (N + 4))) && aF (fun p => !decide (1 ≤ p ∧ p ≤ g ∧ M m_parent p = nI o) || (decide (M m_entry (48 * s + p) = M m_entry (48 * t + p)) && (!decide (M m_entry (48 * s + p) = 2) || rEq (fun k => M m_gone (8 * (48 * s + p) + k)) (fun k => M m_gone (8 * (48 * t + p) + k)) 0 (N + 4)))) 1 g
theorem r_isLike (hN : N ≤ 4) (h1 : M m_o 1 = nI (N + 4)) (h6 : M m_o 6 = nI (g + 1)) (hg : g ≤ 47) (hs : s < 4) (ht : t < 4) (ho : o < 48) : f_X11_isLike M (nI s) (nI t) (nI o) = some (zb (rLk N g M s t o)) := by
  have H : ∀ m k fu b, k + m = g + 1 → 1 ≤ k → m < fu → f_X11_isLike_L65 M (nI s) (nI t) (nI o) fu (zb b) (nI k) = some (zb (b && aF (fun p => !decide (1 ≤ p ∧ p ≤ g ∧ M m_parent p = nI o) || (decide (M m_entry (48 * s + p) = M m_entry (48 * t + p)) && (!decide (M m_entry (48 * s + p) = 2) || rEq (fun k => M m_gone (8 * (48 * s + p) + k)) (fun k => M m_gone (8 * (48 * t + p) + k)) 0 (N + 4)))) k m)) := by
    intro m
    induction m with
    | zero =>
      intro k fu b hk k1 hf
      obtain ⟨fu, rfl⟩ : ∃ q, fu = q + 1 := ⟨fu - 1, by omega⟩
      simp only [f_X11_isLike_L65, lt_d, h6]
      rw [if_pos (nI_le (by omega) (by omega)), gz_b]
      cases b <;> rfl
    | succ m ih =>
      intro k fu b hk k1 hf
      obtain ⟨fu, rfl⟩ : ∃ q, fu = q + 1 := ⟨fu - 1, by omega⟩
      simp only [f_X11_isLike_L65, lt_d, jn_d, h6, nI_m48, nI_add]
      rw [if_neg (nI_ge (by omega) (by omega)), aF_s]
      cases b with
      | false => rw [zb_f, if_pos rfl]; rfl
      | true =>
        have ih0 : f_X11_isLike_L65 M (nI s) (nI t) (nI o) fu (0 : Int32) (nI (k + 1)) = some 0 := ih (k + 1) fu false (by omega) (by omega) (by omega)
        have ih1 := ih (k + 1) fu true (by omega) (by omega) (by omega)
        rw [zb_t] at ih1
        rw [zb_t, if_neg (by decide), r_isChild h6 hg (by omega), o1_s]
        by_cases e1 : 1 ≤ k ∧ k ≤ g ∧ M m_parent k = nI o
        · rw [decide_eq_true e1, zb_t, if_neg (by decide), rd_n (by omega) (by omega), rd_n (by omega) (by omega), Bool.not_true, Bool.false_or]
          by_cases e2 : M m_entry (48 * s + k) = M m_entry (48 * t + k)
          · rw [if_pos e2, rd_n (by omega) (by omega), decide_eq_true e2, Bool.true_and]
            by_cases e3 : M m_entry (48 * s + k) = 2
            · rw [if_pos e3, r_isSame h1 (by omega) (by show _ ≤ 1536; omega) (by show _ ≤ 1536; omega) (by decide) (by decide), o1_s, decide_eq_true e3, Bool.not_true, Bool.false_or]
              cases rEq (fun q => M m_gone (8 * (48 * s + k) + q)) (fun q => M m_gone (8 * (48 * t + k) + q)) 0 (N + 4) with
              | false => rw [zb_f, if_pos rfl, nI_1, ih0]; rfl
              | true => rw [zb_t, if_neg (by decide), nI_1, ih1, Bool.true_and, Bool.true_and, Bool.true_and]
            · rw [if_neg e3, nI_1, ih1, decide_eq_false e3, Bool.not_false, Bool.true_or, Bool.true_and, Bool.true_and, Bool.true_and]
          · rw [if_neg e2, nI_1, ih0, decide_eq_false e2]; rfl
        · rw [decide_eq_false e1, zb_f, if_pos rfl, nI_1, ih1]; rfl
  have H0 : f_X11_isLike_L65 M (nI s) (nI t) (nI o) 100 (0 : Int32) (1 : Int32) = some 0 := H g 1 100 false (by omega) (by omega) (by omega)
  have H1 : f_X11_isLike_L65 M (nI s) (nI t) (nI o) 100 (1 : Int32) (1 : Int32) = _ := H g 1 100 true (by omega) (by omega) (by omega)
  unfold f_X11_isLike rLk
  simp only [lt_d, jn_d, nI_m48, nI_add]
  rw [rd_n (by omega) (by omega)]
  by_cases e1 : M m_has (48 * s + o) = 0
  · rw [if_pos e1, H0, e1]; rfl
  · rw [if_neg e1, rd_n (by omega) (by omega), show nz (M m_has (48 * s + o)) = true by unfold nz; rw [decide_eq_true e1], Bool.true_and]
    by_cases e2 : M m_has (48 * t + o) = 0
    · rw [if_pos e2, H0, e2]; rfl
    · rw [if_neg e2, r_isSame h1 (by omega) (by show _ ≤ 1536; omega) (by show _ ≤ 1536; omega) (by decide) (by decide), o1_s, show nz (M m_has (48 * t + o)) = true by unfold nz; rw [decide_eq_true e2], Bool.true_and]
      cases rEq (fun k => M m_vector (8 * (48 * s + o) + k)) (fun k => M m_vector (8 * (48 * t + o) + k)) 0 (N + 4) with
      | false => rw [zb_f, if_pos rfl, H0]; rfl
      | true => rw [zb_t, if_neg (by decide), H1]
end AL
