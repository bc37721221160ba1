/-! layer 2: who holds an object, who has the greatest copy -/
def aF (p : Nat → Bool) : Nat → Nat → Bool
  | _, 0 => true
  | k, m + 1 => p k && aF p (k + 1) m
theorem aF_congr {p q : Nat → Bool} : ∀ (m k : Nat), (∀ j, k ≤ j → j < k + m → p j = q j) → aF p k m = aF q k m := by
  intro m
  induction m with
  | zero => intro k _; rfl
  | succ m ih =>
    intro k h
    show (p k && aF p (k + 1) m) = (q k && aF q (k + 1) m)
    rw [h k (by omega) (by omega), ih (k + 1) (fun j a b => h j (by omega) (by omega))]
theorem aF_iff {p : Nat → Bool} : ∀ (m k : Nat), aF p k m = true ↔ ∀ j, k ≤ j → j < k + m → p j = true := by
  intro m
  induction m with
  | zero => intro k; exact ⟨fun _ j a b => by omega, fun _ => rfl⟩
  | succ m ih =>
    intro k
    show (p k && aF p (k + 1) m) = true ↔ _
    rw [Bool.and_eq_true, ih (k + 1)]
    constructor
    · intro h j a b
      by_cases e : j = k
      · subst e; exact h.1
      · exact h.2 j (by omega) (by omega)
    · intro h
      exact ⟨h k (by omega) (by omega), fun j a b => h j (by omega) (by omega)⟩
section HS
variable {N o : Nat} {M : gM} {v : Int32}
def cHo (N : Nat) (M : gM) (v : Int32) (o : Nat) : Int32 := sS (fun s => bt v s && nz (M (51, s, 0) o)) N
theorem c_holders (hN : N ≤ 4) (ho : o < 48) : f_X6_holders N M v (nI o) = some (cHo N M v o) := by
  have H : ∀ m k fu w, k + m = N → m < fu → f_X6_holders_L5 N M v (nI o) fu w (nI k) = some (sN (fun s => bt v s && nz (M (51, s, 0) o)) k m w) := by
    intro m
    induction m with
    | zero =>
      intro k fu w hk hf
      obtain ⟨fu, rfl⟩ : ∃ q, fu = q + 1 := ⟨fu - 1, by omega⟩
      simp only [f_X6_holders_L5]
      rw [if_pos (nI_le (by omega) (by omega))]
      rfl
    | succ m ih =>
      intro k fu w hk hf
      obtain ⟨fu, rfl⟩ : ∃ q, fu = q + 1 := ⟨fu - 1, by omega⟩
      simp only [f_X6_holders_L5, lt_d, jn_d]
      rw [if_neg (nI_ge (by omega) (by omega)), c_isIn _ (by omega), o1_s]
      cases hb : bt v k with
      | false => rw [zb_f, if_pos rfl, nI_1, ih (k + 1) fu w (by omega) (by omega), sN_f (by simp [hb])]
      | true =>
        rw [zb_t, if_neg (by decide), ix_n (by omega) (by omega), rd_n ho (by omega)]
        by_cases h0 : M (51, k, 0) o = 0
        · rw [if_pos h0, nI_1, ih (k + 1) fu w (by omega) (by omega), sN_f (by simp [nz, h0])]
        · rw [if_neg h0, nI_1, ih (k + 1) fu _ (by omega) (by omega), sN_t (by simp [nz, h0, hb])]
          rfl
  exact H N 0 100 0 (by omega) (by omega)
/-- taking out of a set those that fail a test, one by one -/
def oF (p : Nat → Bool) : Nat → Nat → Int32 → Int32
  | _, 0, w => w
  | k, m + 1, w => oF p (k + 1) m (if bt w k && !p k then w &&& (sB k ^^^ (-1 : Int32)) else w)
theorem bt_oF {p : Nat → Bool} : ∀ (m k : Nat) (w : Int32), k + m ≤ 32 → ∀ i, i < 32 → bt (oF p k m w) i = (bt w i && (!decide (k ≤ i ∧ i < k + m) || p i)) := by
  intro m
  induction m with
  | zero =>
    intro k w _ i hi
    rw [decide_eq_false (by omega)]
    show bt w i = _
    simp
  | succ m ih =>
    intro k w hk i hi
    show bt (oF p (k + 1) m _) i = _
    rw [ih (k + 1) _ (by omega) i hi]
    by_cases e : i = k
    · subst e
      rw [decide_eq_false (by omega), decide_eq_true (show i ≤ i ∧ i < i + (m + 1) by omega)]
      by_cases hq : (bt w i && !p i) = true
      · rw [if_pos hq, b_and, bt_no hi, bt_sB hi hi, decide_eq_true rfl]
        cases h1 : bt w i <;> cases h2 : p i <;> simp_all
      · rw [if_neg hq]
        cases h1 : bt w i <;> cases h2 : p i <;> simp_all
    · have e1 : bt (if bt w k && !p k then w &&& (sB k ^^^ (-1 : Int32)) else w) i = bt w i := by
        by_cases hq : (bt w k && !p k) = true
        · rw [if_pos hq, b_and, bt_no hi, bt_sB (show k < 32 by omega) hi, decide_eq_false e]
          simp
        · rw [if_neg hq]
      rw [e1]
      by_cases h2 : k + 1 ≤ i ∧ i < k + 1 + m
      · rw [decide_eq_true h2, decide_eq_true (show k ≤ i ∧ i < k + (m + 1) by omega)]
      · rw [decide_eq_false h2, decide_eq_false (show ¬ (k ≤ i ∧ i < k + (m + 1)) by omega)]
theorem oF_sS {p f : Nat → Bool} (hN : N ≤ 4) : oF p 0 N (sS f N) = sS (fun s => f s && p s) N := b_ext fun i hi => by
  rw [bt_oF N 0 _ (by omega) i hi, bt_sS (by omega) hi, bt_sS (by omega) hi]
  by_cases e : i < N
  · rw [decide_eq_true e, decide_eq_true (show 0 ≤ i ∧ i < 0 + N by omega)]
    cases f i <;> cases p i <;> rfl
  · rw [decide_eq_false e]; rfl
theorem c_holdersWith {row : gI} (hN : N ≤ 4) (ho : o < 48) (hr : cN N row = N + 4) : f_X6_holdersWith N M v (nI o) row = some (sS (fun s => (bt v s && nz (M (51, s, 0) o)) && rEq (M (55, s, o)) (M row) 0 (N + 4)) N) := by
  have H : ∀ m k fu w, k + m = N → m < fu → f_X6_holdersWith_L11 N M (nI o) row fu w (nI k) = some (oF (fun s => rEq (M (55, s, o)) (M row) 0 (N + 4)) k m w) := by
    intro m
    induction m with
    | zero =>
      intro k fu w hk hf
      obtain ⟨fu, rfl⟩ : ∃ q, fu = q + 1 := ⟨fu - 1, by omega⟩
      simp only [f_X6_holdersWith_L11]
      rw [if_pos (nI_le (by omega) (by omega))]
      rfl
    | succ m ih =>
      intro k fu w hk hf
      obtain ⟨fu, rfl⟩ : ∃ q, fu = q + 1 := ⟨fu - 1, by omega⟩
      simp only [f_X6_holdersWith_L11, lt_d, jn_d]
      rw [if_neg (nI_ge (by omega) (by omega)), c_isIn _ (by omega), o1_s]
      show _ = some (oF (fun s => rEq (M (55, s, o)) (M row) 0 (N + 4)) (k + 1) m _)
      cases hb : bt w k with
      | false => rw [zb_f, if_pos rfl, nI_1, ih (k + 1) fu w (by omega) (by omega)]; rfl
      | true =>
        rw [zb_t, if_neg (by decide), ix_n (by omega) (by omega), ix_n ho (by omega), c_isSame (cN55 N k o) hr (by omega), o1_s]
        cases hq : rEq (M (55, k, o)) (M row) 0 (N + 4) with
        | false =>
          rw [zb_f, if_pos rfl, nI_1, ih (k + 1) fu _ (by omega) (by omega)]
          rw [if_pos (by simp [hq])]
          rfl
        | true =>
          rw [zb_t, if_neg (by decide), nI_1, ih (k + 1) fu w (by omega) (by omega)]
          rw [if_neg (by simp [hq])]
  unfold f_X6_holdersWith
  rw [c_holders hN ho, o1_s]
  have h := H N 0 100 (cHo N M v o) (by omega) (by omega)
  unfold cHo at h
  rw [oF_sS hN] at h
  exact h
theorem c_isInConflict {s n : Nat} (ho : o < 48) (hl : M (60, 48 * s + o, 0) 3 = nI n) (hn : n ≤ 6) : f_X7_isInConflict N M s (nI o) = some (zb (nz (M (60, 48 * s + o, 0) 3))) := by
  unfold f_X7_isInConflict
  rw [ix_n ho (by omega), lt_d, hl]
  by_cases e : n = 0
  · subst e; rfl
  · rw [if_neg (nI_nle (by omega) (by omega)), show nz (nI n) = true by simp [nz, nI_z (show n < 2 ^ 31 by omega), e]]; rfl
theorem c_holdersOf {row : gI} (hN : N ≤ 4) (ho : o < 48) (hr : cN N row = N + 4) (hv : ∀ s, s < N → ∃ n, n ≤ 6 ∧ M (60, 48 * s + o, 0) 3 = nI n) : f_X6_holdersOf N M v (nI o) row = some (sS (fun s => ((bt v s && nz (M (51, s, 0) o)) && rEq (M (55, s, o)) (M row) 0 (N + 4)) && !nz (M (60, 48 * s + o, 0) 3)) N) := by
  have H : ∀ m k fu w, k + m = N → m < fu → f_X6_holdersOf_L12 N M (nI o) fu w (nI k) = some (oF (fun s => !nz (M (60, 48 * s + o, 0) 3)) k m w) := by
    intro m
    induction m with
    | zero =>
      intro k fu w hk hf
      obtain ⟨fu, rfl⟩ : ∃ q, fu = q + 1 := ⟨fu - 1, by omega⟩
      simp only [f_X6_holdersOf_L12]
      rw [if_pos (nI_le (by omega) (by omega))]
      rfl
    | succ m ih =>
      intro k fu w hk hf
      obtain ⟨fu, rfl⟩ : ∃ q, fu = q + 1 := ⟨fu - 1, by omega⟩
      obtain ⟨n, n1, n2⟩ := hv k (by omega)
      simp only [f_X6_holdersOf_L12, lt_d, jn_d]
      rw [if_neg (nI_ge (by omega) (by omega)), c_isIn _ (by omega), o1_s]
      show _ = some (oF (fun s => !nz (M (60, 48 * s + o, 0) 3)) (k + 1) m _)
      cases hb : bt w k with
      | false => rw [zb_f, if_pos rfl, nI_1, ih (k + 1) fu w (by omega) (by omega)]; rfl
      | true =>
        rw [zb_t, if_neg (by decide), ix_n (by omega) (by omega), c_isInConflict ho n2 n1, o1_s]
        cases hq : nz (M (60, 48 * k + o, 0) 3) with
        | true =>
          rw [zb_t, if_neg (by decide), nI_1, ih (k + 1) fu _ (by omega) (by omega)]
          rw [if_pos (by simp [hq])]
          rfl
        | false =>
          rw [zb_f, if_pos rfl, nI_1, ih (k + 1) fu w (by omega) (by omega)]
          rw [if_neg (by simp [hq])]
  unfold f_X6_holdersOf
  rw [c_holdersWith hN ho hr, o1_s]
  have h := H N 0 100 (sS (fun s => (bt v s && nz (M (51, s, 0) o)) && rEq (M (55, s, o)) (M row) 0 (N + 4)) N) (by omega) (by omega)
  rw [oF_sS hN] at h
  exact h
theorem c_isGreatest {row : gI} (hN : N ≤ 4) (ho : o < 48) (hr : cN N row = N + 4) : f_X6_isGreatest N M v (nI o) row = some (zb (aF (fun t => !bt v t || rLe (M (55, t, o)) (M row) 0 (N + 4)) 0 N)) := by
  have H : ∀ m k fu, k + m = N → m < fu → f_X6_isGreatest_L3 N M v (nI o) row fu (nI k) = some (zb (aF (fun t => !bt v t || rLe (M (55, t, o)) (M row) 0 (N + 4)) k m)) := by
    intro m
    induction m with
    | zero =>
      intro k fu hk hf
      obtain ⟨fu, rfl⟩ : ∃ q, fu = q + 1 := ⟨fu - 1, by omega⟩
      simp only [f_X6_isGreatest_L3]
      rw [if_pos (nI_le (by omega) (by omega))]
      rfl
    | succ m ih =>
      intro k fu hk hf
      obtain ⟨fu, rfl⟩ : ∃ q, fu = q + 1 := ⟨fu - 1, by omega⟩
      simp only [f_X6_isGreatest_L3, lt_d, jn_d]
      rw [if_neg (nI_ge (by omega) (by omega)), c_isIn _ (by omega), o1_s]
      show _ = some (zb ((!bt v k || rLe (M (55, k, o)) (M row) 0 (N + 4)) && aF (fun t => !bt v t || rLe (M (55, t, o)) (M row) 0 (N + 4)) (k + 1) m))
      cases hb : bt v k with
      | false => rw [zb_f, if_pos rfl, nI_1, ih (k + 1) fu (by omega) (by omega)]; rfl
      | true =>
        rw [zb_t, if_neg (by decide), ix_n (by omega) (by omega), ix_n ho (by omega), c_isAtMost (cN55 N k o) hr (by omega), o1_s]
        cases hq : rLe (M (55, k, o)) (M row) 0 (N + 4) with
        | false => rw [zb_f, if_pos rfl]; rfl
        | true => rw [zb_t, if_neg (by decide), nI_1, ih (k + 1) fu (by omega) (by omega)]; rfl
  exact H N 0 100 (by omega) (by omega)
/-- an index, or none -/
def fst (p : Nat → Bool) (N : Nat) : Int32 := if lsF p 0 N < N then nI (lsF p 0 N) else -1
theorem c_leastGreatest (hN : N ≤ 4) (ho : o < 48) : f_X6_leastGreatest N M v (nI o) = some (fst (fun s => bt (cHo N M v o) s && aF (fun t => !bt (cHo N M v o) t || rLe (M (55, t, o)) (M (55, s, o)) 0 (N + 4)) 0 N) N) := by
  unfold f_X6_leastGreatest
  rw [c_holders hN ho, o1_s]
  generalize cHo N M v o = w
  have H : ∀ m k fu, k + m = N → m < fu → f_X6_leastGreatest_L10 N M (nI o) w fu (nI k) = some (if lsF (fun s => bt w s && aF (fun t => !bt w t || rLe (M (55, t, o)) (M (55, s, o)) 0 (N + 4)) 0 N) k m < N then nI (lsF (fun s => bt w s && aF (fun t => !bt w t || rLe (M (55, t, o)) (M (55, s, o)) 0 (N + 4)) 0 N) k m) else -1) := by
    intro m
    induction m with
    | zero =>
      intro k fu hk hf
      obtain ⟨fu, rfl⟩ : ∃ q, fu = q + 1 := ⟨fu - 1, by omega⟩
      simp only [f_X6_leastGreatest_L10]
      rw [if_pos (nI_le (by omega) (by omega)), if_neg (by show ¬ k < N; omega)]
    | succ m ih =>
      intro k fu hk hf
      obtain ⟨fu, rfl⟩ : ∃ q, fu = q + 1 := ⟨fu - 1, by omega⟩
      simp only [f_X6_leastGreatest_L10, lt_d, jn_d]
      rw [if_neg (nI_ge (by omega) (by omega)), c_isIn _ (by omega), o1_s]
      have e : ∀ b : Bool, (bt w k && aF (fun t => !bt w t || rLe (M (55, t, o)) (M (55, k, o)) 0 (N + 4)) 0 N) = b → lsF (fun s => bt w s && aF (fun t => !bt w t || rLe (M (55, t, o)) (M (55, s, o)) 0 (N + 4)) 0 N) k (m + 1) = if b then k else lsF (fun s => bt w s && aF (fun t => !bt w t || rLe (M (55, t, o)) (M (55, s, o)) 0 (N + 4)) 0 N) (k + 1) m := fun b hb => by
        rw [← hb]; rfl
      cases hb : bt w k with
      | false =>
        rw [zb_f, if_pos rfl, nI_1, ih (k + 1) fu (by omega) (by omega), e false (by rw [hb]; rfl)]; rfl
      | true =>
        rw [zb_t, if_neg (by decide), ix_n (by omega) (by omega), ix_n ho (by omega), c_isGreatest hN ho (cN55 N k o), o1_s]
        cases hq : aF (fun t => !bt w t || rLe (M (55, t, o)) (M (55, k, o)) 0 (N + 4)) 0 N with
        | false => rw [zb_f, if_pos rfl, nI_1, ih (k + 1) fu (by omega) (by omega), e false (by rw [hb, hq]; rfl)]; rfl
        | true =>
          rw [zb_t, if_neg (by decide), e true (by rw [hb, hq]; rfl), if_pos rfl, if_pos (by omega)]
  exact H N 0 100 (by omega) (by omega)
end HS
