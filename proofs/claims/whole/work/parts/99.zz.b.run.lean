/-! layer 2: every run of calls -/
section QB
variable {N T L i n : Nat} {xs : Nat → Int32} {z : lS}
theorem St.up (h : St N T z.1 z.2.1) : St N (T + 1) z.1 z.2.1 := by
  obtain ⟨g, R, I, U, O⟩ := h
  exact ⟨g, R, I, U.up (by omega), O⟩
theorem step_ok (hN : 1 ≤ N ∧ N ≤ 4) (hT : T ≤ 500) (h : St N T z.1 z.2.1) : ∃ z1, lStep N xs i z = some z1 ∧ St N (T + 1) z1.1 z1.2.1 := by
  unfold lStep
  by_cases hr : (xs i &&& 31).toInt < 0 ∨ 19 < (xs i &&& 31).toInt
  · rw [if_pos hr]; exact ⟨z, rfl, h.up⟩
  · rw [if_neg hr]
    obtain ⟨q, hq⟩ : ∃ q, q = ((xs i &&& 31).toInt - 0).toNat := ⟨_, rfl⟩
    rw [← hq]
    match q with
    | 0 => exact st_link hN h
    | 1 => exact st_server hN h
    | 2 => exact st_lose hN h
    | 3 => exact st_priority hN hT h
    | 4 => exact st_find hN hT h
    | 5 => exact st_read hN hT h
    | 6 => exact st_write hN hT h
    | 7 => exact st_make hN hT h
    | 8 => exact st_remove hN hT h
    | 9 => exact st_handIn hN h
    | 10 => exact st_walk hN hT h
    | 11 => exact st_meet hN h
    | 12 => exact st_repair hN h
    | 13 => exact st_copy hN hT h
    | 14 => exact st_vector hN hT h
    | 15 => exact st_version hN hT h
    | 16 => exact st_entry hN hT h
    | 17 => exact st_cached hN hT h
    | 18 => exact st_record hN h
    | 19 => exact st_told hN h
    | n + 20 => exact ⟨z, rfl, h.up⟩
theorem run_ok (hN : 1 ≤ N ∧ N ≤ 4) : ∀ (n i T : Nat) (z : lS), L < i + 5 * (n + 1) → T + n ≤ 500 → St N T z.1 z.2.1 → lRun N xs L (n + 1) i z = some () := by
  intro n
  induction n with
  | zero =>
    intro i T z hL hT h
    show (if i + 5 ≤ L then _ else some ()) = _
    rw [if_neg (by omega)]
  | succ n ih =>
    intro i T z hL hT h
    show (if i + 5 ≤ L then o1 (lStep N xs i z) (fun z1 => lRun N xs L (n + 1) (i + 5) z1) else some ()) = _
    by_cases hi : i + 5 ≤ L
    · obtain ⟨z1, h1, h2⟩ := step_ok (xs := xs) (i := i) hN (by omega) h
      rw [if_pos hi, h1, o1_s]
      exact ih (i + 5) (T + 1) z1 (by omega) (by omega) h2
    · rw [if_neg hi]
theorem n0_ok (x : Int32) : 1 ≤ lN0 x ∧ lN0 x ≤ 4 := by
  unfold lN0
  by_cases h1 : x < 1
  · rw [if_pos h1]; omega
  · rw [if_neg h1]
    by_cases h4 : 4 < x
    · rw [if_pos h4]; omega
    · rw [if_neg h4]
      rw [Int32.lt_iff_toInt_lt] at h1 h4
      have e1 : (1 : Int32).toInt = 1 := rfl
      have e4 : (4 : Int32).toInt = 4 := rfl
      rw [e1] at h1
      rw [e4] at h4
      have : x.toNatClampNeg = x.toInt.toNat := rfl
      rw [this]
      omega
theorem whole_ran (hL : L ≤ 321) : lRun (lN0 (lCell L xs)) xs L 66 1 (cM0 (lN0 (lCell L xs)), mM0 (lN0 (lCell L xs)), 0) = some () :=
  run_ok (n0_ok _) 65 1 0 _ (by omega) (by omega) (st0 (n0_ok _))
end QB
