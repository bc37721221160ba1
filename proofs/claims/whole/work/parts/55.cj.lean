/-! the class's cells lie apart: from an address back to the id -/
def cDt (t r : Nat) : gI := if r = 0 then (50, t, 0) else if r = 1 then (51, t, 0) else if r = 2 then (52, t, 0) else if r = 3 then (53, t, 0) else if r = 4 then (56, t, 0) else if r = 5 then (54, t, 0) else if r < 54 then (55, t, r - 6) else if r = 54 then (57, t, 0) else (58, t, r - 55)
def cDv (v r : Nat) : gI := if r = 0 then (60, v, 0) else if r = 1 then (61, v, 0) else if r = 2 then (62, v, 0) else if r = 3 then (63, v, 0) else (64, v, r - 4)
def cDs (s r : Nat) : gI := if r = 0 then (20, s, 0) else if r = 1 then (21, s, 0) else if r = 2 then (22, s, 0) else if r < 106 then cDt s (r - 3) else cDv (48 * s + (r - 106) / 10) ((r - 106) % 10)
def cDc (c r : Nat) : gI := if r = 0 then (30, c, 0) else if r = 1 then (31, c, 0) else if r = 2 then (32, c, 0) else if r = 3 then (33, c, 0) else if r = 4 then (34, c, 0) else if r < 108 then cDt (4 + c) (r - 5) else if r = 108 then (40, c, 0) else if r = 109 then (41, c, 0) else if r = 110 then (42, c, 0) else if r = 111 then (43, c, 0) else if r = 112 then (44, c, 0) else (45, c, r - 113)
def cD0 (r : Nat) : gI := if r = 7 then (9, 0, 0) else if r = 8 then (7, 0, 0) else (r, 0, 0)
def cDe (r : Nat) : gI := if r = 0 then (10, 0, 0) else if r = 1 then (11, 0, 0) else if r = 2 then (12, 0, 0) else if r = 3 then (13, 0, 0) else if r = 4 then (15, 0, 0) else if r = 33 then (14, 0, 0) else cDv 192 (r - 5)
def cDec (N x : Nat) : gI := if x < 9 then cD0 x else if x < 9 + 586 * N then cDs ((x - 9) / 586) ((x - 9) % 586) else if x = 9 + 586 * N then (8, 0, 0) else if x < 510 + 586 * N then cDc ((x - (10 + 586 * N)) / 125) ((x - (10 + 586 * N)) % 125) else cDe (x - (510 + 586 * N))
theorem cDec_s {N s r x : Nat} (hs : s < N) (hr : r < 586) (e : x = 9 + 586 * s + r) : cDec N x = cDs s r := by
  unfold cDec
  rw [if_neg (by omega), if_pos (by omega), show (x - 9) / 586 = s by omega, show (x - 9) % 586 = r by omega]
theorem cDec_c {N c r x : Nat} (hc : c < 4) (hr : r < 125) (e : x = 10 + 586 * N + 125 * c + r) : cDec N x = cDc c r := by
  unfold cDec
  rw [if_neg (by omega), if_neg (by omega), if_neg (by omega), if_pos (by omega), show (x - (10 + 586 * N)) / 125 = c by omega, show (x - (10 + 586 * N)) % 125 = r by omega]
theorem cDec_e {N r x : Nat} (e : x = 510 + 586 * N + r) : cDec N x = cDe r := by
  unfold cDec
  rw [if_neg (by omega), if_neg (by omega), if_neg (by omega), if_neg (by omega), show x - (510 + 586 * N) = r by omega]
theorem cDec_t {N t r x q : Nat} (ht : cTree N t) (hN : N ≤ 4) (hr : r < 103) (e : x = cTb N q t + r) : cDec N (x - q) = cDt t r := by
  unfold cTb at e
  rcases ht with ht | ht
  · rw [if_pos (by omega)] at e
    rw [cDec_s (s := t) (r := r + 3) ht (by omega) (by omega)]
    unfold cDs
    rw [if_neg (by omega), if_neg (by omega), if_neg (by omega), if_pos (by omega), show r + 3 - 3 = r by omega]
  · rw [if_neg (by omega)] at e
    rw [cDec_c (c := t - 4) (r := r + 5) (by omega) (by omega) (by omega)]
    unfold cDc
    rw [if_neg (by omega), if_neg (by omega), if_neg (by omega), if_neg (by omega), if_neg (by omega), if_pos (by omega), show r + 5 - 5 = r by omega, show 4 + (t - 4) = t by omega]
theorem cDec_v {N v r x q : Nat} (hv : cVer N v) (hN : N ≤ 4) (hr : r < 4 + cMost v) (e : x = cVb N q v + r) : cDec N (x - q) = cDv v r := by
  unfold cVb at e
  unfold cMost at hr
  by_cases h : v = 192
  · rw [if_pos h] at e hr
    rw [cDec_e (r := r + 5) (by omega)]
    unfold cDe
    rw [if_neg (by omega), if_neg (by omega), if_neg (by omega), if_neg (by omega), if_neg (by omega), if_neg (by omega), show r + 5 - 5 = r by omega, h]
  · rw [if_neg h] at e hr
    have hv := hv.resolve_right h
    rw [cDec_s (s := v / 48) (r := 106 + 10 * (v % 48) + r) (by omega) (by omega) (by omega)]
    unfold cDs
    rw [if_neg (by omega), if_neg (by omega), if_neg (by omega), if_neg (by omega), show (106 + 10 * (v % 48) + r - 106) / 10 = v % 48 by omega, show (106 + 10 * (v % 48) + r - 106) % 10 = r by omega, show 48 * (v / 48) + v % 48 = v by omega]
theorem cDec_ok {N q : Nat} (hN1 : 1 ≤ N) (hN : N ≤ 4) {i : gI} (hi : cLive N i) : cDec N (cAd N q i - q) = i := by
  rcases cLive_tag hi with h | h | h | h | h
  · obtain ⟨tg, a, b⟩ := i
    dsimp only at h
    rcases (show tg = 0 ∨ tg = 1 ∨ tg = 2 ∨ tg = 3 ∨ tg = 4 ∨ tg = 5 ∨ tg = 6 ∨ tg = 7 ∨ tg = 8 ∨ tg = 9 ∨ tg = 10 ∨ tg = 11 ∨ tg = 12 ∨ tg = 13 ∨ tg = 14 ∨ tg = 15 by omega) with rfl | rfl | rfl | rfl | rfl | rfl | rfl | rfl | rfl | rfl | rfl | rfl | rfl | rfl | rfl | rfl <;> obtain ⟨rfl, rfl⟩ : a = 0 ∧ b = 0 := hi
    · show cDec N (q - q) = _
      rw [show q - q = 0 by omega]
      unfold cDec
      rw [if_pos (by omega)]
      rfl
    · show cDec N (q + 1 - q) = _
      rw [show q + 1 - q = 1 by omega]
      unfold cDec
      rw [if_pos (by omega)]
      rfl
    · show cDec N (q + 2 - q) = _
      rw [show q + 2 - q = 2 by omega]
      unfold cDec
      rw [if_pos (by omega)]
      rfl
    · show cDec N (q + 3 - q) = _
      rw [show q + 3 - q = 3 by omega]
      unfold cDec
      rw [if_pos (by omega)]
      rfl
    · show cDec N (q + 4 - q) = _
      rw [show q + 4 - q = 4 by omega]
      unfold cDec
      rw [if_pos (by omega)]
      rfl
    · show cDec N (q + 5 - q) = _
      rw [show q + 5 - q = 5 by omega]
      unfold cDec
      rw [if_pos (by omega)]
      rfl
    · show cDec N (q + 6 - q) = _
      rw [show q + 6 - q = 6 by omega]
      unfold cDec
      rw [if_pos (by omega)]
      rfl
    · show cDec N (q + 8 - q) = _
      rw [show q + 8 - q = 8 by omega]
      unfold cDec
      rw [if_pos (by omega)]
      rfl
    · show cDec N (q + 9 + 586 * N - q) = _
      unfold cDec
      rw [if_neg (by omega), if_neg (by omega), if_pos (by omega)]
    · show cDec N (q + 7 - q) = _
      rw [show q + 7 - q = 7 by omega]
      unfold cDec
      rw [if_pos (by omega)]
      rfl
    · show cDec N (q + 510 + 586 * N - q) = _
      rw [cDec_e (r := 0) (by omega)]
      rfl
    · show cDec N (q + 511 + 586 * N - q) = _
      rw [cDec_e (r := 1) (by omega)]
      rfl
    · show cDec N (q + 512 + 586 * N - q) = _
      rw [cDec_e (r := 2) (by omega)]
      rfl
    · show cDec N (q + 513 + 586 * N - q) = _
      rw [cDec_e (r := 3) (by omega)]
      rfl
    · show cDec N (q + 543 + 586 * N - q) = _
      rw [cDec_e (r := 33) (by omega)]
      rfl
    · show cDec N (q + 514 + 586 * N - q) = _
      rw [cDec_e (r := 4) (by omega)]
      rfl
  · have h1 := cl_lo hi (Or.inl h)
    obtain ⟨tg, a, b⟩ := i
    dsimp only at h h1
    rcases (show tg = 20 ∨ tg = 21 ∨ tg = 22 by omega) with rfl | rfl | rfl <;> obtain rfl : b = 0 := hi.2
    · show cDec N (q + 9 + 586 * a - q) = _
      rw [cDec_s (s := a) (r := 0) h1 (by omega) (by omega)]
      rfl
    · show cDec N (q + 10 + 586 * a - q) = _
      rw [cDec_s (s := a) (r := 1) h1 (by omega) (by omega)]
      rfl
    · show cDec N (q + 11 + 586 * a - q) = _
      rw [cDec_s (s := a) (r := 2) h1 (by omega) (by omega)]
      rfl
  · have h1 := cl_lo4 hi h
    obtain ⟨tg, a, b⟩ := i
    dsimp only at h h1
    rcases (show tg = 30 ∨ tg = 31 ∨ tg = 32 ∨ tg = 33 ∨ tg = 34 ∨ tg = 35 ∨ tg = 36 ∨ tg = 37 ∨ tg = 38 ∨ tg = 39 ∨ tg = 40 ∨ tg = 41 ∨ tg = 42 ∨ tg = 43 ∨ tg = 44 ∨ tg = 45 by omega) with rfl | rfl | rfl | rfl | rfl | rfl | rfl | rfl | rfl | rfl | rfl | rfl | rfl | rfl | rfl | rfl
    · obtain rfl : b = 0 := hi.2
      show cDec N (q + 10 + 586 * N + 125 * a - q) = _
      rw [cDec_c (c := a) (r := 0) h1 (by omega) (by omega)]
      rfl
    · obtain rfl : b = 0 := hi.2
      show cDec N (q + 11 + 586 * N + 125 * a - q) = _
      rw [cDec_c (c := a) (r := 1) h1 (by omega) (by omega)]
      rfl
    · obtain rfl : b = 0 := hi.2
      show cDec N (q + 12 + 586 * N + 125 * a - q) = _
      rw [cDec_c (c := a) (r := 2) h1 (by omega) (by omega)]
      rfl
    · obtain rfl : b = 0 := hi.2
      show cDec N (q + 13 + 586 * N + 125 * a - q) = _
      rw [cDec_c (c := a) (r := 3) h1 (by omega) (by omega)]
      rfl
    · obtain rfl : b = 0 := hi.2
      show cDec N (q + 14 + 586 * N + 125 * a - q) = _
      rw [cDec_c (c := a) (r := 4) h1 (by omega) (by omega)]
      rfl
    · exact False.elim hi
    · exact False.elim hi
    · exact False.elim hi
    · exact False.elim hi
    · exact False.elim hi
    · obtain rfl : b = 0 := hi.2
      show cDec N (q + 118 + 586 * N + 125 * a - q) = _
      rw [cDec_c (c := a) (r := 108) h1 (by omega) (by omega)]
      rfl
    · obtain rfl : b = 0 := hi.2
      show cDec N (q + 119 + 586 * N + 125 * a - q) = _
      rw [cDec_c (c := a) (r := 109) h1 (by omega) (by omega)]
      rfl
    · obtain rfl : b = 0 := hi.2
      show cDec N (q + 120 + 586 * N + 125 * a - q) = _
      rw [cDec_c (c := a) (r := 110) h1 (by omega) (by omega)]
      rfl
    · obtain rfl : b = 0 := hi.2
      show cDec N (q + 121 + 586 * N + 125 * a - q) = _
      rw [cDec_c (c := a) (r := 111) h1 (by omega) (by omega)]
      rfl
    · obtain rfl : b = 0 := hi.2
      show cDec N (q + 122 + 586 * N + 125 * a - q) = _
      rw [cDec_c (c := a) (r := 112) h1 (by omega) (by omega)]
      rfl
    · have hb : b < 12 := hi.2
      show cDec N (q + 123 + 586 * N + 125 * a + b - q) = _
      rw [cDec_c (c := a) (r := 113 + b) h1 (by omega) (by omega)]
      unfold cDc
      rw [if_neg (by omega), if_neg (by omega), if_neg (by omega), if_neg (by omega), if_neg (by omega), if_neg (by omega), if_neg (by omega), if_neg (by omega), if_neg (by omega), if_neg (by omega), if_neg (by omega), show 113 + b - 113 = b by omega]
  · obtain ⟨tg, a, b⟩ := i
    dsimp only at h
    rcases (show tg = 50 ∨ tg = 51 ∨ tg = 52 ∨ tg = 53 ∨ tg = 54 ∨ tg = 55 ∨ tg = 56 ∨ tg = 57 ∨ tg = 58 by omega) with rfl | rfl | rfl | rfl | rfl | rfl | rfl | rfl | rfl
    · obtain rfl : b = 0 := hi.2
      rw [cDec_t (x := cAd N q (50, a, 0)) (q := q) (t := a) (r := 0) hi.1 hN (by omega) rfl]
      rfl
    · obtain rfl : b = 0 := hi.2
      rw [cDec_t (x := cAd N q (51, a, 0)) (q := q) (t := a) (r := 1) hi.1 hN (by omega) rfl]
      rfl
    · obtain rfl : b = 0 := hi.2
      rw [cDec_t (x := cAd N q (52, a, 0)) (q := q) (t := a) (r := 2) hi.1 hN (by omega) rfl]
      rfl
    · obtain rfl : b = 0 := hi.2
      rw [cDec_t (x := cAd N q (53, a, 0)) (q := q) (t := a) (r := 3) hi.1 hN (by omega) rfl]
      rfl
    · obtain rfl : b = 0 := hi.2
      rw [cDec_t (x := cAd N q (54, a, 0)) (q := q) (t := a) (r := 5) hi.1 hN (by omega) rfl]
      rfl
    · have hb : b < 48 := hi.2
      rw [cDec_t (x := cAd N q (55, a, b)) (q := q) (t := a) (r := 6 + b) hi.1 hN (by omega) (show cTb N q a + 6 + b = cTb N q a + (6 + b) by omega)]
      unfold cDt
      rw [if_neg (by omega), if_neg (by omega), if_neg (by omega), if_neg (by omega), if_neg (by omega), if_neg (by omega), if_pos (by omega), show 6 + b - 6 = b by omega]
    · obtain rfl : b = 0 := hi.2
      rw [cDec_t (x := cAd N q (56, a, 0)) (q := q) (t := a) (r := 4) hi.1 hN (by omega) rfl]
      rfl
    · obtain rfl : b = 0 := hi.2
      rw [cDec_t (x := cAd N q (57, a, 0)) (q := q) (t := a) (r := 54) hi.1 hN (by omega) rfl]
      rfl
    · have hb : b < 48 := hi.2
      rw [cDec_t (x := cAd N q (58, a, b)) (q := q) (t := a) (r := 55 + b) hi.1 hN (by omega) (show cTb N q a + 55 + b = cTb N q a + (55 + b) by omega)]
      unfold cDt
      rw [if_neg (by omega), if_neg (by omega), if_neg (by omega), if_neg (by omega), if_neg (by omega), if_neg (by omega), if_neg (by omega), if_neg (by omega), show 55 + b - 55 = b by omega]
  · obtain ⟨tg, a, b⟩ := i
    dsimp only at h
    rcases (show tg = 60 ∨ tg = 61 ∨ tg = 62 ∨ tg = 63 ∨ tg = 64 by omega) with rfl | rfl | rfl | rfl | rfl
    · obtain rfl : b = 0 := hi.2
      rw [cDec_v (x := cAd N q (60, a, 0)) (q := q) (v := a) (r := 0) hi.1 hN (by omega) rfl]
      rfl
    · obtain rfl : b = 0 := hi.2
      rw [cDec_v (x := cAd N q (61, a, 0)) (q := q) (v := a) (r := 1) hi.1 hN (by omega) rfl]
      rfl
    · obtain rfl : b = 0 := hi.2
      rw [cDec_v (x := cAd N q (62, a, 0)) (q := q) (v := a) (r := 2) hi.1 hN (by omega) rfl]
      rfl
    · obtain rfl : b = 0 := hi.2
      rw [cDec_v (x := cAd N q (63, a, 0)) (q := q) (v := a) (r := 3) hi.1 hN (by omega) rfl]
      rfl
    · have hb : b < cMost a := hi.2
      rw [cDec_v (x := cAd N q (64, a, b)) (q := q) (v := a) (r := 4 + b) hi.1 hN (by omega) (show cVb N q a + 4 + b = cVb N q a + (4 + b) by omega)]
      unfold cDv
      rw [if_neg (by omega), if_neg (by omega), if_neg (by omega), if_neg (by omega), show 4 + b - 4 = b by omega]
theorem cJ {N q : Nat} (hN1 : 1 ≤ N) (hN : N ≤ 4) : gJ (cLive N) (cAd N q) := fun i j hi hj h => by
  rw [← cDec_ok (q := q) hN1 hN hi, ← cDec_ok (q := q) hN1 hN hj, h]
theorem cAd_ge {N q : Nat} (hN : N ≤ 4) {i : gI} (hi : cLive N i) : q ≤ cAd N q i ∧ cAd N q i < q + 544 + 586 * N := by
  rcases cLive_tag hi with h | h | h | h | h
  · obtain ⟨tg, a, b⟩ := i
    dsimp only at h
    rcases (show tg = 0 ∨ tg = 1 ∨ tg = 2 ∨ tg = 3 ∨ tg = 4 ∨ tg = 5 ∨ tg = 6 ∨ tg = 7 ∨ tg = 8 ∨ tg = 9 ∨ tg = 10 ∨ tg = 11 ∨ tg = 12 ∨ tg = 13 ∨ tg = 14 ∨ tg = 15 by omega) with rfl | rfl | rfl | rfl | rfl | rfl | rfl | rfl | rfl | rfl | rfl | rfl | rfl | rfl | rfl | rfl <;> simp only [cAd] <;> omega
  · have h1 := cl_lo hi (Or.inl h)
    have := cAd_srv (q := q) (v := i.2.1) (by omega) ⟨hi, Or.inl ⟨h.1, h.2, rfl⟩⟩
    omega
  · have h1 := cl_lo4 hi h
    have := cAd_cli (q := q) (v := i.2.1) ⟨hi, Or.inl ⟨h.1, h.2, rfl⟩⟩
    omega
  · have h2 := cAd_tree (q := q) (t := i.2.1) ⟨hi, h.1, h.2, rfl⟩
    unfold cTb at h2
    rcases cl_tr hi h with h1 | h1
    · rw [if_pos (by omega)] at h2
      omega
    · rw [if_neg (by omega)] at h2
      omega
  · have h2 := cAd_ver (q := q) (v := i.2.1) ⟨hi, h.1, h.2, rfl⟩
    unfold cVb cMost at h2
    rcases cl_vr hi h with h1 | h1
    · rw [if_neg (by omega), if_neg (by omega)] at h2
      omega
    · rw [if_pos h1, if_pos h1] at h2
      omega
