/-! layer 2: several candidates, given to all -/
section ZH
variable {N g B s o c d x y z T n m t l i j a : Nat} {A E M M' X Mc Mr Mc' Mr' : gM} {row a3 : gI} {D P : Nat → Bool} {G pd v w nr a1 a2 a4 a5 : Int32} {f : Nat → Int32} {zz : lS}
theorem c_grow (hN : N ≤ 4) (ho : o < 48) : ∃ M', f_X6_growMarks N M v (nI o) = some M' ∧ cf (fun j q => j.1 = 22 ∧ j.2.1 < N ∧ q = o) M M' ∧ ∀ s, s < N → M' (22, s, 0) o = if bt v s = true then M (22, s, 0) o + 1 else M (22, s, 0) o := by
  obtain ⟨M', h1, h2, h3, -⟩ := loopP (fun n k M => f_X6_growMarks_L2 N v (nI o) n (nI k) M) N some (fun k M1 => cf (fun j q => j.1 = 22 ∧ j.2.1 < N ∧ q = o) M M1 ∧ (∀ s, s < k → M1 (22, s, 0) o = if bt v s = true then M (22, s, 0) o + 1 else M (22, s, 0) o) ∧ ∀ s, k ≤ s → M1 (22, s, 0) o = M (22, s, 0) o) (by omega) (fun n k M1 hk ⟨c1, p1, p2⟩ => by
    by_cases hb : bt v k = true
    · refine ⟨gset M1 (22, k, 0) o (M1 (22, k, 0) o + 1), ?_, c1.tr (cf.st ⟨rfl, hk, rfl⟩), fun s hs => ?_, fun s hs => ?_⟩
      · simp only [f_X6_growMarks_L2, lt_d, jn_d]
        rw [if_neg (nI_ge (by omega) (by omega)), c_isIn v (by omega), o1_s, hb, zb_t, if_neg (by decide), ix_n hk (by omega), rd_n ho (by omega), wr_n ho (by omega), nI_1]
      · by_cases e : s = k
        · subst e; rw [gset_aa, if_pos hb, p2 s (Nat.le_refl _)]
        · rw [gset_o (by simp [e]), p1 s (by omega)]
      · rw [gset_o (fun z => by have := congrArg (fun q : gI => q.2.1) z.1; dsimp only at this; omega)]; exact p2 s (by omega)
    · refine ⟨M1, ?_, c1, fun s hs => ?_, fun s hs => p2 s (by omega)⟩
      · simp only [f_X6_growMarks_L2, lt_d, jn_d]
        rw [if_neg (nI_ge (by omega) (by omega)), c_isIn v (by omega), o1_s]
        rw [Bool.not_eq_true] at hb
        rw [hb, zb_f, if_pos rfl, nI_1]
      · by_cases e : s = k
        · subst e; rw [if_neg hb]; exact p2 s (Nat.le_refl _)
        · exact p1 s (by omega)) (fun n M1 _ => by
    simp only [f_X6_growMarks_L2]
    rw [if_pos (nI_le (by omega) (by omega))]) (st := M) ⟨cf.rf _ _, fun s hs => by omega, fun s _ => rfl⟩
  exact ⟨M', h1, h2, h3⟩
theorem r_mark (hN : N ≤ 4) (ho : o < 48) (h0 : M m_o 0 = nI N) : ∃ M', f_X11_mark M (nI o) v = some M' ∧ cf (fun j q => j.1 = 21 ∧ q < 192 ∧ q % 48 = o) M M' ∧ ∀ s, s < N → M' m_marks (48 * s + o) = if bt v s = true then M m_marks (48 * s + o) + 1 else M m_marks (48 * s + o) := by
  obtain ⟨M', h1, h2, h3, -⟩ := loopP (fun n k M => f_X11_mark_L2 (nI o) v n (nI k) M) N some (fun k M1 => cf (fun j q => j.1 = 21 ∧ q < 192 ∧ q % 48 = o) M M1 ∧ (∀ s, s < k → M1 m_marks (48 * s + o) = if bt v s = true then M m_marks (48 * s + o) + 1 else M m_marks (48 * s + o)) ∧ ∀ s, k ≤ s → M1 m_marks (48 * s + o) = M m_marks (48 * s + o)) (by omega) (fun n k M1 hk ⟨c1, p1, p2⟩ => by
    have w0 : M1 m_o 0 = nI N := by rw [c1 _ _ (by simp)]; exact h0
    by_cases hb : bt v k = true
    · refine ⟨gset M1 m_marks (48 * k + o) (M1 m_marks (48 * k + o) + 1), ?_, c1.tr (cf.st ⟨rfl, by omega, by omega⟩), fun s hs => ?_, fun s hs => ?_⟩
      · simp only [f_X11_mark_L2, lt_d, jn_d, nI_m48, nI_add]
        rw [w0, if_neg (nI_ge (by omega) (by omega)), if_pos (by rw [bt_1 (by omega)]; exact hb), rd_n (by omega) (by omega), wr_n (by omega) (by omega), nI_1]
      · by_cases e : s = k
        · subst e; rw [gset_aa, if_pos hb, p2 s (Nat.le_refl _)]
        · rw [gset_o (by omega), p1 s (by omega)]
      · rw [gset_o (by omega)]; exact p2 s (by omega)
    · refine ⟨M1, ?_, c1, fun s hs => ?_, fun s hs => p2 s (by omega)⟩
      · simp only [f_X11_mark_L2, lt_d, jn_d, nI_m48, nI_add]
        rw [w0, if_neg (nI_ge (by omega) (by omega)), if_neg (by rw [bt_1 (by omega)]; exact hb), rd_n (by omega) (by omega), wr_n (by omega) (by omega), nI_1, gset_self]
      · by_cases e : s = k
        · subst e; rw [if_neg hb]; exact p2 s (Nat.le_refl _)
        · exact p1 s (by omega)) (fun n M1 ⟨c1, _⟩ => by
    simp only [f_X11_mark_L2, lt_d]
    rw [c1 _ _ (by simp), h0, if_pos (nI_le (by omega) (by omega))]) (st := M) ⟨cf.rf _ _, fun s hs => by omega, fun s _ => rfl⟩
  exact ⟨M', h1, h2, h3⟩
theorem c_takeFirst (hN : N ≤ 4) (ha : a < 192) (hl : M (60, 192, 0) 3 = nI n) (hn : n ≤ 24) : ∃ M', f_X9_takeFirst N M a 192 = some M' ∧ cf (fun j q => (j.1 = 60 ∨ j.1 = 61 ∨ j.1 = 62 ∨ j.1 = 64) ∧ j.2.1 = a) M M' ∧ M' (60, a, 0) 3 = nI (min n 6) ∧ ∀ i, i < min n 6 → M' (61, a, 0) i = M (61, 192, 0) i ∧ M' (62, a, 0) i = M (62, 192, 0) i ∧ ∀ k, k < N + 4 → M' (64, a, i) k = M (64, 192, i) k := by
  have hc6 : cMost a = 6 := cMost_lt ha
  obtain ⟨M0, hM0⟩ : ∃ X, X = gset M (60, a, 0) 3 0 := ⟨_, rfl⟩
  have f0 : cf (fun j q => (j.1 = 60 ∨ j.1 = 61 ∨ j.1 = 62 ∨ j.1 = 64) ∧ j.2.1 = a) M M0 := by rw [hM0]; exact cf.st (by simp)
  obtain ⟨M', h1, h2, h3, h4⟩ := loopP (fun u k M => f_X9_takeFirst_L6 N a 192 u (nI k) M) (min n 6) some (fun k M1 => cf (fun j q => (j.1 = 60 ∨ j.1 = 61 ∨ j.1 = 62 ∨ j.1 = 64) ∧ j.2.1 = a) M M1 ∧ M1 (60, a, 0) 3 = nI k ∧ ∀ i, i < k → M1 (61, a, 0) i = M (61, 192, 0) i ∧ M1 (62, a, 0) i = M (62, 192, 0) i ∧ ∀ k, k < N + 4 → M1 (64, a, i) k = M (64, 192, i) k) (by omega) (fun u k M1 hk ⟨c1, p1, p2⟩ => by
    have e : ∀ (j : gI) q, j.2.1 = 192 → M1 j q = M j q := fun j q h => c1 _ _ (by omega)
    have fV := cVa_fr (N := N) (M := M1) (v := a) (n := k) (a1 := M1 (61, 192, 0) k) (a2 := M1 (62, 192, 0) k) (row := (64, 192, k))
    refine ⟨cVa N M1 a k (M1 (61, 192, 0) k) (M1 (62, 192, 0) k) (64, 192, k), ?_, c1.tr fV, (cVa_v (i := 0)).1, fun i hi => ?_⟩
    · simp only [f_X9_takeFirst_L6, lt_d, cM192]
      rw [e (60, 192, 0) 3 rfl, hl, if_neg (nI_ge (by omega) (by omega)), c_isFull9 p1 (by rw [hc6]; omega) (by rw [hc6]; omega), hc6, if_pos (by omega), o1_s, if_pos rfl, rd_n (by omega) (by omega), rd_n (by omega) (by omega), ix_n (by omega) (by omega), c_vadd hN p1 (by rw [hc6]; omega) (by rw [hc6]; omega) (cN64 _ _ _) (by simp) (by simp), o1_s, nI_1]
    · obtain ⟨-, u2, u3, u4⟩ := cVa_v (N := N) (M := M1) (v := a) (n := k) (a1 := M1 (61, 192, 0) k) (a2 := M1 (62, 192, 0) k) (row := (64, 192, k)) (i := i)
      by_cases ei : i = k
      · subst ei
        refine ⟨by rw [u2, if_pos rfl, e _ _ rfl], by rw [u3, if_pos rfl, e _ _ rfl], fun q hq => by rw [u4 q hq, if_pos rfl, e _ _ rfl]⟩
      · obtain ⟨z1, z2, z3⟩ := p2 i (by omega)
        exact ⟨by rw [u2, if_neg ei]; exact z1, by rw [u3, if_neg ei]; exact z2, fun q hq => by rw [u4 q hq, if_neg ei]; exact z3 q hq⟩) (fun u M1 ⟨c1, p1, p2⟩ => by
    have e : M1 (60, 192, 0) 3 = nI n := by rw [c1 _ _ (by dsimp only; omega)]; exact hl
    simp only [f_X9_takeFirst_L6, lt_d]
    rw [e]
    by_cases h6 : n ≤ 6
    · rw [if_pos (nI_le (by omega) (by omega))]
    · rw [if_neg (nI_ge (by omega) (by omega)), c_isFull9 p1 (by rw [hc6]; omega) (by rw [hc6]; omega), hc6, if_neg (by omega), o1_s, if_neg (by decide)]) (st := M0) ⟨f0, by rw [hM0, gset_aa]; rfl, fun i hi => by omega⟩
  refine ⟨M', ?_, h2, h3, h4⟩
  unfold f_X9_takeFirst f_X9_clear
  rw [lt_d, o1_s, ← hM0]
  exact h1
/-- what a server has after several were given -/
def gvS (N n s y : Nat) (B M : gM) (r : Nat → Int32) : Prop := M (51, s, 0) y = 1 ∧ M (52, s, 0) y = B (61, 192, 0) 0 ∧ M (53, s, 0) y = B (62, 192, 0) 0 ∧ (∀ k, k < N + 4 → M (55, s, y) k = r k) ∧ M (60, 48 * s + y, 0) 3 = nI (min n 6) ∧ ∀ i, i < min n 6 → M (61, 48 * s + y, 0) i = B (61, 192, 0) i ∧ M (62, 48 * s + y, 0) i = B (62, 192, 0) i ∧ ∀ k, k < N + 4 → M (64, 48 * s + y, i) k = B (64, 192, i) k
theorem c_setVersions (hN : N ≤ 4) (hs : s < 4) (hy : y < 48) (hl : M (60, 192, 0) 3 = nI n) (hn : n ≤ 24) : ∃ M', f_X7_setVersions N M s (nI y) 192 (14, 0, 0) = some M' ∧ cf (gC s y) M M' ∧ gvS N n s y M M' (fun k => M (14, 0, 0) k) := by
  obtain ⟨M1, h1, h2, h3, h4⟩ := c_takeFirst (a := 48 * s + y) hN (by omega) hl hn
  obtain ⟨M2, hM2⟩ : ∃ X, X = gset (gset (gset M1 (51, s, 0) y 1) (52, s, 0) y (M (61, 192, 0) 0)) (53, s, 0) y (M (62, 192, 0) 0) := ⟨_, rfl⟩
  obtain ⟨M3, hM3⟩ : ∃ X, X = gpu M2 (55, s, y) 0 (N + 4) (fun k => M2 (14, 0, 0) k) := ⟨_, rfl⟩
  have f2 : cf (fun j q => (j.1 = 51 ∨ j.1 = 52 ∨ j.1 = 53) ∧ j.2.1 = s ∧ q = y) M1 M2 := by rw [hM2]; exact ((cf.st (by simp)).tr (cf.st (by simp))).tr (cf.st (by simp))
  have f3 : cf (fun j q => j = (55, s, y)) M2 M3 := by rw [hM3]; exact cf.pu (fun _ _ _ => rfl)
  have r0 : ∀ (M : gM) (i : gI) (n : Nat) (K : Int32 → Option gM), 0 < n → n ≤ 16384 → rd M i n (0 : Int32) K = K (M i 0) := fun M i n K a b => rd_n (k := 0) a b
  refine ⟨M3, ?_, ((h2.mo (fun j q h => ?_)).tr (f2.mo (fun j q h => ?_))).tr (f3.mo (fun j q h => ?_)), ?_, ?_, ?_, fun k hk => ?_, ?_, fun i hi => ?_⟩
  · unfold f_X7_setVersions
    rw [ix_n hy (by omega), h1, o1_s, wz_n hy (by omega) (Or.inr rfl), cM192, r0 _ _ _ _ (by omega) (by omega), r0 _ _ _ _ (by omega) (by omega), c_setFile hy, o1_s, ix_n hy (by omega), gset_o (j := (61, 192, 0)) (by simp), gset_o (j := (62, 192, 0)) (by simp), h2 (61, 192, 0) 0 (by dsimp only; omega), h2 (62, 192, 0) 0 (by dsimp only; omega), ← hM2, c_assign (cN55 _ _ _) (cN14 _) (by omega), o1_s, ← hM3]
  · unfold gC; omega
  · unfold gC; omega
  · rw [h]; unfold gC; dsimp only; omega
  · rw [f3 _ _ (by simp), hM2, gset_o (by simp), gset_o (by simp), gset_aa]
  · rw [f3 _ _ (by simp), hM2, gset_o (by simp), gset_aa]
  · rw [f3 _ _ (by simp), hM2, gset_aa]
  · rw [hM3, gpu_r, if_pos ⟨rfl, by omega, by omega⟩, f2 _ _ (by simp), h2 _ _ (by simp)]; rfl
  · rw [f3 _ _ (by simp), f2 _ _ (by simp)]; exact h3
  · obtain ⟨z1, z2, z3⟩ := h4 i hi
    exact ⟨by rw [f3 _ _ (by simp), f2 _ _ (by simp)]; exact z1, by rw [f3 _ _ (by simp), f2 _ _ (by simp)]; exact z2, fun k hk => by rw [f3 _ _ (by simp), f2 _ _ (by simp)]; exact z3 k hk⟩
end ZH
