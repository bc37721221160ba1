/-! layer 2: a directory's copies are set -/
section ZQ
variable {N g B s o c d x y z T n m t l i j a b : Nat} {A E M M' X Mc Mr Mc' Mr' : gM} {row a3 : gI} {D P : Nat → Bool} {G pd v w nr a1 a2 a4 a5 : Int32} {f : Nat → Int32} {zz : lS}
def hC (G : Int32) (y n : Nat) (j : gI) (q : Nat) : Prop := ∃ s, s < n ∧ bt G s = true ∧ ((j = (51, s, 0) ∧ q = y) ∨ j = (55, s, y))
def hR (G : Int32) (y n : Nat) (j : gI) (q : Nat) : Prop := (∃ s, s < n ∧ bt G s = true ∧ ((j = m_has ∧ q = 48 * s + y) ∨ (j = m_vector ∧ 8 * (48 * s + y) ≤ q ∧ q < 8 * (48 * s + y) + 8))) ∨ (j = m_o ∧ q = 55)
theorem hC_t {j : gI} {q : Nat} (h : hC G y n j q) : j.1 = 51 ∨ j.1 = 55 := by
  obtain ⟨s, -, -, h | h⟩ := h
  · rw [h.1]; exact Or.inl rfl
  · rw [h]; exact Or.inr rfl
theorem hR_t {j : gI} {q : Nat} (h : hR G y n j q) : j.1 = 11 ∨ j.1 = 14 ∨ (j.1 = 0 ∧ q = 55) := by
  rcases h with ⟨s, -, -, h | h⟩ | h
  · rw [h.1]; exact Or.inl rfl
  · rw [h.1]; exact Or.inr (Or.inl rfl)
  · rw [h.1]; exact Or.inr (Or.inr ⟨rfl, h.2⟩)
theorem c_dirL {J : gM → Option gM} (hN : N ≤ 4) (hy : y < 48) (hG : M (13, 0, 0) 6 = G) : ∃ M', f_X4_joinDirectory_L70 N (nI y) J 100 (0 : Int32) M = J M' ∧ cf (hC G y N) M M' ∧ ∀ s, s < N → bt G s = true → M' (51, s, 0) y = 1 ∧ ∀ k, k < N + 4 → M' (55, s, y) k = M (14, 0, 0) k := by
  obtain ⟨M', h1, h2, h3⟩ := loopP (fun u k M1 => f_X4_joinDirectory_L70 N (nI y) J u (nI k) M1) N J (fun k M1 => cf (hC G y k) M M1 ∧ ∀ s, s < k → bt G s = true → M1 (51, s, 0) y = 1 ∧ ∀ q, q < N + 4 → M1 (55, s, y) q = M (14, 0, 0) q) (by omega) (fun u k M1 hk ⟨c1, p1⟩ => by
    have e : ∀ (j : gI) q, (j.1 = 13 ∨ j.1 = 14) → M1 j q = M j q := fun j q h => c1 _ _ (fun z => by have := hC_t z; omega)
    have up : cf (hC G y (k + 1)) M M1 := c1.mo (fun j q ⟨s, a, b, c⟩ => ⟨s, by omega, b, c⟩)
    by_cases hb : bt G k = true
    · refine ⟨gpu (gset M1 (51, k, 0) y 1) (55, k, y) 0 (N + 4) (fun q => M (14, 0, 0) q), ?_, up.tr (((cf.st ⟨k, by omega, hb, Or.inl ⟨rfl, rfl⟩⟩).tr (cf.pu (fun q _ _ => ⟨k, by omega, hb, Or.inr rfl⟩)))), fun s hs hbs => ?_⟩
      · simp only [f_X4_joinDirectory_L70, lt_d, jn_d]
        rw [if_neg (nI_ge hk (by omega)), e (13, 0, 0) 6 (Or.inl rfl), hG, c_isIn _ (by omega), o1_s, hb, zb_t, if_neg (by decide), ix_n hk (by omega), wz_1 hy (by omega), ix_n hk (by omega), ix_n (n := 48) hy (by omega), c_assign (show cN N (55, k, y) = N + 4 from rfl) (cN14 _) (by omega), o1_s, nI_1]
        refine congrArg _ (gpu_congr fun q hq => ?_)
        rw [gset_o (by simp)]; exact e _ _ (Or.inr rfl)
      · by_cases es : s = k
        · subst es
          exact ⟨by rw [gpu_ne (by simp), gset_aa], fun q hq => by rw [gpu_r, if_pos ⟨rfl, by omega, by omega⟩]; rfl⟩
        · obtain ⟨z1, z2⟩ := p1 s (by omega) hbs
          exact ⟨by rw [gpu_ne (by simp), gset_o (by simp [es])]; exact z1, fun q hq => by rw [gpu_ne (by simp [es]), gset_o (by simp)]; exact z2 q hq⟩
    · refine ⟨M1, ?_, up, fun s hs hbs => p1 s (by
        have : s ≠ k := fun e => hb (by rw [← e]; exact hbs)
        omega) hbs⟩
      rw [Bool.not_eq_true] at hb
      simp only [f_X4_joinDirectory_L70, lt_d, jn_d]
      rw [if_neg (nI_ge hk (by omega)), e (13, 0, 0) 6 (Or.inl rfl), hG, c_isIn _ (by omega), o1_s, hb, zb_f, if_pos rfl, nI_1]) (fun u M1 _ => by
    simp only [f_X4_joinDirectory_L70]
    rw [if_pos (nI_le (by omega) (by omega))]) (st := M) ⟨cf.rf _ _, fun s hs => by omega⟩
  exact ⟨M', h1, h2, h3⟩
theorem r_dirL {J : gM → Option gM} (hN : N ≤ 4) (hy : y < 48) (h0 : M m_o 0 = nI N) (h53 : M m_o 53 = G) : ∃ M', f_X11_mergeDirectory_L195 (nI y) J 100 (0 : Int32) M = J M' ∧ cf (hR G y N) M M' ∧ M' m_o 55 = M m_o 55 + nI (cntF (bt G) 0 N) ∧ ∀ s, s < N → bt G s = true → M' m_has (48 * s + y) = 1 ∧ ∀ k, k < 8 → M' m_vector (8 * (48 * s + y) + k) = M m_row k := by
  obtain ⟨M', h1, h2, h3, h4⟩ := loopP (fun u k M1 => f_X11_mergeDirectory_L195 (nI y) J u (nI k) M1) N J (fun k M1 => cf (hR G y k) M M1 ∧ M1 m_o 55 = M m_o 55 + nI (cntF (bt G) 0 k) ∧ ∀ s, s < k → bt G s = true → M1 m_has (48 * s + y) = 1 ∧ ∀ q, q < 8 → M1 m_vector (8 * (48 * s + y) + q) = M m_row q) (by omega) (fun u k M1 hk ⟨c1, p0, p1⟩ => by
    have e : ∀ (j : gI) q, ((j.1 = 0 ∧ q ≠ 55) ∨ j.1 = 45) → M1 j q = M j q := fun j q h => c1 _ _ (fun z => by have := hR_t z; omega)
    have up : cf (hR G y (k + 1)) M M1 := c1.mo (fun j q h => h.elim (fun ⟨s, a, b, c⟩ => Or.inl ⟨s, by omega, b, c⟩) Or.inr)
    have hcs : cntF (bt G) 0 (k + 1) = cntF (bt G) 0 k + (if bt G k then 1 else 0) := by have := cntF_snoc (p := bt G) k 0; rw [Nat.zero_add] at this; exact this
    have w0 : M1 m_o 0 = nI N := by rw [e _ _ (Or.inl ⟨rfl, by decide⟩)]; exact h0
    have w53 : M1 m_o 53 = G := by rw [e _ _ (Or.inl ⟨rfl, by decide⟩)]; exact h53
    by_cases hbk : bt G k = true
    · obtain ⟨M2, hM2⟩ : ∃ X, X = gpu (gset M1 m_has (48 * k + y) 1) m_vector (8 * (48 * k + y)) 8 (fun q => M m_row q) := ⟨_, rfl⟩
      have f2 : cf (fun j q => (j = m_has ∧ q = 48 * k + y) ∨ (j = m_vector ∧ 8 * (48 * k + y) ≤ q ∧ q < 8 * (48 * k + y) + 8)) M1 M2 := by rw [hM2]; exact (cf.st (Or.inl ⟨rfl, rfl⟩)).tr (cf.pu (fun q a b => Or.inr ⟨rfl, a, b⟩))
      have e55 : M2 m_o 55 = M1 m_o 55 := f2 _ _ (by simp)
      have f5 : cf (fun j q => j = m_o ∧ q = 55) M2 (gset M2 m_o 55 (M2 m_o 55 + 1)) := cf.st ⟨rfl, rfl⟩
      refine ⟨gset M2 m_o 55 (M2 m_o 55 + 1), ?_, (up.tr (f2.mo (fun j q h => Or.inl ⟨k, by omega, hbk, h⟩))).tr (f5.mo (fun j q h => Or.inr h)), ?_, fun s hs hbs => ?_⟩
      · simp only [f_X11_mergeDirectory_L195, lt_d, jn_d, nI_m48, nI_add]
        rw [w0, if_neg (nI_ge hk (by omega)), r_isOf w53 (by omega), o1_s, hbk, zb_t, if_neg (by decide), wz_1 (by omega) (by omega), show f_X11_copyTo (gset M1 m_has (48 * k + y) 1) m_row (0 : Int32) m_vector (nI (48 * k + y)) = _ from r_copyTo (i := 0) (by decide) (by show _ ≤ 1536; omega) (by decide) (by decide), o1_s, nI_1, hM2]
        rw [gpu_congr (M := gset M1 m_has (48 * k + y) 1) (row := m_vector) (base := 8 * (48 * k + y)) (n := 8) (f := fun q => gset M1 m_has (48 * k + y) 1 m_row (8 * 0 + q)) (g := fun q => M m_row q) (fun q hq => by rw [gset_o (by simp), e _ _ (Or.inr rfl), show 8 * 0 + q = q by omega])]
      · rw [gset_aa, e55, p0, hcs, hbk, if_pos rfl, ← nI_add, ← Int32.add_assoc]
        rfl
      · by_cases es : s = k
        · subst es
          refine ⟨by rw [gset_o (by simp), hM2, gpu_ne (by simp), gset_aa], fun q hq => by rw [gset_o (by simp), hM2, gpu_in hq]⟩
        · obtain ⟨z1, z2⟩ := p1 s (by omega) hbs
          refine ⟨?_, fun q hq => ?_⟩
          · rw [gset_o (by simp), f2 _ _ (by
              rintro (z | z)
              · omega
              · exact absurd z.1 (by decide))]; exact z1
          · rw [gset_o (by simp), f2 _ _ (by
              rintro (z | z)
              · exact absurd z.1 (by decide)
              · omega)]; exact z2 q hq
    · refine ⟨M1, ?_, up, ?_, fun s hs hbs => p1 s (by
        have : s ≠ k := fun e => hbk (by rw [← e]; exact hbs)
        omega) hbs⟩
      · rw [Bool.not_eq_true] at hbk
        simp only [f_X11_mergeDirectory_L195, lt_d, jn_d]
        rw [w0, if_neg (nI_ge hk (by omega)), r_isOf w53 (by omega), o1_s, hbk, zb_f, if_pos rfl, nI_1]
      · rw [p0, hcs, if_neg hbk, Nat.add_zero]) (fun u M1 ⟨c1, _⟩ => by
    simp only [f_X11_mergeDirectory_L195, lt_d]
    rw [c1 m_o 0 (fun z => absurd (hR_t z) (by decide)), h0, if_pos (nI_le (by omega) (by omega))]) (st := M) ⟨cf.rf _ _, by show _ = _ + 0; rw [Int32.add_zero], fun s hs => by omega⟩
  exact ⟨M', h1, h2, h3, h4⟩
end ZQ
