/-! layer 2: several candidates at every server of the group -/
def gG (G : Int32) (y k : Nat) (j : gI) (q : Nat) : Prop := ∃ s, s < k ∧ bt G s = true ∧ gC s y j q
def gQ (G : Int32) (y k : Nat) (j : gI) (q : Nat) : Prop := (∃ s, s < k ∧ bt G s = true ∧ gR (48 * s + y) j q) ∨ (j.1 = 0 ∧ q = 55)
def rvS (b a : Nat) (B M : gM) : Prop := M m_has a = 1 ∧ M m_value a = B m_candidateValue 0 ∧ M m_size a = B m_candidateSize 0 ∧ (∀ k, k < 8 → M m_vector (8 * a + k) = B m_row k) ∧ M m_versions a = nI b ∧ ∀ i, i < b → M m_versionValue (6 * a + i) = B m_candidateValue i ∧ M m_versionSize (6 * a + i) = B m_candidateSize i ∧ ∀ k, k < 8 → M m_versionVector (8 * (6 * a + i) + k) = B m_candidateVector (8 * i + k)
section ZI
variable {N g B s o c d x y z T n m t l i j a b : Nat} {A E M M' X Mc Mr Mc' Mr' : gM} {row a3 : gI} {D P : Nat → Bool} {G pd v w nr a1 a2 a4 a5 : Int32} {f : Nat → Int32} {zz : lS}
theorem c_giveL {J : gM → Option gM} (hN : N ≤ 4) (hy : y < 48) (hG : M (13, 0, 0) 6 = G) (hl : M (60, 192, 0) 3 = nI n) (hn : n ≤ 24) : ∃ M', f_X4_giveSeveral_L7 N (nI y) J 100 (0 : Int32) M = J M' ∧ cf (gG G y N) M M' ∧ ∀ s, s < N → bt G s = true → gvS N n s y M M' (fun k => M (14, 0, 0) k) := by
  have out : ∀ k (j : gI) q, (j.2.1 = 192 ∨ j.1 = 14 ∨ j.1 = 13) → k ≤ 4 → ¬ gG G y k j q := fun k j q h hk ⟨s, hs, _, hg⟩ => by
    revert hg; unfold gC; omega
  obtain ⟨M', h1, h2, h3⟩ := loopP (fun u k M1 => f_X4_giveSeveral_L7 N (nI y) J u (nI k) M1) N J (fun k M1 => cf (gG G y k) M M1 ∧ ∀ s, s < k → bt G s = true → gvS N n s y M M1 (fun k => M (14, 0, 0) k)) (by omega) (fun u k M1 hk ⟨c1, p1⟩ => by
    have e : ∀ (j : gI) q, (j.2.1 = 192 ∨ j.1 = 14 ∨ j.1 = 13) → M1 j q = M j q := fun j q h => c1 _ _ (out k j q h (by omega))
    have up : cf (gG G y (k + 1)) M M1 := c1.mo (fun j q ⟨s, a, b, c⟩ => ⟨s, by omega, b, c⟩)
    by_cases hb : bt G k = true
    · obtain ⟨M2, q1, q2, q3⟩ := c_setVersions (s := k) (y := y) (M := M1) hN (by omega) hy (by rw [e _ _ (Or.inl rfl)]; exact hl) hn
      refine ⟨M2, ?_, up.tr (q2.mo (fun j q h => ⟨k, by omega, hb, h⟩)), fun s hs hbs => ?_⟩
      · simp only [f_X4_giveSeveral_L7, lt_d, jn_d]
        rw [if_neg (nI_ge hk (by omega)), e (13, 0, 0) 6 (Or.inr (Or.inr rfl)), hG, c_isIn _ (by omega), o1_s, hb, zb_t, if_neg (by decide), ix_n hk (by omega), q1, o1_s, nI_1]
      · by_cases es : s = k
        · subst es
          obtain ⟨z1, z2, z3, z4, z5, z6⟩ := q3
          refine ⟨z1, by rw [z2, e _ _ (Or.inl rfl)], by rw [z3, e _ _ (Or.inl rfl)], fun k hk => (z4 k hk).trans (e (14, 0, 0) k (Or.inr (Or.inl rfl))), z5, fun i hi => ?_⟩
          obtain ⟨y1, y2, y3⟩ := z6 i hi
          exact ⟨by rw [y1, e _ _ (Or.inl rfl)], by rw [y2, e _ _ (Or.inl rfl)], fun k hk => by rw [y3 k hk, e _ _ (Or.inl rfl)]⟩
        · obtain ⟨z1, z2, z3, z4, z5, z6⟩ := p1 s (by omega) hbs
          refine ⟨by rw [q2 _ _ (by unfold gC; simp [es])]; exact z1, by rw [q2 _ _ (by unfold gC; simp [es])]; exact z2, by rw [q2 _ _ (by unfold gC; simp [es])]; exact z3, fun k' hk' => by rw [q2 _ _ (by unfold gC; simp [es])]; exact z4 k' hk', by rw [q2 _ _ (by unfold gC; dsimp only; omega)]; exact z5, fun i hi => ?_⟩
          obtain ⟨y1, y2, y3⟩ := z6 i hi
          exact ⟨by rw [q2 _ _ (by unfold gC; dsimp only; omega)]; exact y1, by rw [q2 _ _ (by unfold gC; dsimp only; omega)]; exact y2, fun k' hk' => by rw [q2 _ _ (by unfold gC; dsimp only; omega)]; exact y3 k' hk'⟩
    · refine ⟨M1, ?_, up, fun s hs hbs => p1 s (by
        have : s ≠ k := fun e => hb (by rw [← e]; exact hbs)
        omega) hbs⟩
      rw [Bool.not_eq_true] at hb
      simp only [f_X4_giveSeveral_L7, lt_d, jn_d]
      rw [if_neg (nI_ge hk (by omega)), e (13, 0, 0) 6 (Or.inr (Or.inr rfl)), hG, c_isIn _ (by omega), o1_s, hb, zb_f, if_pos rfl, nI_1]) (fun u M1 _ => by
    simp only [f_X4_giveSeveral_L7]
    rw [if_pos (nI_le (by omega) (by omega))]) (st := M) ⟨cf.rf _ _, fun s hs => by omega⟩
  exact ⟨M', h1, h2, h3⟩
theorem r_manyIn {J J2 J3 : gM → Option gM} (ha : a < 192) (hb : b ≤ 6) : ∃ M', f_X11_mergeMany_L260 (nI y) (nI b) (nI s) (nI a) J J2 J3 100 (0 : Int32) M = J M' ∧ cf (fun j q => ((j.1 = 16 ∨ j.1 = 17) ∧ 6 * a ≤ q ∧ q < 6 * a + 6) ∨ (j.1 = 18 ∧ 48 * a ≤ q ∧ q < 48 * a + 48)) M M' ∧ ∀ i, i < b → M' m_versionValue (6 * a + i) = M m_candidateValue i ∧ M' m_versionSize (6 * a + i) = M m_candidateSize i ∧ ∀ k, k < 8 → M' m_versionVector (8 * (6 * a + i) + k) = M m_candidateVector (8 * i + k) := by
  obtain ⟨M', h1, h2, h3⟩ := loopP (fun u k M1 => f_X11_mergeMany_L260 (nI y) (nI b) (nI s) (nI a) J J2 J3 u (nI k) M1) b J (fun k M1 => cf (fun j q => ((j.1 = 16 ∨ j.1 = 17) ∧ 6 * a ≤ q ∧ q < 6 * a + 6) ∨ (j.1 = 18 ∧ 48 * a ≤ q ∧ q < 48 * a + 48)) M M1 ∧ ∀ i, i < k → M1 m_versionValue (6 * a + i) = M m_candidateValue i ∧ M1 m_versionSize (6 * a + i) = M m_candidateSize i ∧ ∀ q, q < 8 → M1 m_versionVector (8 * (6 * a + i) + q) = M m_candidateVector (8 * i + q)) (by omega) (fun u k M1 hk ⟨c1, p1⟩ => by
    obtain ⟨M2, hM2⟩ : ∃ X, X = gset (gset M1 m_versionValue (6 * a + k) (M1 m_candidateValue k)) m_versionSize (6 * a + k) (M1 m_candidateSize k) := ⟨_, rfl⟩
    obtain ⟨M3, hM3⟩ : ∃ X, X = gpu M2 m_versionVector (8 * (6 * a + k)) 8 (fun q => M2 m_candidateVector (8 * k + q)) := ⟨_, rfl⟩
    have f2 : cf (fun j q => (j.1 = 16 ∨ j.1 = 17) ∧ q = 6 * a + k) M1 M2 := by rw [hM2]; exact (cf.st ⟨Or.inl rfl, rfl⟩).tr (cf.st ⟨Or.inr rfl, rfl⟩)
    have f3 : cf (fun j q => j.1 = 18 ∧ 8 * (6 * a + k) ≤ q ∧ q < 8 * (6 * a + k) + 8) M2 M3 := by rw [hM3]; exact cf.pu (fun q x y => ⟨rfl, x, by omega⟩)
    have ec : ∀ (j : gI) q, 63 ≤ j.1 → M1 j q = M j q := fun j q h => c1 _ _ (by omega)
    refine ⟨M3, ?_, (c1.tr (f2.mo (fun j q h => by omega))).tr (f3.mo (fun j q h => by omega)), fun i hi => ?_⟩
    · simp only [f_X11_mergeMany_L260, lt_d, nI_m6, nI_add]
      rw [if_neg (nI_ge hk (by omega)), rd_n (by omega) (by omega), wr_n (by omega) (by omega), rd_n (by omega) (by omega), wr_n (by omega) (by omega), gset_o (j := m_candidateSize) (by simp), ← hM2, r_copyTo (by show _ ≤ 192; omega) (by show _ ≤ 9216; omega) (by decide) (by decide), o1_s, ← hM3, nI_1]
    · by_cases e : i = k
      · subst e
        refine ⟨by rw [f3 _ _ (by simp), hM2, gset_o (by simp), gset_aa, ec _ _ (by decide)], by rw [f3 _ _ (by simp), hM2, gset_aa, ec _ _ (by decide)], fun q hq => by rw [hM3, gpu_r, if_pos ⟨rfl, by omega, by omega⟩, f2 _ _ (by simp), ec _ _ (by decide), show 8 * i + (8 * (6 * a + i) + q - 8 * (6 * a + i)) = 8 * i + q by omega]⟩
      · obtain ⟨z1, z2, z3⟩ := p1 i (by omega)
        exact ⟨by rw [f3 _ _ (by simp), f2 _ _ (by dsimp only; omega)]; exact z1, by rw [f3 _ _ (by simp), f2 _ _ (by dsimp only; omega)]; exact z2, fun q hq => by rw [f3 _ _ (by dsimp only; omega), f2 _ _ (by simp)]; exact z3 q hq⟩) (fun u M1 _ => by
    simp only [f_X11_mergeMany_L260]
    rw [if_pos (nI_le (by omega) (by omega))]) (st := M) ⟨cf.rf _ _, fun i hi => by omega⟩
  exact ⟨M', h1, h2, h3⟩
theorem r_manyL {J : gM → Option gM} (hN : N ≤ 4) (hy : y < 48) (h0 : M m_o 0 = nI N) (h53 : M m_o 53 = G) (hb : b ≤ 6) : ∃ M', f_X11_mergeMany_L176 (nI y) (nI b) J 100 (0 : Int32) M = J M' ∧ cf (gQ G y N) M M' ∧ M' m_o 55 = M m_o 55 + nI (cntF (bt G) 0 N) ∧ ∀ s, s < N → bt G s = true → rvS b (48 * s + y) M M' := by
  have out : ∀ k (j : gI) q, ((j.1 = 0 ∧ q ≠ 55) ∨ 45 ≤ j.1) → ¬ gQ G y k j q := fun k j q h hg => by
    rcases hg with ⟨s, hs, _, hg⟩ | hg
    · revert hg; unfold gR; omega
    · omega
  obtain ⟨M', h1, h2, h3, h4⟩ := loopP (fun u k M1 => f_X11_mergeMany_L176 (nI y) (nI b) J u (nI k) M1) N J (fun k M1 => cf (gQ G y k) M M1 ∧ M1 m_o 55 = M m_o 55 + nI (cntF (bt G) 0 k) ∧ ∀ s, s < k → bt G s = true → rvS b (48 * s + y) M M1) (by omega) (fun u k M1 hk ⟨c1, p0, p1⟩ => by
    have e : ∀ (j : gI) q, ((j.1 = 0 ∧ q ≠ 55) ∨ 45 ≤ j.1) → M1 j q = M j q := fun j q h => c1 _ _ (out k j q h)
    have up : cf (gQ G y (k + 1)) M M1 := c1.mo (fun j q h => h.elim (fun ⟨s, a, b, c⟩ => Or.inl ⟨s, by omega, b, c⟩) Or.inr)
    have hcs : cntF (bt G) 0 (k + 1) = cntF (bt G) 0 k + (if bt G k then 1 else 0) := by have := cntF_snoc (p := bt G) k 0; rw [Nat.zero_add] at this; exact this
    have hck := cntF_le (p := bt G) k 0
    have w0 : M1 m_o 0 = nI N := by rw [e _ _ (Or.inl ⟨rfl, by decide⟩)]; exact h0
    have w53 : M1 m_o 53 = G := by rw [e _ _ (Or.inl ⟨rfl, by decide⟩)]; exact h53
    by_cases hbk : bt G k = true
    · obtain ⟨a, ha⟩ : ∃ a, a = 48 * k + y := ⟨_, rfl⟩
      obtain ⟨M2, hM2⟩ : ∃ X, X = gset (gset (gset (gset M1 m_has a 1) m_versions a (nI b)) m_value a (M m_candidateValue 0)) m_size a (M m_candidateSize 0) := ⟨_, rfl⟩
      obtain ⟨M3, hM3⟩ : ∃ X, X = gpu M2 m_vector (8 * a) 8 (fun q => M2 m_row (8 * 0 + q)) := ⟨_, rfl⟩
      have f2 : cf (fun j q => (j.1 = 11 ∨ j.1 = 12 ∨ j.1 = 13 ∨ j.1 = 15) ∧ q = a) M1 M2 := by rw [hM2]; exact (((cf.st (by simp)).tr (cf.st (by simp))).tr (cf.st (by simp))).tr (cf.st (by simp))
      have f3 : cf (fun j q => j.1 = 14 ∧ 8 * a ≤ q ∧ q < 8 * a + 8) M2 M3 := by rw [hM3]; exact cf.pu (fun q x y => ⟨rfl, x, by omega⟩)
      obtain ⟨M4, q1, q2, q3⟩ := r_manyIn (J := fun M41 => lt (M41 m_o 55) (fun v42 => lt (gset M41 m_o 55 (v42 + (1 : Int32))) (fun M43 => f_X11_mergeMany_L176 (nI y) (nI b) J u (nI (k + 1)) M43))) (J2 := fun M30 => f_X11_mergeMany_L176 (nI y) (nI b) J u (nI (k + 1)) M30) (J3 := J) (M := M3) (y := y) (s := k) (a := a) (b := b) (by omega) hb
      have f24 : cf (gR a) M1 M4 := ((f2.mo (fun j q h => by unfold gR; omega)).tr (f3.mo (fun j q h => by unfold gR; omega))).tr (q2.mo (fun j q h => by unfold gR; omega))
      have e4 : ∀ (j : gI) q, 45 ≤ j.1 → M3 j q = M j q := fun j q h => by rw [f3 _ _ (by omega), f2 _ _ (by omega)]; exact e _ _ (Or.inr h)
      have e55 : M4 m_o 55 = M1 m_o 55 := f24 _ _ (by unfold gR; dsimp only; omega)
      have f5 : cf (fun j q => j.1 = 0 ∧ q = 55) M4 (gset M4 m_o 55 (M4 m_o 55 + 1)) := cf.st ⟨rfl, rfl⟩
      refine ⟨gset M4 m_o 55 (M4 m_o 55 + 1), ?_, (up.tr (f24.mo (fun j q h => Or.inl ⟨k, by omega, hbk, by rw [← ha]; exact h⟩))).tr (f5.mo (fun j q h => Or.inr h)), ?_, fun s hs hbs => ?_⟩
      · have r0 : ∀ (M : gM) (i : gI) (n : Nat) (K : Int32 → Option gM), 0 < n → n ≤ 16384 → rd M i n (0 : Int32) K = K (M i 0) := fun M i n K a b => rd_n (k := 0) a b
        simp only [f_X11_mergeMany_L176, lt_d, jn_d, nI_m48, nI_add]
        rw [w0, if_neg (nI_ge hk (by omega)), r_isOf w53 (by omega), o1_s, hbk, zb_t, if_neg (by decide), ← ha, wz_n (by omega) (by omega) (Or.inr rfl), wr_n (by omega) (by omega), r0 _ _ _ _ (by omega) (by omega), wr_n (by omega) (by omega), r0 _ _ _ _ (by omega) (by omega), wr_n (by omega) (by omega), gset_o (j := m_candidateValue) (by simp), gset_o (j := m_candidateValue) (by simp), gset_o (j := m_candidateSize) (by simp), gset_o (j := m_candidateSize) (by simp), gset_o (j := m_candidateSize) (by simp), e m_candidateValue 0 (Or.inr (by decide)), e m_candidateSize 0 (Or.inr (by decide)), ← hM2, show f_X11_copyTo M2 m_row (0 : Int32) m_vector (nI a) = _ from r_copyTo (i := 0) (by decide) (by show _ ≤ 1536; omega) (by decide) (by decide), o1_s, ← hM3, nI_1]
        exact q1
      · rw [gset_aa, e55, p0, hcs, hbk, if_pos rfl, ← nI_add, ← Int32.add_assoc]
        rfl
      · by_cases es : s = k
        · subst es
          rw [← ha]
          refine ⟨?_, ?_, ?_, fun q hq => ?_, ?_, fun i hi => ?_⟩
          · rw [f5 _ _ (by simp), q2 _ _ (by simp), f3 _ _ (by simp), hM2, gset_o (by simp), gset_o (by simp), gset_o (by simp), gset_aa]
          · rw [f5 _ _ (by simp), q2 _ _ (by simp), f3 _ _ (by simp), hM2, gset_o (by simp), gset_aa]
          · rw [f5 _ _ (by simp), q2 _ _ (by simp), f3 _ _ (by simp), hM2, gset_aa]
          · rw [f5 _ _ (by simp), q2 _ _ (by simp), hM3, gpu_r, if_pos ⟨rfl, by omega, by omega⟩, f2 _ _ (by simp), e _ _ (Or.inr (by decide)), show 8 * 0 + (8 * a + q - 8 * a) = q by omega]
          · rw [f5 _ _ (by simp), q2 _ _ (by simp), f3 _ _ (by simp), hM2, gset_o (by simp), gset_o (by simp), gset_aa]
          · obtain ⟨z1, z2, z3⟩ := q3 i hi
            exact ⟨by rw [f5 _ _ (by simp), z1, e4 _ _ (by decide)], by rw [f5 _ _ (by simp), z2, e4 _ _ (by decide)], fun q hq => by rw [f5 _ _ (by simp), z3 q hq, e4 _ _ (by decide)]⟩
        · obtain ⟨z1, z2, z3, z4, z5, z6⟩ := p1 s (by omega) hbs
          have nf : ∀ (j : gI) q, gR (48 * s + y) j q → ¬ (j.1 = 0) → gset M4 m_o 55 (M4 m_o 55 + 1) j q = M1 j q := fun j q h hj => by
            rw [f5 _ _ (fun z => hj z.1), f24 _ _ (by revert h; unfold gR; omega)]
          refine ⟨?_, ?_, ?_, fun q hq => ?_, ?_, fun i hi => ?_⟩
          · rw [nf _ _ (by unfold gR; dsimp only; omega) (by decide)]; exact z1
          · rw [nf _ _ (by unfold gR; dsimp only; omega) (by decide)]; exact z2
          · rw [nf _ _ (by unfold gR; dsimp only; omega) (by decide)]; exact z3
          · rw [nf _ _ (by unfold gR; dsimp only; omega) (by decide)]; exact z4 q hq
          · rw [nf _ _ (by unfold gR; dsimp only; omega) (by decide)]; exact z5
          · obtain ⟨x1, x2, x3⟩ := z6 i hi
            exact ⟨by rw [nf _ _ (by unfold gR; dsimp only; omega) (by decide)]; exact x1, by rw [nf _ _ (by unfold gR; dsimp only; omega) (by decide)]; exact x2, fun q hq => by rw [nf _ _ (by unfold gR; dsimp only; omega) (by decide)]; exact x3 q hq⟩
    · refine ⟨M1, ?_, up, ?_, fun s hs hbs => p1 s (by
        have : s ≠ k := fun e => hbk (by rw [← e]; exact hbs)
        omega) hbs⟩
      · rw [Bool.not_eq_true] at hbk
        simp only [f_X11_mergeMany_L176, lt_d, jn_d]
        rw [w0, if_neg (nI_ge hk (by omega)), r_isOf w53 (by omega), o1_s, hbk, zb_f, if_pos rfl, nI_1]
      · rw [p0, hcs, if_neg hbk, Nat.add_zero]) (fun u M1 ⟨c1, _⟩ => by
    simp only [f_X11_mergeMany_L176, lt_d]
    rw [c1 _ _ (out N _ _ (Or.inl ⟨rfl, by decide⟩)), h0, if_pos (nI_le (by omega) (by omega))]) (st := M) ⟨cf.rf _ _, by show _ = _ + 0; rw [Int32.add_zero], fun s hs => by omega⟩
  exact ⟨M', h1, h2, h3, h4⟩
end ZI
