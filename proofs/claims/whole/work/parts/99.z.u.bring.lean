/-! layer 2: bringBack and again in step -/
section ZU
variable {N g B s o c d x y z T n m t l i j a b : Nat} {A E M M' X Mc Mr Mc' Mr' : gM} {row a3 : gI} {D P : Nat → Bool} {G pd v w nr a1 a2 a4 a5 : Int32} {f : Nat → Int32} {zz : lS}
theorem set_rel {C : Nat → Prop} (hN : N ≤ 4) (R : Rel N g Mc (swp N G D P Mr)) (hkD : ∀ x, C x → D x = false ∧ P x = false) (hxA : ∀ x, C x → ∀ s, s < N → rSv N s x A E) (hoC : ∀ s, s < N → ∀ o, o < 48 → ¬ C o → ∀ j q, kSv s o j q → A j q = Mc j q) (hoR : ∀ s, s < N → ∀ o, o < 48 → ¬ C o → ∀ j q, lSv s o j q → E j q = Mr j q) (fA : cf (fun j q => aSv j q ∨ csc j q) Mc A) (fE' : cf (fun j q => bSv j q ∨ rsc j q) Mr E) (dz : cf (fun j q => ¬ zZ D P j q) Mr E) : Rel N g A (swp N G D P E) := by
  refine R.srv hN fA (swp_cf hN fE' dz) (fun s hs o ho => ?_)
  by_cases hc : C o
  · exact sv_live hN hs ho (hkD o hc).1 (hkD o hc).2 (hxA o hc s hs)
  · refine rSv_at hN (R.sv hs ho) (hoC s hs o ho hc) (fun j q h => ?_)
    exact swp_cf hN (A := fun j q => ¬ E j q = Mr j q) (fun j q h => Classical.not_not.mp h) dz j q (fun z => z (hoR s hs o ho hc j q h))
theorem c_bringL {J : gM → Option gM} (hN : N ≤ 4) (hx : x < 48) (hG : M (13, 0, 0) 6 = G) : ∃ M', f_X4_bringBack_L2 N (nI x) J 100 (0 : Int32) M = J M' ∧ cf (eC G x N) M M' ∧ ∀ s, s < N → bt G s = true → M' (56, s, 0) x = 1 ∧ ∀ k, k < N + 4 → M' (58, s, x) k = 0 := by
  obtain ⟨M', h1, h2, h3⟩ := loopP (fun u k M1 => f_X4_bringBack_L2 N (nI x) J u (nI k) M1) N J (fun k M1 => cf (eC G x k) M M1 ∧ ∀ s, s < k → bt G s = true → M1 (56, s, 0) x = 1 ∧ ∀ q, q < N + 4 → M1 (58, s, x) q = 0) (by omega) (fun u k M1 hk ⟨c1, p1⟩ => by
    have e : ∀ (j : gI) q, j.1 = 13 → M1 j q = M j q := fun j q h => c1 _ _ (fun z => by have := eC_t z; omega)
    have up : cf (eC G x (k + 1)) M M1 := c1.mo (fun j q ⟨s, a, b, c⟩ => ⟨s, by omega, b, c⟩)
    by_cases hb : bt G k = true
    · refine ⟨gpu (gset M1 (56, k, 0) x 1) (58, k, x) 0 (N + 4) (fun _ => 0), ?_, up.tr (((cf.st ⟨k, by omega, hb, Or.inl ⟨rfl, rfl⟩⟩).tr (cf.pu (fun q _ _ => ⟨k, by omega, hb, Or.inr rfl⟩)))), fun s hs hbs => ?_⟩
      · simp only [f_X4_bringBack_L2, lt_d, jn_d]
        rw [if_neg (nI_ge hk (by omega)), e (13, 0, 0) 6 rfl, hG, c_isIn _ (by omega), o1_s, hb, zb_t, if_neg (by decide), ix_n hk (by omega)]
        unfold f_X8_setThere
        rw [wr_n hx (by omega), ix_n (n := 48) hx (by omega), c_fill 0 (show cN N (58, k, x) = N + 4 from rfl) (by omega), o1_s, o1_s, nI_1]
      · by_cases es : s = k
        · subst es
          exact ⟨by rw [gpu_ne (by simp), gset_aa], fun q hq => by rw [gpu_r, if_pos ⟨rfl, by omega, by omega⟩]⟩
        · obtain ⟨z1, z2⟩ := p1 s (by omega) hbs
          exact ⟨by rw [gpu_ne (by simp), gset_o (by simp [es])]; exact z1, fun q hq => by rw [gpu_ne (by simp [es]), gset_o (by simp)]; exact z2 q hq⟩
    · refine ⟨M1, ?_, up, fun s hs hbs => p1 s (by
        have : s ≠ k := fun e => hb (by rw [← e]; exact hbs)
        omega) hbs⟩
      rw [Bool.not_eq_true] at hb
      simp only [f_X4_bringBack_L2, lt_d, jn_d]
      rw [if_neg (nI_ge hk (by omega)), e (13, 0, 0) 6 rfl, hG, c_isIn _ (by omega), o1_s, hb, zb_f, if_pos rfl, nI_1]) (fun u M1 _ => by
    simp only [f_X4_bringBack_L2]
    rw [if_pos (nI_le (by omega) (by omega))]) (st := M) ⟨cf.rf _ _, fun s hs => by omega⟩
  exact ⟨M', h1, h2, h3⟩
def aR (G : Int32) (x y n : Nat) (j : gI) (q : Nat) : Prop := (∃ s, s < n ∧ bt G s = true ∧ ((j = m_entry ∧ q = 48 * s + x) ∨ (j = m_gone ∧ 8 * (48 * s + x) ≤ q ∧ q < 8 * (48 * s + x) + 8) ∨ (j = m_vector ∧ 8 * (48 * s + y) ≤ q ∧ q < 8 * (48 * s + y) + 8))) ∨ (j = m_o ∧ q = 55)
theorem aR_t {j : gI} {q : Nat} (h : aR G x y n j q) : j.1 = 19 ∨ j.1 = 20 ∨ j.1 = 14 ∨ (j.1 = 0 ∧ q = 55) := by
  rcases h with ⟨s, -, -, h | h | h⟩ | h
  · rw [h.1]; exact Or.inl rfl
  · rw [h.1]; exact Or.inr (Or.inl rfl)
  · rw [h.1]; exact Or.inr (Or.inr (Or.inl rfl))
  · rw [h.1]; exact Or.inr (Or.inr (Or.inr ⟨rfl, h.2⟩))
theorem r_againL {J : gM → Option gM} (hN : N ≤ 4) (hx : x < 48) (hy : y < 48) (h0 : M m_o 0 = nI N) (h53 : M m_o 53 = G) : ∃ M', f_X11_again_L18 (nI x) (nI y) J 100 (0 : Int32) M = J M' ∧ cf (aR G x y N) M M' ∧ M' m_o 55 = M m_o 55 + nI (cntF (bt G) 0 N) ∧ ∀ s, s < N → bt G s = true → M' m_entry (48 * s + x) = 1 ∧ ∀ k, k < N + 4 → M' m_vector (8 * (48 * s + y) + k) = if k < N ∧ bt G k = true then M m_marks (48 * k + y) else M m_vector (8 * (48 * s + y) + k) := by
  obtain ⟨M', h1, h2, h3, h4⟩ := loopP (fun u k M1 => f_X11_again_L18 (nI x) (nI y) J u (nI k) M1) N J (fun k M1 => cf (aR G x y k) M M1 ∧ M1 m_o 55 = M m_o 55 + nI (cntF (bt G) 0 k) ∧ ∀ s, s < k → bt G s = true → M1 m_entry (48 * s + x) = 1 ∧ ∀ q, q < N + 4 → M1 m_vector (8 * (48 * s + y) + q) = if q < N ∧ bt G q = true then M m_marks (48 * q + y) else M m_vector (8 * (48 * s + y) + q)) (by omega) (fun u k M1 hk ⟨c1, p0, p1⟩ => by
    have e : ∀ (j : gI) q, ((j.1 = 0 ∧ q ≠ 55) ∨ j.1 = 21) → M1 j q = M j q := fun j q h => c1 _ _ (fun z => by have := aR_t z; omega)
    have up : cf (aR G x y (k + 1)) M M1 := c1.mo (fun j q h => h.elim (fun ⟨s, a, b, c⟩ => Or.inl ⟨s, by omega, b, c⟩) Or.inr)
    have hcs : cntF (bt G) 0 (k + 1) = cntF (bt G) 0 k + (if bt G k then 1 else 0) := by have := cntF_snoc (p := bt G) k 0; rw [Nat.zero_add] at this; exact this
    have w0 : M1 m_o 0 = nI N := by rw [e _ _ (Or.inl ⟨rfl, by decide⟩)]; exact h0
    have w53 : M1 m_o 53 = G := by rw [e _ _ (Or.inl ⟨rfl, by decide⟩)]; exact h53
    by_cases hbk : bt G k = true
    · obtain ⟨Ma, hMa⟩ : ∃ X, X = gpu (gset M1 m_entry (48 * k + x) 1) m_gone (8 * (48 * k + x)) 8 (fun _ => 0) := ⟨_, rfl⟩
      obtain ⟨Mb, hMb⟩ : ∃ X, X = gpu Ma m_vector (8 * (48 * k + y)) N (fun q => if bt G q = true then Ma m_marks (48 * q + y) else Ma m_vector (8 * (48 * k + y) + q)) := ⟨_, rfl⟩
      have fa : cf (fun j q => (j = m_entry ∧ q = 48 * k + x) ∨ (j = m_gone ∧ 8 * (48 * k + x) ≤ q ∧ q < 8 * (48 * k + x) + 8)) M1 Ma := by rw [hMa]; exact (cf.st (Or.inl ⟨rfl, rfl⟩)).tr (cf.pu (fun q a b => Or.inr ⟨rfl, a, b⟩))
      have fb : cf (fun j q => j = m_vector ∧ 8 * (48 * k + y) ≤ q ∧ q < 8 * (48 * k + y) + 8) Ma Mb := by rw [hMb]; exact cf.pu (fun q a b => ⟨rfl, a, by omega⟩)
      have e55 : Mb m_o 55 = M1 m_o 55 := by rw [fb _ _ (by simp), fa _ _ (by simp)]
      have f5 : cf (fun j q => j = m_o ∧ q = 55) Mb (gset Mb m_o 55 (Mb m_o 55 + 1)) := cf.st ⟨rfl, rfl⟩
      refine ⟨gset Mb m_o 55 (Mb m_o 55 + 1), ?_, ((up.tr (fa.mo (fun j q h => Or.inl ⟨k, by omega, hbk, ?_⟩))).tr (fb.mo (fun j q h => Or.inl ⟨k, by omega, hbk, Or.inr (Or.inr h)⟩))).tr (f5.mo (fun j q h => Or.inr h)), ?_, fun s hs hbs => ?_⟩
      · simp only [f_X11_again_L18, lt_d, jn_d, nI_m48, nI_add]
        rw [w0, if_neg (nI_ge hk (by omega)), r_isOf w53 (by omega), o1_s, hbk, zb_t, if_neg (by decide), wr_n (by omega) (by omega), r_clearRow (show _ ≤ 1536 by omega) (by decide), o1_s, ← hMa, fa m_o 53 (by simp), w53, r_count (by rw [fa _ _ (by simp)]; exact w0) hN hy (show _ ≤ 1536 by omega) (by decide) (by decide) (by decide), o1_s, ← hMb, nI_1]
      · rcases h with h | h
        · exact Or.inl h
        · exact Or.inr (Or.inl h)
      · rw [gset_aa, e55, p0, hcs, hbk, if_pos rfl, ← nI_add, ← Int32.add_assoc]
        rfl
      · by_cases es : s = k
        · subst es
          refine ⟨by rw [gset_o (by simp), fb _ _ (by simp), hMa, gpu_ne (by simp), gset_aa], fun q hq => ?_⟩
          have ev : M1 m_vector (8 * (48 * s + y) + q) = M m_vector (8 * (48 * s + y) + q) := c1 _ _ (fun z => by
            rcases z with ⟨t, ht, -, z | z | z⟩ | z
            · exact absurd z.1 (by decide)
            · exact absurd z.1 (by decide)
            · omega
            · exact absurd z.1 (by decide))
          rw [gset_o (by simp), hMb, gpu_r]
          by_cases hqN : q < N
          · rw [if_pos ⟨rfl, by omega, by omega⟩, show 8 * (48 * s + y) + q - 8 * (48 * s + y) = q by omega, fa _ _ (by simp), fa _ _ (by simp), e m_marks _ (Or.inr rfl), ev]
            by_cases hbq : bt G q = true
            · rw [if_pos hbq, if_pos ⟨hqN, hbq⟩]
            · rw [if_neg hbq, if_neg (fun z => hbq z.2)]
          · rw [if_neg (by omega), if_neg (fun z => hqN z.1), fa _ _ (by simp), ev]
        · obtain ⟨z1, z2⟩ := p1 s (by omega) hbs
          refine ⟨?_, fun q hq => ?_⟩
          · rw [gset_o (by simp), fb _ _ (by simp), fa _ _ (by
              rintro (z | z)
              · omega
              · exact absurd z.1 (by decide))]; exact z1
          · rw [gset_o (by simp), fb _ _ (by omega), fa _ _ (by simp)]; exact z2 q hq
    · refine ⟨M1, ?_, up, ?_, fun s hs hbs => p1 s (by
        have : s ≠ k := fun e => hbk (by rw [← e]; exact hbs)
        omega) hbs⟩
      · rw [Bool.not_eq_true] at hbk
        simp only [f_X11_again_L18, lt_d, jn_d]
        rw [w0, if_neg (nI_ge hk (by omega)), r_isOf w53 (by omega), o1_s, hbk, zb_f, if_pos rfl, nI_1]
      · rw [p0, hcs, if_neg hbk, Nat.add_zero]) (fun u M1 ⟨c1, _⟩ => by
    simp only [f_X11_again_L18, lt_d]
    rw [c1 m_o 0 (fun z => absurd (aR_t z) (by decide)), h0, if_pos (nI_le (by omega) (by omega))]) (st := M) ⟨cf.rf _ _, by show _ = _ + 0; rw [Int32.add_zero], fun s hs => by omega⟩
  exact ⟨M', h1, h2, h3, h4⟩
end ZU
