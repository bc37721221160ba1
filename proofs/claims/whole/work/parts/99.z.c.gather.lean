/-! layer 2: the candidates are gathered -/
section ZC
variable {N g B s o c d x y z T n m t l i j : Nat} {A E M M' X Mc Mr Mc' Mr' : gM} {row a3 : gI} {D P : Nat → Bool} {G v w nr a1 a2 a4 a5 : Int32} {zz : lS}
theorem rA.same {Mr' : gM} (h : rA N s o Mc Mr) (e1 : Mr' m_has (48 * s + o) = Mr m_has (48 * s + o)) (e2 : Mr' m_value (48 * s + o) = Mr m_value (48 * s + o)) (e3 : Mr' m_size (48 * s + o) = Mr m_size (48 * s + o)) (e4 : ∀ k, k < N + 4 → Mr' m_vector (8 * (48 * s + o) + k) = Mr m_vector (8 * (48 * s + o) + k)) (e5 : Mr' m_isDirectory o = Mr m_isDirectory o) : rA N s o Mc Mr' := by
  obtain ⟨h1, h2, h3, h4⟩ := h
  exact ⟨by rw [e1]; exact h1, by rw [e1, e2, e5]; exact h2, by rw [e1, e3, e5]; exact h3, fun k hk => by rw [e1, e4 k hk]; exact h4 k hk⟩
/-- what a server holds of a live object -/
theorem live_sv (R : Rel N g Mc (swp N G D P Mr)) (hs : s < N) (hN : N ≤ 4) (hy : y < 48) (hD : D y = false) (hP : P y = false) : rSv N s y Mc Mr := by
  have e : ∀ (j : gI) q, ¬ (j.1 = 11 ∨ j.1 = 15 ∨ j.1 = 19 ∨ j.1 = 26) → swp N G D P Mr j q = Mr j q := fun j q h => swp_r (fun z => h (by
    rcases z with ⟨z | z | z, -⟩ | ⟨z, -⟩
    · rw [z]; exact Or.inl rfl
    · rw [z]; exact Or.inr (Or.inl rfl)
    · rw [z]; exact Or.inr (Or.inr (Or.inr rfl))
    · rw [z]; exact Or.inr (Or.inr (Or.inl rfl))))
  have em : (48 * s + y) % 48 = y := by omega
  have e' : ∀ j : gI, j ≠ m_entry → swp N G D P Mr j (48 * s + y) = Mr j (48 * s + y) := fun j hj => swp_r (fun z => by
    rcases z with z | z
    · rw [em, hD] at z; exact absurd z.2.2 (by decide)
    · exact hj z.1)
  have ee : swp N G D P Mr m_entry (48 * s + y) = Mr m_entry (48 * s + y) := swp_r (fun z => by
    rcases z with z | z
    · rw [em, hD] at z; exact absurd z.2.2 (by decide)
    · rw [em, hP] at z; exact absurd z.2.2 (by decide))
  obtain ⟨h1, h2, h3, h4, h5, h6, h7, h8, h9⟩ := R.sv hs hy
  rw [e' m_has (by decide)] at h1 h2 h3
  rw [e' m_value (by decide), e m_isDirectory y (by simp)] at h2
  rw [e' m_size (by decide), e m_isDirectory y (by simp)] at h3
  refine ⟨h1, h2, h3, fun k hk => ?_, by rw [ee] at h5; exact h5, fun k hk => ?_, by rw [e' m_marks (by decide)] at h7; exact h7, by rw [e' m_versions (by decide)] at h8; exact h8, fun i hi hl => ?_⟩
  · have := h4 k hk
    rw [e' m_has (by decide), e m_vector _ (by simp)] at this
    exact this
  · have := h6 k hk
    rw [ee, e m_gone _ (by simp)] at this
    exact this
  · have := h9 i hi (by rw [e' m_versions (by decide)]; exact hl)
    rw [e m_versionValue _ (by simp), e m_versionSize _ (by simp)] at this
    refine ⟨this.1, this.2.1, fun k hk => ?_⟩
    have := this.2.2 k hk
    rw [e m_versionVector _ (by simp)] at this
    exact this
/-- a server's versions -/
theorem gath_in {J J2 J' J3 : gM → Option gM} (hN : N ≤ 4) (hs : s < N) (hy : y < 48) (hS : rSv N s y A E) (n1 : E m_o 1 = nI (N + 4)) (h53 : E m_o 53 = G) (hb : bt G s = true) (hh : ¬ E m_has (48 * s + y) = 0) (hm : A (60, 48 * s + y, 0) 3 = nI m) (hm6 : m ≤ 6) (hz : ∀ i, i < m → ∃ z, z ≤ 6 ∧ A (62, 48 * s + y, 0) i = nI z) (C : Cd N n Mc Mr) (hn : n + m ≤ 24) (fc : cf cCd A Mc) (fr : cf rCd E Mr) : ∃ n' Mc' Mr', f_X4_gatherCandidates_L105 N (nI y) v (nI s) s y J J2 100 (0 : Int32) Mc = J Mc' ∧ f_X11_gather_L72 (nI y) (nI s) (nI (48 * s + y)) J' J3 100 (0 : Int32) Mr = J' Mr' ∧ Cd N n' Mc' Mr' ∧ n' ≤ n + m ∧ (1 ≤ n ∨ 1 ≤ m → 1 ≤ n') ∧ cf cCd A Mc' ∧ cf rCd E Mr' := by
  have hc6 : cMost (48 * s + y) = 6 := cMost_lt (by omega)
  have hmr : E m_versions (48 * s + y) = nI m := by rw [← hS.dd.1]; exact hm
  obtain ⟨Mc', Mr', q1, q2, n', q3, q4, q5, q6, q7⟩ := loop2 (fun n k M => f_X4_gatherCandidates_L105 N (nI y) v (nI s) s y J J2 n (nI k) M) (fun n k M => f_X11_gather_L72 (nI y) (nI s) (nI (48 * s + y)) J' J3 n (nI k) M) m J J' (fun k Mc Mr => ∃ n', Cd N n' Mc Mr ∧ n' ≤ n + k ∧ (1 ≤ n ∨ 1 ≤ k → 1 ≤ n') ∧ cf cCd A Mc ∧ cf rCd E Mr) (by omega) (fun u u' k Mc Mr hk ⟨n', C', b1, b2, fc, fr⟩ => by
    have w60 : Mc (60, 48 * s + y, 0) 3 = nI m := by rw [fc _ _ (by unfold cCd; dsimp only; omega)]; exact hm
    have wr0 : Mr m_versions (48 * s + y) = nI m := by rw [fr _ _ (by unfold rCd; dsimp only; omega)]; exact hmr
    obtain ⟨v1, v2, v3⟩ := hS.dd.2 k (by omega) (by rw [hmr]; exact nI_lt hk (by omega))
    have wh : Mr m_has (48 * s + y) = E m_has (48 * s + y) := fr _ _ (by unfold rCd; dsimp only; omega)
    obtain ⟨n2, Mc2, Mr2, p1, p2, p3, p4, p5, p6, p7⟩ := add_step (a1 := Mc (61, 48 * s + y, 0) k) (a2 := Mc (62, 48 * s + y, 0) k) (row := (64, 48 * s + y, k)) (a3 := m_versionVector) (j := 6 * (48 * s + y) + k) hN C' (by omega) (cN64 _ _ _) (by simp) (by simp) (by rw [fr _ _ (by unfold rCd; dsimp only; omega)]; exact n1) (by show _ ≤ 9216; omega) (by decide) (Or.inr rfl) (fun q hq => by
      rw [fr _ _ (by unfold rCd; dsimp only; omega), fc _ _ (by unfold cCd; dsimp only; omega)]; exact (v3 q hq).symm) (by rw [fc _ _ (by unfold cCd; dsimp only; omega)]; exact hz k hk)
    refine ⟨Mc2, Mr2, ?_, ?_, n2, p3, by omega, fun _ => p5, fc.tr p6, fr.tr p7⟩
    · simp only [f_X4_gatherCandidates_L105, lt_d]
      rw [w60, if_neg (nI_ge hk (by omega)), hc6, rd_n (by omega) (by omega), rd_n (by omega) (by omega), ix_n (by omega) (by omega), p1, o1_s, nI_1]
    · simp only [f_X11_gather_L72, lt_d]
      rw [r_isOf (G := G) (by rw [fr _ _ (by unfold rCd; dsimp only; omega)]; exact h53) (by omega), o1_s, hb, zb_t, if_neg (by decide), rd_n (by omega) (by omega), wh, if_neg hh, rd_n (by omega) (by omega), wr0, if_neg (nI_ge hk (by omega)), nI_m6, nI_add, rd_n (by omega) (by omega), rd_n (by omega) (by omega)]
      rw [show Mr m_versionValue (6 * (48 * s + y) + k) = Mc (61, 48 * s + y, 0) k from by rw [fr _ _ (by unfold rCd; dsimp only; omega), fc _ _ (by unfold cCd; dsimp only; omega)]; exact v1.symm, show Mr m_versionSize (6 * (48 * s + y) + k) = Mc (62, 48 * s + y, 0) k from by rw [fr _ _ (by unfold rCd; dsimp only; omega), fc _ _ (by unfold cCd; dsimp only; omega)]; exact v2.symm, p2, o1_s, nI_1]) (fun u Mc Mr ⟨n', C', b1, b2, fc, fr⟩ => by
    simp only [f_X4_gatherCandidates_L105, lt_d]
    rw [fc _ _ (by unfold cCd; dsimp only; omega), hm, if_pos (nI_le (by omega) (by omega))]) (fun u Mc Mr ⟨n', C', b1, b2, fc, fr⟩ => by
    simp only [f_X11_gather_L72, lt_d]
    rw [r_isOf (G := G) (by rw [fr _ _ (by unfold rCd; dsimp only; omega)]; exact h53) (by omega), o1_s, hb, zb_t, if_neg (by decide), rd_n (by omega) (by omega), fr _ _ (by unfold rCd; dsimp only; omega), if_neg hh, rd_n (by omega) (by omega), fr _ _ (by unfold rCd; dsimp only; omega), hmr, if_pos (nI_le (by omega) (by omega))]) (st := Mc) (st' := Mr) ⟨n, C, by omega, fun h => h.elim id (fun h => by omega), fc, fr⟩
  exact ⟨n', Mc', Mr', q1, q2, q3, q4, q5, q6, q7⟩
theorem r_g72a {J' J3 : gM → Option gM} (h : M m_o 53 = G) (hs : s < 32) (hb : bt G s = false) : f_X11_gather_L72 a1 (nI s) a2 J' J3 100 (0 : Int32) M = J' M := by
  have H : ∀ fu, f_X11_gather_L72 a1 (nI s) a2 J' J3 (fu + 1) (0 : Int32) M = J' M := fun fu => by
    simp only [f_X11_gather_L72]
    rw [r_isOf h hs, o1_s, hb, zb_f, if_pos rfl]
  exact H 99
theorem r_g72b {J' J3 : gM → Option gM} (h : M m_o 53 = G) (hs : s < 32) (hb : bt G s = true) (hk : 48 * s + y < 192) (h0 : M m_has (48 * s + y) = 0) : f_X11_gather_L72 a1 (nI s) (nI (48 * s + y)) J' J3 100 (0 : Int32) M = J' M := by
  have H : ∀ fu, f_X11_gather_L72 a1 (nI s) (nI (48 * s + y)) J' J3 (fu + 1) (0 : Int32) M = J' M := fun fu => by
    simp only [f_X11_gather_L72]
    rw [r_isOf h hs, o1_s, hb, zb_t, if_neg (by decide), rd_n hk (by omega), if_pos h0]
  exact H 99
theorem gath_step {J J' : gM → Option gM} (hN : N ≤ 4) (hy : y < 48) (hS : ∀ s, s < N → rSv N s y A E) (I : ∀ s, s < N → iVr s y A ∧ (A (51, s, 0) y = 0 ∨ A (51, s, 0) y = 1)) (n0 : E m_o 0 = nI N) (n1 : E m_o 1 = nI (N + 4)) (h53 : E m_o 53 = G) (hd : E m_isDirectory y = 0) (C : Cd N 0 A E) : ∃ n Mc' Mr', f_X4_gatherCandidates_L22 N (nI y) (cHo N A G y) J 100 (0 : Int32) A = J Mc' ∧ f_X11_gather_L7 (nI y) J' 100 (0 : Int32) E = J' Mr' ∧ Cd N n Mc' Mr' ∧ ((∃ s, s < N ∧ bt G s = true ∧ A (51, s, 0) y = 1) → 1 ≤ n) ∧ cf cCd A Mc' ∧ cf rCd E Mr' := by
  obtain ⟨Mc', Mr', q1, q2, n', q3, q4, q5, q6, q7⟩ := loop2 (fun n k M => f_X4_gatherCandidates_L22 N (nI y) (cHo N A G y) J n (nI k) M) (fun n k M => f_X11_gather_L7 (nI y) J' n (nI k) M) N J J' (fun k Mc Mr => ∃ n', Cd N n' Mc Mr ∧ n' ≤ 6 * k ∧ ((∃ s, s < k ∧ bt G s = true ∧ A (51, s, 0) y = 1) → 1 ≤ n') ∧ cf cCd A Mc ∧ cf rCd E Mr) (by omega) (fun u u' k Mc Mr hk ⟨n', C', b1, b2, fc, fr⟩ => by
    have hSk := hS k hk
    obtain ⟨⟨hz0, m, m6, hm, hm0, hz⟩, h01⟩ := I k hk
    have w0 : Mr m_o 0 = nI N := by rw [fr _ _ (by unfold rCd; dsimp only; omega)]; exact n0
    have w53 : Mr m_o 53 = G := by rw [fr _ _ (by unfold rCd; dsimp only; omega)]; exact h53
    have wh : Mr m_has (48 * k + y) = A (51, k, 0) y := by rw [fr _ _ (by unfold rCd; dsimp only; omega)]; exact hSk.a.1.symm
    have hmr : Mr m_versions (48 * k + y) = nI m := by rw [fr _ _ (by unfold rCd; dsimp only; omega), ← hSk.dd.1]; exact hm
    have w60 : Mc (60, 48 * k + y, 0) 3 = nI m := by rw [fc _ _ (by unfold cCd; dsimp only; omega)]; exact hm
    have hbh : bt (cHo N A G y) k = (bt G k && nz (A (51, k, 0) y)) := by
      unfold cHo
      rw [bt_sS (by omega) (by omega), decide_eq_true hk, Bool.true_and]
    by_cases hin : bt G k = true ∧ A (51, k, 0) y = 1
    · have hhE : ¬ E m_has (48 * k + y) = 0 := by rw [← hSk.a.1, hin.2]; decide
      have vE : A (52, k, 0) y = E m_value (48 * k + y) := by rw [hSk.a.2.1, if_neg (fun z => z.elim hhE (fun z => z hd))]
      have zE : A (53, k, 0) y = E m_size (48 * k + y) := by rw [hSk.a.2.2.1, if_neg (fun z => z.elim hhE (fun z => z hd))]
      have first : ∃ n2 Mc2 Mr2, (∀ K : gM → Option gM, (if nI m = 0 then rd Mc (52, k, 0) 48 (nI y) (fun v35 => rd Mc (53, k, 0) 48 (nI y) (fun v36 => ix (nI y) 48 (fun v37 => o1 (f_X9_addOnce N Mc 192 v35 v36 (55, k, v37)) (fun M39 => K M39)))) else K Mc) = K Mc2) ∧ (∀ K : gM → Option gM, (if nI m = 0 then rd Mr m_value 192 (nI (48 * k + y)) (fun v83 => rd Mr m_size 192 (nI (48 * k + y)) (fun v84 => o1 (f_X11_addCandidate Mr v83 v84 m_vector (nI (48 * k + y))) (fun M86 => K M86))) else K Mr) = K Mr2) ∧ Cd N n2 Mc2 Mr2 ∧ n2 + m ≤ n' + 6 ∧ (1 ≤ n2 ∨ 1 ≤ m) ∧ cf cCd A Mc2 ∧ cf rCd E Mr2 := by
        by_cases e : m = 0
        · subst e
          obtain ⟨n2, Mc2, Mr2, p1, p2, p3, p4, p5, p6, p7⟩ := add_step (a1 := A (52, k, 0) y) (a2 := A (53, k, 0) y) (row := (55, k, y)) (a3 := m_vector) (j := 48 * k + y) hN C' (by omega) (cN55 _ _ _) (by simp) (by simp) (by rw [fr _ _ (by unfold rCd; dsimp only; omega)]; exact n1) (by show _ ≤ 1536; omega) (by decide) (Or.inl rfl) (fun q hq => by
            rw [fr _ _ (by unfold rCd; dsimp only; omega), fc _ _ (by unfold cCd; dsimp only; omega)]
            have := hSk.a.2.2.2 q hq
            rw [if_neg hhE] at this
            exact this.symm) hz0
          refine ⟨n2, Mc2, Mr2, fun K => ?_, fun K => ?_, p3, by omega, Or.inl p5, fc.tr p6, fr.tr p7⟩
          · rw [if_pos (show nI 0 = 0 from rfl), rd_n hy (by omega), rd_n hy (by omega), ix_n hy (by omega), fc _ _ (by unfold cCd; dsimp only; omega), fc _ _ (by unfold cCd; dsimp only; omega), p1, o1_s]
          · rw [if_pos (show nI 0 = 0 from rfl), rd_n (by omega) (by omega), rd_n (by omega) (by omega), fr _ _ (by unfold rCd; dsimp only; omega), fr _ _ (by unfold rCd; dsimp only; omega), ← vE, ← zE, p2, o1_s]
        · have hz : ¬ nI m = 0 := by rw [nI_z (by omega)]; exact e
          exact ⟨n', Mc, Mr, fun K => by rw [if_neg hz], fun K => by rw [if_neg hz], C', by omega, Or.inr (by omega), fc, fr⟩
      obtain ⟨n2, Mc2, Mr2, p1, p2, p3, p4, p5, p6, p7⟩ := first
      obtain ⟨n3, Mc3, Mr3, r1, r2, r3, r4, r5, r6, r7⟩ := gath_in (v := cHo N A G y) (J := fun M15 => f_X4_gatherCandidates_L22 N (nI y) (cHo N A G y) J u (nI (k + 1)) M15) (J2 := J) (J' := fun M61 => f_X11_gather_L7 (nI y) J' u' (nI (k + 1)) M61) (J3 := J') hN hk hy hSk n1 h53 hin.1 hhE hm m6 hz p3 (by omega) p6 p7
      refine ⟨Mc3, Mr3, ?_, ?_, n3, r3, by omega, fun _ => r5 p5, r6, r7⟩
      · simp only [f_X4_gatherCandidates_L22, lt_d, jn_d]
        rw [if_neg (nI_ge hk (by omega)), c_isIn _ (by omega), o1_s, hbh, hin.1, hin.2, show zb (true && nz 1) = 1 from by decide, if_neg (by decide), ix_n hk (by omega), ix_n hk (by omega), ix_n hy (by omega), w60, nI_1, p1]
        exact r1
      · simp only [f_X11_gather_L7, lt_d, jn_d, nI_m48, nI_add]
        rw [w0, if_neg (nI_ge hk (by omega)), r_isOf w53 (by omega), o1_s, hin.1, zb_t, if_neg (by decide), rd_n (by omega) (by omega), wh, hin.2, if_neg (by decide), rd_n (by omega) (by omega), hmr, nI_1, p2]
        exact r2
    · refine ⟨Mc, Mr, ?_, ?_, n', C', by omega, fun ⟨s, hs, hb, hh⟩ => b2 ⟨s, by
        have : s ≠ k := fun e => hin (by rw [← e]; exact ⟨hb, hh⟩)
        omega, hb, hh⟩, fc, fr⟩
      · simp only [f_X4_gatherCandidates_L22, lt_d, jn_d]
        rw [if_neg (nI_ge hk (by omega)), c_isIn _ (by omega), o1_s, hbh, show (bt G k && nz (A (51, k, 0) y)) = false from by
          cases hb : bt G k with
          | false => rfl
          | true =>
            rw [Bool.true_and, nz_f]
            exact h01.resolve_right (fun z => hin ⟨hb, z⟩), zb_f, if_pos rfl, nI_1]
      · simp only [f_X11_gather_L7, lt_d, jn_d, nI_m48, nI_add]
        rw [w0, if_neg (nI_ge hk (by omega)), r_isOf w53 (by omega), o1_s, nI_1]
        cases hb : bt G k with
        | false =>
          rw [zb_f, if_pos rfl]
          exact r_g72a w53 (by omega) hb
        | true =>
          have h0 : Mr m_has (48 * k + y) = 0 := by rw [wh]; exact h01.resolve_right (fun z => hin ⟨hb, z⟩)
          rw [zb_t, if_neg (by decide), rd_n (by omega) (by omega), if_pos h0]
          exact r_g72b w53 (by omega) hb (by omega) h0) (fun u Mc Mr ⟨n', C', b1, b2, fc, fr⟩ => by
    simp only [f_X4_gatherCandidates_L22]
    rw [if_pos (nI_le (by omega) (by omega))]) (fun u Mc Mr ⟨n', C', b1, b2, fc, fr⟩ => by
    simp only [f_X11_gather_L7, lt_d]
    rw [fr _ _ (by unfold rCd; dsimp only; omega), n0, if_pos (nI_le (by omega) (by omega))]) (st := A) (st' := E) ⟨0, C, by omega, fun ⟨s, hs, _⟩ => by omega, cf.rf _ _, cf.rf _ _⟩
  exact ⟨n', Mc', Mr', q1, q2, q3, q5, q6, q7⟩
end ZC
