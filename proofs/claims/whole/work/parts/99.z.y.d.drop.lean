/-! layer 2: dropInside of the class -/
section ZYD
variable {N g B s o c d x y z T n m t l i j a b p k : Nat} {A E M M1 M' X Y Mc Mr Mc' Mr' : gM} {row a3 : gI} {D P : Nat → Bool} {G H pd v w nr a1 a2 a4 a5 : Int32} {f r : Nat → Int32} {zz : lS} {par : Nat → Nat}
theorem swp_drop (hN : N ≤ 4) (hg : g ≤ 47) (hx : x < 48) (hGb : ∀ i, N ≤ i → i < 32 → bt G i = false) (hD : D x = false) (hpar : ∀ z, 1 ≤ z → z ≤ g → M m_parent z = nI (par z) ∧ par z < 48) (hz : ∀ s, s < N → bt G s = true → M m_has (48 * s + x) = 0 → M m_versions (48 * s + x) = 0 ∧ ∀ z, 1 ≤ z → z ≤ g → par z = x → M m_entry (48 * s + z) = 0) (h : SW N g (rHo N M G x) (rHo N M G x) x (swp N G D (pO par g D) M) M1) : M1 = swp N G (dA D x) (pO par g (dA D x)) M := by
  obtain ⟨h1, h2, h3, h4⟩ := h
  have bG : ∀ s, s < 4 → bt G s = true → s < N := fun s hs hb => Nat.not_le.mp (fun z => by rw [hGb s z (by omega)] at hb; exact absurd hb (by decide))
  have hH : ∀ s, s < 4 → (s < N ∧ bt (rHo N M G x) s = true ↔ bt G s = true ∧ ¬ M m_has (48 * s + x) = 0) := fun s hs => by
    rw [rHo_b hN (by omega)]
    refine ⟨fun ⟨a, b⟩ => ?_, fun ⟨a, b⟩ => ⟨bG s hs a, ?_⟩⟩
    · rw [Bool.and_eq_true, Bool.and_eq_true] at b
      exact ⟨b.2.1, (nz_t _).mp b.2.2⟩
    · rw [decide_eq_true (bG s hs a), a, (nz_t _).mpr b]; rfl
  funext j q
  by_cases hj : (j = m_has ∨ j = m_versions ∨ j = m_entry ∨ j = m_promised) ∧ q < 192
  · obtain ⟨hj, hq⟩ := hj
    have eq : q = 48 * (q / 48) + q % 48 := by omega
    have hs4 : q / 48 < 4 := by omega
    have hz48 : q % 48 < 48 := by omega
    have kk : (j = m_has ∨ j = m_versions) → M1 j q = swp N G (dA D x) (pO par g (dA D x)) M j q := fun hj => by
      rw [h1 j q hj hq, swp_has hj hq, swp_has hj hq]
      unfold dA
      by_cases ez : q % 48 = x
      · rw [ez, hD, decide_eq_true rfl, if_neg (c := bt G (q / 48) = true ∧ false = true) (fun z => absurd z.2 (by decide))]
        by_cases hb : bt G (q / 48) = true
        · rw [if_pos (c := bt G (q / 48) = true ∧ (false || true) = true) ⟨hb, rfl⟩]
          by_cases h0 : M m_has (48 * (q / 48) + x) = 0
          · rw [if_neg (c := q / 48 < N ∧ bt (rHo N M G x) (q / 48) = true ∧ x = x) (fun z => ((hH _ hs4).mp ⟨z.1, z.2.1⟩).2 h0)]
            rcases hj with hj | hj
            · rw [hj, eq, ez]; exact h0
            · rw [hj, eq, ez]; exact (hz _ (bG _ hs4 hb) hb h0).1
          · have := (hH _ hs4).mpr ⟨hb, h0⟩
            rw [if_pos (c := q / 48 < N ∧ bt (rHo N M G x) (q / 48) = true ∧ x = x) ⟨this.1, this.2, rfl⟩]
        · rw [if_neg (c := bt G (q / 48) = true ∧ (false || true) = true) (fun z => hb z.1), if_neg (c := q / 48 < N ∧ bt (rHo N M G x) (q / 48) = true ∧ x = x) (fun z => hb ((hH _ hs4).mp ⟨z.1, z.2.1⟩).1)]
      · rw [decide_eq_false ez, Bool.or_false, if_neg (c := q / 48 < N ∧ bt (rHo N M G x) (q / 48) = true ∧ q % 48 = x) (fun z => ez z.2.2)]
    rcases hj with hj | hj | hj | hj
    · exact kk (Or.inl hj)
    · exact kk (Or.inr hj)
    · rw [hj, h2 q hq, swp_ent hq, swp_ent hq, swp_oth (j := m_parent) (fun z => absurd z.1 (by decide))]
      unfold pO dA
      by_cases hr : 1 ≤ q % 48 ∧ q % 48 ≤ g
      · obtain ⟨p1, p2⟩ := hpar _ hr.1 hr.2
        rw [decide_eq_true hr, Bool.true_and, Bool.true_and, p1]
        by_cases ez : par (q % 48) = x
        · rw [ez, hD, decide_eq_true rfl, if_neg (c := bt G (q / 48) = true ∧ false = true) (fun z => absurd z.2 (by decide))]
          by_cases hb : bt G (q / 48) = true
          · rw [if_pos (c := bt G (q / 48) = true ∧ (false || true) = true) ⟨hb, rfl⟩]
            by_cases h0 : M m_has (48 * (q / 48) + x) = 0
            · rw [if_neg (c := q / 48 < N ∧ bt (rHo N M G x) (q / 48) = true ∧ 1 ≤ q % 48 ∧ q % 48 ≤ g ∧ nI x = nI x) (fun z => ((hH _ hs4).mp ⟨z.1, z.2.1⟩).2 h0)]
              have := (hz _ (bG _ hs4 hb) hb h0).2 _ hr.1 hr.2 ez
              rw [← eq] at this; exact this
            · have := (hH _ hs4).mpr ⟨hb, h0⟩
              rw [if_pos (c := q / 48 < N ∧ bt (rHo N M G x) (q / 48) = true ∧ 1 ≤ q % 48 ∧ q % 48 ≤ g ∧ nI x = nI x) ⟨this.1, this.2, hr.1, hr.2, rfl⟩]
          · rw [if_neg (c := bt G (q / 48) = true ∧ (false || true) = true) (fun z => hb z.1), if_neg (c := q / 48 < N ∧ bt (rHo N M G x) (q / 48) = true ∧ 1 ≤ q % 48 ∧ q % 48 ≤ g ∧ nI x = nI x) (fun z => hb ((hH _ hs4).mp ⟨z.1, z.2.1⟩).1)]
        · have ez' : ¬ nI (par (q % 48)) = nI x := by rw [neq (by omega) (by omega)]; exact ez
          rw [decide_eq_false ez, Bool.or_false, if_neg (c := q / 48 < N ∧ bt (rHo N M G x) (q / 48) = true ∧ 1 ≤ q % 48 ∧ q % 48 ≤ g ∧ nI (par (q % 48)) = nI x) (fun z => ez' z.2.2.2.2)]
      · rw [decide_eq_false hr, Bool.false_and, Bool.false_and, if_neg (c := q / 48 < N ∧ bt (rHo N M G x) (q / 48) = true ∧ 1 ≤ q % 48 ∧ q % 48 ≤ g ∧ M m_parent (q % 48) = nI x) (fun z => hr ⟨z.2.2.1, z.2.2.2.1⟩)]
    · rw [hj, h3 q hq, swp_pro hq, swp_pro hq]
      unfold dA
      by_cases ez : q % 48 = x
      · rw [ez, hD, decide_eq_true rfl, if_pos rfl, if_neg (by decide), if_pos (c := (false || true) = true) rfl]
      · rw [decide_eq_false ez, Bool.or_false, if_neg ez]
  · rw [h4 j q hj, swp_oth hj, swp_oth hj]
def dC (j : gI) (q : Nat) : Prop := (51 ≤ j.1 ∧ j.1 ≤ 58 ∧ j.2.1 < 4) ∨ (j.1 = 60 ∧ j.2.1 < 192) ∨ j.1 = 32 ∨ (j = (13, 0, 0) ∧ q = 7)
theorem drop1 {J : gM → Option gM} (hN : N ≤ 4) (hx1 : 1 ≤ x) (hxg : x ≤ g) (hGb : ∀ i, N ≤ i → i < 32 → bt G i = false) (R : Rel N g A (swp N G D (pO par g D) Mr)) (W : JW N g A) (g1 : A (13, 0, 0) 6 = G) (hD : D x = false) (hpar : ∀ z, 1 ≤ z → z ≤ g → A (2, 0, 0) z = nI (par z) ∧ par z < 48) : ∃ X, o1 (f_X6_holders N A G (nI x)) (fun v12 => jn (fun (M13 : gM) => o1 (f_X4_noteChange N M13 v12 (nI x)) (fun M15 => J M15)) (fun J73 => f_X4_dropInside_L40 N (nI x) v12 J73 J 100 (0 : Int32) A)) = J X ∧ Rel N g X (swp N G (dA D x) (pO par g (dA D x)) Mr) ∧ JW N g X ∧ X (13, 0, 0) 7 = A (13, 0, 0) 7 + nI (cntF (bt (rHo N Mr G x)) 0 N) ∧ (∀ s, s < N → ∀ z, X (51, s, 0) z = if bt G s = true ∧ z = x then 0 else A (51, s, 0) z) ∧ (∀ s, s < N → ∀ z, z < 48 → X (56, s, 0) z = A (56, s, 0) z ∨ (X (56, s, 0) z = 0 ∧ bt G s = true ∧ 1 ≤ z ∧ z ≤ g ∧ par z = x)) ∧ cf dC A X := by
  have hg := W.1.1
  have hx : x < 48 := by omega
  have hP : ∀ z, 1 ≤ z → z ≤ g → par z = x → pO par g D z = false := fun z z1 z2 e => by unfold pO; rw [e, hD, Bool.and_false]
  have eH : rHo N Mr G x = cHo N A G x := by
    rw [← R.ho hN hx]
    exact sN_congr _ _ _ (fun s _ hs => by rw [swp_r (zZ_y hx hD (by decide))])
  obtain ⟨H, hH⟩ : ∃ H, H = cHo N A G x := ⟨_, rfl⟩
  have hHb : ∀ s, s < N → bt H s = (bt G s && nz (A (51, s, 0) x)) := fun s hs => by
    rw [hH]; unfold cHo; rw [bt_sS (by omega) (by omega), decide_eq_true hs, Bool.true_and]
  have hsv : ∀ s, s < N → A (51, s, 0) x = Mr m_has (48 * s + x) ∧ A (60, 48 * s + x, 0) 3 = Mr m_versions (48 * s + x) := fun s hs => by
    have := R.sv hs hx
    exact ⟨by rw [this.1, swp_r (zZ_y hx hD (by decide))], by rw [this.dd.1, swp_r (zZ_y hx hD (by decide))]⟩
  have hpr : ∀ z, 1 ≤ z → z ≤ g → Mr m_parent z = nI (par z) ∧ par z < 48 := fun z z1 z2 => by
    have := (R.ct.2.2 z (by omega)).1
    rw [swp_oth (j := m_parent) (fun z => absurd z.1 (by decide)), (hpar z z1 z2).1] at this
    exact ⟨this.symm, (hpar z z1 z2).2⟩
  have hz : ∀ s, s < N → bt G s = true → Mr m_has (48 * s + x) = 0 → Mr m_versions (48 * s + x) = 0 ∧ ∀ z, 1 ≤ z → z ≤ g → par z = x → Mr m_entry (48 * s + z) = 0 := fun s hs hb h0 => by
    obtain ⟨e1, e2⟩ := hsv s hs
    refine ⟨?_, fun z z1 z2 z3 => ?_⟩
    · obtain ⟨-, n, k2, k3, k4, -⟩ := W.2.2.2.1 s hs x hx
      rw [← e2, k3]
      have : n = 0 := by
        rcases Nat.eq_zero_or_pos n with e | e
        · exact e
        · have := (k4 (by omega)).1; rw [e1, h0] at this; exact absurd this (by decide)
      rw [this]; rfl
    · have e3 := (R.sv hs (show z < 48 by omega)).b.1
      rw [swp_ent (by omega), show (48 * s + z) % 48 = z by omega, hP z z1 z2 z3, if_neg (fun y => absurd y.2 (by decide))] at e3
      rw [← e3]
      refine Classical.not_not.mp (fun y => ?_)
      have := (W.2.2.1 s hs z (by omega)).2.2.2.2 x hx z1 (by rw [(hpar z z1 z2).1, z3]) y
      rw [e1, h0] at this; exact absurd this (by decide)
  obtain ⟨X, h1, Y, r1, r2, r3, r4, r5, r6⟩ := loopP (fun u k M1 => f_X4_dropInside_L40 N (nI x) H (fun (M13 : gM) => o1 (f_X4_noteChange N M13 H (nI x)) (fun M15 => J M15)) J u (nI k) M1) N (fun (M13 : gM) => o1 (f_X4_noteChange N M13 H (nI x)) (fun M15 => J M15)) (fun k X => ∃ Y, Rel N g X Y ∧ SW k g H 0 x (swp N G D (pO par g D) Mr) Y ∧ JW N g X ∧ (∀ s, s < N → ∀ z, X (51, s, 0) z = if s < k ∧ bt H s = true ∧ z = x then 0 else A (51, s, 0) z) ∧ (∀ s, s < N → ∀ z, z < 48 → X (56, s, 0) z = A (56, s, 0) z ∨ (X (56, s, 0) z = 0 ∧ bt H s = true ∧ 1 ≤ z ∧ z ≤ g ∧ par z = x)) ∧ cf (fun j q => (51 ≤ j.1 ∧ j.1 ≤ 58 ∧ j.2.1 < 4) ∨ (j.1 = 60 ∧ j.2.1 < 192)) A X) (by omega) (fun u k X hk ⟨Y, r1, r2, r3, r4, r5, r6⟩ => by
    by_cases hb : bt H k = true
    · have fc := cSd_fr (N := N) (g := g) (s := k) (x := x) (M := X)
      refine ⟨cSd N g X k x, ?_, rSd g Y k x, rel_sdrop hN hk hx r1 r3.1, r2.dr hg (by omega) hx hb, weak_sdrop hN hk hx r3, fun s hs z => ?_, fun s hs z hz48 => ?_, r6.tr (fc.mo (fun j q h => by omega))⟩
      · simp only [f_X4_dropInside_L40, lt_d, jn_d]
        rw [if_neg (nI_ge hk (by omega)), c_isIn _ (by omega), o1_s, hb, zb_t, if_neg (by decide), ix_n hk (by omega), c_sdrop hN r1.ct.1 hg hx, o1_s, nI_1]
      · by_cases es : s = k
        · subst es
          rw [cSd_h 51 z (by omega), r4 s hs z]
          by_cases ez : z = x
          · rw [if_pos ez, if_pos ⟨by omega, hb, ez⟩]
          · rw [if_neg ez, if_neg (fun y => ez y.2.2), if_neg (fun y => ez y.2.2)]
        · rw [fc _ _ (by dsimp only; omega), r4 s hs z]
          by_cases y : s < k ∧ bt H s = true ∧ z = x
          · rw [if_pos y, if_pos ⟨by omega, y.2⟩]
          · rw [if_neg y, if_neg (fun w => y ⟨by omega, w.2⟩)]
      · by_cases es : s = k
        · subst es
          rw [cSd_56]
          have ex2 : ∀ z, X (2, 0, 0) z = A (2, 0, 0) z := fun z => r6 _ _ (by dsimp only; omega)
          rw [ex2]
          by_cases y : x < z ∧ z < g + 1 ∧ A (2, 0, 0) z = nI x
          · rw [if_pos y]
            have e := (hpar z (by omega) (by omega)).1
            rw [y.2.2, neq (by omega) (by have := (hpar z (by omega) (by omega)).2; omega)] at e
            exact Or.inr ⟨rfl, hb, by omega, by omega, e.symm⟩
          · rw [if_neg y]; exact r5 s hs z hz48
        · rw [fc _ _ (by dsimp only; omega)]; exact r5 s hs z hz48
    · refine ⟨X, ?_, Y, r1, r2.no hb, r3, fun s hs z => ?_, r5, r6⟩
      · have hb0 : bt H k = false := by rw [Bool.not_eq_true] at hb; exact hb
        simp only [f_X4_dropInside_L40, lt_d, jn_d]
        rw [if_neg (nI_ge hk (by omega)), c_isIn _ (by omega), o1_s, hb0, zb_f, if_pos rfl, nI_1]
      · rw [r4 s hs z]
        by_cases y : s < k ∧ bt H s = true ∧ z = x
        · rw [if_pos y, if_pos ⟨by omega, y.2⟩]
        · rw [if_neg y, if_neg (fun w => y ⟨by
            have : s ≠ k := fun e => hb (by rw [← e]; exact w.2.1)
            omega, w.2⟩)]) (fun u X _ => by
    simp only [f_X4_dropInside_L40]
    rw [if_pos (nI_le (by omega) (by omega))]) (st := A) ⟨_, R, SW.rf, W, fun s hs z => by rw [if_neg (fun y => absurd y.1 (by omega))], fun s hs z _ => Or.inl rfl, cf.rf _ _⟩
  -- the note
  obtain ⟨X1, hX1⟩ : ∃ Q, Q = gset X (13, 0, 0) 7 (X (13, 0, 0) 7 + nI (cntF (bt (rHo N Mr G x)) 0 N)) := ⟨_, rfl⟩
  have f1 : cf (fun j q => j = (13, 0, 0) ∧ q = 7) X X1 := by rw [hX1]; exact cf.st ⟨rfl, rfl⟩
  have R1 : Rel N g X1 Y := r1.fr hN (f1.mo (fun j q h => by rw [h.1]; unfold csc; dsimp only; omega)) (cf.rf _ _)
  have f1' : cf (fun j q => j.1 = 13) X X1 := f1.mo (fun j q h => by rw [h.1])
  have W1 : JW N g X1 := by
    obtain ⟨cat, lo, sv, vr', kl, wt'⟩ := r3
    exact ⟨cat.fr f1' (by intro j q; unfold eCat; omega), fun s hs => by rw [f1' _ _ (by simp)]; exact lo s hs, fun s hs p hp => (sv s hs p hp).fr hp f1' (by intro j q; unfold eSv; omega), fun s hs p hp => (vr' s hs p hp).fr f1' (by intro j q; unfold eVr; omega), fun c h p hp => (kl c h p hp).fr hN f1' (by intro j q; unfold eKl; omega), fun c h => (wt' c h).fr f1' (by intro j q; unfold eWt; omega)⟩
  obtain ⟨X2, q1, q2, q3, q4⟩ := ends_stepW (v := H) (o := x) hN hx R1 W1
  have hSW := r2.ep (w := H)
  rw [show (0 : Int32) ||| H = H from b_ext fun i hi => by rw [b_or, show bt (0 : Int32) i = false from by revert i; decide, Bool.false_or], hH, ← eH] at hSW
  have hY := swp_drop hN hg hx hGb hD hpr hz hSW
  rw [hH, ← eH, hY] at q2
  have e51 : ∀ s, s < N → ∀ z, X2 (51, s, 0) z = X (51, s, 0) z := fun s hs z => by rw [q4 _ _ (by dsimp only; omega), f1 _ _ (by simp)]
  have e56 : ∀ s, s < N → ∀ z, X2 (56, s, 0) z = X (56, s, 0) z := fun s hs z => by rw [q4 _ _ (by dsimp only; omega), f1 _ _ (by simp)]
  refine ⟨X2, ?_, q2, q3, ?_, fun s hs z => ?_, fun s hs z hz48 => ?_, ?_⟩
  · rw [c_holders hN hx, o1_s, jn_d, ← hH]
    refine h1.trans ?_
    unfold f_X4_noteChange
    have hbc : f_J6_bitCount_0f7a4 N X H = some (nI (cntF (bt (rHo N Mr G x)) 0 N)) := by
      have := c_bits (f := fun s => bt G s && nz (A (51, s, 0) x)) (Q := N) (M := X) hN
      rw [show sS (fun s => bt G s && nz (A (51, s, 0) x)) N = H from by rw [hH]; rfl] at this
      rw [this]
      refine congrArg (fun c => some (nI c)) (cntF_congr N 0 (fun s _ hs => ?_))
      rw [eH, ← hH, hHb s (by omega)]
    rw [lt_d, hbc, o1_s, lt_d, ← hX1, q1, o1_s, o1_s]
  · rw [q4 _ _ (by dsimp only; omega), hX1, gset_aa, r6 _ _ (by dsimp only; omega)]
  · rw [e51 s hs z, r4 s hs z]
    have hb := hHb s hs
    by_cases ez : z = x
    · subst ez
      by_cases hbg : bt G s = true
      · rw [if_pos (c := bt G s = true ∧ z = z) ⟨hbg, rfl⟩]
        by_cases hbh : bt H s = true
        · rw [if_pos ⟨hs, hbh, rfl⟩]
        · rw [if_neg (fun y => hbh y.2.1)]
          rw [hbg, Bool.true_and] at hb
          refine Classical.not_not.mp (fun y => hbh ?_)
          rw [hb]; exact (nz_t _).mpr y
      · rw [if_neg (c := bt G s = true ∧ z = z) (fun y => hbg y.1), if_neg (fun y => hbg (by
          have := y.2.1; rw [hb, Bool.and_eq_true] at this; exact this.1))]
    · rw [if_neg (fun y => ez y.2.2), if_neg (fun y => ez y.2)]
  · rw [e56 s hs z]
    rcases r5 s hs z hz48 with y | y
    · exact Or.inl y
    · refine Or.inr ⟨y.1, ?_, y.2.2⟩
      have := y.2.1; rw [hHb s hs, Bool.and_eq_true] at this; exact this.1
  · refine (r6.mo (fun j q h => ?_)).tr ((f1.mo (fun j q h => ?_)).tr (q4.mo (fun j q h => ?_)))
    · unfold dC; omega
    · exact Or.inr (Or.inr (Or.inr h))
    · exact Or.inr (Or.inr (Or.inl h.1))
end ZYD
