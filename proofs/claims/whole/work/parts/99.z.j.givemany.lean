/-! layer 2: giveSeveral and mergeMany in step -/
section ZJ
variable {N g B s o c d x y z T n m t l i j a b : Nat} {A E M M' X Mc Mr Mc' Mr' : gM} {row a3 : gI} {D P : Nat → Bool} {G pd v w nr a1 a2 a4 a5 : Int32} {f : Nat → Int32} {zz : lS}
theorem obtG_inv (hN : N ≤ 4) (hyg : y ≤ g) (I : JInv N g M) (hc : cf (gG G y N) M M') (h1 : ∀ s, s < N → bt G s = true → M' (51, s, 0) y = 1 ∧ iVr s y M') (hpar : ∀ s, s < N → bt G s = true → 1 ≤ y → ∀ p, p < 48 → M (2, 0, 0) y = nI p → M (51, s, 0) p = 1 ∧ ¬ M (56, s, 0) y = 0) : JInv N g M' := by
  obtain ⟨cat, lo, sv, vr, kl, wt'⟩ := I
  have hg := cat.1
  have hc' : cf (fun j q => ((j.1 = 51 ∨ j.1 = 52 ∨ j.1 = 53) ∧ j.2.1 < 4 ∧ q = y) ∨ (j.1 = 55 ∧ j.2.1 < 4) ∨ ((j.1 = 60 ∨ j.1 = 61 ∨ j.1 = 62 ∨ j.1 = 64) ∧ j.2.1 < 192)) M M' := hc.mo (fun j q ⟨s, hs, _, h⟩ => by revert h; unfold gC; omega)
  refine ⟨cat.fr hc' ?_, fun s' hs' => ?_, fun s' hs' p hp' => ?_, fun s' hs' p hp' => ?_, fun c h p hp' => (kl c h p hp').fr hN hc' ?_, fun c h => (wt' c h).fr hc' ?_⟩
  · intro j q; unfold eCat; omega
  · rw [hc' _ _ (by dsimp only; omega)]; exact lo s' hs'
  · have e2 : ∀ p, M' (2, 0, 0) p = M (2, 0, 0) p := fun p => hc' _ _ (by dsimp only; omega)
    have e56 : ∀ p, M' (56, s', 0) p = M (56, s', 0) p := fun p => hc' _ _ (by dsimp only; omega)
    have stay : ∀ q, ¬ (bt G s' = true ∧ q = y) → M' (51, s', 0) q = M (51, s', 0) q := fun q hq => hc _ _ (fun ⟨s, hs, hb, h⟩ => by
      unfold gC at h
      dsimp only at h
      have e : s' = s ∧ q = y := by omega
      exact hq ⟨by rw [e.1]; exact hb, e.2⟩)
    have mono : ∀ q, M (51, s', 0) q = 1 → M' (51, s', 0) q = 1 := fun q e => by
      by_cases z : bt G s' = true ∧ q = y
      · rw [z.2]; exact (h1 s' hs' z.1).1
      · rw [stay q z]; exact e
    obtain ⟨i1, i2, i3, i4, i5⟩ := sv s' hs' p hp'
    unfold iSv
    rw [e56, e2]
    by_cases ep : bt G s' = true ∧ p = y
    · obtain ⟨hb, rfl⟩ := ep
      rw [(h1 s' hs' hb).1]
      exact ⟨Or.inr rfl, i2, fun _ => hyg, i4, fun q hq p1 e => ⟨fun _ => ⟨mono q (hpar s' hs' hb p1 q hq e).1, (hpar s' hs' hb p1 q hq e).2⟩, fun z => mono q ((i5 q hq p1 e).2 z)⟩⟩
    · rw [stay p ep]
      exact ⟨i1, i2, i3, i4, fun q hq p1 e => ⟨fun z => ⟨mono q ((i5 q hq p1 e).1 z).1, ((i5 q hq p1 e).1 z).2⟩, fun z => mono q ((i5 q hq p1 e).2 z)⟩⟩
  · by_cases e : bt G s' = true ∧ p = y
    · obtain ⟨hb, rfl⟩ := e
      exact (h1 s' hs' hb).2
    · refine (vr s' hs' p hp').fr hc ?_
      rintro j q h ⟨s, hs, hb, h'⟩
      unfold eVr at h
      unfold gC at h'
      have : s' = s ∧ p = y := by omega
      exact e ⟨by rw [this.1]; exact hb, this.2⟩
  · intro j q; unfold eKl; omega
  · intro j q; unfold eWt; omega
theorem swp_cf (hN : N ≤ 4) {A : gI → Nat → Prop} (h : cf A M M') (hz : cf (fun j q => ¬ zZ D P j q) M M') : cf A (swp N G D P M) (swp N G D P M') := fun j q hn => by
  have e : ∀ j q, zZ D P j q → M' j q = M j q := fun j q z => hz j q (fun z' => z' z)
  have := swp_of (N := N) (G := G) (D := D) (P := P) (M := M) (M' := M') (X := fun j q => swp N G D P M' j q) hN e (fun j q hz => swp_r hz) (fun j q hz => by
    have hh := swp_of (N := N) (G := G) (D := D) (P := P) (M := M) (M' := M') (X := swp N G D P M') hN e (fun j q hz => swp_r hz)
    unfold swp
    have e0 : M' j q = M j q := e j q hz
    rw [e0]
    by_cases c1 : j = m_promised ∧ q < 192 ∧ D (q % 48) = true
    · have e1 : rHo N M' G (q % 48) = rHo N M G (q % 48) := sN_congr _ _ _ (fun s _ hs => by
        rw [e m_has (48 * s + q % 48) (Or.inl ⟨Or.inl rfl, by omega, by rw [show (48 * s + q % 48) % 48 = q % 48 by omega]; exact c1.2.2⟩)])
      rw [e1]
    · simp only [if_neg c1])
  by_cases hz' : zZ D P j q
  · unfold swp
    have e0 : M' j q = M j q := e j q hz'
    rw [e0]
    by_cases c1 : j = m_promised ∧ q < 192 ∧ D (q % 48) = true
    · have e1 : rHo N M' G (q % 48) = rHo N M G (q % 48) := sN_congr _ _ _ (fun s _ hs => by
        rw [e m_has (48 * s + q % 48) (Or.inl ⟨Or.inl rfl, by omega, by rw [show (48 * s + q % 48) % 48 = q % 48 by omega]; exact c1.2.2⟩)])
      rw [e1]
    · simp only [if_neg c1]
  · rw [swp_r hz', swp_r hz']; exact h j q hn
theorem live_nz (hy : y < 48) (hs : s < 4) (hD : D y = false) (hP : P y = false) : ∀ j q, lSv s y j q → ¬ zZ D P j q := fun j q h z => by
  rcases z with ⟨z, z1, z2⟩ | ⟨z, z1, z2⟩
  · have : q = 48 * s + y := by
      unfold lSv at h
      rcases z with z | z | z <;> rw [z] at h <;> dsimp only at h <;> omega
    rw [this, show (48 * s + y) % 48 = y by omega, hD] at z2
    exact absurd z2 (by decide)
  · have : q = 48 * s + y := by
      unfold lSv at h
      rw [z] at h
      dsimp only at h
      omega
    rw [this, show (48 * s + y) % 48 = y by omega, hP] at z2
    exact absurd z2 (by decide)
theorem sv_live (hN : N ≤ 4) (hs : s < N) (hy : y < 48) (hD : D y = false) (hP : P y = false) (h : rSv N s y Mc Mr) : rSv N s y Mc (swp N G D P Mr) :=
  h.fr hN (cf.rf (fun _ _ => False) _) (fun j q hz => (swp_r hz)) (fun _ _ _ => id) (live_nz hy (by omega) hD hP)
theorem noteG (hN : N ≤ 4) (hy : y < 48) (hD : D y = false) (hGb : ∀ i, N ≤ i → i < 32 → bt G i = false) (R : Rel N g Mc (swp N G D P Mr)) (I : JInv N g Mc) (g1 : Mc (13, 0, 0) 6 = G) : ∃ Mc', f_X4_noteChange N Mc G (nI y) = some Mc' ∧ Rel N g Mc' (swp N G D P (rEp Mr y G (-1 : Int32))) ∧ JInv N g Mc' ∧ Mc' (13, 0, 0) 6 = G ∧ Mc' (13, 0, 0) 7 = Mc (13, 0, 0) 7 + nI (cntF (bt G) 0 N) ∧ cf (fun j q => (j = (13, 0, 0) ∧ q = 7) ∨ (j.1 = 32 ∧ q = y)) Mc Mc' := by
  obtain ⟨Mc1, hMc1⟩ : ∃ X, X = gset Mc (13, 0, 0) 7 (Mc (13, 0, 0) 7 + nI (cntF (bt G) 0 N)) := ⟨_, rfl⟩
  have f1 : cf (fun j q => j = (13, 0, 0) ∧ q = 7) Mc Mc1 := by rw [hMc1]; exact cf.st ⟨rfl, rfl⟩
  have R1 : Rel N g Mc1 (swp N G D P Mr) := R.fr hN (f1.mo (fun j q h => by rw [h.1]; unfold csc; dsimp only; omega)) (cf.rf _ _)
  have I1 : JInv N g Mc1 := I.free0 hN (f1.mo (fun j q h => by rw [h.1]; unfold iFree csc; dsimp only; omega))
  obtain ⟨Mc2, Mr2, q1, q2, R2, I2, f2, d2⟩ := ends_stepJ (v := G) hN hy R1 I1
  rw [r_ends hy] at q2
  have q2 := Option.some.inj q2
  rw [← swp_ep hN hy hD] at q2
  rw [← q2] at R2
  refine ⟨Mc2, ?_, R2, I2, ?_, ?_, (f1.mo (fun j q h => Or.inl h)).tr (f2.mo (fun j q h => Or.inr h))⟩
  · unfold f_X4_noteChange
    simp only [lt_d]
    have hb : f_J6_bitCount_0f7a4 N Mc G = some (nI (cntF (bt G) 0 N)) := by
      have := c_bits (f := bt G) (Q := N) (M := Mc) hN
      rw [sS_bt (by omega) hGb] at this
      exact this
    rw [hb, o1_s, ← hMc1, q1, o1_s]
  · rw [f2 _ _ (by dsimp only; omega), f1 _ _ (by simp)]; exact g1
  · rw [f2 _ _ (by dsimp only; omega), hMc1, gset_aa]
end ZJ
