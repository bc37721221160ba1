/-! layer 2: a directory among servers that meet: what the parts give -/
section ZS
variable {N g B s o c d x y z T n m t l i j a b : Nat} {A E M M' X Mc Mr Mc' Mr' : gM} {row a3 : gI} {D P : Nat → Bool} {G pd v w nr a1 a2 a4 a5 : Int32} {f : Nat → Int32} {zz : lS}
theorem fE_o {j : gI} {q : Nat} (h : cf (fE A G N g y) A M) (hj : ¬ (j.1 = 14 ∨ j.1 = 56 ∨ j.1 = 58)) : M j q = A j q := h _ _ (fun z => by
  rcases z with z | ⟨x, -, z⟩
  · exact hj (Or.inl z)
  · exact hj (Or.inr (eC_t z)))
theorem fE_56 {j : gI} {q : Nat} (h : cf (fE A G N g y) A M) (hj : j.1 = 56) (hc : ¬ ch A g y q) : M j q = A j q := h _ _ (fun z => by
  rcases z with z | ⟨x, hx, t, _, _, z⟩
  · omega
  · rcases z with z | z
    · exact hc (by rw [z.2]; exact hx)
    · rw [z] at hj; exact absurd hj (by simp))
theorem fE_58 {j : gI} {q : Nat} (h : cf (fE A G N g y) A M) (hj : j.1 = 58) (hc : ¬ ch A g y j.2.2) : M j q = A j q := h _ _ (fun z => by
  rcases z with z | ⟨x, hx, t, _, _, z⟩
  · omega
  · rcases z with z | z
    · rw [z.1] at hj; exact absurd hj (by simp)
    · rw [z] at hc; exact hc hx)
theorem fE_s {j : gI} {q : Nat} (h : cf (fE A G N g y) A M) (hj : ¬ j.1 = 14) (hb : ¬ (j.2.1 < N ∧ bt G j.2.1 = true)) : M j q = A j q := h _ _ (fun z => by
  rcases z with z | ⟨x, hx, t, ht, hbt, z⟩
  · exact hj z
  · rcases z with z | z
    · rw [z.1] at hb; exact hb ⟨ht, hbt⟩
    · rw [z] at hb; exact hb ⟨ht, hbt⟩)
theorem dE_o {j : gI} {q : Nat} (h : cf (dE A G N g y) E M) (hj : ¬ (j.1 = 59 ∨ j.1 = 19 ∨ j.1 = 20)) : M j q = E j q := h _ _ (fun z => by
  rcases z with z | ⟨x, -, z⟩
  · exact hj (Or.inl z)
  · exact hj (Or.inr (eR_t z)))
theorem dE_e {j : gI} {q : Nat} (hg : g ≤ 47) (h : cf (dE A G N g y) E M) (hj : ¬ j.1 = 59) (hc : ∀ x s, ch A g y x → s < N → bt G s = true → ¬ ((j.1 = 19 ∧ q = 48 * s + x) ∨ (j.1 = 20 ∧ 8 * (48 * s + x) ≤ q ∧ q < 8 * (48 * s + x) + 8))) : M j q = E j q := h _ _ (fun z => by
  rcases z with z | ⟨x, hx, t, ht, hb, z⟩
  · exact hj z
  · refine hc x t hx ht hb ?_
    rcases z with z | z
    · rw [z.1]; exact Or.inl ⟨rfl, z.2⟩
    · rw [z.1]; exact Or.inr ⟨rfl, z.2⟩)
theorem rSv_at (hN : N ≤ 4) (R : rSv N s o Mc Mr) (h1 : ∀ j q, kSv s o j q → Mc' j q = Mc j q) (h2 : ∀ j q, lSv s o j q → Mr' j q = Mr j q) : rSv N s o Mc' Mr' :=
  R.fr hN (A := fun j q => ¬ Mc' j q = Mc j q) (B := fun j q => ¬ Mr' j q = Mr j q) (fun j q h => Classical.not_not.mp h) (fun j q h => Classical.not_not.mp h) (fun j q h z => z (h1 j q h)) (fun j q h z => z (h2 j q h))
theorem dir_rel (hN : N ≤ 4) (R : Rel N g Mc (swp N G D P Mr)) (hD : D y = false) (hP : P y = false) (hy : y < 48) (hg : g ≤ 47) (hkD : ∀ x, ch Mc g y x → D x = false ∧ P x = false) (hyA : ∀ s, s < N → rSv N s y A E) (hxA : ∀ x, ch Mc g y x → ∀ s, s < N → rSv N s x A E) (hoC : ∀ s, s < N → ∀ o, o < 48 → o ≠ y → ¬ ch Mc g y o → ∀ j q, kSv s o j q → A j q = Mc j q) (hoR : ∀ s, s < N → ∀ o, o < 48 → o ≠ y → ¬ ch Mc g y o → ∀ j q, lSv s o j q → E j q = Mr j q) (fA : cf (fun j q => aSv j q ∨ csc j q) Mc A) (fE' : cf (fun j q => bSv j q ∨ rsc j q) Mr E) (dz : cf (fun j q => ¬ zZ D P j q) Mr E) : Rel N g A (swp N G D P E) := by
  refine R.srv hN fA (swp_cf hN fE' dz) (fun s hs o ho => ?_)
  by_cases e : o = y
  · subst e; exact sv_live hN hs ho hD hP (hyA s hs)
  · by_cases hc : ch Mc g y o
    · exact sv_live hN hs ho (hkD o hc).1 (hkD o hc).2 (hxA o hc s hs)
    · refine rSv_at hN (R.sv hs ho) (hoC s hs o ho e hc) (fun j q h => ?_)
      exact swp_cf hN (A := fun j q => ¬ E j q = Mr j q) (fun j q h => Classical.not_not.mp h) dz j q (fun z => z (hoR s hs o ho e hc j q h))
theorem dir_inv (hN : N ≤ 4) (hyg : y ≤ g) (I : JInv N g M) (hc : ∀ (j : gI) q, ¬ (iFree j q ∨ ((j.1 = 51 ∨ j.1 = 56) ∧ j.2.1 < 4)) → M' j q = M j q) (c51 : ∀ s, s < N → ∀ q, ¬ (bt G s = true ∧ q = y) → M' (51, s, 0) q = M (51, s, 0) q) (h1 : ∀ s, s < N → bt G s = true → M' (51, s, 0) y = 1) (c56 : ∀ s, s < N → ∀ x, ¬ (bt G s = true ∧ ch M g y x) → M' (56, s, 0) x = M (56, s, 0) x) (h2 : ∀ s, s < N → bt G s = true → ∀ x, ch M g y x → M' (56, s, 0) x = jS M G x N) (hd : M (4, 0, 0) y = 1) (hpar : ∀ s, s < N → bt G s = true → 1 ≤ y → ∀ p, p < 48 → M (2, 0, 0) y = nI p → M (51, s, 0) p = 1 ∧ ¬ M (56, s, 0) y = 0) : JInv N g M' := by
  have I0 := I
  obtain ⟨cat, lo, sv, vr, kl, wt'⟩ := I
  have hg := cat.1
  have hc' : cf (fun j q => iFree j q ∨ ((j.1 = 51 ∨ j.1 = 56) ∧ j.2.1 < 4)) M M' := fun j q h => hc j q h
  have e2 : ∀ p, M' (2, 0, 0) p = M (2, 0, 0) p := fun p => hc _ _ (by unfold iFree csc; dsimp only; omega)
  have e4 : ∀ p, M' (4, 0, 0) p = M (4, 0, 0) p := fun p => hc _ _ (by unfold iFree csc; dsimp only; omega)
  refine ⟨cat.fr hc' ?_, fun s' hs' => ?_, fun s' hs' p hp' => ?_, fun s' hs' p hp' => ?_, fun c h p hp' => (kl c h p hp').fr hN hc' ?_, fun c h => (wt' c h).fr hc' ?_⟩
  · intro j q; unfold eCat iFree csc; omega
  · rw [hc' _ _ (by unfold iFree csc; dsimp only; omega)]; exact lo s' hs'
  · have mono : ∀ q, M (51, s', 0) q = 1 → M' (51, s', 0) q = 1 := fun q e => by
      by_cases z : bt G s' = true ∧ q = y
      · rw [z.2]; exact h1 s' hs' z.1
      · rw [c51 s' hs' q z]; exact e
    obtain ⟨i1, i2, i3, i4, i5⟩ := sv s' hs' p hp'
    unfold iSv
    rw [e2]
    by_cases ep : bt G s' = true ∧ p = y
    · obtain ⟨hb, rfl⟩ := ep
      rw [h1 s' hs' hb, c56 s' hs' p (fun z => absurd z.2.1 (by omega))]
      exact ⟨Or.inr rfl, i2, fun _ => hyg, i4, fun q hq p1 e => ⟨fun _ => ⟨mono q (hpar s' hs' hb p1 q hq e).1, (hpar s' hs' hb p1 q hq e).2⟩, fun z => mono q ((i5 q hq p1 e).2 z)⟩⟩
    · rw [c51 s' hs' p ep]
      by_cases ec : bt G s' = true ∧ ch M g y p
      · obtain ⟨hb, hx⟩ := ec
        rw [h2 s' hs' hb p hx]
        obtain ⟨v1, v2, -⟩ := jS_v (M := M) (G := G) (x := p) N (fun t ht _ => (sv t ht p hp').2.1)
        refine ⟨i1, v1, i3, fun _ => ⟨by have := hx.1; omega, hx.2.1⟩, fun q hq p1 e => ?_⟩
        have eq : q = y := by rw [hx.2.2, neq (by omega) (by omega)] at e; exact e.symm
        subst eq
        exact ⟨fun z => ⟨h1 s' hs' hb, v2 s' hs' hb ((i5 q hq p1 e).1 z).2⟩, fun _ => h1 s' hs' hb⟩
      · rw [c56 s' hs' p ec]
        exact ⟨i1, i2, i3, i4, fun q hq p1 e => ⟨fun z => ⟨mono q ((i5 q hq p1 e).1 z).1, ((i5 q hq p1 e).1 z).2⟩, fun z => mono q ((i5 q hq p1 e).2 z)⟩⟩
  · have eo : ∀ t : Nat, (t = 52 ∨ t = 53) → M' (t, s', 0) p = M (t, s', 0) p := fun t ht => hc _ _ (by unfold iFree csc; dsimp only; omega)
    have ev : ∀ t : Nat, (t = 60 ∨ t = 61 ∨ t = 62) → ∀ q, M' (t, 48 * s' + p, 0) q = M (t, 48 * s' + p, 0) q := fun t ht q => hc _ _ (by unfold iFree csc; dsimp only; omega)
    obtain ⟨k1, n, k2, k3, k4, k5⟩ := vr s' hs' p hp'
    refine ⟨by rw [eo 53 (by omega)]; exact k1, n, k2, by rw [ev 60 (by omega)]; exact k3, fun hn => ?_, fun i hi => by rw [ev 62 (by omega)]; exact k5 i hi⟩
    obtain ⟨w1, w2, w3, w4⟩ := k4 hn
    have : p ≠ y := fun e => by rw [e, hd] at w2; exact absurd w2 (by decide)
    rw [c51 s' hs' p (fun z => this z.2), e4, eo 52 (by omega), eo 53 (by omega), ev 61 (by omega), ev 62 (by omega)]
    exact ⟨w1, w2, w3, w4⟩
  · intro j q; unfold eKl iFree csc; omega
  · intro j q; unfold eWt iFree csc; omega
end ZS
