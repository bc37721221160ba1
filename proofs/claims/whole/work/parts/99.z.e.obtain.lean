/-! layer 2: a server comes by a copy -/
def oC (y : Nat) (j : gI) (q : Nat) : Prop := ((j.1 = 51 ∨ j.1 = 52 ∨ j.1 = 53) ∧ j.2.1 < 4 ∧ q = y) ∨ (j.1 = 55 ∧ j.2.1 < 4 ∧ j.2.2 = y) ∨ ((j.1 = 60 ∨ j.1 = 61 ∨ j.1 = 62 ∨ j.1 = 64) ∧ j.2.1 < 192 ∧ j.2.1 % 48 = y) ∨ (j.1 = 32 ∧ q = y) ∨ (j = (13, 0, 0) ∧ q = 7) ∨ (j.1 = 22 ∧ q = y) ∨ cCd j q ∨ j.1 = 14 ∨ j.1 = 9
def oQ (j : gI) (q : Nat) : Prop := (11 ≤ j.1 ∧ j.1 ≤ 18) ∨ j.1 = 21 ∨ j.1 = 26 ∨ j.1 = 45 ∨ (j.1 = 0 ∧ (q = 46 ∨ q = 55)) ∨ rCd j q
def gC (s y : Nat) (j : gI) (q : Nat) : Prop := ((j.1 = 51 ∨ j.1 = 52 ∨ j.1 = 53) ∧ j.2.1 = s ∧ q = y) ∨ (j.1 = 55 ∧ j.2.1 = s ∧ j.2.2 = y) ∨ ((j.1 = 60 ∨ j.1 = 61 ∨ j.1 = 62 ∨ j.1 = 64) ∧ j.2.1 = 48 * s + y)
def gR (a : Nat) (j : gI) (q : Nat) : Prop := ((j.1 = 11 ∨ j.1 = 12 ∨ j.1 = 13 ∨ j.1 = 15) ∧ q = a) ∨ (j.1 = 14 ∧ 8 * a ≤ q ∧ q < 8 * a + 8) ∨ ((j.1 = 16 ∨ j.1 = 17) ∧ 6 * a ≤ q ∧ q < 6 * a + 6) ∨ (j.1 = 18 ∧ 48 * a ≤ q ∧ q < 48 * a + 48)
/-- servers that meet, in step, with the doomed swept -/
def MM (N g : Nat) (G pd : Int32) (D P : Nat → Bool) (Mc Mr : gM) : Prop := Rel N g Mc (swp N G D P Mr) ∧ JInv N g Mc ∧ Mc (13, 0, 0) 6 = G ∧ Mr m_o 53 = G ∧ Mc (13, 0, 0) 7 = Mr m_o 55 + pd
section ZE
variable {N g B s o c d x y z T n m t l i j : Nat} {A E M M' X Mc Mr Mc' Mr' : gM} {row a3 : gI} {D P : Nat → Bool} {G pd v w nr a1 a2 a4 a5 : Int32} {zz : lS}
theorem obt_rel (hN : N ≤ 4) (hs : s < N) (hy : y < 48) (R : Rel N g Mc Mr) (hc : cf (gC s y) Mc Mc') (hr : cf (gR (48 * s + y)) Mr Mr') (ha : rA N s y Mc' Mr') (hd : rD N s y Mc' Mr') : Rel N g Mc' Mr' := by
  have h := R.sv hs hy
  refine R.mix hN hs hy (hc.mo ?_) (hr.mo ?_) (R.2.2.2.1.fr hc hr ?_ ?_) (rSv_of ha (h.b.fr hN hc hr ?_ ?_) (h.cc.fr hc hr ?_ ?_) hd) (R.2.2.2.2.2.2.2.fr hc hr ?_ ?_)
  · intro j q z; revert z; unfold gC mC kSv; omega
  · intro j q z; revert z; unfold gR mR lSv; omega
  · intro s'; unfold gC; dsimp only; omega
  · intro s'; unfold gR; dsimp only; omega
  · intro j q; unfold gC; omega
  · intro j q; unfold gR; omega
  · unfold gC; dsimp only; omega
  · unfold gR; dsimp only; omega
  · intro j q; unfold kTl gC; omega
  · intro j q; unfold lTl gR; omega
theorem obt_inv (hN : N ≤ 4) (hs : s < N) (hyg : y ≤ g) (I : JInv N g M) (hc : cf (gC s y) M M') (h1 : M' (51, s, 0) y = 1) (hpar : 1 ≤ y → ∀ p, p < 48 → M (2, 0, 0) y = nI p → M (51, s, 0) p = 1 ∧ ¬ M (56, s, 0) y = 0) (hv : iVr s y M') : JInv N g M' := by
  obtain ⟨cat, lo, sv, vr, kl, wt'⟩ := I
  have hg := cat.1
  refine ⟨cat.fr hc ?_, fun s' hs' => ?_, fun s' hs' p hp' => ?_, fun s' hs' p hp' => ?_, fun c h p hp' => (kl c h p hp').fr hN hc ?_, fun c h => (wt' c h).fr hc ?_⟩
  · intro j q; unfold eCat gC; omega
  · rw [hc _ _ (by unfold gC; dsimp only; omega)]; exact lo s' hs'
  · by_cases es : s' = s
    · subst es
      have e2 : ∀ p, M' (2, 0, 0) p = M (2, 0, 0) p := fun p => hc _ _ (by unfold gC; dsimp only; omega)
      have e56 : ∀ p, M' (56, s', 0) p = M (56, s', 0) p := fun p => hc _ _ (by unfold gC; dsimp only; omega)
      have mono : ∀ q, M (51, s', 0) q = 1 → M' (51, s', 0) q = 1 := fun q e => by
        by_cases z : q = y
        · subst z; exact h1
        · rw [hc _ _ (by unfold gC; dsimp only; omega)]; exact e
      obtain ⟨i1, i2, i3, i4, i5⟩ := sv s' hs' p hp'
      unfold iSv
      rw [e56, e2]
      by_cases ep : p = y
      · subst ep
        rw [h1]
        exact ⟨Or.inr rfl, i2, fun _ => hyg, i4, fun q hq p1 e => ⟨fun _ => ⟨mono q (hpar p1 q hq e).1, (hpar p1 q hq e).2⟩, fun z => mono q ((i5 q hq p1 e).2 z)⟩⟩
      · rw [hc (51, s', 0) p (by unfold gC; dsimp only; omega)]
        exact ⟨i1, i2, i3, i4, fun q hq p1 e => ⟨fun z => ⟨mono q ((i5 q hq p1 e).1 z).1, ((i5 q hq p1 e).1 z).2⟩, fun z => mono q ((i5 q hq p1 e).2 z)⟩⟩
    · refine (sv s' hs' p hp').fr hp' hc ?_
      intro j q; unfold eSv gC; omega
  · by_cases e : s' = s ∧ p = y
    · obtain ⟨rfl, rfl⟩ := e
      exact hv
    · refine (vr s' hs' p hp').fr hc ?_
      intro j q; unfold eVr gC; omega
  · intro j q; unfold eKl gC; omega
  · intro j q; unfold eWt gC; omega
theorem zZ_n {a : gI} {q : Nat} (h : ¬ (a.1 = 11 ∨ a.1 = 15 ∨ a.1 = 19 ∨ a.1 = 26)) : ¬ zZ D P a q := fun z => h (by
  rcases z with ⟨z | z | z, -⟩ | ⟨z, -⟩
  · rw [z]; exact Or.inl rfl
  · rw [z]; exact Or.inr (Or.inl rfl)
  · rw [z]; exact Or.inr (Or.inr (Or.inr rfl))
  · rw [z]; exact Or.inr (Or.inr (Or.inl rfl)))
theorem zZ_y {a : gI} {s : Nat} (hy : y < 48) (hD : D y = false) (h : a ≠ m_entry) : ¬ zZ D P a (48 * s + y) := fun z => by
  rcases z with z | z
  · rw [show (48 * s + y) % 48 = y by omega, hD] at z; exact absurd z.2.2 (by decide)
  · exact h z.1
theorem bits1 (hN : N ≤ 4) (hs : s < N) : f_J6_bitCount_0f7a4 N M (sB s) = some 1 := by
  have e : sB s = sS (fun t => decide (t = s)) N := b_ext (fun i hi => by
    rw [bt_sB (by omega) hi, bt_sS (by omega) hi]
    by_cases e : i = s
    · subst e; simp [hs]
    · simp [e])
  rw [e, c_bits hN]
  have : ∀ m k, k ≤ s → s < k + m → cntF (fun t => decide (t = s)) k m = 1 := by
    intro m
    induction m with
    | zero => intro k a b; omega
    | succ m ih =>
      intro k a b
      rw [cntF_s]
      by_cases e : k = s
      · subst e
        rw [if_pos (decide_eq_true rfl), (cntF_z m (k + 1)).mpr (fun j a b => decide_eq_false (by omega))]
      · rw [if_neg (by simp [e]), ih (k + 1) (by omega) (by omega)]
  rw [this N 0 (by omega) (by omega)]
  rfl
/-- a change at one server is noted -/
theorem note1 (hN : N ≤ 4) (hs : s < N) (hy : y < 48) (hD : D y = false) (h : MM N g G pd D P Mc Mr) : ∃ Mc' Mr', f_X4_noteChange N Mc (sB s) (nI y) = some Mc' ∧ f_X11_endPromises (gset Mr m_o 55 (Mr m_o 55 + 1)) (nI y) (sB s) (-1 : Int32) = some Mr' ∧ MM N g G pd D P Mc' Mr' ∧ cf (fun j q => (j = (13, 0, 0) ∧ q = 7) ∨ (j.1 = 32 ∧ q = y)) Mc Mc' ∧ cf (fun j q => (j.1 = 0 ∧ q = 55) ∨ j.1 = 26) Mr Mr' ∧ cf (fun j q => ¬ zZ D P j q) Mr Mr' := by
  obtain ⟨R, I, g1, g2, g3⟩ := h
  obtain ⟨Mc1, hMc1⟩ : ∃ X, X = gset Mc (13, 0, 0) 7 (Mc (13, 0, 0) 7 + 1) := ⟨_, rfl⟩
  obtain ⟨Mr1, hMr1⟩ : ∃ X, X = gset Mr m_o 55 (Mr m_o 55 + 1) := ⟨_, rfl⟩
  have f1 : cf (fun j q => j = (13, 0, 0) ∧ q = 7) Mc Mc1 := by rw [hMc1]; exact cf.st ⟨rfl, rfl⟩
  have d1 : cf (fun j q => j.1 = 0 ∧ q = 55) Mr Mr1 := by rw [hMr1]; exact cf.st ⟨rfl, rfl⟩
  have e1 : swp N G D P Mr1 = gset (swp N G D P Mr) m_o 55 (Mr m_o 55 + 1) := by rw [hMr1]; exact swp_st hN (zZ_n (by simp))
  have R1 : Rel N g Mc1 (swp N G D P Mr1) := R.fr hN (f1.mo (fun j q h => by rw [h.1]; unfold csc; dsimp only; omega)) (by rw [e1]; exact cf.st (by unfold rsc; dsimp only; omega))
  have I1 : JInv N g Mc1 := I.free0 hN (f1.mo (fun j q h => by rw [h.1]; unfold iFree csc; dsimp only; omega))
  obtain ⟨Mc2, Mr2, q1, q2, R2, I2, f2, d2⟩ := ends_stepJ (v := sB s) hN hy R1 I1
  rw [r_ends hy] at q2
  have q2 := Option.some.inj q2
  rw [← swp_ep hN hy hD] at q2
  rw [← q2] at R2
  have d3 : cf (fun j q => j.1 = 26) Mr1 (rEp Mr1 y (sB s) (-1 : Int32)) := fun j q h => if_neg (fun z => h (by rw [z.1]))
  refine ⟨Mc2, rEp Mr1 y (sB s) (-1 : Int32), ?_, by rw [← hMr1]; exact r_ends hy, ⟨R2, I2, ?_, ?_, ?_⟩, (f1.mo (fun j q h => Or.inl h)).tr (f2.mo (fun j q h => Or.inr h)), (d1.mo (fun j q h => Or.inl h)).tr (d3.mo (fun j q h => Or.inr h)), ?_⟩
  · unfold f_X4_noteChange
    simp only [lt_d]
    rw [bits1 hN hs, o1_s, ← hMc1, q1, o1_s]
  · rw [f2 _ _ (by dsimp only; omega), f1 _ _ (by simp)]; exact g1
  · rw [d3 _ _ (by dsimp only; omega), d1 _ _ (by simp)]; exact g2
  · rw [f2 _ _ (by dsimp only; omega), hMc1, gset_aa, d3 _ _ (by dsimp only; omega), hMr1, gset_aa, g3, Int32.add_assoc, Int32.add_comm pd 1, ← Int32.add_assoc]
  · refine (d1.mo (fun j q h => ?_)).tr (fun j q h => ?_)
    · exact zZ_n (by omega)
    · unfold rEp
      rw [if_neg (fun z => h (fun hz => by
        rcases hz with hz | hz
        · rw [z.2.2.1, hD] at hz; exact absurd hz.2.2 (by decide)
        · rw [z.1] at hz; exact absurd hz.1 (by decide)))]
end ZE
