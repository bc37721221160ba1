/-! layer 2: what holds between the objects of a meeting -/
def uCc (j : gI) (q : Nat) : Prop := j.1 = 9 ∨ j.1 = 13 ∨ j.1 = 14 ∨ j.1 = 15 ∨ j.1 = 22 ∨ j.1 = 32 ∨ (51 ≤ j.1 ∧ j.1 ≤ 58 ∧ j.2.1 < 4) ∨ j.1 = 60 ∨ j.1 = 61 ∨ j.1 = 62 ∨ j.1 = 64
def uQq (j : gI) (q : Nat) : Prop := (11 ≤ j.1 ∧ j.1 ≤ 21) ∨ j.1 = 26 ∨ j.1 = 45 ∨ (57 ≤ j.1 ∧ j.1 ≤ 61) ∨ (63 ≤ j.1 ∧ j.1 ≤ 66) ∨ (j.1 = 0 ∧ (q = 46 ∨ q = 55 ∨ q = 61))
def pnd (N z : Nat) (M : gM) : Prop := ∀ s, s < N → M (51, s, 0) z = 0 ∧ ¬ M (56, s, 0) z = 1
/-- of the class alone, at the object k -/
def aG (N g : Nat) (G : Int32) (par : Nat → Nat) (k : Nat) (M0 Mc : gM) : Prop := (∀ z, z < k → z ≤ g → (∀ s, s < N → bt G s = true → Mc (51, s, 0) z = 1) ∨ (∀ s, s < N → bt G s = true → Mc (51, s, 0) z = 0)) ∧ (∀ x, 1 ≤ x → x ≤ g → par x < k → ∀ s t, s < N → t < N → bt G s = true → bt G t = true → Mc (56, s, 0) x = Mc (56, t, 0) x) ∧ (∀ z, 1 ≤ z → z ≤ g → pnd N z M0 → pnd N z Mc) ∧ cf uCc M0 Mc
def sK (N g : Nat) (G : Int32) (par : Nat → Nat) (k : Nat) (D : Nat → Bool) (Mc Mr : gM) : Prop := (∀ z, D z = true → k ≤ z) ∧ (∀ z, k ≤ z → z < 48 → Mr m_swept z = 0) ∧ (∀ z, 1 ≤ z → k < z → z ≤ g → (D z = true ↔ D (par z) = true ∨ (par z < k ∧ ¬ Mr m_swept (par z) = 0))) ∧ ∀ z, z < k → z ≤ g → ¬ Mr m_swept z = 0 → ∀ s, s < N → bt G s = true → Mc (51, s, 0) z = 0
def LI (N g : Nat) (G : Int32) (par : Nat → Nat) (k : Nat) (M0 R0 Mc Mr : gM) : Prop := ∃ D : Nat → Bool, MM N g G (pds N G D Mr) D (pO par g D) Mc Mr ∧ dI N g G par D Mr ∧ sK N g G par k D Mc Mr ∧ (1 ≤ k → k ≤ g → (D k = true ↔ ¬ Mr m_swept (par k) = 0)) ∧ aG N g G par k M0 Mc ∧ cf uQq R0 Mr
section ZZA
variable {N g B s o c d x y z T n m t l i j a b p k : Nat} {A E M M1 M0 R0 M' X Y Mc Mr Mc' Mr' : gM} {row a3 : gI} {D P : Nat → Bool} {G H pd v w nr a1 a2 a4 a5 : Int32} {f r : Nat → Int32} {zz : lS} {par : Nat → Nat}
theorem pds_zz (hN : N ≤ 4) (dz : cf (fun j q => ¬ zZ D P j q) M M') : pds N G D M' = pds N G D M := by
  unfold pds
  refine congrArg nI ?_
  have : ∀ n, n ≤ 48 → wsum (fun z => if D z = true then cntF (bt (rHo N M' G z)) 0 N else 0) n = wsum (fun z => if D z = true then cntF (bt (rHo N M G z)) 0 N else 0) n := by
    intro n
    induction n with
    | zero => exact fun _ => rfl
    | succ n ih =>
      intro hn
      show wsum _ n + _ = wsum _ n + _
      rw [ih (by omega)]
      refine congrArg _ ?_
      show (if D n = true then _ else _) = if D n = true then _ else _
      by_cases hD : D n = true
      · rw [if_pos hD, if_pos hD, show rHo N M' G n = rHo N M G n from sN_congr _ _ _ (fun s _ hs => by
          rw [dz m_has (48 * s + n) (fun h => h (Or.inl ⟨Or.inl rfl, by omega, by rw [show (48 * s + n) % 48 = n by omega]; exact hD⟩))])]
      · rw [if_neg hD, if_neg hD]
  exact this 48 (by omega)
theorem dI_zz (hN : N ≤ 4) (hg : g ≤ 47) (dz : cf (fun j q => ¬ zZ D (pO par g D) j q) M M') (h : dI N g G par D M) : dI N g G par D M' := fun x hx => by
  obtain ⟨h1, h2, h3⟩ := h x hx
  refine ⟨h1, h2, fun s hs hb => ?_⟩
  have e : ∀ j : gI, (j = m_has ∨ j = m_versions) → M' j (48 * s + x) = M j (48 * s + x) := fun j hj => dz _ _ (fun h => h (Or.inl ⟨by
    rcases hj with hj | hj
    · exact Or.inl hj
    · exact Or.inr (Or.inl hj), by omega, by rw [show (48 * s + x) % 48 = x by omega]; exact hx⟩))
  rw [e _ (Or.inl rfl), e _ (Or.inr rfl)]
  refine ⟨(h3 s hs hb).1, fun h0 => ⟨((h3 s hs hb).2 h0).1, fun z z1 z2 z3 => ?_⟩⟩
  rw [dz m_entry (48 * s + z) (fun h => h (Or.inr ⟨rfl, by omega, by
    rw [show (48 * s + z) % 48 = z by omega]
    unfold pO
    rw [decide_eq_true ⟨z1, z2⟩, z3, hx]; rfl⟩))]
  exact ((h3 s hs hb).2 h0).2 z z1 z2 z3
/-- a live object is done -/
theorem LI_next (hN : N ≤ 4) (hg : g ≤ 47) (hkg : k ≤ g) (hpl : ∀ z, 1 ≤ z → z ≤ g → par z < z) (hDk : D k = false) (hM : MM N g G (pds N G D Mr) D (pO par g D) Mc' Mr') (hI : dI N g G par D Mr) (hS : sK N g G par k D Mc Mr) (hA : aG N g G par k M0 Mc) (h51 : ∀ s, s < N → ∀ z, z ≠ k → Mc' (51, s, 0) z = Mc (51, s, 0) z) (hall : (∀ s, s < N → bt G s = true → Mc' (51, s, 0) k = 1) ∨ (∀ s, s < N → bt G s = true → Mc' (51, s, 0) k = 0)) (h56 : ∀ x, 1 ≤ x → x ≤ g → par x ≤ k → ∀ s t, s < N → t < N → bt G s = true → bt G t = true → Mc' (56, s, 0) x = Mc' (56, t, 0) x) (hp : ∀ z, 1 ≤ z → z ≤ g → pnd N z Mc → pnd N z Mc') (fC : cf uCc Mc Mc') (f0 : cf uQq R0 Mr) (fQ : cf uQq Mr Mr') (hsw : ∀ z, Mr' m_swept z = Mr m_swept z) (dz : cf (fun j q => ¬ zZ D (pO par g D) j q) Mr Mr') : LI N g G par (k + 1) M0 R0 Mc' Mr' := by
  obtain ⟨s1, s2, s3, s4⟩ := hS
  obtain ⟨a1, a2, a3, a4⟩ := hA
  refine ⟨D, by rw [pds_zz hN dz]; exact hM, dI_zz hN hg dz hI, ⟨fun z hz => ?_, fun z z1 z2 => by rw [hsw]; exact s2 z (by omega) z2, fun z z1 z2 z3 => ?_, fun z z1 z2 z3 s hs hb => ?_⟩, fun k1 k2 => ?_, ⟨fun z z1 z2 => ?_, fun x x1 x2 x3 => h56 x x1 x2 (by omega), fun z z0 z1 z2 => hp z z0 z1 (a3 z z0 z1 z2), a4.tr fC⟩, f0.tr fQ⟩
  · have := s1 z hz
    have : z ≠ k := fun e => by rw [e, hDk] at hz; exact absurd hz (by decide)
    omega
  · rw [s3 z z1 (by omega) z3, hsw]
    refine ⟨fun h => ?_, fun h => ?_⟩
    · rcases h with h | h
      · exact Or.inl h
      · exact Or.inr ⟨by omega, h.2⟩
    · rcases h with h | h
      · exact Or.inl h
      · by_cases e : par z = k
        · rw [e] at h; exact absurd (s2 k (by omega) (by omega)) h.2
        · exact Or.inr ⟨by omega, h.2⟩
  · rw [hsw] at z3
    by_cases e : z = k
    · subst e; exact absurd (s2 z (by omega) (by omega)) z3
    · rw [h51 s hs z e]; exact s4 z (by omega) z2 z3 s hs hb
  · have hpk := hpl (k + 1) k1 k2
    rw [s3 (k + 1) k1 (by omega) k2, hsw]
    refine ⟨fun h => ?_, fun h => ?_⟩
    · rcases h with h | h
      · have := s1 _ h
        have e : par (k + 1) = k := by omega
        rw [e, hDk] at h; exact absurd h (by decide)
      · exact h.2
    · by_cases e : par (k + 1) = k
      · rw [e] at h; exact absurd (s2 k (by omega) (by omega)) h
      · exact Or.inr ⟨by omega, h⟩
  · by_cases e : z = k
    · subst e; exact hall
    · rcases a1 z (by omega) z2 with h | h
      · exact Or.inl (fun s hs hb => by rw [h51 s hs z e]; exact h s hs hb)
      · exact Or.inr (fun s hs hb => by rw [h51 s hs z e]; exact h s hs hb)
/-- a doomed object is swept -/
theorem LI_sweep (hN : N ≤ 4) (hk1 : 1 ≤ k) (hkg : k ≤ g) (hGb : ∀ i, N ≤ i → i < 32 → bt G i = false) (hpar : ∀ z, 1 ≤ z → z ≤ g → Mc (2, 0, 0) z = nI (par z) ∧ par z < z) (hDk : D k = true) (hM : MM N g G (pds N G D Mr) D (pO par g D) Mc Mr) (hI : dI N g G par D Mr) (hS : sK N g G par k D Mc Mr) (hA : aG N g G par k M0 Mc) (h0 : ∀ s, s < N → bt G s = true → Mc (51, s, 0) k = 0) (f0 : cf uQq R0 Mr) : ∃ Mr', wz Mr m_swept 48 (nI k) (1 : Int32) (fun M31 => o1 (f_X11_sweep M31 (nI k)) (fun M33 => some M33)) = some Mr' ∧ LI N g G par (k + 1) M0 R0 Mc Mr' := by
  obtain ⟨R, I, g1, g2, g3⟩ := id hM
  have hg := I.1.1
  obtain ⟨s1, s2, s3, s4⟩ := hS
  obtain ⟨a1, a2, a3, a4⟩ := hA
  obtain ⟨Mr1, hMr1⟩ : ∃ X, X = gset Mr m_swept k 1 := ⟨_, rfl⟩
  have f1 : cf (fun j q => j = m_swept ∧ q = k) Mr Mr1 := by rw [hMr1]; exact cf.st ⟨rfl, rfl⟩
  have dz1 : cf (fun j q => ¬ zZ D (pO par g D) j q) Mr Mr1 := f1.mo (fun j q h => by rw [h.1]; exact zZ_n (by simp))
  have e1 : ∀ (j : gI) q, j ≠ m_swept → Mr1 j q = Mr j q := fun j q h => f1 _ _ (fun z => h z.1)
  have n0 : Mr1 m_o 0 = nI N := by have := R.n0; rw [swp_r (zZ_n (by simp))] at this; rw [e1 _ _ (by decide)]; exact this
  have n6 : Mr1 m_o 6 = nI (g + 1) := by have := R.ct.2.1; rw [swp_r (zZ_n (by simp))] at this; rw [e1 _ _ (by decide)]; exact this
  have hpr : ∀ z, 1 ≤ z → z ≤ g → Mr1 m_parent z = nI (par z) ∧ par z < 48 := fun z z1 z2 => by
    have := (R.ct.2.2 z (by omega)).1
    rw [swp_r (zZ_n (by simp)), (hpar z z1 z2).1] at this
    rw [e1 _ _ (by decide)]
    exact ⟨this.symm, by have := (hpar z z1 z2).2; omega⟩
  have I1 : dI N g G par D Mr1 := dI_zz hN hg dz1 hI
  obtain ⟨Mr', q1, ⟨w, q2⟩, q3, q4, q5⟩ := sweep_step (x := k) (M := Mr1) hN hg (by omega) hGb hDk hpr I1 n0 n6 (by rw [e1 _ _ (by decide)]; exact g2)
  have R1 : Rel N g Mc (swp N G D (pO par g D) Mr1) := R.fr hN (cf.rf _ _) ((swp_cf hN (f1.mo (fun j q h => (by rw [h.1]; unfold rsc; dsimp only; omega : rsc j q))) dz1))
  have R2 : Rel N g Mc (swp N G (dR D k) (pO par g (dR D k)) Mr') := by
    rw [q2]
    exact R1.fr hN (cf.rf _ _) (cf.st (by unfold rsc; dsimp only; omega))
  have e5 : ∀ (j : gI) q, j ≠ m_has → j ≠ m_versions → j ≠ m_entry → j ≠ m_promised → ¬ (j = m_o ∧ q = 55) → Mr' j q = Mr1 j q := fun j q h1 h2 h3 h4 h5 => q5 _ _ (fun z => by
    rcases z with z | z | z | z | z
    · exact h1 z
    · exact h2 z
    · exact h3 z
    · exact h4 z
    · exact h5 z)
  have sw : ∀ z, Mr' m_swept z = if z = k then 1 else Mr m_swept z := fun z => by
    rw [e5 _ _ (by decide) (by decide) (by decide) (by decide) (by simp), hMr1, gset_r]
    by_cases e : z = k
    · rw [if_pos ⟨rfl, e⟩, if_pos e]
    · rw [if_neg (fun y => e y.2), if_neg e]
  have dRz : ∀ z, dR D k z = true ↔ D z = true ∧ z ≠ k := fun z => by
    unfold dR
    rw [Bool.and_eq_true]
    refine ⟨fun h => ⟨h.1, by have := h.2; simpa using this⟩, fun h => ⟨h.1, by rw [decide_eq_false h.2]; rfl⟩⟩
  have i3 : ∀ z, 1 ≤ z → k < z → z ≤ g → (dR D k z = true ↔ dR D k (par z) = true ∨ (par z < k + 1 ∧ ¬ Mr' m_swept (par z) = 0)) := fun z z1 z2 z3 => by
    rw [dRz, dRz, s3 z z1 z2 z3, sw]
    by_cases e : par z = k
    · rw [e, if_pos rfl]
      exact ⟨fun _ => Or.inr ⟨by omega, by decide⟩, fun _ => ⟨Or.inl hDk, by omega⟩⟩
    · rw [if_neg e]
      refine ⟨fun h => ?_, fun h => ⟨?_, by omega⟩⟩
      · rcases h.1 with h | h
        · exact Or.inl ⟨h, e⟩
        · exact Or.inr ⟨by omega, h.2⟩
      · rcases h with h | h
        · exact Or.inl h.1
        · exact Or.inr ⟨by omega, h.2⟩
  have hx0 : ∀ x, 1 ≤ x → x ≤ g → par x = k → ∀ s, s < N → bt G s = true → Mc (56, s, 0) x = 0 := fun x x1 x2 e s hs hb => by
    refine Classical.not_not.mp (fun z => ?_)
    have := ((I.2.2.1 s hs x (by omega)).2.2.2.2 k (by omega) x1 (by rw [(hpar x x1 x2).1, e])).2 z
    rw [h0 s hs hb] at this; exact absurd this (by decide)
  refine ⟨Mr', ?_, dR D k, ⟨R2, I, g1, ?_, ?_⟩, q4, ⟨fun z hz => ?_, fun z z1 z2 => ?_, fun z z1 z2 z3 => i3 z z1 (by omega) z3, fun z z1 z2 z3 s hs hb => ?_⟩, fun k1 k2 => ?_, ⟨fun z z1 z2 => ?_, fun x x1 x2 x3 s t hs ht hbs hbt => ?_, a3, a4⟩, ?_⟩
  · rw [wz_1 (by omega) (by omega), ← hMr1, q1, o1_s]
  · rw [e5 _ _ (by decide) (by decide) (by decide) (by decide) (by simp), e1 _ _ (by decide)]; exact g2
  · rw [q3, pds_zz hN dz1, e1 _ _ (by decide)]; exact g3
  · obtain ⟨h1, h2⟩ := (dRz z).mp hz
    have := s1 z h1
    omega
  · rw [sw, if_neg (by omega)]; exact s2 z (by omega) z2
  · rw [sw] at z3
    by_cases e : z = k
    · subst e; exact h0 s hs hb
    · rw [if_neg e] at z3
      exact s4 z (by omega) z2 z3 s hs hb
  · rw [i3 (k + 1) k1 (by omega) k2]
    have hpk := (hpar (k + 1) k1 k2).2
    refine ⟨fun h => ?_, fun h => Or.inr ⟨by omega, h⟩⟩
    rcases h with h | h
    · obtain ⟨y1, y2⟩ := (dRz _).mp h
      have := s1 _ y1
      omega
    · exact h.2
  · by_cases e : z = k
    · subst e; exact Or.inr h0
    · exact a1 z (by omega) z2
  · by_cases e : par x = k
    · rw [hx0 x x1 x2 e s hs hbs, hx0 x x1 x2 e t ht hbt]
    · exact a2 x x1 x2 (by omega) s t hs ht hbs hbt
  · refine f0.tr (fun j q hn => ?_)
    rw [e5 j q (fun z => hn (by rw [z]; unfold uQq; dsimp only; omega)) (fun z => hn (by rw [z]; unfold uQq; dsimp only; omega)) (fun z => hn (by rw [z]; unfold uQq; dsimp only; omega)) (fun z => hn (by rw [z]; unfold uQq; dsimp only; omega)) (fun z => hn (by rw [z.1, z.2]; unfold uQq; dsimp only; omega)), e1 j q (fun z => hn (by rw [z]; unfold uQq; dsimp only; omega))]
end ZZA
