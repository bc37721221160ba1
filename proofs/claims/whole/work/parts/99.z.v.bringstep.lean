/-! layer 2: bringBack and again in step (2) -/
section ZV
variable {N g B s o c d x y z T n m t l i j a b : Nat} {A E M M' X Mc Mr Mc' Mr' : gM} {row a3 : gI} {D P : Nat → Bool} {G pd v w nr a1 a2 a4 a5 : Int32} {f : Nat → Int32} {zz : lS}
theorem ent_inv (hN : N ≤ 4) (I : JInv N g M) (hc : cf (fun j q => iFree j q ∨ (j.1 = 56 ∧ j.2.1 < 4)) M M') (h : ∀ s, s < N → ∀ o, o < 48 → M' (56, s, 0) o = M (56, s, 0) o ∨ (¬ M (56, s, 0) o = 0 ∧ M' (56, s, 0) o = 1)) : JInv N g M' := by
  obtain ⟨cat, lo, sv, vr, kl, wt'⟩ := I
  refine ⟨cat.fr hc ?_, fun s' hs' => ?_, fun s' hs' p hp' => ?_, fun s' hs' p hp' => (vr s' hs' p hp').fr hc ?_, fun c h p hp' => (kl c h p hp').fr hN hc ?_, fun c h => (wt' c h).fr hc ?_⟩
  · intro j q; unfold eCat iFree csc; omega
  · rw [hc _ _ (by unfold iFree csc; dsimp only; omega)]; exact lo s' hs'
  · have e51 : ∀ q, M' (51, s', 0) q = M (51, s', 0) q := fun q => hc _ _ (by unfold iFree csc; dsimp only; omega)
    have e2 : ∀ q, M' (2, 0, 0) q = M (2, 0, 0) q := fun q => hc _ _ (by unfold iFree csc; dsimp only; omega)
    obtain ⟨i1, i2, i3, i4, i5⟩ := sv s' hs' p hp'
    have hz : (¬ M' (56, s', 0) p = 0) ↔ ¬ M (56, s', 0) p = 0 := by
      rcases h s' hs' p hp' with h | h
      · rw [h]
      · rw [h.2]; exact ⟨fun _ => h.1, fun _ => by decide⟩
    unfold iSv
    rw [e51, e2]
    refine ⟨i1, ?_, i3, fun z => i4 (hz.mp z), fun q hq p1 e => ?_⟩
    · rcases h s' hs' p hp' with h | h
      · rw [h]; exact i2
      · exact Or.inr (Or.inl h.2)
    · rw [e51]
      exact ⟨fun z => ⟨((i5 q hq p1 e).1 z).1, hz.mpr ((i5 q hq p1 e).1 z).2⟩, fun z => (i5 q hq p1 e).2 (hz.mp z)⟩
  · intro j q; unfold eVr iFree csc; omega
  · intro j q; unfold eKl iFree csc; omega
  · intro j q; unfold eWt iFree csc; omega
def bC (x y : Nat) (j : gI) (q : Nat) : Prop := (j.1 = 22 ∧ q = y) ∨ (j = (13, 0, 0) ∧ q = 7) ∨ (j.1 = 32 ∧ q = y) ∨ (j.2.1 < 4 ∧ ((j.1 = 55 ∧ j.2.2 = y) ∨ (j.1 = 56 ∧ q = x) ∨ (j.1 = 58 ∧ j.2.2 = x)))
def bR (j : gI) (q : Nat) : Prop := j.1 = 14 ∨ j.1 = 19 ∨ j.1 = 20 ∨ j.1 = 21 ∨ j.1 = 26 ∨ (j.1 = 0 ∧ q = 55)
theorem bring_step (hN : N ≤ 4) (hyx : y < x) (hxg : x ≤ g) (hpx : Mc (2, 0, 0) x = nI y) (hDx : D x = false) (hPx : P x = false) (hDy : D y = false) (hPy : P y = false) (hGb : ∀ i, N ≤ i → i < 32 → bt G i = false) (h : MM N g G pd D P Mc Mr) (hall : ∀ s, s < N → bt G s = true → Mc (51, s, 0) y = 1) (hst : ∀ s, s < N → bt G s = true → ¬ Mc (56, s, 0) x = 0) : ∃ Mc' Mr', f_X4_bringBack N Mc (nI x) = some Mc' ∧ f_X11_again Mr (nI x) = some Mr' ∧ MM N g G pd D P Mc' Mr' ∧ (∀ s, s < N → bt G s = true → Mc' (56, s, 0) x = 1) ∧ cf (bC x y) Mc Mc' ∧ cf bR Mr Mr' ∧ cf (fun j q => ¬ zZ D P j q) Mr Mr' := by
  obtain ⟨R, I, g1, g2, g3⟩ := id h
  have hg := I.1.1
  have hx : x < 48 := by omega
  have hy : y < 48 := by omega
  have hS : ∀ s, s < N → rSv N s y Mc Mr := fun s hs => live_sv R hs hN hy hDy hPy
  have hX : ∀ s, s < N → rSv N s x Mc Mr := fun s hs => live_sv R hs hN hx hDx hPx
  have n0 : Mr m_o 0 = nI N := by have := R.n0; rw [swp_r (zZ_n (by simp))] at this; exact this
  have hpr : Mr m_parent x = nI y := by have := (R.ct.2.2 x hx).1; rw [swp_r (zZ_n (by simp)), hpx] at this; exact this.symm
  -- the class
  obtain ⟨A1, q1, q2, q3⟩ := c_bringL (M := Mc) (x := x) (G := G) (J := fun M1 => rd M1 (2, 0, 0) 48 (nI x) (fun v2 => lt (M1 (13, 0, 0) 6) (fun v3 => o1 (f_X6_countAll N M1 v3 v2) (fun M5 => lt (M5 (13, 0, 0) 6) (fun v6 => o1 (f_X4_noteChange N M5 v6 v2) (fun M8 => some M8)))))) hN hx g1
  obtain ⟨A2, m1, m2, m3⟩ := c_grow (M := A1) (v := G) (o := y) hN hy
  obtain ⟨A3, k1, k2, k3⟩ := c_countL (M := A2) (v := G) (o := y) hN hy
  have q56 : ∀ (j : gI) q, ¬ (j.1 = 56 ∨ j.1 = 58) → A1 j q = Mc j q := fun j q hj => q2 _ _ (fun z => hj (eC_t z))
  have cO : ∀ (j : gI) q, ¬ (j.1 = 22 ∨ j.1 = 55 ∨ j.1 = 56 ∨ j.1 = 58) → A3 j q = Mc j q := fun j q hj => by
    rw [k2 _ _ (by omega), m2 _ _ (by omega), q56 _ _ (by omega)]
  have cE : ∀ (j : gI) q, (j.1 = 56 ∨ j.1 = 58) → A3 j q = A1 j q := fun j q hj => by rw [k2 _ _ (by omega), m2 _ _ (by omega)]
  have c56 : ∀ (j : gI) q, (j.1 = 56 ∨ j.1 = 58) → ¬ (j.2.1 < N ∧ bt G j.2.1 = true ∧ ((j.1 = 56 ∧ q = x) ∨ (j.1 = 58 ∧ j.2.2 = x))) → A3 j q = Mc j q := fun j q hj hh => by
    rw [cE _ _ hj]
    refine q2 _ _ (fun ⟨t, ht, hbt, z⟩ => ?_)
    rcases z with z | z
    · rw [z.1] at hh; exact hh ⟨ht, hbt, Or.inl ⟨rfl, z.2⟩⟩
    · rw [z] at hh; exact hh ⟨ht, hbt, Or.inr ⟨rfl, rfl⟩⟩
  have c55 : ∀ (j : gI) q, j.1 = 55 → ¬ (j.2.1 < N ∧ bt G j.2.1 = true ∧ j.2.2 = y) → A3 j q = Mc j q := fun j q hj hh => by
    have e45 : A2 j q = Mc j q := by rw [m2 _ _ (by omega), q56 _ _ (by omega)]
    by_cases hz : j.2.1 < N ∧ j.2.2 = y
    · have ej : j = (55, j.2.1, y) := by
        obtain ⟨j1, j2, j3⟩ := j
        dsimp only at hj hz ⊢
        rw [hj, hz.2]
      rw [ej] at e45 ⊢
      rw [k3 _ hz.1 q, if_neg (fun z => hh ⟨hz.1, z.1, hz.2⟩)]; exact e45
    · rw [k2 _ _ (by omega)]; exact e45
  have c22 : ∀ (j : gI) q, j.1 = 22 → q ≠ y → A3 j q = Mc j q := fun j q hj hq => by
    rw [k2 _ _ (by omega), m2 _ _ (by omega), q56 _ _ (by omega)]
  -- the reference
  obtain ⟨E1, u1, u2, u3⟩ := r_mark (M := Mr) (v := G) (o := y) hN hy n0
  obtain ⟨E2, w1, w2, w3, w4⟩ := r_againL (M := E1) (x := x) (y := y) (G := G) (J := fun M5 => lt (M5 m_o 53) (fun v6 => o1 (f_X11_endPromises M5 (nI y) v6 (-1 : Int32)) (fun M8 => some M8))) hN hx hy (by rw [u2 _ _ (by simp)]; exact n0) (by rw [u2 _ _ (by simp)]; exact g2)
  have rO : ∀ (j : gI) q, ¬ (j.1 = 14 ∨ j.1 = 19 ∨ j.1 = 20 ∨ j.1 = 21 ∨ (j.1 = 0 ∧ q = 55)) → E2 j q = Mr j q := fun j q hj => by
    rw [w2 _ _ (fun z => by have := aR_t z; omega), u2 _ _ (by omega)]
  have r14 : ∀ (j : gI) q, (j.1 = 14 ∨ j.1 = 19 ∨ j.1 = 20) → (∀ t, t < N → bt G t = true → ¬ ((j.1 = 19 ∧ q = 48 * t + x) ∨ (j.1 = 20 ∧ 8 * (48 * t + x) ≤ q ∧ q < 8 * (48 * t + x) + 8) ∨ (j.1 = 14 ∧ 8 * (48 * t + y) ≤ q ∧ q < 8 * (48 * t + y) + 8))) → E2 j q = Mr j q := fun j q hj hh => by
    rw [w2 _ _ (fun z => by
      rcases z with ⟨t, ht, hbt, z⟩ | z
      · refine hh t ht hbt ?_
        rcases z with z | z | z
        · rw [z.1]; exact Or.inl ⟨rfl, z.2⟩
        · rw [z.1]; exact Or.inr (Or.inl ⟨rfl, z.2⟩)
        · rw [z.1]; exact Or.inr (Or.inr ⟨rfl, z.2⟩)
      · rw [z.1] at hj; exact absurd hj (by decide)), u2 _ _ (by omega)]
  have r21 : ∀ (j : gI) q, j.1 = 21 → q % 48 ≠ y → E2 j q = Mr j q := fun j q hj hq => by
    rw [w2 _ _ (fun z => by have := aR_t z; omega), u2 _ _ (by omega)]
  have ne : ∀ s, ¬ bt G s = true → ∀ t, bt G t = true → t ≠ s := fun s hb t hbt e => hb (by rw [← e]; exact hbt)
  have hyA : ∀ s, s < N → rSv N s y A3 E2 := fun s hs => by
    have sv0 := hS s hs
    have e22 : A3 (22, s, 0) y = if bt G s = true then Mc (22, s, 0) y + 1 else Mc (22, s, 0) y := by rw [k2 _ _ (by simp), m3 s hs, q56 _ _ (by simp)]
    have e21 : E2 m_marks (48 * s + y) = if bt G s = true then Mr m_marks (48 * s + y) + 1 else Mr m_marks (48 * s + y) := by rw [w2 _ _ (fun z => by have := aR_t z; simp at this), u3 s hs]
    refine rSv_of ⟨?_, ?_, ?_, fun k hk => ?_⟩ (sv0.b.same (c56 _ _ (Or.inl rfl) (fun z => by have := z.2.2; dsimp only at this; omega)) (fun k hk => c56 _ _ (Or.inr rfl) (fun z => by have := z.2.2; dsimp only at this; omega)) (r14 _ _ (Or.inr (Or.inl rfl)) (fun t ht _ z => by dsimp only at z; omega)) (fun k hk => r14 _ _ (Or.inr (Or.inr rfl)) (fun t ht _ z => by dsimp only at z; omega))) ?_ (sv0.dd.fr hN (A := fun j q => ¬ A3 j q = Mc j q) (B := fun j q => ¬ E2 j q = Mr j q) (fun j q h => Classical.not_not.mp h) (fun j q h => Classical.not_not.mp h) (fun j q h z => z (cO _ _ (by omega))) (fun j q h z => z (rO _ _ (by omega))))
    · rw [cO _ _ (by simp), rO _ _ (by simp)]; exact sv0.1
    · rw [cO _ _ (by simp), rO m_has _ (by simp), rO m_isDirectory _ (by simp), rO m_value _ (by simp)]; exact sv0.a.2.1
    · rw [cO _ _ (by simp), rO m_has _ (by simp), rO m_isDirectory _ (by simp), rO m_size _ (by simp)]; exact sv0.a.2.2.1
    · rw [rO m_has _ (by simp)]
      by_cases hb : bt G s = true
      · have hh : ¬ Mr m_has (48 * s + y) = 0 := by rw [← sv0.1, hall s hs hb]; decide
        have sv55 := sv0.a.2.2.2 k hk
        rw [if_neg hh] at sv55 ⊢
        rw [(w4 s hs hb).2 k hk, k3 s hs k, u2 m_vector _ (by simp), m2 (55, s, y) k (by simp), q56 _ _ (by simp), sv55]
        by_cases hk2 : k < N ∧ bt G k = true
        · have z1 : A2 (22, k, 0) y = Mc (22, k, 0) y + 1 := by rw [m3 k hk2.1, if_pos hk2.2, q56 _ _ (by simp)]
          have z2 : E1 m_marks (48 * k + y) = Mr m_marks (48 * k + y) + 1 := by rw [u3 k hk2.1, if_pos hk2.2]
          rw [if_pos ⟨hb, hk2⟩, if_pos hk2, z1, z2, show Mc (22, k, 0) y = Mr m_marks (48 * k + y) from (hS k hk2.1).cc]
        · rw [if_neg (fun z => hk2 z.2), if_neg hk2]
      · rw [c55 _ _ rfl (fun z => hb z.2.1), r14 m_vector _ (Or.inl rfl) (fun t ht hbt z => by have := ne s hb t hbt; dsimp only at z; omega)]; exact sv0.a.2.2.2 k hk
    · unfold rC
      rw [e22, e21, show Mc (22, s, 0) y = Mr m_marks (48 * s + y) from sv0.cc]
  have hxA : ∀ s, s < N → rSv N s x A3 E2 := fun s hs => by
    have sv0 := hX s hs
    refine rSv_of (sv0.a.fr hN (A := fun j q => ¬ A3 j q = Mc j q) (B := fun j q => ¬ E2 j q = Mr j q) (fun j q h => Classical.not_not.mp h) (fun j q h => Classical.not_not.mp h) (fun j q hh z => z ?_) (fun j q hh z => z ?_)) ?_ ?_ (sv0.dd.fr hN (A := fun j q => ¬ A3 j q = Mc j q) (B := fun j q => ¬ E2 j q = Mr j q) (fun j q h => Classical.not_not.mp h) (fun j q h => Classical.not_not.mp h) (fun j q h z => z (cO _ _ (by omega))) (fun j q h z => z (rO _ _ (by omega))))
    · by_cases e : j.1 = 55
      · exact c55 _ _ e (fun z => by have := z.2.2; omega)
      · exact cO _ _ (by omega)
    · by_cases e : j.1 = 14
      · exact r14 _ _ (Or.inl e) (fun t ht hbt z => by omega)
      · exact rO _ _ (by omega)
    · by_cases hb : bt G s = true
      · refine ⟨by rw [cE _ _ (Or.inl rfl), (q3 s hs hb).1, (w4 s hs hb).1], fun k hk => ?_⟩
        rw [cE _ _ (Or.inr rfl), (q3 s hs hb).2 k hk, (w4 s hs hb).1]
        rfl
      · exact sv0.b.same (c56 _ _ (Or.inl rfl) (fun z => hb z.2.1)) (fun k hk => c56 _ _ (Or.inr rfl) (fun z => hb z.2.1)) (r14 _ _ (Or.inr (Or.inl rfl)) (fun t ht hbt z => by have := ne s hb t hbt; dsimp only at z; omega)) (fun k hk => r14 _ _ (Or.inr (Or.inr rfl)) (fun t ht hbt z => by have := ne s hb t hbt; dsimp only at z; omega))
    · have z := sv0.cc
      unfold rC at z ⊢
      rw [c22 _ _ rfl (by omega), r21 _ _ rfl (by omega)]; exact z
  have dz : cf (fun j q => ¬ zZ D P j q) Mr E2 := fun j q hz => by
    rcases Classical.not_not.mp hz with ⟨z, z1, z2⟩ | ⟨z, z1, z2⟩
    · rcases z with z | z | z <;> (rw [z]; exact rO _ _ (by simp))
    · rw [z]
      refine r14 _ _ (Or.inr (Or.inl rfl)) (fun t ht hbt hh => ?_)
      have : q % 48 = x := by dsimp only at hh; omega
      rw [this, hPx] at z2; exact absurd z2 (by decide)
  have RN : Rel N g A3 (swp N G D P E2) := set_rel (C := fun o => o = y ∨ o = x) hN R (fun o ho => by
      rcases ho with rfl | rfl
      · exact ⟨hDy, hPy⟩
      · exact ⟨hDx, hPx⟩) (fun o ho s hs => by
      rcases ho with rfl | rfl
      · exact hyA s hs
      · exact hxA s hs) (fun s hs o ho hnc j q hh => by
      rcases hh with ⟨a, b, c⟩ | ⟨a, b, c⟩ | ⟨a, b⟩
      · by_cases t56 : j.1 = 56
        · exact c56 _ _ (Or.inl t56) (fun z => by have := z.2.2; omega)
        · by_cases t22 : j.1 = 22
          · exact c22 _ _ t22 (by omega)
          · exact cO _ _ (by omega)
      · by_cases t55 : j.1 = 55
        · exact c55 _ _ t55 (fun z => by have := z.2.2; omega)
        · exact c56 _ _ (by omega) (fun z => by have := z.2.2; omega)
      · exact cO _ _ (by omega)) (fun s hs o ho hnc j q hh => by
      unfold lSv at hh
      by_cases t14 : j.1 = 14 ∨ j.1 = 19 ∨ j.1 = 20
      · exact r14 _ _ t14 (fun t ht hbt z => by omega)
      · by_cases t21 : j.1 = 21
        · exact r21 _ _ t21 (by omega)
        · exact rO _ _ (by omega)) (fun j q hn => by
      by_cases t55 : j.1 = 55
      · exact c55 _ _ t55 (fun z => hn (Or.inl (Or.inl ⟨by omega, by have := z.1; omega⟩)))
      · by_cases t56 : j.1 = 56 ∨ j.1 = 58
        · exact c56 _ _ t56 (fun z => hn (Or.inl (Or.inl ⟨by omega, by have := z.1; omega⟩)))
        · exact cO _ _ (by revert hn; unfold aSv csc; omega)) (fun j q hn => rO _ _ (fun hj => hn (by unfold bSv rsc; omega))) dz
  have IN : JInv N g A3 := ent_inv hN I (fun j q hn => by
      by_cases t56 : j.1 = 56
      · exact c56 _ _ (Or.inl t56) (fun z => hn (Or.inr ⟨t56, by have := z.1; omega⟩))
      · exact cO _ _ (by revert hn; unfold iFree csc; omega)) (fun s hs o ho => by
      by_cases e : bt G s = true ∧ o = x
      · rw [e.2, cE _ _ (Or.inl rfl)]
        exact Or.inr ⟨hst s hs e.1, (q3 s hs e.1).1⟩
      · exact Or.inl (c56 _ _ (Or.inl rfl) (fun z => e ⟨z.2.1, by
          rcases z.2.2 with z | z
          · exact z.2
          · exact absurd z.1 (by simp)⟩)))
  obtain ⟨A4, t1, t2, t3, t4, t5, t6⟩ := noteG hN hy hDy hGb RN IN (by rw [cO _ _ (by simp)]; exact g1)
  have dS : cf (fun j q => j.1 = 26) E2 (rEp E2 y G (-1 : Int32)) := fun j q h => if_neg (fun z => h (by rw [z.1]))
  have p53 : E2 m_o 53 = G := by rw [rO _ _ (by simp)]; exact g2
  refine ⟨A4, rEp E2 y G (-1 : Int32), ?_, ?_, ⟨t2, t3, t4, ?_, ?_⟩, fun s hs hb => ?_, ?_, ?_, ?_⟩
  · unfold f_X4_bringBack
    rw [jn_d]
    refine q1.trans ?_
    unfold f_X6_countAll
    rw [rd_n hx (by omega), q56 (2, 0, 0) x (by simp), hpx, lt_d, q56 (13, 0, 0) 6 (by simp), g1, m1, o1_s, k1, o1_s, lt_d, cO _ _ (by simp), g1, t1, o1_s]
  · unfold f_X11_again
    rw [rd_n hx (by omega), hpr, lt_d, g2, u1, o1_s, jn_d]
    refine w1.trans ?_
    rw [lt_d, p53, r_ends hy, o1_s]
  · rw [dS _ _ (by simp)]; exact p53
  · rw [t5, cO _ _ (by simp), g3, dS _ _ (by simp), w3, u2 _ _ (by simp), Int32.add_assoc, Int32.add_comm pd, ← Int32.add_assoc]
  · rw [t6 _ _ (by simp), cE _ _ (Or.inl rfl)]; exact (q3 s hs hb).1
  · intro j q hn
    rw [t6 _ _ (fun z => hn (by
      rcases z with z | z
      · exact Or.inr (Or.inl z)
      · exact Or.inr (Or.inr (Or.inl z))))]
    by_cases t55 : j.1 = 55
    · exact c55 _ _ t55 (fun z => hn (Or.inr (Or.inr (Or.inr ⟨by have := z.1; omega, Or.inl ⟨t55, z.2.2⟩⟩))))
    · by_cases t56 : j.1 = 56 ∨ j.1 = 58
      · exact c56 _ _ t56 (fun z => hn (Or.inr (Or.inr (Or.inr ⟨by have := z.1; omega, Or.inr z.2.2⟩))))
      · by_cases t22 : j.1 = 22
        · exact c22 _ _ t22 (fun z => hn (Or.inl ⟨t22, z⟩))
        · exact cO _ _ (by omega)
  · intro j q hn
    rw [dS _ _ (fun z => hn (by unfold bR; omega))]
    exact rO _ _ (fun hj => hn (by unfold bR; omega))
  · refine dz.tr (fun j q h => ?_)
    unfold rEp
    rw [if_neg (fun z => h (fun hz => by
      rcases hz with hz | hz
      · rw [z.2.2.1, hDy] at hz; exact absurd hz.2.2 (by decide)
      · rw [z.1] at hz; exact absurd hz.1 (by decide)))]
end ZV
