/-! layer 2: what holds while a directory's inside is dropped -/
def iSw (g s o : Nat) (M : gM) : Prop := (M (51, s, 0) o = 0 ∨ M (51, s, 0) o = 1) ∧ (M (56, s, 0) o = 0 ∨ M (56, s, 0) o = 1 ∨ M (56, s, 0) o = 2) ∧ (M (51, s, 0) o = 1 → o ≤ g) ∧ (¬ M (56, s, 0) o = 0 → 1 ≤ o ∧ o ≤ g) ∧ ∀ p, p < 48 → 1 ≤ o → M (2, 0, 0) o = nI p → ¬ M (56, s, 0) o = 0 → M (51, s, 0) p = 1
def JW (N g : Nat) (M : gM) : Prop := iCat g M ∧ (∀ s, s < N → M (20, s, 0) 3 = 0 ∨ M (20, s, 0) 3 = 1) ∧ (∀ s, s < N → ∀ o, o < 48 → iSw g s o M) ∧ (∀ s, s < N → ∀ o, o < 48 → iVr s o M) ∧ (∀ c, c < 4 → ∀ o, o < 48 → iKl N g c o M) ∧ ∀ c, c < 4 → iWt M c
section ZYC
variable {N g B s o c d x y z T n m t l i j a b p k : Nat} {A E M M1 M' X Mc Mr Mc' Mr' : gM} {row a3 : gI} {D P : Nat → Bool} {G H pd v w nr a1 a2 a4 a5 : Int32} {f r : Nat → Int32} {zz : lS} {par : Nat → Nat} {F : gI → Nat → Prop}
theorem JInv.weak (I : JInv N g M) : JW N g M := ⟨I.1, I.2.1, fun s hs o ho => by
  obtain ⟨i1, i2, i3, i4, i5⟩ := I.2.2.1 s hs o ho
  exact ⟨i1, i2, i3, i4, fun p hp o1 e z => (i5 p hp o1 e).2 z⟩, I.2.2.2.1, I.2.2.2.2.1, I.2.2.2.2.2⟩
theorem iSw.fr (ho : o < 48) (hc : cf F M M') (h1 : ∀ j q, eSv s o j q → ¬ F j q) (h : iSw g s o M) : iSw g s o M' := by
  have e1 : ∀ q, q < 48 → M' (51, s, 0) q = M (51, s, 0) q := fun q hq => hc _ _ (h1 _ _ (Or.inl ⟨rfl, rfl, hq⟩))
  have e2 : M' (56, s, 0) o = M (56, s, 0) o := hc _ _ (h1 _ _ (Or.inr (Or.inl ⟨rfl, rfl, rfl⟩)))
  have e3 : M' (2, 0, 0) o = M (2, 0, 0) o := hc _ _ (h1 _ _ (Or.inr (Or.inr ⟨rfl, rfl⟩)))
  unfold iSw at h ⊢
  rw [e1 o ho, e2, e3]
  obtain ⟨a, b, c, d, f⟩ := h
  refine ⟨a, b, c, d, fun p hp h1 h2 => ?_⟩
  rw [e1 p hp]
  exact f p hp h1 h2
theorem weak_sdrop (hN : N ≤ 4) (hs : s < N) (hx : x < 48) (I : JW N g M) : JW N g (cSd N g M s x) := by
  have hg := I.1.1
  have fc := cSd_fr (N := N) (g := g) (s := s) (x := x) (M := M)
  have e2 : ∀ p, cSd N g M s x (2, 0, 0) p = M (2, 0, 0) p := fun p => fc _ _ (by dsimp only; omega)
  obtain ⟨cat, lo, sv, vr, kl, w⟩ := I
  refine ⟨cat.fr fc ?_, fun s' hs' => ?_, fun s' hs' p hp => ?_, fun s' hs' p hp => ?_, fun c h p hp => (kl c h p hp).fr hN fc ?_, fun c h => (w c h).fr fc ?_⟩
  · intro j q; unfold eCat; omega
  · rw [fc _ _ (by dsimp only; omega)]; exact lo s' hs'
  · by_cases es : s' = s
    · subst es
      obtain ⟨i1, i2, i3, i4, i5⟩ := sv s' hs' p hp
      unfold iSw
      rw [cSd_h 51 p (by omega), cSd_56, e2]
      refine ⟨?_, ?_, fun y => ?_, fun y => ?_, fun q hq p1 e y => ?_⟩
      · by_cases ep : p = x
        · rw [if_pos ep]; exact Or.inl rfl
        · rw [if_neg ep]; exact i1
      · split
        · exact Or.inl rfl
        · exact i2
      · by_cases ep : p = x
        · rw [if_pos ep] at y; exact absurd y (by decide)
        · rw [if_neg ep] at y; exact i3 y
      · split at y
        · exact absurd rfl y
        · exact i4 y
      · split at y
        · exact absurd rfl y
        · rename_i hn
          have k1 := i5 q hq p1 e y
          have hqx : q ≠ x := fun z => hn (by
            have hpg := (i4 y).2
            refine ⟨?_, by omega, by rw [e, z]⟩
            have := kid_gt cat p1 hpg (by omega) e
            omega)
          rw [cSd_h 51 q (by omega), if_neg hqx]
          exact k1
    · refine (sv s' hs' p hp).fr hp fc ?_
      intro j q; unfold eSv; omega
  · by_cases e : s' = s ∧ p = x
    · obtain ⟨rfl, rfl⟩ := e
      exact ⟨⟨0, by omega, by rw [cSd_h 53 p (by omega), if_pos rfl]; rfl⟩, 0, by omega, cSd_60, fun h => absurd rfl h, fun i hi => absurd hi (by omega)⟩
    · by_cases es : s' = s
      · subst es
        have ep : p ≠ x := fun z => e ⟨rfl, z⟩
        have i0 := vr s' hs' p hp
        unfold iVr at i0 ⊢
        rw [cSd_h 51 p (by omega), cSd_h 52 p (by omega), cSd_h 53 p (by omega), if_neg ep, if_neg ep, if_neg ep, fc (60, 48 * s' + p, 0) 3 (by dsimp only; omega), fc (61, 48 * s' + p, 0) 0 (by dsimp only; omega), fc (4, 0, 0) p (by dsimp only; omega)]
        simp only [fun i => fc (62, 48 * s' + p, 0) i (by dsimp only; omega)]
        exact i0
      · refine (vr s' hs' p hp).fr fc ?_
        intro j q; unfold eVr; omega
  · intro j q; unfold eKl; omega
  · intro j q; unfold eWt; omega
theorem pr_andW (hN : N ≤ 4) (hd : d < 4) (ho : o < 48) (R : Rel N g Mc Mr) (I : JW N g Mc) : Rel N g (gset Mc (32, d, 0) o (Mc (32, d, 0) o &&& w)) (gset Mr m_promised (48 * d + o) (Mr m_promised (48 * d + o) &&& w)) ∧ JW N g (gset Mc (32, d, 0) o (Mc (32, d, 0) o &&& w)) := by
  rw [← (R.kl hd ho).2.2.2.2.2.2.1]
  obtain ⟨w', hw'⟩ : ∃ q, q = Mc (32, d, 0) o &&& w := ⟨_, rfl⟩
  obtain ⟨-, -, -, -, -, j6, j7, -⟩ := I.2.2.2.2.1 d hd o ho
  have h1 : w' &&& cNr N Mc d = w' := by rw [hw']; exact and_sub j7
  have h2 : Mc (51, 4 + d, 0) o = 0 → w' = 0 := fun z => by rw [hw', (j6 z).1, Int32.zero_and]
  rw [← hw']
  have hc : cf (fun j q => j = (32, d, 0) ∧ q = o) Mc (gset Mc (32, d, 0) o w') := cf.st ⟨rfl, rfl⟩
  have hr : cf (fun j q => j = m_promised ∧ q = 48 * d + o) Mr (gset Mr m_promised (48 * d + o) w') := cf.st ⟨rfl, rfl⟩
  have vc : gset Mc (32, d, 0) o w' (32, d, 0) o = w' := by rw [gset_r, if_pos ⟨rfl, rfl⟩]
  have vr : gset Mr m_promised (48 * d + o) w' m_promised (48 * d + o) = w' := by rw [gset_r, if_pos ⟨rfl, rfl⟩]
  constructor
  · refine R.kmix hN hd ho (hc.mo ?_) (hr.mo ?_) ?_
    · rintro j q ⟨rfl, rfl⟩; unfold kKl; dsimp only; omega
    · rintro j q ⟨rfl, rfl⟩; unfold lKl; dsimp only; omega
    · obtain ⟨f1, f2, f3, f4, f5, f6, f7, f8⟩ := R.kl hd ho
      have e : ∀ (j : gI) q, j.1 ≠ 32 → gset Mc (32, d, 0) o w' j q = Mc j q := fun j q h => hc _ _ (fun z => h (by rw [z.1]))
      have e' : ∀ (j : gI) q, j.1 ≠ 26 → gset Mr m_promised (48 * d + o) w' j q = Mr j q := fun j q h => hr _ _ (fun z => h (by rw [z.1]))
      refine ⟨?_, ?_, ?_, fun k hk => ?_, ?_, ?_, ?_, ?_⟩
      · rw [e _ _ (by simp), e' _ _ (by simp)]; exact f1
      · rw [e _ _ (by simp), e' _ _ (by simp), e' _ _ (by simp), e' _ _ (by simp)]; exact f2
      · rw [e _ _ (by simp), e' _ _ (by simp), e' _ _ (by simp), e' _ _ (by simp)]; exact f3
      · rw [e _ _ (by simp), e' _ _ (by simp), e' _ _ (by simp)]; exact f4 k hk
      · rw [e _ _ (by simp), e' _ _ (by simp)]; exact f5
      · rw [e _ _ (by simp), e' _ _ (by simp)]; exact f6
      · rw [vc, vr]
      · rw [e _ _ (by simp), e' _ _ (by simp)]; exact f8
  · obtain ⟨cat, lo, sv, vr', kl, wt'⟩ := I
    have nr : ∀ c, cNr N (gset Mc (32, d, 0) o w') c = cNr N Mc c := fun c => cNr.fr hN hc (fun z => absurd z.1 (by simp)) (fun q _ z => absurd z.1 (by simp))
    have hc' : cf (fun j q => j.1 = 32) Mc (gset Mc (32, d, 0) o w') := cf.st rfl
    refine ⟨cat.fr hc' (by intro j q; unfold eCat; omega), fun s hs => by rw [hc' _ _ (by simp)]; exact lo s hs, fun s hs p hp => (sv s hs p hp).fr hp hc' (by intro j q; unfold eSv; omega), fun s hs p hp => (vr' s hs p hp).fr hc' (by intro j q; unfold eVr; omega), fun c' h' o' ho' => ?_, fun c h => (wt' c h).fr hc' (by intro j q; unfold eWt; omega)⟩
    by_cases e : c' = d ∧ o' = o
    · obtain ⟨rfl, rfl⟩ := e
      have i0 := kl c' h' o' ho'
      unfold iKl at i0 ⊢
      have e : ∀ (j : gI) q, j.1 ≠ 32 → gset Mc (32, c', 0) o' w' j q = Mc j q := fun j q h => hc _ _ (fun z => h (by rw [z.1]))
      rw [nr, vc, e (51, 4 + c', 0) o' (by simp), e (33, c', 0) o' (by simp), e (56, 4 + c', 0) o' (by simp), e (53, 4 + c', 0) o' (by simp), e (31, c', 0) o' (by simp)]
      obtain ⟨i1, i2, i3, i4, i5, i6, -, i8, i9⟩ := i0
      exact ⟨i1, i2, i3, i4, i5, fun z => ⟨h2 z, (i6 z).2⟩, h1, i8, i9⟩
    · refine (kl c' h' o' ho').fr hN hc ?_
      rintro j q h ⟨rfl, rfl⟩
      revert h; unfold eKl; dsimp only; omega
theorem ends_stepW (hN : N ≤ 4) (ho : o < 48) (R : Rel N g Mc Mr) (I : JW N g Mc) : ∃ Mc', f_X6_endPromises N Mc v (nI o) = some Mc' ∧ Rel N g Mc' (rEp Mr o v (-1 : Int32)) ∧ JW N g Mc' ∧ cf (fun j q => j.1 = 32 ∧ q = o) Mc Mc' := by
  obtain ⟨Mc', Mr', h1, h2, h3, h4, h5⟩ := loop2 (fun n k M => f_X6_endPromises_L2 N v (nI o) n (nI k) M) (fun n k M => f_X11_endPromises_L3 (nI o) v (-1 : Int32) n (nI k) M) 4 some some (fun _ M1 M2 => Rel N g M1 M2 ∧ JW N g M1 ∧ cf (fun j q => j.1 = 32 ∧ q = o) Mc M1) (by decide) (fun n n' k M1 M2 hk ⟨r, i, c1⟩ => by
    refine ⟨_, _, ?_, ?_, (pr_andW (w := v ^^^ (-1 : Int32)) hN hk ho r i).1, (pr_andW (w := v ^^^ (-1 : Int32)) hN hk ho r i).2, c1.tr (cf.st ⟨rfl, rfl⟩)⟩
    · simp only [f_X6_endPromises_L2, lt_d]
      rw [if_neg (nI_ge hk (by omega)), ix_n hk (by omega), rd_n ho (by omega), wr_n ho (by omega), nI_1]
    · simp only [f_X11_endPromises_L3, lt_d, jn_d, nI_m48, nI_add]
      rw [if_neg (ge_4 hk), if_neg (by rw [nI_m1 (by omega)]; exact id), rd_n (by omega) (by omega), wr_n (by omega) (by omega), nI_1]) (fun n M1 M2 _ => by
    simp only [f_X6_endPromises_L2]
    rw [if_pos (nI_le (by omega) (by omega))]) (fun n M1 M2 _ => by
    simp only [f_X11_endPromises_L3]
    rw [if_pos (lf_4 (by omega))]) (st := Mc) (st' := Mr) ⟨R, I, cf.rf _ _⟩
  have h2 : f_X11_endPromises Mr (nI o) v (-1 : Int32) = some Mr' := h2
  rw [r_ends ho] at h2
  have e := Option.some.inj h2
  subst e
  exact ⟨Mc', h1, h3, h4, h5⟩
end ZYC
