/-! layer 2: a new object: the catalog, servers, caches -/
def cEn (M : gM) (g o : Nat) (a3 a4 : Int32) : gM := gset (gset (gset (gset M (1, 0, 0) 3 (nI (g + 1))) (2, 0, 0) (g + 1) (nI o)) (3, 0, 0) (g + 1) a3) (4, 0, 0) (g + 1) a4
def rEn (M : gM) (g o : Nat) (a3 a4 : Int32) : gM := gset (gset (gset (gset M m_o 6 (nI (g + 2))) m_parent (g + 1) (nI o)) m_name (g + 1) a3) m_isDirectory (g + 1) a4
def cCr (N : Nat) (M : gM) (t x : Nat) : gM := gpu (gset (gset (gset M (51, t, 0) x 1) (52, t, 0) x 0) (53, t, 0) x 0) (55, t, x) 0 (N + 4) (fun _ => 0)
def cTh (N : Nat) (M : gM) (t x : Nat) : gM := gpu (gset M (56, t, 0) x 1) (58, t, x) 0 (N + 4) (fun _ => 0)
section EN
variable {N g B s o c d x z T n t : Nat} {M M' Mc Mr Mc' Mr' : gM} {v w a1 a2 a3 a4 : Int32}
theorem c_isFull0 (h1 : M (1, 0, 0) 3 = nI g) (hg : g ≤ 47) : f_X0_isFull N M = some (if g < 47 then 0 else 1) := by
  unfold f_X0_isFull
  rw [lt_d, h1]
  by_cases e : g < 47
  · rw [if_pos e, if_pos (show nI g < (47 : Int32) from (show nI g < nI 47 from nI_lt e (by omega)))]
  · rw [if_neg e, if_neg (show ¬ nI g < (47 : Int32) from (show ¬ nI g < nI 47 from nI_nlt (by omega) (by omega)))]
theorem c_enter (h1 : M (1, 0, 0) 3 = nI g) (hg : g < 47) (h4 : a4 = 0 ∨ a4 = 1) : f_X0_enter N M (nI o) a3 a4 = some (nI (g + 1), cEn M g o a3 a4) := by
  have e : ∀ (M : gM) (i : gI) k v, i ≠ (1, 0, 0) → gset M i k v (1, 0, 0) 3 = M (1, 0, 0) 3 := fun M i k v h => by rw [gset_r, if_neg (fun z => h z.1.symm)]
  have e1 : ∀ (M : gM) v, gset M (1, 0, 0) 3 v (1, 0, 0) 3 = v := fun M v => by rw [gset_r, if_pos ⟨rfl, rfl⟩]
  unfold f_X0_enter cEn
  rw [c_isFull0 h1 (by omega), if_pos hg, o1_s, if_pos rfl]
  simp only [lt_d]
  rw [h1, nI_1, e1, wr_n (by omega) (by omega), e _ _ _ _ (by decide), e1, wr_n (by omega) (by omega), e _ _ _ _ (by decide), e _ _ _ _ (by decide), e1, wz_n (by omega) (by omega) h4, e _ _ _ _ (by decide), e _ _ _ _ (by decide), e _ _ _ _ (by decide), e1]
theorem r_newObject (h1 : M m_o 6 = nI (g + 1)) (hg : g < 47) (h4 : a4 = 0 ∨ a4 = 1) : f_X11_newObject M (nI o) a3 a4 = some (nI (g + 1), rEn M g o a3 a4) := by
  unfold f_X11_newObject rEn
  simp only [lt_d]
  rw [h1, nI_1, wr_n (by omega) (by omega), wr_n (by omega) (by omega), wz_n (by omega) (by omega) h4]
theorem cEn_fr : cf (fun j q => (j.1 = 1 ∧ q = 3) ∨ ((j.1 = 2 ∨ j.1 = 3 ∨ j.1 = 4) ∧ q = g + 1)) M (cEn M g o a3 a4) := by
  unfold cEn
  exact (((cf.st (by simp)).tr (cf.st (by simp))).tr (cf.st (by simp))).tr (cf.st (by simp))
theorem rEn_fr : cf (fun j q => (j.1 = 0 ∧ q = 6) ∨ ((j.1 = 8 ∨ j.1 = 9 ∨ j.1 = 10) ∧ q = g + 1)) M (rEn M g o a3 a4) := by
  unfold rEn
  exact (((cf.st (by simp)).tr (cf.st (by simp))).tr (cf.st (by simp))).tr (cf.st (by simp))
theorem cEn_v : cEn M g o a3 a4 (1, 0, 0) 3 = nI (g + 1) ∧ cEn M g o a3 a4 (2, 0, 0) (g + 1) = nI o ∧ cEn M g o a3 a4 (3, 0, 0) (g + 1) = a3 ∧ cEn M g o a3 a4 (4, 0, 0) (g + 1) = a4 := by
  unfold cEn
  simp [gset_r]
theorem rEn_v : rEn M g o a3 a4 m_o 6 = nI (g + 2) ∧ rEn M g o a3 a4 m_parent (g + 1) = nI o ∧ rEn M g o a3 a4 m_name (g + 1) = a3 ∧ rEn M g o a3 a4 m_isDirectory (g + 1) = a4 := by
  unfold rEn
  simp [gset_r]
theorem enter_rel (hN : N ≤ 4) (hg : g < 47) (R : Rel N g Mc Mr) (I : Inv N g Mc) : Rel N (g + 1) (cEn Mc g o a3 a4) (rEn Mr g o a3 a4) := by
  have hc := cEn_fr (M := Mc) (g := g) (o := o) (a3 := a3) (a4 := a4)
  have hr := rEn_fr (M := Mr) (g := g) (o := o) (a3 := a3) (a4 := a4)
  obtain ⟨v1, v2, v3, v4⟩ := cEn_v (M := Mc) (g := g) (o := o) (a3 := a3) (a4 := a4)
  obtain ⟨u1, u2, u3, u4⟩ := rEn_v (M := Mr) (g := g) (o := o) (a3 := a3) (a4 := a4)
  obtain ⟨co, cat, net, lo, sv, kl, lg, tl⟩ := R
  refine ⟨co.fr hc hr ?_ ?_, ⟨v1, u1, fun p hp => ?_⟩, net.fr hN hc hr ?_ ?_, lo.fr hc hr ?_ ?_, fun s hs p hp => ?_, fun c h p hp => ?_, fun c h => (lg c h).fr hN hc hr ?_ ?_, tl.fr hc hr ?_ ?_⟩
  · intro j q; unfold kCo; omega
  · intro j q; unfold lCo; omega
  · by_cases e : p = g + 1
    · subst e; rw [v2, v3, v4, u2, u3, u4]; exact ⟨rfl, rfl, rfl⟩
    · rw [hc (2, 0, 0) p (by dsimp only; omega), hc (3, 0, 0) p (by dsimp only; omega), hc (4, 0, 0) p (by dsimp only; omega), hr m_parent p (by dsimp only; omega), hr m_name p (by dsimp only; omega), hr m_isDirectory p (by dsimp only; omega)]; exact cat.2.2 p hp
  · intro j q; unfold kNet; omega
  · intro j q; unfold lNet; omega
  · intro s; dsimp only; omega
  · intro s; dsimp only; omega
  · by_cases e : p = g + 1
    · subst e
      obtain ⟨f1, f2, f3, f4, f5, f6, f7, f8, f9⟩ := sv s hs (g + 1) hp
      have h0 : Mc (51, s, 0) (g + 1) = 0 := by
        rcases (I.2.2.1 s hs (g + 1) hp).1 with y | y
        · exact y
        · have := (I.2.2.1 s hs (g + 1) hp).2.2.1 y; omega
      have h0' : Mr m_has (48 * s + (g + 1)) = 0 := by rw [← f1]; exact h0
      have ec : ∀ (j : gI) q, 20 ≤ j.1 → cEn Mc g o a3 a4 j q = Mc j q := fun j q h => hc _ _ (by omega)
      have er : ∀ (j : gI) q, 11 ≤ j.1 → rEn Mr g o a3 a4 j q = Mr j q := fun j q h => hr _ _ (by omega)
      refine ⟨?_, ?_, ?_, fun k hk => ?_, ?_, fun k hk => ?_, ?_, ?_, fun i hi hl => ?_⟩
      · rw [ec _ _ (by simp), er _ _ (by simp)]; exact f1
      · rw [ec _ _ (by simp), er m_has _ (by simp), if_pos (Or.inl h0'), f2, if_pos (Or.inl h0')]
      · rw [ec _ _ (by simp), er m_has _ (by simp), if_pos (Or.inl h0'), f3, if_pos (Or.inl h0')]
      · rw [ec _ _ (by simp), er m_has _ (by simp), if_pos h0', f4 k hk, if_pos h0']
      · rw [ec _ _ (by simp), er _ _ (by simp)]; exact f5
      · rw [ec _ _ (by simp), er _ _ (by simp), er _ _ (by simp)]; exact f6 k hk
      · rw [ec _ _ (by simp), er _ _ (by simp)]; exact f7
      · rw [ec _ _ (by simp), er _ _ (by simp)]; exact f8
      · rw [er _ _ (by simp)] at hl
        obtain ⟨z1, z2, z3⟩ := f9 i hi hl
        exact ⟨by rw [ec _ _ (by simp), er _ _ (by simp)]; exact z1, by rw [ec _ _ (by simp), er _ _ (by simp)]; exact z2, fun k hk => by rw [ec _ _ (by simp), er _ _ (by simp)]; exact z3 k hk⟩
    · refine (sv s hs p hp).fr hN hc hr ?_ ?_
      · intro j q; unfold kSv; omega
      · intro j q; unfold lSv; omega
  · by_cases e : p = g + 1
    · subst e
      obtain ⟨f1, f2, f3, f4, f5, f6, f7, f8⟩ := kl c h (g + 1) hp
      have h0 : Mc (51, 4 + c, 0) (g + 1) = 0 := by
        rcases (I.2.2.2.2.1 c h (g + 1) hp).1 with y | y
        · exact y
        · have := (I.2.2.2.2.1 c h (g + 1) hp).2.2.2.1 y; omega
      have h0' : Mr m_kept (48 * c + (g + 1)) = 0 := by rw [← f1]; exact h0
      have ec : ∀ (j : gI) q, 20 ≤ j.1 → cEn Mc g o a3 a4 j q = Mc j q := fun j q h => hc _ _ (by omega)
      have er : ∀ (j : gI) q, 11 ≤ j.1 → rEn Mr g o a3 a4 j q = Mr j q := fun j q h => hr _ _ (by omega)
      refine ⟨?_, ?_, ?_, fun k hk => ?_, ?_, ?_, ?_, ?_⟩
      · rw [ec _ _ (by simp), er _ _ (by simp)]; exact f1
      · rw [ec _ _ (by simp), er m_kept _ (by simp), if_pos (Or.inl h0'), f2, if_pos (Or.inl h0')]
      · rw [ec _ _ (by simp), er m_kept _ (by simp), if_pos (Or.inl h0'), f3, if_pos (Or.inl h0')]
      · rw [ec _ _ (by simp), er m_kept _ (by simp), if_pos h0', f4 k hk, if_pos h0']
      · rw [ec _ _ (by simp), er _ _ (by simp)]; exact f5
      · rw [ec _ _ (by simp), er _ _ (by simp)]; exact f6
      · rw [ec _ _ (by simp), er _ _ (by simp)]; exact f7
      · rw [ec _ _ (by simp), er _ _ (by simp)]; exact f8
    · refine (kl c h p hp).fr hN hc hr ?_ ?_
      · intro j q; unfold kKl; omega
      · intro j q; unfold lKl; omega
  · intro j q; unfold kLg; omega
  · intro j q; unfold lLg; omega
  · intro j q; unfold kTl; omega
  · intro j q; unfold lTl; omega
theorem new_un (I : Inv N g M) (hg : g < 47) : (∀ s, s < N → M (51, s, 0) (g + 1) = 0 ∧ M (56, s, 0) (g + 1) = 0) ∧ ∀ c, c < 4 → M (51, 4 + c, 0) (g + 1) = 0 ∧ M (56, 4 + c, 0) (g + 1) = 0 := by
  refine ⟨fun s hs => ⟨?_, ?_⟩, fun c h => ⟨?_, ?_⟩⟩
  · rcases (I.2.2.1 s hs (g + 1) (by omega)).1 with y | y
    · exact y
    · have := (I.2.2.1 s hs (g + 1) (by omega)).2.2.1 y; omega
  · by_cases e : M (56, s, 0) (g + 1) = 0
    · exact e
    · have := (I.2.2.1 s hs (g + 1) (by omega)).2.2.2.1 e; omega
  · rcases (I.2.2.2.2.1 c h (g + 1) (by omega)).1 with y | y
    · exact y
    · have := (I.2.2.2.2.1 c h (g + 1) (by omega)).2.2.2.1 y; omega
  · by_cases e : M (56, 4 + c, 0) (g + 1) = 0
    · exact e
    · have := (I.2.2.2.2.1 c h (g + 1) (by omega)).2.2.2.2.1 e; omega
theorem enter_inv (hN : N ≤ 4) (hg : g < 47) (hog : o ≤ g) (hd : M (4, 0, 0) o = 1) (h4 : a4 = 0 ∨ a4 = 1) (I : Inv N g M) : Inv N (g + 1) (cEn M g o a3 a4) := by
  have hc := cEn_fr (M := M) (g := g) (o := o) (a3 := a3) (a4 := a4)
  obtain ⟨v1, v2, v3, v4⟩ := cEn_v (M := M) (g := g) (o := o) (a3 := a3) (a4 := a4)
  obtain ⟨un1, un2⟩ := new_un I hg
  obtain ⟨cat, lo, sv, vr, kl, w, lg, mk⟩ := I
  have ec : ∀ (j : gI) q, 20 ≤ j.1 → cEn M g o a3 a4 j q = M j q := fun j q h => hc _ _ (by omega)
  have e2 : ∀ p, p ≠ g + 1 → cEn M g o a3 a4 (2, 0, 0) p = M (2, 0, 0) p := fun p h => hc _ _ (by dsimp only; omega)
  have e4 : ∀ p, p ≠ g + 1 → cEn M g o a3 a4 (4, 0, 0) p = M (4, 0, 0) p := fun p h => hc _ _ (by dsimp only; omega)
  have nr : ∀ c, cNr N (cEn M g o a3 a4) c = cNr N M c := fun c => cNr.fr hN hc (by dsimp only; omega) (fun q _ => by dsimp only; omega)
  refine ⟨⟨by omega, ?_, fun p hp => ?_, fun p p1 p2 => ?_⟩, fun s hs => ?_, fun s hs p hp => ?_, fun s hs p hp => ?_, fun c h p hp => ?_, fun c h => ?_, fun c h => ?_, mk.fr hc (fun t c q h1 h2 => by dsimp only; omega)⟩
  · rw [e4 0 (by omega)]; exact cat.2.1
  · by_cases e : p = g + 1
    · subst e; rw [v4]; exact h4
    · rw [e4 p e]; exact cat.2.2.1 p hp
  · by_cases e : p = g + 1
    · subst e
      exact ⟨o, by omega, v2, by rw [e4 o (by omega)]; exact hd⟩
    · obtain ⟨q, q1, q2, q3⟩ := cat.2.2.2 p p1 (by omega)
      exact ⟨q, q1, by rw [e2 p e]; exact q2, by rw [e4 q (by omega)]; exact q3⟩
  · rw [ec _ _ (by simp)]; exact lo s hs
  · obtain ⟨i1, i2, i3, i4, i5⟩ := sv s hs p hp
    unfold iSv
    simp only [ec (51, s, 0) _ (by simp), ec (56, s, 0) _ (by simp)]
    refine ⟨i1, i2, fun y => by have := i3 y; omega, fun y => by have := i4 y; omega, fun q hq p1 e => ?_⟩
    by_cases ep : p = g + 1
    · subst ep
      exact ⟨fun y => absurd y (by rw [(un1 s hs).1]; decide), fun y => absurd (un1 s hs).2 y⟩
    · rw [e2 p ep] at e
      exact i5 q hq p1 e
  · obtain ⟨i1, n, i2, i3, i4, i5⟩ := vr s hs p hp
    unfold iVr
    simp only [ec (53, s, 0) _ (by simp), ec (60, 48 * s + p, 0) _ (by simp), ec (51, s, 0) _ (by simp), ec (52, s, 0) _ (by simp), ec (61, 48 * s + p, 0) _ (by simp), ec (62, 48 * s + p, 0) _ (by simp)]
    refine ⟨i1, n, i2, i3, fun hn => ?_, i5⟩
    obtain ⟨q1, q2, q3⟩ := i4 hn
    refine ⟨q1, ?_, q3⟩
    by_cases ep : p = g + 1
    · subst ep; exact absurd q1 (by rw [(un1 s hs).1]; decide)
    · rw [e4 p ep]; exact q2
  · have i0 := kl c h p hp
    unfold iKl at i0 ⊢
    rw [nr, ec _ _ (by simp), ec _ _ (by simp), ec _ _ (by simp), ec _ _ (by simp), ec _ _ (by simp), ec _ _ (by simp)]
    obtain ⟨i1, i2, i3, i4, i5, i6⟩ := i0
    exact ⟨i1, i2, i3, fun y => by have := i4 y; omega, fun y => by have := i5 y; omega, i6⟩
  · have hw := w c h
    unfold iWt at hw ⊢
    rw [wsum_congr (f' := wt M c) 48 (fun k hk => ?_)]
    · exact hw
    · unfold wt
      rw [ec (51, 4 + c, 0) k (by simp), ec (53, 4 + c, 0) k (by simp)]
      by_cases e : k = g + 1
      · subst e; rw [if_pos (un2 c h).1, if_pos (un2 c h).1]
      · rw [e4 k e]
  · obtain ⟨n, a, b, d, f, k⟩ := lg c h
    refine ⟨n, a, by rw [ec _ _ (by simp)]; exact b, fun h0 o ho => by rw [ec _ _ (by simp)]; exact d h0 o ho, fun i hi => ?_, fun i j hi hj x1 x2 x3 => ?_⟩
    · obtain ⟨ob, o1, o2, o3, o4⟩ := f i hi
      refine ⟨ob, o1, by omega, by rw [ec _ _ (by simp)]; exact o3, ?_⟩
      simp only [ec (41, c, 0) _ (by simp), ec (43, c, 0) _ (by simp), ec (51, 4 + c, 0) _ (by simp), ec (33, c, 0) _ (by simp), e4 ob (by omega), e2 ob (by omega), fun s => ec (51, s, 0) ob (by simp), fun s => ec (56, s, 0) ob (by simp)]
      exact o4
    · rw [ec _ _ (by simp)] at x1 x2
      rw [ec _ _ (by simp), ec _ _ (by simp)] at x3
      exact k i j hi hj x1 x2 x3
theorem enter_ci (hN : N ≤ 4) (hg : g < 47) (hog : o ≤ g) (hd : Mc (4, 0, 0) o = 1) (h4 : a4 = 0 ∨ a4 = 1) (h : CI N g B c x Mc Mr) : CI N (g + 1) B c x (cEn Mc g o a3 a4) (rEn Mr g o a3 a4) := by
  have hc := cEn_fr (M := Mc) (g := g) (o := o) (a3 := a3) (a4 := a4)
  have hr := rEn_fr (M := Mr) (g := g) (o := o) (a3 := a3) (a4 := a4)
  obtain ⟨R, I, U, O, W⟩ := h
  refine ⟨enter_rel hN hg R I, enter_inv hN hg hog hd h4 I, U.fr hc hr ?_ ?_ ?_ ?_ ?_ ?_, O.fr hc hr ?_ ?_ ?_, W.fr hc hr ?_ ?_ ?_ ?_ ?_ (fun q _ _ e => ?_)⟩
  · intro c q; dsimp only; omega
  · intro c; dsimp only; omega
  · intro q; dsimp only; omega
  · intro q; dsimp only; omega
  · dsimp only; omega
  · dsimp only; omega
  · intro c q; dsimp only; omega
  · intro c q; dsimp only; omega
  · intro q; dsimp only; omega
  · intro q; dsimp only; omega
  · dsimp only; omega
  · dsimp only; omega
  · intro q; dsimp only; omega
  · dsimp only; omega
  · rw [hc _ _ (by dsimp only; omega)] at e; exact e
end EN
