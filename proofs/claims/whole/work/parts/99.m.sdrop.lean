/-! layer 2: a server drops a copy -/
def cSd (N g : Nat) (M : gM) (s x : Nat) : gM := gset (cDr N g M s x) (60, 48 * s + x, 0) 3 0
def rSd (g : Nat) (M : gM) (s x : Nat) : gM := fun j q => if (j = m_has ∨ j = m_versions) ∧ q = 48 * s + x then 0 else if j = m_entry ∧ 48 * s + 1 ≤ q ∧ q ≤ 48 * s + g ∧ M m_parent (q - 48 * s) = nI x then 0 else M j q
section SD
variable {N g B s o c d x z T n t : Nat} {M M' Mc Mr Mc' Mr' : gM} {v w a1 a2 a3 a4 : Int32}
theorem c_sdrop (hN : N ≤ 4) (h1 : M (1, 0, 0) 3 = nI g) (hg : g ≤ 47) (hx : x < 48) : f_X7_drop N M s (nI x) = some (cSd N g M s x) := by
  unfold f_X7_drop f_X9_clear cSd
  rw [c_drop8 hN h1 hg hx, o1_s, ix_n hx (by omega), lt_d, o1_s]
theorem r_drop (h6 : M m_o 6 = nI (g + 1)) (hg : g ≤ 47) (hc : s < 4) (ho : o < 48) : f_X11_drop M (nI s) (nI o) = some (rSd g M s o) := by
  unfold f_X11_drop
  simp only [nI_m48, nI_add, lt_d]
  rw [wz_0 (by omega) (by omega), wr_n (by omega) (by omega)]
  generalize hM3 : gset (gset M m_has (48 * s + o) 0) m_versions (48 * s + o) 0 = M3
  have hf : ∀ j q, j ≠ m_has → j ≠ m_versions → M3 j q = M j q := fun j q a b => by
    rw [← hM3, gset_r, if_neg (fun e => b e.1), gset_r, if_neg (fun e => a e.1)]
  have H := loopF (σ := gM) (L := fun n k st => f_X11_drop_L24 (nI s) (nI o) n (nI k) st) (B := g + 1) (g := fun x st => if M m_parent x = nI o then gset st m_entry (48 * s + x) 0 else st) (P := fun k st => 1 ≤ k ∧ st = fun j q => if j = m_entry ∧ 48 * s + 1 ≤ q ∧ q < 48 * s + k ∧ M m_parent (q - 48 * s) = nI o then 0 else M3 j q) (E := some) (fun n k st hk hP => ⟨?_, by omega, ?_⟩) (fun n st hP => ?_) g 1 100 M3 (by omega) (by omega) ⟨by omega, by funext j q; rw [if_neg (by omega)]⟩
  · refine H.1.trans (congrArg some (H.2.2.trans ?_))
    funext j q
    unfold rSd
    by_cases e : (j = m_has ∨ j = m_versions) ∧ q = 48 * s + o
    · rw [if_pos e, if_neg (fun x => by rcases e.1 with y | y <;> exact absurd (x.1.symm.trans y) (by decide)), ← hM3]
      obtain ⟨y | y, rfl⟩ := e
      · subst y; rw [gset_r, if_neg (by simp), gset_r, if_pos ⟨rfl, rfl⟩]
      · subst y; rw [gset_r, if_pos ⟨rfl, rfl⟩]
    · rw [if_neg e]
      by_cases e2 : j = m_entry ∧ 48 * s + 1 ≤ q ∧ q ≤ 48 * s + g ∧ M m_parent (q - 48 * s) = nI o
      · rw [if_pos e2, if_pos ⟨e2.1, e2.2.1, by omega, e2.2.2.2⟩]
      · rw [if_neg e2, if_neg (fun x => e2 ⟨x.1, x.2.1, by omega, x.2.2.2⟩), ← hM3, gset_r, if_neg (fun x => e ⟨Or.inr x.1, x.2⟩), gset_r, if_neg (fun x => e ⟨Or.inl x.1, x.2⟩)]
  · obtain ⟨k1, hst⟩ := hP
    have e6 : st m_o 6 = nI (g + 1) := by
      rw [hst]
      show (if m_o = m_entry ∧ _ then 0 else M3 m_o 6) = _
      rw [if_neg (fun x => absurd x.1 (by decide)), hf m_o 6 (by decide) (by decide)]; exact h6
    have ep : st m_parent k = M m_parent k := by
      rw [hst]
      show (if m_parent = m_entry ∧ _ then 0 else M3 m_parent k) = _
      rw [if_neg (fun x => absurd x.1 (by decide)), hf m_parent k (by decide) (by decide)]
    simp only [f_X11_drop_L24, lt_d, jn_d]
    rw [e6, if_neg (nI_ge (by omega) (by omega)), r_isChild (g := g) e6 hg (by omega), o1_s, ep]
    by_cases hp : M m_parent k = nI o
    · rw [decide_eq_true ⟨by omega, by omega, hp⟩, zb_t, if_neg (by decide), nI_m48, nI_add, wr_n (by omega) (by omega), nI_1, if_pos hp]
    · rw [decide_eq_false (fun x => hp x.2.2), zb_f, if_pos rfl, nI_1, if_neg hp]
  · obtain ⟨k1, rfl⟩ := hP
    funext j q
    by_cases hp : M m_parent k = nI o
    · rw [if_pos hp, gset_r]
      by_cases e : j = m_entry ∧ q = 48 * s + k
      · obtain ⟨rfl, rfl⟩ := e
        rw [if_pos ⟨rfl, rfl⟩, if_pos ⟨rfl, by omega, by omega, by rw [show 48 * s + k - 48 * s = k by omega]; exact hp⟩]
      · rw [if_neg e]
        by_cases e2 : j = m_entry ∧ 48 * s + 1 ≤ q ∧ q < 48 * s + k ∧ M m_parent (q - 48 * s) = nI o
        · rw [if_pos e2, if_pos ⟨e2.1, e2.2.1, by omega, e2.2.2.2⟩]
        · rw [if_neg e2, if_neg (fun x => e2 ⟨x.1, x.2.1, by
            have : q ≠ 48 * s + k := fun y => e ⟨x.1, y⟩
            omega, x.2.2.2⟩)]
    · rw [if_neg hp]
      by_cases e2 : j = m_entry ∧ 48 * s + 1 ≤ q ∧ q < 48 * s + k ∧ M m_parent (q - 48 * s) = nI o
      · rw [if_pos e2, if_pos ⟨e2.1, e2.2.1, by omega, e2.2.2.2⟩]
      · rw [if_neg e2, if_neg (fun x => e2 ⟨x.1, x.2.1, by
          have : q ≠ 48 * s + k := fun y => hp (by
            have z := x.2.2.2
            rw [y, show 48 * s + k - 48 * s = k by omega] at z
            exact z)
          omega, x.2.2.2⟩)]
  · obtain ⟨k1, hst⟩ := hP
    have e6 : st m_o 6 = nI (g + 1) := by
      rw [hst]
      show (if m_o = m_entry ∧ _ then 0 else M3 m_o 6) = _
      rw [if_neg (fun x => absurd x.1 (by decide)), hf m_o 6 (by decide) (by decide)]; exact h6
    simp only [f_X11_drop_L24, lt_d]
    rw [e6, if_pos (nI_le (by omega) (by omega))]
theorem cSd_h (t p : Nat) (ht : t = 51 ∨ t = 52 ∨ t = 53) : cSd N g M s x (t, s, 0) p = if p = x then 0 else M (t, s, 0) p := by
  unfold cSd cDr
  rw [gset_r, if_neg (by intro z; have := congrArg Prod.fst z.1; dsimp only at this; omega), cKd_n (by dsimp only; omega), gpu_ne (by intro z; have := congrArg Prod.fst z; dsimp only at this; omega)]
  rcases ht with rfl | rfl | rfl <;> (simp only [gset_r]; by_cases e : p = x <;> simp [e])
theorem cSd_55 (p k : Nat) (hk : k < N + 4) : cSd N g M s x (55, s, p) k = if p = x then 0 else M (55, s, p) k := by
  unfold cSd cDr
  rw [gset_r, if_neg (by simp), cKd_n (by simp), gpu_r]
  by_cases e : p = x
  · subst e; rw [if_pos ⟨rfl, by omega, by omega⟩, if_pos rfl]
  · rw [if_neg (by intro z; exact e (congrArg (fun y : gI => y.2.2) z.1)), if_neg e, gset_r, if_neg (by simp), gset_r, if_neg (by simp), gset_r, if_neg (by simp)]
theorem cSd_56 (p : Nat) : cSd N g M s x (56, s, 0) p = if x < p ∧ p < g + 1 ∧ M (2, 0, 0) p = nI x then 0 else M (56, s, 0) p := by
  have e2 : ∀ q, gpu (gset (gset (gset M (51, s, 0) x 0) (52, s, 0) x 0) (53, s, 0) x 0) (55, s, x) 0 (N + 4) (fun _ => 0) (2, 0, 0) q = M (2, 0, 0) q := fun q => by
    rw [gpu_ne (by simp), gset_r, if_neg (by simp), gset_r, if_neg (by simp), gset_r, if_neg (by simp)]
  unfold cSd cDr cKd
  rw [gset_r, if_neg (by simp)]
  dsimp only
  simp only [e2]
  by_cases e : x < p ∧ p < g + 1 ∧ M (2, 0, 0) p = nI x
  · rw [if_pos (Or.inl ⟨trivial, e⟩), if_pos e]
  · rw [if_neg (by rintro (z | z); exact e z.2; exact absurd z.1.1 (by decide)), if_neg e, gpu_ne (by simp), gset_r, if_neg (by simp), gset_r, if_neg (by simp), gset_r, if_neg (by simp)]
theorem cSd_58 (p k : Nat) (hk : k < N + 4) : cSd N g M s x (58, s, p) k = if x < p ∧ p < g + 1 ∧ M (2, 0, 0) p = nI x then 0 else M (58, s, p) k := by
  have e2 : ∀ q, gpu (gset (gset (gset M (51, s, 0) x 0) (52, s, 0) x 0) (53, s, 0) x 0) (55, s, x) 0 (N + 4) (fun _ => 0) (2, 0, 0) q = M (2, 0, 0) q := fun q => by
    rw [gpu_ne (by simp), gset_r, if_neg (by simp), gset_r, if_neg (by simp), gset_r, if_neg (by simp)]
  unfold cSd cDr cKd
  rw [gset_r, if_neg (by simp)]
  dsimp only
  simp only [e2]
  by_cases e : x < p ∧ p < g + 1 ∧ M (2, 0, 0) p = nI x
  · rw [if_pos (Or.inr ⟨⟨trivial, trivial, e⟩, hk⟩), if_pos e]
  · rw [if_neg (by rintro (z | z); exact absurd (congrArg Prod.fst z.1) (by simp); exact e z.1.2.2), if_neg e, gpu_ne (by simp), gset_r, if_neg (by simp), gset_r, if_neg (by simp), gset_r, if_neg (by simp)]
theorem cSd_60 : cSd N g M s x (60, 48 * s + x, 0) 3 = 0 := by
  unfold cSd
  rw [gset_r, if_pos ⟨rfl, rfl⟩]
theorem cSd_fr : cf (fun j q => (51 ≤ j.1 ∧ j.1 ≤ 58 ∧ j.2.1 = s) ∨ (j.1 = 60 ∧ j.2.1 = 48 * s + x ∧ q = 3)) M (cSd N g M s x) := fun j q h => by
  unfold cSd cDr cKd
  rw [gset_r, if_neg (by rintro ⟨rfl, rfl⟩; exact h (by dsimp only; omega)), if_neg (by
    rintro (⟨rfl, -⟩ | ⟨⟨h1, h2, -⟩, -⟩)
    · exact h (by dsimp only; omega)
    · exact h (by omega)), gpu_ne (by rintro rfl; exact h (by dsimp only; omega)), gset_r, if_neg (by rintro ⟨rfl, -⟩; exact h (by dsimp only; omega)), gset_r, if_neg (by rintro ⟨rfl, -⟩; exact h (by dsimp only; omega)), gset_r, if_neg (by rintro ⟨rfl, -⟩; exact h (by dsimp only; omega))]
theorem rSd_fr (hg : g ≤ 47) : cf (fun j q => ((j.1 = 11 ∨ j.1 = 15) ∧ q = 48 * s + x) ∨ (j.1 = 19 ∧ 48 * s ≤ q ∧ q < 48 * s + 48)) M (rSd g M s x) := fun j q h => by
  unfold rSd
  rw [if_neg (by rintro ⟨rfl | rfl, rfl⟩ <;> exact h (by dsimp only; omega)), if_neg (by rintro ⟨rfl, h1, h2, -⟩; exact h (by dsimp only; omega))]
theorem rSd_k {p : Nat} {j : gI} (hj : j = m_has ∨ j = m_versions) (hx : x < 48) (hp : p < 48) : rSd g M s x j (48 * s + p) = if p = x then 0 else M j (48 * s + p) := by
  unfold rSd
  by_cases e : p = x
  · subst e; rw [if_pos ⟨hj, rfl⟩, if_pos rfl]
  · rw [if_neg (by rintro ⟨-, z⟩; omega), if_neg e, if_neg (by rintro ⟨rfl, -⟩; rcases hj with y | y <;> exact absurd y (by decide))]
theorem rSd_e {p : Nat} (hp : p < 48) : rSd g M s x m_entry (48 * s + p) = if 1 ≤ p ∧ p ≤ g ∧ M m_parent p = nI x then 0 else M m_entry (48 * s + p) := by
  unfold rSd
  rw [if_neg (by rintro ⟨y | y, -⟩ <;> exact absurd y (by decide)), show 48 * s + p - 48 * s = p by omega]
  by_cases e : 1 ≤ p ∧ p ≤ g ∧ M m_parent p = nI x
  · rw [if_pos e, if_pos ⟨rfl, by omega, by omega, e.2.2⟩]
  · rw [if_neg e, if_neg (by rintro ⟨-, y1, y2, y3⟩; exact e ⟨by omega, by omega, y3⟩)]
theorem rel_sdrop (hN : N ≤ 4) (hs : s < N) (hx : x < 48) (R : Rel N g Mc Mr) (I : iCat g Mc) : Rel N g (cSd N g Mc s x) (rSd g Mr s x) := by
  have hg := I.1
  have fc := cSd_fr (N := N) (g := g) (s := s) (x := x) (M := Mc)
  have fr := rSd_fr (s := s) (x := x) (M := Mr) hg
  refine R.srv hN (fc.mo ?_) (fr.mo ?_) (fun d hd p hp => ?_)
  · intro j q; unfold aSv; omega
  · intro j q; unfold bSv; omega
  · have h := R.sv hd hp
    by_cases e : d = s
    · subst e
      have hst : (if x < p ∧ p < g + 1 ∧ Mc (2, 0, 0) p = nI x then (0 : Int32) else Mc (56, d, 0) p) = if 1 ≤ p ∧ p ≤ g ∧ Mr m_parent p = nI x then 0 else Mr m_entry (48 * d + p) := by
        have ep := (R.ct.2.2 p hp).1
        rw [← ep, h.b.1]
        by_cases q : 1 ≤ p ∧ p ≤ g ∧ Mc (2, 0, 0) p = nI x
        · rw [if_pos q, if_pos ⟨kid_gt I q.1 q.2.1 (by omega) q.2.2, by omega, q.2.2⟩]
        · rw [if_neg q, if_neg (fun x => q ⟨by omega, by omega, x.2.2⟩)]
      have hk : (x < p ∧ p < g + 1 ∧ Mc (2, 0, 0) p = nI x) ↔ (1 ≤ p ∧ p ≤ g ∧ Mr m_parent p = nI x) := by
        have ep := (R.ct.2.2 p hp).1
        rw [← ep]
        exact ⟨fun q => ⟨by omega, by omega, q.2.2⟩, fun q => ⟨kid_gt I q.1 q.2.1 (by omega) q.2.2, by omega, q.2.2⟩⟩
      have hgo : ∀ k, rSd g Mr d x m_gone (8 * (48 * d + p) + k) = Mr m_gone (8 * (48 * d + p) + k) := fun k => fr _ _ (by dsimp only; omega)
      obtain ⟨f1, f2, f3, f4⟩ := h.a
      have hdir : rSd g Mr d x m_isDirectory p = Mr m_isDirectory p := fr _ _ (by dsimp only; omega)
      have hval : rSd g Mr d x m_value (48 * d + p) = Mr m_value (48 * d + p) := fr _ _ (by dsimp only; omega)
      have hsiz : rSd g Mr d x m_size (48 * d + p) = Mr m_size (48 * d + p) := fr _ _ (by dsimp only; omega)
      have hvec : ∀ k, rSd g Mr d x m_vector (8 * (48 * d + p) + k) = Mr m_vector (8 * (48 * d + p) + k) := fun k => fr _ _ (by dsimp only; omega)
      refine rSv_of ?_ ⟨?_, fun k hk' => ?_⟩ (h.cc.fr fc fr (by dsimp only; omega) (by dsimp only; omega)) ?_
      · unfold rA
        rw [cSd_h 51 p (by omega), cSd_h 52 p (by omega), cSd_h 53 p (by omega), rSd_k (Or.inl rfl) hx hp, hdir, hval, hsiz]
        by_cases eo : p = x
        · refine ⟨by rw [if_pos eo, if_pos eo], by rw [if_pos eo, if_pos eo, if_pos (Or.inl rfl)], by rw [if_pos eo, if_pos eo, if_pos (Or.inl rfl)], fun k hk' => ?_⟩
          rw [cSd_55 p k hk', if_pos eo, if_pos eo, if_pos rfl]
        · refine ⟨by rw [if_neg eo, if_neg eo]; exact f1, by rw [if_neg eo, if_neg eo]; exact f2, by rw [if_neg eo, if_neg eo]; exact f3, fun k hk' => ?_⟩
          rw [cSd_55 p k hk', if_neg eo, if_neg eo, hvec]
          exact f4 k hk'
      · rw [cSd_56, rSd_e hp]; exact hst
      · rw [cSd_58 p k hk', rSd_e hp, hgo]
        by_cases q : x < p ∧ p < g + 1 ∧ Mc (2, 0, 0) p = nI x
        · rw [if_pos q, if_pos (hk.mp q), if_neg (by decide)]
        · rw [if_neg q, if_neg (fun y => q (hk.mpr y))]; exact h.b.2 k hk'
      · by_cases eo : p = x
        · subst eo
          refine ⟨by rw [cSd_60, rSd_k (Or.inr rfl) hx hp, if_pos rfl], fun i hi hl => ?_⟩
          rw [rSd_k (Or.inr rfl) hx hp, if_pos rfl] at hl
          exact absurd hl (nI_pos (by omega))
        · refine h.dd.fr hN fc fr ?_ ?_
          · intro j q; omega
          · intro j q; omega
    · refine h.fr hN fc fr ?_ ?_
      · intro j q; unfold kSv; omega
      · intro j q; unfold lSv; omega
/-- nothing in it is held: the invariants stay -/
theorem inv_sdrop (hN : N ≤ 4) (hs : s < N) (hx1 : 1 ≤ x) (hx : x < 48) (I : JInv N g M) (hk : ∀ p, p < 48 → 1 ≤ p → M (2, 0, 0) p = nI x → ¬ M (51, s, 0) p = 1) : JInv N g (cSd N g M s x) := by
  have hg := I.1.1
  have fc := cSd_fr (N := N) (g := g) (s := s) (x := x) (M := M)
  have e2 : ∀ p, cSd N g M s x (2, 0, 0) p = M (2, 0, 0) p := fun p => fc _ _ (by dsimp only; omega)
  obtain ⟨cat, lo, sv, vr, kl, w⟩ := I
  refine ⟨cat.fr fc ?_, fun s' hs' => ?_, fun s' hs' p hp => ?_, fun s' hs' p hp => ?_, fun c h p hp => (kl c h p hp).fr hN fc ?_, fun c h => (w c h).fr fc ?_⟩
  · intro j q; unfold eCat; omega
  · rw [fc _ _ (by dsimp only; omega)]; exact lo s' hs'
  · by_cases es : s' = s
    · subst es
      obtain ⟨i1, i2, i3, i4, i5⟩ := sv s' hs' p hp
      unfold iSv
      rw [cSd_h 51 p (by omega), cSd_56, e2]
      refine ⟨?_, ?_, fun y => ?_, fun y => ?_, fun q hq p1 e => ⟨fun y => ?_, fun y => ?_⟩⟩
      · by_cases ep : p = x
        · rw [if_pos ep]; exact Or.inl rfl
        · rw [if_neg ep]; exact i1
      · split
        · exact Or.inl rfl
        · exact i2
      · by_cases ep : p = x
        · rw [if_pos ep] at y; exact absurd y (by decide)
        · rw [if_neg ep] at y; exact i3 y
      · split at y
        · exact absurd rfl y
        · exact i4 y
      · by_cases ep : p = x
        · rw [if_pos ep] at y; exact absurd y (by decide)
        · rw [if_neg ep] at y
          obtain ⟨k1, k2⟩ := (i5 q hq p1 e).1 y
          have hqx : q ≠ x := fun z => hk p hp p1 (by rw [e, z]) y
          refine ⟨by rw [cSd_h 51 q (by omega), if_neg hqx]; exact k1, ?_⟩
          rw [if_neg (fun z => hk p hp p1 z.2.2 y)]
          exact k2
      · split at y
        · exact absurd rfl y
        · rename_i hn
          have k1 := (i5 q hq p1 e).2 y
          have hqx : q ≠ x := fun z => hn (by
            have hpg := (i4 y).2
            refine ⟨?_, by omega, by rw [e, z]⟩
            have := kid_gt cat p1 hpg (by omega) e
            omega)
          rw [cSd_h 51 q (by omega), if_neg hqx]
          exact k1
    · refine (sv s' hs' p hp).fr hp fc ?_
      intro j q; unfold eSv; omega
  · by_cases e : s' = s ∧ p = x
    · obtain ⟨rfl, rfl⟩ := e
      exact ⟨⟨0, by omega, by rw [cSd_h 53 p (by omega), if_pos rfl]; rfl⟩, 0, by omega, cSd_60, fun h => absurd rfl h, fun i hi => absurd hi (by omega)⟩
    · by_cases es : s' = s
      · subst es
        have ep : p ≠ x := fun z => e ⟨rfl, z⟩
        have i0 := vr s' hs' p hp
        unfold iVr at i0 ⊢
        rw [cSd_h 51 p (by omega), cSd_h 52 p (by omega), cSd_h 53 p (by omega), if_neg ep, if_neg ep, if_neg ep, fc (60, 48 * s' + p, 0) 3 (by dsimp only; omega), fc (61, 48 * s' + p, 0) 0 (by dsimp only; omega), fc (4, 0, 0) p (by dsimp only; omega)]
        simp only [fun i => fc (62, 48 * s' + p, 0) i (by dsimp only; omega)]
        exact i0
      · refine (vr s' hs' p hp).fr fc ?_
        intro j q; unfold eVr; omega
  · intro j q; unfold eKl; omega
  · intro j q; unfold eWt; omega
end SD
