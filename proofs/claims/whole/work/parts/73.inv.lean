/-! layer 2: what holds of the class's store between calls -/
def cNr (N : Nat) (M : gM) (c : Nat) : Int32 := sS (fun s => bt (M (5, 0, 0) 2) s && !bt (M (6, 0, 0) s) (4 + c)) N
def iCat (g : Nat) (M : gM) : Prop := g ≤ 47 ∧ M (4, 0, 0) 0 = 1 ∧ (∀ o, o < 48 → M (4, 0, 0) o = 0 ∨ M (4, 0, 0) o = 1) ∧ ∀ o, 1 ≤ o → o ≤ g → ∃ p, p < o ∧ M (2, 0, 0) o = nI p ∧ M (4, 0, 0) p = 1
/-- server s, object o: truth and state in their ranges; held by what was made; a copy's directory is held and knows it; an entry that is known has its directory -/
def iSv (g s o : Nat) (M : gM) : Prop := (M (51, s, 0) o = 0 ∨ M (51, s, 0) o = 1) ∧ (M (56, s, 0) o = 0 ∨ M (56, s, 0) o = 1 ∨ M (56, s, 0) o = 2) ∧ (M (51, s, 0) o = 1 → o ≤ g) ∧ (¬ M (56, s, 0) o = 0 → 1 ≤ o ∧ o ≤ g) ∧ ∀ p, p < 48 → 1 ≤ o → M (2, 0, 0) o = nI p → (M (51, s, 0) o = 1 → M (51, s, 0) p = 1 ∧ ¬ M (56, s, 0) o = 0) ∧ (¬ M (56, s, 0) o = 0 → M (51, s, 0) p = 1)
/-- its versions and sizes -/
def iVr (s o : Nat) (M : gM) : Prop := (∃ z, z ≤ 6 ∧ M (53, s, 0) o = nI z) ∧ ∃ n, n ≤ 6 ∧ M (60, 48 * s + o, 0) 3 = nI n ∧ (n ≠ 0 → M (51, s, 0) o = 1 ∧ M (4, 0, 0) o = 0 ∧ M (52, s, 0) o = M (61, 48 * s + o, 0) 0 ∧ M (53, s, 0) o = M (62, 48 * s + o, 0) 0) ∧ ∀ i, i < n → ∃ z, z ≤ 6 ∧ M (62, 48 * s + o, 0) i = nI z
def iKl (N g c o : Nat) (M : gM) : Prop := (M (51, 4 + c, 0) o = 0 ∨ M (51, 4 + c, 0) o = 1) ∧ (M (33, c, 0) o = 0 ∨ M (33, c, 0) o = 1) ∧ (M (56, 4 + c, 0) o = 0 ∨ M (56, 4 + c, 0) o = 1 ∨ M (56, 4 + c, 0) o = 2) ∧ (M (51, 4 + c, 0) o = 1 → o ≤ g) ∧ (¬ M (56, 4 + c, 0) o = 0 → 1 ≤ o ∧ o ≤ g) ∧ (M (51, 4 + c, 0) o = 0 → M (32, c, 0) o = 0 ∧ M (33, c, 0) o = 0) ∧ M (32, c, 0) o &&& cNr N M c = M (32, c, 0) o ∧ (∃ z, z ≤ 6 ∧ M (53, 4 + c, 0) o = nI z) ∧ ∃ z, z ≤ 9 ∧ M (31, c, 0) o = nI z
def wt (M : gM) (c o : Nat) : Nat := if M (51, 4 + c, 0) o = 0 then 0 else if M (4, 0, 0) o = 0 then 1 + (M (53, 4 + c, 0) o).toNatClampNeg else 2
def wsum (f : Nat → Nat) : Nat → Nat
  | 0 => 0
  | n + 1 => wsum f n + f n
def iWt (M : gM) (c : Nat) : Prop := wsum (wt M c) 48 ≤ 24
/-- the log: what stands in each record -/
def iRec (N g c i : Nat) (M : gM) : Prop := ∃ ob, 1 ≤ ob ∧ ob ≤ g ∧ M (42, c, 0) i = nI ob ∧ ((M (41, c, 0) i = 0 ∧ M (43, c, 0) i = -1 ∧ M (51, 4 + c, 0) ob = 1 ∧ M (33, c, 0) ob = 1 ∧ M (4, 0, 0) ob = 0) ∨ (M (41, c, 0) i = 1 ∧ M (43, c, 0) i = M (2, 0, 0) ob ∧ ∀ s, s < N → M (51, s, 0) ob = 0 ∧ ¬ M (56, s, 0) ob = 1) ∨ (M (41, c, 0) i = 2 ∧ M (43, c, 0) i = M (2, 0, 0) ob))
def iLg (N g c : Nat) (M : gM) : Prop := ∃ n, n ≤ 12 ∧ M (40, c, 0) 4 = nI n ∧ (n = 0 → ∀ o, o < 48 → M (33, c, 0) o = 0) ∧ (∀ i, i < n → iRec N g c i M) ∧ ∀ i j, i < n → j < n → M (41, c, 0) i = 1 → M (41, c, 0) j = 0 → M (42, c, 0) i = M (42, c, 0) j → i < j
/-- no object is made twice, none is written twice in one log -/
def iMk (M : gM) : Prop := ∀ c d i j, c < 4 → d < 4 → nI i < M (40, c, 0) 4 → nI j < M (40, d, 0) 4 → i < 12 → j < 12 → M (41, c, 0) i = M (41, d, 0) j → (M (41, c, 0) i = 1 ∨ (c = d ∧ M (41, c, 0) i = 0)) → M (42, c, 0) i = M (42, d, 0) j → c = d ∧ i = j
def Inv (N g : Nat) (M : gM) : Prop := iCat g M ∧ (∀ s, s < N → M (20, s, 0) 3 = 0 ∨ M (20, s, 0) 3 = 1) ∧ (∀ s, s < N → ∀ o, o < 48 → iSv g s o M) ∧ (∀ s, s < N → ∀ o, o < 48 → iVr s o M) ∧ (∀ c, c < 4 → ∀ o, o < 48 → iKl N g c o M) ∧ (∀ c, c < 4 → iWt M c) ∧ (∀ c, c < 4 → iLg N g c M) ∧ iMk M
/-- the order of uses, but for the object x -/
def uOrd (c x : Nat) (Mc Mr : gM) : Prop := ∀ o p, o < 48 → p < 48 → o ≠ x → p ≠ x → Mc (51, 4 + c, 0) o = 1 → Mc (51, 4 + c, 0) p = 1 → (Mc (34, c, 0) o < Mc (34, c, 0) p ↔ Mr m_usedAt (48 * c + o) < Mr m_usedAt (48 * c + p))
def uAll (c x : Nat) (Mc Mr : gM) : Prop := ∀ d, d < 4 → uOrd d (if d = c then x else 48) Mc Mr
/-- B uses and calls so far, at most -/
def Usd (B : Nat) (Mc Mr : gM) : Prop := ∃ K J, K ≤ B ∧ J ≤ B ∧ Mr m_o 32 = nI K ∧ Mr m_o 33 = nI J ∧ ∀ c, c < 4 → ∃ u, u ≤ B ∧ Mc (30, c, 0) 9 = nI u ∧ ∀ o, o < 48 → (∃ a, a ≤ u ∧ Mc (34, c, 0) o = nI a) ∧ (∃ b, b ≤ K ∧ Mr m_usedAt (48 * c + o) = nI b) ∧ ∃ d, d ≤ J ∧ Mr m_usedBy (48 * c + o) = nI d
/-- within a call of client c -/
def uNow (c x : Nat) (Mc Mr : gM) : Prop := (∃ w u, w ≤ u ∧ u ≤ 1000000 ∧ Mc (30, c, 0) 10 = nI w ∧ Mc (30, c, 0) 9 = nI u) ∧ ∀ o, o < 48 → o ≠ x → Mc (51, 4 + c, 0) o = 1 → (Mc (34, c, 0) o ≤ Mc (30, c, 0) 10 ↔ ¬ Mr m_usedBy (48 * c + o) = Mr m_o 33)
def St (N T : Nat) (Mc Mr : gM) : Prop := ∃ g, Rel N g Mc Mr ∧ Inv N g Mc ∧ Usd (1000 * T) Mc Mr ∧ uAll 0 48 Mc Mr
/-! frames of these -/
section FI
variable {N g : Nat} {M M' : gM} {A : gI → Nat → Prop}
def eCat (j : gI) (q : Nat) : Prop := (j.1 = 2 ∨ j.1 = 4) ∧ q < 48
theorem iCat.fr (hc : cf A M M') (h1 : ∀ j q, eCat j q → ¬ A j q) (h : iCat g M) : iCat g M' := by
  obtain ⟨a, b, c, d⟩ := h
  have e2 : ∀ o, o < 48 → M' (2, 0, 0) o = M (2, 0, 0) o := fun o ho => hc _ _ (h1 _ _ ⟨Or.inl rfl, ho⟩)
  have e4 : ∀ o, o < 48 → M' (4, 0, 0) o = M (4, 0, 0) o := fun o ho => hc _ _ (h1 _ _ ⟨Or.inr rfl, ho⟩)
  refine ⟨a, by rw [e4 0 (by omega)]; exact b, fun o ho => by rw [e4 o ho]; exact c o ho, fun o h1 h2 => ?_⟩
  obtain ⟨p, p1, p2, p3⟩ := d o h1 h2
  exact ⟨p, p1, by rw [e2 o (by omega)]; exact p2, by rw [e4 p (by omega)]; exact p3⟩
def eSv (s o : Nat) (j : gI) (q : Nat) : Prop := (j.1 = 51 ∧ j.2.1 = s ∧ q < 48) ∨ (j.1 = 56 ∧ j.2.1 = s ∧ q = o) ∨ (j.1 = 2 ∧ q = o)
theorem iSv.fr {s o : Nat} (ho : o < 48) (hc : cf A M M') (h1 : ∀ j q, eSv s o j q → ¬ A j q) (h : iSv g s o M) : iSv g s o M' := by
  have e1 : ∀ q, q < 48 → M' (51, s, 0) q = M (51, s, 0) q := fun q hq => hc _ _ (h1 _ _ (Or.inl ⟨rfl, rfl, hq⟩))
  have e2 : M' (56, s, 0) o = M (56, s, 0) o := hc _ _ (h1 _ _ (Or.inr (Or.inl ⟨rfl, rfl, rfl⟩)))
  have e3 : M' (2, 0, 0) o = M (2, 0, 0) o := hc _ _ (h1 _ _ (Or.inr (Or.inr ⟨rfl, rfl⟩)))
  unfold iSv at h ⊢
  rw [e1 o ho, e2, e3]
  obtain ⟨a, b, c, d, f⟩ := h
  refine ⟨a, b, c, d, fun p hp h1 h2 => ?_⟩
  rw [e1 p hp]
  exact f p hp h1 h2
def eVr (s o : Nat) (j : gI) (q : Nat) : Prop := ((j.1 = 51 ∨ j.1 = 52 ∨ j.1 = 53) ∧ j.2.1 = s ∧ q = o) ∨ (j.1 = 60 ∧ j.2.1 = 48 * s + o ∧ q = 3) ∨ ((j.1 = 61 ∨ j.1 = 62) ∧ j.2.1 = 48 * s + o ∧ q < 6) ∨ (j.1 = 4 ∧ q = o)
theorem iVr.fr {s o : Nat} (hc : cf A M M') (h1 : ∀ j q, eVr s o j q → ¬ A j q) (h : iVr s o M) : iVr s o M' := by
  have e0 : ∀ t, (t = 51 ∨ t = 52 ∨ t = 53) → M' (t, s, 0) o = M (t, s, 0) o := fun t ht => hc _ _ (h1 _ _ (Or.inl ⟨ht, rfl, rfl⟩))
  have e1 : M' (60, 48 * s + o, 0) 3 = M (60, 48 * s + o, 0) 3 := hc _ _ (h1 _ _ (Or.inr (Or.inl ⟨rfl, rfl, rfl⟩)))
  have e2 : ∀ t, (t = 61 ∨ t = 62) → ∀ q, q < 6 → M' (t, 48 * s + o, 0) q = M (t, 48 * s + o, 0) q := fun t ht q hq => hc _ _ (h1 _ _ (Or.inr (Or.inr (Or.inl ⟨ht, rfl, hq⟩))))
  have e4 : M' (4, 0, 0) o = M (4, 0, 0) o := hc _ _ (h1 _ _ (Or.inr (Or.inr (Or.inr ⟨rfl, rfl⟩))))
  unfold iVr at h ⊢
  rw [e0 51 (by omega), e0 52 (by omega), e0 53 (by omega), e1, e2 61 (by omega) 0 (by omega), e2 62 (by omega) 0 (by omega), e4]
  obtain ⟨a, n, b, c, d, f⟩ := h
  exact ⟨a, n, b, c, d, fun i hi => by rw [e2 62 (by omega) i (by omega)]; exact f i hi⟩
def eKl (c o : Nat) (j : gI) (q : Nat) : Prop := ((j.1 = 51 ∨ j.1 = 53 ∨ j.1 = 56) ∧ j.2.1 = 4 + c ∧ q = o) ∨ ((j.1 = 31 ∨ j.1 = 32 ∨ j.1 = 33) ∧ j.2.1 = c ∧ q = o) ∨ (j.1 = 5 ∧ q = 2) ∨ (j.1 = 6 ∧ q < 4)
theorem cNr.fr {c : Nat} (hN : N ≤ 4) (hc : cf A M M') (h1 : ¬ A (5, 0, 0) 2) (h2 : ∀ q, q < 4 → ¬ A (6, 0, 0) q) : cNr N M' c = cNr N M c := by
  unfold cNr
  exact sN_congr _ _ _ (fun j _ hj => by rw [hc _ _ h1, hc _ _ (h2 j (by omega))])
theorem iKl.fr {c o : Nat} (hN : N ≤ 4) (hc : cf A M M') (h1 : ∀ j q, eKl c o j q → ¬ A j q) (h : iKl N g c o M) : iKl N g c o M' := by
  have e0 : ∀ t, (t = 51 ∨ t = 53 ∨ t = 56) → M' (t, 4 + c, 0) o = M (t, 4 + c, 0) o := fun t ht => hc _ _ (h1 _ _ (Or.inl ⟨ht, rfl, rfl⟩))
  have e1 : ∀ t, (t = 31 ∨ t = 32 ∨ t = 33) → M' (t, c, 0) o = M (t, c, 0) o := fun t ht => hc _ _ (h1 _ _ (Or.inr (Or.inl ⟨ht, rfl, rfl⟩)))
  unfold iKl at h ⊢
  rw [e0 51 (by omega), e0 53 (by omega), e0 56 (by omega), e1 31 (by omega), e1 32 (by omega), e1 33 (by omega), cNr.fr hN hc (h1 _ _ (Or.inr (Or.inr (Or.inl ⟨rfl, rfl⟩)))) (fun q hq => h1 _ _ (Or.inr (Or.inr (Or.inr ⟨rfl, hq⟩))))]
  exact h
theorem wsum_congr {f f' : Nat → Nat} : ∀ n, (∀ k, k < n → f k = f' k) → wsum f n = wsum f' n := by
  intro n
  induction n with
  | zero => intro _; rfl
  | succ n ih => intro h; show wsum f n + f n = wsum f' n + f' n; rw [ih (fun k hk => h k (by omega)), h n (by omega)]
def eWt (c : Nat) (j : gI) (q : Nat) : Prop := ((j.1 = 51 ∨ j.1 = 53) ∧ j.2.1 = 4 + c ∧ q < 48) ∨ (j.1 = 4 ∧ q < 48)
theorem wt.fr {c o : Nat} (ho : o < 48) (hc : cf A M M') (h1 : ∀ j q, eWt c j q → ¬ A j q) : wt M' c o = wt M c o := by
  unfold wt
  rw [hc (51, 4 + c, 0) o (h1 _ _ (Or.inl ⟨Or.inl rfl, rfl, ho⟩)), hc (53, 4 + c, 0) o (h1 _ _ (Or.inl ⟨Or.inr rfl, rfl, ho⟩)), hc (4, 0, 0) o (h1 _ _ (Or.inr ⟨rfl, ho⟩))]
theorem iWt.fr {c : Nat} (hc : cf A M M') (h1 : ∀ j q, eWt c j q → ¬ A j q) (h : iWt M c) : iWt M' c := by
  unfold iWt at h ⊢
  rw [wsum_congr (f' := wt M c) 48 (fun k hk => wt.fr hk hc h1)]
  exact h
def eLg (N c : Nat) (j : gI) (q : Nat) : Prop := (40 ≤ j.1 ∧ j.1 ≤ 43 ∧ j.2.1 = c) ∨ (j.1 = 33 ∧ j.2.1 = c ∧ q < 48) ∨ (j.1 = 51 ∧ j.2.1 = 4 + c ∧ q < 48) ∨ ((j.1 = 2 ∨ j.1 = 4) ∧ q < 48) ∨ ((j.1 = 51 ∨ j.1 = 56) ∧ j.2.1 < N ∧ q < 48)
theorem iLg.fr {c : Nat} (hg : g ≤ 47) (hc : cf A M M') (h1 : ∀ j q, eLg N c j q → ¬ A j q) (h : iLg N g c M) : iLg N g c M' := by
  have e0 : ∀ t, (40 ≤ t ∧ t ≤ 43) → ∀ q, M' (t, c, 0) q = M (t, c, 0) q := fun t ht q => hc _ _ (h1 _ _ (Or.inl ⟨ht.1, ht.2, rfl⟩))
  have e1 : ∀ o, o < 48 → M' (33, c, 0) o = M (33, c, 0) o := fun o ho => hc _ _ (h1 _ _ (Or.inr (Or.inl ⟨rfl, rfl, ho⟩)))
  have e2 : ∀ o, o < 48 → M' (51, 4 + c, 0) o = M (51, 4 + c, 0) o := fun o ho => hc _ _ (h1 _ _ (Or.inr (Or.inr (Or.inl ⟨rfl, rfl, ho⟩))))
  have e3 : ∀ t, (t = 2 ∨ t = 4) → ∀ o, o < 48 → M' (t, 0, 0) o = M (t, 0, 0) o := fun t ht o ho => hc _ _ (h1 _ _ (Or.inr (Or.inr (Or.inr (Or.inl ⟨ht, ho⟩)))))
  have e4 : ∀ t, (t = 51 ∨ t = 56) → ∀ s, s < N → ∀ o, o < 48 → M' (t, s, 0) o = M (t, s, 0) o := fun t ht s hs o ho => hc _ _ (h1 _ _ (Or.inr (Or.inr (Or.inr (Or.inr ⟨ht, hs, ho⟩)))))
  obtain ⟨n, a, b, d, f, k⟩ := h
  refine ⟨n, a, by rw [e0 40 (by omega)]; exact b, fun h0 o ho => by rw [e1 o ho]; exact d h0 o ho, fun i hi => ?_, fun i j hi hj x1 x2 x3 => ?_⟩
  · obtain ⟨ob, o1, o2, o3, o4⟩ := f i hi
    refine ⟨ob, o1, o2, by rw [e0 42 (by omega)]; exact o3, ?_⟩
    rw [e0 41 (by omega), e0 43 (by omega), e2 ob (by omega), e1 ob (by omega), e3 4 (by omega) ob (by omega), e3 2 (by omega) ob (by omega)]
    rcases o4 with q | q | q
    · exact Or.inl q
    · refine Or.inr (Or.inl ⟨q.1, q.2.1, fun s hs => ?_⟩)
      rw [e4 51 (by omega) s hs ob (by omega), e4 56 (by omega) s hs ob (by omega)]
      exact q.2.2 s hs
    · exact Or.inr (Or.inr q)
  · rw [e0 41 (by omega)] at x1 x2
    rw [e0 42 (by omega), e0 42 (by omega)] at x3
    exact k i j hi hj x1 x2 x3
theorem iMk.fr (hc : cf A M M') (h1 : ∀ t c q, 40 ≤ t → t ≤ 42 → ¬ A (t, c, 0) q) (h : iMk M) : iMk M' := by
  intro c d i j hc' hd hi hj i12 j12 x1 x2 x3
  rw [hc _ _ (h1 40 _ _ (by omega) (by omega))] at hi hj
  rw [hc _ _ (h1 41 c i (by omega) (by omega)), hc _ _ (h1 41 d j (by omega) (by omega))] at x1
  rw [hc _ _ (h1 41 c i (by omega) (by omega))] at x2
  rw [hc _ _ (h1 42 _ _ (by omega) (by omega)), hc _ _ (h1 42 _ _ (by omega) (by omega))] at x3
  exact h c d i j hc' hd hi hj i12 j12 x1 x2 x3
theorem Inv.fr (hN : N ≤ 4) (I : Inv N g M) (hc : cf csc M M') : Inv N g M' := by
  obtain ⟨cat, lo, sv, vr, kl, w, lg, mk⟩ := I
  have hg := cat.1
  refine ⟨cat.fr hc ?_, fun s hs => ?_, fun s hs o ho => (sv s hs o ho).fr ho hc ?_, fun s hs o ho => (vr s hs o ho).fr hc ?_, fun c h o ho => (kl c h o ho).fr hN hc ?_, fun c h => (w c h).fr hc ?_, fun c h => (lg c h).fr hg hc ?_, mk.fr hc ?_⟩
  · intro j q; unfold eCat csc; omega
  · rw [hc (20, s, 0) 3 (by unfold csc; dsimp only; omega)]; exact lo s hs
  · intro j q; unfold eSv csc; omega
  · intro j q; unfold eVr csc; omega
  · intro j q; unfold eKl csc; omega
  · intro j q; unfold eWt csc; omega
  · intro j q; unfold eLg csc; omega
  · intro t c q h1 h2; unfold csc; dsimp only; omega
theorem Usd.fr {B9 : Nat} {Mc Mr Mc' Mr' : gM} {A B : gI → Nat → Prop} (hc : cf A Mc Mc') (hr : cf B Mr Mr') (h1 : ∀ c q, ¬ A (34, c, 0) q) (h2 : ∀ c, ¬ A (30, c, 0) 9) (h4 : ∀ q, ¬ B m_usedAt q) (h5 : ∀ q, ¬ B m_usedBy q) (h6 : ¬ B m_o 32) (h7 : ¬ B m_o 33) (U : Usd B9 Mc Mr) : Usd B9 Mc' Mr' := by
  obtain ⟨K, J, k1, k2, k3, k4, k5⟩ := U
  refine ⟨K, J, k1, k2, by rw [hr _ _ h6]; exact k3, by rw [hr _ _ h7]; exact k4, fun c h => ?_⟩
  obtain ⟨u, u1, u2, u3⟩ := k5 c h
  refine ⟨u, u1, by rw [hc _ _ (h2 c)]; exact u2, fun o ho => ?_⟩
  rw [hc _ _ (h1 c o), hr _ _ (h4 _), hr _ _ (h5 _)]
  exact u3 o ho
/-- held less, used alike: the order stays -/
theorem uOrd.fr {c x : Nat} {Mc Mr Mc' Mr' : gM} (h1 : ∀ q, q < 48 → Mc' (34, c, 0) q = Mc (34, c, 0) q) (h3 : ∀ q, q < 48 → q ≠ x → Mc' (51, 4 + c, 0) q = 1 → Mc (51, 4 + c, 0) q = 1) (h4 : ∀ q, q < 48 → Mr' m_usedAt (48 * c + q) = Mr m_usedAt (48 * c + q)) (U : uOrd c x Mc Mr) : uOrd c x Mc' Mr' := fun o p ho hp n1 n2 x1 x2 => by
  rw [h1 o ho, h1 p hp, h4 o ho, h4 p hp]
  exact U o p ho hp n1 n2 (h3 o ho n1 x1) (h3 p hp n2 x2)
theorem uAll.fr {c x : Nat} {Mc Mr Mc' Mr' : gM} {A B : gI → Nat → Prop} (hc : cf A Mc Mc') (hr : cf B Mr Mr') (h1 : ∀ c q, ¬ A (34, c, 0) q) (h3 : ∀ c q, ¬ A (51, 4 + c, 0) q) (h4 : ∀ q, ¬ B m_usedAt q) (U : uAll c x Mc Mr) : uAll c x Mc' Mr' := fun d hd => (U d hd).fr (fun q _ => hc _ _ (h1 d q)) (fun q _ _ h => by rw [hc _ _ (h3 d q)] at h; exact h) (fun q _ => hr _ _ (h4 _))
theorem Usd.up {B B' : Nat} {Mc Mr : gM} (h : B ≤ B') (U : Usd B Mc Mr) : Usd B' Mc Mr := by
  obtain ⟨K, J, k1, k2, k3, k4, k5⟩ := U
  refine ⟨K, J, by omega, by omega, k3, k4, fun c hc => ?_⟩
  obtain ⟨u, u1, u2⟩ := k5 c hc
  exact ⟨u, by omega, u2⟩
theorem uNow.fr {c x : Nat} {Mc Mr Mc' Mr' : gM} {A B : gI → Nat → Prop} (hc : cf A Mc Mc') (hr : cf B Mr Mr') (h1 : ∀ q, ¬ A (34, c, 0) q) (h2 : ¬ A (30, c, 0) 9) (h3 : ¬ A (30, c, 0) 10) (h5 : ∀ q, ¬ B m_usedBy q) (h7 : ¬ B m_o 33) (h8 : ∀ q, q < 48 → q ≠ x → Mc' (51, 4 + c, 0) q = 1 → Mc (51, 4 + c, 0) q = 1) (U : uNow c x Mc Mr) : uNow c x Mc' Mr' := by
  refine ⟨by rw [hc _ _ h2, hc _ _ h3]; exact U.1, fun o ho hx hh => ?_⟩
  rw [hc _ _ (h1 o), hc _ _ h3, hr _ _ (h5 _), hr _ _ h7]
  exact U.2 o ho hx (h8 o ho hx hh)
/-- the reference has told what it throws -/
theorem St.thr {T k : Nat} {Mc Mr : gM} (hN : N ≤ 4) (h : St N T Mc Mr) (v : Int32) : St N (T + k) Mc (gset Mr m_o 66 v) := by
  obtain ⟨g, R, I, U, O⟩ := h
  have hr : cf (fun j q => j = m_o ∧ q = 66) Mr (gset Mr m_o 66 v) := cf.st ⟨rfl, rfl⟩
  refine ⟨g, R.fr hN (cf.rf _ _) (hr.mo (fun j q h => ?_)), I, (U.fr (cf.rf (fun _ _ => False) Mc) hr ?_ ?_ ?_ ?_ ?_ ?_).up (by omega), O.fr (cf.rf (fun _ _ => False) Mc) hr ?_ ?_ ?_⟩
  · obtain ⟨rfl, rfl⟩ := h; unfold rsc; dsimp only; omega
  · intro c q h; exact h
  · intro c h; exact h
  · intro q h; exact absurd h.1 (by decide)
  · intro q h; exact absurd h.1 (by decide)
  · intro h; exact absurd h.2 (by decide)
  · intro h; exact absurd h.2 (by decide)
  · intro c q h; exact h
  · intro c q h; exact h
  · intro q h; exact absurd h.1 (by decide)
end FI
/-! a part of the stores changes: the rest of what belongs together stays -/
def aSv (j : gI) (q : Nat) : Prop := ((51 ≤ j.1 ∧ j.1 ≤ 58) ∧ j.2.1 < 4) ∨ j.1 = 22 ∨ ((j.1 = 60 ∨ j.1 = 61 ∨ j.1 = 62 ∨ j.1 = 64) ∧ j.2.1 < 192)
def bSv (j : gI) (q : Nat) : Prop := 11 ≤ j.1 ∧ j.1 ≤ 21
def aKl (j : gI) (q : Nat) : Prop := ((51 ≤ j.1 ∧ j.1 ≤ 58) ∧ 4 ≤ j.2.1) ∨ j.1 = 31 ∨ j.1 = 32 ∨ j.1 = 33
def bKl (j : gI) (q : Nat) : Prop := (22 ≤ j.1 ∧ j.1 ≤ 27) ∨ j.1 = 30 ∨ j.1 = 32
def aLg (j : gI) (q : Nat) : Prop := (40 ≤ j.1 ∧ j.1 ≤ 45) ∨ (j.1 = 30 ∧ q = 11)
def bLg (j : gI) (q : Nat) : Prop := 35 ≤ j.1 ∧ j.1 ≤ 40
def aTl (j : gI) (q : Nat) : Prop := j.1 = 9
def bTl (j : gI) (q : Nat) : Prop := j.1 = 0 ∧ 45 ≤ q ∧ q ≤ 50
def aLo (j : gI) (q : Nat) : Prop := j.1 = 20
def bLo (j : gI) (q : Nat) : Prop := j.1 = 6
section RU
variable {N g : Nat} {Mc Mr Mc' Mr' : gM}
theorem Rel.srv (hN : N ≤ 4) (R : Rel N g Mc Mr) (hc : cf (fun j q => aSv j q ∨ csc j q) Mc Mc') (hr : cf (fun j q => bSv j q ∨ rsc j q) Mr Mr') (h9 : ∀ s, s < N → ∀ o, o < 48 → rSv N s o Mc' Mr') : Rel N g Mc' Mr' := by
  obtain ⟨co, cat, net, lo, sv, kl, lg, tl⟩ := R
  refine ⟨co.fr hc hr ?_ ?_, cat.fr hc hr ?_ ?_, net.fr hN hc hr ?_ ?_, lo.fr hc hr ?_ ?_, h9, fun c h o ho => (kl c h o ho).fr hN hc hr ?_ ?_, fun c h => (lg c h).fr hN hc hr ?_ ?_, tl.fr hc hr ?_ ?_⟩
  · intro j q; unfold kCo aSv csc; omega
  · intro j q; unfold lCo bSv rsc; omega
  · intro j q; unfold kCat aSv csc; omega
  · intro j q; unfold lCat bSv rsc; omega
  · intro j q; unfold kNet aSv csc; omega
  · intro j q; unfold lNet bSv rsc; omega
  · intro s; unfold aSv csc; dsimp only; omega
  · intro s; unfold bSv rsc; dsimp only; omega
  · intro j q; unfold kKl aSv csc; omega
  · intro j q; unfold lKl bSv rsc; omega
  · intro j q; unfold kLg aSv csc; omega
  · intro j q; unfold lLg bSv rsc; omega
  · intro j q; unfold kTl aSv csc; omega
  · intro j q; unfold lTl bSv rsc; omega
theorem Rel.cli (hN : N ≤ 4) (R : Rel N g Mc Mr) (hc : cf (fun j q => aKl j q ∨ csc j q) Mc Mc') (hr : cf (fun j q => bKl j q ∨ rsc j q) Mr Mr') (h9 : ∀ c, c < 4 → ∀ o, o < 48 → rKl N c o Mc' Mr') : Rel N g Mc' Mr' := by
  obtain ⟨co, cat, net, lo, sv, kl, lg, tl⟩ := R
  refine ⟨co.fr hc hr ?_ ?_, cat.fr hc hr ?_ ?_, net.fr hN hc hr ?_ ?_, lo.fr hc hr ?_ ?_, fun s hs o ho => (sv s hs o ho).fr hN hc hr ?_ ?_, h9, fun c h => (lg c h).fr hN hc hr ?_ ?_, tl.fr hc hr ?_ ?_⟩
  · intro j q; unfold kCo aKl csc; omega
  · intro j q; unfold lCo bKl rsc; omega
  · intro j q; unfold kCat aKl csc; omega
  · intro j q; unfold lCat bKl rsc; omega
  · intro j q; unfold kNet aKl csc; omega
  · intro j q; unfold lNet bKl rsc; omega
  · intro s; unfold aKl csc; dsimp only; omega
  · intro s; unfold bKl rsc; dsimp only; omega
  · intro j q; unfold kSv aKl csc; omega
  · intro j q; unfold lSv bKl rsc; omega
  · intro j q; unfold kLg aKl csc; omega
  · intro j q; unfold lLg bKl rsc; omega
  · intro j q; unfold kTl aKl csc; omega
  · intro j q; unfold lTl bKl rsc; omega
theorem Rel.log (hN : N ≤ 4) (R : Rel N g Mc Mr) (hc : cf (fun j q => aLg j q ∨ csc j q) Mc Mc') (hr : cf (fun j q => bLg j q ∨ rsc j q) Mr Mr') (h9 : ∀ c, c < 4 → rLg N c Mc' Mr') : Rel N g Mc' Mr' := by
  obtain ⟨co, cat, net, lo, sv, kl, lg, tl⟩ := R
  refine ⟨co.fr hc hr ?_ ?_, cat.fr hc hr ?_ ?_, net.fr hN hc hr ?_ ?_, lo.fr hc hr ?_ ?_, fun s hs o ho => (sv s hs o ho).fr hN hc hr ?_ ?_, fun c h o ho => (kl c h o ho).fr hN hc hr ?_ ?_, h9, tl.fr hc hr ?_ ?_⟩
  · intro j q; unfold kCo aLg csc; omega
  · intro j q; unfold lCo bLg rsc; omega
  · intro j q; unfold kCat aLg csc; omega
  · intro j q; unfold lCat bLg rsc; omega
  · intro j q; unfold kNet aLg csc; omega
  · intro j q; unfold lNet bLg rsc; omega
  · intro s; unfold aLg csc; dsimp only; omega
  · intro s; unfold bLg rsc; dsimp only; omega
  · intro j q; unfold kSv aLg csc; omega
  · intro j q; unfold lSv bLg rsc; omega
  · intro j q; unfold kKl aLg csc; omega
  · intro j q; unfold lKl bLg rsc; omega
  · intro j q; unfold kTl aLg csc; omega
  · intro j q; unfold lTl bLg rsc; omega
theorem Rel.tal (hN : N ≤ 4) (R : Rel N g Mc Mr) (hc : cf (fun j q => aTl j q ∨ csc j q) Mc Mc') (hr : cf (fun j q => bTl j q ∨ rsc j q) Mr Mr') (h9 : rTl Mc' Mr') : Rel N g Mc' Mr' := by
  obtain ⟨co, cat, net, lo, sv, kl, lg, tl⟩ := R
  refine ⟨co.fr hc hr ?_ ?_, cat.fr hc hr ?_ ?_, net.fr hN hc hr ?_ ?_, lo.fr hc hr ?_ ?_, fun s hs o ho => (sv s hs o ho).fr hN hc hr ?_ ?_, fun c h o ho => (kl c h o ho).fr hN hc hr ?_ ?_, fun c h => (lg c h).fr hN hc hr ?_ ?_, h9⟩
  · intro j q; unfold kCo aTl csc; omega
  · intro j q; unfold lCo bTl rsc; omega
  · intro j q; unfold kCat aTl csc; omega
  · intro j q; unfold lCat bTl rsc; omega
  · intro j q; unfold kNet aTl csc; omega
  · intro j q; unfold lNet bTl rsc; omega
  · intro s; unfold aTl csc; dsimp only; omega
  · intro s; unfold bTl rsc; dsimp only; omega
  · intro j q; unfold kSv aTl csc; omega
  · intro j q; unfold lSv bTl rsc; omega
  · intro j q; unfold kKl aTl csc; omega
  · intro j q; unfold lKl bTl rsc; omega
  · intro j q; unfold kLg aTl csc; omega
  · intro j q; unfold lLg bTl rsc; omega
theorem Rel.los (hN : N ≤ 4) (R : Rel N g Mc Mr) (hc : cf (fun j q => aLo j q ∨ csc j q) Mc Mc') (hr : cf (fun j q => bLo j q ∨ rsc j q) Mr Mr') (h9 : rLo N Mc' Mr') : Rel N g Mc' Mr' := by
  obtain ⟨co, cat, net, lo, sv, kl, lg, tl⟩ := R
  refine ⟨co.fr hc hr ?_ ?_, cat.fr hc hr ?_ ?_, net.fr hN hc hr ?_ ?_, h9, fun s hs o ho => (sv s hs o ho).fr hN hc hr ?_ ?_, fun c h o ho => (kl c h o ho).fr hN hc hr ?_ ?_, fun c h => (lg c h).fr hN hc hr ?_ ?_, tl.fr hc hr ?_ ?_⟩
  · intro j q; unfold kCo aLo csc; omega
  · intro j q; unfold lCo bLo rsc; omega
  · intro j q; unfold kCat aLo csc; omega
  · intro j q; unfold lCat bLo rsc; omega
  · intro j q; unfold kNet aLo csc; omega
  · intro j q; unfold lNet bLo rsc; omega
  · intro j q; unfold kSv aLo csc; omega
  · intro j q; unfold lSv bLo rsc; omega
  · intro j q; unfold kKl aLo csc; omega
  · intro j q; unfold lKl bLo rsc; omega
  · intro j q; unfold kLg aLo csc; omega
  · intro j q; unfold lLg bLo rsc; omega
  · intro j q; unfold kTl aLo csc; omega
  · intro j q; unfold lTl bLo rsc; omega
theorem Inv.srv (hN : N ≤ 4) (I : Inv N g Mc) (hc : cf (fun j q => aSv j q ∨ csc j q) Mc Mc') (hsv : ∀ s, s < N → ∀ o, o < 48 → iSv g s o Mc') (hvr : ∀ s, s < N → ∀ o, o < 48 → iVr s o Mc') (hlg : ∀ c, c < 4 → iLg N g c Mc') : Inv N g Mc' := by
  obtain ⟨cat, lo, sv, vr, kl, w, lg, mk⟩ := I
  refine ⟨cat.fr hc ?_, fun s hs => ?_, hsv, hvr, fun c h o ho => (kl c h o ho).fr hN hc ?_, fun c h => (w c h).fr hc ?_, hlg, mk.fr hc ?_⟩
  · intro j q; unfold eCat aSv csc; omega
  · rw [hc (20, s, 0) 3 (by unfold aSv csc; dsimp only; omega)]; exact lo s hs
  · intro j q; unfold eKl aSv csc; omega
  · intro j q; unfold eWt aSv csc; omega
  · intro t c q h1 h2; unfold aSv csc; dsimp only; omega
theorem Inv.cli (hN : N ≤ 4) (I : Inv N g Mc) (hc : cf (fun j q => aKl j q ∨ csc j q) Mc Mc') (hkl : ∀ c, c < 4 → ∀ o, o < 48 → iKl N g c o Mc') (hw : ∀ c, c < 4 → iWt Mc' c) (hlg : ∀ c, c < 4 → iLg N g c Mc') : Inv N g Mc' := by
  obtain ⟨cat, lo, sv, vr, kl, w, lg, mk⟩ := I
  refine ⟨cat.fr hc ?_, fun s hs => ?_, fun s hs o ho => (sv s hs o ho).fr ho hc ?_, fun s hs o ho => (vr s hs o ho).fr hc ?_, hkl, hw, hlg, mk.fr hc ?_⟩
  · intro j q; unfold eCat aKl csc; omega
  · rw [hc (20, s, 0) 3 (by unfold aKl csc; dsimp only; omega)]; exact lo s hs
  · intro j q; unfold eSv aKl csc; omega
  · intro j q; unfold eVr aKl csc; omega
  · intro t c q h1 h2; unfold aKl csc; dsimp only; omega
theorem Inv.log (hN : N ≤ 4) (I : Inv N g Mc) (hc : cf (fun j q => aLg j q ∨ csc j q) Mc Mc') (hlg : ∀ c, c < 4 → iLg N g c Mc') (hmk : iMk Mc') : Inv N g Mc' := by
  obtain ⟨cat, lo, sv, vr, kl, w, lg, mk⟩ := I
  refine ⟨cat.fr hc ?_, fun s hs => ?_, fun s hs o ho => (sv s hs o ho).fr ho hc ?_, fun s hs o ho => (vr s hs o ho).fr hc ?_, fun c h o ho => (kl c h o ho).fr hN hc ?_, fun c h => (w c h).fr hc ?_, hlg, hmk⟩
  · intro j q; unfold eCat aLg csc; omega
  · rw [hc (20, s, 0) 3 (by unfold aLg csc; dsimp only; omega)]; exact lo s hs
  · intro j q; unfold eSv aLg csc; omega
  · intro j q; unfold eVr aLg csc; omega
  · intro j q; unfold eKl aLg csc; omega
  · intro j q; unfold eWt aLg csc; omega
theorem Inv.tal (hN : N ≤ 4) (I : Inv N g Mc) (hc : cf (fun j q => aTl j q ∨ csc j q) Mc Mc')  : Inv N g Mc' := by
  obtain ⟨cat, lo, sv, vr, kl, w, lg, mk⟩ := I
  refine ⟨cat.fr hc ?_, fun s hs => ?_, fun s hs o ho => (sv s hs o ho).fr ho hc ?_, fun s hs o ho => (vr s hs o ho).fr hc ?_, fun c h o ho => (kl c h o ho).fr hN hc ?_, fun c h => (w c h).fr hc ?_, fun c h => (lg c h).fr cat.1 hc ?_, mk.fr hc ?_⟩
  · intro j q; unfold eCat aTl csc; omega
  · rw [hc (20, s, 0) 3 (by unfold aTl csc; dsimp only; omega)]; exact lo s hs
  · intro j q; unfold eSv aTl csc; omega
  · intro j q; unfold eVr aTl csc; omega
  · intro j q; unfold eKl aTl csc; omega
  · intro j q; unfold eWt aTl csc; omega
  · intro j q; unfold eLg aTl csc; omega
  · intro t c q h1 h2; unfold aTl csc; dsimp only; omega
theorem Inv.los (hN : N ≤ 4) (I : Inv N g Mc) (hc : cf (fun j q => aLo j q ∨ csc j q) Mc Mc') (hlo : ∀ s, s < N → Mc' (20, s, 0) 3 = 0 ∨ Mc' (20, s, 0) 3 = 1) : Inv N g Mc' := by
  obtain ⟨cat, lo, sv, vr, kl, w, lg, mk⟩ := I
  refine ⟨cat.fr hc ?_, hlo, fun s hs o ho => (sv s hs o ho).fr ho hc ?_, fun s hs o ho => (vr s hs o ho).fr hc ?_, fun c h o ho => (kl c h o ho).fr hN hc ?_, fun c h => (w c h).fr hc ?_, fun c h => (lg c h).fr cat.1 hc ?_, mk.fr hc ?_⟩
  · intro j q; unfold eCat aLo csc; omega
  · intro j q; unfold eSv aLo csc; omega
  · intro j q; unfold eVr aLo csc; omega
  · intro j q; unfold eKl aLo csc; omega
  · intro j q; unfold eWt aLo csc; omega
  · intro j q; unfold eLg aLo csc; omega
  · intro t c q h1 h2; unfold aLo csc; dsimp only; omega
end RU
/-! arguments in range, or not -/
theorem rng (a : Int32) (n : Nat) (hn : n < 2 ^ 31) : (∃ k, k < n ∧ a = nI k) ∨ (a < 0 ∨ nI n ≤ a) := by
  by_cases h0 : a < 0
  · exact Or.inr (Or.inl h0)
  · by_cases h1 : nI n ≤ a
    · exact Or.inr (Or.inr h1)
    · left
      obtain ⟨j, hj, rfl⟩ := nI_of h0
      refine ⟨j, ?_, rfl⟩
      rcases Nat.lt_or_ge j n with h | h
      · exact h
      · exact absurd (nI_le h hj) h1
theorem bad_lt {a : Int32} {n : Nat} (h : a < 0 ∨ nI n ≤ a) : a < 0 ∨ ¬ a < nI n := h.elim Or.inl (fun h => Or.inr (Int32.not_lt.mpr h))
theorem nI_n0 {k : Nat} (h : k < 2 ^ 31) : (nI k < (0 : Int32)) = False := eq_false (nI_pos h)
theorem in_ok {M : gM} {k n : Nat} {hi : Int32} (h : k < n) (hn : n < 2 ^ 31) (e : hi = nI (n - 1)) : f_X11_in M (nI k) (0 : Int32) hi = some 1 := by
  unfold f_X11_in
  rw [if_neg (nI_pos (by omega)), e, if_neg (nI_nlt (by omega) (by omega))]
theorem in_bad {M : gM} {a : Int32} {n : Nat} {hi : Int32} (h : a < 0 ∨ nI n ≤ a) (h1 : 1 ≤ n) (hn : n < 2 ^ 31) (e : hi = nI (n - 1)) : f_X11_in M a (0 : Int32) hi = some 0 := by
  unfold f_X11_in
  by_cases h0 : a < 0
  · rw [if_pos h0]
  · rw [if_neg h0, e]
    have h2 := h.resolve_left h0
    obtain ⟨j, hj, rfl⟩ := nI_of h0
    have : n ≤ j := (nI_leI (by omega) hj).mp h2
    rw [if_pos (nI_lt (by omega) hj)]
theorem r_isServer_ok {M : gM} {N s : Nat} (h : M m_o 0 = nI N) (hN : N ≤ 4) (hs : s < N) : f_X11_isServer M (nI s) = some 1 := by
  unfold f_X11_isServer
  rw [lt_d, h, in_ok hs (by omega) (nI_s1 (by omega)), o1_s, gz_1]
theorem r_isServer_bad {M : gM} {N : Nat} {a : Int32} (h : M m_o 0 = nI N) (h1 : 1 ≤ N) (hN : N ≤ 4) (hs : a < 0 ∨ nI N ≤ a) : f_X11_isServer M a = some 0 := by
  unfold f_X11_isServer
  rw [lt_d, h, in_bad hs h1 (by omega) (nI_s1 (by omega)), o1_s, gz_0]
theorem r_isClient_ok {M : gM} {c : Nat} (hs : c < 4) : f_X11_isClient M (nI c) = some 1 := by
  unfold f_X11_isClient
  rw [in_ok (n := 4) (hi := 3) hs (by omega) rfl, o1_s, gz_1]
theorem r_isClient_bad {M : gM} {a : Int32} (hs : a < 0 ∨ nI 4 ≤ a) : f_X11_isClient M a = some 0 := by
  unfold f_X11_isClient
  rw [in_bad (n := 4) (hi := 3) hs (by omega) (by omega) rfl, o1_s, gz_0]
theorem r_isObject_ok {M : gM} {c : Nat} (hs : c < 48) : f_X11_isObject M (nI c) = some 1 := by
  unfold f_X11_isObject
  rw [in_ok (n := 48) (hi := 47) hs (by omega) rfl, o1_s, gz_1]
theorem r_isObject_bad {M : gM} {a : Int32} (hs : a < 0 ∨ nI 48 ≤ a) : f_X11_isObject M a = some 0 := by
  unfold f_X11_isObject
  rw [in_bad (n := 48) (hi := 47) hs (by omega) (by omega) rfl, o1_s, gz_0]
section CH
variable {N : Nat} {M : gM} {a : Int32} {k : Nat}
theorem c_checkServer_ok (h : M (0, 0, 0) 0 = nI N) (hN : N ≤ 4) (hs : k < N) : f_X10_checkServer N M (nI k) = some 0 := by
  unfold f_X10_checkServer
  rw [jn_d, if_neg (nI_pos (by omega)), lt_d, h, if_pos (nI_lt hs (by omega))]
theorem c_checkServer_bad (h : M (0, 0, 0) 0 = nI N) (hs : a < 0 ∨ nI N ≤ a) : f_X10_checkServer N M a = some 1 := by
  unfold f_X10_checkServer
  rw [jn_d]
  by_cases h0 : a < 0
  · rw [if_pos h0]
  · rw [if_neg h0, lt_d, h, if_neg (Int32.not_lt.mpr (hs.resolve_left h0))]
theorem c_checkClient_ok (hs : k < 4) : f_X10_checkClient N M (nI k) = some 0 := by
  unfold f_X10_checkClient
  rw [jn_d, if_neg (nI_pos (by omega)), if_pos (lt_4 hs)]
theorem c_checkClient_bad (hs : a < 0 ∨ nI 4 ≤ a) : f_X10_checkClient N M a = some 1 := by
  unfold f_X10_checkClient
  rw [jn_d]
  by_cases h0 : a < 0
  · rw [if_pos h0]
  · rw [if_neg h0, if_neg (show ¬ a < (4 : Int32) from Int32.not_lt.mpr (hs.resolve_left h0))]
theorem c_checkObject_ok (hs : k < 48) : f_X10_checkObject N M (nI k) = some 0 := by
  unfold f_X10_checkObject
  rw [jn_d, if_neg (nI_pos (by omega)), if_pos (lt_48 hs)]
theorem c_checkObject_bad (hs : a < 0 ∨ nI 48 ≤ a) : f_X10_checkObject N M a = some 1 := by
  unfold f_X10_checkObject
  rw [jn_d]
  by_cases h0 : a < 0
  · rw [if_pos h0]
  · rw [if_neg h0, if_neg (show ¬ a < (48 : Int32) from Int32.not_lt.mpr (hs.resolve_left h0))]
theorem c_checkWhat_ok {n : Nat} {hi : Int32} (hs : k < n) (hn : n < 2 ^ 31) (e : hi = nI (n - 1)) : f_X10_checkWhat N M (nI k) hi = some 0 := by
  unfold f_X10_checkWhat
  rw [jn_d, if_neg (nI_pos (by omega)), e, if_pos (nI_le (by omega) (by omega))]
theorem c_checkWhat_bad {n : Nat} {hi : Int32} (hs : a < 0 ∨ nI n ≤ a) (h1 : 1 ≤ n) (hn : n < 2 ^ 31) (e : hi = nI (n - 1)) : f_X10_checkWhat N M a hi = some 1 := by
  unfold f_X10_checkWhat
  rw [jn_d]
  by_cases h0 : a < 0
  · rw [if_pos h0]
  · rw [if_neg h0, e]
    have h2 := hs.resolve_left h0
    obtain ⟨j, hj, rfl⟩ := nI_of h0
    have : n ≤ j := (nI_leI (by omega) hj).mp h2
    rw [if_neg (nI_ge (by omega) (by omega))]
theorem c_checkArgument_ok {n : Nat} {hi : Int32} (hs : k < n) (hn : n < 2 ^ 31) (e : hi = nI (n - 1)) : f_X10_checkArgument N M (nI k) hi = some 0 := by
  unfold f_X10_checkArgument
  rw [jn_d, if_neg (nI_pos (by omega)), e, if_pos (nI_le (by omega) (by omega))]
theorem c_checkArgument_bad {n : Nat} {hi : Int32} (hs : a < 0 ∨ nI n ≤ a) (h1 : 1 ≤ n) (hn : n < 2 ^ 31) (e : hi = nI (n - 1)) : f_X10_checkArgument N M a hi = some 2 := by
  unfold f_X10_checkArgument
  rw [jn_d]
  by_cases h0 : a < 0
  · rw [if_pos h0]
  · rw [if_neg h0, e]
    have h2 := hs.resolve_left h0
    obtain ⟨j, hj, rfl⟩ := nI_of h0
    have : n ≤ j := (nI_leI (by omega) hj).mp h2
    rw [if_neg (nI_ge (by omega) (by omega))]
end CH
