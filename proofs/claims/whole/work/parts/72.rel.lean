/-! layer 2: how the class's store and the reference's belong together -/
def rCo (N : Nat) (Mc Mr : gM) : Prop := Mc (0, 0, 0) 0 = nI N ∧ Mc (5, 0, 0) 0 = nI N ∧ (∀ c, c < 4 → Mc (30, c, 0) 0 = nI c) ∧ Mr m_o 0 = nI N ∧ Mr m_o 1 = nI (N + 4)
def rCat (g : Nat) (Mc Mr : gM) : Prop := Mc (1, 0, 0) 3 = nI g ∧ Mr m_o 6 = nI (g + 1) ∧ ∀ o, o < 48 → Mc (2, 0, 0) o = Mr m_parent o ∧ Mc (3, 0, 0) o = Mr m_name o ∧ Mc (4, 0, 0) o = Mr m_isDirectory o
def rNet (N : Nat) (Mc Mr : gM) : Prop := Mc (5, 0, 0) 2 = sS (fun s => nz (Mr m_up s)) N ∧ (∀ s, s < N → (∀ t, t < N → t ≠ s → bt (Mc (6, 0, 0) s) t = !nz (Mr m_linked (4 * s + t))) ∧ bt (Mc (6, 0, 0) s) s = false ∧ ∀ c, c < 4 → bt (Mc (6, 0, 0) s) (4 + c) = !nz (Mr m_reaches (4 * c + s))) ∧ ∀ s, s < N → (Mr m_up s = 0 ∨ Mr m_up s = 1) ∧ (∀ t, t < N → Mr m_linked (4 * s + t) = 0 ∨ Mr m_linked (4 * s + t) = 1) ∧ ∀ c, c < 4 → Mr m_reaches (4 * c + s) = 0 ∨ Mr m_reaches (4 * c + s) = 1
def rLo (N : Nat) (Mc Mr : gM) : Prop := ∀ s, s < N → Mc (20, s, 0) 3 = Mr m_loses s
/-- server s, object o -/
def rSv (N s o : Nat) (Mc Mr : gM) : Prop := Mc (51, s, 0) o = Mr m_has (48 * s + o) ∧ Mc (52, s, 0) o = (if Mr m_has (48 * s + o) = 0 ∨ ¬ Mr m_isDirectory o = 0 then 0 else Mr m_value (48 * s + o)) ∧ Mc (53, s, 0) o = (if Mr m_has (48 * s + o) = 0 ∨ ¬ Mr m_isDirectory o = 0 then 0 else Mr m_size (48 * s + o)) ∧ (∀ k, k < N + 4 → Mc (55, s, o) k = if Mr m_has (48 * s + o) = 0 then 0 else Mr m_vector (8 * (48 * s + o) + k)) ∧ Mc (56, s, 0) o = Mr m_entry (48 * s + o) ∧ (∀ k, k < N + 4 → Mc (58, s, o) k = if Mr m_entry (48 * s + o) = 2 then Mr m_gone (8 * (48 * s + o) + k) else 0) ∧ Mc (22, s, 0) o = Mr m_marks (48 * s + o) ∧ Mc (60, 48 * s + o, 0) 3 = Mr m_versions (48 * s + o) ∧ ∀ i, i < 6 → nI i < Mr m_versions (48 * s + o) → Mc (61, 48 * s + o, 0) i = Mr m_versionValue (6 * (48 * s + o) + i) ∧ Mc (62, 48 * s + o, 0) i = Mr m_versionSize (6 * (48 * s + o) + i) ∧ ∀ k, k < N + 4 → Mc (64, 48 * s + o, i) k = Mr m_versionVector (8 * (6 * (48 * s + o) + i) + k)
/-- client c, object o -/
def rKl (N c o : Nat) (Mc Mr : gM) : Prop := Mc (51, 4 + c, 0) o = Mr m_kept (48 * c + o) ∧ Mc (52, 4 + c, 0) o = (if Mr m_kept (48 * c + o) = 0 ∨ ¬ Mr m_isDirectory o = 0 then 0 else Mr m_keptValue (48 * c + o)) ∧ Mc (53, 4 + c, 0) o = (if Mr m_kept (48 * c + o) = 0 ∨ ¬ Mr m_isDirectory o = 0 then 0 else Mr m_keptSize (48 * c + o)) ∧ (∀ k, k < N + 4 → Mc (55, 4 + c, o) k = if Mr m_kept (48 * c + o) = 0 then 0 else Mr m_keptVector (8 * (48 * c + o) + k)) ∧ Mc (56, 4 + c, 0) o = Mr m_keptEntry (48 * c + o) ∧ Mc (31, c, 0) o = Mr m_priorities (48 * c + o) ∧ Mc (32, c, 0) o = Mr m_promised (48 * c + o) ∧ Mc (33, c, 0) o = Mr m_dirty (48 * c + o)
/-- client c's log -/
def rLg (N c : Nat) (Mc Mr : gM) : Prop := Mc (40, c, 0) 4 = Mr m_records c ∧ Mc (30, c, 0) 11 = Mr m_versionsTold c ∧ ∀ i, i < 12 → nI i < Mr m_records c → Mc (41, c, 0) i = Mr m_recordKind (12 * c + i) ∧ Mc (42, c, 0) i = Mr m_recordObject (12 * c + i) ∧ Mc (43, c, 0) i = Mr m_recordDirectory (12 * c + i) ∧ ∀ k, k < N + 4 → Mc (45, c, i) k = Mr m_recordVector (8 * (12 * c + i) + k)
def rTl (Mc Mr : gM) : Prop := ∀ k, 1 ≤ k → k ≤ 6 → Mc (9, 0, 0) k = Mr m_o (44 + k)
def Rel (N g : Nat) (Mc Mr : gM) : Prop := rCo N Mc Mr ∧ rCat g Mc Mr ∧ rNet N Mc Mr ∧ rLo N Mc Mr ∧ (∀ s, s < N → ∀ o, o < 48 → rSv N s o Mc Mr) ∧ (∀ c, c < 4 → ∀ o, o < 48 → rKl N c o Mc Mr) ∧ (∀ c, c < 4 → rLg N c Mc Mr) ∧ rTl Mc Mr
/-! frames: what a store's change leaves -/
def cf (A : gI → Nat → Prop) (M M' : gM) : Prop := ∀ j q, ¬ A j q → M' j q = M j q
theorem cf.rf (A : gI → Nat → Prop) (M : gM) : cf A M M := fun _ _ _ => rfl
theorem cf.tr {A : gI → Nat → Prop} {M M' M'' : gM} (h1 : cf A M M') (h2 : cf A M' M'') : cf A M M'' := fun j q h => (h2 j q h).trans (h1 j q h)
theorem cf.mo {A B : gI → Nat → Prop} {M M' : gM} (h : cf A M M') (hs : ∀ j q, A j q → B j q) : cf B M M' := fun j q hn => h j q (fun ha => hn (hs j q ha))
theorem cf.st {A : gI → Nat → Prop} {M : gM} {i : gI} {k : Nat} {v : Int32} (h : A i k) : cf A M (gset M i k v) := fun j q hn => by
  rw [gset_r]
  by_cases e : j = i ∧ q = k
  · obtain ⟨rfl, rfl⟩ := e; exact absurd h hn
  · rw [if_neg e]
theorem cf.pu {A : gI → Nat → Prop} {M : gM} {i : gI} {b n : Nat} {f : Nat → Int32} (h : ∀ q, b ≤ q → q < b + n → A i q) : cf A M (gpu M i b n f) := fun j q hn => by
  rw [gpu_r]
  by_cases e : j = i ∧ b ≤ q ∧ q < b + n
  · obtain ⟨rfl, e1, e2⟩ := e; exact absurd (h q e1 e2) hn
  · rw [if_neg e]
section FR
variable {N g : Nat} {Mc Mr Mc' Mr' : gM} {A B : gI → Nat → Prop}
def kCo (j : gI) (q : Nat) : Prop := (j.1 = 0 ∨ j.1 = 5 ∨ j.1 = 30) ∧ q = 0
def lCo (j : gI) (q : Nat) : Prop := j.1 = 0 ∧ (q = 0 ∨ q = 1)
theorem rCo.fr (hc : cf A Mc Mc') (hr : cf B Mr Mr') (h1 : ∀ j q, kCo j q → ¬ A j q) (h2 : ∀ j q, lCo j q → ¬ B j q) (h : rCo N Mc Mr) : rCo N Mc' Mr' := by
  obtain ⟨c1, c2, c3, c4, c5⟩ := h
  refine ⟨?_, ?_, fun c h => ?_, ?_, ?_⟩
  · rw [hc _ _ (h1 _ _ ⟨Or.inl rfl, rfl⟩)]; exact c1
  · rw [hc _ _ (h1 _ _ ⟨Or.inr (Or.inl rfl), rfl⟩)]; exact c2
  · rw [hc _ _ (h1 _ _ ⟨Or.inr (Or.inr rfl), rfl⟩)]; exact c3 c h
  · rw [hr _ _ (h2 _ _ ⟨rfl, Or.inl rfl⟩)]; exact c4
  · rw [hr _ _ (h2 _ _ ⟨rfl, Or.inr rfl⟩)]; exact c5
def kCat (j : gI) (q : Nat) : Prop := (j.1 = 1 ∧ q = 3) ∨ ((j.1 = 2 ∨ j.1 = 3 ∨ j.1 = 4) ∧ q < 48)
def lCat (j : gI) (q : Nat) : Prop := (j.1 = 0 ∧ q = 6) ∨ ((j.1 = 8 ∨ j.1 = 9 ∨ j.1 = 10) ∧ q < 48)
theorem rCat.fr (hc : cf A Mc Mc') (hr : cf B Mr Mr') (h1 : ∀ j q, kCat j q → ¬ A j q) (h2 : ∀ j q, lCat j q → ¬ B j q) (h : rCat g Mc Mr) : rCat g Mc' Mr' := by
  obtain ⟨c1, c2, c3⟩ := h
  refine ⟨?_, ?_, fun o ho => ?_⟩
  · rw [hc _ _ (h1 _ _ (Or.inl ⟨rfl, rfl⟩))]; exact c1
  · rw [hr _ _ (h2 _ _ (Or.inl ⟨rfl, rfl⟩))]; exact c2
  · rw [hc (2, 0, 0) _ (h1 _ _ (Or.inr ⟨Or.inl rfl, ho⟩)), hc (3, 0, 0) _ (h1 _ _ (Or.inr ⟨Or.inr (Or.inl rfl), ho⟩)), hc (4, 0, 0) _ (h1 _ _ (Or.inr ⟨Or.inr (Or.inr rfl), ho⟩)), hr m_parent _ (h2 _ _ (Or.inr ⟨Or.inl rfl, ho⟩)), hr m_name _ (h2 _ _ (Or.inr ⟨Or.inr (Or.inl rfl), ho⟩)), hr m_isDirectory _ (h2 _ _ (Or.inr ⟨Or.inr (Or.inr rfl), ho⟩))]
    exact c3 o ho
def kNet (j : gI) (q : Nat) : Prop := (j.1 = 5 ∧ q = 2) ∨ (j.1 = 6 ∧ q < 4)
def lNet (j : gI) (q : Nat) : Prop := (j.1 = 3 ∧ q < 4) ∨ ((j.1 = 4 ∨ j.1 = 5) ∧ q < 16)
theorem rNet.fr (hN : N ≤ 4) (hc : cf A Mc Mc') (hr : cf B Mr Mr') (h1 : ∀ j q, kNet j q → ¬ A j q) (h2 : ∀ j q, lNet j q → ¬ B j q) (h : rNet N Mc Mr) : rNet N Mc' Mr' := by
  obtain ⟨c1, c2, c3⟩ := h
  refine ⟨?_, fun s hs => ?_, fun s hs => ?_⟩
  · rw [hc _ _ (h1 _ _ (Or.inl ⟨rfl, rfl⟩)), c1]
    exact sN_congr _ _ _ (fun j _ hj => by rw [hr m_up j (h2 _ _ (Or.inl ⟨rfl, by omega⟩))])
  · obtain ⟨d1, d2, d3⟩ := c2 s hs
    rw [hc (6, 0, 0) _ (h1 _ _ (Or.inr ⟨rfl, by omega⟩))]
    refine ⟨fun t ht hn => ?_, d2, fun c h => ?_⟩
    · rw [hr m_linked _ (h2 _ _ (Or.inr ⟨Or.inl rfl, by omega⟩))]; exact d1 t ht hn
    · rw [hr m_reaches _ (h2 _ _ (Or.inr ⟨Or.inr rfl, by omega⟩))]; exact d3 c h
  · obtain ⟨d1, d2, d3⟩ := c3 s hs
    refine ⟨?_, fun t ht => ?_, fun c h => ?_⟩
    · rw [hr m_up _ (h2 _ _ (Or.inl ⟨rfl, by omega⟩))]; exact d1
    · rw [hr m_linked _ (h2 _ _ (Or.inr ⟨Or.inl rfl, by omega⟩))]; exact d2 t ht
    · rw [hr m_reaches _ (h2 _ _ (Or.inr ⟨Or.inr rfl, by omega⟩))]; exact d3 c h
theorem rLo.fr (hc : cf A Mc Mc') (hr : cf B Mr Mr') (h1 : ∀ s, ¬ A (20, s, 0) 3) (h2 : ∀ s, ¬ B m_loses s) (h : rLo N Mc Mr) : rLo N Mc' Mr' := fun s hs => by
  rw [hc _ _ (h1 s), hr _ _ (h2 s)]
  exact h s hs
def kSv (s o : Nat) (j : gI) (q : Nat) : Prop := ((j.1 = 51 ∨ j.1 = 52 ∨ j.1 = 53 ∨ j.1 = 56 ∨ j.1 = 22) ∧ j.2.1 = s ∧ q = o) ∨ ((j.1 = 55 ∨ j.1 = 58) ∧ j.2.1 = s ∧ j.2.2 = o) ∨ ((j.1 = 60 ∨ j.1 = 61 ∨ j.1 = 62 ∨ j.1 = 64) ∧ j.2.1 = 48 * s + o)
def lSv (s o : Nat) (j : gI) (q : Nat) : Prop := ((j.1 = 11 ∨ j.1 = 12 ∨ j.1 = 13 ∨ j.1 = 15 ∨ j.1 = 19 ∨ j.1 = 21) ∧ q = 48 * s + o) ∨ ((j.1 = 14 ∨ j.1 = 20) ∧ 8 * (48 * s + o) ≤ q ∧ q < 8 * (48 * s + o) + 8) ∨ ((j.1 = 16 ∨ j.1 = 17) ∧ 6 * (48 * s + o) ≤ q ∧ q < 6 * (48 * s + o) + 6) ∨ (j.1 = 18 ∧ 48 * (48 * s + o) ≤ q ∧ q < 48 * (48 * s + o) + 48) ∨ (j.1 = 10 ∧ q = o)
theorem rSv.fr {s o : Nat} (hN : N ≤ 4) (hc : cf A Mc Mc') (hr : cf B Mr Mr') (h1 : ∀ j q, kSv s o j q → ¬ A j q) (h2 : ∀ j q, lSv s o j q → ¬ B j q) (h : rSv N s o Mc Mr) : rSv N s o Mc' Mr' := by
  have e0 : ∀ t, (t = 51 ∨ t = 52 ∨ t = 53 ∨ t = 56 ∨ t = 22) → Mc' (t, s, 0) o = Mc (t, s, 0) o := fun t ht => hc _ _ (h1 _ _ (Or.inl ⟨ht, rfl, rfl⟩))
  have e1 : ∀ t, (t = 55 ∨ t = 58) → ∀ q, Mc' (t, s, o) q = Mc (t, s, o) q := fun t ht q => hc _ _ (h1 _ _ (Or.inr (Or.inl ⟨ht, rfl, rfl⟩)))
  have e2 : ∀ t, (t = 60 ∨ t = 61 ∨ t = 62 ∨ t = 64) → ∀ b q, Mc' (t, 48 * s + o, b) q = Mc (t, 48 * s + o, b) q := fun t ht b q => hc _ _ (h1 _ _ (Or.inr (Or.inr ⟨ht, rfl⟩)))
  have d0 : ∀ t, (t = 11 ∨ t = 12 ∨ t = 13 ∨ t = 15 ∨ t = 19 ∨ t = 21) → Mr' (t, 0, 0) (48 * s + o) = Mr (t, 0, 0) (48 * s + o) := fun t ht => hr _ _ (h2 _ _ (Or.inl ⟨ht, rfl⟩))
  have d1 : ∀ t, (t = 14 ∨ t = 20) → ∀ k, k < N + 4 → Mr' (t, 0, 0) (8 * (48 * s + o) + k) = Mr (t, 0, 0) (8 * (48 * s + o) + k) := fun t ht k hk => hr _ _ (h2 _ _ (Or.inr (Or.inl ⟨ht, by omega, by omega⟩)))
  have d2 : ∀ t, (t = 16 ∨ t = 17) → ∀ i, i < 6 → Mr' (t, 0, 0) (6 * (48 * s + o) + i) = Mr (t, 0, 0) (6 * (48 * s + o) + i) := fun t ht k hk => hr _ _ (h2 _ _ (Or.inr (Or.inr (Or.inl ⟨ht, by omega, by omega⟩))))
  have d3 : ∀ i, i < 6 → ∀ k, k < N + 4 → Mr' m_versionVector (8 * (6 * (48 * s + o) + i) + k) = Mr m_versionVector (8 * (6 * (48 * s + o) + i) + k) := fun i hi k hk => hr _ _ (h2 _ _ (Or.inr (Or.inr (Or.inr (Or.inl ⟨rfl, by omega, by omega⟩)))))
  have d4 : Mr' m_isDirectory o = Mr m_isDirectory o := hr _ _ (h2 _ _ (Or.inr (Or.inr (Or.inr (Or.inr ⟨rfl, rfl⟩)))))
  obtain ⟨f1, f2, f3, f4, f5, f6, f7, f8, f9⟩ := h
  have g1 : Mr' m_has (48 * s + o) = Mr m_has (48 * s + o) := d0 11 (by omega)
  have g5 : Mr' m_entry (48 * s + o) = Mr m_entry (48 * s + o) := d0 19 (by omega)
  have g8 : Mr' m_versions (48 * s + o) = Mr m_versions (48 * s + o) := d0 15 (by omega)
  refine ⟨?_, ?_, ?_, fun k hk => ?_, ?_, fun k hk => ?_, ?_, ?_, fun i hi hl => ?_⟩
  · rw [e0 51 (by omega), g1]; exact f1
  · rw [e0 52 (by omega), g1, d4, show Mr' m_value (48 * s + o) = _ from d0 12 (by omega)]; exact f2
  · rw [e0 53 (by omega), g1, d4, show Mr' m_size (48 * s + o) = _ from d0 13 (by omega)]; exact f3
  · rw [e1 55 (by omega), g1, show Mr' m_vector (8 * (48 * s + o) + k) = _ from d1 14 (by omega) k hk]; exact f4 k hk
  · rw [e0 56 (by omega), g5]; exact f5
  · rw [e1 58 (by omega), g5, show Mr' m_gone (8 * (48 * s + o) + k) = _ from d1 20 (by omega) k hk]; exact f6 k hk
  · rw [e0 22 (by omega), show Mr' m_marks (48 * s + o) = _ from d0 21 (by omega)]; exact f7
  · rw [e2 60 (by omega), g8]; exact f8
  · rw [g8] at hl
    obtain ⟨z1, z2, z3⟩ := f9 i hi hl
    rw [e2 61 (by omega), e2 62 (by omega), show Mr' m_versionValue (6 * (48 * s + o) + i) = _ from d2 16 (by omega) i hi, show Mr' m_versionSize (6 * (48 * s + o) + i) = _ from d2 17 (by omega) i hi]
    refine ⟨z1, z2, fun k hk => ?_⟩
    rw [e2 64 (by omega), d3 i hi k hk]
    exact z3 k hk
def kKl (c o : Nat) (j : gI) (q : Nat) : Prop := ((j.1 = 51 ∨ j.1 = 52 ∨ j.1 = 53 ∨ j.1 = 56) ∧ j.2.1 = 4 + c ∧ q = o) ∨ (j.1 = 55 ∧ j.2.1 = 4 + c ∧ j.2.2 = o) ∨ ((j.1 = 31 ∨ j.1 = 32 ∨ j.1 = 33) ∧ j.2.1 = c ∧ q = o)
def lKl (c o : Nat) (j : gI) (q : Nat) : Prop := ((j.1 = 22 ∨ j.1 = 23 ∨ j.1 = 24 ∨ j.1 = 30 ∨ j.1 = 32 ∨ j.1 = 26 ∨ j.1 = 27) ∧ q = 48 * c + o) ∨ (j.1 = 25 ∧ 8 * (48 * c + o) ≤ q ∧ q < 8 * (48 * c + o) + 8) ∨ (j.1 = 10 ∧ q = o)
theorem rKl.fr {c o : Nat} (hN : N ≤ 4) (hc : cf A Mc Mc') (hr : cf B Mr Mr') (h1 : ∀ j q, kKl c o j q → ¬ A j q) (h2 : ∀ j q, lKl c o j q → ¬ B j q) (h : rKl N c o Mc Mr) : rKl N c o Mc' Mr' := by
  have e0 : ∀ t, (t = 51 ∨ t = 52 ∨ t = 53 ∨ t = 56) → Mc' (t, 4 + c, 0) o = Mc (t, 4 + c, 0) o := fun t ht => hc _ _ (h1 _ _ (Or.inl ⟨ht, rfl, rfl⟩))
  have e1 : ∀ q, Mc' (55, 4 + c, o) q = Mc (55, 4 + c, o) q := fun q => hc _ _ (h1 _ _ (Or.inr (Or.inl ⟨rfl, rfl, rfl⟩)))
  have e2 : ∀ t, (t = 31 ∨ t = 32 ∨ t = 33) → Mc' (t, c, 0) o = Mc (t, c, 0) o := fun t ht => hc _ _ (h1 _ _ (Or.inr (Or.inr ⟨ht, rfl, rfl⟩)))
  have d0 : ∀ t, (t = 22 ∨ t = 23 ∨ t = 24 ∨ t = 30 ∨ t = 32 ∨ t = 26 ∨ t = 27) → Mr' (t, 0, 0) (48 * c + o) = Mr (t, 0, 0) (48 * c + o) := fun t ht => hr _ _ (h2 _ _ (Or.inl ⟨ht, rfl⟩))
  have d1 : ∀ k, k < N + 4 → Mr' m_keptVector (8 * (48 * c + o) + k) = Mr m_keptVector (8 * (48 * c + o) + k) := fun k hk => hr _ _ (h2 _ _ (Or.inr (Or.inl ⟨rfl, by omega, by omega⟩)))
  have d4 : Mr' m_isDirectory o = Mr m_isDirectory o := hr _ _ (h2 _ _ (Or.inr (Or.inr ⟨rfl, rfl⟩)))
  obtain ⟨f1, f2, f3, f4, f5, f6, f7, f8⟩ := h
  have g1 : Mr' m_kept (48 * c + o) = Mr m_kept (48 * c + o) := d0 22 (by omega)
  refine ⟨?_, ?_, ?_, fun k hk => ?_, ?_, ?_, ?_, ?_⟩
  · rw [e0 51 (by omega), g1]; exact f1
  · rw [e0 52 (by omega), g1, d4, show Mr' m_keptValue (48 * c + o) = _ from d0 23 (by omega)]; exact f2
  · rw [e0 53 (by omega), g1, d4, show Mr' m_keptSize (48 * c + o) = _ from d0 24 (by omega)]; exact f3
  · rw [e1, g1, d1 k hk]; exact f4 k hk
  · rw [e0 56 (by omega), show Mr' m_keptEntry (48 * c + o) = _ from d0 30 (by omega)]; exact f5
  · rw [e2 31 (by omega), show Mr' m_priorities (48 * c + o) = _ from d0 32 (by omega)]; exact f6
  · rw [e2 32 (by omega), show Mr' m_promised (48 * c + o) = _ from d0 26 (by omega)]; exact f7
  · rw [e2 33 (by omega), show Mr' m_dirty (48 * c + o) = _ from d0 27 (by omega)]; exact f8
def kLg (c : Nat) (j : gI) (q : Nat) : Prop := (40 ≤ j.1 ∧ j.1 ≤ 45 ∧ j.2.1 = c) ∨ (j.1 = 30 ∧ j.2.1 = c ∧ q = 11)
def lLg (c : Nat) (j : gI) (q : Nat) : Prop := ((j.1 = 35 ∨ j.1 = 40) ∧ q = c) ∨ ((j.1 = 36 ∨ j.1 = 37 ∨ j.1 = 38) ∧ 12 * c ≤ q ∧ q < 12 * c + 12) ∨ (j.1 = 39 ∧ 96 * c ≤ q ∧ q < 96 * c + 96)
theorem rLg.fr {c : Nat} (hN : N ≤ 4) (hc : cf A Mc Mc') (hr : cf B Mr Mr') (h1 : ∀ j q, kLg c j q → ¬ A j q) (h2 : ∀ j q, lLg c j q → ¬ B j q) (h : rLg N c Mc Mr) : rLg N c Mc' Mr' := by
  have e0 : ∀ t, (40 ≤ t ∧ t ≤ 45) → ∀ b q, Mc' (t, c, b) q = Mc (t, c, b) q := fun t ht b q => hc _ _ (h1 _ _ (Or.inl ⟨ht.1, ht.2, rfl⟩))
  have e1 : Mc' (30, c, 0) 11 = Mc (30, c, 0) 11 := hc _ _ (h1 _ _ (Or.inr ⟨rfl, rfl, rfl⟩))
  have d0 : ∀ t, (t = 35 ∨ t = 40) → Mr' (t, 0, 0) c = Mr (t, 0, 0) c := fun t ht => hr _ _ (h2 _ _ (Or.inl ⟨ht, rfl⟩))
  have d1 : ∀ t, (t = 36 ∨ t = 37 ∨ t = 38) → ∀ i, i < 12 → Mr' (t, 0, 0) (12 * c + i) = Mr (t, 0, 0) (12 * c + i) := fun t ht i hi => hr _ _ (h2 _ _ (Or.inr (Or.inl ⟨ht, by omega, by omega⟩)))
  have d2 : ∀ i, i < 12 → ∀ k, k < N + 4 → Mr' m_recordVector (8 * (12 * c + i) + k) = Mr m_recordVector (8 * (12 * c + i) + k) := fun i hi k hk => hr _ _ (h2 _ _ (Or.inr (Or.inr ⟨rfl, by omega, by omega⟩)))
  obtain ⟨f1, f2, f3⟩ := h
  have g1 : Mr' m_records c = Mr m_records c := d0 35 (by omega)
  refine ⟨?_, ?_, fun i hi hl => ?_⟩
  · rw [e0 40 (by omega), g1]; exact f1
  · rw [e1, show Mr' m_versionsTold c = _ from d0 40 (by omega)]; exact f2
  · rw [g1] at hl
    obtain ⟨z1, z2, z3, z4⟩ := f3 i hi hl
    rw [e0 41 (by omega), e0 42 (by omega), e0 43 (by omega), show Mr' m_recordKind (12 * c + i) = _ from d1 36 (by omega) i hi, show Mr' m_recordObject (12 * c + i) = _ from d1 37 (by omega) i hi, show Mr' m_recordDirectory (12 * c + i) = _ from d1 38 (by omega) i hi]
    refine ⟨z1, z2, z3, fun k hk => ?_⟩
    rw [e0 45 (by omega), d2 i hi k hk]
    exact z4 k hk
def kTl (j : gI) (q : Nat) : Prop := j.1 = 9 ∧ 1 ≤ q ∧ q ≤ 6
def lTl (j : gI) (q : Nat) : Prop := j.1 = 0 ∧ 45 ≤ q ∧ q ≤ 50
theorem rTl.fr (hc : cf A Mc Mc') (hr : cf B Mr Mr') (h1 : ∀ j q, kTl j q → ¬ A j q) (h2 : ∀ j q, lTl j q → ¬ B j q) (h : rTl Mc Mr) : rTl Mc' Mr' := fun k a b => by
  rw [hc _ _ (h1 _ _ ⟨rfl, a, b⟩), hr _ _ (h2 _ _ ⟨rfl, by omega, by omega⟩)]
  exact h k a b
end FR
/-- what no answer rests on, in the class's store and in the reference's -/
def csc (j : gI) (q : Nat) : Prop := j.1 = 11 ∨ j.1 = 12 ∨ j.1 = 13 ∨ j.1 = 14 ∨ j.1 = 15 ∨ j.1 = 34 ∨ ((j.1 = 60 ∨ j.1 = 61 ∨ j.1 = 62 ∨ j.1 = 64) ∧ j.2.1 = 192) ∨ (j.1 = 58 ∧ 4 ≤ j.2.1) ∨ (j.1 = 30 ∧ (q = 9 ∨ q = 10))
def rsc (j : gI) (q : Nat) : Prop := j.1 = 41 ∨ j.1 = 42 ∨ j.1 = 44 ∨ j.1 = 45 ∨ j.1 = 28 ∨ j.1 = 29 ∨ j.1 = 31 ∨ (57 ≤ j.1 ∧ j.1 ≤ 61) ∨ (63 ≤ j.1 ∧ j.1 ≤ 66) ∨ (j.1 = 0 ∧ (q = 32 ∨ q = 33 ∨ q = 42 ∨ (51 ≤ q ∧ q ≤ 55) ∨ q = 61 ∨ q = 66))
theorem Rel.fr {N g : Nat} {Mc Mr Mc' Mr' : gM} (hN : N ≤ 4) (R : Rel N g Mc Mr) (hc : cf csc Mc Mc') (hr : cf rsc Mr Mr') : Rel N g Mc' Mr' := by
  obtain ⟨co, cat, net, lo, sv, kl, lg, tl⟩ := R
  refine ⟨co.fr hc hr ?_ ?_, cat.fr hc hr ?_ ?_, net.fr hN hc hr ?_ ?_, lo.fr hc hr ?_ ?_, fun s hs o ho => (sv s hs o ho).fr hN hc hr ?_ ?_, fun c h o ho => (kl c h o ho).fr hN hc hr ?_ ?_, fun c h => (lg c h).fr hN hc hr ?_ ?_, tl.fr hc hr ?_ ?_⟩
  · intro j q; unfold kCo csc; omega
  · intro j q; unfold lCo rsc; omega
  · intro j q; unfold kCat csc; omega
  · intro j q; unfold lCat rsc; omega
  · intro j q; unfold kNet csc; omega
  · intro j q; unfold lNet rsc; omega
  · intro s; unfold csc; dsimp only; omega
  · intro s; unfold rsc; dsimp only; omega
  · intro j q; unfold kSv csc; omega
  · intro j q; unfold lSv rsc; omega
  · intro j q; unfold kKl csc; omega
  · intro j q; unfold lKl rsc; omega
  · intro j q; unfold kLg csc; omega
  · intro j q; unfold lLg rsc; omega
  · intro j q; unfold kTl csc; omega
  · intro j q; unfold lTl rsc; omega
