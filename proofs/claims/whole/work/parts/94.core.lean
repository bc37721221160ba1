/-! layer 2: what servers do together, both in step -/
theorem gset_self (M : gM) (i : gI) (k : Nat) : gset M i k (M i k) = M := by
  funext j q
  rw [gset_r]
  by_cases e : j = i ∧ q = k
  · obtain ⟨rfl, rfl⟩ := e; rw [if_pos ⟨rfl, rfl⟩]
  · rw [if_neg e]
theorem gset_gpu {M : gM} {i r : gI} {k b n : Nat} {v : Int32} {f : Nat → Int32} (h : i ≠ r) : gset (gpu M r b n f) i k v = gpu (gset M i k v) r b n f := by
  funext j q
  simp only [gset_r, gpu_r]
  by_cases e : j = i ∧ q = k
  · rw [if_pos e, if_neg (fun z => h (e.1.symm.trans z.1)), if_pos e]
  · rw [if_neg e]
    by_cases e2 : j = r ∧ b ≤ q ∧ q < b + n
    · rw [if_pos e2, if_pos e2]
    · rw [if_neg e2, if_neg e2, if_neg e]
theorem loopQ {σ β : Type} (L : Nat → Nat → σ → Option β) (B : Nat) (E : σ → Option β) (P : Nat → σ → Prop) (hs : ∀ n k st, k < B → P k st → ∃ s1, L (n + 1) k st = L n (k + 1) s1 ∧ P (k + 1) s1) (he : ∀ n st, P B st → L (n + 1) B st = E st) : ∀ (m k n : Nat) (st : σ), k + m = B → m < n → P k st → ∃ s1, L n k st = E s1 ∧ P B s1 := by
  intro m
  induction m with
  | zero =>
    intro k n st hk hn hP
    obtain ⟨n, rfl⟩ : ∃ q, n = q + 1 := ⟨n - 1, by omega⟩
    rw [show k = B by omega] at hP ⊢
    exact ⟨st, he n st hP, hP⟩
  | succ m ih =>
    intro k n st hk hn hP
    obtain ⟨n, rfl⟩ : ∃ q, n = q + 1 := ⟨n - 1, by omega⟩
    obtain ⟨s1, h1, h2⟩ := hs n k st (by omega) hP
    obtain ⟨s2, h3, h4⟩ := ih (k + 1) n s1 (by omega) (by omega) h2
    exact ⟨s2, h1.trans h3, h4⟩
theorem loopP {σ β : Type} (L : Nat → Nat → σ → Option β) (B : Nat) (E : σ → Option β) (P : Nat → σ → Prop) (hB : B < 100) (hs : ∀ n k st, k < B → P k st → ∃ s1, L (n + 1) k st = L n (k + 1) s1 ∧ P (k + 1) s1) (he : ∀ n st, P B st → L (n + 1) B st = E st) {st : σ} (h0 : P 0 st) : ∃ s1, L 100 0 st = E s1 ∧ P B s1 := loopQ L B E P hs he B 0 100 st (by omega) hB h0
theorem loopQ2 {σ τ β γ : Type} (L : Nat → Nat → σ → Option β) (L' : Nat → Nat → τ → Option γ) (B : Nat) (E : σ → Option β) (E' : τ → Option γ) (P : Nat → σ → τ → Prop) (hs : ∀ n n' k st st', k < B → P k st st' → ∃ s1 s1', L (n + 1) k st = L n (k + 1) s1 ∧ L' (n' + 1) k st' = L' n' (k + 1) s1' ∧ P (k + 1) s1 s1') (he : ∀ n st st', P B st st' → L (n + 1) B st = E st) (he' : ∀ n st st', P B st st' → L' (n + 1) B st' = E' st') : ∀ (m k n n' : Nat) (st : σ) (st' : τ), k + m = B → m < n → m < n' → P k st st' → ∃ s1 s1', L n k st = E s1 ∧ L' n' k st' = E' s1' ∧ P B s1 s1' := by
  intro m
  induction m with
  | zero =>
    intro k n n' st st' hk hn hn' hP
    obtain ⟨n, rfl⟩ : ∃ q, n = q + 1 := ⟨n - 1, by omega⟩
    obtain ⟨n', rfl⟩ : ∃ q, n' = q + 1 := ⟨n' - 1, by omega⟩
    rw [show k = B by omega] at hP ⊢
    exact ⟨st, st', he n st st' hP, he' n' st st' hP, hP⟩
  | succ m ih =>
    intro k n n' st st' hk hn hn' hP
    obtain ⟨n, rfl⟩ : ∃ q, n = q + 1 := ⟨n - 1, by omega⟩
    obtain ⟨n', rfl⟩ : ∃ q, n' = q + 1 := ⟨n' - 1, by omega⟩
    obtain ⟨s1, s1', h1, h1', h2⟩ := hs n n' k st st' (by omega) hP
    obtain ⟨s2, s2', h3, h3', h4⟩ := ih (k + 1) n n' s1 s1' (by omega) (by omega) (by omega) h2
    exact ⟨s2, s2', h1.trans h3, h1'.trans h3', h4⟩
theorem loop2 {σ τ β γ : Type} (L : Nat → Nat → σ → Option β) (L' : Nat → Nat → τ → Option γ) (B : Nat) (E : σ → Option β) (E' : τ → Option γ) (P : Nat → σ → τ → Prop) (hB : B < 100) (hs : ∀ n n' k st st', k < B → P k st st' → ∃ s1 s1', L (n + 1) k st = L n (k + 1) s1 ∧ L' (n' + 1) k st' = L' n' (k + 1) s1' ∧ P (k + 1) s1 s1') (he : ∀ n st st', P B st st' → L (n + 1) B st = E st) (he' : ∀ n st st', P B st st' → L' (n + 1) B st' = E' st') {st : σ} {st' : τ} (h0 : P 0 st st') : ∃ s1 s1', L 100 0 st = E s1 ∧ L' 100 0 st' = E' s1' ∧ P B s1 s1' := loopQ2 L L' B E E' P hs he he' B 0 100 100 st st' (by omega) hB hB h0
/-! a server's object in four pieces -/
def rA (N s o : Nat) (Mc Mr : gM) : Prop := Mc (51, s, 0) o = Mr m_has (48 * s + o) ∧ Mc (52, s, 0) o = (if Mr m_has (48 * s + o) = 0 ∨ ¬ Mr m_isDirectory o = 0 then 0 else Mr m_value (48 * s + o)) ∧ Mc (53, s, 0) o = (if Mr m_has (48 * s + o) = 0 ∨ ¬ Mr m_isDirectory o = 0 then 0 else Mr m_size (48 * s + o)) ∧ ∀ k, k < N + 4 → Mc (55, s, o) k = if Mr m_has (48 * s + o) = 0 then 0 else Mr m_vector (8 * (48 * s + o) + k)
def rB (N s o : Nat) (Mc Mr : gM) : Prop := Mc (56, s, 0) o = Mr m_entry (48 * s + o) ∧ ∀ k, k < N + 4 → Mc (58, s, o) k = if Mr m_entry (48 * s + o) = 2 then Mr m_gone (8 * (48 * s + o) + k) else 0
def rC (s o : Nat) (Mc Mr : gM) : Prop := Mc (22, s, 0) o = Mr m_marks (48 * s + o)
def rD (N s o : Nat) (Mc Mr : gM) : Prop := Mc (60, 48 * s + o, 0) 3 = Mr m_versions (48 * s + o) ∧ ∀ i, i < 6 → nI i < Mr m_versions (48 * s + o) → Mc (61, 48 * s + o, 0) i = Mr m_versionValue (6 * (48 * s + o) + i) ∧ Mc (62, 48 * s + o, 0) i = Mr m_versionSize (6 * (48 * s + o) + i) ∧ ∀ k, k < N + 4 → Mc (64, 48 * s + o, i) k = Mr m_versionVector (8 * (6 * (48 * s + o) + i) + k)
section SP
variable {N g s o c d : Nat} {M M' Mc Mr Mc' Mr' : gM} {A B : gI → Nat → Prop} {v w : Int32}
theorem rSv_of (a : rA N s o Mc Mr) (b : rB N s o Mc Mr) (c : rC s o Mc Mr) (d : rD N s o Mc Mr) : rSv N s o Mc Mr := ⟨a.1, a.2.1, a.2.2.1, a.2.2.2, b.1, b.2, c, d.1, d.2⟩
theorem rSv.a (h : rSv N s o Mc Mr) : rA N s o Mc Mr := ⟨h.1, h.2.1, h.2.2.1, h.2.2.2.1⟩
theorem rSv.b (h : rSv N s o Mc Mr) : rB N s o Mc Mr := ⟨h.2.2.2.2.1, h.2.2.2.2.2.1⟩
theorem rSv.cc (h : rSv N s o Mc Mr) : rC s o Mc Mr := h.2.2.2.2.2.2.1
theorem rSv.dd (h : rSv N s o Mc Mr) : rD N s o Mc Mr := ⟨h.2.2.2.2.2.2.2.1, h.2.2.2.2.2.2.2.2⟩
theorem rA.fr (hN : N ≤ 4) (hc : cf A Mc Mc') (hr : cf B Mr Mr') (h1 : ∀ j q, (((j.1 = 51 ∨ j.1 = 52 ∨ j.1 = 53) ∧ j.2.1 = s ∧ q = o) ∨ (j.1 = 55 ∧ j.2.1 = s ∧ j.2.2 = o)) → ¬ A j q) (h2 : ∀ j q, (((j.1 = 11 ∨ j.1 = 12 ∨ j.1 = 13) ∧ q = 48 * s + o) ∨ (j.1 = 14 ∧ 8 * (48 * s + o) ≤ q ∧ q < 8 * (48 * s + o) + 8) ∨ (j.1 = 10 ∧ q = o)) → ¬ B j q) (h : rA N s o Mc Mr) : rA N s o Mc' Mr' := by
  obtain ⟨f1, f2, f3, f4⟩ := h
  have e1 := hr m_has (48 * s + o) (h2 _ _ (Or.inl ⟨Or.inl rfl, rfl⟩))
  have e2 := hr m_value (48 * s + o) (h2 _ _ (Or.inl ⟨Or.inr (Or.inl rfl), rfl⟩))
  have e3 := hr m_size (48 * s + o) (h2 _ _ (Or.inl ⟨Or.inr (Or.inr rfl), rfl⟩))
  have e4 := hr m_isDirectory o (h2 _ _ (Or.inr (Or.inr ⟨rfl, rfl⟩)))
  have d1 := hc (51, s, 0) o (h1 _ _ (Or.inl ⟨Or.inl rfl, rfl, rfl⟩))
  have d2 := hc (52, s, 0) o (h1 _ _ (Or.inl ⟨Or.inr (Or.inl rfl), rfl, rfl⟩))
  have d3 := hc (53, s, 0) o (h1 _ _ (Or.inl ⟨Or.inr (Or.inr rfl), rfl, rfl⟩))
  refine ⟨by rw [d1, e1]; exact f1, by rw [d2, e1, e2, e4]; exact f2, by rw [d3, e1, e3, e4]; exact f3, fun k hk => ?_⟩
  rw [hc (55, s, o) k (h1 _ _ (Or.inr ⟨rfl, rfl, rfl⟩)), e1, hr m_vector _ (h2 _ _ (Or.inr (Or.inl ⟨rfl, by omega, by omega⟩)))]
  exact f4 k hk
theorem rB.fr (hN : N ≤ 4) (hc : cf A Mc Mc') (hr : cf B Mr Mr') (h1 : ∀ j q, ((j.1 = 56 ∧ j.2.1 = s ∧ q = o) ∨ (j.1 = 58 ∧ j.2.1 = s ∧ j.2.2 = o)) → ¬ A j q) (h2 : ∀ j q, ((j.1 = 19 ∧ q = 48 * s + o) ∨ (j.1 = 20 ∧ 8 * (48 * s + o) ≤ q ∧ q < 8 * (48 * s + o) + 8)) → ¬ B j q) (h : rB N s o Mc Mr) : rB N s o Mc' Mr' := by
  obtain ⟨f1, f2⟩ := h
  have e1 := hr m_entry (48 * s + o) (h2 _ _ (Or.inl ⟨rfl, rfl⟩))
  refine ⟨by rw [hc (56, s, 0) o (h1 _ _ (Or.inl ⟨rfl, rfl, rfl⟩)), e1]; exact f1, fun k hk => ?_⟩
  rw [hc (58, s, o) k (h1 _ _ (Or.inr ⟨rfl, rfl, rfl⟩)), e1, hr m_gone _ (h2 _ _ (Or.inr ⟨rfl, by omega, by omega⟩))]
  exact f2 k hk
theorem rC.fr (hc : cf A Mc Mc') (hr : cf B Mr Mr') (h1 : ¬ A (22, s, 0) o) (h2 : ¬ B m_marks (48 * s + o)) (h : rC s o Mc Mr) : rC s o Mc' Mr' := by
  unfold rC
  rw [hc _ _ h1, hr _ _ h2]
  exact h
theorem rD.fr (hN : N ≤ 4) (hc : cf A Mc Mc') (hr : cf B Mr Mr') (h1 : ∀ j q, ((j.1 = 60 ∨ j.1 = 61 ∨ j.1 = 62 ∨ j.1 = 64) ∧ j.2.1 = 48 * s + o) → ¬ A j q) (h2 : ∀ j q, ((j.1 = 15 ∧ q = 48 * s + o) ∨ ((j.1 = 16 ∨ j.1 = 17) ∧ 6 * (48 * s + o) ≤ q ∧ q < 6 * (48 * s + o) + 6) ∨ (j.1 = 18 ∧ 48 * (48 * s + o) ≤ q ∧ q < 48 * (48 * s + o) + 48)) → ¬ B j q) (h : rD N s o Mc Mr) : rD N s o Mc' Mr' := by
  obtain ⟨f1, f2⟩ := h
  have e1 := hr m_versions (48 * s + o) (h2 _ _ (Or.inl ⟨rfl, rfl⟩))
  refine ⟨by rw [hc (60, 48 * s + o, 0) 3 (h1 _ _ ⟨Or.inl rfl, rfl⟩), e1]; exact f1, fun i hi hl => ?_⟩
  rw [e1] at hl
  obtain ⟨z1, z2, z3⟩ := f2 i hi hl
  refine ⟨?_, ?_, fun k hk => ?_⟩
  · rw [hc (61, 48 * s + o, 0) i (h1 _ _ ⟨Or.inr (Or.inl rfl), rfl⟩), hr m_versionValue _ (h2 _ _ (Or.inr (Or.inl ⟨Or.inl rfl, by omega, by omega⟩)))]; exact z1
  · rw [hc (62, 48 * s + o, 0) i (h1 _ _ ⟨Or.inr (Or.inr (Or.inl rfl)), rfl⟩), hr m_versionSize _ (h2 _ _ (Or.inr (Or.inl ⟨Or.inr rfl, by omega, by omega⟩)))]; exact z2
  · rw [hc (64, 48 * s + o, i) k (h1 _ _ ⟨Or.inr (Or.inr (Or.inr rfl)), rfl⟩), hr m_versionVector _ (h2 _ _ (Or.inr (Or.inr ⟨rfl, by omega, by omega⟩)))]; exact z3 k hk
/-! one server's object changes, with losing, tallies and scratch -/
def mC (s o : Nat) (j : gI) (q : Nat) : Prop := kSv s o j q ∨ j.1 = 20 ∨ j.1 = 9 ∨ csc j q
def mR (s o : Nat) (j : gI) (q : Nat) : Prop := (lSv s o j q ∧ ¬ j.1 = 10) ∨ j.1 = 6 ∨ (j.1 = 0 ∧ 45 ≤ q ∧ q ≤ 50) ∨ rsc j q
theorem Rel.mix (hN : N ≤ 4) (hs : s < N) (ho : o < 48) (R : Rel N g Mc Mr) (hc : cf (mC s o) Mc Mc') (hr : cf (mR s o) Mr Mr') (h4 : rLo N Mc' Mr') (h5 : rSv N s o Mc' Mr') (h8 : rTl Mc' Mr') : Rel N g Mc' Mr' := by
  obtain ⟨co, cat, net, lo, sv, kl, lg, tl⟩ := R
  refine ⟨co.fr hc hr ?_ ?_, cat.fr hc hr ?_ ?_, net.fr hN hc hr ?_ ?_, h4, fun s' hs' o' ho' => ?_, fun c h o' ho' => (kl c h o' ho').fr hN hc hr ?_ ?_, fun c h => (lg c h).fr hN hc hr ?_ ?_, h8⟩
  · intro j q; unfold kCo mC kSv csc; omega
  · intro j q; unfold lCo mR lSv rsc; omega
  · intro j q; unfold kCat mC kSv csc; omega
  · intro j q; unfold lCat mR lSv rsc; omega
  · intro j q; unfold kNet mC kSv csc; omega
  · intro j q; unfold lNet mR lSv rsc; omega
  · by_cases e : s' = s ∧ o' = o
    · obtain ⟨rfl, rfl⟩ := e; exact h5
    · refine (sv s' hs' o' ho').fr hN hc hr ?_ ?_
      · intro j q; unfold mC kSv csc; omega
      · intro j q; unfold mR lSv rsc; omega
  · intro j q; unfold kKl mC kSv csc; omega
  · intro j q; unfold lKl mR lSv rsc; omega
  · intro j q; unfold kLg mC kSv csc; omega
  · intro j q; unfold lLg mR lSv rsc; omega
theorem Rel.kmix (hN : N ≤ 4) (hc4 : c < 4) (ho : o < 48) (R : Rel N g Mc Mr) (hc : cf (fun j q => kKl c o j q ∨ csc j q) Mc Mc') (hr : cf (fun j q => (lKl c o j q ∧ ¬ j.1 = 10) ∨ rsc j q) Mr Mr') (h9 : rKl N c o Mc' Mr') : Rel N g Mc' Mr' := by
  refine R.cli hN (hc.mo (fun j q h => ?_)) (hr.mo (fun j q h => ?_)) (fun c' h' o' ho' => ?_)
  · revert h; unfold kKl aKl csc; omega
  · revert h; unfold lKl bKl rsc; omega
  · by_cases e : c' = c ∧ o' = o
    · obtain ⟨rfl, rfl⟩ := e; exact h9
    · refine (R.kl h' ho').fr hN hc hr ?_ ?_
      · intro j q; unfold kKl csc; omega
      · intro j q; unfold lKl rsc; omega
def iFree (j : gI) (q : Nat) : Prop := csc j q ∨ j.1 = 22 ∨ j.1 = 55 ∨ j.1 = 58 ∨ j.1 = 9 ∨ j.1 = 45 ∨ j.1 = 64 ∨ j.1 = 3 ∨ (j.1 = 30 ∧ q = 11) ∨ (j.1 = 52 ∧ 4 ≤ j.2.1)
theorem Inv.free (hN : N ≤ 4) (I : Inv N g M) (hc : cf (fun j q => iFree j q ∨ j.1 = 20) M M') (h2 : ∀ s, s < N → M' (20, s, 0) 3 = 0 ∨ M' (20, s, 0) 3 = 1) : Inv N g M' := by
  obtain ⟨cat, lo, sv, vr, kl, w, lg, mk⟩ := I
  have hg := cat.1
  refine ⟨cat.fr hc ?_, h2, fun s hs o ho => (sv s hs o ho).fr ho hc ?_, fun s hs o ho => (vr s hs o ho).fr hc ?_, fun c h o ho => (kl c h o ho).fr hN hc ?_, fun c h => (w c h).fr hc ?_, fun c h => (lg c h).fr hg hc ?_, mk.fr hc ?_⟩
  · intro j q; unfold eCat iFree csc; omega
  · intro j q; unfold eSv iFree csc; omega
  · intro j q; unfold eVr iFree csc; omega
  · intro j q; unfold eKl iFree csc; omega
  · intro j q; unfold eWt iFree csc; omega
  · intro j q; unfold eLg iFree csc; omega
  · intro t c q h1 h2; unfold iFree csc; dsimp only; omega
theorem Inv.free0 (hN : N ≤ 4) (I : Inv N g M) (hc : cf iFree M M') : Inv N g M' := I.free hN (hc.mo (fun j q h => Or.inl h)) (fun s hs => by
  rw [hc (20, s, 0) 3 (by unfold iFree csc; dsimp only; omega)]
  exact I.2.1 s hs)
/-! promises -/
theorem pr_set (hN : N ≤ 4) (hd : d < 4) (ho : o < 48) (R : Rel N g Mc Mr) (I : Inv N g Mc) (h1 : w &&& cNr N Mc d = w) (h2 : Mc (51, 4 + d, 0) o = 0 → w = 0) : Rel N g (gset Mc (32, d, 0) o w) (gset Mr m_promised (48 * d + o) w) ∧ Inv N g (gset Mc (32, d, 0) o w) := by
  have hc : cf (fun j q => j = (32, d, 0) ∧ q = o) Mc (gset Mc (32, d, 0) o w) := cf.st ⟨rfl, rfl⟩
  have hr : cf (fun j q => j = m_promised ∧ q = 48 * d + o) Mr (gset Mr m_promised (48 * d + o) w) := cf.st ⟨rfl, rfl⟩
  have vc : gset Mc (32, d, 0) o w (32, d, 0) o = w := by rw [gset_r, if_pos ⟨rfl, rfl⟩]
  have vr : gset Mr m_promised (48 * d + o) w m_promised (48 * d + o) = w := by rw [gset_r, if_pos ⟨rfl, rfl⟩]
  constructor
  · refine R.kmix hN hd ho (hc.mo ?_) (hr.mo ?_) ?_
    · rintro j q ⟨rfl, rfl⟩; unfold kKl; dsimp only; omega
    · rintro j q ⟨rfl, rfl⟩; unfold lKl; dsimp only; omega
    · obtain ⟨f1, f2, f3, f4, f5, f6, f7, f8⟩ := R.kl hd ho
      have e : ∀ (j : gI) q, j.1 ≠ 32 → gset Mc (32, d, 0) o w j q = Mc j q := fun j q h => hc _ _ (fun z => h (by rw [z.1]))
      have e' : ∀ (j : gI) q, j.1 ≠ 26 → gset Mr m_promised (48 * d + o) w j q = Mr j q := fun j q h => hr _ _ (fun z => h (by rw [z.1]))
      refine ⟨?_, ?_, ?_, fun k hk => ?_, ?_, ?_, ?_, ?_⟩
      · rw [e _ _ (by simp), e' _ _ (by simp)]; exact f1
      · rw [e _ _ (by simp), e' _ _ (by simp), e' _ _ (by simp), e' _ _ (by simp)]; exact f2
      · rw [e _ _ (by simp), e' _ _ (by simp), e' _ _ (by simp), e' _ _ (by simp)]; exact f3
      · rw [e _ _ (by simp), e' _ _ (by simp), e' _ _ (by simp)]; exact f4 k hk
      · rw [e _ _ (by simp), e' _ _ (by simp)]; exact f5
      · rw [e _ _ (by simp), e' _ _ (by simp)]; exact f6
      · rw [vc, vr]
      · rw [e _ _ (by simp), e' _ _ (by simp)]; exact f8
  · have hg := I.1.1
    have nr : ∀ c, cNr N (gset Mc (32, d, 0) o w) c = cNr N Mc c := fun c => cNr.fr hN hc (fun z => absurd z.1 (by simp)) (fun q _ z => absurd z.1 (by simp))
    refine I.cli hN (hc.mo ?_) (fun c' h' o' ho' => ?_) (fun c' h' => (I.2.2.2.2.2.1 c' h').fr hc ?_) (fun c' h' => (I.2.2.2.2.2.2.1 c' h').fr hg hc ?_)
    · rintro j q ⟨rfl, rfl⟩; unfold aKl; dsimp only; omega
    · by_cases e : c' = d ∧ o' = o
      · obtain ⟨rfl, rfl⟩ := e
        have i0 := I.2.2.2.2.1 c' h' o' ho'
        unfold iKl at i0 ⊢
        have e : ∀ (j : gI) q, j.1 ≠ 32 → gset Mc (32, c', 0) o' w j q = Mc j q := fun j q h => hc _ _ (fun z => h (by rw [z.1]))
        rw [nr, vc, e (51, 4 + c', 0) o' (by simp), e (33, c', 0) o' (by simp), e (56, 4 + c', 0) o' (by simp), e (53, 4 + c', 0) o' (by simp), e (31, c', 0) o' (by simp)]
        obtain ⟨i1, i2, i3, i4, i5, i6, -, i8, i9⟩ := i0
        exact ⟨i1, i2, i3, i4, i5, fun z => ⟨h2 z, (i6 z).2⟩, h1, i8, i9⟩
      · refine (I.2.2.2.2.1 c' h' o' ho').fr hN hc ?_
        rintro j q h ⟨rfl, rfl⟩
        revert h; unfold eKl; dsimp only; omega
    · rintro j q h ⟨rfl, rfl⟩; revert h; unfold eWt; dsimp only; omega
    · rintro j q h ⟨rfl, rfl⟩; revert h; unfold eLg; dsimp only; omega
theorem and_sub {p a x : Int32} (h : p &&& a = p) : (p &&& x) &&& a = p &&& x := by
  rw [Int32.and_assoc, Int32.and_comm x a, ← Int32.and_assoc, h]
theorem pr_and (hN : N ≤ 4) (hd : d < 4) (ho : o < 48) (R : Rel N g Mc Mr) (I : Inv N g Mc) : Rel N g (gset Mc (32, d, 0) o (Mc (32, d, 0) o &&& w)) (gset Mr m_promised (48 * d + o) (Mr m_promised (48 * d + o) &&& w)) ∧ Inv N g (gset Mc (32, d, 0) o (Mc (32, d, 0) o &&& w)) := by
  rw [← (R.kl hd ho).2.2.2.2.2.2.1]
  obtain ⟨-, -, -, -, -, i6, i7, -⟩ := I.2.2.2.2.1 d hd o ho
  exact pr_set hN hd ho R I (and_sub i7) (fun z => by rw [(i6 z).1, Int32.zero_and])
theorem ends_step (hN : N ≤ 4) (ho : o < 48) (R : Rel N g Mc Mr) (I : Inv N g Mc) : ∃ Mc' Mr', f_X6_endPromises N Mc v (nI o) = some Mc' ∧ f_X11_endPromises Mr (nI o) v (-1 : Int32) = some Mr' ∧ Rel N g Mc' Mr' ∧ Inv N g Mc' ∧ cf (fun j q => j.1 = 32 ∧ q = o) Mc Mc' ∧ cf (fun j q => j.1 = 26) Mr Mr' := by
  refine loop2 (fun n k M => f_X6_endPromises_L2 N v (nI o) n (nI k) M) (fun n k M => f_X11_endPromises_L3 (nI o) v (-1 : Int32) n (nI k) M) 4 some some (fun _ M1 M2 => Rel N g M1 M2 ∧ Inv N g M1 ∧ cf (fun j q => j.1 = 32 ∧ q = o) Mc M1 ∧ cf (fun j q => j.1 = 26) Mr M2) (by decide) (fun n n' k M1 M2 hk ⟨r, i, c1, c2⟩ => ?_) (fun n M1 M2 _ => ?_) (fun n M1 M2 _ => ?_) ⟨R, I, cf.rf _ _, cf.rf _ _⟩
  · refine ⟨_, _, ?_, ?_, (pr_and (w := v ^^^ (-1 : Int32)) hN hk ho r i).1, (pr_and (w := v ^^^ (-1 : Int32)) hN hk ho r i).2, c1.tr (cf.st ⟨rfl, rfl⟩), c2.tr (cf.st rfl)⟩
    · simp only [f_X6_endPromises_L2, lt_d]
      rw [if_neg (nI_ge hk (by omega)), ix_n hk (by omega), rd_n ho (by omega), wr_n ho (by omega), nI_1]
    · simp only [f_X11_endPromises_L3, lt_d, jn_d, nI_m48, nI_add]
      rw [if_neg (ge_4 hk), if_neg (by rw [nI_m1 (by omega)]; exact id), rd_n (by omega) (by omega), wr_n (by omega) (by omega), nI_1]
  · simp only [f_X6_endPromises_L2]
    rw [if_pos (nI_le (by omega) (by omega))]
  · simp only [f_X11_endPromises_L3]
    rw [if_pos (lf_4 (by omega))]
theorem endsO_step (hN : N ≤ 4) (ho : o < 48) (hd : d < 4) (R : Rel N g Mc Mr) (I : Inv N g Mc) : ∃ Mc' Mr', f_X6_endPromisesToOthers N Mc d v (nI o) = some Mc' ∧ f_X11_endPromises Mr (nI o) v (nI d) = some Mr' ∧ Rel N g Mc' Mr' ∧ Inv N g Mc' ∧ cf (fun j q => j.1 = 32 ∧ j.2.1 ≠ d ∧ q = o) Mc Mc' ∧ cf (fun j q => j.1 = 26 ∧ ∀ p, p < 48 → q ≠ 48 * d + p) Mr Mr' := by
  refine loop2 (fun n k M => f_X6_endPromisesToOthers_L3 N d v (nI o) n (nI k) M) (fun n k M => f_X11_endPromises_L3 (nI o) v (nI d) n (nI k) M) 4 some some (fun _ M1 M2 => Rel N g M1 M2 ∧ Inv N g M1 ∧ cf (fun j q => j.1 = 32 ∧ j.2.1 ≠ d ∧ q = o) Mc M1 ∧ cf (fun j q => j.1 = 26 ∧ ∀ p, p < 48 → q ≠ 48 * d + p) Mr M2) (by decide) (fun n n' k M1 M2 hk ⟨r, i, c1, c2⟩ => ?_) (fun n M1 M2 _ => ?_) (fun n M1 M2 _ => ?_) ⟨R, I, cf.rf _ _, cf.rf _ _⟩
  · have e0 := r.1.2.2.1 d hd
    by_cases e : k = d
    · refine ⟨M1, M2, ?_, ?_, r, i, c1, c2⟩
      · simp only [f_X6_endPromisesToOthers_L3, lt_d, jn_d, e0]
        rw [if_neg (nI_ge hk (by omega)), if_pos (by rw [e]), nI_1]
      · simp only [f_X11_endPromises_L3, lt_d, jn_d, nI_m48, nI_add]
        rw [if_neg (ge_4 hk), if_pos (by rw [e]), nI_1]
    · refine ⟨_, _, ?_, ?_, (pr_and (w := v ^^^ (-1 : Int32)) hN hk ho r i).1, (pr_and (w := v ^^^ (-1 : Int32)) hN hk ho r i).2, c1.tr (cf.st ⟨rfl, e, rfl⟩), c2.tr (cf.st ⟨rfl, fun p hp => by omega⟩)⟩
      · simp only [f_X6_endPromisesToOthers_L3, lt_d, jn_d, e0]
        rw [if_neg (nI_ge hk (by omega)), if_neg (by rw [neq (by omega) (by omega)]; exact e), ix_n hk (by omega), rd_n ho (by omega), wr_n ho (by omega), nI_1]
      · simp only [f_X11_endPromises_L3, lt_d, jn_d, nI_m48, nI_add]
        rw [if_neg (ge_4 hk), if_neg (by rw [neq (by omega) (by omega)]; exact e), rd_n (by omega) (by omega), wr_n (by omega) (by omega), nI_1]
  · simp only [f_X6_endPromisesToOthers_L3]
    rw [if_pos (nI_le (by omega) (by omega))]
  · simp only [f_X11_endPromises_L3]
    rw [if_pos (lf_4 (by omega))]
end SP
