/-! layer 2: a client drops a copy: both stores in step -/
section CD
variable {N g c o : Nat} {M Mc Mr : gM}
theorem cDp_fr : cf (fun j q => (51 ≤ j.1 ∧ j.1 ≤ 58 ∧ j.2.1 = 4 + c) ∨ ((j.1 = 32 ∨ j.1 = 33) ∧ j.2.1 = c ∧ q = o)) M (cDp N g M c o) := by
  intro j q h
  unfold cDp cDr cKd
  rw [gset_r, if_neg (fun e => h (by rw [e.1]; dsimp only; omega)), gset_r, if_neg (fun e => h (by rw [e.1]; dsimp only; omega)), if_neg (fun e => e.elim (fun e => h (by rw [e.1]; dsimp only; omega)) (fun e => h (by dsimp only; omega))), gpu_r, if_neg (fun e => h (by rw [e.1]; dsimp only; omega)), gset_r, if_neg (fun e => h (by rw [e.1]; dsimp only; omega)), gset_r, if_neg (fun e => h (by rw [e.1]; dsimp only; omega)), gset_r, if_neg (fun e => h (by rw [e.1]; dsimp only; omega))]
theorem rFg_fr (hg : g ≤ 47) : cf (fun j q => ((j.1 = 22 ∨ j.1 = 27 ∨ j.1 = 26) ∧ q = 48 * c + o) ∨ (j.1 = 30 ∧ 48 * c ≤ q ∧ q < 48 * c + 48)) M (rFg g M c o) := by
  intro j q h
  unfold rFg
  rw [if_neg (fun e => h (by rcases e.1 with y | y | y <;> rw [y] <;> dsimp only <;> omega)), if_neg (fun e => h (by rw [e.1]; dsimp only; omega))]
/-- what stands in the class's store behind it -/
theorem cDp_h (t p : Nat) (ht : t = 51 ∨ t = 52 ∨ t = 53) : cDp N g M c o (t, 4 + c, 0) p = if p = o then 0 else M (t, 4 + c, 0) p := by
  unfold cDp cDr cKd
  rw [gset_r, if_neg (by intro e; have := congrArg Prod.fst e.1; dsimp only at this; omega), gset_r, if_neg (by intro e; have := congrArg Prod.fst e.1; dsimp only at this; omega), if_neg (fun e => e.elim (fun e => by have := congrArg Prod.fst e.1; dsimp only at this; omega) (fun e => by have := e.1.1; dsimp only at this; omega)), gpu_r, if_neg (by intro e; have := congrArg Prod.fst e.1; dsimp only at this; omega)]
  simp only [gset_r, Prod.mk.injEq, and_true, true_and]
  by_cases e : p = o
  · rcases ht with rfl | rfl | rfl <;> simp [e]
  · simp [e]
theorem cDp_55 (p k : Nat) (hk : k < N + 4) : cDp N g M c o (55, 4 + c, p) k = if p = o then 0 else M (55, 4 + c, p) k := by
  unfold cDp cDr cKd
  rw [gset_r, if_neg (by simp), gset_r, if_neg (by simp), if_neg (by simp), gpu_r]
  by_cases e : p = o
  · rw [if_pos ⟨by rw [e], by omega, by omega⟩, if_pos e]
  · rw [if_neg (fun x => e (congrArg (fun j : gI => j.2.2) x.1)), if_neg e, gset_r, if_neg (by simp), gset_r, if_neg (by simp), gset_r, if_neg (by simp)]
theorem cDp_56 (p : Nat) : cDp N g M c o (56, 4 + c, 0) p = if o < p ∧ p < g + 1 ∧ M (2, 0, 0) p = nI o then 0 else M (56, 4 + c, 0) p := by
  have e2 : (gpu (gset (gset (gset M (51, 4 + c, 0) o 0) (52, 4 + c, 0) o 0) (53, 4 + c, 0) o 0) (55, 4 + c, o) 0 (N + 4) (fun _ => 0)) (2, 0, 0) p = M (2, 0, 0) p := by
    rw [gpu_r, if_neg (by simp), gset_r, if_neg (by simp), gset_r, if_neg (by simp), gset_r, if_neg (by simp)]
  unfold cDp cDr cKd
  rw [gset_r, if_neg (by simp), gset_r, if_neg (by simp), e2]
  by_cases e : o < p ∧ p < g + 1 ∧ M (2, 0, 0) p = nI o
  · rw [if_pos (Or.inl ⟨rfl, e⟩), if_pos e]
  · rw [if_neg (fun x => x.elim (fun x => e x.2) (fun x => by have := x.1.1; dsimp only at this; omega)), if_neg e, gpu_r, if_neg (by simp), gset_r, if_neg (by simp), gset_r, if_neg (by simp), gset_r, if_neg (by simp)]
theorem cDp_3 (t p : Nat) (ht : t = 32 ∨ t = 33) : cDp N g M c o (t, c, 0) p = if p = o then 0 else M (t, c, 0) p := by
  unfold cDp cDr cKd
  by_cases e : p = o
  · subst e
    rcases ht with rfl | rfl
    · rw [gset_r, if_neg (by simp), gset_r, if_pos ⟨rfl, rfl⟩, if_pos rfl]
    · rw [gset_r, if_pos ⟨rfl, rfl⟩, if_pos rfl]
  · rw [gset_r, if_neg (fun x => e x.2), gset_r, if_neg (fun x => e x.2), if_neg e, if_neg (fun e => e.elim (fun e => by have := congrArg Prod.fst e.1; dsimp only at this; omega) (fun e => by have := e.1.1; dsimp only at this; omega)), gpu_r, if_neg (by intro e; have := congrArg Prod.fst e.1; dsimp only at this; omega), gset_r, if_neg (fun x => e x.2), gset_r, if_neg (fun x => e x.2), gset_r, if_neg (fun x => e x.2)]
theorem rFg_k {p : Nat} {j : gI} (hj : j = m_kept ∨ j = m_dirty ∨ j = m_promised) (ho : o < 48) (hp : p < 48) : rFg g M c o j (48 * c + p) = if p = o then 0 else M j (48 * c + p) := by
  unfold rFg
  by_cases e : p = o
  · rw [if_pos ⟨hj, by omega⟩, if_pos e]
  · rw [if_neg (fun x => e (by omega)), if_neg e, if_neg (fun x => by rcases hj with y | y | y <;> exact absurd (x.1.symm.trans y) (by decide))]
theorem rFg_e {p : Nat} (hp : p < 48) : rFg g M c o m_keptEntry (48 * c + p) = if 1 ≤ p ∧ p ≤ g ∧ M m_parent p = nI o then 0 else M m_keptEntry (48 * c + p) := by
  unfold rFg
  rw [if_neg (fun x => by rcases x.1 with y | y | y <;> exact absurd y (by decide)), show 48 * c + p - 48 * c = p by omega]
  by_cases e : 1 ≤ p ∧ p ≤ g ∧ M m_parent p = nI o
  · rw [if_pos ⟨rfl, by omega, by omega, e.2.2⟩, if_pos e]
  · rw [if_neg (fun x => e ⟨by omega, by omega, x.2.2.2⟩), if_neg e]
/-- a child's number is greater -/
theorem kid_gt (h : iCat g M) {p q : Nat} (h1 : 1 ≤ p) (h2 : p ≤ g) (hq : q < 2 ^ 31) (e : M (2, 0, 0) p = nI q) : q < p := by
  obtain ⟨r, r1, r2, -⟩ := h.2.2.2 p h1 h2
  have hg := h.1
  rw [r2] at e
  have := (nI_eq (by omega) hq).mp e
  omega
theorem rel_cdrop (hN : N ≤ 4) (hc : c < 4) (ho : o < 48) (R : Rel N g Mc Mr) (I : iCat g Mc) : Rel N g (cDp N g Mc c o) (rFg g Mr c o) := by
  have hg := I.1
  have fc := cDp_fr (N := N) (g := g) (c := c) (o := o) (M := Mc)
  have fr := rFg_fr (c := c) (o := o) (M := Mr) hg
  refine R.cli hN (fc.mo ?_) (fr.mo ?_) (fun d hd p hp => ?_)
  · intro j q; unfold aKl csc; omega
  · intro j q; unfold bKl rsc; omega
  · have h := R.kl hd hp
    by_cases e : d = c
    · subst e
      obtain ⟨f1, f2, f3, f4, f5, f6, f7, f8⟩ := h
      have hdir : rFg g Mr d o m_isDirectory p = Mr m_isDirectory p := fr _ _ (by dsimp only; omega)
      have hval : rFg g Mr d o m_keptValue (48 * d + p) = Mr m_keptValue (48 * d + p) := fr _ _ (by dsimp only; omega)
      have hsiz : rFg g Mr d o m_keptSize (48 * d + p) = Mr m_keptSize (48 * d + p) := fr _ _ (by dsimp only; omega)
      have hvec : ∀ k, rFg g Mr d o m_keptVector (8 * (48 * d + p) + k) = Mr m_keptVector (8 * (48 * d + p) + k) := fun k => fr _ _ (by dsimp only; omega)
      have hpri : rFg g Mr d o m_priorities (48 * d + p) = Mr m_priorities (48 * d + p) := fr _ _ (by dsimp only; omega)
      have hpr2 : cDp N g Mc d o (31, d, 0) p = Mc (31, d, 0) p := fc _ _ (by dsimp only; omega)
      unfold rKl
      rw [cDp_h 51 p (by omega), cDp_h 52 p (by omega), cDp_h 53 p (by omega), cDp_56, cDp_3 32 p (by omega), cDp_3 33 p (by omega), hpr2, rFg_k (Or.inl rfl) ho hp, rFg_k (Or.inr (Or.inl rfl)) ho hp, rFg_k (Or.inr (Or.inr rfl)) ho hp, rFg_e hp, hdir, hval, hsiz, hpri]
      have hst : (if o < p ∧ p < g + 1 ∧ Mc (2, 0, 0) p = nI o then (0 : Int32) else Mc (56, 4 + d, 0) p) = if 1 ≤ p ∧ p ≤ g ∧ Mr m_parent p = nI o then 0 else Mr m_keptEntry (48 * d + p) := by
        have ep := (R.ct.2.2 p hp).1
        rw [← ep, f5]
        by_cases q : 1 ≤ p ∧ p ≤ g ∧ Mc (2, 0, 0) p = nI o
        · rw [if_pos q, if_pos ⟨kid_gt I q.1 q.2.1 (by omega) q.2.2, by omega, q.2.2⟩]
        · rw [if_neg q, if_neg (fun x => q ⟨by omega, by omega, x.2.2⟩)]
      by_cases eo : p = o
      · refine ⟨by rw [if_pos eo, if_pos eo], by rw [if_pos eo, if_pos eo, if_pos (Or.inl rfl)], by rw [if_pos eo, if_pos eo, if_pos (Or.inl rfl)], fun k hk => ?_, hst, f6, by rw [if_pos eo, if_pos eo], by rw [if_pos eo, if_pos eo]⟩
        rw [cDp_55 p k hk, if_pos eo, if_pos eo, if_pos rfl]
      · refine ⟨by rw [if_neg eo, if_neg eo]; exact f1, by rw [if_neg eo, if_neg eo]; exact f2, by rw [if_neg eo, if_neg eo]; exact f3, fun k hk => ?_, hst, f6, by rw [if_neg eo, if_neg eo]; exact f7, by rw [if_neg eo, if_neg eo]; exact f8⟩
        rw [cDp_55 p k hk, if_neg eo, if_neg eo, hvec]
        exact f4 k hk
    · refine h.fr hN fc fr ?_ ?_
      · intro j q; unfold kKl; omega
      · intro j q; unfold lKl; omega
theorem wsum_le {f f' : Nat → Nat} : ∀ n, (∀ k, k < n → f k ≤ f' k) → wsum f n ≤ wsum f' n := by
  intro n
  induction n with
  | zero => intro _; exact Nat.le_refl _
  | succ n ih =>
    intro h
    have a := ih (fun k hk => h k (by omega))
    have b := h n (by omega)
    show wsum f n + f n ≤ wsum f' n + f' n
    omega
theorem wsum_out {f f' : Nat → Nat} {o : Nat} : ∀ n, o < n → f' o = 0 → (∀ k, k < n → k ≠ o → f' k = f k) → wsum f' n + f o = wsum f n := by
  intro n
  induction n with
  | zero => intro h; omega
  | succ n ih =>
    intro h h0 he
    show wsum f' n + f' n + f o = wsum f n + f n
    by_cases e : o = n
    · subst e
      rw [h0, wsum_congr (f' := f) o (fun k hk => he k (by omega) (by omega))]
      omega
    · have := ih (by omega) h0 (fun k hk hn => he k (by omega) hn)
      rw [he n (by omega) (by omega)]
      omega
theorem cDp_wt (p : Nat) (hp : p < 48) : wt (cDp N g M c o) c p = if p = o then 0 else wt M c p := by
  unfold wt
  rw [cDp_h 51 p (by omega), cDp_h 53 p (by omega), cDp_fr (4, 0, 0) p (by dsimp only; omega)]
  by_cases e : p = o
  · rw [if_pos e, if_pos e, if_pos rfl, if_pos e]
  · rw [if_neg e, if_neg e, if_neg e]
theorem inv_cdrop (hN : N ≤ 4) (hc : c < 4) (ho : o < 48) (I : Inv N g M) (hw : ∀ i, i < 12 → nI i < M (40, c, 0) 4 → M (41, c, 0) i = 0 → ¬ M (42, c, 0) i = nI o) : Inv N g (cDp N g M c o) := by
  have hg := I.1.1
  have fc := cDp_fr (N := N) (g := g) (c := c) (o := o) (M := M)
  have hnr : ∀ d, cNr N (cDp N g M c o) d = cNr N M d := fun d => cNr.fr hN fc (by dsimp only; omega) (fun q _ => by dsimp only; omega)
  refine I.cli hN (fc.mo ?_) (fun d hd p hp => ?_) (fun d hd => ?_) (fun d hd => ?_)
  · intro j q; unfold aKl csc; omega
  · have h := I.2.2.2.2.1 d hd p hp
    by_cases e : d = c
    · subst e
      obtain ⟨f1, f2, f3, f4, f5, f6, f7, f8, f9⟩ := h
      unfold iKl
      rw [cDp_h 51 p (by omega), cDp_h 53 p (by omega), cDp_56, cDp_3 32 p (by omega), cDp_3 33 p (by omega), fc (31, d, 0) p (by dsimp only; omega), hnr]
      have s3 : (if o < p ∧ p < g + 1 ∧ M (2, 0, 0) p = nI o then (0 : Int32) else M (56, 4 + d, 0) p) = 0 ∨ (if o < p ∧ p < g + 1 ∧ M (2, 0, 0) p = nI o then (0 : Int32) else M (56, 4 + d, 0) p) = M (56, 4 + d, 0) p := by
        by_cases q : o < p ∧ p < g + 1 ∧ M (2, 0, 0) p = nI o
        · left; rw [if_pos q]
        · right; rw [if_neg q]
      by_cases eo : p = o
      · rw [if_pos eo, if_pos eo, if_pos eo, if_pos eo]
        refine ⟨Or.inl rfl, Or.inl rfl, ?_, fun h => absurd h (by decide), ?_, fun _ => ⟨rfl, rfl⟩, by rw [Int32.zero_and], ⟨0, by omega, rfl⟩, f9⟩
        · rcases s3 with s | s <;> rw [s]
          · exact Or.inl rfl
          · exact f3
        · rcases s3 with s | s <;> rw [s]
          · intro h; exact absurd rfl h
          · exact f5
      · rw [if_neg eo, if_neg eo, if_neg eo, if_neg eo]
        refine ⟨f1, f2, ?_, f4, ?_, f6, f7, f8, f9⟩
        · rcases s3 with s | s <;> rw [s]
          · exact Or.inl rfl
          · exact f3
        · rcases s3 with s | s <;> rw [s]
          · intro h; exact absurd rfl h
          · exact f5
    · refine h.fr hN fc ?_
      intro j q; unfold eKl; omega
  · have h := I.2.2.2.2.2.1 d hd
    by_cases e : d = c
    · subst e
      unfold iWt at h ⊢
      refine Nat.le_trans (wsum_le 48 (fun k hk => ?_)) h
      rw [cDp_wt k hk]
      by_cases eo : k = o
      · rw [if_pos eo]; omega
      · rw [if_neg eo]; exact Nat.le_refl _
    · refine h.fr fc ?_
      intro j q; unfold eWt; omega
  · have h := I.2.2.2.2.2.2.1 d hd
    by_cases e : d = c
    · subst e
      obtain ⟨n, a, b, d0, f, k⟩ := h
      have e4 : ∀ t q, 40 ≤ t → t ≤ 43 → cDp N g M d o (t, d, 0) q = M (t, d, 0) q := fun t q h1 h2 => fc _ _ (by dsimp only; omega)
      refine ⟨n, a, by rw [e4 40 _ (by omega) (by omega)]; exact b, fun h0 p hp => ?_, fun i hi => ?_, fun i j hi hj x1 x2 x3 => ?_⟩
      · rw [cDp_3 33 p (by omega)]
        by_cases eo : p = o
        · rw [if_pos eo]
        · rw [if_neg eo]; exact d0 h0 p hp
      · obtain ⟨ob, o1, o2, o3, o4⟩ := f i hi
        refine ⟨ob, o1, o2, by rw [e4 42 _ (by omega) (by omega)]; exact o3, ?_⟩
        rw [e4 41 _ (by omega) (by omega), e4 43 _ (by omega) (by omega), fc (4, 0, 0) ob (by dsimp only; omega), fc (2, 0, 0) ob (by dsimp only; omega)]
        rcases o4 with q | q | q
        · have hne : ob ≠ o := fun x => hw i (by omega) (by rw [b]; exact nI_lt hi (by omega)) q.1 (by rw [o3, x])
          refine Or.inl ⟨q.1, q.2.1, ?_, ?_, q.2.2.2.2⟩
          · rw [cDp_h 51 ob (by omega), if_neg hne]; exact q.2.2.1
          · rw [cDp_3 33 ob (by omega), if_neg hne]; exact q.2.2.2.1
        · refine Or.inr (Or.inl ⟨q.1, q.2.1, fun s hs => ?_⟩)
          rw [fc (51, s, 0) ob (by dsimp only; omega), fc (56, s, 0) ob (by dsimp only; omega)]
          exact q.2.2 s hs
        · exact Or.inr (Or.inr q)
      · rw [e4 41 _ (by omega) (by omega)] at x1 x2
        rw [e4 42 _ (by omega) (by omega), e4 42 _ (by omega) (by omega)] at x3
        exact k i j hi hj x1 x2 x3
    · refine h.fr hg fc ?_
      intro j q; unfold eLg; omega
theorem held_cdrop {d p : Nat} (x : cDp N g Mc c o (51, 4 + d, 0) p = 1) : Mc (51, 4 + d, 0) p = 1 ∧ ¬ (d = c ∧ p = o) := by
  have fc := cDp_fr (N := N) (g := g) (c := c) (o := o) (M := Mc)
  by_cases e : d = c
  · subst e
    rw [cDp_h 51 p (by omega)] at x
    by_cases eo : p = o
    · rw [if_pos eo] at x; exact absurd x (by decide)
    · rw [if_neg eo] at x; exact ⟨x, fun h => eo h.2⟩
  · rw [fc _ _ (by dsimp only; omega)] at x; exact ⟨x, fun h => e h.1⟩
theorem usd_cdrop {B : Nat} (U : Usd B Mc Mr) (hg : g ≤ 47) : Usd B (cDp N g Mc c o) (rFg g Mr c o) := by
  refine U.fr (cDp_fr (N := N) (g := g) (c := c) (o := o) (M := Mc)) (rFg_fr (c := c) (o := o) (M := Mr) hg) ?_ ?_ ?_ ?_ ?_ ?_
  · intro c q; dsimp only; omega
  · intro c; dsimp only; omega
  · intro q; dsimp only; omega
  · intro q; dsimp only; omega
  · dsimp only; omega
  · dsimp only; omega
theorem all_cdrop {x : Nat} (U : uAll c x Mc Mr) (hg : g ≤ 47) : uAll c x (cDp N g Mc c o) (rFg g Mr c o) := fun d hd => (U d hd).fr (fun q _ => cDp_fr _ _ (by dsimp only; omega)) (fun q _ _ h => (held_cdrop h).1) (fun q _ => rFg_fr hg _ _ (by dsimp only; omega))
/-- what is not held needs no order -/
theorem all_un (h : Mc (51, 4 + c, 0) o = 0) (U : uAll c o Mc Mr) : uAll c 48 Mc Mr := fun d hd => by
  have u := U d hd
  by_cases e : d = c
  · subst e
    rw [if_pos rfl] at u ⊢
    intro a b ha hb n1 n2 x1 x2
    exact u a b ha hb (fun y => by rw [y, h] at x1; exact absurd x1 (by decide)) (fun y => by rw [y, h] at x2; exact absurd x2 (by decide)) x1 x2
  · rw [if_neg e] at u ⊢
    exact u
theorem now_un (h : Mc (51, 4 + c, 0) o = 0) (U : uNow c o Mc Mr) : uNow c 48 Mc Mr := ⟨U.1, fun p hp _ x => U.2 p hp (fun y => by rw [y, h] at x; exact absurd x (by decide)) x⟩
theorem now_cdrop {x : Nat} (h : uNow c x Mc Mr) (hg : g ≤ 47) : uNow c x (cDp N g Mc c o) (rFg g Mr c o) := by
  refine h.fr (cDp_fr (N := N) (g := g) (c := c) (o := o) (M := Mc)) (rFg_fr (c := c) (o := o) (M := Mr) hg) ?_ ?_ ?_ ?_ ?_ ?_
  · intro q; dsimp only; omega
  · dsimp only; omega
  · dsimp only; omega
  · intro q; dsimp only; omega
  · dsimp only; omega
  · intro q _ _ h; exact (held_cdrop h).1
end CD
