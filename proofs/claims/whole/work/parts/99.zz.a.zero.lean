/-! layer 2: the start -/
section QA
variable {N T L i n : Nat} {xs : Nat → Int32} {z : lS}
theorem m0 (j : gI) (q : Nat) (h1 : j ≠ m_up) (h2 : j ≠ m_has) (h3 : j ≠ m_linked) (h4 : j ≠ m_reaches) (h5 : j ≠ m_o) (h6 : j ≠ m_isDirectory) (h7 : j ≠ m_parent) : mM0 N j q = 0 := by
  unfold mM0 mM2
  rw [if_neg (by rintro (z | z); exact h1 z.1; exact h2 z.1), gset_o (fun z => h7 z.1), gset_o (fun z => h6 z.1), gset_o (fun z => h5 z.1)]
  unfold mM1
  rw [if_neg (by rintro ⟨z | z, -⟩; exact h3 z; exact h4 z), gset_o (fun z => h5 z.1), gset_o (fun z => h5 z.1)]
  rfl
theorem m0_o (q : Nat) : mM0 N m_o q = if q = 6 then 1 else if q = 1 then nI (N + 4) else if q = 0 then nI N else 0 := by
  unfold mM0 mM2
  rw [if_neg (by rintro (z | z) <;> exact absurd z.1 (by decide)), gset_o (by simp), gset_o (by simp), gset_r]
  by_cases h6 : q = 6
  · rw [if_pos ⟨rfl, h6⟩, if_pos h6]
  · rw [if_neg (fun z => h6 z.2), if_neg h6]
    unfold mM1
    rw [if_neg (by rintro ⟨z | z, -⟩ <;> exact absurd z (by decide)), gset_r]
    by_cases h1 : q = 1
    · rw [if_pos ⟨rfl, h1⟩, if_pos h1]
    · rw [if_neg (fun z => h1 z.2), if_neg h1, gset_r]
      by_cases h0 : q = 0
      · rw [if_pos ⟨rfl, h0⟩, if_pos h0]
      · rw [if_neg (fun z => h0 z.2), if_neg h0]; rfl
theorem m0_up (q : Nat) : mM0 N m_up q = if q < N then 1 else 0 := by
  unfold mM0 mM2
  by_cases h : q < N
  · rw [if_pos (Or.inl ⟨rfl, h⟩), if_pos h]
  · rw [if_neg (by rintro (z | z); exact h z.2; exact absurd z.1 (by decide)), if_neg h, gset_o (by simp), gset_o (by simp), gset_o (by simp)]
    unfold mM1
    rw [if_neg (by rintro ⟨z | z, -⟩ <;> exact absurd z (by decide)), gset_o (by simp), gset_o (by simp)]; rfl
theorem m0_has {s o : Nat} (ho : o < 48) : mM0 N m_has (48 * s + o) = if s < N ∧ o = 0 then 1 else 0 := by
  unfold mM0 mM2
  by_cases h : s < N ∧ o = 0
  · rw [if_pos (Or.inr ⟨rfl, by omega, by omega⟩), if_pos h]
  · rw [if_neg (by rintro (z | z); exact absurd z.1 (by decide); exact h (by omega)), if_neg h, gset_o (by simp), gset_o (by simp), gset_o (by simp)]
    unfold mM1
    rw [if_neg (by rintro ⟨z | z, -⟩ <;> exact absurd z (by decide)), gset_o (by simp), gset_o (by simp)]; rfl
theorem m0_li {j : gI} {q : Nat} (hj : j = m_linked ∨ j = m_reaches) (hq : q < 16) : mM0 N j q = 1 := by
  unfold mM0 mM2
  rw [if_neg (by rintro (z | z) <;> rcases hj with hj | hj <;> (rw [hj] at z; exact absurd z.1 (by decide))), gset_o (by rcases hj with hj | hj <;> (rw [hj]; simp)), gset_o (by rcases hj with hj | hj <;> (rw [hj]; simp)), gset_o (by rcases hj with hj | hj <;> (rw [hj]; simp))]
  unfold mM1
  rw [if_pos ⟨hj, hq⟩]
theorem m0_dir (q : Nat) : mM0 N m_isDirectory q = if q = 0 then 1 else 0 := by
  unfold mM0 mM2
  rw [if_neg (by rintro (z | z) <;> exact absurd z.1 (by decide)), gset_o (by simp), gset_r]
  by_cases h : q = 0
  · rw [if_pos ⟨rfl, h⟩, if_pos h]
  · rw [if_neg (fun z => h z.2), if_neg h, gset_o (by simp)]
    unfold mM1
    rw [if_neg (by rintro ⟨z | z, -⟩ <;> exact absurd z (by decide)), gset_o (by simp), gset_o (by simp)]; rfl
theorem m0_par (q : Nat) : mM0 N m_parent q = if q = 0 then -1 else 0 := by
  unfold mM0 mM2
  rw [if_neg (by rintro (z | z) <;> exact absurd z.1 (by decide)), gset_r]
  by_cases h : q = 0
  · rw [if_pos ⟨rfl, h⟩, if_pos h]
  · rw [if_neg (fun z => h z.2), if_neg h, gset_o (by simp), gset_o (by simp)]
    unfold mM1
    rw [if_neg (by rintro ⟨z | z, -⟩ <;> exact absurd z (by decide)), gset_o (by simp), gset_o (by simp)]; rfl
theorem bit_0 {i : Nat} (hi : i < 32) : bt (0 : Int32) i = false := by revert i; decide
theorem nlt0 {i : Nat} (hi : i < 100) : ¬ nI i < (0 : Int32) := by
  rw [show (0 : Int32) = nI 0 from rfl, nlt (by omega) (by omega)]; omega
theorem up0 (hN : 1 ≤ N ∧ N ≤ 4) : ((1 : Int32) <<< (nI N &&& 31)) - 1 = sS (fun s => nz (mM0 N m_up s)) N := by
  have e : sS (fun s => nz (mM0 N m_up s)) N = sS (fun _ => true) N := sN_congr _ _ _ (fun s _ hs => by rw [m0_up, if_pos (by omega)]; rfl)
  rw [e]
  rcases (show N = 1 ∨ N = 2 ∨ N = 3 ∨ N = 4 by omega) with rfl | rfl | rfl | rfl <;> decide
theorem rel0 (hN : 1 ≤ N ∧ N ≤ 4) : Rel N 0 (cM0 N) (mM0 N) := by
  have z : ∀ (j : gI) q, 11 < j.1 → mM0 N j q = 0 := fun j q h => m0 j q (fun e => by rw [e] at h; exact absurd h (by decide)) (fun e => by rw [e] at h; exact absurd h (by decide)) (fun e => by rw [e] at h; exact absurd h (by decide)) (fun e => by rw [e] at h; exact absurd h (by decide)) (fun e => by rw [e] at h; exact absurd h (by decide)) (fun e => by rw [e] at h; exact absurd h (by decide)) (fun e => by rw [e] at h; exact absurd h (by decide))
  refine ⟨⟨rfl, rfl, fun c _ => rfl, ?_, ?_⟩, ⟨rfl, ?_, fun o ho => ⟨?_, ?_, ?_⟩⟩, ⟨up0 hN, fun s hs => ⟨fun t ht _ => ?_, bit_0 (by omega), fun c hc => ?_⟩, fun s hs => ⟨?_, fun t ht => Or.inr (m0_li (Or.inl rfl) (by omega)), fun c hc => Or.inr (m0_li (Or.inr rfl) (by omega))⟩⟩, fun s hs => ?_, fun s hs o ho => ?_, fun c hc o ho => ?_, fun c hc => ?_, fun k k1 k2 => ?_⟩
  · rw [m0_o, if_neg (by decide), if_neg (by decide), if_pos rfl]
  · rw [m0_o, if_neg (by decide), if_pos rfl]
  · rw [m0_o, if_pos rfl]; rfl
  · rw [m0_par]; rfl
  · rw [m0 m_name o (by decide) (by decide) (by decide) (by decide) (by decide) (by decide) (by decide)]; rfl
  · rw [m0_dir]; rfl
  · rw [m0_li (Or.inl rfl) (by omega)]; exact bit_0 (by omega)
  · rw [m0_li (Or.inr rfl) (by omega)]; exact bit_0 (by omega)
  · rw [m0_up, if_pos hs]; exact Or.inr rfl
  · rw [m0 m_loses s (by decide) (by decide) (by decide) (by decide) (by decide) (by decide) (by decide)]; rfl
  · refine ⟨?_, ?_, ?_, fun k hk => ?_, ?_, fun k hk => ?_, ?_, ?_, fun i hi hl => ?_⟩
    · rw [m0_has ho]
      show (if s < 4 ∧ o = 0 then (1 : Int32) else 0) = _
      by_cases e : o = 0
      · rw [if_pos ⟨by omega, e⟩, if_pos ⟨hs, e⟩]
      · rw [if_neg (fun z => e z.2), if_neg (fun z => e z.2)]
    · rw [z m_value _ (by decide)]; split <;> rfl
    · rw [z m_size _ (by decide)]; split <;> rfl
    · rw [z m_vector _ (by decide)]; split <;> rfl
    · rw [z m_entry _ (by decide)]; rfl
    · rw [z m_gone _ (by decide)]; split <;> rfl
    · rw [z m_marks _ (by decide)]; rfl
    · rw [z m_versions _ (by decide)]; rfl
    · rw [z m_versions _ (by decide)] at hl; exact absurd hl (nlt0 (by omega))
  · have e51 : cM0 N (51, 4 + c, 0) o = 0 := if_neg (by rintro ⟨h, -⟩; dsimp only at h; omega)
    refine ⟨?_, ?_, ?_, fun k hk => ?_, ?_, ?_, ?_, ?_⟩
    · rw [e51, z m_kept _ (by decide)]
    · rw [z m_keptValue _ (by decide)]; split <;> rfl
    · rw [z m_keptSize _ (by decide)]; split <;> rfl
    · rw [z m_keptVector _ (by decide)]; split <;> rfl
    · rw [z m_keptEntry _ (by decide)]; rfl
    · rw [z m_priorities _ (by decide)]; rfl
    · rw [z m_promised _ (by decide)]; rfl
    · rw [z m_dirty _ (by decide)]; rfl
  · refine ⟨?_, ?_, fun i hi hl => ?_⟩
    · rw [z m_records _ (by decide)]; rfl
    · rw [z m_versionsTold _ (by decide)]; rfl
    · rw [z m_records _ (by decide)] at hl; exact absurd hl (nlt0 (by omega))
  · rw [m0_o, if_neg (by omega), if_neg (by omega), if_neg (by omega)]; rfl
theorem inv0 (hN : 1 ≤ N ∧ N ≤ 4) : Inv N 0 (cM0 N) := by
  have e51 : ∀ c o, cM0 N (51, 4 + c, 0) o = 0 := fun c o => if_neg (by rintro ⟨h, -⟩; dsimp only at h; omega)
  have h51 : ∀ s o, s < 4 → cM0 N (51, s, 0) o = if o = 0 then 1 else 0 := fun s o hs => by
    show (if s < 4 ∧ o = 0 then (1 : Int32) else 0) = _
    by_cases e : o = 0
    · rw [if_pos ⟨hs, e⟩, if_pos e]
    · rw [if_neg (fun z => e z.2), if_neg e]
  refine ⟨⟨by omega, rfl, fun o ho => ?_, fun o h1 h2 => by omega⟩, fun s hs => Or.inl rfl, fun s hs o ho => ⟨?_, Or.inl rfl, fun h => ?_, fun h => absurd rfl h, fun p hp h1 _ => ⟨fun h => ?_, fun h => absurd rfl h⟩⟩, fun s hs o ho => ⟨⟨0, by omega, rfl⟩, 0, by omega, rfl, fun h => absurd rfl h, fun i hi => absurd hi (by omega)⟩, fun c hc o ho => ⟨Or.inl (e51 c o), Or.inl rfl, Or.inl rfl, fun h => ?_, fun h => absurd rfl h, fun _ => ⟨rfl, rfl⟩, Int32.zero_and, ⟨0, by omega, rfl⟩, ⟨0, by omega, rfl⟩⟩, fun c hc => ?_, fun c hc => ⟨0, by omega, rfl, fun _ _ _ => rfl, fun i hi => absurd hi (by omega), fun i j hi => absurd hi (by omega)⟩, fun c d i j hc hd hi _ hi12 => absurd hi (nlt0 (by omega))⟩
  · show (if o = 0 then (1 : Int32) else 0) = 0 ∨ (if o = 0 then (1 : Int32) else 0) = 1
    split
    · exact Or.inr rfl
    · exact Or.inl rfl
  · rw [h51 s o (by omega)]
    split
    · exact Or.inr rfl
    · exact Or.inl rfl
  · rw [h51 s o (by omega)] at h
    split at h
    · omega
    · exact absurd h (by decide)
  · rw [h51 s o (by omega), if_neg (by omega)] at h; exact absurd h (by decide)
  · rw [e51 c o] at h; exact absurd h (by decide)
  · unfold iWt
    have : ∀ n, wsum (wt (cM0 N) c) n = 0 := by
      intro n
      induction n with
      | zero => rfl
      | succ n ih =>
        show wsum _ n + wt (cM0 N) c n = 0
        rw [ih]
        unfold wt
        rw [if_pos (e51 c n)]
    rw [this]; omega
theorem st0 (hN : 1 ≤ N ∧ N ≤ 4) : St N 0 (cM0 N) (mM0 N) := by
  have z : ∀ (j : gI) q, 11 < j.1 → mM0 N j q = 0 := fun j q h => m0 j q (fun e => by rw [e] at h; exact absurd h (by decide)) (fun e => by rw [e] at h; exact absurd h (by decide)) (fun e => by rw [e] at h; exact absurd h (by decide)) (fun e => by rw [e] at h; exact absurd h (by decide)) (fun e => by rw [e] at h; exact absurd h (by decide)) (fun e => by rw [e] at h; exact absurd h (by decide)) (fun e => by rw [e] at h; exact absurd h (by decide))
  have e51 : ∀ c o, cM0 N (51, 4 + c, 0) o = 0 := fun c o => if_neg (by rintro ⟨h, -⟩; dsimp only at h; omega)
  refine ⟨0, rel0 hN, inv0 hN, ⟨0, 0, by omega, by omega, ?_, ?_, fun c hc => ⟨0, by omega, rfl, fun o ho => ⟨⟨0, by omega, rfl⟩, ⟨0, by omega, z _ _ (by decide)⟩, ⟨0, by omega, z _ _ (by decide)⟩⟩⟩⟩, fun d hd o p ho hp _ _ h => ?_⟩
  · rw [m0_o, if_neg (by decide), if_neg (by decide), if_neg (by decide)]; rfl
  · rw [m0_o, if_neg (by decide), if_neg (by decide), if_neg (by decide)]; rfl
  · rw [e51] at h; exact absurd h (by decide)
end QA
