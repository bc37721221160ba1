/-! layer 2: logs are edited; the invariants without the logs, more of them -/
section JM
variable {N g B s o c d x z T n n' t i : Nat} {M M' Mc Mr Mc' Mr' : gM} {row : gI} {v w a1 a2 a3 a4 : Int32}
theorem JInv.lgs (hN : N ≤ 4) (I : JInv N g M) (hc : cf (fun j q => 40 ≤ j.1 ∧ j.1 ≤ 45) M M') : JInv N g M' := by
  obtain ⟨cat, lo, sv, vr, kl, w⟩ := I
  refine ⟨cat.fr hc ?_, fun s hs => ?_, fun s hs o ho => (sv s hs o ho).fr ho hc ?_, fun s hs o ho => (vr s hs o ho).fr hc ?_, fun c h o ho => (kl c h o ho).fr hN hc ?_, fun c h => (w c h).fr hc ?_⟩
  · intro j q; unfold eCat; omega
  · rw [hc (20, s, 0) 3 (by dsimp only; omega)]; exact lo s hs
  · intro j q; unfold eSv; omega
  · intro j q; unfold eVr; omega
  · intro j q; unfold eKl; omega
  · intro j q; unfold eWt; omega
theorem kent_invJ {e : Int32} (hN : N ≤ 4) (hc : c < 4) (hx1 : 1 ≤ x) (hxg : x ≤ g) (I : JInv N g M) (hm : cf (fun j q => (j = (56, 4 + c, 0) ∧ q = x) ∨ (j.1 = 58 ∧ 4 ≤ j.2.1)) M M') (hv : M' (56, 4 + c, 0) x = e) (he : e = 0 ∨ e = 1 ∨ e = 2) : JInv N g M' := by
  have hg := I.1.1
  have hm' : cf (fun j q => (j.1 = 56 ∧ j.2.1 = 4 + c ∧ q = x) ∨ (j.1 = 58 ∧ 4 ≤ j.2.1)) M M' := hm.mo (fun j q h => h.elim (fun h => Or.inl (by rw [h.1]; exact ⟨rfl, rfl, h.2⟩)) Or.inr)
  refine I.cli hN (hm'.mo ?_) (fun c' h' p hp => ?_) (fun c' h' => (I.2.2.2.2.2 c' h').fr hm' ?_)
  · intro j q; unfold aKl; omega
  · by_cases q : c' = c ∧ p = x
    · obtain ⟨rfl, rfl⟩ := q
      have i0 := I.2.2.2.2.1 c' h' p hp
      unfold iKl at i0 ⊢
      rw [cNr.fr hN hm' (by dsimp only; omega) (fun q _ => by dsimp only; omega), hv, hm' _ _ (by dsimp only; omega), hm' _ _ (by dsimp only; omega), hm' _ _ (by dsimp only; omega), hm' _ _ (by dsimp only; omega), hm' _ _ (by dsimp only; omega)]
      obtain ⟨i1, i2, i3, i4, i5, i6⟩ := i0
      exact ⟨i1, i2, he, i4, fun _ => ⟨hx1, hxg⟩, i6⟩
    · refine (I.2.2.2.2.1 c' h' p hp).fr hN hm' ?_
      intro j q; unfold eKl; omega
  · intro j q; unfold eWt; omega
theorem JInv.dirt (hN : N ≤ 4) (hc4 : c < 4) (I : JInv N g M) (hc : cf (fun j q => j.1 = 33 ∧ j.2.1 = c) M M') (hkl : ∀ o, o < 48 → (M' (33, c, 0) o = 0 ∨ M' (33, c, 0) o = 1) ∧ (M (51, 4 + c, 0) o = 0 → M' (33, c, 0) o = 0)) : JInv N g M' := by
  refine I.cli hN (hc.mo ?_) (fun d h o ho => ?_) (fun d h => (I.2.2.2.2.2 d h).fr hc ?_)
  · intro j q; unfold aKl; omega
  · by_cases e : d = c
    · subst e
      have i0 := I.2.2.2.2.1 d h o ho
      unfold iKl at i0 ⊢
      rw [cNr.fr hN hc (by dsimp only; omega) (fun q _ => by dsimp only; omega), hc (51, 4 + d, 0) o (by dsimp only; omega), hc (56, 4 + d, 0) o (by dsimp only; omega), hc (53, 4 + d, 0) o (by dsimp only; omega), hc (31, d, 0) o (by dsimp only; omega), hc (32, d, 0) o (by dsimp only; omega)]
      obtain ⟨i1, i2, i3, i4, i5, i6, i7, i8, i9⟩ := i0
      exact ⟨i1, (hkl o ho).1, i3, i4, i5, fun z => ⟨(i6 z).1, (hkl o ho).2 z⟩, i7, i8, i9⟩
    · refine (I.2.2.2.2.1 d h o ho).fr hN hc ?_
      intro j q; unfold eKl; omega
  · intro j q; unfold eWt; omega
theorem inv_cdropJ (hN : N ≤ 4) (hc : c < 4) (ho : o < 48) (I : JInv N g M) : JInv N g (cDp N g M c o) := by
  have hg := I.1.1
  have fc := cDp_fr (N := N) (g := g) (c := c) (o := o) (M := M)
  have hnr : ∀ d, cNr N (cDp N g M c o) d = cNr N M d := fun d => cNr.fr hN fc (by dsimp only; omega) (fun q _ => by dsimp only; omega)
  refine I.cli hN (fc.mo ?_) (fun d hd p hp => ?_) (fun d hd => ?_)
  · intro j q; unfold aKl csc; omega
  · have h := I.2.2.2.2.1 d hd p hp
    by_cases e : d = c
    · subst e
      obtain ⟨f1, f2, f3, f4, f5, f6, f7, f8, f9⟩ := h
      unfold iKl
      rw [cDp_h 51 p (by omega), cDp_h 53 p (by omega), cDp_56, cDp_3 32 p (by omega), cDp_3 33 p (by omega), fc (31, d, 0) p (by dsimp only; omega), hnr]
      have s3 : (if o < p ∧ p < g + 1 ∧ M (2, 0, 0) p = nI o then (0 : Int32) else M (56, 4 + d, 0) p) = 0 ∨ (if o < p ∧ p < g + 1 ∧ M (2, 0, 0) p = nI o then (0 : Int32) else M (56, 4 + d, 0) p) = M (56, 4 + d, 0) p := by
        by_cases q : o < p ∧ p < g + 1 ∧ M (2, 0, 0) p = nI o
        · left; rw [if_pos q]
        · right; rw [if_neg q]
      by_cases eo : p = o
      · rw [if_pos eo, if_pos eo, if_pos eo, if_pos eo]
        refine ⟨Or.inl rfl, Or.inl rfl, ?_, fun h => absurd h (by decide), ?_, fun _ => ⟨rfl, rfl⟩, by rw [Int32.zero_and], ⟨0, by omega, rfl⟩, f9⟩
        · rcases s3 with s | s <;> rw [s]
          · exact Or.inl rfl
          · exact f3
        · rcases s3 with s | s <;> rw [s]
          · intro h; exact absurd rfl h
          · exact f5
      · rw [if_neg eo, if_neg eo, if_neg eo, if_neg eo]
        refine ⟨f1, f2, ?_, f4, ?_, f6, f7, f8, f9⟩
        · rcases s3 with s | s <;> rw [s]
          · exact Or.inl rfl
          · exact f3
        · rcases s3 with s | s <;> rw [s]
          · intro h; exact absurd rfl h
          · exact f5
    · refine h.fr hN fc ?_
      intro j q; unfold eKl; omega
  · have h := I.2.2.2.2.2 d hd
    by_cases e : d = c
    · subst e
      unfold iWt at h ⊢
      refine Nat.le_trans (wsum_le 48 (fun k hk => ?_)) h
      rw [cDp_wt k hk]
      by_cases eo : k = o
      · rw [if_pos eo]; omega
      · rw [if_neg eo]; exact Nat.le_refl _
    · refine h.fr fc ?_
      intro j q; unfold eWt; omega
theorem iRec.to2 {i i' : Nat} (h : iRec N g c i M) (h1 : M' (41, c, 0) i' = M (41, c, 0) i) (h2 : M' (42, c, 0) i' = M (42, c, 0) i) (h3 : M' (43, c, 0) i' = M (43, c, 0) i) (h4 : ∀ ob, ob ≤ g → M (41, c, 0) i = 0 → M (42, c, 0) i = nI ob → M (51, 4 + c, 0) ob = 1 → M (33, c, 0) ob = 1 → M' (51, 4 + c, 0) ob = 1 ∧ M' (33, c, 0) ob = 1) (h5 : ∀ ob, ob ≤ g → M' (4, 0, 0) ob = M (4, 0, 0) ob ∧ M' (2, 0, 0) ob = M (2, 0, 0) ob) (h6 : ∀ s ob, s < N → ob ≤ g → M' (51, s, 0) ob = M (51, s, 0) ob ∧ M' (56, s, 0) ob = M (56, s, 0) ob) : iRec N g c i' M' := by
  obtain ⟨ob, o1, o2, o3, o4⟩ := h
  refine ⟨ob, o1, o2, by rw [h2]; exact o3, ?_⟩
  rw [h1, h3, (h5 ob o2).1, (h5 ob o2).2]
  rcases o4 with ⟨q1, q2, q3, q4, q5⟩ | ⟨q1, q2, q3⟩ | q
  · exact Or.inl ⟨q1, q2, (h4 ob o2 q1 o3 q3 q4).1, (h4 ob o2 q1 o3 q3 q4).2, q5⟩
  · exact Or.inr (Or.inl ⟨q1, q2, fun s hs => by rw [(h6 s ob hs o2).1, (h6 s ob hs o2).2]; exact q3 s hs⟩)
  · exact Or.inr (Or.inr q)
theorem iMk_edit {ph : Nat → Nat} (hc4 : c < 4) (hn : n ≤ 12) (hn' : n' ≤ 12) (h : iMk M) (hl : M (40, c, 0) 4 = nI n) (e40 : M' (40, c, 0) 4 = nI n') (h1 : ∀ k, k < n' → ph k < n) (h2 : ∀ i j, i < n' → j < n' → ph i = ph j → i = j) (e : ∀ i, i < n' → M' (41, c, 0) i = M (41, c, 0) (ph i) ∧ M' (42, c, 0) i = M (42, c, 0) (ph i)) (ed : ∀ d, d ≠ c → ∀ i, M' (40, d, 0) i = M (40, d, 0) i ∧ M' (41, d, 0) i = M (41, d, 0) i ∧ M' (42, d, 0) i = M (42, d, 0) i) : iMk M' := by
  have old : ∀ d j, d < 4 → j < 12 → nI j < M' (40, d, 0) 4 → ∃ j', j' < 12 ∧ nI j' < M (40, d, 0) 4 ∧ M' (41, d, 0) j = M (41, d, 0) j' ∧ M' (42, d, 0) j = M (42, d, 0) j' ∧ j' = (if d = c then ph j else j) ∧ (d = c → j < n') := fun d j hd hj hl' => by
    by_cases q : d = c
    · subst q
      rw [e40, nlt (by omega) (by omega)] at hl'
      exact ⟨ph j, by have := h1 j hl'; omega, by rw [hl]; exact nI_lt (h1 j hl') (by omega), (e j hl').1, (e j hl').2, by rw [if_pos rfl], fun _ => hl'⟩
    · rw [(ed d q 4).1] at hl'
      exact ⟨j, hj, hl', (ed d q j).2.1, (ed d q j).2.2, by rw [if_neg q], fun z => absurd z q⟩
  intro a b i j ha hb hi hj i12 j12 x1 x2 x3
  obtain ⟨i', i1, i2, i3, i4, i5, i6⟩ := old a i ha i12 hi
  obtain ⟨j', j1, j2, j3, j4, j5, j6⟩ := old b j hb j12 hj
  rw [i3, j3] at x1
  rw [i3] at x2
  rw [i4, j4] at x3
  obtain ⟨r1, r2⟩ := h a b i' j' ha hb i2 j2 i1 j1 x1 x2 x3
  subst r1
  refine ⟨rfl, ?_⟩
  by_cases q : a = c
  · rw [if_pos q] at i5 j5
    exact h2 i j (i6 q) (j6 q) (by rw [← i5, ← j5]; exact r2)
  · rw [if_neg q] at i5 j5
    omega
theorem sk_mono {i j k : Nat} (h : j < k) : sk i j < sk i k := by unfold sk; split <;> split <;> omega
theorem sk_ne {i k : Nat} : sk i k ≠ i := by unfold sk; split <;> omega
theorem sk_inj {i j k : Nat} (h : sk i j = sk i k) : j = k := by unfold sk at h; split at h <;> split at h <;> omega
end JM
