/-! layer 2: logs -/
section LG
variable {N g B s o c d x z T n : Nat} {M M' Mc Mr Mc' Mr' : gM} {v w a1 a2 a3 : Int32}
theorem fst_s {p : Nat → Bool} (k m : Nat) : lsF p k (m + 1) = if p k then k else lsF p (k + 1) m := rfl
theorem c_indexOf (hl : M (40, c, 0) 4 = nI n) (hn : n ≤ 12) : f_X3_indexOf N M c a1 a2 = some (fst (fun i => decide (M (41, c, 0) i = a1 ∧ M (42, c, 0) i = a2)) n) := by
  have H : ∀ m k fu, k + m = n → m < fu → f_X3_indexOf_L2 N M c a1 a2 fu (nI k) = some (if lsF (fun i => decide (M (41, c, 0) i = a1 ∧ M (42, c, 0) i = a2)) k m < k + m then nI (lsF (fun i => decide (M (41, c, 0) i = a1 ∧ M (42, c, 0) i = a2)) k m) else -1) := by
    intro m
    induction m with
    | zero =>
      intro k fu hk hf
      obtain ⟨fu, rfl⟩ : ∃ q, fu = q + 1 := ⟨fu - 1, by omega⟩
      simp only [f_X3_indexOf_L2, lt_d, hl]
      rw [if_pos (nI_le (by omega) (by omega)), if_neg (by show ¬ k < k + 0; omega)]
    | succ m ih =>
      intro k fu hk hf
      obtain ⟨fu, rfl⟩ : ∃ q, fu = q + 1 := ⟨fu - 1, by omega⟩
      simp only [f_X3_indexOf_L2, lt_d, jn_d, hl]
      rw [if_neg (nI_ge (by omega) (by omega)), rd_n (by omega) (by omega), fst_s]
      have hi := ih (k + 1) fu (by omega) (by omega)
      rw [show k + 1 + m = k + (m + 1) by omega] at hi
      by_cases e1 : M (41, c, 0) k = a1
      · rw [if_pos e1, rd_n (by omega) (by omega)]
        by_cases e2 : M (42, c, 0) k = a2
        · rw [if_pos e2, if_pos (decide_eq_true ⟨e1, e2⟩), if_pos (by omega)]
        · rw [if_neg e2, nI_1, hi, if_neg (show ¬ decide (M (41, c, 0) k = a1 ∧ M (42, c, 0) k = a2) = true by simp [e2])]
      · rw [if_neg e1, nI_1, hi, if_neg (show ¬ decide (M (41, c, 0) k = a1 ∧ M (42, c, 0) k = a2) = true by simp [e1])]
  have h0 := H n 0 100 (by omega) (by omega)
  rw [show 0 + n = n by omega] at h0
  exact h0
theorem r_recordOf (hc : c < 4) (hl : M m_records c = nI n) (hn : n ≤ 12) : f_X11_recordOf M (nI c) a1 a2 = some (fst (fun i => decide (M m_recordKind (12 * c + i) = a1 ∧ M m_recordObject (12 * c + i) = a2)) n) := by
  have H : ∀ m k fu, k + m = n → m < fu → f_X11_recordOf_L3 M (nI c) a1 a2 fu (nI k) = some (if lsF (fun i => decide (M m_recordKind (12 * c + i) = a1 ∧ M m_recordObject (12 * c + i) = a2)) k m < k + m then nI (lsF (fun i => decide (M m_recordKind (12 * c + i) = a1 ∧ M m_recordObject (12 * c + i) = a2)) k m) else -1) := by
    intro m
    induction m with
    | zero =>
      intro k fu hk hf
      obtain ⟨fu, rfl⟩ : ∃ q, fu = q + 1 := ⟨fu - 1, by omega⟩
      simp only [f_X11_recordOf_L3]
      rw [rd_n hc (by omega), hl, if_pos (nI_le (by omega) (by omega)), if_neg (by show ¬ k < k + 0; omega)]
    | succ m ih =>
      intro k fu hk hf
      obtain ⟨fu, rfl⟩ : ∃ q, fu = q + 1 := ⟨fu - 1, by omega⟩
      simp only [f_X11_recordOf_L3, lt_d, jn_d, nI_m12, nI_add]
      rw [rd_n hc (by omega), hl, if_neg (nI_ge (by omega) (by omega)), rd_n (by omega) (by omega), fst_s]
      have hi := ih (k + 1) fu (by omega) (by omega)
      rw [show k + 1 + m = k + (m + 1) by omega] at hi
      by_cases e1 : M m_recordKind (12 * c + k) = a1
      · rw [if_pos e1, rd_n (by omega) (by omega)]
        by_cases e2 : M m_recordObject (12 * c + k) = a2
        · rw [if_pos e2, if_pos (decide_eq_true ⟨e1, e2⟩), if_pos (by omega)]
        · rw [if_neg e2, nI_1, hi, if_neg (show ¬ decide (M m_recordKind (12 * c + k) = a1 ∧ M m_recordObject (12 * c + k) = a2) = true by simp [e2])]
      · rw [if_neg e1, nI_1, hi, if_neg (show ¬ decide (M m_recordKind (12 * c + k) = a1 ∧ M m_recordObject (12 * c + k) = a2) = true by simp [e1])]
  have h0 := H n 0 100 (by omega) (by omega)
  rw [show 0 + n = n by omega] at h0
  exact h0
theorem rec_eq (hc : c < 4) (R : Rel N g Mc Mr) (hl : Mc (40, c, 0) 4 = nI n) (hn : n ≤ 12) : f_X11_recordOf Mr (nI c) a1 a2 = some (fst (fun i => decide (Mc (41, c, 0) i = a1 ∧ Mc (42, c, 0) i = a2)) n) := by
  have q := R.lg hc
  have hr : Mr m_records c = nI n := by rw [← q.1]; exact hl
  rw [r_recordOf hc hr hn]
  refine congrArg some (fst_congr (fun i hi => ?_))
  obtain ⟨z1, z2, -⟩ := q.2.2 i (by omega) (by rw [hr]; exact nI_lt hi (by omega))
  rw [z1, z2]
def cAdd (N : Nat) (M : gM) (c n : Nat) (a1 a2 a3 : Int32) (row : gI) : gM := gset (gpu (gset (gset (gset M (41, c, 0) n a1) (42, c, 0) n a2) (43, c, 0) n a3) (45, c, n) 0 (N + 4) (fun k => M row k)) (40, c, 0) 4 (nI (n + 1))
theorem c_add {row : gI} (hN : N ≤ 4) (hl : M (40, c, 0) 4 = nI n) (hn : n < 12) (hr : cN N row = N + 4) (h1 : row.1 = 55) : f_X3_add N M c a1 a2 a3 row = some (cAdd N M c n a1 a2 a3 row) := by
  have e : ∀ (M : gM) (i : gI) k v, i ≠ (40, c, 0) → gset M i k v (40, c, 0) 4 = M (40, c, 0) 4 := fun M i k v h => by rw [gset_r, if_neg (fun z => h z.1.symm)]
  unfold f_X3_add f_X3_isFull cAdd
  simp only [lt_d]
  rw [hl, if_pos (lt_12 hn), o1_s, if_pos rfl, wr_n hn (by omega), e _ _ _ _ (by simp), hl, wr_n hn (by omega), e _ _ _ _ (by simp), e _ _ _ _ (by simp), hl, wr_n hn (by omega), e _ _ _ _ (by simp), e _ _ _ _ (by simp), e _ _ _ _ (by simp), hl, ix_n hn (by omega), c_assign (cN45 _ _ _) hr (by omega), o1_s, gpu_ne (by simp), e _ _ _ _ (by simp), e _ _ _ _ (by simp), e _ _ _ _ (by simp), hl, nI_1]
  congr 2
  refine gpu_congr (fun k _ => ?_)
  have n1 : ∀ t, t ≠ 55 → row ≠ (t, c, 0) := fun t ht z => ht (by rw [← h1, z])
  rw [gset_r, if_neg (fun z => n1 43 (by decide) z.1), gset_r, if_neg (fun z => n1 42 (by decide) z.1), gset_r, if_neg (fun z => n1 41 (by decide) z.1)]
def rAd (M : gM) (c n o : Nat) (a1 a3 : Int32) : gM := gset (gpu (gset (gset (gset M m_recordKind (12 * c + n) a1) m_recordObject (12 * c + n) (nI o)) m_recordDirectory (12 * c + n) a3) m_recordVector (8 * (12 * c + n)) 8 (fun k => M m_keptVector (8 * (48 * c + o) + k))) m_records c (nI (n + 1))
theorem r_addRecord (hc : c < 4) (ho : o < 48) (hl : M m_records c = nI n) (hn : n < 12) : f_X11_addRecord M (nI c) a1 (nI o) a3 = some (rAd M c n o a1 a3) := by
  unfold f_X11_addRecord rAd
  simp only [lt_d, nI_m12, nI_m48, nI_add]
  rw [rd_n hc (by omega), hl, nI_add, wr_n (by omega) (by omega), wr_n (by omega) (by omega), wr_n (by omega) (by omega), r_copyTo (by show _ ≤ 1536; omega) (by show _ ≤ 384; omega) (by decide) (by decide), o1_s, rd_n hc (by omega), wr_n hc (by omega), gpu_ne (by decide), gset_r, if_neg (by simp), gset_r, if_neg (by simp), gset_r, if_neg (by simp), hl, nI_1]
  congr 2
theorem cAd_l : cAdd N M c n a1 a2 a3 (55, 4 + c, o) (40, c, 0) 4 = nI (n + 1) := by unfold cAdd; rw [gset_r, if_pos ⟨rfl, rfl⟩]
theorem cAd_v {i : Nat} : cAdd N M c n a1 a2 a3 (55, 4 + c, o) (41, c, 0) i = (if i = n then a1 else M (41, c, 0) i) ∧ cAdd N M c n a1 a2 a3 (55, 4 + c, o) (42, c, 0) i = (if i = n then a2 else M (42, c, 0) i) ∧ cAdd N M c n a1 a2 a3 (55, 4 + c, o) (43, c, 0) i = (if i = n then a3 else M (43, c, 0) i) := by
  unfold cAdd
  refine ⟨?_, ?_, ?_⟩ <;> (simp only [gset_r, gpu_r]; by_cases e : i = n <;> simp [e])
theorem cAd_45 {i k : Nat} (hk : k < N + 4) : cAdd N M c n a1 a2 a3 (55, 4 + c, o) (45, c, i) k = if i = n then M (55, 4 + c, o) k else M (45, c, i) k := by
  unfold cAdd
  simp only [gset_r, gpu_r]
  by_cases e : i = n
  · subst e; simp [hk]
  · simp [e]
theorem cAd_fr : cf (fun j q => 40 ≤ j.1 ∧ j.1 ≤ 45 ∧ j.2.1 = c) M (cAdd N M c n a1 a2 a3 (55, 4 + c, o)) := by
  unfold cAdd
  exact ((((cf.st ⟨by simp, by simp, rfl⟩).tr (cf.st ⟨by simp, by simp, rfl⟩)).tr (cf.st ⟨by simp, by simp, rfl⟩)).tr (cf.pu (fun _ _ _ => ⟨by simp, by simp, rfl⟩))).tr (cf.st ⟨by simp, by simp, rfl⟩)
theorem rAd_l : rAd M c n o a1 a3 m_records c = nI (n + 1) := by unfold rAd; rw [gset_r, if_pos ⟨rfl, rfl⟩]
theorem rAd_v {i : Nat} : rAd M c n o a1 a3 m_recordKind (12 * c + i) = (if i = n then a1 else M m_recordKind (12 * c + i)) ∧ rAd M c n o a1 a3 m_recordObject (12 * c + i) = (if i = n then nI o else M m_recordObject (12 * c + i)) ∧ rAd M c n o a1 a3 m_recordDirectory (12 * c + i) = (if i = n then a3 else M m_recordDirectory (12 * c + i)) := by
  unfold rAd
  refine ⟨?_, ?_, ?_⟩ <;> (simp only [gset_r, gpu_r]; by_cases e : i = n <;> simp [e])
theorem rAd_39 {i k : Nat} (hk : k < 8) : rAd M c n o a1 a3 m_recordVector (8 * (12 * c + i) + k) = if i = n then M m_keptVector (8 * (48 * c + o) + k) else M m_recordVector (8 * (12 * c + i) + k) := by
  unfold rAd
  rw [gset_r, if_neg (by simp), gpu_r]
  by_cases e : i = n
  · subst e
    rw [if_pos ⟨rfl, by omega, by omega⟩, if_pos rfl, show 8 * (12 * c + i) + k - 8 * (12 * c + i) = k by omega]
  · rw [if_neg (by omega), if_neg e, gset_r, if_neg (by simp), gset_r, if_neg (by simp), gset_r, if_neg (by simp)]
theorem rAd_fr (hn : n < 12) : cf (fun j q => (j.1 = 35 ∧ q = c) ∨ ((j.1 = 36 ∨ j.1 = 37 ∨ j.1 = 38) ∧ 12 * c ≤ q ∧ q < 12 * c + 12) ∨ (j.1 = 39 ∧ 96 * c ≤ q ∧ q < 96 * c + 96)) M (rAd M c n o a1 a3) := by
  unfold rAd
  refine ((((cf.st ?_).tr (cf.st ?_)).tr (cf.st ?_)).tr (cf.pu (fun q _ _ => ?_))).tr (cf.st ?_)
  · dsimp only; omega
  · dsimp only; omega
  · dsimp only; omega
  · dsimp only; omega
  · dsimp only; omega
theorem Rel.lone (hN : N ≤ 4) (hc4 : c < 4) (R : Rel N g Mc Mr) (hc : cf (fun j q => 40 ≤ j.1 ∧ j.1 ≤ 45 ∧ j.2.1 = c) Mc Mc') (hr : cf (fun j q => (j.1 = 35 ∧ q = c) ∨ ((j.1 = 36 ∨ j.1 = 37 ∨ j.1 = 38) ∧ 12 * c ≤ q ∧ q < 12 * c + 12) ∨ (j.1 = 39 ∧ 96 * c ≤ q ∧ q < 96 * c + 96)) Mr Mr') (h9 : rLg N c Mc' Mr') : Rel N g Mc' Mr' := by
  refine R.log hN (hc.mo (fun j q h => ?_)) (hr.mo (fun j q h => ?_)) (fun d hd => ?_)
  · revert h; unfold aLg; omega
  · revert h; unfold bLg; omega
  · by_cases e : d = c
    · subst e; exact h9
    · refine (R.lg hd).fr hN hc hr ?_ ?_
      · intro j q; unfold kLg; omega
      · intro j q; unfold lLg; omega
theorem Rel.add (hN : N ≤ 4) (hc : c < 4) (ho : o < 48) (R : Rel N g Mc Mr) (hl : Mc (40, c, 0) 4 = nI n) (hn : n < 12) (hh : ¬ Mc (51, 4 + c, 0) o = 0) : Rel N g (cAdd N Mc c n a1 (nI o) a3 (55, 4 + c, o)) (rAd Mr c n o a1 a3) := by
  refine R.lone hN hc cAd_fr (rAd_fr hn) ⟨by rw [cAd_l, rAd_l], ?_, fun i hi hl' => ?_⟩
  · rw [cAd_fr _ _ (by dsimp only; omega), rAd_fr hn _ _ (by dsimp only; omega)]; exact (R.lg hc).2.1
  · rw [rAd_l, nlt (by omega) (by omega)] at hl'
    obtain ⟨c1, c2, c3⟩ := cAd_v (N := N) (M := Mc) (c := c) (n := n) (a1 := a1) (a2 := nI o) (a3 := a3) (o := o) (i := i)
    obtain ⟨d1, d2, d3⟩ := rAd_v (M := Mr) (c := c) (n := n) (a1 := a1) (a3 := a3) (o := o) (i := i)
    rw [c1, c2, c3, d1, d2, d3]
    by_cases e : i = n
    · simp only [if_pos e]
      exact ⟨trivial, trivial, trivial, fun k hk => by rw [cAd_45 hk, rAd_39 (by omega), if_pos e, if_pos e]; exact R.krow hc ho hh hk⟩
    · simp only [if_neg e]
      obtain ⟨z1, z2, z3, z4⟩ := (R.lg hc).2.2 i hi (by rw [← (R.lg hc).1, hl]; exact nI_lt (by omega) (by omega))
      exact ⟨z1, z2, z3, fun k hk => by rw [cAd_45 hk, rAd_39 (by omega), if_neg e, if_neg e]; exact z4 k hk⟩
/-- a client's log and what is dirty change -/
theorem Inv.alog (hN : N ≤ 4) (hc4 : c < 4) (I : Inv N g M) (hc : cf (fun j q => (40 ≤ j.1 ∧ j.1 ≤ 45 ∧ j.2.1 = c) ∨ (j.1 = 33 ∧ j.2.1 = c) ∨ csc j q) M M') (hkl : ∀ o, o < 48 → (M' (33, c, 0) o = 0 ∨ M' (33, c, 0) o = 1) ∧ (M (51, 4 + c, 0) o = 0 → M' (33, c, 0) o = 0)) (hlg : iLg N g c M') (hmk : iMk M') : Inv N g M' := by
  obtain ⟨cat, lo, sv, vr, kl, w, lg, mk⟩ := I
  have hg := cat.1
  refine ⟨cat.fr hc ?_, fun s hs => ?_, fun s hs o ho => (sv s hs o ho).fr ho hc ?_, fun s hs o ho => (vr s hs o ho).fr hc ?_, fun d h o ho => ?_, fun d h => (w d h).fr hc ?_, fun d h => ?_, hmk⟩
  · intro j q; unfold eCat csc; omega
  · rw [hc (20, s, 0) 3 (by unfold csc; dsimp only; omega)]; exact lo s hs
  · intro j q; unfold eSv csc; omega
  · intro j q; unfold eVr csc; omega
  · by_cases e : d = c
    · subst e
      have i0 := kl d h o ho
      unfold iKl at i0 ⊢
      rw [cNr.fr hN hc (by unfold csc; dsimp only; omega) (fun q _ => by unfold csc; dsimp only; omega), hc (51, 4 + d, 0) o (by unfold csc; dsimp only; omega), hc (56, 4 + d, 0) o (by unfold csc; dsimp only; omega), hc (53, 4 + d, 0) o (by unfold csc; dsimp only; omega), hc (31, d, 0) o (by unfold csc; dsimp only; omega), hc (32, d, 0) o (by unfold csc; dsimp only; omega)]
      obtain ⟨i1, i2, i3, i4, i5, i6, i7, i8, i9⟩ := i0
      exact ⟨i1, (hkl o ho).1, i3, i4, i5, fun z => ⟨(i6 z).1, (hkl o ho).2 z⟩, i7, i8, i9⟩
    · refine (kl d h o ho).fr hN hc ?_
      intro j q; unfold eKl csc; omega
  · intro j q; unfold eWt csc; omega
  · by_cases e : d = c
    · subst e; exact hlg
    · refine (lg d h).fr hg hc ?_
      intro j q; unfold eLg csc; omega
end LG
