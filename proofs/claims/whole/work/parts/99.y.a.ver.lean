/-! layer 2: versions are added; counting in all of a set -/
def cVa (N : Nat) (M : gM) (v n : Nat) (a1 a2 : Int32) (row : gI) : gM := gset (gpu (gset (gset M (61, v, 0) n a1) (62, v, 0) n a2) (64, v, n) 0 (N + 4) (fun k => M row k)) (60, v, 0) 3 (nI (n + 1))
def rVa (M : gM) (a n : Nat) (a1 a2 : Int32) (f : Nat → Int32) : gM := gset (gpu (gset (gset M m_versionValue (6 * a + n) a1) m_versionSize (6 * a + n) a2) m_versionVector (8 * (6 * a + n)) 8 f) m_versions a (nI (n + 1))
section VA
variable {N g B s o c d x z T n t l : Nat} {M M' Mc Mr Mc' Mr' : gM} {row : gI} {v w a1 a2 a3 a4 : Int32}
theorem c_isFull9 {v : Nat} (hl : M (60, v, 0) 3 = nI n) (hn : n ≤ cMost v) (hm : cMost v ≤ 24) : f_X9_isFull N M v = some (if n < cMost v then 0 else 1) := by
  unfold f_X9_isFull
  rw [lt_d, hl]
  by_cases e : n < cMost v
  · rw [if_pos e, if_pos (nI_lt e (by omega))]
  · rw [if_neg e, if_neg (nI_nlt (by omega) (by omega))]
theorem c_vadd {v : Nat} (hN : N ≤ 4) (hl : M (60, v, 0) 3 = nI n) (hn : n < cMost v) (hm : cMost v ≤ 24) (hr : cN N row = N + 4) (h1 : row.1 ≠ 61) (h2 : row.1 ≠ 62) : f_X9_add N M v a1 a2 row = some (cVa N M v n a1 a2 row) := by
  have e : ∀ (M : gM) (i : gI) k x, i.1 ≠ 60 → gset M i k x (60, v, 0) 3 = M (60, v, 0) 3 := fun M i k x h => by rw [gset_r, if_neg (fun z => h (by rw [← z.1]))]
  unfold f_X9_add cVa
  rw [c_isFull9 hl (by omega) hm, if_pos hn, o1_s, if_pos rfl]
  simp only [lt_d]
  rw [hl, wr_n hn (by omega), e _ _ _ _ (by simp), hl, wr_n hn (by omega), e _ _ _ _ (by simp), e _ _ _ _ (by simp), hl, ix_n hn (by omega), c_assign (cN64 _ _ _) hr (by omega), o1_s, gpu_ne (by simp), e _ _ _ _ (by simp), e _ _ _ _ (by simp), hl, nI_1]
  congr 2
  refine gpu_congr (fun k _ => ?_)
  rw [gset_r, if_neg (fun z => h2 (by rw [z.1])), gset_r, if_neg (fun z => h1 (by rw [z.1]))]
theorem cVa_fr {v : Nat} : cf (fun j q => (j.1 = 60 ∨ j.1 = 61 ∨ j.1 = 62 ∨ j.1 = 64) ∧ j.2.1 = v) M (cVa N M v n a1 a2 row) := by
  unfold cVa
  exact (((cf.st (by simp)).tr (cf.st (by simp))).tr (cf.pu (fun _ _ _ => by simp))).tr (cf.st (by simp))
theorem cVa_v {v i : Nat} : cVa N M v n a1 a2 row (60, v, 0) 3 = nI (n + 1) ∧ cVa N M v n a1 a2 row (61, v, 0) i = (if i = n then a1 else M (61, v, 0) i) ∧ cVa N M v n a1 a2 row (62, v, 0) i = (if i = n then a2 else M (62, v, 0) i) ∧ ∀ k, k < N + 4 → cVa N M v n a1 a2 row (64, v, i) k = if i = n then M row k else M (64, v, i) k := by
  unfold cVa
  refine ⟨by rw [gset_r, if_pos ⟨rfl, rfl⟩], ?_, ?_, fun k hk => ?_⟩
  · simp only [gset_r, gpu_r]; by_cases e : i = n <;> simp [e]
  · simp only [gset_r, gpu_r]; by_cases e : i = n <;> simp [e]
  · simp only [gset_r, gpu_r]
    by_cases e : i = n
    · subst e; simp [hk]
    · simp [e]
theorem rVa_fr {a : Nat} {f : Nat → Int32} (hn : n < 6) : cf (fun j q => (j.1 = 15 ∧ q = a) ∨ ((j.1 = 16 ∨ j.1 = 17) ∧ 6 * a ≤ q ∧ q < 6 * a + 6) ∨ (j.1 = 18 ∧ 48 * a ≤ q ∧ q < 48 * a + 48)) M (rVa M a n a1 a2 f) := by
  unfold rVa
  refine (((cf.st ?_).tr (cf.st ?_)).tr (cf.pu (fun q _ _ => ?_))).tr (cf.st ?_) <;> (dsimp only; omega)
theorem rVa_v {a i : Nat} {f : Nat → Int32} : rVa M a n a1 a2 f m_versions a = nI (n + 1) ∧ rVa M a n a1 a2 f m_versionValue (6 * a + i) = (if i = n then a1 else M m_versionValue (6 * a + i)) ∧ rVa M a n a1 a2 f m_versionSize (6 * a + i) = (if i = n then a2 else M m_versionSize (6 * a + i)) ∧ ∀ k, k < 8 → rVa M a n a1 a2 f m_versionVector (8 * (6 * a + i) + k) = if i = n then f k else M m_versionVector (8 * (6 * a + i) + k) := by
  unfold rVa
  refine ⟨by rw [gset_r, if_pos ⟨rfl, rfl⟩], ?_, ?_, fun k hk => ?_⟩
  · simp only [gset_r, gpu_r]; by_cases e : i = n <;> simp [e]
  · simp only [gset_r, gpu_r]; by_cases e : i = n <;> simp [e]
  · rw [gset_r, if_neg (by simp), gpu_r]
    by_cases e : i = n
    · subst e; rw [if_pos ⟨rfl, by omega, by omega⟩, if_pos rfl, show 8 * (6 * a + i) + k - 8 * (6 * a + i) = k by omega]
    · rw [if_neg (by omega), if_neg e, gset_r, if_neg (by simp), gset_r, if_neg (by simp)]
theorem vadd_rel {f : Nat → Int32} (hN : N ≤ 4) (hs : s < N) (ho : o < 48) (R : Rel N g Mc Mr) (hl : Mc (60, 48 * s + o, 0) 3 = nI n) (hn : n < 6) (hf : ∀ k, k < N + 4 → f k = Mc row k) : Rel N g (cVa N Mc (48 * s + o) n a1 a2 row) (rVa Mr (48 * s + o) n a1 a2 f) := by
  have hc := cVa_fr (N := N) (M := Mc) (v := 48 * s + o) (n := n) (a1 := a1) (a2 := a2) (row := row)
  have hr := rVa_fr (M := Mr) (a := 48 * s + o) (n := n) (a1 := a1) (a2 := a2) (f := f) hn
  have h := R.sv hs ho
  refine R.mix hN hs ho (hc.mo ?_) (hr.mo ?_) (R.2.2.2.1.fr hc hr ?_ ?_) (rSv_of (h.a.fr hN hc hr ?_ ?_) (h.b.fr hN hc hr ?_ ?_) (h.cc.fr hc hr ?_ ?_) ⟨by rw [(cVa_v (i := 0)).1, (rVa_v (i := 0)).1], fun i hi hl' => ?_⟩) (R.2.2.2.2.2.2.2.fr hc hr ?_ ?_)
  · intro j q z; unfold mC kSv; omega
  · intro j q z; unfold mR lSv; omega
  · intro s'; dsimp only; omega
  · intro s'; dsimp only; omega
  · intro j q; omega
  · intro j q; omega
  · intro j q; omega
  · intro j q; omega
  · dsimp only; omega
  · dsimp only; omega
  · obtain ⟨-, u2, u3, u4⟩ := cVa_v (N := N) (M := Mc) (v := 48 * s + o) (n := n) (a1 := a1) (a2 := a2) (row := row) (i := i)
    obtain ⟨u1', w2, w3, w4⟩ := rVa_v (M := Mr) (a := 48 * s + o) (n := n) (a1 := a1) (a2 := a2) (f := f) (i := i)
    rw [u1', nlt (by omega) (by omega)] at hl'
    rw [u2, u3, w2, w3]
    by_cases e : i = n
    · simp only [if_pos e]
      exact ⟨trivial, trivial, fun k hk => by rw [u4 k hk, w4 k (by omega), if_pos e, if_pos e]; exact (hf k hk).symm⟩
    · simp only [if_neg e]
      obtain ⟨z1, z2, z3⟩ := h.dd.2 i hi (by rw [← h.dd.1, hl]; exact nI_lt (by omega) (by omega))
      exact ⟨z1, z2, fun k hk => by rw [u4 k hk, w4 k (by omega), if_neg e, if_neg e]; exact z3 k hk⟩
  · intro j q; unfold kTl; omega
  · intro j q; unfold lTl; omega
theorem vadd_inv (hN : N ≤ 4) (hs : s < N) (ho : o < 48) (I : JInv N g M) (hl : M (60, 48 * s + o, 0) 3 = nI n) (hn : n < 6) (hh : M (51, s, 0) o = 1) (hd : M (4, 0, 0) o = 0) (h0 : n = 0 → a1 = M (52, s, 0) o ∧ a2 = M (53, s, 0) o) (hz : ∃ z, z ≤ 6 ∧ a2 = nI z) : JInv N g (cVa N M (48 * s + o) n a1 a2 row) := by
  have hc := cVa_fr (N := N) (M := M) (v := 48 * s + o) (n := n) (a1 := a1) (a2 := a2) (row := row)
  have vv : ∀ i, _ := fun i => cVa_v (N := N) (M := M) (v := 48 * s + o) (n := n) (a1 := a1) (a2 := a2) (row := row) (i := i)
  obtain ⟨q1, n', q2, q3, q4, q5⟩ := I.2.2.2.1 s hs o ho
  have en : n' = n := by rw [hl, neq (by omega) (by omega)] at q3; exact q3.symm
  subst en
  refine I.mixv hN hs ho (hc.mo (fun j q h => by unfold iFree; omega)) ⟨?_, n' + 1, by omega, (vv 0).1, fun _ => ⟨?_, ?_, ?_, ?_⟩, fun i hi => ?_⟩
  · rw [hc _ _ (by dsimp only; omega)]; exact q1
  · rw [hc _ _ (by dsimp only; omega)]; exact hh
  · rw [hc _ _ (by dsimp only; omega)]; exact hd
  · rw [hc (52, s, 0) o (by dsimp only; omega), (vv 0).2.1]
    by_cases e : 0 = n'
    · rw [if_pos e]; exact (h0 e.symm).1.symm
    · rw [if_neg e]; exact (q4 (by omega)).2.2.1
  · rw [hc (53, s, 0) o (by dsimp only; omega), (vv 0).2.2.1]
    by_cases e : 0 = n'
    · rw [if_pos e]; exact (h0 e.symm).2.symm
    · rw [if_neg e]; exact (q4 (by omega)).2.2.2
  · rw [(vv i).2.2.1]
    by_cases e : i = n'
    · rw [if_pos e]; exact hz
    · rw [if_neg e]; exact q5 i (by omega)
theorem Rel.vt (hN : N ≤ 4) (hc4 : c < 4) (R : Rel N g Mc Mr) : Rel N g (gset Mc (30, c, 0) 11 v) (gset Mr m_versionsTold c v) := by
  have hc : cf (fun j q => j = (30, c, 0) ∧ q = 11) Mc (gset Mc (30, c, 0) 11 v) := cf.st ⟨rfl, rfl⟩
  have hr : cf (fun j q => j = m_versionsTold ∧ q = c) Mr (gset Mr m_versionsTold c v) := cf.st ⟨rfl, rfl⟩
  refine R.log hN (hc.mo ?_) (hr.mo ?_) (fun d hd => ?_)
  · rintro j q ⟨rfl, rfl⟩; unfold aLg; dsimp only; omega
  · rintro j q ⟨rfl, rfl⟩; unfold bLg; dsimp only; omega
  · by_cases e : d = c
    · subst e
      obtain ⟨f1, f2, f3⟩ := R.lg hd
      have e1 : ∀ (j : gI) q, j.1 ≠ 30 → gset Mc (30, d, 0) 11 v j q = Mc j q := fun j q h => hc _ _ (fun z => h (by rw [z.1]))
      have e2 : ∀ (j : gI) q, j.1 ≠ 40 → gset Mr m_versionsTold d v j q = Mr j q := fun j q h => hr _ _ (fun z => h (by rw [z.1]))
      refine ⟨by rw [e1 _ _ (by simp), e2 _ _ (by simp)]; exact f1, by rw [gset_r, if_pos ⟨rfl, rfl⟩, gset_r, if_pos ⟨rfl, rfl⟩], fun i hi hl => ?_⟩
      rw [e2 _ _ (by simp)] at hl
      obtain ⟨z1, z2, z3, z4⟩ := f3 i hi hl
      exact ⟨by rw [e1 _ _ (by simp), e2 _ _ (by simp)]; exact z1, by rw [e1 _ _ (by simp), e2 _ _ (by simp)]; exact z2, by rw [e1 _ _ (by simp), e2 _ _ (by simp)]; exact z3, fun k hk => by rw [e1 _ _ (by simp), e2 _ _ (by simp)]; exact z4 k hk⟩
    · refine (R.lg hd).fr hN hc hr ?_ ?_
      · rintro j q h ⟨rfl, rfl⟩; revert h; unfold kLg; dsimp only; omega
      · rintro j q h ⟨rfl, rfl⟩; revert h; unfold lLg; dsimp only; omega
theorem c_countL (hN : N ≤ 4) (ho : o < 48) : ∃ M', f_X6_countAll_L8 N v (nI o) 100 0 M = some M' ∧ cf (fun j q => j.1 = 55 ∧ j.2.1 < N ∧ j.2.2 = o) M M' ∧ ∀ s, s < N → ∀ k, M' (55, s, o) k = if bt v s = true ∧ k < N ∧ bt v k = true then M (22, k, 0) o else M (55, s, o) k := by
  obtain ⟨M', h1, h2, h3⟩ := loopP (fun n k M => f_X6_countAll_L8 N v (nI o) n (nI k) M) N some (fun k M1 => cf (fun j q => j.1 = 55 ∧ j.2.1 < N ∧ j.2.2 = o) M M1 ∧ ∀ s, s < N → ∀ q, M1 (55, s, o) q = if s < k ∧ bt v s = true ∧ q < N ∧ bt v q = true then M (22, q, 0) o else M (55, s, o) q) (by omega) (fun n k M1 hk ⟨c1, p1⟩ => by
    by_cases hb : bt v k = true
    · refine ⟨gpu M1 (55, k, o) 0 N (fun q => if bt v q = true then M1 (22, q, 0) o else M1 (55, k, o) q), ?_, c1.tr (cf.pu (fun _ _ _ => ⟨rfl, hk, rfl⟩)), fun s hs q => ?_⟩
      · simp only [f_X6_countAll_L8, lt_d, jn_d]
        rw [if_neg (nI_ge (by omega) (by omega)), c_isIn v (by omega), o1_s, hb, zb_t, if_neg (by decide), ix_n hk (by omega), ix_n ho (by omega), c_copyMarks hN ho (cN55 _ _ _) (by simp), o1_s, nI_1]
      · rw [gpu_r]
        have e22 : M1 (22, q, 0) o = M (22, q, 0) o := c1 _ _ (by dsimp only; omega)
        by_cases es : s = k
        · subst es
          by_cases eq : q < N
          · rw [if_pos ⟨rfl, by omega, by omega⟩]
            rw [show q - 0 = q by omega]
            by_cases e3 : bt v q = true
            · rw [if_pos e3, if_pos ⟨by omega, hb, eq, e3⟩, e22]
            · rw [if_neg e3, if_neg (fun z => e3 z.2.2.2), p1 s hs q, if_neg (by omega)]
          · rw [if_neg (by omega), if_neg (fun z => eq z.2.2.1), p1 s hs q, if_neg (by omega)]
        · rw [if_neg (fun z => es (congrArg (fun y : gI => y.2.1) z.1)), p1 s hs q]
          by_cases e3 : s < k ∧ bt v s = true ∧ q < N ∧ bt v q = true
          · rw [if_pos e3, if_pos ⟨by omega, e3.2⟩]
          · rw [if_neg e3, if_neg (fun z => e3 ⟨by omega, z.2⟩)]
    · refine ⟨M1, ?_, c1, fun s hs q => ?_⟩
      · simp only [f_X6_countAll_L8, lt_d, jn_d]
        rw [if_neg (nI_ge (by omega) (by omega)), c_isIn v (by omega), o1_s]
        rw [Bool.not_eq_true] at hb
        rw [hb, zb_f, if_pos rfl, nI_1]
      · rw [p1 s hs q]
        by_cases e3 : s < k ∧ bt v s = true ∧ q < N ∧ bt v q = true
        · rw [if_pos e3, if_pos ⟨by omega, e3.2⟩]
        · rw [if_neg e3, if_neg (fun z => e3 ⟨by
            have : s ≠ k := fun y => hb (by rw [← y]; exact z.2.1)
            omega, z.2⟩)]) (fun n M1 _ => by
    simp only [f_X6_countAll_L8]
    rw [if_pos (nI_le (by omega) (by omega))]) (st := M) ⟨cf.rf _ _, fun s hs q => by rw [if_neg (by omega)]⟩
  refine ⟨M', h1, h2, fun s hs k => ?_⟩
  rw [h3 s hs k]
  by_cases e : bt v s = true ∧ k < N ∧ bt v k = true
  · rw [if_pos e, if_pos ⟨hs, e⟩]
  · rw [if_neg e, if_neg (fun z => e z.2)]
/-- one server counts for itself -/
theorem count_one (hN : N ≤ 4) (ho : o < 48) (hs : s < N) (R : Rel N g Mc Mr) (I : JInv N g Mc) (hh : Mc (51, s, 0) o = 1) : ∃ Mc' Mr', f_X6_countAll N Mc (sB s) (nI o) = some Mc' ∧ o1 (f_X11_mark Mr (nI o) (sB s)) (fun M30 => f_X11_count M30 m_vector (nI (48 * s + o)) (sB s) (nI o)) = some Mr' ∧ Rel N g Mc' Mr' ∧ JInv N g Mc' ∧ cf (fun j q => (j.1 = 22 ∧ q = o) ∨ (j.1 = 55 ∧ j.2.1 < N ∧ j.2.2 = o)) Mc Mc' ∧ cf (fun j q => j.1 = 21 ∨ j.1 = 14) Mr Mr' := by
  obtain ⟨Mc1, Mr1, e1, e2, r1, i1, c1, d1⟩ := marks_stepJ (v := sB s) hN ho R I
  obtain ⟨Mc2, e3, c2, v2⟩ := c_countL (M := Mc1) (v := sB s) hN ho
  have hh1 : Mc1 (51, s, 0) o = 1 := by rw [c1 _ _ (by dsimp only; omega)]; exact hh
  have hz : ¬ Mc1 (51, s, 0) o = 0 := by rw [hh1]; decide
  have hb : ∀ t, t < N → bt (sB s) t = decide (t = s) := fun t ht => bt_sB (by omega) (by omega)
  have c2' : cf (fun j q => j = (55, s, o)) Mc1 Mc2 := fun j q hn => by
    by_cases e : j.1 = 55 ∧ j.2.1 < N ∧ j.2.2 = o
    · obtain ⟨j1, j2, j3⟩ := j
      obtain ⟨rfl, y2, rfl⟩ := e
      dsimp only at y2
      rw [v2 j2 y2 q, if_neg (fun z => by
        rw [hb j2 y2] at z
        have := of_decide_eq_true z.1
        subst this
        exact hn rfl)]
    · exact c2 _ _ e
  refine ⟨Mc2, gpu Mr1 m_vector (8 * (48 * s + o)) N (fun k => if bt (sB s) k = true then Mr1 m_marks (48 * k + o) else Mr1 m_vector (8 * (48 * s + o) + k)), ?_, ?_, r1.vec hN hs ho hz c2' (cf.pu (fun q a b => ⟨rfl, a, by omega⟩)) (fun k hk => ?_), i1.free0 hN (c2'.mo (fun j q h => by rw [h]; unfold iFree; dsimp only; omega)), (c1.mo (fun j q h => Or.inl h)).tr (c2.mo (fun j q h => Or.inr h)), (d1.mo (fun j q h => Or.inl h)).tr (cf.pu (fun _ _ _ => Or.inr rfl))⟩
  · unfold f_X6_countAll
    rw [e1, o1_s, e3]
  · rw [e2, o1_s, r_count r1.n0 hN ho (by show _ ≤ 1536; omega) (by decide) (by decide) (by decide)]
  · rw [v2 s hs k]
    have e0 := r1.row hs ho hz hk
    by_cases e : k < N
    · rw [gpu_in e]
      by_cases e3 : bt (sB s) k = true
      · rw [if_pos ⟨by rw [hb s hs]; exact decide_eq_true rfl, e, e3⟩, if_pos e3]; exact (r1.sv e ho).cc
      · rw [if_neg (fun z => e3 z.2.2), if_neg e3]; exact e0
    · rw [if_neg (fun z => e z.2.1), gpu_r, if_neg (by omega)]; exact e0
/-- a vector is raised by a row -/
theorem raise_one (hN : N ≤ 4) (ho : o < 48) (hs : s < N) (R : Rel N g Mc Mr) (I : JInv N g Mc) (hh : Mc (51, s, 0) o = 1) (hr : cN N row = N + 4) (hv : ∀ k, k < N + 4 → Mr m_row k = Mc row k) : ∃ Mc' Mr', f_X10_raise N Mc (55, s, o) row = some Mc' ∧ f_X11_raise Mr m_row (0 : Int32) m_vector (nI (48 * s + o)) = some Mr' ∧ Rel N g Mc' Mr' ∧ JInv N g Mc' ∧ cf (fun j q => j = (55, s, o)) Mc Mc' ∧ cf (fun j q => j.1 = 14) Mr Mr' := by
  have hz : ¬ Mc (51, s, 0) o = 0 := by rw [hh]; decide
  have hrr : f_X11_raise Mr m_row (0 : Int32) m_vector (nI (48 * s + o)) = some (gpu Mr m_vector (8 * (48 * s + o)) (N + 4) (fun k => mx (Mr m_row (8 * 0 + k)) (Mr m_vector (8 * (48 * s + o) + k)))) := r_raise (i := 0) R.n1 (by omega) (by decide) (by decide) (by show _ ≤ 1536; omega) (by decide) (by decide)
  refine ⟨_, _, c_raise (cN55 _ _ _) hr (by omega), hrr, R.vec hN hs ho hz (cf.pu (fun _ _ _ => rfl)) (cf.pu (fun q a b => ⟨rfl, a, by omega⟩)) (fun k hk => ?_), I.free0 hN ((cf.pu (A := fun j q => j.1 = 55) (fun _ _ _ => rfl)).mo (fun j q h => Or.inr (Or.inr (Or.inl h)))), cf.pu (fun _ _ _ => rfl), cf.pu (fun _ _ _ => rfl)⟩
  rw [show gpu Mc (55, s, o) 0 (N + 4) (fun k => if Mc (55, s, o) k < Mc row k then Mc row k else Mc (55, s, o) k) (55, s, o) k = (if Mc (55, s, o) k < Mc row k then Mc row k else Mc (55, s, o) k) from by rw [gpu_r, if_pos ⟨rfl, by omega, by omega⟩]; rfl, gpu_in hk, mx_eq, show 8 * 0 + k = k by omega, hv k hk, R.row hs ho hz hk]
end VA
