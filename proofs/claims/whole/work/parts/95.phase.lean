/-! layer 2: counting in two phases, both in step -/
section PH
variable {N g s o c d : Nat} {M M' Mc Mr Mc' Mr' : gM} {v w : Int32}
theorem c_copyMarks {row : gI} (hN : N ≤ 4) (ho : o < 48) (hr : cN N row = N + 4) (hn : row.1 ≠ 22) : f_X6_copyMarks N M v (nI o) row = some (gpu M row 0 N (fun k => if bt v k = true then M (22, k, 0) o else M row k)) := by
  refine rowloop (E := some) (L := fun n k M => f_X6_copyMarks_L3 N v (nI o) row n (nI k) M) (row := row) (base := 0) (B := N) (h := fun M k => if bt v k = true then M (22, k, 0) o else M row k) (P := fun _ => True) (by omega) (fun n k M hk _ => ⟨?_, trivial⟩) (fun n M _ => ?_) (fun M k q x _ hk hq hne => ?_) trivial
  · simp only [f_X6_copyMarks_L3, lt_d, jn_d, Nat.zero_add]
    rw [if_neg (nI_ge (by omega) (by omega)), c_isIn v (by omega), o1_s]
    by_cases hb : bt v k = true
    · rw [hb, zb_t, if_neg (by decide), if_pos rfl, ix_n hk (by omega), rd_n ho (by omega), wr_n (by omega) (by omega), nI_1]
    · rw [Bool.not_eq_true] at hb
      rw [hb, zb_f, if_pos rfl, if_neg (by decide), gset_self, nI_1]
  · simp only [f_X6_copyMarks_L3]
    rw [if_pos (nI_le (by omega) (by omega))]
  · have e1 : gset M row (0 + k) x (22, q, 0) o = M (22, q, 0) o := by rw [gset_r, if_neg (fun z => hn (by rw [← z.1]))]
    have e2 : gset M row (0 + k) x row q = M row q := by rw [gset_r, if_neg (by omega)]
    simp only [e1, e2]
theorem r_count {a : gI} {i : Nat} (h0 : M m_o 0 = nI N) (hN : N ≤ 4) (ho : o < 48) (ha : 8 * i + 8 ≤ mN a) (m1 : mN a ≤ 16384) (n1 : a ≠ m_marks) (n2 : a ≠ m_o) : f_X11_count M a (nI i) v (nI o) = some (gpu M a (8 * i) N (fun k => if bt v k = true then M m_marks (48 * k + o) else M a (8 * i + k))) := by
  refine rowloop (E := some) (L := fun n k M => f_X11_count_L3 a (nI i) v (nI o) n (nI k) M) (row := a) (base := 8 * i) (B := N) (h := fun M k => if bt v k = true then M m_marks (48 * k + o) else M a (8 * i + k)) (P := fun M => M m_o 0 = nI N) (by omega) (fun n k M hk hP => ⟨?_, ?_⟩) (fun n M hP => ?_) (fun M k q x _ hk hq hne => ?_) h0
  · simp only [f_X11_count_L3, lt_d, jn_d, nI_m8, nI_m48, nI_add, hP]
    rw [if_neg (nI_ge (by omega) (by omega))]
    by_cases hb : bt v k = true
    · rw [if_pos (by rw [bt_1 (by omega)]; exact hb), if_pos hb, rd_n (by omega) (by omega), wr_n (by omega) m1, nI_1]
    · rw [if_neg (by rw [bt_1 (by omega)]; exact hb), if_neg hb, rd_n (by omega) m1, wr_n (by omega) m1, nI_1]
  · rw [gset_r, if_neg (fun z => n2 z.1.symm)]; exact hP
  · simp only [f_X11_count_L3, lt_d, hP]
    rw [if_pos (nI_le (by omega) (by omega))]
  · have e1 : gset M a (8 * i + k) x m_marks (48 * q + o) = M m_marks (48 * q + o) := by rw [gset_r, if_neg (fun z => n1 z.1.symm)]
    have e2 : gset M a (8 * i + k) x a (8 * i + q) = M a (8 * i + q) := by rw [gset_r, if_neg (by omega)]
    simp only [e1, e2]
/-! single changes -/
theorem Rel.mk1 (hN : N ≤ 4) (hs : s < N) (ho : o < 48) (R : Rel N g Mc Mr) : Rel N g (gset Mc (22, s, 0) o v) (gset Mr m_marks (48 * s + o) v) := by
  have hc : cf (fun j q => j = (22, s, 0) ∧ q = o) Mc (gset Mc (22, s, 0) o v) := cf.st ⟨rfl, rfl⟩
  have hr : cf (fun j q => j = m_marks ∧ q = 48 * s + o) Mr (gset Mr m_marks (48 * s + o) v) := cf.st ⟨rfl, rfl⟩
  have h := R.sv hs ho
  refine R.mix hN hs ho (hc.mo ?_) (hr.mo ?_) (R.2.2.2.1.fr hc hr ?_ ?_) (rSv_of (h.a.fr hN hc hr ?_ ?_) (h.b.fr hN hc hr ?_ ?_) ?_ (h.dd.fr hN hc hr ?_ ?_)) (R.2.2.2.2.2.2.2.fr hc hr ?_ ?_)
  · rintro j q ⟨rfl, rfl⟩; unfold mC kSv; dsimp only; omega
  · rintro j q ⟨rfl, rfl⟩; unfold mR lSv; dsimp only; omega
  · rintro s' ⟨z, -⟩; exact absurd z (by simp)
  · rintro s' ⟨z, -⟩; exact absurd z (by decide)
  · rintro j q z ⟨rfl, rfl⟩; dsimp only at z; omega
  · rintro j q z ⟨rfl, rfl⟩; dsimp only at z; omega
  · rintro j q z ⟨rfl, rfl⟩; dsimp only at z; omega
  · rintro j q z ⟨rfl, rfl⟩; dsimp only at z; omega
  · unfold rC; rw [gset_r, if_pos ⟨rfl, rfl⟩, gset_r, if_pos ⟨rfl, rfl⟩]
  · rintro j q z ⟨rfl, rfl⟩; dsimp only at z; omega
  · rintro j q z ⟨rfl, rfl⟩; dsimp only at z; omega
  · rintro j q z ⟨rfl, rfl⟩; revert z; unfold kTl; dsimp only; omega
  · rintro j q z ⟨rfl, rfl⟩; revert z; unfold lTl; dsimp only; omega
theorem Rel.vec (hN : N ≤ 4) (hs : s < N) (ho : o < 48) (R : Rel N g Mc Mr) (hh : ¬ Mc (51, s, 0) o = 0) (hc : cf (fun j q => j = (55, s, o)) Mc Mc') (hr : cf (fun j q => j = m_vector ∧ 8 * (48 * s + o) ≤ q ∧ q < 8 * (48 * s + o) + 8) Mr Mr') (hv : ∀ k, k < N + 4 → Mc' (55, s, o) k = Mr' m_vector (8 * (48 * s + o) + k)) : Rel N g Mc' Mr' := by
  have h := R.sv hs ho
  refine R.mix hN hs ho (hc.mo ?_) (hr.mo ?_) (R.2.2.2.1.fr hc hr ?_ ?_) (rSv_of ?_ (h.b.fr hN hc hr ?_ ?_) (h.cc.fr hc hr ?_ ?_) (h.dd.fr hN hc hr ?_ ?_)) (R.2.2.2.2.2.2.2.fr hc hr ?_ ?_)
  · rintro j q rfl; unfold mC kSv; dsimp only; omega
  · rintro j q ⟨rfl, h1, h2⟩; unfold mR lSv; dsimp only; omega
  · intro s' z; exact absurd z (by simp)
  · rintro s' ⟨z, -⟩; exact absurd z (by decide)
  · obtain ⟨f1, f2, f3, f4⟩ := h.a
    have e : ∀ (j : gI) q, j.1 ≠ 55 → Mc' j q = Mc j q := fun j q h => hc _ _ (fun z => h (by rw [z]))
    have e' : ∀ (j : gI) q, j.1 ≠ 14 → Mr' j q = Mr j q := fun j q h => hr _ _ (fun z => h (by rw [z.1]))
    refine ⟨?_, ?_, ?_, fun k hk => ?_⟩
    · rw [e _ _ (by simp), e' _ _ (by simp)]; exact f1
    · rw [e _ _ (by simp), e' _ _ (by simp), e' _ _ (by simp), e' _ _ (by simp)]; exact f2
    · rw [e _ _ (by simp), e' _ _ (by simp), e' _ _ (by simp), e' _ _ (by simp)]; exact f3
    · rw [e' m_has _ (by decide), if_neg (by rw [← f1]; exact hh)]; exact hv k hk
  · rintro j q z rfl; dsimp only at z; omega
  · rintro j q z ⟨rfl, -⟩; dsimp only at z; omega
  · intro z; exact absurd z (by simp)
  · rintro ⟨z, -⟩; exact absurd z (by decide)
  · rintro j q z rfl; dsimp only at z; omega
  · rintro j q z ⟨rfl, -⟩; dsimp only at z; omega
  · rintro j q z rfl; revert z; unfold kTl; dsimp only; omega
  · rintro j q z ⟨rfl, -⟩; revert z; unfold lTl; dsimp only; omega
theorem Rel.ta1 {k : Nat} (hN : N ≤ 4) (h1 : 1 ≤ k) (h2 : k ≤ 6) (R : Rel N g Mc Mr) : Rel N g (gset Mc (9, 0, 0) k (Mc (9, 0, 0) k + v)) (gset Mr m_o (44 + k) (Mr m_o (44 + k) + v)) := by
  refine R.tal hN ((cf.st (A := fun j q => j.1 = 9) rfl).mo (fun j q h => Or.inl h)) ((cf.st (A := fun j q => j.1 = 0 ∧ q = 44 + k) ⟨rfl, rfl⟩).mo (fun j q h => Or.inl ⟨h.1, by omega, by omega⟩)) (fun i a b => ?_)
  have h := R.2.2.2.2.2.2.2
  rw [gset_r, gset_r]
  by_cases e : i = k
  · subst e; rw [if_pos ⟨rfl, rfl⟩, if_pos ⟨rfl, rfl⟩, h i a b]
  · rw [if_neg (fun z => e z.2), if_neg (fun z => e (by omega))]; exact h i a b
theorem Rel.lo1 (hN : N ≤ 4) (hs : s < N) (R : Rel N g Mc Mr) : Rel N g (gset Mc (20, s, 0) 3 v) (gset Mr m_loses s v) := by
  refine R.los hN ((cf.st (A := fun j q => j.1 = 20) rfl).mo (fun j q h => Or.inl h)) ((cf.st (A := fun j q => j.1 = 6) rfl).mo (fun j q h => Or.inl h)) (fun i hi => ?_)
  rw [gset_r, gset_r]
  by_cases e : i = s
  · subst e; rw [if_pos ⟨rfl, rfl⟩, if_pos ⟨rfl, rfl⟩]
  · rw [if_neg (fun z => e (congrArg (fun x : gI => x.2.1) z.1)), if_neg (fun z => e z.2)]; exact R.2.2.2.1 i hi
theorem Rel.sc {q : Nat} (hN : N ≤ 4) (hq : rsc m_o q) (R : Rel N g Mc Mr) : Rel N g Mc (gset Mr m_o q v) := R.fr hN (cf.rf _ _) (cf.st hq)
theorem marks_step (hN : N ≤ 4) (ho : o < 48) (R : Rel N g Mc Mr) (I : Inv N g Mc) : ∃ Mc' Mr', f_X6_growMarks N Mc v (nI o) = some Mc' ∧ f_X11_mark Mr (nI o) v = some Mr' ∧ Rel N g Mc' Mr' ∧ Inv N g Mc' ∧ cf (fun j q => j.1 = 22 ∧ q = o) Mc Mc' ∧ cf (fun j q => j.1 = 21) Mr Mr' := by
  refine loop2 (fun n k M => f_X6_growMarks_L2 N v (nI o) n (nI k) M) (fun n k M => f_X11_mark_L2 (nI o) v n (nI k) M) N some some (fun _ M1 M2 => Rel N g M1 M2 ∧ Inv N g M1 ∧ cf (fun j q => j.1 = 22 ∧ q = o) Mc M1 ∧ cf (fun j q => j.1 = 21) Mr M2) (by omega) (fun n n' k M1 M2 hk ⟨r, i, c1, c2⟩ => ?_) (fun n M1 M2 _ => ?_) (fun n M1 M2 ⟨r, _⟩ => ?_) ⟨R, I, cf.rf _ _, cf.rf _ _⟩
  · have hm := (r.sv hk ho).cc
    unfold rC at hm
    by_cases hb : bt v k = true
    · refine ⟨gset M1 (22, k, 0) o (M1 (22, k, 0) o + 1), gset M2 m_marks (48 * k + o) (M1 (22, k, 0) o + 1), ?_, ?_, r.mk1 hN hk ho, i.free0 hN ((cf.st (A := fun j q => j.1 = 22) rfl).mo (fun j q h => Or.inr (Or.inl h))), c1.tr (cf.st ⟨rfl, rfl⟩), c2.tr (cf.st rfl)⟩
      · simp only [f_X6_growMarks_L2, lt_d, jn_d]
        rw [if_neg (nI_ge (by omega) (by omega)), c_isIn v (by omega), o1_s, hb, zb_t, if_neg (by decide), ix_n hk (by omega), rd_n ho (by omega), wr_n ho (by omega), nI_1]
      · simp only [f_X11_mark_L2, lt_d, jn_d, nI_m48, nI_add, r.n0]
        rw [if_neg (nI_ge (by omega) (by omega)), if_pos (by rw [bt_1 (by omega)]; exact hb), rd_n (by omega) (by omega), wr_n (by omega) (by omega), nI_1, hm]
    · refine ⟨M1, M2, ?_, ?_, r, i, c1, c2⟩
      · simp only [f_X6_growMarks_L2, lt_d, jn_d]
        rw [if_neg (nI_ge (by omega) (by omega)), c_isIn v (by omega), o1_s]
        rw [Bool.not_eq_true] at hb
        rw [hb, zb_f, if_pos rfl, nI_1]
      · simp only [f_X11_mark_L2, lt_d, jn_d, nI_m48, nI_add, r.n0]
        rw [if_neg (nI_ge (by omega) (by omega)), if_neg (by rw [bt_1 (by omega)]; exact hb), rd_n (by omega) (by omega), wr_n (by omega) (by omega), nI_1, gset_self]
  · simp only [f_X6_growMarks_L2]
    rw [if_pos (nI_le (by omega) (by omega))]
  · simp only [f_X11_mark_L2, lt_d, r.n0]
    rw [if_pos (nI_le (by omega) (by omega))]
/-- marks come into a server's vector -/
theorem vec_count (hN : N ≤ 4) (hs : s < N) (ho : o < 48) (R : Rel N g Mc Mr) (I : Inv N g Mc) (hh : Mc (51, s, 0) o = 1) : Rel N g (gpu Mc (55, s, o) 0 N (fun k => if bt v k = true then Mc (22, k, 0) o else Mc (55, s, o) k)) (gpu Mr m_vector (8 * (48 * s + o)) N (fun k => if bt v k = true then Mr m_marks (48 * k + o) else Mr m_vector (8 * (48 * s + o) + k))) ∧ Inv N g (gpu Mc (55, s, o) 0 N (fun k => if bt v k = true then Mc (22, k, 0) o else Mc (55, s, o) k)) := by
  have h1 : ¬ Mc (51, s, 0) o = 0 := by rw [hh]; decide
  refine ⟨R.vec hN hs ho h1 (cf.pu (fun _ _ _ => rfl)) (cf.pu (fun q a b => ⟨rfl, a, by omega⟩)) (fun k hk => ?_), I.free0 hN ((cf.pu (A := fun j q => j.1 = 55) (fun _ _ _ => rfl)).mo (fun j q h => Or.inr (Or.inr (Or.inl h))))⟩
  have e0 := R.row hs ho h1 hk
  by_cases e : k < N
  · rw [show gpu Mc (55, s, o) 0 N (fun k => if bt v k = true then Mc (22, k, 0) o else Mc (55, s, o) k) (55, s, o) k = _ from by simpa using gpu_in (M := Mc) (row := (55, s, o)) (base := 0) (n := N) (k := k) (f := fun k => if bt v k = true then Mc (22, k, 0) o else Mc (55, s, o) k) e, gpu_in e]
    by_cases hb : bt v k = true
    · rw [if_pos hb, if_pos hb]; exact (R.sv e ho).cc
    · rw [if_neg hb, if_neg hb]; exact e0
  · rw [gpu_r, if_neg (by omega), gpu_r, if_neg (by omega)]; exact e0
def aPh (o : Nat) (j : gI) (q : Nat) : Prop := (j.1 = 22 ∧ q = o) ∨ (j.1 = 55 ∧ j.2.1 < 4 ∧ j.2.2 = o) ∨ j.1 = 20 ∨ (j.1 = 9 ∧ q = 4)
def bPh (j : gI) (q : Nat) : Prop := j.1 = 21 ∨ j.1 = 14 ∨ j.1 = 6 ∨ (j.1 = 0 ∧ (q = 48 ∨ q = 52))
theorem rsc52 : rsc m_o 52 := by unfold rsc; dsimp only; omega
theorem rsc51 : rsc m_o 51 := by unfold rsc; dsimp only; omega
theorem phases_step (hN : N ≤ 4) (ho : o < 48) (R : Rel N g Mc Mr) (I : Inv N g Mc) (hset : Mr m_o 51 = v) (hh : ∀ s, s < N → bt v s = true → Mc (51, s, 0) o = 1) : ∃ l Mc' Mr', f_X6_countAct N Mc v (nI o) = some (l, Mc') ∧ f_X11_phases Mr (nI o) = some Mr' ∧ Rel N g Mc' Mr' ∧ Inv N g Mc' ∧ Mr' m_o 52 = l ∧ cf (aPh o) Mc Mc' ∧ cf bPh Mr Mr' := by
  obtain ⟨Mc1, Mr1, e1, e2, r1, i1, c1, c2⟩ := marks_step (v := v) hN ho (R.sc (v := 0) hN rsc52) I
  have c2' : cf bPh Mr Mr1 := (cf.st (A := bPh) (i := m_o) (k := 52) (v := 0) (by unfold bPh; dsimp only; omega)).tr (c2.mo (fun j q h => Or.inl h))
  have c1' : cf (aPh o) Mc Mc1 := c1.mo (fun j q h => Or.inl h)
  unfold f_X6_countAct f_X11_phases
  simp only [lt_d]
  rw [e1, o1_s, show gset Mr m_o 52 0 m_o 51 = v from by rw [gset_r, if_neg (by decide)]; exact hset, e2, o1_s]
  have s52 : Mr1 m_o 52 = 0 := by rw [c2 _ _ (by decide), gset_r, if_pos ⟨rfl, rfl⟩]
  have s51 : Mr1 m_o 51 = v := by rw [c2 _ _ (by decide), gset_r, if_neg (by decide)]; exact hset
  have key : ∃ (st1 : Int32 × gM) (Mr2 : gM), f_X6_countAct_L11 N v (nI o) 100 0 0 Mc1 = some st1 ∧ f_X11_phases_L16 (nI o) 100 0 Mr1 = some Mr2 ∧ Rel N g st1.2 Mr2 ∧ Inv N g st1.2 ∧ Mr2 m_o 52 = st1.1 ∧ cf (aPh o) Mc st1.2 ∧ cf bPh Mr Mr2 ∧ Mr2 m_o 51 = v := by
    refine loop2 (fun n k (st : Int32 × gM) => f_X6_countAct_L11 N v (nI o) n st.1 (nI k) st.2) (fun n k M => f_X11_phases_L16 (nI o) n (nI k) M) N (fun st => some st) some (fun _ st M2 => Rel N g st.2 M2 ∧ Inv N g st.2 ∧ M2 m_o 52 = st.1 ∧ cf (aPh o) Mc st.2 ∧ cf bPh Mr M2 ∧ M2 m_o 51 = v) (by omega) (fun n n' k st M2 hk ⟨r, i, hl, c1, c2, h51⟩ => ?_) (fun n st M2 _ => ?_) (fun n M1 M2 ⟨r, _⟩ => ?_) (st := ((0 : Int32), Mc1)) (st' := Mr1) ⟨r1, i1, s52, c1', c2', s51⟩
    · obtain ⟨l, M1⟩ := st
      dsimp only at r i hl c1 c2 ⊢
      have el := r.2.2.2.1 k hk
      by_cases hb : bt v k = true
      · have hk1 : M1 (51, k, 0) o = 1 := by rw [c1 _ _ (by unfold aPh; dsimp only; omega)]; exact hh k hk hb
        by_cases hz : M1 (20, k, 0) 3 = 0
        · obtain ⟨r2, i2⟩ := vec_count (v := v) hN hk ho r i hk1
          have cc1 := c1.tr (cf.pu (M := M1) (i := (55, k, o)) (b := 0) (n := N) (f := fun q => if bt v q = true then M1 (22, q, 0) o else M1 (55, k, o) q) (fun _ _ _ => Or.inr (Or.inl ⟨rfl, by dsimp only; omega, rfl⟩)))
          have cc2 := c2.tr (cf.pu (M := M2) (i := m_vector) (b := 8 * (48 * k + o)) (n := N) (f := fun q => if bt v q = true then M2 m_marks (48 * q + o) else M2 m_vector (8 * (48 * k + o) + q)) (fun _ _ _ => Or.inr (Or.inl rfl)))
          refine ⟨(l, gpu M1 (55, k, o) 0 N (fun q => if bt v q = true then M1 (22, q, 0) o else M1 (55, k, o) q)), _, ?_, ?_, r2, i2, ?_, cc1, cc2, ?_⟩
          · simp only [f_X6_countAct_L11, lt_d, jn_d]
            rw [if_neg (nI_ge (by omega) (by omega)), c_isIn v (by omega), o1_s, hb, zb_t, if_neg (by decide), ix_n hk (by omega), if_pos hz]
            rw [ix_n hk (by omega), ix_n ho (by omega), c_copyMarks hN ho (cN55 _ _ _) (by simp), o1_s, if_pos hz, nI_1]
          · simp only [f_X11_phases_L16, lt_d, jn_d, nI_m48, nI_add, r.n0, h51]
            rw [if_neg (nI_ge (by omega) (by omega)), if_pos (by rw [bt_1 (by omega)]; exact hb), rd_n (by omega) (by omega), ← el, if_pos hz, r_count r.n0 hN ho (by show _ ≤ 1536; omega) (by decide) (by decide) (by decide), o1_s, nI_1]
          · rw [gpu_ne (by decide)]; exact hl
          · rw [gpu_ne (by decide)]; exact h51
        · have r2 : Rel N g (gset (gset M1 (20, k, 0) 3 0) (9, 0, 0) 4 (gset M1 (20, k, 0) 3 0 (9, 0, 0) 4 + 1)) (gset (gset (gset M2 m_loses k 0) m_o 48 (gset M2 m_loses k 0 m_o 48 + 1)) m_o 52 (l ||| sB k)) := ((r.lo1 (v := 0) hN hk).ta1 (k := 4) (v := 1) hN (by decide) (by decide)).sc (v := l ||| sB k) hN rsc52
          have i2 : Inv N g (gset (gset M1 (20, k, 0) 3 0) (9, 0, 0) 4 (gset M1 (20, k, 0) 3 0 (9, 0, 0) 4 + 1)) := by
            refine i.free hN (cf.tr (cf.st (Or.inr rfl)) (cf.st (Or.inl (by unfold iFree; dsimp only; omega)))) (fun s hs => ?_)
            rw [gset_r, if_neg (by simp), gset_r]
            by_cases e : (20, s, 0) = ((20, k, 0) : gI) ∧ 3 = 3
            · rw [if_pos e]; exact Or.inl rfl
            · rw [if_neg e]; exact i.2.1 s hs
          have hk2 : gset (gset M1 (20, k, 0) 3 0) (9, 0, 0) 4 (gset M1 (20, k, 0) 3 0 (9, 0, 0) 4 + 1) (51, k, 0) o = 1 := by
            rw [gset_r, if_neg (by simp), gset_r, if_neg (by simp)]; exact hk1
          obtain ⟨r3, i3⟩ := vec_count (v := sB k) hN hk ho r2 i2 hk2
          let X1 := gset (gset M1 (20, k, 0) 3 0) (9, 0, 0) 4 (gset M1 (20, k, 0) 3 0 (9, 0, 0) 4 + 1)
          let X2 := gset (gset (gset M2 m_loses k 0) m_o 48 (gset M2 m_loses k 0 m_o 48 + 1)) m_o 52 (l ||| sB k)
          have cd1 : cf (aPh o) Mc X1 := c1.tr (cf.tr (cf.st (Or.inr (Or.inr (Or.inl rfl)))) (cf.st (Or.inr (Or.inr (Or.inr ⟨rfl, rfl⟩)))))
          have cd2 : cf bPh Mr X2 := c2.tr (cf.tr (cf.tr (cf.st (Or.inr (Or.inr (Or.inl rfl)))) (cf.st (Or.inr (Or.inr (Or.inr ⟨rfl, Or.inl rfl⟩))))) (cf.st (Or.inr (Or.inr (Or.inr ⟨rfl, Or.inr rfl⟩)))))
          have cc1 := cd1.tr (cf.pu (M := X1) (i := (55, k, o)) (b := 0) (n := N) (f := fun q => if bt (sB k) q = true then X1 (22, q, 0) o else X1 (55, k, o) q) (fun _ _ _ => Or.inr (Or.inl ⟨rfl, by dsimp only; omega, rfl⟩)))
          have cc2 := cd2.tr (cf.pu (M := X2) (i := m_vector) (b := 8 * (48 * k + o)) (n := N) (f := fun q => if bt (sB k) q = true then X2 m_marks (48 * q + o) else X2 m_vector (8 * (48 * k + o) + q)) (fun _ _ _ => Or.inr (Or.inl rfl)))
          refine ⟨(l ||| sB k, gpu X1 (55, k, o) 0 N (fun q => if bt (sB k) q = true then X1 (22, q, 0) o else X1 (55, k, o) q)), _, ?_, ?_, r3, i3, ?_, cc1, cc2, ?_⟩
          · simp only [f_X6_countAct_L11, lt_d, jn_d]
            rw [if_neg (nI_ge (by omega) (by omega)), c_isIn v (by omega), o1_s, hb, zb_t, if_neg (by decide), ix_n hk (by omega), if_neg hz]
            rw [ix_n hk (by omega), ix_n ho (by omega), c_copyMarks hN ho (cN55 _ _ _) (by simp), o1_s, if_neg hz, ix_n hk (by omega), gz_0, rd_l.2.2.1, wr_l.2.2.1, nI_1]
            rw [gset_gpu (by simp), gset_gpu (by simp), gpu_ne (by simp)]
            show _ = f_X6_countAct_L11 N v (nI o) n (l ||| sB k) (nI (k + 1)) _
            congr 1
          · simp only [f_X11_phases_L16, lt_d, jn_d, nI_m48, nI_add, r.n0, h51]
            have hz' : ¬ M2 m_loses k = 0 := by rw [← el]; exact hz
            rw [if_neg (nI_ge (by omega) (by omega)), if_pos (by rw [bt_1 (by omega)]; exact hb), rd_n (by omega) (by omega), if_neg hz', wz_0 (by omega) (by omega)]
            have e5 : gset (gset M2 m_loses k 0) m_o 48 (gset M2 m_loses k 0 m_o 48 + 1) m_o 52 = l := by rw [gset_r, if_neg (by decide), gset_r, if_neg (fun z => absurd z.1 (by decide))]; exact hl
            rw [e5]
            have ec : f_X11_count X2 m_vector (nI (48 * k + o)) (sB k) (nI o) = _ := r_count r2.n0 hN ho (by show _ ≤ 1536; omega) (by decide) (by decide) (by decide)
            exact (congrArg (fun z => o1 z (fun M11 => f_X11_phases_L16 (nI o) n' (nI k + 1) M11)) ec).trans (by rw [o1_s, nI_1])
          · rw [gpu_ne (by decide), gset_r, if_pos ⟨rfl, rfl⟩]
          · rw [gpu_ne (by decide), gset_r, if_neg (by decide), gset_r, if_neg (by decide), gset_r, if_neg (fun z => absurd z.1 (by decide))]; exact h51
      · refine ⟨(l, M1), M2, ?_, ?_, r, i, hl, c1, c2, h51⟩
        · simp only [f_X6_countAct_L11, lt_d, jn_d]
          rw [if_neg (nI_ge (by omega) (by omega)), c_isIn v (by omega), o1_s]
          rw [Bool.not_eq_true] at hb
          rw [hb, zb_f, if_pos rfl, nI_1]
        · simp only [f_X11_phases_L16, lt_d, jn_d, nI_m48, nI_add, r.n0, h51]
          rw [if_neg (nI_ge (by omega) (by omega)), if_neg (by rw [bt_1 (by omega)]; exact hb), nI_1]
    · simp only [f_X6_countAct_L11]
      rw [if_pos (nI_le (by omega) (by omega))]
    · simp only [f_X11_phases_L16, lt_d, r.n0]
      rw [if_pos (nI_le (by omega) (by omega))]
  obtain ⟨st1, Mr2, a1, a2, a3, a4, a5, a6, a7, a8⟩ := key
  exact ⟨st1.1, st1.2, Mr2, a1, a2, a3, a4, a5, a6, a7⟩
end PH
