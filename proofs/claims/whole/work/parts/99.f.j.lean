/-! layer 2: the invariants without the logs; rows of 94..96 over them (by jinv.py) -/
def JInv (N g : Nat) (M : gM) : Prop := iCat g M ∧ (∀ s, s < N → M (20, s, 0) 3 = 0 ∨ M (20, s, 0) 3 = 1) ∧ (∀ s, s < N → ∀ o, o < 48 → iSv g s o M) ∧ (∀ s, s < N → ∀ o, o < 48 → iVr s o M) ∧ (∀ c, c < 4 → ∀ o, o < 48 → iKl N g c o M) ∧ ∀ c, c < 4 → iWt M c
section JV
variable {N g s o c d : Nat} {M M' Mc Mr Mc' Mr' : gM} {A B : gI → Nat → Prop} {v w : Int32}
theorem Inv.j (I : Inv N g M) : JInv N g M := ⟨I.1, I.2.1, I.2.2.1, I.2.2.2.1, I.2.2.2.2.1, I.2.2.2.2.2.1⟩
theorem JInv.up (J : JInv N g M) (lg : ∀ c, c < 4 → iLg N g c M) (mk : iMk M) : Inv N g M := ⟨J.1, J.2.1, J.2.2.1, J.2.2.2.1, J.2.2.2.2.1, J.2.2.2.2.2, lg, mk⟩
theorem JInv.cli (hN : N ≤ 4) (I : JInv N g Mc) (hc : cf (fun j q => aKl j q ∨ csc j q) Mc Mc') (hkl : ∀ c, c < 4 → ∀ o, o < 48 → iKl N g c o Mc') (hw : ∀ c, c < 4 → iWt Mc' c) : JInv N g Mc' := by
  obtain ⟨cat, lo, sv, vr, kl, w⟩ := I
  refine ⟨cat.fr hc ?_, fun s hs => ?_, fun s hs o ho => (sv s hs o ho).fr ho hc ?_, fun s hs o ho => (vr s hs o ho).fr hc ?_, hkl, hw⟩
  · intro j q; unfold eCat aKl csc; omega
  · rw [hc (20, s, 0) 3 (by unfold aKl csc; dsimp only; omega)]; exact lo s hs
  · intro j q; unfold eSv aKl csc; omega
  · intro j q; unfold eVr aKl csc; omega
theorem JInv.free (hN : N ≤ 4) (I : JInv N g M) (hc : cf (fun j q => iFree j q ∨ j.1 = 20) M M') (h2 : ∀ s, s < N → M' (20, s, 0) 3 = 0 ∨ M' (20, s, 0) 3 = 1) : JInv N g M' := by
  obtain ⟨cat, lo, sv, vr, kl, w⟩ := I
  have hg := cat.1
  refine ⟨cat.fr hc ?_, h2, fun s hs o ho => (sv s hs o ho).fr ho hc ?_, fun s hs o ho => (vr s hs o ho).fr hc ?_, fun c h o ho => (kl c h o ho).fr hN hc ?_, fun c h => (w c h).fr hc ?_⟩
  · intro j q; unfold eCat iFree csc; omega
  · intro j q; unfold eSv iFree csc; omega
  · intro j q; unfold eVr iFree csc; omega
  · intro j q; unfold eKl iFree csc; omega
  · intro j q; unfold eWt iFree csc; omega
theorem JInv.free0 (hN : N ≤ 4) (I : JInv N g M) (hc : cf iFree M M') : JInv N g M' := I.free hN (hc.mo (fun j q h => Or.inl h)) (fun s hs => by
  rw [hc (20, s, 0) 3 (by unfold iFree csc; dsimp only; omega)]
  exact I.2.1 s hs)
theorem pr_setJ (hN : N ≤ 4) (hd : d < 4) (ho : o < 48) (R : Rel N g Mc Mr) (I : JInv N g Mc) (h1 : w &&& cNr N Mc d = w) (h2 : Mc (51, 4 + d, 0) o = 0 → w = 0) : Rel N g (gset Mc (32, d, 0) o w) (gset Mr m_promised (48 * d + o) w) ∧ JInv N g (gset Mc (32, d, 0) o w) := by
  have hc : cf (fun j q => j = (32, d, 0) ∧ q = o) Mc (gset Mc (32, d, 0) o w) := cf.st ⟨rfl, rfl⟩
  have hr : cf (fun j q => j = m_promised ∧ q = 48 * d + o) Mr (gset Mr m_promised (48 * d + o) w) := cf.st ⟨rfl, rfl⟩
  have vc : gset Mc (32, d, 0) o w (32, d, 0) o = w := by rw [gset_r, if_pos ⟨rfl, rfl⟩]
  have vr : gset Mr m_promised (48 * d + o) w m_promised (48 * d + o) = w := by rw [gset_r, if_pos ⟨rfl, rfl⟩]
  constructor
  · refine R.kmix hN hd ho (hc.mo ?_) (hr.mo ?_) ?_
    · rintro j q ⟨rfl, rfl⟩; unfold kKl; dsimp only; omega
    · rintro j q ⟨rfl, rfl⟩; unfold lKl; dsimp only; omega
    · obtain ⟨f1, f2, f3, f4, f5, f6, f7, f8⟩ := R.kl hd ho
      have e : ∀ (j : gI) q, j.1 ≠ 32 → gset Mc (32, d, 0) o w j q = Mc j q := fun j q h => hc _ _ (fun z => h (by rw [z.1]))
      have e' : ∀ (j : gI) q, j.1 ≠ 26 → gset Mr m_promised (48 * d + o) w j q = Mr j q := fun j q h => hr _ _ (fun z => h (by rw [z.1]))
      refine ⟨?_, ?_, ?_, fun k hk => ?_, ?_, ?_, ?_, ?_⟩
      · rw [e _ _ (by simp), e' _ _ (by simp)]; exact f1
      · rw [e _ _ (by simp), e' _ _ (by simp), e' _ _ (by simp), e' _ _ (by simp)]; exact f2
      · rw [e _ _ (by simp), e' _ _ (by simp), e' _ _ (by simp), e' _ _ (by simp)]; exact f3
      · rw [e _ _ (by simp), e' _ _ (by simp), e' _ _ (by simp)]; exact f4 k hk
      · rw [e _ _ (by simp), e' _ _ (by simp)]; exact f5
      · rw [e _ _ (by simp), e' _ _ (by simp)]; exact f6
      · rw [vc, vr]
      · rw [e _ _ (by simp), e' _ _ (by simp)]; exact f8
  · have hg := I.1.1
    have nr : ∀ c, cNr N (gset Mc (32, d, 0) o w) c = cNr N Mc c := fun c => cNr.fr hN hc (fun z => absurd z.1 (by simp)) (fun q _ z => absurd z.1 (by simp))
    refine I.cli hN (hc.mo ?_) (fun c' h' o' ho' => ?_) (fun c' h' => (I.2.2.2.2.2 c' h').fr hc ?_)
    · rintro j q ⟨rfl, rfl⟩; unfold aKl; dsimp only; omega
    · by_cases e : c' = d ∧ o' = o
      · obtain ⟨rfl, rfl⟩ := e
        have i0 := I.2.2.2.2.1 c' h' o' ho'
        unfold iKl at i0 ⊢
        have e : ∀ (j : gI) q, j.1 ≠ 32 → gset Mc (32, c', 0) o' w j q = Mc j q := fun j q h => hc _ _ (fun z => h (by rw [z.1]))
        rw [nr, vc, e (51, 4 + c', 0) o' (by simp), e (33, c', 0) o' (by simp), e (56, 4 + c', 0) o' (by simp), e (53, 4 + c', 0) o' (by simp), e (31, c', 0) o' (by simp)]
        obtain ⟨i1, i2, i3, i4, i5, i6, -, i8, i9⟩ := i0
        exact ⟨i1, i2, i3, i4, i5, fun z => ⟨h2 z, (i6 z).2⟩, h1, i8, i9⟩
      · refine (I.2.2.2.2.1 c' h' o' ho').fr hN hc ?_
        rintro j q h ⟨rfl, rfl⟩
        revert h; unfold eKl; dsimp only; omega
    · rintro j q h ⟨rfl, rfl⟩; revert h; unfold eWt; dsimp only; omega
theorem pr_andJ (hN : N ≤ 4) (hd : d < 4) (ho : o < 48) (R : Rel N g Mc Mr) (I : JInv N g Mc) : Rel N g (gset Mc (32, d, 0) o (Mc (32, d, 0) o &&& w)) (gset Mr m_promised (48 * d + o) (Mr m_promised (48 * d + o) &&& w)) ∧ JInv N g (gset Mc (32, d, 0) o (Mc (32, d, 0) o &&& w)) := by
  rw [← (R.kl hd ho).2.2.2.2.2.2.1]
  obtain ⟨-, -, -, -, -, i6, i7, -⟩ := I.2.2.2.2.1 d hd o ho
  exact pr_setJ hN hd ho R I (and_sub i7) (fun z => by rw [(i6 z).1, Int32.zero_and])
theorem ends_stepJ (hN : N ≤ 4) (ho : o < 48) (R : Rel N g Mc Mr) (I : JInv N g Mc) : ∃ Mc' Mr', f_X6_endPromises N Mc v (nI o) = some Mc' ∧ f_X11_endPromises Mr (nI o) v (-1 : Int32) = some Mr' ∧ Rel N g Mc' Mr' ∧ JInv N g Mc' ∧ cf (fun j q => j.1 = 32 ∧ q = o) Mc Mc' ∧ cf (fun j q => j.1 = 26) Mr Mr' := by
  refine loop2 (fun n k M => f_X6_endPromises_L2 N v (nI o) n (nI k) M) (fun n k M => f_X11_endPromises_L3 (nI o) v (-1 : Int32) n (nI k) M) 4 some some (fun _ M1 M2 => Rel N g M1 M2 ∧ JInv N g M1 ∧ cf (fun j q => j.1 = 32 ∧ q = o) Mc M1 ∧ cf (fun j q => j.1 = 26) Mr M2) (by decide) (fun n n' k M1 M2 hk ⟨r, i, c1, c2⟩ => ?_) (fun n M1 M2 _ => ?_) (fun n M1 M2 _ => ?_) ⟨R, I, cf.rf _ _, cf.rf _ _⟩
  · refine ⟨_, _, ?_, ?_, (pr_andJ (w := v ^^^ (-1 : Int32)) hN hk ho r i).1, (pr_andJ (w := v ^^^ (-1 : Int32)) hN hk ho r i).2, c1.tr (cf.st ⟨rfl, rfl⟩), c2.tr (cf.st rfl)⟩
    · simp only [f_X6_endPromises_L2, lt_d]
      rw [if_neg (nI_ge hk (by omega)), ix_n hk (by omega), rd_n ho (by omega), wr_n ho (by omega), nI_1]
    · simp only [f_X11_endPromises_L3, lt_d, jn_d, nI_m48, nI_add]
      rw [if_neg (ge_4 hk), if_neg (by rw [nI_m1 (by omega)]; exact id), rd_n (by omega) (by omega), wr_n (by omega) (by omega), nI_1]
  · simp only [f_X6_endPromises_L2]
    rw [if_pos (nI_le (by omega) (by omega))]
  · simp only [f_X11_endPromises_L3]
    rw [if_pos (lf_4 (by omega))]
theorem marks_stepJ (hN : N ≤ 4) (ho : o < 48) (R : Rel N g Mc Mr) (I : JInv N g Mc) : ∃ Mc' Mr', f_X6_growMarks N Mc v (nI o) = some Mc' ∧ f_X11_mark Mr (nI o) v = some Mr' ∧ Rel N g Mc' Mr' ∧ JInv N g Mc' ∧ cf (fun j q => j.1 = 22 ∧ q = o) Mc Mc' ∧ cf (fun j q => j.1 = 21) Mr Mr' := by
  refine loop2 (fun n k M => f_X6_growMarks_L2 N v (nI o) n (nI k) M) (fun n k M => f_X11_mark_L2 (nI o) v n (nI k) M) N some some (fun _ M1 M2 => Rel N g M1 M2 ∧ JInv N g M1 ∧ cf (fun j q => j.1 = 22 ∧ q = o) Mc M1 ∧ cf (fun j q => j.1 = 21) Mr M2) (by omega) (fun n n' k M1 M2 hk ⟨r, i, c1, c2⟩ => ?_) (fun n M1 M2 _ => ?_) (fun n M1 M2 ⟨r, _⟩ => ?_) ⟨R, I, cf.rf _ _, cf.rf _ _⟩
  · have hm := (r.sv hk ho).cc
    unfold rC at hm
    by_cases hb : bt v k = true
    · refine ⟨gset M1 (22, k, 0) o (M1 (22, k, 0) o + 1), gset M2 m_marks (48 * k + o) (M1 (22, k, 0) o + 1), ?_, ?_, r.mk1 hN hk ho, i.free0 hN ((cf.st (A := fun j q => j.1 = 22) rfl).mo (fun j q h => Or.inr (Or.inl h))), c1.tr (cf.st ⟨rfl, rfl⟩), c2.tr (cf.st rfl)⟩
      · simp only [f_X6_growMarks_L2, lt_d, jn_d]
        rw [if_neg (nI_ge (by omega) (by omega)), c_isIn v (by omega), o1_s, hb, zb_t, if_neg (by decide), ix_n hk (by omega), rd_n ho (by omega), wr_n ho (by omega), nI_1]
      · simp only [f_X11_mark_L2, lt_d, jn_d, nI_m48, nI_add, r.n0]
        rw [if_neg (nI_ge (by omega) (by omega)), if_pos (by rw [bt_1 (by omega)]; exact hb), rd_n (by omega) (by omega), wr_n (by omega) (by omega), nI_1, hm]
    · refine ⟨M1, M2, ?_, ?_, r, i, c1, c2⟩
      · simp only [f_X6_growMarks_L2, lt_d, jn_d]
        rw [if_neg (nI_ge (by omega) (by omega)), c_isIn v (by omega), o1_s]
        rw [Bool.not_eq_true] at hb
        rw [hb, zb_f, if_pos rfl, nI_1]
      · simp only [f_X11_mark_L2, lt_d, jn_d, nI_m48, nI_add, r.n0]
        rw [if_neg (nI_ge (by omega) (by omega)), if_neg (by rw [bt_1 (by omega)]; exact hb), rd_n (by omega) (by omega), wr_n (by omega) (by omega), nI_1, gset_self]
  · simp only [f_X6_growMarks_L2]
    rw [if_pos (nI_le (by omega) (by omega))]
  · simp only [f_X11_mark_L2, lt_d, r.n0]
    rw [if_pos (nI_le (by omega) (by omega))]
theorem vec_countJ (hN : N ≤ 4) (hs : s < N) (ho : o < 48) (R : Rel N g Mc Mr) (I : JInv N g Mc) (hh : Mc (51, s, 0) o = 1) : Rel N g (gpu Mc (55, s, o) 0 N (fun k => if bt v k = true then Mc (22, k, 0) o else Mc (55, s, o) k)) (gpu Mr m_vector (8 * (48 * s + o)) N (fun k => if bt v k = true then Mr m_marks (48 * k + o) else Mr m_vector (8 * (48 * s + o) + k))) ∧ JInv N g (gpu Mc (55, s, o) 0 N (fun k => if bt v k = true then Mc (22, k, 0) o else Mc (55, s, o) k)) := by
  have h1 : ¬ Mc (51, s, 0) o = 0 := by rw [hh]; decide
  refine ⟨R.vec hN hs ho h1 (cf.pu (fun _ _ _ => rfl)) (cf.pu (fun q a b => ⟨rfl, a, by omega⟩)) (fun k hk => ?_), I.free0 hN ((cf.pu (A := fun j q => j.1 = 55) (fun _ _ _ => rfl)).mo (fun j q h => Or.inr (Or.inr (Or.inl h))))⟩
  have e0 := R.row hs ho h1 hk
  by_cases e : k < N
  · rw [show gpu Mc (55, s, o) 0 N (fun k => if bt v k = true then Mc (22, k, 0) o else Mc (55, s, o) k) (55, s, o) k = _ from by simpa using gpu_in (M := Mc) (row := (55, s, o)) (base := 0) (n := N) (k := k) (f := fun k => if bt v k = true then Mc (22, k, 0) o else Mc (55, s, o) k) e, gpu_in e]
    by_cases hb : bt v k = true
    · rw [if_pos hb, if_pos hb]; exact (R.sv e ho).cc
    · rw [if_neg hb, if_neg hb]; exact e0
  · rw [gpu_r, if_neg (by omega), gpu_r, if_neg (by omega)]; exact e0
theorem phases_stepJ (hN : N ≤ 4) (ho : o < 48) (R : Rel N g Mc Mr) (I : JInv N g Mc) (hset : Mr m_o 51 = v) (hh : ∀ s, s < N → bt v s = true → Mc (51, s, 0) o = 1) : ∃ l Mc' Mr', f_X6_countAct N Mc v (nI o) = some (l, Mc') ∧ f_X11_phases Mr (nI o) = some Mr' ∧ Rel N g Mc' Mr' ∧ JInv N g Mc' ∧ Mr' m_o 52 = l ∧ cf (aPh o) Mc Mc' ∧ cf bPh Mr Mr' := by
  obtain ⟨Mc1, Mr1, e1, e2, r1, i1, c1, c2⟩ := marks_stepJ (v := v) hN ho (R.sc (v := 0) hN rsc52) I
  have c2' : cf bPh Mr Mr1 := (cf.st (A := bPh) (i := m_o) (k := 52) (v := 0) (by unfold bPh; dsimp only; omega)).tr (c2.mo (fun j q h => Or.inl h))
  have c1' : cf (aPh o) Mc Mc1 := c1.mo (fun j q h => Or.inl h)
  unfold f_X6_countAct f_X11_phases
  simp only [lt_d]
  rw [e1, o1_s, show gset Mr m_o 52 0 m_o 51 = v from by rw [gset_r, if_neg (by decide)]; exact hset, e2, o1_s]
  have s52 : Mr1 m_o 52 = 0 := by rw [c2 _ _ (by decide), gset_r, if_pos ⟨rfl, rfl⟩]
  have s51 : Mr1 m_o 51 = v := by rw [c2 _ _ (by decide), gset_r, if_neg (by decide)]; exact hset
  have key : ∃ (st1 : Int32 × gM) (Mr2 : gM), f_X6_countAct_L11 N v (nI o) 100 0 0 Mc1 = some st1 ∧ f_X11_phases_L16 (nI o) 100 0 Mr1 = some Mr2 ∧ Rel N g st1.2 Mr2 ∧ JInv N g st1.2 ∧ Mr2 m_o 52 = st1.1 ∧ cf (aPh o) Mc st1.2 ∧ cf bPh Mr Mr2 ∧ Mr2 m_o 51 = v := by
    refine loop2 (fun n k (st : Int32 × gM) => f_X6_countAct_L11 N v (nI o) n st.1 (nI k) st.2) (fun n k M => f_X11_phases_L16 (nI o) n (nI k) M) N (fun st => some st) some (fun _ st M2 => Rel N g st.2 M2 ∧ JInv N g st.2 ∧ M2 m_o 52 = st.1 ∧ cf (aPh o) Mc st.2 ∧ cf bPh Mr M2 ∧ M2 m_o 51 = v) (by omega) (fun n n' k st M2 hk ⟨r, i, hl, c1, c2, h51⟩ => ?_) (fun n st M2 _ => ?_) (fun n M1 M2 ⟨r, _⟩ => ?_) (st := ((0 : Int32), Mc1)) (st' := Mr1) ⟨r1, i1, s52, c1', c2', s51⟩
    · obtain ⟨l, M1⟩ := st
      dsimp only at r i hl c1 c2 ⊢
      have el := r.2.2.2.1 k hk
      by_cases hb : bt v k = true
      · have hk1 : M1 (51, k, 0) o = 1 := by rw [c1 _ _ (by unfold aPh; dsimp only; omega)]; exact hh k hk hb
        by_cases hz : M1 (20, k, 0) 3 = 0
        · obtain ⟨r2, i2⟩ := vec_countJ (v := v) hN hk ho r i hk1
          have cc1 := c1.tr (cf.pu (M := M1) (i := (55, k, o)) (b := 0) (n := N) (f := fun q => if bt v q = true then M1 (22, q, 0) o else M1 (55, k, o) q) (fun _ _ _ => Or.inr (Or.inl ⟨rfl, by dsimp only; omega, rfl⟩)))
          have cc2 := c2.tr (cf.pu (M := M2) (i := m_vector) (b := 8 * (48 * k + o)) (n := N) (f := fun q => if bt v q = true then M2 m_marks (48 * q + o) else M2 m_vector (8 * (48 * k + o) + q)) (fun _ _ _ => Or.inr (Or.inl rfl)))
          refine ⟨(l, gpu M1 (55, k, o) 0 N (fun q => if bt v q = true then M1 (22, q, 0) o else M1 (55, k, o) q)), _, ?_, ?_, r2, i2, ?_, cc1, cc2, ?_⟩
          · simp only [f_X6_countAct_L11, lt_d, jn_d]
            rw [if_neg (nI_ge (by omega) (by omega)), c_isIn v (by omega), o1_s, hb, zb_t, if_neg (by decide), ix_n hk (by omega), if_pos hz]
            rw [ix_n hk (by omega), ix_n ho (by omega), c_copyMarks hN ho (cN55 _ _ _) (by simp), o1_s, if_pos hz, nI_1]
          · simp only [f_X11_phases_L16, lt_d, jn_d, nI_m48, nI_add, r.n0, h51]
            rw [if_neg (nI_ge (by omega) (by omega)), if_pos (by rw [bt_1 (by omega)]; exact hb), rd_n (by omega) (by omega), ← el, if_pos hz, r_count r.n0 hN ho (by show _ ≤ 1536; omega) (by decide) (by decide) (by decide), o1_s, nI_1]
          · rw [gpu_ne (by decide)]; exact hl
          · rw [gpu_ne (by decide)]; exact h51
        · have r2 : Rel N g (gset (gset M1 (20, k, 0) 3 0) (9, 0, 0) 4 (gset M1 (20, k, 0) 3 0 (9, 0, 0) 4 + 1)) (gset (gset (gset M2 m_loses k 0) m_o 48 (gset M2 m_loses k 0 m_o 48 + 1)) m_o 52 (l ||| sB k)) := ((r.lo1 (v := 0) hN hk).ta1 (k := 4) (v := 1) hN (by decide) (by decide)).sc (v := l ||| sB k) hN rsc52
          have i2 : JInv N g (gset (gset M1 (20, k, 0) 3 0) (9, 0, 0) 4 (gset M1 (20, k, 0) 3 0 (9, 0, 0) 4 + 1)) := by
            refine i.free hN (cf.tr (cf.st (Or.inr rfl)) (cf.st (Or.inl (by unfold iFree; dsimp only; omega)))) (fun s hs => ?_)
            rw [gset_r, if_neg (by simp), gset_r]
            by_cases e : (20, s, 0) = ((20, k, 0) : gI) ∧ 3 = 3
            · rw [if_pos e]; exact Or.inl rfl
            · rw [if_neg e]; exact i.2.1 s hs
          have hk2 : gset (gset M1 (20, k, 0) 3 0) (9, 0, 0) 4 (gset M1 (20, k, 0) 3 0 (9, 0, 0) 4 + 1) (51, k, 0) o = 1 := by
            rw [gset_r, if_neg (by simp), gset_r, if_neg (by simp)]; exact hk1
          obtain ⟨r3, i3⟩ := vec_countJ (v := sB k) hN hk ho r2 i2 hk2
          let X1 := gset (gset M1 (20, k, 0) 3 0) (9, 0, 0) 4 (gset M1 (20, k, 0) 3 0 (9, 0, 0) 4 + 1)
          let X2 := gset (gset (gset M2 m_loses k 0) m_o 48 (gset M2 m_loses k 0 m_o 48 + 1)) m_o 52 (l ||| sB k)
          have cd1 : cf (aPh o) Mc X1 := c1.tr (cf.tr (cf.st (Or.inr (Or.inr (Or.inl rfl)))) (cf.st (Or.inr (Or.inr (Or.inr ⟨rfl, rfl⟩)))))
          have cd2 : cf bPh Mr X2 := c2.tr (cf.tr (cf.tr (cf.st (Or.inr (Or.inr (Or.inl rfl)))) (cf.st (Or.inr (Or.inr (Or.inr ⟨rfl, Or.inl rfl⟩))))) (cf.st (Or.inr (Or.inr (Or.inr ⟨rfl, Or.inr rfl⟩)))))
          have cc1 := cd1.tr (cf.pu (M := X1) (i := (55, k, o)) (b := 0) (n := N) (f := fun q => if bt (sB k) q = true then X1 (22, q, 0) o else X1 (55, k, o) q) (fun _ _ _ => Or.inr (Or.inl ⟨rfl, by dsimp only; omega, rfl⟩)))
          have cc2 := cd2.tr (cf.pu (M := X2) (i := m_vector) (b := 8 * (48 * k + o)) (n := N) (f := fun q => if bt (sB k) q = true then X2 m_marks (48 * q + o) else X2 m_vector (8 * (48 * k + o) + q)) (fun _ _ _ => Or.inr (Or.inl rfl)))
          refine ⟨(l ||| sB k, gpu X1 (55, k, o) 0 N (fun q => if bt (sB k) q = true then X1 (22, q, 0) o else X1 (55, k, o) q)), _, ?_, ?_, r3, i3, ?_, cc1, cc2, ?_⟩
          · simp only [f_X6_countAct_L11, lt_d, jn_d]
            rw [if_neg (nI_ge (by omega) (by omega)), c_isIn v (by omega), o1_s, hb, zb_t, if_neg (by decide), ix_n hk (by omega), if_neg hz]
            rw [ix_n hk (by omega), ix_n ho (by omega), c_copyMarks hN ho (cN55 _ _ _) (by simp), o1_s, if_neg hz, ix_n hk (by omega), gz_0, rd_l.2.2.1, wr_l.2.2.1, nI_1]
            rw [gset_gpu (by simp), gset_gpu (by simp), gpu_ne (by simp)]
            show _ = f_X6_countAct_L11 N v (nI o) n (l ||| sB k) (nI (k + 1)) _
            congr 1
          · simp only [f_X11_phases_L16, lt_d, jn_d, nI_m48, nI_add, r.n0, h51]
            have hz' : ¬ M2 m_loses k = 0 := by rw [← el]; exact hz
            rw [if_neg (nI_ge (by omega) (by omega)), if_pos (by rw [bt_1 (by omega)]; exact hb), rd_n (by omega) (by omega), if_neg hz', wz_0 (by omega) (by omega)]
            have e5 : gset (gset M2 m_loses k 0) m_o 48 (gset M2 m_loses k 0 m_o 48 + 1) m_o 52 = l := by rw [gset_r, if_neg (by decide), gset_r, if_neg (fun z => absurd z.1 (by decide))]; exact hl
            rw [e5]
            have ec : f_X11_count X2 m_vector (nI (48 * k + o)) (sB k) (nI o) = _ := r_count r2.n0 hN ho (by show _ ≤ 1536; omega) (by decide) (by decide) (by decide)
            exact (congrArg (fun z => o1 z (fun M11 => f_X11_phases_L16 (nI o) n' (nI k + 1) M11)) ec).trans (by rw [o1_s, nI_1])
          · rw [gpu_ne (by decide), gset_r, if_pos ⟨rfl, rfl⟩]
          · rw [gpu_ne (by decide), gset_r, if_neg (by decide), gset_r, if_neg (by decide), gset_r, if_neg (fun z => absurd z.1 (by decide))]; exact h51
      · refine ⟨(l, M1), M2, ?_, ?_, r, i, hl, c1, c2, h51⟩
        · simp only [f_X6_countAct_L11, lt_d, jn_d]
          rw [if_neg (nI_ge (by omega) (by omega)), c_isIn v (by omega), o1_s]
          rw [Bool.not_eq_true] at hb
          rw [hb, zb_f, if_pos rfl, nI_1]
        · simp only [f_X11_phases_L16, lt_d, jn_d, nI_m48, nI_add, r.n0, h51]
          rw [if_neg (nI_ge (by omega) (by omega)), if_neg (by rw [bt_1 (by omega)]; exact hb), nI_1]
    · simp only [f_X6_countAct_L11]
      rw [if_pos (nI_le (by omega) (by omega))]
    · simp only [f_X11_phases_L16, lt_d, r.n0]
      rw [if_pos (nI_le (by omega) (by omega))]
  obtain ⟨st1, Mr2, a1, a2, a3, a4, a5, a6, a7, a8⟩ := key
  exact ⟨st1.1, st1.2, Mr2, a1, a2, a3, a4, a5, a6, a7⟩
theorem set_eqJ {row row' : gI} (hN : N ≤ 4) (ho : o < 48) (R : Rel N g Mc Mr) (I : JInv N g Mc) (hr : cN N row = N + 4) (hw : 8 ≤ mN row') (m1 : mN row' ≤ 16384) (hv : ∀ k, k < N + 4 → Mr row' k = Mc row k) : f_X6_holdersOf N Mc v (nI o) row = some (hSet N Mc v o row) ∧ f_X11_setOf Mr v (nI o) row' = some (hSet N Mc v o row) := by
  constructor
  · exact c_holdersOf hN ho hr (fun s hs => by obtain ⟨-, n, h1, h2, -⟩ := I.2.2.2.1 s hs o ho; exact ⟨n, h1, h2⟩)
  · rw [r_setOf R.n0 R.n1 hN ho hw m1]
    refine congrArg some (sN_congr _ _ _ (fun s _ hs => ?_))
    have h := R.sv (show s < N by omega) ho
    rw [h.a.1, h.dd.1]
    by_cases hh : Mr m_has (48 * s + o) = 0
    · rw [hh]; simp [nz]
    · have e : rEq (fun k => Mr m_vector (8 * (48 * s + o) + k)) (fun k => Mr row' k) 0 (N + 4) = rEq (Mc (55, s, o)) (Mc row) 0 (N + 4) := rEq_congr (fun k hk => (R.row (show s < N by omega) ho (by rw [h.a.1]; exact hh) hk).symm) hv
      rw [e]
      cases bt v s <;> cases nz (Mr m_has (48 * s + o)) <;> cases nz (Mr m_versions (48 * s + o)) <;> cases rEq (Mc (55, s, o)) (Mc row) 0 (N + 4) <;> rfl
theorem JInv.mixv (hN : N ≤ 4) (hs : s < N) (ho : o < 48) (I : JInv N g M) (hc : cf (fun j q => iFree j q ∨ ((j.1 = 52 ∨ j.1 = 53) ∧ j.2.1 = s ∧ q = o) ∨ ((j.1 = 60 ∨ j.1 = 61 ∨ j.1 = 62) ∧ j.2.1 = 48 * s + o)) M M') (hv : iVr s o M') : JInv N g M' := by
  obtain ⟨cat, lo, sv, vr, kl, w⟩ := I
  have hg := cat.1
  refine ⟨cat.fr hc ?_, fun s' hs' => ?_, fun s' hs' o' ho' => (sv s' hs' o' ho').fr ho' hc ?_, fun s' hs' o' ho' => ?_, fun c h o' ho' => (kl c h o' ho').fr hN hc ?_, fun c h => (w c h).fr hc ?_⟩
  · intro j q; unfold eCat iFree csc; omega
  · rw [hc (20, s', 0) 3 (by unfold iFree csc; dsimp only; omega)]; exact lo s' hs'
  · intro j q; unfold eSv iFree csc; omega
  · by_cases e : s' = s ∧ o' = o
    · obtain ⟨rfl, rfl⟩ := e; exact hv
    · refine (vr s' hs' o' ho').fr hc ?_
      intro j q; unfold eVr iFree csc; omega
  · intro j q; unfold eKl iFree csc; omega
  · intro j q; unfold eWt iFree csc; omega
theorem fil_invJ {z : Nat} (hN : N ≤ 4) (hs : s < N) (ho : o < 48) (I : JInv N g M) (hz : z ≤ 6) (h6 : M (60, 48 * s + o, 0) 3 = 0) : JInv N g (gset (gset M (52, s, 0) o v) (53, s, 0) o (nI z)) := by
  have hc : cf (fun j q => (j = (52, s, 0) ∨ j = (53, s, 0)) ∧ q = o) M (gset (gset M (52, s, 0) o v) (53, s, 0) o (nI z)) := (cf.st ⟨Or.inl rfl, rfl⟩).tr (cf.st ⟨Or.inr rfl, rfl⟩)
  refine I.mixv hN hs ho (hc.mo ?_) ⟨⟨z, hz, by rw [gset_r, if_pos ⟨rfl, rfl⟩]⟩, 0, by omega, ?_, fun h => absurd rfl h, fun i hi => absurd hi (by omega)⟩
  · rintro j q ⟨rfl | rfl, rfl⟩ <;> (dsimp only; omega)
  · rw [hc _ _ (by simp)]; exact h6
theorem write_stepJ {z : Nat} {J : gM → Option gM} (hN : N ≤ 4) (ho : o < 48) (hz : z ≤ 6) (R : Rel N g Mc Mr) (I : JInv N g Mc) (hset : Mr m_o 51 = v) (hd : Mc (4, 0, 0) o = 0) (hh : ∀ s, s < N → bt v s = true → ¬ Mc (51, s, 0) o = 0 ∧ Mc (60, 48 * s + o, 0) 3 = 0) : ∃ Mc' Mr', f_X6_writeAt N Mc v (nI o) w (nI z) = some Mc' ∧ f_X11_putValue_L3 (nI o) w (nI z) J 100 0 Mr = J Mr' ∧ Rel N g Mc' Mr' ∧ JInv N g Mc' ∧ Mr' m_o 51 = v ∧ cf (aWr o) Mc Mc' ∧ cf bWr Mr Mr' := by
  refine loop2 (fun n k M => f_X6_writeAt_L3 N v (nI o) w (nI z) n (nI k) M) (fun n k M => f_X11_putValue_L3 (nI o) w (nI z) J n (nI k) M) N some J (fun _ M1 M2 => Rel N g M1 M2 ∧ JInv N g M1 ∧ M2 m_o 51 = v ∧ cf (aWr o) Mc M1 ∧ cf bWr Mr M2) (by omega) (fun n n' k M1 M2 hk ⟨r, i, h51, c1, c2⟩ => ?_) (fun n M1 M2 _ => ?_) (fun n M1 M2 ⟨r, _⟩ => ?_) ⟨R, I, hset, cf.rf _ _, cf.rf _ _⟩
  · by_cases hb : bt v k = true
    · obtain ⟨hh1, hh2⟩ := hh k hk hb
      rw [← c1 (51, k, 0) o (by unfold aWr; dsimp only; omega)] at hh1
      rw [← c1 (60, 48 * k + o, 0) 3 (by unfold aWr; dsimp only; omega)] at hh2
      rw [← c1 (4, 0, 0) o (by unfold aWr; dsimp only; omega)] at hd
      have r1 := (r.fil (v := w) (w := nI z) hN hk ho hh1 hd).ta1 (k := 1) (v := 1) hN (by decide) (by decide)
      have i1 : JInv N g (gset (gset (gset M1 (52, k, 0) o w) (53, k, 0) o (nI z)) (9, 0, 0) 1 (gset (gset M1 (52, k, 0) o w) (53, k, 0) o (nI z) (9, 0, 0) 1 + 1)) := (fil_invJ (v := w) hN hk ho i hz hh2).free0 hN (cf.st (by unfold iFree; dsimp only; omega))
      have d1 : cf (aWr o) Mc (gset (gset (gset M1 (52, k, 0) o w) (53, k, 0) o (nI z)) (9, 0, 0) 1 (gset (gset M1 (52, k, 0) o w) (53, k, 0) o (nI z) (9, 0, 0) 1 + 1)) := ((c1.tr (cf.st (by unfold aWr; dsimp only; omega))).tr (cf.st (by unfold aWr; dsimp only; omega))).tr (cf.st (by unfold aWr; dsimp only; omega))
      have d2 : cf bWr Mr (gset (gset (gset M2 m_value (48 * k + o) w) m_size (48 * k + o) (nI z)) m_o 45 (gset (gset M2 m_value (48 * k + o) w) m_size (48 * k + o) (nI z) m_o 45 + 1)) := ((c2.tr (cf.st (by unfold bWr; dsimp only; omega))).tr (cf.st (by unfold bWr; dsimp only; omega))).tr (cf.st (by unfold bWr; dsimp only; omega))
      refine ⟨_, _, ?_, ?_, r1, i1, ?_, d1, d2⟩
      · simp only [f_X6_writeAt_L3, lt_d, jn_d]
        rw [if_neg (nI_ge (by omega) (by omega)), c_isIn v (by omega), o1_s, hb, zb_t, if_neg (by decide), ix_n hk (by omega), c_setFile ho, o1_s, rd_l.2.2.2.2.2, wr_l.2.2.2.2.2, nI_1]
      · simp only [f_X11_putValue_L3, lt_d, jn_d, nI_m48, nI_add, r.n0, h51]
        rw [if_neg (nI_ge (by omega) (by omega)), if_pos (by rw [bt_1 (by omega)]; exact hb), wr_n (by omega) (by omega), wr_n (by omega) (by omega), nI_1]
      · rw [gset_r, if_neg (by decide), gset_r, if_neg (fun z => absurd z.1 (by decide)), gset_r, if_neg (fun z => absurd z.1 (by decide))]; exact h51
    · refine ⟨M1, M2, ?_, ?_, r, i, h51, c1, c2⟩
      · simp only [f_X6_writeAt_L3, lt_d, jn_d]
        rw [if_neg (nI_ge (by omega) (by omega)), c_isIn v (by omega), o1_s]
        rw [Bool.not_eq_true] at hb
        rw [hb, zb_f, if_pos rfl, nI_1]
      · simp only [f_X11_putValue_L3, lt_d, jn_d, nI_m48, nI_add, r.n0, h51]
        rw [if_neg (nI_ge (by omega) (by omega)), if_neg (by rw [bt_1 (by omega)]; exact hb), nI_1]
  · simp only [f_X6_writeAt_L3]
    rw [if_pos (nI_le (by omega) (by omega))]
  · simp only [f_X11_putValue_L3, lt_d, r.n0]
    rw [if_pos (nI_le (by omega) (by omega))]
end JV
