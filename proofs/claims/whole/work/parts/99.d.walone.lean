/-! layer 2: a client writes alone; write -/
theorem gset_comm {M : gM} {i i' : gI} {k k' : Nat} {v v' : Int32} (h : i ≠ i') : gset (gset M i k v) i' k' v' = gset (gset M i' k' v') i k v := by
  funext j q
  simp only [gset_r]
  by_cases e : j = i' ∧ q = k'
  · rw [if_pos e, if_neg (fun z => h (z.1.symm.trans e.1)), if_pos e]
  · rw [if_neg e, if_neg e]
section WA
variable {N g B s o c d x z T n : Nat} {M M' Mc Mr Mc' Mr' : gM} {v w a1 a2 a3 a4 : Int32}
theorem c_full (hl : M (40, c, 0) 4 = nI n) (hn : n ≤ 12) : f_X3_isFull N M c = some (if n < 12 then 0 else 1) := by
  unfold f_X3_isFull
  rw [lt_d, hl]
  by_cases e : n < 12
  · rw [if_pos e, if_pos (lt_12 e)]
  · rw [if_neg e, if_neg (show ¬ nI n < (12 : Int32) from (show ¬ nI n < nI 12 from nI_nlt (by omega) (by omega)))]
theorem cAd_comm {i : gI} {k : Nat} (h1 : i.1 < 40 ∨ 45 < i.1) (h2 : i.1 ≠ 55) : cAdd N (gset M i k v) c n a1 a2 a3 (55, 4 + c, o) = gset (cAdd N M c n a1 a2 a3 (55, 4 + c, o)) i k v := by
  have e : ∀ t b, 40 ≤ t → t ≤ 45 → i ≠ (t, c, b) := fun t b x1 x2 z => by rw [z] at h1; dsimp only at h1; omega
  unfold cAdd
  rw [gset_comm (e 41 0 (by omega) (by omega)), gset_comm (e 42 0 (by omega) (by omega)), gset_comm (e 43 0 (by omega) (by omega)), ← gset_gpu (e 45 n (by omega) (by omega)), gset_comm (e 40 0 (by omega) (by omega))]
  congr 2
  refine gpu_congr (fun q _ => ?_)
  rw [gset_r, if_neg (fun z => h2 (by rw [← z.1]))]
theorem Rel.kdir (hN : N ≤ 4) (hc4 : c < 4) (ho : o < 48) (R : Rel N g Mc Mr) : Rel N g (gset Mc (33, c, 0) o v) (gset Mr m_dirty (48 * c + o) v) := by
  have hc : cf (fun j q => j = (33, c, 0) ∧ q = o) Mc (gset Mc (33, c, 0) o v) := cf.st ⟨rfl, rfl⟩
  have hr : cf (fun j q => j = m_dirty ∧ q = 48 * c + o) Mr (gset Mr m_dirty (48 * c + o) v) := cf.st ⟨rfl, rfl⟩
  refine R.kmix hN hc4 ho (hc.mo ?_) (hr.mo ?_) ?_
  · rintro j q ⟨rfl, rfl⟩; unfold kKl; dsimp only; omega
  · rintro j q ⟨rfl, rfl⟩; unfold lKl; dsimp only; omega
  · obtain ⟨f1, f2, f3, f4, f5, f6, f7, f8⟩ := R.kl hc4 ho
    have e : ∀ (j : gI) q, j.1 ≠ 33 → gset Mc (33, c, 0) o v j q = Mc j q := fun j q h => hc _ _ (fun z => h (by rw [z.1]))
    have e' : ∀ (j : gI) q, j.1 ≠ 27 → gset Mr m_dirty (48 * c + o) v j q = Mr j q := fun j q h => hr _ _ (fun z => h (by rw [z.1]))
    refine ⟨?_, ?_, ?_, fun k hk => ?_, ?_, ?_, ?_, ?_⟩
    · rw [e _ _ (by simp), e' _ _ (by simp)]; exact f1
    · rw [e _ _ (by simp), e' _ _ (by simp), e' _ _ (by simp), e' _ _ (by simp)]; exact f2
    · rw [e _ _ (by simp), e' _ _ (by simp), e' _ _ (by simp), e' _ _ (by simp)]; exact f3
    · rw [e _ _ (by simp), e' _ _ (by simp), e' _ _ (by simp)]; exact f4 k hk
    · rw [e _ _ (by simp), e' _ _ (by simp)]; exact f5
    · rw [e _ _ (by simp), e' _ _ (by simp)]; exact f6
    · rw [e _ _ (by simp), e' _ _ (by simp)]; exact f7
    · rw [gset_r, if_pos ⟨rfl, rfl⟩, gset_r, if_pos ⟨rfl, rfl⟩]
theorem iRec.to {i : Nat} (h : iRec N g c i M) (h1 : M' (41, c, 0) i = M (41, c, 0) i) (h2 : M' (42, c, 0) i = M (42, c, 0) i) (h3 : M' (43, c, 0) i = M (43, c, 0) i) (h4 : ∀ ob, ob ≤ g → M (41, c, 0) i = 0 → M (42, c, 0) i = nI ob → M (51, 4 + c, 0) ob = 1 → M (33, c, 0) ob = 1 → M' (51, 4 + c, 0) ob = 1 ∧ M' (33, c, 0) ob = 1) (h5 : ∀ ob, ob ≤ g → M' (4, 0, 0) ob = M (4, 0, 0) ob ∧ M' (2, 0, 0) ob = M (2, 0, 0) ob) (h6 : ∀ s ob, s < N → ob ≤ g → M (41, c, 0) i = 1 → M (42, c, 0) i = nI ob → M (51, s, 0) ob = 0 ∧ ¬ M (56, s, 0) ob = 1 → M' (51, s, 0) ob = 0 ∧ ¬ M' (56, s, 0) ob = 1) : iRec N g c i M' := by
  obtain ⟨ob, o1, o2, o3, o4⟩ := h
  refine ⟨ob, o1, o2, by rw [h2]; exact o3, ?_⟩
  rw [h1, h3, (h5 ob o2).1, (h5 ob o2).2]
  rcases o4 with ⟨q1, q2, q3, q4, q5⟩ | ⟨q1, q2, q3⟩ | q
  · exact Or.inl ⟨q1, q2, (h4 ob o2 q1 o3 q3 q4).1, (h4 ob o2 q1 o3 q3 q4).2, q5⟩
  · exact Or.inr (Or.inl ⟨q1, q2, fun s hs => h6 s ob hs o2 q1 o3 (q3 s hs)⟩)
  · exact Or.inr (Or.inr q)
theorem iLg_add (hn : n < 12) (e40 : M' (40, c, 0) 4 = nI (n + 1)) (e : ∀ i, i < n → M' (41, c, 0) i = M (41, c, 0) i ∧ M' (42, c, 0) i = M (42, c, 0) i) (hold : ∀ i, i < n → iRec N g c i M') (hnew : iRec N g c n M') (hord : ∀ i j, i < n → j < n → M (41, c, 0) i = 1 → M (41, c, 0) j = 0 → M (42, c, 0) i = M (42, c, 0) j → i < j) (hmk : M' (41, c, 0) n = 1 → ∀ j, j < n → M (41, c, 0) j = 0 → ¬ M' (42, c, 0) n = M (42, c, 0) j) : iLg N g c M' := by
  refine ⟨n + 1, by omega, e40, fun h => absurd h (by omega), fun i hi => ?_, fun i j hi hj x1 x2 x3 => ?_⟩
  · by_cases q : i = n
    · subst q; exact hnew
    · exact hold i (by omega)
  · by_cases q : j = n
    · subst q
      by_cases q2 : i = j
      · subst q2; rw [x1] at x2; exact absurd x2 (by decide)
      · omega
    · rw [(e j (by omega)).1] at x2
      rw [(e j (by omega)).2] at x3
      by_cases q2 : i = n
      · subst q2; exact absurd x3 (hmk x1 j (by omega) x2)
      · rw [(e i (by omega)).1] at x1
        rw [(e i (by omega)).2] at x3
        exact hord i j (by omega) (by omega) x1 x2 x3
theorem iMk_add (hc4 : c < 4) (hn : n < 12) (h : iMk M) (hl : M (40, c, 0) 4 = nI n) (e40 : M' (40, c, 0) 4 = nI (n + 1)) (e : ∀ i, i < n → M' (41, c, 0) i = M (41, c, 0) i ∧ M' (42, c, 0) i = M (42, c, 0) i) (ed : ∀ d, d ≠ c → ∀ i, M' (40, d, 0) i = M (40, d, 0) i ∧ M' (41, d, 0) i = M (41, d, 0) i ∧ M' (42, d, 0) i = M (42, d, 0) i) (hnew : M' (41, c, 0) n = 1 → ∀ d j, d < 4 → j < 12 → nI j < M (40, d, 0) 4 → M (41, d, 0) j = 1 → ¬ M (42, d, 0) j = M' (42, c, 0) n) (hnew0 : M' (41, c, 0) n = 0 → ∀ j, j < n → M (41, c, 0) j = 0 → ¬ M (42, c, 0) j = M' (42, c, 0) n) : iMk M' := by
  have old : ∀ d j, d < 4 → j < 12 → nI j < M' (40, d, 0) 4 → ¬ (d = c ∧ j = n) → nI j < M (40, d, 0) 4 ∧ M' (41, d, 0) j = M (41, d, 0) j ∧ M' (42, d, 0) j = M (42, d, 0) j := fun d j hd hj hl' hne => by
    by_cases q : d = c
    · subst q
      rw [e40, nlt (by omega) (by omega)] at hl'
      have : j < n := by omega
      exact ⟨by rw [hl]; exact nI_lt this (by omega), (e j this).1, (e j this).2⟩
    · rw [(ed d q 4).1] at hl'
      exact ⟨hl', (ed d q j).2.1, (ed d q j).2.2⟩
  intro a b i j ha hb hi hj i12 j12 x1 x2 x3
  by_cases qa : a = c ∧ i = n
  · by_cases qb : b = c ∧ j = n
    · exact ⟨qa.1.trans qb.1.symm, qa.2.trans qb.2.symm⟩
    · obtain ⟨o1, o2, o3⟩ := old b j hb j12 hj qb
      obtain ⟨rfl, rfl⟩ := qa
      rw [o2] at x1
      rw [o3] at x3
      rcases x2 with y | ⟨rfl, y⟩
      · exact absurd x3.symm (hnew y b j hb j12 o1 (x1.symm.trans y))
      · rw [hl, nlt (by omega) (by omega)] at o1
        exact absurd x3.symm (hnew0 y j o1 (x1.symm.trans y))
  · obtain ⟨p1, p2, p3⟩ := old a i ha i12 hi qa
    rw [p2] at x1 x2
    rw [p3] at x3
    by_cases qb : b = c ∧ j = n
    · obtain ⟨rfl, rfl⟩ := qb
      rcases x2 with y | ⟨rfl, y⟩
      · exact absurd x3 (hnew (x1.symm.trans y) a i ha i12 p1 y)
      · rw [hl, nlt (by omega) (by omega)] at p1
        exact absurd x3 (hnew0 (x1.symm.trans y) i p1 y)
    · obtain ⟨o1, o2, o3⟩ := old b j hb j12 hj qb
      rw [o2] at x1
      rw [o3] at x3
      exact h a b i j ha hb p1 o1 i12 j12 x1 x2 x3
def rWa (M2 : gM) (c o z : Nat) (a3 : Int32) : Option (Int64 × gM) := o1 (f_X11_recordOf M2 (nI c) (0 : Int32) (nI o)) (fun v6 => jn (fun (q : (Int32 × gM)) => match q with | (b7, M8) => jn (fun (M9 : gM) => o1 (f_X11_weight M9 (nI o) (nI z)) (fun v11 => o1 (f_X11_weightKept M9 (nI c) (nI o)) (fun v13 => ob (f_X11_makeRoom M9 (nI c) (v11 - v13) (nI o) (10 : Int32)) (fun v16 M15 => (if v16 = 0 then some ((-2199023255558 : Int64), M15) else lt ((((48 : Int32) * (nI c)) + (nI o))) (fun x18 => wr M15 m_keptValue 192 x18 a3 (fun M19 => wr M19 m_keptSize 192 x18 (nI z) (fun M20 => wz M20 m_dirty 192 x18 (1 : Int32) (fun M21 => (if b7 = 0 then some ((0 : Int64), M21) else o1 (f_X11_addRecord M21 (nI c) (0 : Int32) (nI o) (-1 : Int32)) (fun M24 => some ((0 : Int64), M24)))))))))))) (fun J58 => (if b7 = 0 then J58 M8 else rd M8 m_records 4 (nI c) (fun v26 => (if v26 = (12 : Int32) then some ((-2199023255557 : Int64), M8) else J58 M8))))) (fun J36 => (if v6 = (-1 : Int32) then J36 ((1 : Int32), M2) else J36 ((0 : Int32), M2))))
theorem root_dir (I : Inv N g M) (hd : M (4, 0, 0) o = 0) : 1 ≤ o := by
  rcases Nat.eq_zero_or_pos o with e | e
  · subst e; rw [I.1.2.1] at hd; exact absurd hd (by decide)
  · exact e
theorem write_alone (hN : N ≤ 4) (hc : c < 4) (hog : o ≤ g) (h : CI N g B c 48 Mc Mr) (hh : Mc (51, 4 + c, 0) o = 1) (ht : uTop c o Mc) (hd : Mc (4, 0, 0) o = 0) (hz : z ≤ 6) : ∃ v Mc' Mr', f_X1_writeAlone N Mc c (nI o) a3 (nI z) = some (v, Mc') ∧ rWa Mr c o z a3 = some (v, Mr') ∧ CI N g B c 48 Mc' Mr' ∧ Mr' m_o 66 = Mr m_o 66 := by
  obtain ⟨R, I, U, O, W⟩ := id h
  have hg := I.1.1
  have ho : o < 48 := by omega
  obtain ⟨n, hn, hl, hl0, hrec, hord⟩ := I.2.2.2.2.2.2.1 c hc
  have hlr : Mr m_records c = nI n := by rw [← (R.lg hc).1]; exact hl
  have hci := c_indexOf (N := N) (a1 := 0) (a2 := nI o) hl hn
  have hri := rec_eq (a1 := 0) (a2 := nI o) hc R hl hn
  obtain ⟨y, hy1, hy2⟩ := (I.2.2.2.2.1 c hc o ho).2.2.2.2.2.2.2.1
  obtain ⟨mo1, mo2, mo3, mo4⟩ := mo_eq hz hy1
  have hwt : wt Mc c o = 1 + y := wt_file hh hd hy1 hy2
  have hdr : Mr m_isDirectory o = 0 := by rw [← (R.ct.2.2 o ho).2.2]; exact hd
  obtain ⟨b, Mc6, Mr6, m1, m2, h6, cc6, cr6, k6, -, hb0, -, hb1⟩ := room (x := 48) (bu := nI o) (be := 10) (mo := nI z - nI y) hN hc (by omega) h (fun p hp e => by
    rw [neq (by omega) (by omega)] at e
    subst e
    exact top_may ht) mo2 mo3
  have e66 : Mr6 m_o 66 = Mr m_o 66 := cr6 _ _ (by unfold fR; dsimp only; omega)
  have hk6 : Mc6 (51, 4 + c, 0) o = 1 := by rw [(k6 o ho (top_may ht)).1 51 (Or.inl rfl)]; exact hh
  have hy6 : Mc6 (53, 4 + c, 0) o = nI y := by rw [(k6 o ho (top_may ht)).1 53 (Or.inr (Or.inr rfl))]; exact hy2
  have hd6 : Mc6 (4, 0, 0) o = 0 := by rw [cc6 _ _ (by unfold fC; dsimp only; omega)]; exact hd
  have hl6 : Mc6 (40, c, 0) 4 = nI n := by rw [cc6 _ _ (by unfold fC; dsimp only; omega)]; exact hl
  have hlr6 : Mr6 m_records c = nI n := by rw [← (h6.1.lg hc).1]; exact hl6
  rcases fst_spec (N := n) (p := fun i => decide (Mc (41, c, 0) i = 0 ∧ Mc (42, c, 0) i = nI o)) with ⟨ef, hno⟩ | ⟨i0, hi0, ef, hp0⟩
  · -- a new record
    rw [ef] at hci hri
    by_cases hf : n = 12
    · refine ⟨-2199023255557, Mc, Mr, ?_, ?_, h, rfl⟩
      · unfold f_X1_writeAlone
        simp only [lt_d, jn_d]
        rw [hci, o1_s, if_pos rfl]
        rw [if_neg (by decide), c_full hl hn, hf, if_neg (by decide), o1_s, if_neg (by decide)]
      · unfold rWa
        simp only [lt_d, jn_d]
        rw [hri, o1_s, if_pos rfl]
        rw [if_neg (by decide), rd_n hc (by omega), hlr, hf, if_pos (by decide)]
    · have hn' : n < 12 := by omega
      cases b with
      | false =>
        obtain ⟨e6, e6'⟩ := hb0 rfl
        subst e6 e6'
        refine ⟨-2199023255558, Mc6, Mr6, ?_, ?_, h, rfl⟩
        · unfold f_X1_writeAlone
          simp only [lt_d, jn_d]
          rw [hci, o1_s, if_pos rfl]
          rw [if_neg (by decide), c_full hl hn, if_pos hn', o1_s, if_pos rfl, rd_n ho (by omega), hy2, m1, ob_s, zb_f, if_pos rfl]
        · unfold rWa
          simp only [lt_d, jn_d, nI_m48, nI_add]
          rw [hri, o1_s, if_pos rfl]
          rw [if_neg (by decide), rd_n hc (by omega), hlr, if_neg (by rw [show (12 : Int32) = nI 12 from rfl, neq (by omega) (by omega)]; omega), r_weight ho, o1_s, hdr, if_pos rfl, r_weightKept hc ho R ⟨y, hy1, hy2⟩, o1_s, hwt, mo1, m2, ob_s, zb_f, if_pos rfl]
      | true =>
        have rF : Rel N g (gset (cAdd N (gset (gset Mc6 (52, 4 + c, 0) o a3) (53, 4 + c, 0) o (nI z)) c n 0 (nI o) (-1) (55, 4 + c, o)) (33, c, 0) o 1) (rAd (gset (gset (gset Mr6 m_keptValue (48 * c + o) a3) m_keptSize (48 * c + o) (nI z)) m_dirty (48 * c + o) 1) c n o 0 (-1)) := by
          rw [← cAd_comm (by simp) (by simp)]
          refine ((h6.1.kfil hN hc ho (by rw [hk6]; decide) hd6).kdir hN hc ho).add hN hc ho ?_ hn' ?_
          · rw [gset_r, if_neg (by simp), gset_r, if_neg (by simp), gset_r, if_neg (by simp)]; exact hl6
          · rw [gset_r, if_neg (by simp), gset_r, if_neg (by simp), gset_r, if_neg (by simp), hk6]; decide
        have i7 := kfil_inv (v := a3) hN hc ho h6.2.1 hz hk6 hd6 ⟨hy1, hy6⟩ (hb1 rfl)
        have hX : cf (fun j q => (j = (52, 4 + c, 0) ∨ j = (53, 4 + c, 0)) ∧ q = o) Mc6 (gset (gset Mc6 (52, 4 + c, 0) o a3) (53, 4 + c, 0) o (nI z)) := (cf.st ⟨Or.inl rfl, rfl⟩).tr (cf.st ⟨Or.inr rfl, rfl⟩)
        obtain ⟨X, hXe⟩ : ∃ X, X = gset (gset Mc6 (52, 4 + c, 0) o a3) (53, 4 + c, 0) o (nI z) := ⟨_, rfl⟩
        rw [← hXe] at rF i7 hX
        obtain ⟨n2, hn2, hl2, -, hrec2, hord2⟩ := i7.2.2.2.2.2.2.1 c hc
        have hXl : X (40, c, 0) 4 = nI n := by rw [hX _ _ (by simp)]; exact hl6
        have en2 : n2 = n := by rw [hXl, neq (by omega) (by omega)] at hl2; exact hl2.symm
        subst en2
        have fY := cAd_fr (N := N) (M := X) (c := c) (n := n2) (a1 := 0) (a2 := nI o) (a3 := -1) (o := o)
        have fZ : cf (fun j q => (40 ≤ j.1 ∧ j.1 ≤ 45 ∧ j.2.1 = c) ∨ (j.1 = 33 ∧ j.2.1 = c ∧ q = o)) X (gset (cAdd N X c n2 0 (nI o) (-1) (55, 4 + c, o)) (33, c, 0) o 1) := (fY.mo (fun j q h => Or.inl h)).tr (cf.st (Or.inr ⟨rfl, rfl, rfl⟩))
        have vZ : ∀ i, gset (cAdd N X c n2 0 (nI o) (-1) (55, 4 + c, o)) (33, c, 0) o 1 (41, c, 0) i = (if i = n2 then 0 else X (41, c, 0) i) ∧ gset (cAdd N X c n2 0 (nI o) (-1) (55, 4 + c, o)) (33, c, 0) o 1 (42, c, 0) i = (if i = n2 then nI o else X (42, c, 0) i) ∧ gset (cAdd N X c n2 0 (nI o) (-1) (55, 4 + c, o)) (33, c, 0) o 1 (43, c, 0) i = (if i = n2 then -1 else X (43, c, 0) i) := fun i => by
          have q : ∀ t, t ≠ 33 → gset (cAdd N X c n2 0 (nI o) (-1) (55, 4 + c, o)) (33, c, 0) o 1 (t, c, 0) i = cAdd N X c n2 0 (nI o) (-1) (55, 4 + c, o) (t, c, 0) i := fun t ht => by rw [gset_r, if_neg (fun z => ht (congrArg Prod.fst z.1))]
          rw [q 41 (by decide), q 42 (by decide), q 43 (by decide)]; exact cAd_v
        have lZ : gset (cAdd N X c n2 0 (nI o) (-1) (55, 4 + c, o)) (33, c, 0) o 1 (40, c, 0) 4 = nI (n2 + 1) := by rw [gset_r, if_neg (by simp)]; exact cAd_l
        have dZ : gset (cAdd N X c n2 0 (nI o) (-1) (55, 4 + c, o)) (33, c, 0) o 1 (33, c, 0) o = 1 := by rw [gset_r, if_pos ⟨rfl, rfl⟩]
        have hXk : X (51, 4 + c, 0) o = 1 := by rw [hX _ _ (by simp)]; exact hk6
        have hXd : X (4, 0, 0) o = 0 := by rw [hX _ _ (by simp)]; exact hd6
        obtain ⟨Z, hZe⟩ : ∃ Z, Z = gset (cAdd N X c n2 0 (nI o) (-1) (55, 4 + c, o)) (33, c, 0) o 1 := ⟨_, rfl⟩
        rw [← hZe] at rF fZ lZ dZ
        simp only [← hZe] at vZ
        have eo : ∀ i, i < n2 → Z (41, c, 0) i = X (41, c, 0) i ∧ Z (42, c, 0) i = X (42, c, 0) i := fun i hi => ⟨by rw [(vZ i).1, if_neg (by omega)], by rw [(vZ i).2.1, if_neg (by omega)]⟩
        have iZ : Inv N g Z := by
          refine i7.alog hN hc (fZ.mo (fun j q h => by omega)) (fun p hp => ?_) (iLg_add hn' lZ eo (fun i hi => ?_) ?_ hord2 (fun h => ?_)) (iMk_add hc hn' i7.2.2.2.2.2.2.2 hXl lZ eo (fun d hd i => ?_) (fun h => ?_) (fun _ j hj hk => ?_))
          · by_cases e : p = o
            · subst e; exact ⟨Or.inr dZ, fun q => absurd (hXk.symm.trans q) (by decide)⟩
            · rw [fZ _ _ (by dsimp only; omega)]
              have k0 := i7.2.2.2.2.1 c hc p hp
              exact ⟨k0.2.1, fun q => (k0.2.2.2.2.2.1 q).2⟩
          · refine (hrec2 i hi).to (eo i hi).1 (eo i hi).2 (by rw [(vZ i).2.2, if_neg (by omega)]) (fun ob h1 _ _ h2 h3 => ⟨?_, ?_⟩) (fun ob h1 => ⟨fZ _ _ (by dsimp only; omega), fZ _ _ (by dsimp only; omega)⟩) (fun s ob hs h1 _ _ h2 => ?_)
            · rw [fZ _ _ (by dsimp only; omega)]; exact h2
            · by_cases e : ob = o
              · subst e; exact dZ
              · rw [fZ _ _ (by dsimp only; omega)]; exact h3
            · rw [fZ _ _ (by dsimp only; omega), fZ _ _ (by dsimp only; omega)]; exact h2
          · refine ⟨o, root_dir I hd, hog, by rw [(vZ n2).2.1, if_pos rfl], Or.inl ⟨by rw [(vZ n2).1, if_pos rfl], by rw [(vZ n2).2.2, if_pos rfl], ?_, dZ, ?_⟩⟩
            · rw [fZ _ _ (by dsimp only; omega)]; exact hXk
            · rw [fZ _ _ (by dsimp only; omega)]; exact hXd
          · rw [(vZ n2).1, if_pos rfl] at h; exact absurd h (by decide)
          · exact ⟨fZ _ _ (by dsimp only; omega), fZ _ _ (by dsimp only; omega), fZ _ _ (by dsimp only; omega)⟩
          · rw [(vZ n2).1, if_pos rfl] at h; exact absurd h (by decide)
          · rw [(vZ n2).2.1, if_pos rfl]
            intro e
            rw [hX _ _ (by simp), cc6 _ _ (by unfold fC; dsimp only; omega)] at hk e
            have := hno j hj
            rw [decide_eq_false_iff_not] at this
            exact this ⟨hk, e⟩
        refine ⟨0, Z, rAd (gset (gset (gset Mr6 m_keptValue (48 * c + o) a3) m_keptSize (48 * c + o) (nI z)) m_dirty (48 * c + o) 1) c n2 o 0 (-1), ?_, ?_, h6.sv ((hX.mo ?_).tr (fZ.mo ?_)) ((cf.tr (cf.tr (cf.st ?_) (cf.st ?_)) (cf.st ?_)).tr ((rAd_fr hn').mo ?_)) rF iZ, ?_⟩
        · unfold f_X1_writeAlone
          simp only [lt_d, jn_d]
          rw [hci, o1_s, if_pos rfl]
          rw [if_neg (by decide), c_full hl hn, if_pos hn', o1_s, if_pos rfl, rd_n ho (by omega), hy2, m1, ob_s, zb_t, if_neg (by decide), if_neg (by decide), ix_n ho (by omega), c_add hN hl6 hn' (cN55 _ _ _) rfl, o1_s, c_setFile ho, o1_s, wz_1 ho (by omega), hZe, hXe, cAd_comm (by simp) (by simp), cAd_comm (by simp) (by simp)]
        · unfold rWa
          simp only [lt_d, jn_d, nI_m48, nI_add]
          rw [hri, o1_s, if_pos rfl]
          rw [if_neg (by decide), rd_n hc (by omega), hlr, if_neg (by rw [show (12 : Int32) = nI 12 from rfl, neq (by omega) (by omega)]; omega), r_weight ho, o1_s, hdr, if_pos rfl, r_weightKept hc ho R ⟨y, hy1, hy2⟩, o1_s, hwt, mo1, m2, ob_s, zb_t, if_neg (by decide), wr_n (by omega) (by omega), wr_n (by omega) (by omega), wz_1 (by omega) (by omega), if_neg (by decide), r_addRecord hc ho (by rw [gset_r, if_neg (by simp), gset_r, if_neg (by simp), gset_r, if_neg (by simp)]; exact hlr6) hn', o1_s]
        · rintro j q ⟨rfl | rfl, rfl⟩ <;> (unfold uC; dsimp only; omega)
        · intro j q h; unfold uC; omega
        · unfold uR; dsimp only; omega
        · unfold uR; dsimp only; omega
        · unfold uR; dsimp only; omega
        · intro j q h; unfold uR; omega
        · rw [rAd_fr hn' _ _ (by dsimp only; omega), gset_r, if_neg (by simp), gset_r, if_neg (by simp), gset_r, if_neg (by simp)]; exact e66
  · -- written before
    rw [ef] at hci hri
    have hm1 : ¬ nI i0 = (-1 : Int32) := by rw [nI_m1 (by omega)]; exact id
    cases b with
    | false =>
      obtain ⟨e6, e6'⟩ := hb0 rfl
      subst e6 e6'
      refine ⟨-2199023255558, Mc6, Mr6, ?_, ?_, h, rfl⟩
      · unfold f_X1_writeAlone
        simp only [lt_d, jn_d]
        rw [hci, o1_s, if_neg hm1]
        rw [if_true, rd_n ho (by omega), hy2, m1, ob_s, zb_f, if_pos rfl]
      · unfold rWa
        simp only [lt_d, jn_d, nI_m48, nI_add]
        rw [hri, o1_s, if_neg hm1]
        rw [if_true, r_weight ho, o1_s, hdr, if_pos rfl, r_weightKept hc ho R ⟨y, hy1, hy2⟩, o1_s, hwt, mo1, m2, ob_s, zb_f, if_pos rfl]
    | true =>
      have rF := (h6.1.kfil (v := a3) (w := nI z) hN hc ho (by rw [hk6]; decide) hd6).kdir (v := 1) hN hc ho
      have i7 := kfil_inv (v := a3) hN hc ho h6.2.1 hz hk6 hd6 ⟨hy1, hy6⟩ (hb1 rfl)
      have hX : cf (fun j q => (j = (52, 4 + c, 0) ∨ j = (53, 4 + c, 0)) ∧ q = o) Mc6 (gset (gset Mc6 (52, 4 + c, 0) o a3) (53, 4 + c, 0) o (nI z)) := (cf.st ⟨Or.inl rfl, rfl⟩).tr (cf.st ⟨Or.inr rfl, rfl⟩)
      obtain ⟨X, hXe⟩ : ∃ X, X = gset (gset Mc6 (52, 4 + c, 0) o a3) (53, 4 + c, 0) o (nI z) := ⟨_, rfl⟩
      rw [← hXe] at rF i7 hX
      obtain ⟨n2, hn2, hl2, -, hrec2, hord2⟩ := i7.2.2.2.2.2.2.1 c hc
      have hXl : X (40, c, 0) 4 = nI n := by rw [hX _ _ (by simp)]; exact hl6
      have en2 : n2 = n := by rw [hXl, neq (by omega) (by omega)] at hl2; exact hl2.symm
      subst en2
      have hXk : X (51, 4 + c, 0) o = 1 := by rw [hX _ _ (by simp)]; exact hk6
      have fZ : cf (fun j q => j.1 = 33 ∧ j.2.1 = c ∧ q = o) X (gset X (33, c, 0) o 1) := cf.st ⟨rfl, rfl, rfl⟩
      have dZ : gset X (33, c, 0) o 1 (33, c, 0) o = 1 := by rw [gset_r, if_pos ⟨rfl, rfl⟩]
      have iZ : Inv N g (gset X (33, c, 0) o 1) := by
        refine i7.alog hN hc (fZ.mo (fun j q h => by omega)) (fun p hp => ?_) ⟨n2, hn2, by rw [fZ _ _ (by dsimp only; omega)]; exact hXl, fun e => absurd hi0 (by omega), fun i hi => ?_, fun i j hi hj x1 x2 x3 => ?_⟩ (i7.2.2.2.2.2.2.2.fr fZ (fun t c q h1 h2 => by dsimp only; omega))
        · by_cases e : p = o
          · subst e; exact ⟨Or.inr dZ, fun q => absurd (hXk.symm.trans q) (by decide)⟩
          · rw [fZ _ _ (by dsimp only; omega)]
            have k0 := i7.2.2.2.2.1 c hc p hp
            exact ⟨k0.2.1, fun q => (k0.2.2.2.2.2.1 q).2⟩
        · refine (hrec2 i hi).to (fZ _ _ (by dsimp only; omega)) (fZ _ _ (by dsimp only; omega)) (fZ _ _ (by dsimp only; omega)) (fun ob h1 _ _ h2 h3 => ⟨?_, ?_⟩) (fun ob h1 => ⟨fZ _ _ (by dsimp only; omega), fZ _ _ (by dsimp only; omega)⟩) (fun s ob hs h1 _ _ h2 => ?_)
          · rw [fZ _ _ (by dsimp only; omega)]; exact h2
          · by_cases e : ob = o
            · subst e; exact dZ
            · rw [fZ _ _ (by dsimp only; omega)]; exact h3
          · rw [fZ _ _ (by dsimp only; omega), fZ _ _ (by dsimp only; omega)]; exact h2
        · rw [fZ _ _ (by dsimp only; omega)] at x1 x2
          rw [fZ _ _ (by dsimp only; omega), fZ _ _ (by dsimp only; omega)] at x3
          exact hord2 i j hi hj x1 x2 x3
      refine ⟨0, gset X (33, c, 0) o 1, gset (gset (gset Mr6 m_keptValue (48 * c + o) a3) m_keptSize (48 * c + o) (nI z)) m_dirty (48 * c + o) 1, ?_, ?_, h6.sv ((hX.mo ?_).tr (fZ.mo ?_)) (cf.tr (cf.tr (cf.st ?_) (cf.st ?_)) (cf.st ?_)) rF iZ, ?_⟩
      · unfold f_X1_writeAlone
        simp only [lt_d, jn_d]
        rw [hci, o1_s, if_neg hm1]
        rw [if_true, rd_n ho (by omega), hy2, m1, ob_s, zb_t, if_neg (by decide), if_true, c_setFile ho, o1_s, wz_1 ho (by omega), hXe]
      · unfold rWa
        simp only [lt_d, jn_d, nI_m48, nI_add]
        rw [hri, o1_s, if_neg hm1]
        rw [if_true, r_weight ho, o1_s, hdr, if_pos rfl, r_weightKept hc ho R ⟨y, hy1, hy2⟩, o1_s, hwt, mo1, m2, ob_s, zb_t, if_neg (by decide), wr_n (by omega) (by omega), wr_n (by omega) (by omega), wz_1 (by omega) (by omega), if_true]
      · rintro j q ⟨rfl | rfl, rfl⟩ <;> (unfold uC; dsimp only; omega)
      · intro j q h; unfold uC; omega
      · unfold uR; dsimp only; omega
      · unfold uR; dsimp only; omega
      · unfold uR; dsimp only; omega
      · rw [gset_r, if_neg (by simp), gset_r, if_neg (by simp), gset_r, if_neg (by simp)]; exact e66
end WA
