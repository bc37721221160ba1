/-! layer 2: a record of a written file is handed in -/
def kH (N x : Nat) (M M' : gM) : Prop := ∀ s, s < N → ∀ p, p ≠ x → (M (51, s, 0) p = 0 → M' (51, s, 0) p = 0) ∧ (¬ M (56, s, 0) p = 1 → ¬ M' (56, s, 0) p = 1)
def HS (N g : Nat) (Mc Mr Mc' Mr' : gM) : Prop := Rel N g Mc' Mr' ∧ JInv N g Mc' ∧ cf HC Mc Mc' ∧ cf HR Mr Mr'
section HW2
variable {N g B s o c d x z T n t l i : Nat} {M M' Mc Mr Mc' Mr' : gM} {row : gI} {v w nr a1 a2 a3 a4 : Int32}
theorem kH_eq (h : ∀ s, s < N → ∀ p, M' (51, s, 0) p = M (51, s, 0) p ∧ M' (56, s, 0) p = M (56, s, 0) p) : kH N x M M' := fun s hs p _ => by
  rw [(h s hs p).1, (h s hs p).2]; exact ⟨id, id⟩
/-- one more is lost (2), or refused (3) -/
theorem lostS {k : Nat} (hN : N ≤ 4) (hk : k = 2 ∨ k = 3) (R : Rel N g Mc Mr) (I : JInv N g Mc) (hr : cf HR Mr Mr') (R' : Rel N g Mc Mr') : HS N g Mc Mr (gset Mc (9, 0, 0) k (Mc (9, 0, 0) k + 1)) (gset Mr' m_o (44 + k) (Mr' m_o (44 + k) + 1)) ∧ ∀ x, kH N x Mc (gset Mc (9, 0, 0) k (Mc (9, 0, 0) k + 1)) := by
  obtain ⟨q1, q2⟩ := lost_step (k := k) hN (by omega) (by omega) R' I
  refine ⟨⟨q1, q2, cf.st (by unfold HC; dsimp only; omega), hr.tr (cf.st (by unfold HR; dsimp only; omega))⟩, fun x => kH_eq (fun s _ p => ⟨gset_o (by simp), gset_o (by simp)⟩)⟩
theorem hvl {y : Nat} (hN : N ≤ 4) (hc : c < 4) (hl : l < N) (hx : x < 48) (R : Rel N g Mc Mr) (I : JInv N g Mc) (e2 : Mc (11, 0, 0) 2 = nI c) (e4 : Mc (11, 0, 0) 4 = nI l) (hh : Mc (51, l, 0) x = 1) (hd : Mc (4, 0, 0) x = 0) (hk : Mc (51, 4 + c, 0) x = 1) (hy : y ≤ 6 ∧ Mc (53, 4 + c, 0) x = nI y) (hr : row.1 = 45) (hrN : cN N row = N + 4) (hrow : ∀ k, k < N + 4 → Mr m_row k = Mc row k) : ∃ Mc' Mr', f_X2_handInVersion N Mc l (nI x) row = some Mc' ∧ (if Mr m_versions (48 * l + x) = 6 then some (gset Mr m_o 46 (Mr m_o 46 + 1)) else rHv Mr c l x) = some Mr' ∧ HS N g Mc Mr Mc' Mr' ∧ ∀ x, kH N x Mc Mc' := by
  obtain ⟨-, n, n6, hn, -, -⟩ := I.2.2.2.1 l hl x hx
  have hnr : Mr m_versions (48 * l + x) = nI n := by rw [← (R.sv hl hx).dd.1]; exact hn
  have hc6 : cMost (48 * l + x) = 6 := cMost_lt (by omega)
  by_cases hf : n = 6
  · subst hf
    obtain ⟨q1, q2⟩ := lostS (k := 2) hN (Or.inl rfl) R I (cf.rf _ _) R
    refine ⟨_, _, ?_, if_pos hnr, q1, q2⟩
    unfold f_X2_handInVersion
    rw [ix_n hx (by omega), c_isFull9 hn (by rw [hc6]; omega) (by rw [hc6]; omega), hc6, if_neg (by omega), o1_s, if_neg (by decide)]
    rfl
  · obtain ⟨Mc', Mr', q1, q2, q3, q4, q5, q6, q7⟩ := hversion hN hc hl hx R I e2 e4 hn (by omega) hh hd hk hy hr hrN hrow
    exact ⟨Mc', Mr', q1, by rw [if_neg (by rw [hnr]; intro e; exact hf ((nI_eq (b := 6) (by omega) (by omega)).1 e))]; exact q2, ⟨q3, q4, q5, q6⟩, fun x => kH_eq q7⟩
theorem hw_step (hN : N ≤ 4) (hc : c < 4) (hl : l < N) (hx : x < 48) (hi : i < 12) (R : Rel N g Mc Mr) (I : JInv N g Mc) (e2 : Mc (11, 0, 0) 2 = nI c) (e3 : Mc (11, 0, 0) 3 = nr) (e4 : Mc (11, 0, 0) 4 = nI l) (hil : nI i < Mc (40, c, 0) 4) (hd : Mc (4, 0, 0) x = 0) (hk : Mc (51, 4 + c, 0) x = 1) : ∃ Mc' Mr', f_X2_handInWrite N Mc (nI x) (45, c, i) = some Mc' ∧ f_X11_handWrite Mr (nI c) (nI (12 * c + i)) (nI x) (nI l) nr = some Mr' ∧ HS N g Mc Mr Mc' Mr' ∧ ∀ x, kH N x Mc Mc' := by
  have ha := (R.sv hl hx).a
  by_cases hh0 : Mc (51, l, 0) x = 0
  · obtain ⟨q1, q2⟩ := lostS (k := 2) hN (Or.inl rfl) R I (cf.rf _ _) R
    refine ⟨_, _, ?_, ?_, q1, q2⟩
    · unfold f_X2_handInWrite
      rw [lt_d, e4, ix_n hl (by omega), rd_n hx (by omega), hh0, if_pos rfl]
      rfl
    · unfold f_X11_handWrite
      rw [nI_m48, nI_add, lt_d, rd_n (by omega) (by omega), ← ha.1, hh0, if_pos rfl]
      rfl
  have hh : Mc (51, l, 0) x = 1 := (I.2.2.1 l hl x hx).1.resolve_left hh0
  obtain ⟨y, hy⟩ := (I.2.2.2.2.1 c hc x hx).2.2.2.2.2.2.2.1
  obtain ⟨-, n, n6, hn, -, -⟩ := I.2.2.2.1 l hl x hx
  have hnr : Mr m_versions (48 * l + x) = nI n := by rw [← (R.sv hl hx).dd.1]; exact hn
  have hdr : Mr m_isDirectory x = 0 := by rw [← (R.ct.2.2 x hx).2.2]; exact hd
  have hhr : ¬ Mr m_has (48 * l + x) = 0 := by rw [← ha.1, hh]; decide
  have hkl := R.kl hc hx
  have hkr : ¬ Mr m_kept (48 * c + x) = 0 := by rw [← hkl.1, hk]; decide
  have hkv : Mc (52, 4 + c, 0) x = Mr m_keptValue (48 * c + x) := by rw [hkl.2.1, if_neg (fun z => z.elim hkr (fun z => z hdr))]
  have hks : Mc (53, 4 + c, 0) x = Mr m_keptSize (48 * c + x) := by rw [hkl.2.2.1, if_neg (fun z => z.elim hkr (fun z => z hdr))]
  obtain ⟨l1, l2, l3⟩ := R.lg hc
  obtain ⟨-, -, -, hrv⟩ := l3 i hi (by rw [← l1]; exact hil)
  obtain ⟨Ra, hRa⟩ : ∃ X, X = gpu Mr m_row 0 8 (fun k => Mr m_recordVector (8 * (12 * c + i) + k)) := ⟨_, rfl⟩
  have fRa : cf (fun j q => j.1 = 45) Mr Ra := by rw [hRa]; exact cf.pu (fun _ _ _ => rfl)
  have RRa : Rel N g Mc Ra := R.fr hN (cf.rf _ _) (fRa.mo (fun j q h => by unfold rsc; omega))
  have hrow : ∀ k, k < N + 4 → Ra m_row k = Mc (45, c, i) k := fun k hk => by
    rw [hRa, gpu_r, if_pos ⟨rfl, by omega, by omega⟩, show k - 0 = k by omega]; exact (hrv k hk).symm
  have hcp : f_X11_copyTo Mr m_recordVector (nI (12 * c + i)) m_row (0 : Int32) = some Ra := by
    rw [hRa]; exact r_copyTo0 (by show _ ≤ 384; omega) (by decide) (by decide) (by decide)
  have eRa : ∀ (j : gI) q, j.1 ≠ 45 → Ra j q = Mr j q := fun j q h => fRa _ _ h
  have HRa : cf HR Mr Ra := fRa.mo (fun j q h => by unfold HR; omega)
  -- a version
  have ver : ∃ Mc' Mr', f_X2_handInVersion N Mc l (nI x) (45, c, i) = some Mc' ∧ (rd Ra m_versions 192 (nI (48 * l + x)) (fun v10 => (if v10 = (6 : Int32) then lt (Ra m_o 46) (fun v43 => lt (gset Ra m_o 46 (v43 + (1 : Int32))) (fun M44 => some M44)) else rHv Ra c l x))) = some Mr' ∧ HS N g Mc Mr Mc' Mr' ∧ ∀ x, kH N x Mc Mc' := by
    obtain ⟨Mc', Mr', q1, q2, ⟨q3, q4, q5, q6⟩, q7⟩ := hvl hN hc hl hx RRa I e2 e4 hh hd hk hy rfl (cN45 _ _ _) hrow
    exact ⟨Mc', Mr', q1, by rw [rd_n (by omega) (by omega)]; exact q2, ⟨q3, q4, q5, HRa.tr q6⟩, q7⟩
  have head : f_X2_handInWrite N Mc (nI x) (45, c, i) = (if zb (nz (nI n)) = 0 then ix (nI x) 48 (fun v11 => o1 (f_X10_isSame N Mc (55, l, v11) (45, c, i)) (fun v13 => (if v13 = 0 then o1 (f_X2_handInVersion N Mc l (nI x) (45, c, i)) (fun M9 => some M9) else lt (Mc (11, 0, 0) 3) (fun v15 => o1 (f_X6_holdersOf N Mc v15 (nI x) (45, c, i)) (fun v17 => ix (Mc (11, 0, 0) 2) 4 (fun v18 => rd Mc (52, (4 + v18), 0) 48 (nI x) (fun v19 => ix (Mc (11, 0, 0) 2) 4 (fun v20 => rd Mc (53, (4 + v20), 0) 48 (nI x) (fun v21 => o1 (f_X6_writeAt N Mc v17 (nI x) v19 v21) (fun M23 => ob (f_X6_countAct N M23 v17 (nI x)) (fun v26 M25 => o1 (f_X6_endPromises N M25 v17 (nI x)) (fun M28 => some M28)))))))))))) else o1 (f_X2_handInVersion N Mc l (nI x) (45, c, i)) (fun M9 => some M9)) := by
    unfold f_X2_handInWrite
    rw [lt_d, e4, ix_n hl (by omega), rd_n hx (by omega), if_neg hh0, c_isInConflict hx hn n6, o1_s, jn_d, hn]
  have headR : f_X11_handWrite Mr (nI c) (nI (12 * c + i)) (nI x) (nI l) nr = (if nI n = 0 then o1 (f_X11_isSame Ra m_vector (nI (48 * l + x)) m_row (0 : Int32)) (fun v47 => (if v47 = 0 then (rd Ra m_versions 192 (nI (48 * l + x)) (fun v10 => (if v10 = (6 : Int32) then lt (Ra m_o 46) (fun v43 => lt (gset Ra m_o 46 (v43 + (1 : Int32))) (fun M44 => some M44)) else rHv Ra c l x))) else o1 (f_X11_setOf Ra nr (nI x) m_row) (fun v50 => lt (gset Ra m_o 51 v50) (fun M51 => o1 (f_X11_putValue M51 (nI x) (Mr m_keptValue (48 * c + x)) (Mr m_keptSize (48 * c + x))) (fun M53 => lt (M53 m_o 51) (fun v54 => o1 (f_X11_endPromises M53 (nI x) v54 (-1 : Int32)) (fun M56 => some M56))))))) else (rd Ra m_versions 192 (nI (48 * l + x)) (fun v10 => (if v10 = (6 : Int32) then lt (Ra m_o 46) (fun v43 => lt (gset Ra m_o 46 (v43 + (1 : Int32))) (fun M44 => some M44)) else rHv Ra c l x)))) := by
    unfold f_X11_handWrite rHv
    simp only [nI_m48, nI_add]
    rw [lt_d, rd_n (by omega) (by omega), if_neg hhr, hcp, o1_s, rd_n (by omega) (by omega), rd_n (by omega) (by omega), rd_n (by omega) (by omega), eRa m_keptValue _ (by decide), eRa m_keptSize _ (by decide), eRa m_versions _ (by decide), hnr]
    rfl
  rw [head, headR]
  by_cases h0 : n = 0
  · subst h0
    have hsr : f_X11_isSame Ra m_vector (nI (48 * l + x)) m_row (0 : Int32) = some (zb (rEq (Mc (55, l, x)) (Mc (45, c, i)) 0 (N + 4))) := by
      refine (r_isSame (j := 0) RRa.n1 (by omega) (by show _ ≤ 1536; omega) (by decide) (by decide) (by decide)).trans ?_
      exact congrArg (fun b => some (zb b)) (rEq_congr (fun k hk => (RRa.row hl hx (by rw [hh]; decide) hk).symm) (fun k hk => (congrArg (Ra m_row) (by omega : 8 * 0 + k = k)).trans (hrow k hk)))
    have hz0 : zb (nz (nI 0)) = 0 := by rw [zb_z, nz_f]; rfl
    rw [if_pos hz0, if_pos (show nI 0 = 0 from rfl), ix_n hx (by omega), c_isSame (cN55 _ _ _) (cN45 _ _ _) (by omega), o1_s, hsr, o1_s]
    by_cases hs : zb (rEq (Mc (55, l, x)) (Mc (45, c, i)) 0 (N + 4)) = 0
    · rw [if_pos hs, if_pos hs]
      obtain ⟨Mc', Mr', q1, q2, q3⟩ := ver
      exact ⟨Mc', Mr', by rw [q1, o1_s], q2, q3⟩
    · rw [if_neg hs, if_neg hs]
      obtain ⟨s1, s2⟩ := set_eqJ (v := nr) (row := (45, c, i)) (row' := m_row) hN hx RRa I (cN45 _ _ _) (by decide) (by decide) hrow
      obtain ⟨V, hV⟩ : ∃ V, V = hSet N Mc nr x (45, c, i) := ⟨_, rfl⟩
      have hVb : ∀ s, bt V s = true → s < N ∧ ¬ Mc (51, s, 0) x = 0 ∧ Mc (60, 48 * s + x, 0) 3 = 0 := fun s hs => by
        rw [hV] at hs
        obtain ⟨k1, k2, k3, k4⟩ := hSet_b hN hs
        exact ⟨k1, k3, k4⟩
      rw [← hV] at s1 s2
      obtain ⟨Mc1, Mr1, w1, w2, r1, i1, h51, cw1, cw2⟩ := write_stepJ (v := V) (w := Mc (52, 4 + c, 0) x) (J := fun M1 => o1 (f_X11_phases M1 (nI x)) (fun M3 => some M3)) hN hx hy.1 (RRa.sc (v := V) hN rsc51) I (by rw [gset_r, if_pos ⟨rfl, rfl⟩]) hd (fun s _ hb => (hVb s hb).2)
      obtain ⟨l', Mc2, Mr2, p1, p2, r2, i2, h52, cp1, cp2⟩ := phases_stepJ (v := V) hN hx r1 i1 h51 (fun s hs hb => by
        rw [cw1 _ _ (by unfold aWr; dsimp only; omega)]
        exact (I.2.2.1 s hs x hx).1.resolve_left (hVb s hb).2.1)
      have h51' : Mr2 m_o 51 = V := by rw [cp2 _ _ (by unfold bPh; dsimp only; omega)]; exact h51
      obtain ⟨Mc3, Mr3, g1, g2, r3, i3, c3, d3⟩ := ends_stepJ (v := V) hN hx r2 i2
      refine ⟨Mc3, Mr3, ?_, ?_, ⟨r3, i3, ((cw1.mo (fun j q h => ?_)).tr (cp1.mo (fun j q h => ?_))).tr (c3.mo (fun j q h => ?_)), (((HRa.tr (cf.st ?_)).tr (cw2.mo (fun j q h => ?_))).tr (cp2.mo (fun j q h => ?_))).tr (d3.mo (fun j q h => ?_))⟩, fun x' => kH_eq (fun s hs p => ⟨?_, ?_⟩)⟩
      · rw [lt_d, e3, s1, o1_s, e2, ix_n hc (by omega), rd_n hx (by omega), ix_n hc (by omega), rd_n hx (by omega), hy.2, w1, o1_s, p1, ob_s, g1, o1_s]
      · have hP : f_X11_putValue (gset Ra m_o 51 V) (nI x) (Mr m_keptValue (48 * c + x)) (Mr m_keptSize (48 * c + x)) = some Mr2 := by
          unfold f_X11_putValue
          rw [jn_d, ← hkv, ← hks, hy.2, w2, p2, o1_s]
        rw [s2, o1_s, lt_d, hP, o1_s, lt_d, h51', g2, o1_s]
      · revert h; unfold aWr HC aSv; omega
      · revert h; unfold aPh HC aSv; omega
      · unfold HC; omega
      · unfold HR; dsimp only; omega
      · revert h; unfold bWr HR bSv; omega
      · revert h; unfold bPh HR bSv; omega
      · unfold HR; omega
      · rw [c3 _ _ (by dsimp only; omega), cp1 _ _ (by unfold aPh; dsimp only; omega), cw1 _ _ (by unfold aWr; dsimp only; omega)]
      · rw [c3 _ _ (by dsimp only; omega), cp1 _ _ (by unfold aPh; dsimp only; omega), cw1 _ _ (by unfold aWr; dsimp only; omega)]
  · have hz : ¬ nI n = 0 := by rw [nI_z (by omega)]; exact h0
    rw [if_neg (by rw [zb_z, nz_f]; exact hz), if_neg hz]
    obtain ⟨Mc', Mr', q1, q2, q3⟩ := ver
    exact ⟨Mc', Mr', by rw [q1, o1_s], q2, q3⟩
end HW2
