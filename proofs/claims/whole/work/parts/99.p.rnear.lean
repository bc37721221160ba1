/-! layer 2: a client that is not alone removes -/
def rRn (M27 : gM) (c o x : Nat) : Option (Int64 × gM) := o1 (f_X11_nearSet M27 (nI c)) (fun v30 => o1 (f_X11_setOf M27 v30 (nI o) m_directoryVector) (fun v32 => lt (gset M27 m_o 51 v32) (fun M33 => o1 (f_X11_copyTo M33 m_gotVector (0 : Int32) m_row (0 : Int32)) (fun M35 => o1 (f_X11_putGone M35 (nI o) (nI x)) (fun M37 => rd M37 m_kept 192 (((48 : Int32) * nI c) + nI o) (fun v38 => jn (fun (M39 : gM) => o1 (f_X11_follow M39 (nI c) (nI o)) (fun M41 => o1 (f_X11_forget M41 (nI c) (nI x)) (fun M43 => lt (M43 m_o 51) (fun v44 => o1 (f_X11_endPromises M43 (nI x) v44 (-1 : Int32)) (fun M46 => lt (M46 m_o 51) (fun v47 => o1 (f_X11_manyOf M46 v47) (fun v49 => some (v49.toInt64, M46)))))))) (fun J271 => (if v38 = 0 then J271 M37 else wr M37 m_keptEntry 192 (((48 : Int32) * nI c) + nI x) (2 : Int32) (fun M51 => o1 (f_X11_copyTo M51 m_row (0 : Int32) m_keptGone (((48 : Int32) * nI c) + nI x)) (fun M53 => J271 M53))))))))))
section RN
variable {N g B s o c d x z T n t : Nat} {M M' Mc Mr Mc' Mr' : gM} {row : gI} {v w a1 a2 a3 a4 : Int32}
theorem rEp_comm {i : gI} {k : Nat} (h : i ≠ m_promised) : rEp (gset M i k v) x w a3 = gset (rEp M x w a3) i k v := by
  funext j q
  unfold rEp
  rw [gset_r, gset_r]
  by_cases e : j = i ∧ q = k
  · rw [if_pos e, if_neg (fun z => h (e.1.symm.trans z.1)), if_pos e]
  · rw [if_neg e, if_neg e]
theorem ep_fg (hc : c < 4) (hx : x < 48) : rEp (rFg g M c x) x v (-1 : Int32) = rFg g (rEp M x v (nI c)) c x := by
  have e0 : ∀ q, rEp M x v (nI c) m_parent q = M m_parent q := fun q => if_neg (fun z => absurd z.1 (by decide))
  funext j q
  by_cases j26 : j = m_promised
  · subst j26
    by_cases y : q = 48 * c + x
    · subst y
      rw [rFg_k (Or.inr (Or.inr rfl)) hx hx, if_pos rfl]
      unfold rEp
      rw [rFg_k (Or.inr (Or.inr rfl)) hx hx, if_pos rfl, Int32.zero_and]
      split <;> rfl
    · have e1 : ∀ M : gM, rFg g M c x m_promised q = M m_promised q := fun M => by
        unfold rFg
        rw [if_neg (fun z => y z.2), if_neg (by simp)]
      rw [e1]
      unfold rEp
      rw [e1]
      by_cases u : q < 192 ∧ q % 48 = x
      · rw [if_pos ⟨rfl, u.1, u.2, by rw [nI_m1 (by omega)]; exact id⟩, if_pos ⟨rfl, u.1, u.2, by rw [neq (by omega) (by omega)]; omega⟩]
      · rw [if_neg (fun z => u ⟨z.2.1, z.2.2.1⟩), if_neg (fun z => u ⟨z.2.1, z.2.2.1⟩)]
  · have e1 : ∀ M : gM, rEp M x v (nI c) j q = M j q := fun M => if_neg (fun z => j26 z.1)
    have e2 : rEp (rFg g M c x) x v (-1 : Int32) j q = rFg g M c x j q := if_neg (fun z => j26 z.1)
    rw [e2]
    unfold rFg
    rw [e1, e0]
theorem iLg.rem (hg : g ≤ 47) (h : iLg N g d M) (hN : N ≤ 4) (hc : cf aRm M M') (hk : kRm N x M M') : iLg N g d M' := by
  have e0 : ∀ (j : gI) q, ¬ aRm j q → M' j q = M j q := fun j q z => hc _ _ z
  obtain ⟨n, a, b, d', f, k⟩ := h
  refine ⟨n, a, by rw [e0 _ _ (by unfold aRm; dsimp only; omega)]; exact b, fun h0 o ho => by rw [e0 _ _ (by unfold aRm; dsimp only; omega)]; exact d' h0 o ho, fun i hi => ?_, fun i j hi hj x1 x2 x3 => ?_⟩
  · refine (f i hi).to (e0 _ _ (by unfold aRm; dsimp only; omega)) (e0 _ _ (by unfold aRm; dsimp only; omega)) (e0 _ _ (by unfold aRm; dsimp only; omega)) (fun ob h1 _ _ h2 h3 => ⟨?_, ?_⟩) (fun ob h1 => ⟨e0 _ _ (by unfold aRm; dsimp only; omega), e0 _ _ (by unfold aRm; dsimp only; omega)⟩) (fun s ob hs h1 k1 k2 h2 => ⟨hk.2.1 s hs ob h2.1, hk.2.2 s hs ob h2.2⟩)
    · rw [e0 _ _ (by unfold aRm; dsimp only; omega)]; exact h2
    · rw [e0 _ _ (by unfold aRm; dsimp only; omega)]; exact h3
  · rw [e0 _ _ (by unfold aRm; dsimp only; omega)] at x1 x2
    rw [e0 _ _ (by unfold aRm; dsimp only; omega), e0 _ _ (by unfold aRm; dsimp only; omega)] at x3
    exact k i j hi hj x1 x2 x3
theorem cGn_k : cf (fun j q => (j = (56, 4 + c, 0) ∧ q = x) ∨ (j.1 = 58 ∧ 4 ≤ j.2.1)) M (cGn N M (4 + c) x row) := by
  unfold cGn
  exact (cf.st (Or.inl ⟨rfl, rfl⟩)).tr (cf.pu (fun _ _ _ => Or.inr ⟨rfl, by dsimp only; omega⟩))
theorem remove_near (hN : N ≤ 4) (hc : c < 4) (hog : o ≤ g) (hx1 : 1 ≤ x) (hxg : x ≤ g) (hox : o ≠ x) (h : CI N g B c 48 Mc Mr) (hho : Mc (51, 4 + c, 0) o = 1) (hdv : ∀ k, k < N + 4 → Mr m_directoryVector k = Mc (55, 4 + c, o) k) (G : Got N g c x Mc Mr) (hp : Mc (2, 0, 0) x = nI o) (hlog : Mc (40, c, 0) 4 = 0) : ∃ v Mc' Mr', f_X10_removeNear N Mc c (nI o) (nI x) = some (v, Mc') ∧ rRn Mr c o x = some (v, Mr') ∧ CI N g B c 48 Mc' Mr' ∧ Mr' m_o 66 = Mr m_o 66 := by
  obtain ⟨R, I, U, O, W⟩ := id h
  have hg := I.1.1
  have ho : o < 48 := by omega
  have hx : x < 48 := by omega
  obtain ⟨s1, s2⟩ := set_eq (v := cNr N Mc c) (row := (55, 4 + c, o)) (row' := m_directoryVector) hN ho R I (cN55 _ _ _) (by decide) (by decide) hdv
  obtain ⟨V, hV⟩ : ∃ V, V = hSet N Mc (cNr N Mc c) o (55, 4 + c, o) := ⟨_, rfl⟩
  have hVn : V &&& cNr N Mc c = V := by rw [hV]; exact hSet_n hN
  have hVb : ∀ s, s < N → bt V s = true → Mc (51, s, 0) o = 1 := fun s hs hb => by
    rw [hV] at hb
    exact (I.2.2.1 s hs o ho).1.resolve_left (hSet_b hN hb).2.2.1
  obtain ⟨fV, hfV⟩ : ∃ f, V = sS f N := ⟨_, hV⟩
  rw [← hV] at s1 s2
  have hcp : f_X11_copyTo (gset Mr m_o 51 V) m_gotVector (0 : Int32) m_row (0 : Int32) = some (gpu (gset Mr m_o 51 V) m_row (8 * 0) 8 (fun k => gset Mr m_o 51 V m_gotVector (8 * 0 + k))) := r_copyTo (i := 0) (j := 0) (by decide) (by decide) (by decide) (by decide)
  have f1 : cf (fun j q => (j.1 = 0 ∧ q = 51) ∨ j.1 = 45) Mr (gpu (gset Mr m_o 51 V) m_row (8 * 0) 8 (fun k => gset Mr m_o 51 V m_gotVector (8 * 0 + k))) := (cf.st (Or.inl ⟨rfl, rfl⟩)).tr (cf.pu (fun _ _ _ => Or.inr rfl))
  have v1 : ∀ k, k < 8 → gpu (gset Mr m_o 51 V) m_row (8 * 0) 8 (fun k => gset Mr m_o 51 V m_gotVector (8 * 0 + k)) m_row k = Mr m_gotVector k := fun k hk => by
    rw [gpu_r, if_pos ⟨rfl, by omega, by omega⟩, gset_r, if_neg (by simp), show 8 * 0 + (k - 8 * 0) = k by omega]
  have e51 : gpu (gset Mr m_o 51 V) m_row (8 * 0) 8 (fun k => gset Mr m_o 51 V m_gotVector (8 * 0 + k)) m_o 51 = V := by
    rw [gpu_ne (by decide), gset_r, if_pos ⟨rfl, rfl⟩]
  obtain ⟨Mr1, hMr1⟩ : ∃ X, X = gpu (gset Mr m_o 51 V) m_row (8 * 0) 8 (fun k => gset Mr m_o 51 V m_gotVector (8 * 0 + k)) := ⟨_, rfl⟩
  rw [← hMr1] at hcp f1 v1 e51
  have R1 : Rel N g Mc Mr1 := R.fr hN (cf.rf _ _) (f1.mo (fun j q h => by unfold rsc; omega))
  obtain ⟨Mc2, Mr2, w1, w2, r2, j2, h51, cm1, cm2, km⟩ := rem_step (x := x) (v := V) (o := o) (row := (55, 4 + c, x)) (J := fun M1 => o1 (f_X11_phases M1 (nI o)) (fun M3 => some M3)) hN hx1 hxg ho hox R1 I.j e51 hp hVb (cN55 _ _ _) (Or.inr ⟨rfl, by dsimp only; omega⟩) (fun k hk => by rw [v1 k (by omega)]; exact G.2.1 k hk)
  have i2 : Inv N g Mc2 := j2.up (fun d hd => (I.2.2.2.2.2.2.1 d hd).rem hg hN cm1 km) (I.2.2.2.2.2.2.2.fr cm1 (fun t c q a b => by unfold aRm; dsimp only; omega))
  obtain ⟨l, Mc3, Mr3, p1, p2, r3, i3, h52, cp1, cp2⟩ := phases_step (v := V) hN ho r2 i2 h51 (fun s hs hb => by rw [km.1 s hs o hox]; exact hVb s hs hb)
  have hP : f_X11_putGone Mr1 (nI o) (nI x) = some Mr3 := by
    unfold f_X11_putGone
    rw [jn_d, w2, p2, o1_s]
  have h51' : Mr3 m_o 51 = V := by rw [cp2 _ _ (by unfold bPh; dsimp only; omega)]; exact h51
  have fA : cf (fun j q => aRm j q ∨ aPh o j q) Mc Mc3 := (cm1.mo (fun j q h => Or.inl h)).tr (cp1.mo (fun j q h => Or.inr h))
  have nr3 : cNr N Mc3 c = cNr N Mc c := cNr.fr hN fA (by unfold aRm aPh; dsimp only; omega) (fun q _ => by unfold aRm aPh; dsimp only; omega)
  have hh3 : Mr3 m_kept (48 * c + o) = 1 := by rw [← (r3.kl hc ho).1, fA _ _ (by unfold aRm aPh; dsimp only; omega)]; exact hho
  -- the reference's row of the removed entry, which no answer rests on
  obtain ⟨Mr4, hMr4⟩ : ∃ X, X = gpu Mr3 m_keptGone (8 * (48 * c + x)) 8 (fun k => Mr3 m_row k) := ⟨_, rfl⟩
  have f4 : cf (fun j q => j.1 = 31) Mr3 Mr4 := by rw [hMr4]; exact cf.pu (fun _ _ _ => rfl)
  have r4 : Rel N g Mc3 Mr4 := r3.fr hN (cf.rf _ _) (f4.mo (fun j q h => by unfold rsc; omega))
  obtain ⟨Mc5, q1, r5, i5, c5, -⟩ := fin_step (v := V) (l := l) hN hc ho r4 i3 (by rw [f4 _ _ (by decide)]; exact h51') (by rw [f4 _ _ (by decide)]; exact h52) (by rw [nr3]; exact hVn)
  have e5 : ∀ j q, aFl c o j q → (j.1 = 32 ∧ q = o) ∨ (j.1 = 55 ∧ j.2.1 = 4 + c ∧ j.2.2 = o) := fun j q h => h.elim Or.inl (fun h => Or.inr (by rw [h]; exact ⟨rfl, rfl, rfl⟩))
  have c5' := c5.mo e5
  obtain ⟨Mc6, Mr6, g1, g2, r6, i6, c6, d6⟩ := endsO_step (v := V) hN hx hc r5 i5
  rw [r_ends hx] at g2
  have g2 := Option.some.inj g2
  have hh6 : Mc6 (51, 4 + c, 0) o = 1 := by rw [c6 _ _ (by dsimp only; omega), c5' _ _ (by dsimp only; omega), fA _ _ (by unfold aRm aPh; dsimp only; omega)]; exact hho
  have hl6 : Mc6 (40, c, 0) 4 = 0 := by rw [c6 _ _ (by dsimp only; omega), c5' _ _ (by dsimp only; omega), fA _ _ (by unfold aRm aPh; dsimp only; omega)]; exact hlog
  have fT := cGn_k (N := N) (c := c) (x := x) (M := Mc6) (row := (55, 4 + c, x))
  have r7 : Rel N g (cGn N Mc6 (4 + c) x (55, 4 + c, x)) (gset Mr6 m_keptEntry (48 * c + x) 2) := kent hN hc hx r6 fT cGn_v.1 ((cf.st (A := fun j q => j = m_keptEntry ∧ q = 48 * c + x) ⟨rfl, rfl⟩).mo (fun j q h => Or.inl h)) (by rw [gset_r, if_pos ⟨rfl, rfl⟩])
  have i7 : Inv N g (cGn N Mc6 (4 + c) x (55, 4 + c, x)) := kent_inv hN hc hx1 hxg i6 fT cGn_v.1 (Or.inr (Or.inr rfl))
  have fT' : cf (fun j q => j.1 = 56 ∨ j.1 = 58) Mc6 (cGn N Mc6 (4 + c) x (55, 4 + c, x)) := fT.mo (fun j q h => h.elim (fun h => Or.inl (by rw [h.1])) (fun h => Or.inr h.1))
  have h7 : CI N g B c 48 (cGn N Mc6 (4 + c) x (55, 4 + c, x)) (gset Mr6 m_keptEntry (48 * c + x) 2) := by
    refine h.sv ((((fA.mo (fun j q z => ?_)).tr (c5'.mo (fun j q z => ?_))).tr (c6.mo (fun j q z => ?_))).tr (fT'.mo (fun j q z => ?_))) (((((((f1.mo (fun j q z => ?_)).tr (cm2.mo (fun j q z => ?_))).tr (cp2.mo (fun j q z => ?_))).tr (f4.mo (fun j q z => ?_))).tr (rFl_fr.mo (fun j q z => ?_))).tr (d6.mo (fun j q z => ?_))).tr (cf.st ?_)) r7 i7
    · revert z; unfold aRm aPh uC; omega
    · revert z; unfold uC; omega
    · revert z; unfold uC; omega
    · revert z; unfold uC; omega
    · revert z; unfold uR; omega
    · revert z; unfold bRm uR; omega
    · revert z; unfold bPh uR; omega
    · revert z; unfold uR; omega
    · revert z; unfold uR; omega
    · have := z.1; unfold uR; omega
    · unfold uR; dsimp only; omega
  obtain ⟨Mc7, hMc7⟩ : ∃ X, X = cGn N Mc6 (4 + c) x (55, 4 + c, x) := ⟨_, rfl⟩
  rw [← hMc7] at r7 i7 h7 fT'
  have hl7 : Mc7 (40, c, 0) 4 = 0 := by rw [fT' _ _ (by dsimp only; omega)]; exact hl6
  have h13 : Mc7 (1, 0, 0) 3 = nI g := r7.ct.1
  have r8 := rel_cdrop hN hc hx r7 i7.1
  have i8 : Inv N g (cDp N g Mc7 c x) := inv_cdrop hN hc hx i7 (fun i hi hl => by
    rw [hl7] at hl
    exact absurd hl (nI_pos (by omega)))
  have hF : f_X10_finishNear N Mc2 c V (nI o) = some Mc5 := by
    unfold f_X10_finishNear
    rw [p1, ob_s]
    exact q1
  have hD : f_X1_dropRemoved N Mc6 c (nI o) (nI x) = some (cDp N g Mc7 c x) := by
    unfold f_X1_dropRemoved
    rw [rd_n ho (by omega), hh6, jn_d, if_neg (by decide), ix_n hx (by omega), c_setGone hN hx (cN55 _ _ _) (by simp), o1_s, ← hMc7]
    dsimp only
    rw [c_drop1 hN h13 hg hx, o1_s]
  have hbc : ∀ M12, f_J6_bitCount_0f7a4 N M12 V = some (nI (cntF fV 0 N)) := fun M12 => by rw [hfV]; exact c_bits hN
  have hmc : ∀ M12, f_X11_manyOf M12 V = some (nI (cntF fV 0 N)) := fun M12 => by rw [hfV]; exact r_many hN
  have hcg : f_X11_copyTo (gset Mr3 m_keptEntry (48 * c + x) 2) m_row (0 : Int32) m_keptGone (nI (48 * c + x)) = some (gset Mr4 m_keptEntry (48 * c + x) 2) := by
    refine (r_copyTo (i := 0) (by decide) (by show _ ≤ 1536; omega) (by decide) (by decide)).trans ?_
    rw [hMr4, gset_gpu (by simp)]
    congr 1
    refine gpu_congr (fun k _ => ?_)
    rw [gset_r, if_neg (by simp), show 8 * 0 + k = k by omega]
  have hfin : rEp (rFg g (rFl N (gset Mr4 m_keptEntry (48 * c + x) 2) c o) c x) x V (-1 : Int32) = rFg g (gset Mr6 m_keptEntry (48 * c + x) 2) c x := by
    rw [ep_fg hc hx, rFl_comm (by decide) (by decide) (by decide) (by decide) (by decide), rEp_comm (by decide), g2]
  have n4 : (gset Mr4 m_keptEntry (48 * c + x) 2) m_o 0 = nI N := by rw [gset_r, if_neg (by simp)]; exact r4.n0
  have n6 : rFl N (gset Mr4 m_keptEntry (48 * c + x) 2) c o m_o 6 = nI (g + 1) := by rw [rFl_n (by decide) (by decide), gset_r, if_neg (by simp)]; exact r4.ct.2.1
  have n51 : rFg g (rFl N (gset Mr4 m_keptEntry (48 * c + x) 2) c o) c x m_o 51 = V := by
    rw [rFg_fr hg _ _ (by dsimp only; omega), rFl_n (by decide) (by decide), gset_r, if_neg (by simp), f4 _ _ (by decide)]; exact h51'
  have n51' : rFg g (gset Mr6 m_keptEntry (48 * c + x) 2) c x m_o 51 = V := by
    rw [← hfin]
    refine Eq.trans (if_neg (fun z => absurd z.1 (by decide))) n51
  refine ⟨(nI (cntF fV 0 N)).toInt64, cDp N g Mc7 c x, rFg g (gset Mr6 m_keptEntry (48 * c + x) 2) c x, ?_, ?_, ⟨r8, i8, usd_cdrop h7.2.2.1 hg, all_cdrop h7.2.2.2.1 hg, now_cdrop h7.2.2.2.2 hg⟩, ?_⟩
  · unfold f_X10_removeNear
    simp only [lt_d]
    rw [R.1.2.2.1 c hc, c_nearClient R.1.2.1 hN hc, o1_s, ix_n ho (by omega), s1, o1_s, ix_n hx (by omega), w1, o1_s, hF, o1_s, g1, o1_s, hD, o1_s, hbc, o1_s]
  · unfold rRn
    simp only [lt_d, jn_d, nI_m48, nI_add]
    rw [r_nearSet R.n0 hN hc, o1_s, R.nr hN hc, s2, o1_s, hcp, o1_s, hP, o1_s, rd_n (by omega) (by omega), hh3, if_neg (by decide), wr_n (by omega) (by omega), hcg, o1_s, r_follow n4 hN hc ho, o1_s, r_forget n6 hg hc hx, o1_s, n51, r_ends hx, o1_s, hfin, n51', hmc, o1_s]
  · rw [rFg_fr hg _ _ (by dsimp only; omega), gset_r, if_neg (by simp), d6 _ _ (by simp), rFl_n (by decide) (by decide), f4 _ _ (by decide), cp2 _ _ (by unfold bPh; dsimp only; omega), cm2 _ _ (by unfold bRm; dsimp only; omega), f1 _ _ (by dsimp only; omega)]
end RN
