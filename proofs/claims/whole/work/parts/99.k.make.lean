/-! layer 2: make -/
def rMn (M16 : gM) (c o : Nat) (a3 a4 : Int32) : Option (Int64 × gM) := o1 (f_X11_nearSet M16 (nI c)) (fun v23 => o1 (f_X11_setOf M16 v23 (nI o) m_gotVector) (fun v25 => lt (gset M16 m_o 51 v25) (fun M26 => ob (f_X11_newObject M26 (nI o) a3 a4) (fun v29 M28 => o1 (f_X11_putEntry M28 (nI o) v29) (fun M31 => rd M31 m_kept 192 (((48 : Int32) * (nI c)) + (nI o)) (fun v32 => jn (fun (M33 : gM) => o1 (f_X11_follow M33 (nI c) (nI o)) (fun M35 => o1 (f_X11_weight M35 v29 (0 : Int32)) (fun v37 => ob (f_X11_makeRoom M35 (nI c) v37 v29 (10 : Int32)) (fun v40 M39 => (if v40 = 0 then some (v29.toInt64, M39) else o1 (f_X11_keepNew M39 (nI c) v29) (fun M43 => lt (M43 m_o 51) (fun v44 => wr M43 m_promised 192 (((48 : Int32) * (nI c)) + v29) v44 (fun M45 => some (v29.toInt64, M45))))))))) (fun J191 => (if v32 = 0 then J191 M31 else wr M31 m_keptEntry 192 (((48 : Int32) * (nI c)) + v29) (1 : Int32) (fun M47 => J191 M47)))))))))
section MK
variable {N g B s o c d x z T n t : Nat} {M M' Mc Mr Mc' Mr' : gM} {v w a1 a2 a3 a4 : Int32}
theorem may_un {be : Int32} (h : M (51, 4 + c, 0) x = 0) : cMay M c be x = false := by
  unfold cMay nz
  rw [decide_eq_false (fun z => z h)]
  rfl
theorem new_mo (h4 : a4 = 0 ∨ a4 = 1) : ∃ q : Nat, (if a4 = 0 then (1 : Int32) + 0 else 2) = nI q ∧ (nI q).toInt = (q : Int) ∧ q = (if a4 = 0 then 1 else 2) ∧ q ≤ 2 := by
  rcases h4 with rfl | rfl
  · exact ⟨1, rfl, by decide, rfl, by decide⟩
  · exact ⟨2, rfl, by decide, rfl, by decide⟩
theorem make_near (hN : N ≤ 4) (hc : c < 4) (hog : o ≤ g) (hg47 : g < 47) (hB : B ≤ 890000) (h : CI N g B c 48 Mc Mr) (hh : Mc (51, 4 + c, 0) o = 1) (G : Got N g c o Mc Mr) (hd : Mc (4, 0, 0) o = 1) (h4 : a4 = 0 ∨ a4 = 1) : ∃ v Mc' Mr', f_X10_makeNear N Mc c (nI o) a3 a4 = some (v, Mc') ∧ rMn Mr c o a3 a4 = some (v, Mr') ∧ CI N (g + 1) (B + 2) c 48 Mc' Mr' ∧ Mr' m_o 66 = Mr m_o 66 := by
  obtain ⟨R, I, U, O, W⟩ := id h
  have ho : o < 48 := by omega
  have hx : g + 1 < 48 := by omega
  obtain ⟨s1, s2⟩ := set_eq (v := cNr N Mc c) (row := (55, 4 + c, o)) (row' := m_gotVector) hN ho R I (cN55 _ _ _) (by decide) (by decide) (fun k hk => G.2.1 k hk)
  obtain ⟨V, hV⟩ : ∃ V, V = hSet N Mc (cNr N Mc c) o (55, 4 + c, o) := ⟨_, rfl⟩
  have hVn : V &&& cNr N Mc c = V := by rw [hV]; exact hSet_n hN
  have hVb : ∀ s, s < N → bt V s = true → Mc (51, s, 0) o = 1 := fun s hs hb => by
    rw [hV] at hb
    exact (I.2.2.1 s hs o ho).1.resolve_left (hSet_b hN hb).2.2.1
  rw [← hV] at s1 s2
  have e51 : gset Mr m_o 51 V m_o 51 = V := by rw [gset_r, if_pos ⟨rfl, rfl⟩]
  have h0 : CI N g B c 48 Mc (gset Mr m_o 51 V) := h.sv (cf.rf _ _) (cf.st (by unfold uR; dsimp only; omega)) (R.sc hN rsc51) I
  have h1 := enter_ci (a3 := a3) (a4 := a4) hN hg47 hog hd h4 h0
  have fE := cEn_fr (M := Mc) (g := g) (o := o) (a3 := a3) (a4 := a4)
  have gE := rEn_fr (M := gset Mr m_o 51 V) (g := g) (o := o) (a3 := a3) (a4 := a4)
  obtain ⟨vE1, vE2, vE3, vE4⟩ := cEn_v (M := Mc) (g := g) (o := o) (a3 := a3) (a4 := a4)
  have hE : f_X0_enter N Mc (nI o) a3 a4 = some (nI (g + 1), cEn Mc g o a3 a4) := c_enter R.ct.1 hg47 h4
  have hE' : f_X11_newObject (gset Mr m_o 51 V) (nI o) a3 a4 = some (nI (g + 1), rEn (gset Mr m_o 51 V) g o a3 a4) := r_newObject h0.1.ct.2.1 hg47 h4
  obtain ⟨un1, un2⟩ := new_un I hg47
  obtain ⟨Mc1, hMc1⟩ : ∃ X, X = cEn Mc g o a3 a4 := ⟨_, rfl⟩
  obtain ⟨Mr1, hMr1⟩ : ∃ X, X = rEn (gset Mr m_o 51 V) g o a3 a4 := ⟨_, rfl⟩
  rw [← hMc1] at h1 fE vE1 vE2 vE3 vE4 hE
  rw [← hMr1] at h1 gE hE'
  obtain ⟨Mc2, Mr2, w1, w2, r2, j2, h51, cm1, cm2⟩ := make_step (x := g + 1) (v := V) (o := o) (J := fun M1 => o1 (f_X11_phases M1 (nI o)) (fun M3 => some M3)) hN (by omega) (by omega) ho h1.1 h1.2.1.j (by rw [gE _ _ (by dsimp only; omega)]; exact e51) vE2 (by omega) (fun s hs hb => by rw [fE _ _ (by dsimp only; omega)]; exact hVb s hs hb) (fun s hs => by rw [fE _ _ (by dsimp only; omega)]; exact (un1 s hs).1)
  have i2 : Inv N (g + 1) Mc2 := by
    refine j2.up (fun d hd => (h1.2.1.2.2.2.2.2.2.1 d hd).mkx (x := g + 1) (by omega) (cm1.mo (fun j q z => ?_)) (fun i hi hl hk e => ?_)) (h1.2.1.2.2.2.2.2.2.2.fr cm1 (fun t c q a b => by unfold aMk; dsimp only; omega))
    · revert z; unfold aMk eLg; omega
    · obtain ⟨n, a, b, -, f, -⟩ := I.2.2.2.2.2.2.1 d hd
      rw [fE _ _ (by dsimp only; omega), b, nlt (by omega) (by omega)] at hl
      obtain ⟨ob, o1, o2, o3, -⟩ := f i hl
      rw [fE _ _ (by dsimp only; omega), o3, neq (by omega) (by omega)] at e
      omega
  have hm2 : ∀ (j : gI) q, ¬ aMk (g + 1) j q → ¬ ((j.1 = 1 ∧ q = 3) ∨ ((j.1 = 2 ∨ j.1 = 3 ∨ j.1 = 4) ∧ q = g + 1)) → Mc2 j q = Mc j q := fun j q y1 y2 => by rw [cm1 _ _ y1, fE _ _ y2]
  obtain ⟨l, Mc3, Mr3, p1, p2, r3, i3, h52, cp1, cp2⟩ := phases_step (v := V) hN ho r2 i2 h51 (fun s hs hb => by
    rw [hm2 _ _ (by unfold aMk; dsimp only; omega) (by dsimp only; omega)]; exact hVb s hs hb)
  have h51' : Mr3 m_o 51 = V := by rw [cp2 _ _ (by unfold bPh; dsimp only; omega)]; exact h51
  have fA : cf (fun j q => aMk (g + 1) j q ∨ ((j.1 = 1 ∧ q = 3) ∨ ((j.1 = 2 ∨ j.1 = 3 ∨ j.1 = 4) ∧ q = g + 1)) ∨ aPh o j q) Mc Mc3 := ((fE.mo (fun j q h => Or.inr (Or.inl h))).tr (cm1.mo (fun j q h => Or.inl h))).tr (cp1.mo (fun j q h => Or.inr (Or.inr h)))
  have nr3 : cNr N Mc3 c = cNr N Mc c := cNr.fr hN fA (by unfold aMk aPh; dsimp only; omega) (fun q _ => by unfold aMk aPh; dsimp only; omega)
  obtain ⟨Mc5, q1, r5, i5, c5, -⟩ := fin_step hN hc ho r3 i3 h51' h52 (by rw [nr3]; exact hVn)
  have e5 : ∀ j q, aFl c o j q → (j.1 = 32 ∧ q = o) ∨ (j.1 = 55 ∧ j.2.1 = 4 + c ∧ j.2.2 = o) := fun j q h => h.elim Or.inl (fun h => Or.inr (by rw [h]; exact ⟨rfl, rfl, rfl⟩))
  have c5' := c5.mo e5
  have fB : cf (fun j q => (aMk (g + 1) j q ∨ ((j.1 = 1 ∧ q = 3) ∨ ((j.1 = 2 ∨ j.1 = 3 ∨ j.1 = 4) ∧ q = g + 1)) ∨ aPh o j q) ∨ ((j.1 = 32 ∧ q = o) ∨ (j.1 = 55 ∧ j.2.1 = 4 + c ∧ j.2.2 = o))) Mc Mc5 := (fA.mo (fun j q h => Or.inl h)).tr (c5'.mo (fun j q h => Or.inr h))
  have hh5 : Mc5 (51, 4 + c, 0) o = 1 := by rw [fB _ _ (by unfold aMk aPh; dsimp only; omega)]; exact hh
  have hh3 : Mr3 m_kept (48 * c + o) = 1 := by rw [← (r3.kl hc ho).1, fA _ _ (by unfold aMk aPh; dsimp only; omega)]; exact hh
  -- the entry comes into the cache
  have fT := cTh_k (c := c) (x := g + 1) (M := Mc5) hN
  have r6 : Rel N (g + 1) (cTh N Mc5 (4 + c) (g + 1)) (gset (rFl N Mr3 c o) m_keptEntry (48 * c + (g + 1)) 1) := kent hN hc hx r5 fT cTh_v.1 ((cf.st (A := fun j q => j = m_keptEntry ∧ q = 48 * c + (g + 1)) ⟨rfl, rfl⟩).mo (fun j q h => Or.inl h)) (by rw [gset_r, if_pos ⟨rfl, rfl⟩])
  have i6 : Inv N (g + 1) (cTh N Mc5 (4 + c) (g + 1)) := kent_inv hN hc (by omega) (by omega) i5 fT cTh_v.1 (Or.inr (Or.inl rfl))
  have fT' : cf (fun j q => j.1 = 56 ∨ j.1 = 58) Mc5 (cTh N Mc5 (4 + c) (g + 1)) := fT.mo (fun j q h => h.elim (fun h => Or.inl (by rw [h.1])) (fun h => Or.inr h.1))
  have h6 : CI N (g + 1) B c 48 (cTh N Mc5 (4 + c) (g + 1)) (gset (rFl N Mr3 c o) m_keptEntry (48 * c + (g + 1)) 1) := by
    refine h1.sv ((((cm1.mo (fun j q z => ?_)).tr (cp1.mo (fun j q z => ?_))).tr (c5'.mo (fun j q z => ?_))).tr (fT'.mo (fun j q z => ?_))) ((((cm2.mo (fun j q z => ?_)).tr (cp2.mo (fun j q z => ?_))).tr (rFl_fr.mo (fun j q z => ?_))).tr (cf.st ?_)) r6 i6
    · revert z; unfold aMk uC; omega
    · revert z; unfold aPh uC; omega
    · revert z; unfold uC; omega
    · revert z; unfold uC; omega
    · revert z; unfold bMk uR; omega
    · revert z; unfold bPh uR; omega
    · revert z; unfold uR; omega
    · unfold uR; dsimp only; omega
  obtain ⟨Mc6, hMc6⟩ : ∃ X, X = cTh N Mc5 (4 + c) (g + 1) := ⟨_, rfl⟩
  obtain ⟨Mr6, hMr6⟩ : ∃ X, X = gset (rFl N Mr3 c o) m_keptEntry (48 * c + (g + 1)) 1 := ⟨_, rfl⟩
  rw [← hMc6] at r6 i6 fT fT' h6
  rw [← hMr6] at r6 h6
  have hx6 : Mc6 (51, 4 + c, 0) (g + 1) = 0 := by rw [fT' _ _ (by dsimp only; omega), fB _ _ (by unfold aMk aPh; dsimp only; omega)]; exact (un2 c hc).1
  have h46 : Mc6 (4, 0, 0) (g + 1) = a4 := by rw [fT' _ _ (by dsimp only; omega), c5' _ _ (by dsimp only; omega), cp1 _ _ (by unfold aPh; dsimp only; omega), cm1 _ _ (by unfold aMk; dsimp only; omega)]; exact vE4
  have h46' : Mr6 m_isDirectory (g + 1) = a4 := by rw [← (r6.ct.2.2 (g + 1) hx).2.2]; exact h46
  obtain ⟨mq, mo1, mo2, mo3, mo4⟩ := new_mo h4
  obtain ⟨b, Mc7, Mr7, m1, m2, h7, cc7, cr7, k7, -, hb0, -, hb1⟩ := room (x := 48) (bu := nI (g + 1)) (be := 10) (mo := nI mq) hN hc (by omega) h6 (fun p hp e => by
    rw [neq (by omega) (by omega)] at e
    subst e
    exact may_un hx6) (by omega) (by omega)
  have hF : f_X10_finishNear N Mc2 c V (nI o) = some Mc5 := by
    unfold f_X10_finishNear
    rw [p1, ob_s]
    exact q1
  have hP : f_X11_putEntry Mr1 (nI o) (nI (g + 1)) = some Mr3 := by
    unfold f_X11_putEntry
    rw [jn_d, w2, p2, o1_s]
  have hFl : f_X11_follow (gset Mr3 m_keptEntry (48 * c + (g + 1)) 1) (nI c) (nI o) = some Mr6 := by
    rw [r_follow (N := N) (by rw [gset_r, if_neg (by simp)]; exact r3.n0) hN hc ho, rFl_comm (by decide) (by decide) (by decide) (by decide) (by decide), hMr6]
  have hC0 : f_X10_makeNear N Mc c (nI o) a3 a4 = o1 (f_X1_takeInMade N Mc5 c (nI o) (nI (g + 1)) V) (fun M15 => some ((nI (g + 1)).toInt64, M15)) := by
    unfold f_X10_makeNear
    simp only [lt_d]
    rw [R.1.2.2.1 c hc, c_nearClient R.1.2.1 hN hc, o1_s, ix_n ho (by omega), s1, o1_s, hE, ob_s, w1, o1_s, hF, o1_s]
  have hC1 : f_X1_takeInMade N Mc5 c (nI o) (nI (g + 1)) V = (if zb b = 0 then some Mc7 else o1 (f_X8_createCopy N Mc7 (4 + c) (nI (g + 1))) (fun M10 => wr M10 (32, c, 0) 48 (nI (g + 1)) V (fun M11 => o1 (f_X1_use N M11 c (nI (g + 1))) (fun M13 => some M13)))) := by
    unfold f_X1_takeInMade
    rw [rd_n ho (by omega), hh5, jn_d, if_neg (by decide), c_setThere hN hx, o1_s, ← hMc6]
    dsimp only
    rw [c_fullWeight hx, o1_s, h46, mo1, m1, ob_s]
  have hR0 : rMn Mr c o a3 a4 = (if zb b = 0 then some ((nI (g + 1)).toInt64, Mr7) else o1 (f_X11_keepNew Mr7 (nI c) (nI (g + 1))) (fun M43 => lt (M43 m_o 51) (fun v44 => wr M43 m_promised 192 (((48 : Int32) * (nI c)) + nI (g + 1)) v44 (fun M45 => some ((nI (g + 1)).toInt64, M45))))) := by
    unfold rMn
    rw [r_nearSet R.n0 hN hc, o1_s, R.nr hN hc, s2, o1_s, lt_d, hE', ob_s, hP, o1_s, nI_m48, nI_add, rd_n (by omega) (by omega), hh3, jn_d, if_neg (by decide), nI_add, wr_n (by omega) (by omega)]
    dsimp only
    rw [hFl, o1_s, r_weight hx, o1_s, h46', mo1, m2, ob_s]
  have o66 : Mr7 m_o 66 = Mr m_o 66 := by
    rw [cr7 _ _ (by unfold fR; dsimp only; omega), hMr6, gset_r, if_neg (by simp), rFl_n (by decide) (by decide), cp2 _ _ (by unfold bPh; dsimp only; omega), cm2 _ _ (by unfold bMk; dsimp only; omega), gE _ _ (by dsimp only; omega), gset_r, if_neg (by decide)]
  cases b with
  | false =>
    refine ⟨(nI (g + 1)).toInt64, Mc7, Mr7, ?_, ?_, ⟨h7.1, h7.2.1, h7.2.2.1.up (by omega), h7.2.2.2⟩, o66⟩
    · rw [hC0, hC1, zb_f, if_pos rfl, o1_s]
    · rw [hR0, zb_f, if_pos rfl]
  | true =>
    have hx7 : Mc7 (51, 4 + c, 0) (g + 1) = 0 := by rw [(k7 (g + 1) hx (may_un hx6)).1 51 (Or.inl rfl)]; exact hx6
    have h47 : Mc7 (4, 0, 0) (g + 1) = a4 := by rw [cc7 _ _ (by unfold fC; dsimp only; omega)]; exact h46
    have hbw := hb1 rfl
    rw [mo2] at hbw
    have h8 := new_in hN hc (by omega) hB h7 hx7 (by rw [h47, ← mo3]; omega)
    have nr8 : cNr N (cCr N (cUs Mc7 c (g + 1)) (4 + c) (g + 1)) c = cNr N Mc c := by
      rw [cNr.fr hN cCr_fr (by dsimp only; omega) (fun q _ => by dsimp only; omega), cNr.fr hN cUs_fr (by dsimp only; omega) (fun q _ => by dsimp only; omega), cNr.fr hN cc7 (by unfold fC; dsimp only; omega) (fun q _ => by unfold fC; dsimp only; omega), cNr.fr hN fT' (by dsimp only; omega) (fun q _ => by dsimp only; omega), cNr.fr hN c5' (by dsimp only; omega) (fun q _ => by dsimp only; omega)]
      exact nr3
    obtain ⟨r9, i9⟩ := pr_set (w := V) hN hc hx h8.1 h8.2.1 (by rw [nr8]; exact hVn) (fun z => absurd (cCr_v.1.symm.trans z) (by decide))
    refine ⟨(nI (g + 1)).toInt64, gset (cCr N (cUs Mc7 c (g + 1)) (4 + c) (g + 1)) (32, c, 0) (g + 1) V, gset (rUs (rKn Mr7 c (g + 1)) c (g + 1)) m_promised (48 * c + (g + 1)) V, ?_, ?_, h8.sv (cf.st (by unfold uC; dsimp only; omega)) (cf.st (by unfold uR; dsimp only; omega)) r9 i9, ?_⟩
    · rw [hC0, hC1, zb_t, if_neg (by decide), c_createCopy hN hx, o1_s, wr_n hx (by omega), c_use hx, o1_s, o1_s, cUs_comm (by simp) (by simp), cUs_cr]
    · have v51 : rUs (rKn Mr7 c (g + 1)) c (g + 1) m_o 51 = V := by
        rw [rUs_fr _ _ (by dsimp only; omega), rKn_fr _ _ (by dsimp only; omega), cr7 _ _ (by unfold fR; dsimp only; omega), hMr6, gset_r, if_neg (by simp), rFl_n (by decide) (by decide)]
        exact h51'
      rw [hR0, zb_t, if_neg (by decide), r_keepNew hc hx, o1_s, lt_d, v51, nI_m48, nI_add, wr_n (by omega) (by omega)]
    · rw [gset_r, if_neg (by simp), rUs_fr _ _ (by dsimp only; omega), rKn_fr _ _ (by dsimp only; omega)]; exact o66
end MK
