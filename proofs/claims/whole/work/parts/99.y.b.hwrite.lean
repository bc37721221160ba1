/-! layer 2: a written file is handed in -/
def HC (j : gI) (q : Nat) : Prop := aSv j q ∨ j.1 = 20 ∨ j.1 = 9 ∨ j.1 = 32 ∨ (j.1 = 30 ∧ q = 11) ∨ j.1 = 12
def HR (j : gI) (q : Nat) : Prop := bSv j q ∨ j.1 = 6 ∨ j.1 = 26 ∨ j.1 = 40 ∨ (j.1 = 0 ∧ ((45 ≤ q ∧ q ≤ 48) ∨ q = 51 ∨ q = 52)) ∨ j.1 = 44 ∨ j.1 = 45
def rHv (Mr : gM) (c l x : Nat) : Option gM := rd Mr m_versionsTold 4 (nI c) (fun v12 => wr Mr m_versionsTold 4 (nI c) (v12 + (1 : Int32)) (fun M13 => lt (M13 m_o 0) (fun v14 => rd M13 m_versionsTold 4 (nI c) (fun v15 => wr M13 m_row 8 (v14 + nI c) v15 (fun M16 => rd M16 m_versions 192 (nI (48 * l + x)) (fun v17 => jn (fun (M18 : gM) => rd M18 m_versions 192 (nI (48 * l + x)) (fun v19 => lt ((((6 : Int32) * nI (48 * l + x)) + v19)) (fun x20 => wr M18 m_versionValue 1152 x20 (Mr m_keptValue (48 * c + x)) (fun M21 => wr M21 m_versionSize 1152 x20 (Mr m_keptSize (48 * c + x)) (fun M22 => o1 (f_X11_copyTo M22 m_row (0 : Int32) m_versionVector x20) (fun M24 => rd M24 m_versions 192 (nI (48 * l + x)) (fun v25 => wr M24 m_versions 192 (nI (48 * l + x)) (v25 + (1 : Int32)) (fun M26 => o1 (f_X11_raise M26 m_row (0 : Int32) m_vector (nI (48 * l + x))) (fun M28 => o1 (f_X11_mark M28 (nI x) ((1 : Int32) <<< (nI l &&& 31))) (fun M30 => o1 (f_X11_count M30 m_vector (nI (48 * l + x)) ((1 : Int32) <<< (nI l &&& 31)) (nI x)) (fun M32 => o1 (f_X11_endPromises M32 (nI x) ((1 : Int32) <<< (nI l &&& 31)) (-1 : Int32)) (fun M34 => some M34)))))))))))) (fun J254 => (if v17 = 0 then rd M16 m_value 192 (nI (48 * l + x)) (fun v36 => wr M16 m_versionValue 1152 ((6 : Int32) * nI (48 * l + x)) v36 (fun M37 => rd M37 m_size 192 (nI (48 * l + x)) (fun v38 => wr M37 m_versionSize 1152 ((6 : Int32) * nI (48 * l + x)) v38 (fun M39 => o1 (f_X11_copyTo M39 m_vector (nI (48 * l + x)) m_versionVector ((6 : Int32) * nI (48 * l + x))) (fun M41 => wr M41 m_versions 192 (nI (48 * l + x)) (1 : Int32) (fun M42 => J254 M42)))))) else J254 M16))))))))
section HW0
theorem gset_aa (M : gM) (i : gI) (k : Nat) (x : Int32) : gset M i k x i k = x := by rw [gset_r, if_pos ⟨rfl, rfl⟩]
theorem gset_o {M : gM} {i j : gI} {k q : Nat} {x : Int32} (h : ¬ (j = i ∧ q = k)) : gset M i k x j q = M j q := by rw [gset_r, if_neg h]
end HW0
section HW
variable {N g B s o c d x z T n t l i : Nat} {M M' Mc Mr Mc' Mr' : gM} {row : gI} {v w nr a1 a2 a3 a4 : Int32}
theorem lost_step {k : Nat} (hN : N ≤ 4) (h1 : 1 ≤ k) (h2 : k ≤ 6) (R : Rel N g Mc Mr) (I : JInv N g Mc) : Rel N g (gset Mc (9, 0, 0) k (Mc (9, 0, 0) k + 1)) (gset Mr m_o (44 + k) (Mr m_o (44 + k) + 1)) ∧ JInv N g (gset Mc (9, 0, 0) k (Mc (9, 0, 0) k + 1)) := ⟨R.ta1 hN h1 h2, I.free0 hN (cf.st (by unfold iFree; dsimp only; omega))⟩
/-- a version of the client's comes to the server -/
theorem hversion {y : Nat} (hN : N ≤ 4) (hc : c < 4) (hl : l < N) (hx : x < 48) (R : Rel N g Mc Mr) (I : JInv N g Mc) (e2 : Mc (11, 0, 0) 2 = nI c) (e4 : Mc (11, 0, 0) 4 = nI l) (hn : Mc (60, 48 * l + x, 0) 3 = nI n) (hn6 : n < 6) (hh : Mc (51, l, 0) x = 1) (hd : Mc (4, 0, 0) x = 0) (hk : Mc (51, 4 + c, 0) x = 1) (hy : y ≤ 6 ∧ Mc (53, 4 + c, 0) x = nI y) (hr : row.1 = 45) (hrN : cN N row = N + 4) (hrow : ∀ k, k < N + 4 → Mr m_row k = Mc row k) : ∃ Mc' Mr', f_X2_handInVersion N Mc l (nI x) row = some Mc' ∧ rHv Mr c l x = some Mr' ∧ Rel N g Mc' Mr' ∧ JInv N g Mc' ∧ cf HC Mc Mc' ∧ cf HR Mr Mr' ∧ ∀ s, s < N → ∀ p, Mc' (51, s, 0) p = Mc (51, s, 0) p ∧ Mc' (56, s, 0) p = Mc (56, s, 0) p := by
  have hg := I.1.1
  have hc6 : cMost (48 * l + x) = 6 := cMost_lt (by omega)
  have hnr : Mr m_versions (48 * l + x) = nI n := by rw [← (R.sv hl hx).dd.1]; exact hn
  have hdr : Mr m_isDirectory x = 0 := by rw [← (R.ct.2.2 x hx).2.2]; exact hd
  have ha := (R.sv hl hx).a
  have hhr : ¬ Mr m_has (48 * l + x) = 0 := by rw [← ha.1, hh]; decide
  have hv52 : Mc (52, l, 0) x = Mr m_value (48 * l + x) := by rw [ha.2.1, if_neg (fun z => z.elim hhr (fun z => z hdr))]
  have hv53 : Mc (53, l, 0) x = Mr m_size (48 * l + x) := by rw [ha.2.2.1, if_neg (fun z => z.elim hhr (fun z => z hdr))]
  have hkl := R.kl hc hx
  have hkr : ¬ Mr m_kept (48 * c + x) = 0 := by rw [← hkl.1, hk]; decide
  have hkv : Mc (52, 4 + c, 0) x = Mr m_keptValue (48 * c + x) := by rw [hkl.2.1, if_neg (fun z => z.elim hkr (fun z => z hdr))]
  have hks : Mc (53, 4 + c, 0) x = Mr m_keptSize (48 * c + x) := by rw [hkl.2.2.1, if_neg (fun z => z.elim hkr (fun z => z hdr))]
  have hvt := (R.lg hc).2.1
  -- the reference: what was told, and the row
  obtain ⟨V, hV⟩ : ∃ V, V = Mc (30, c, 0) 11 + 1 := ⟨_, rfl⟩
  obtain ⟨Ra, hRa⟩ : ∃ X, X = gset (gset Mr m_versionsTold c V) m_row (N + c) V := ⟨_, rfl⟩
  have fRa : cf (fun j q => j.1 = 40 ∨ j.1 = 45) Mr Ra := by rw [hRa]; exact (cf.st (Or.inl rfl)).tr (cf.st (Or.inr rfl))
  -- the class: the first version, if there was none
  have first : ∃ Mb Rb n', (if Mc (60, 48 * l + x, 0) 3 = 0 then (rd Mc (52, l, 0) 48 (nI x) (fun v33 => rd Mc (53, l, 0) 48 (nI x) (fun v34 => ix (nI x) 48 (fun v35 => f_X9_add N Mc (48 * l + x) v33 v34 (55, l, v35))))) else some Mc) = some Mb ∧ (∀ K : gM → Option gM, (if Ra m_versions (48 * l + x) = 0 then rd Ra m_value 192 (nI (48 * l + x)) (fun v36 => wr Ra m_versionValue 1152 ((6 : Int32) * nI (48 * l + x)) v36 (fun M37 => rd M37 m_size 192 (nI (48 * l + x)) (fun v38 => wr M37 m_versionSize 1152 ((6 : Int32) * nI (48 * l + x)) v38 (fun M39 => o1 (f_X11_copyTo M39 m_vector (nI (48 * l + x)) m_versionVector ((6 : Int32) * nI (48 * l + x))) (fun M41 => wr M41 m_versions 192 (nI (48 * l + x)) (1 : Int32) (fun M42 => K M42)))))) else K Ra) = K Rb) ∧ Rel N g (gset Mb (30, c, 0) 11 V) Rb ∧ JInv N g (gset Mb (30, c, 0) 11 V) ∧ Mb (60, 48 * l + x, 0) 3 = nI n' ∧ n' < 6 ∧ n' ≠ 0 ∧ cf (fun j q => (j.1 = 60 ∨ j.1 = 61 ∨ j.1 = 62 ∨ j.1 = 64) ∧ j.2.1 = 48 * l + x) Mc Mb ∧ cf (fun j q => 15 ≤ j.1 ∧ j.1 ≤ 18) Ra Rb := by
    have RRa : Rel N g (gset Mc (30, c, 0) 11 V) Ra := by
      rw [hRa]
      exact (R.vt hN hc).fr hN (cf.rf _ _) ((cf.st (A := fun j q => j.1 = 45) rfl).mo (fun j q h => by unfold rsc; omega))
    have IRa : JInv N g (gset Mc (30, c, 0) 11 V) := I.free0 hN (cf.st (by unfold iFree; dsimp only; omega))
    have enr : Ra m_versions (48 * l + x) = nI n := by rw [fRa _ _ (by simp)]; exact hnr
    by_cases h0 : n = 0
    · subst h0
      refine ⟨cVa N Mc (48 * l + x) 0 (Mc (52, l, 0) x) (Mc (53, l, 0) x) (55, l, x), rVa Ra (48 * l + x) 0 (Mc (52, l, 0) x) (Mc (53, l, 0) x) (fun k => Ra m_vector (8 * (48 * l + x) + k)), 1, ?_, fun K => ?_, ?_, ?_, (cVa_v (i := 0)).1, by omega, by omega, cVa_fr, (rVa_fr (by omega)).mo (fun j q h => by omega)⟩
      · rw [if_pos (by rw [hn]; rfl), rd_n hx (by omega), rd_n hx (by omega), ix_n hx (by omega), c_vadd hN hn (by rw [hc6]; omega) (by rw [hc6]; omega) (cN55 _ _ _) (by simp) (by simp)]
      · rw [if_pos (by rw [enr]; rfl), rd_n (by omega) (by omega), nI_m6, wr_n (by omega) (by omega), rd_n (by omega) (by omega), wr_n (by omega) (by omega), r_copyTo (by show _ ≤ 1536; omega) (by show _ ≤ 9216; omega) (by decide) (by decide), o1_s, wr_n (by omega) (by omega)]
        unfold rVa
        rw [gset_r, if_neg (by simp), fRa m_value _ (by simp), fRa m_size _ (by simp), ← hv52, ← hv53]
        congr 2
      · have q := vadd_rel (n := 0) (a1 := Mc (52, l, 0) x) (a2 := Mc (53, l, 0) x) (row := (55, l, x)) (f := fun k => Ra m_vector (8 * (48 * l + x) + k)) hN hl hx RRa (by rw [gset_r, if_neg (by simp)]; exact hn) (by omega) (fun k hk => (RRa.row hl hx (by rw [gset_r, if_neg (by simp), hh]; decide) hk).symm)
        have ec : cVa N (gset Mc (30, c, 0) 11 V) (48 * l + x) 0 (Mc (52, l, 0) x) (Mc (53, l, 0) x) (55, l, x) = gset (cVa N Mc (48 * l + x) 0 (Mc (52, l, 0) x) (Mc (53, l, 0) x) (55, l, x)) (30, c, 0) 11 V := by
          unfold cVa
          rw [gset_comm (i := (30, c, 0)) (i' := (61, 48 * l + x, 0)) (by simp), gset_comm (i := (30, c, 0)) (i' := (62, 48 * l + x, 0)) (by simp), ← gset_gpu (i := (30, c, 0)) (by simp), gset_comm (i := (30, c, 0)) (i' := (60, 48 * l + x, 0)) (by simp)]
          congr 2
        rw [← ec]
        exact q
      · have q := vadd_inv (n := 0) (a1 := Mc (52, l, 0) x) (a2 := Mc (53, l, 0) x) (row := (55, l, x)) hN hl hx I hn (by omega) hh hd (fun _ => ⟨rfl, rfl⟩) (I.2.2.2.1 l hl x hx).1
        exact q.free0 hN (cf.st (by unfold iFree; dsimp only; omega))
    · refine ⟨Mc, Ra, n, by rw [if_neg (by rw [hn, nI_z (by omega)]; exact h0)], fun K => by rw [if_neg (by rw [enr, nI_z (by omega)]; exact h0)], RRa, IRa, hn, hn6, h0, cf.rf _ _, cf.rf _ _⟩
  obtain ⟨Mb, Rb, n', q1, q2, Rb1, Ib1, hnb, hnb6, hnb0, fMb, fRb⟩ := first
  -- the class's row
  obtain ⟨Md, hMd⟩ : ∃ X, X = gset (gpu (gset Mb (30, c, 0) 11 V) (12, 0, 0) 0 (N + 4) (fun k => gset Mb (30, c, 0) 11 V row k)) (12, 0, 0) (N + c) V := ⟨_, rfl⟩
  have fMd : cf (fun j q => j.1 = 12) (gset Mb (30, c, 0) 11 V) Md := by rw [hMd]; exact (cf.pu (fun _ _ _ => rfl)).tr (cf.st rfl)
  have Rd : Rel N g Md Rb := Rb1.fr hN (fMd.mo (fun j q h => by unfold csc; omega)) (cf.rf _ _)
  have Id : JInv N g Md := Ib1.free0 hN (fMd.mo (fun j q h => by unfold iFree csc; omega))
  have e0 : ∀ (j : gI) q, j.1 ≠ 12 → ¬ (j.1 = 30 ∧ q = 11) → ¬ ((j.1 = 60 ∨ j.1 = 61 ∨ j.1 = 62 ∨ j.1 = 64) ∧ j.2.1 = 48 * l + x) → Md j q = Mc j q := fun j q h1 h2 h3 => by
    rw [fMd _ _ h1, gset_r, if_neg (fun z => h2 (by rw [z.1, z.2]; exact ⟨rfl, rfl⟩)), fMb _ _ h3]
  have hrowd : ∀ k, k < N + 4 → Rb m_row k = Md (12, 0, 0) k := fun k hk => by
    rw [fRb _ _ (by simp), hRa, hMd]
    by_cases e : k = N + c
    · subst e
      exact (gset_aa _ _ _ _).trans (gset_aa _ _ _ _).symm
    · refine (gset_o (fun z => e z.2)).trans ((gset_o (fun z => absurd z.1 (by decide))).trans ((hrow k hk).trans (Eq.symm ?_)))
      refine (gset_o (fun z => e z.2)).trans ?_
      rw [gpu_r, if_pos ⟨rfl, by omega, by omega⟩, show k - 0 = k from by omega]
      refine (gset_o (fun z => ?_)).trans (fMb _ _ (by omega))
      rw [z.1] at hr
      simp at hr
  have hnd : Md (60, 48 * l + x, 0) 3 = nI n' := by rw [fMd _ _ (by simp), gset_r, if_neg (by simp)]; exact hnb
  have hndr : Rb m_versions (48 * l + x) = nI n' := by rw [← (Rd.sv hl hx).dd.1]; exact hnd
  have hhd : Md (51, l, 0) x = 1 := by rw [e0 _ _ (by simp) (by simp) (by simp)]; exact hh
  -- its version
  have Re := vadd_rel (n := n') (a1 := Mc (52, 4 + c, 0) x) (a2 := Mc (53, 4 + c, 0) x) (row := (12, 0, 0)) (f := fun k => Rb m_row k) hN hl hx Rd hnd hnb6 hrowd
  have Ie := vadd_inv (n := n') (a1 := Mc (52, 4 + c, 0) x) (a2 := Mc (53, 4 + c, 0) x) (row := (12, 0, 0)) hN hl hx Id hnd hnb6 hhd (by rw [e0 _ _ (by simp) (by simp) (by simp)]; exact hd) (fun z => absurd z hnb0) ⟨y, hy⟩
  have fMe := cVa_fr (N := N) (M := Md) (v := 48 * l + x) (n := n') (a1 := Mc (52, 4 + c, 0) x) (a2 := Mc (53, 4 + c, 0) x) (row := (12, 0, 0))
  have fRe := rVa_fr (M := Rb) (a := 48 * l + x) (n := n') (a1 := Mc (52, 4 + c, 0) x) (a2 := Mc (53, 4 + c, 0) x) (f := fun k => Rb m_row k) hnb6
  obtain ⟨Me, hMe⟩ : ∃ X, X = cVa N Md (48 * l + x) n' (Mc (52, 4 + c, 0) x) (Mc (53, 4 + c, 0) x) (12, 0, 0) := ⟨_, rfl⟩
  obtain ⟨Rre, hRre⟩ : ∃ X, X = rVa Rb (48 * l + x) n' (Mc (52, 4 + c, 0) x) (Mc (53, 4 + c, 0) x) (fun k => Rb m_row k) := ⟨_, rfl⟩
  rw [← hMe] at Re Ie fMe
  rw [← hRre] at Re fRe
  have hhe : Me (51, l, 0) x = 1 := by rw [fMe _ _ (by simp)]; exact hhd
  obtain ⟨Mf, Rf, y1, y2, Rf1, If1, fMf, fRf⟩ := raise_one (row := (12, 0, 0)) hN hx hl Re Ie hhe (cN12 _) (fun k hk => by rw [fMe _ _ (by simp), fRe _ _ (by dsimp only; omega)]; exact hrowd k hk)
  have hhf : Mf (51, l, 0) x = 1 := by rw [fMf _ _ (by simp)]; exact hhe
  obtain ⟨Mg, Rg, y3, y4, Rg1, Ig1, fMg, fRg⟩ := count_one hN hx hl Rf1 If1 hhf
  obtain ⟨Mh, Rh, y5, y6, Rh1, Ih1, fMh, fRh⟩ := ends_stepJ (v := sB l) hN hx Rg1 Ig1
  have hfin : cf HC Mc Mh := by
    refine ((((((fMb.mo (fun j q h => ?_)).tr (cf.st (v := V) ?_)).tr (fMd.mo (fun j q h => ?_))).tr (fMe.mo (fun j q h => ?_))).tr (fMf.mo (fun j q h => ?_))).tr (fMg.mo (fun j q h => ?_))).tr (fMh.mo (fun j q h => ?_))
    · unfold HC aSv; omega
    · unfold HC; dsimp only; omega
    · unfold HC; omega
    · unfold HC aSv; omega
    · rw [h]; unfold HC aSv; dsimp only; omega
    · unfold HC aSv; omega
    · unfold HC; omega
  have hfinr : cf HR Mr Rh := by
    refine (((((fRa.mo (fun j q h => ?_)).tr (fRb.mo (fun j q h => ?_))).tr (fRe.mo (fun j q h => ?_))).tr (fRf.mo (fun j q h => ?_))).tr (fRg.mo (fun j q h => ?_))).tr (fRh.mo (fun j q h => ?_))
    · unfold HR; omega
    · unfold HR bSv; omega
    · unfold HR bSv; omega
    · unfold HR bSv; omega
    · unfold HR bSv; omega
    · unfold HR; omega
  have e11 : ∀ q, Md (11, 0, 0) q = Mc (11, 0, 0) q := fun q => e0 _ _ (by simp) (by simp) (by simp)
  refine ⟨Mh, Rh, ?_, ?_, Rh1, Ih1, hfin, hfinr, fun s hs p => ?_⟩
  · have hs0 : Mb (11, 0, 0) 2 = nI c := by rw [fMb _ _ (by simp)]; exact e2
    have hs1 : gset Mb (30, c, 0) 11 V (11, 0, 0) 2 = nI c := by rw [gset_r, if_neg (by simp)]; exact hs0
    have hX : ∀ q, gpu (gset Mb (30, c, 0) 11 V) (12, 0, 0) 0 (N + 4) (fun k => gset Mb (30, c, 0) 11 V row k) (11, 0, 0) q = gset Mb (30, c, 0) 11 V (11, 0, 0) q := fun q => gpu_ne (by simp)
    have h30 : ∀ q, gpu (gset Mb (30, c, 0) 11 V) (12, 0, 0) 0 (N + 4) (fun k => gset Mb (30, c, 0) 11 V row k) (30, c, 0) q = gset Mb (30, c, 0) 11 V (30, c, 0) q := fun q => gpu_ne (by simp)
    have hnum : gset Mb (30, c, 0) 11 V (30, c, 0) 0 = nI c := by rw [gset_r, if_neg (by simp), fMb _ _ (by simp)]; exact R.1.2.2.1 c hc
    have tail : ix (Mb (11, 0, 0) 2) 4 (fun v7 => lt (Mb (30, v7, 0) 11) (fun v8 => lt (gset Mb (30, v7, 0) 11 (v8 + (1 : Int32))) (fun M9 => o1 (f_X10_assign N M9 (12, 0, 0) row) (fun M11 => ix (M11 (11, 0, 0) 2) 4 (fun v12 => lt (M11 (30, v12, 0) 0) (fun v13 => ix (M11 (11, 0, 0) 2) 4 (fun v14 => lt (M11 (30, v14, 0) 11) (fun v15 => wr M11 (12, 0, 0) (N + 4) ((nI N) + v13) v15 (fun M16 => ix (M16 (11, 0, 0) 2) 4 (fun v17 => rd M16 (52, (4 + v17), 0) 48 (nI x) (fun v18 => ix (M16 (11, 0, 0) 2) 4 (fun v19 => rd M16 (53, (4 + v19), 0) 48 (nI x) (fun v20 => o1 (f_X9_add N M16 (48 * l + x) v18 v20 (12, 0, 0)) (fun M22 => ix (nI x) 48 (fun v23 => o1 (f_X10_raise N M22 (55, l, v23) (12, 0, 0)) (fun M25 => lt (M25 (11, 0, 0) 4) (fun v26 => o1 (f_X6_countAll N M25 ((1 : Int32) <<< (v26 &&& 31)) (nI x)) (fun M28 => lt (M28 (11, 0, 0) 4) (fun v29 => o1 (f_X6_endPromises N M28 ((1 : Int32) <<< (v29 &&& 31)) (nI x)) (fun M31 => some M31)))))))))))))))))))) = some Mh := by
      rw [hs0, ix_n hc (by omega)]
      simp only [lt_d]
      rw [show Mb (30, c, 0) 11 + (1 : Int32) = V from by rw [hV, fMb _ _ (by simp)], c_assign (cN12 _) hrN (by omega), o1_s, hX, hs1, ix_n hc (by omega), h30, hnum, ix_n hc (by omega), h30, nI_add, wr_n (by omega) (by omega), show gset Mb (30, c, 0) 11 V (30, c, 0) 11 = V from by rw [gset_r, if_pos ⟨rfl, rfl⟩], ← hMd, e11, e2, ix_n hc (by omega), rd_n hx (by omega), e0 (52, 4 + c, 0) x (by simp) (by simp) (by simp), ix_n hc (by omega), rd_n hx (by omega), e0 (53, 4 + c, 0) x (by simp) (by simp) (by simp), c_vadd hN hnd (by rw [hc6]; exact hnb6) (by rw [hc6]; omega) (cN12 _) (by simp) (by simp), o1_s, ← hMe, ix_n hx (by omega), y1, o1_s, show Mf (11, 0, 0) 4 = nI l from by rw [fMf _ _ (by simp), fMe _ _ (by simp), e11]; exact e4]
      rw [show ((1 : Int32) <<< (nI l &&& 31)) = sB l from rfl, y3, o1_s, show Mg (11, 0, 0) 4 = nI l from by rw [fMg _ _ (by simp), fMf _ _ (by simp), fMe _ _ (by simp), e11]; exact e4]
      rw [show ((1 : Int32) <<< (nI l &&& 31)) = sB l from rfl, y5, o1_s]
    unfold f_X2_handInVersion
    rw [ix_n hx (by omega), c_isFull9 hn (by rw [hc6]; omega) (by rw [hc6]; omega), hc6, if_pos hn6, o1_s, if_pos rfl, lt_d, jn_d]
    by_cases h0 : Mc (60, 48 * l + x, 0) 3 = 0
    · rw [if_pos h0] at q1 ⊢
      rw [rd_n hx (by omega), rd_n hx (by omega), ix_n hx (by omega)] at q1 ⊢
      rw [q1, o1_s]
      exact tail
    · rw [if_neg h0] at q1 ⊢
      have := Option.some.inj q1
      subst this
      exact tail
  · unfold rHv
    have hrt : Mr m_versionsTold c + 1 = V := by rw [hV, hvt]
    rw [rd_n hc (by omega), wr_n hc (by omega), hrt, lt_d, show gset Mr m_versionsTold c V m_o 0 = nI N from by rw [gset_r, if_neg (by simp)]; exact R.n0, rd_n hc (by omega), show gset Mr m_versionsTold c V m_versionsTold c = V from by rw [gset_r, if_pos ⟨rfl, rfl⟩], nI_add, wr_n (by omega) (by omega), ← hRa, rd_n (by omega) (by omega), jn_d, q2]
    rw [rd_n (by omega) (by omega), hndr, lt_d, nI_m6, nI_add, wr_n (by omega) (by omega), wr_n (by omega) (by omega), show f_X11_copyTo (gset (gset Rb m_versionValue (6 * (48 * l + x) + n') (Mr m_keptValue (48 * c + x))) m_versionSize (6 * (48 * l + x) + n') (Mr m_keptSize (48 * c + x))) m_row (0 : Int32) m_versionVector (nI (6 * (48 * l + x) + n')) = _ from r_copyTo (i := 0) (by decide) (by show _ ≤ 9216; omega) (by decide) (by decide), o1_s, rd_n (by omega) (by omega), gpu_ne (by decide), gset_r, if_neg (by simp), gset_r, if_neg (by simp), hndr, nI_1, wr_n (by omega) (by omega)]
    have eR : gset (gpu (gset (gset Rb m_versionValue (6 * (48 * l + x) + n') (Mr m_keptValue (48 * c + x))) m_versionSize (6 * (48 * l + x) + n') (Mr m_keptSize (48 * c + x))) m_versionVector (8 * (6 * (48 * l + x) + n')) 8 (fun k => gset (gset Rb m_versionValue (6 * (48 * l + x) + n') (Mr m_keptValue (48 * c + x))) m_versionSize (6 * (48 * l + x) + n') (Mr m_keptSize (48 * c + x)) m_row (8 * 0 + k))) m_versions (48 * l + x) (nI (n' + 1)) = Rre := by
      rw [hRre]
      unfold rVa
      rw [hkv, hks]
      congr 2
      funext k
      rw [gset_r, if_neg (by simp), gset_r, if_neg (by simp), show 8 * 0 + k = k by omega]
    rw [eR, y2, o1_s]
    rw [show ((1 : Int32) <<< (nI l &&& 31)) = sB l from rfl]
    have e4' : ∀ K : gM → Option gM, o1 (f_X11_mark Rf (nI x) (sB l)) (fun M30 => o1 (f_X11_count M30 m_vector (nI (48 * l + x)) (sB l) (nI x)) K) = K Rg := fun K => by
      have := congrArg (fun z => o1 z K) y4
      simp only [o1_s] at this
      rw [← this]
      cases f_X11_mark Rf (nI x) (sB l) <;> rfl
    rw [e4', y6, o1_s]
  · constructor
    · rw [fMh _ _ (by simp), fMg _ _ (by simp), fMf _ _ (by simp), fMe _ _ (by simp)]; exact e0 _ _ (by simp) (by simp) (by simp)
    · rw [fMh _ _ (by simp), fMg _ _ (by simp), fMf _ _ (by simp), fMe _ _ (by simp)]; exact e0 _ _ (by simp) (by simp) (by simp)
end HW
