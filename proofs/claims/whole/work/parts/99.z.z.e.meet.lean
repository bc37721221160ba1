/-! layer 2: meet -/
section ZZE
variable {N g B s o c d x y z T n m t l i j a b p k u : Nat} {A E M M1 M0 R0 M' X Y Mc Mr Mc' Mr' : gM} {row a3 : gI} {D P : Nat → Bool} {G H pd v w nr a1 a2 a4 a5 : Int32} {f r : Nat → Int32} {zz : lS} {par : Nat → Nat}
theorem body (hN : 1 ≤ N ∧ N ≤ 4) (hkg : k ≤ g) (hGb : ∀ i, N ≤ i → i < 32 → bt G i = false) (hs : s < N) (hb : bt G s = true) (hpar0 : ∀ z, 1 ≤ z → z ≤ g → M0 (2, 0, 0) z = nI (par z) ∧ par z < z) (h : LI N g G par k M0 R0 Mc Mr) (u : Nat) : ∃ Mc' Mr', f_X4_hold_L12 N (u + 1) (nI k) Mc = f_X4_hold_L12 N u (nI (k + 1)) Mc' ∧ f_X11_meetAt Mr (nI k) = some Mr' ∧ LI N g G par (k + 1) M0 R0 Mc' Mr' := by
  obtain ⟨D, hM, hI, hS, hDk, hA, f0⟩ := h
  obtain ⟨R, I, g1, g2, g3⟩ := id hM
  have hg := I.1.1
  have hk : k < 48 := by omega
  have hpar : ∀ z, 1 ≤ z → z ≤ g → Mc (2, 0, 0) z = nI (par z) ∧ par z < z := fun z z1 z2 => by rw [hA.2.2.2 _ _ (by unfold uCc; dsimp only; omega)]; exact hpar0 z z1 z2
  have n0 : Mr m_o 0 = nI N := by have := R.n0; rw [swp_r (zZ_n (by simp))] at this; exact this
  rw [c_holdAt hg hkg R.ct.1, r_meetAt]
  by_cases hk0 : k = 0
  · subst hk0
    have hD0 : D 0 = false := Bool.eq_false_iff.mpr (fun z => by have := (hI 0 z).1; omega)
    obtain ⟨Mc', Mr', j1, j2, j3⟩ := join_LI (k := 0) (M0 := M0) (R0 := R0) hN hkg hGb hs hb hpar hD0 hM hI hS hA f0 (fun h => by omega) (fun h => by omega)
    refine ⟨Mc', Mr', ?_, ?_, j3⟩
    · rw [if_pos (show nI 0 = (0 : Int32) from rfl)]
      exact j1 _
    · rw [if_pos (show nI 0 ≤ (0 : Int32) by decide)]
      unfold rStan f_X11_standing
      rw [if_pos (show nI 0 = (0 : Int32) from rfl), o1_s, if_neg (by decide), if_neg (by decide)]
      exact j2
  · have hk1 : 1 ≤ k := by omega
    obtain ⟨p1, p2⟩ := hpar k hk1 hkg
    have hpr : Mr m_parent k = nI (par k) := by have := (R.ct.2.2 k hk).1; rw [swp_r (zZ_n (by simp)), p1] at this; exact this.symm
    have hDp : D (par k) = false := Bool.eq_false_iff.mpr (fun z => by have := hS.1 _ z; omega)
    have hhas : ∀ s, s < N → Mc (51, s, 0) (par k) = Mr m_has (48 * s + par k) := fun s hs => by rw [(R.sv hs (show par k < 48 by omega)).1, swp_r (zZ_y (by omega) hDp (by decide))]
    rw [if_neg (show ¬ nI k = (0 : Int32) by rw [nI_z (by omega)]; omega), if_neg (show ¬ nI k ≤ (0 : Int32) by rw [show (0 : Int32) = nI 0 from rfl, nle (by omega) (by omega)]; omega), rd_n hk (by omega), hpr, rd_n (show par k < 48 by omega) (by omega), c_stay hN.2 hk hs hb g1]
    obtain ⟨l1, l2, l3⟩ := lst_in hs hb
    have i5 : ∀ s, s < N → (Mc (51, s, 0) k = 1 → Mc (51, s, 0) (par k) = 1 ∧ ¬ Mc (56, s, 0) k = 0) ∧ (¬ Mc (56, s, 0) k = 0 → Mc (51, s, 0) (par k) = 1) := fun s hs => (I.2.2.1 s hs k hk).2.2.2.2 (par k) (by omega) hk1 p1
    have i1 : ∀ s, s < N → Mc (51, s, 0) k = 0 ∨ Mc (51, s, 0) k = 1 := fun s hs => (I.2.2.1 s hs k hk).1
    have none51 : (∀ s, s < N → bt G s = true → Mc (56, s, 0) k = 0) → ∀ s, s < N → bt G s = true → Mc (51, s, 0) k = 0 := fun h s hs hb => (i1 s hs).resolve_right (fun z => ((i5 s hs).1 z).2 (h s hs hb))
    have clsN : Mc (56, lst N G, 0) k = 0 → (∀ s, s < N → bt G s = true → Mc (51, s, 0) k = 0) → ∀ (K1 : gM → Option (Int32 × gM)) (K2 : gM → Option (Int32 × gM)), ob (if Mc (56, lst N G, 0) k = 1 then some ((1 : Int32), Mc) else if cHo N Mc G k = 0 then some ((0 : Int32), Mc) else if Mc (56, lst N G, 0) k = 2 then ob (f_X4_canBeDropped N Mc (nI k)) (fun v14 M13 => if v14 = 0 then o1 (f_X4_bringBack N M13 (nI k)) (fun M17 => some ((1 : Int32), M17)) else o1 (f_X4_dropInside N M13) (fun M19 => some ((0 : Int32), M19))) else some ((1 : Int32), Mc)) (fun v21 M20 => if v21 = 0 then K1 M20 else K2 M20) = K1 Mc := fun h0 h51 K1 K2 => by
      rw [if_neg (show ¬ Mc (56, lst N G, 0) k = 1 by rw [h0]; decide), if_pos (show cHo N Mc G k = 0 by rw [ho_0 hN.2]; exact h51), ob_s, if_pos rfl]
    by_cases hsw : Mr m_swept (par k) = 0
    · have hDk0 : D k = false := Bool.eq_false_iff.mpr (fun z => (hDk hk1 hkg).mp z hsw)
      have hPk : pO par g D k = false := by unfold pO; rw [hDp, Bool.and_false]
      rw [if_pos hsw]
      unfold rStan
      rcases hA.1 (par k) p2 (by omega) with hall | hnone
      · rw [r_stand_all hN.2 hk1 hk (by omega) hpr n0 g2 hs hb (fun s hs hb => by rw [← hhas s hs, hall s hs hb]; decide), o1_s]
        have est : Mr m_entry (48 * lst N G + k) = Mc (56, lst N G, 0) k := by
          have := (R.sv l1 hk).b.1
          rw [swp_ent (by omega), show (48 * lst N G + k) % 48 = k by omega, hPk, if_neg (fun y => absurd y.2 (by decide))] at this
          exact this.symm
        rw [est]
        have agr : ∀ s, s < N → bt G s = true → Mc (56, s, 0) k = Mc (56, lst N G, 0) k := fun s hs hb => hA.2.1 k hk1 hkg p2 s _ hs l1 hb l2
        rcases (I.2.2.1 _ l1 k hk).2.1 with e | e | e
        · have h51 := none51 (fun s hs hb => by rw [agr s hs hb, e])
          refine ⟨Mc, Mr, clsN e h51 _ _, ?_, none_LI hN.2 hkg hpar hDk0 hM hI hS hA f0 h51⟩
          rw [e, if_pos rfl]
        · obtain ⟨Mc', Mr', j1, j2, j3⟩ := join_LI (k := k) (M0 := M0) (R0 := R0) hN hkg hGb hs hb hpar hDk0 hM hI hS hA f0 (fun _ s hs hb => ⟨hall s hs hb, by rw [agr s hs hb, e]; decide⟩) (fun _ h => (h _ l1).2 e)
          refine ⟨Mc', Mr', ?_, ?_, j3⟩
          · rw [if_pos e, ob_s, if_neg (by decide)]
            exact j1 _
          · rw [e, if_neg (by decide), if_neg (by decide)]
            exact j2
        · rw [e, if_neg (show ¬ (2 : Int32) = 0 by decide), if_pos rfl, r_someHas hN.2 hk n0 g2, o1_s, if_neg (show ¬ (2 : Int32) = 1 by decide)]
          have hk51 : ∀ s, s < N → Mc (51, s, 0) k = Mr m_has (48 * s + k) := fun s hs => by rw [(R.sv hs hk).1, swp_r (zZ_y hk hDk0 (by decide))]
          by_cases hho : cHo N Mc G k = 0
          · have h51 := hho
            rw [ho_0 hN.2] at h51
            refine ⟨Mc, Mr, ?_, ?_, none_LI hN.2 hkg hpar hDk0 hM hI hS hA f0 h51⟩
            · rw [if_pos hho, ob_s, if_pos rfl]
            · rw [if_pos (show (2 : Int32) = 2 from rfl), show aF (fun s => !(bt G s && nz (Mr m_has (48 * s + k)))) 0 N = true from aF_t (fun s _ hs => by
                cases hbs : bt G s with
                | false => rfl
                | true => rw [← hk51 s (by omega), h51 s (by omega) hbs]; rfl), if_pos (by decide)]
          · obtain ⟨Mc', Mr', j1, j2, j3⟩ := gone_LI (k := k) (M0 := M0) (R0 := R0) hN hk1 hkg hGb hs hb hpar hDk0 hM hI hS hA f0 hall (fun s hs hb => by rw [agr s hs hb, e]) hho
            refine ⟨Mc', Mr', ?_, ?_, j3⟩
            · rw [if_neg hho]
              exact j1 _
            · have : aF (fun s => !(bt G s && nz (Mr m_has (48 * s + k)))) 0 N = false := Bool.eq_false_iff.mpr (fun h => hho (by
                rw [ho_0 hN.2]
                intro s hs hbs
                have := (aF_iff _ _).mp h s (by omega) (by omega)
                rw [hbs, ← hk51 s hs] at this
                exact Classical.not_not.mp (fun z => by rw [(nz_t _).mpr z] at this; exact absurd this (by decide))))
              rw [if_pos (show (2 : Int32) = 2 from rfl), this, if_neg (by decide)]
              exact j2
      · have h56 : ∀ s, s < N → bt G s = true → Mc (56, s, 0) k = 0 := fun s hs hb => Classical.not_not.mp (fun z => by
          have := (i5 s hs).2 z
          rw [hnone s hs hb] at this; exact absurd this (by decide))
        have h51 := none51 h56
        refine ⟨Mc, Mr, clsN (h56 _ l1 l2) h51 _ _, ?_, none_LI hN.2 hkg hpar hDk0 hM hI hS hA f0 h51⟩
        rw [r_stand_none hN.2 hk1 hk (by omega) hpr n0 g2 (fun s hs hb => by rw [← hhas s hs, hnone s hs hb]), o1_s, if_pos rfl]
    · have h56 : ∀ s, s < N → bt G s = true → Mc (56, s, 0) k = 0 := fun s hs hb => Classical.not_not.mp (fun z => by
        have := (i5 s hs).2 z
        rw [hS.2.2.2 (par k) p2 (by omega) hsw s hs hb] at this; exact absurd this (by decide))
      have h51 := none51 h56
      obtain ⟨Mr', w1, w2⟩ := LI_sweep (k := k) (M0 := M0) (R0 := R0) hN.2 hk1 hkg hGb hpar ((hDk hk1 hkg).mpr hsw) hM hI hS hA h51 f0
      refine ⟨Mc, Mr', clsN (h56 _ l1 l2) h51 _ _, ?_, w2⟩
      rw [if_neg hsw]
      exact w1
theorem meet_loop (hN : 1 ≤ N ∧ N ≤ 4) (hg : g ≤ 47) (hGb : ∀ i, N ≤ i → i < 32 → bt G i = false) (hs : s < N) (hb : bt G s = true) (hpar0 : ∀ z, 1 ≤ z → z ≤ g → M0 (2, 0, 0) z = nI (par z) ∧ par z < z) (h : LI N g G par 0 M0 R0 Mc Mr) : ∃ Mc' Mr', f_X4_hold_L12 N 100 (0 : Int32) Mc = some (Mc' (13, 0, 0) 7, Mc') ∧ f_X11_meet_L145 100 (0 : Int32) Mr = some ((Mr' m_o 55).toInt64, Mr') ∧ LI N g G par (g + 1) M0 R0 Mc' Mr' := by
  refine loop2 (fun u k M => f_X4_hold_L12 N u (nI k) M) (fun u k M => f_X11_meet_L145 u (nI k) M) (g + 1) (fun M => some (M (13, 0, 0) 7, M)) (fun M => some ((M m_o 55).toInt64, M)) (fun k M M2 => LI N g G par k M0 R0 M M2) (by omega) (fun u u' k M M2 hk h => ?_) (fun u M M2 h => ?_) (fun u M M2 h => ?_) h
  · obtain ⟨Mc', Mr', q1, q2, q3⟩ := body hN (show k ≤ g by omega) hGb hs hb hpar0 h u
    refine ⟨Mc', Mr', q1, ?_, q3⟩
    obtain ⟨D, hM, -⟩ := h
    have n6 : M2 m_o 6 = nI (g + 1) := by have := hM.1.ct.2.1; rw [swp_r (zZ_n (by simp))] at this; exact this
    show f_X11_meet_L145 (u' + 1) (nI k) M2 = f_X11_meet_L145 u' (nI (k + 1)) Mr'
    rw [f_X11_meet_L145, lt_d, n6, if_neg (nI_ge (by omega) (by omega)), q2, o1_s, lt_d, nI_1]
  · obtain ⟨D, hM, -⟩ := h
    show f_X4_hold_L12 N (u + 1) (nI (g + 1)) M = _
    rw [f_X4_hold_L12, lt_d, hM.1.ct.1, if_pos (show nI g < nI (g + 1) by rw [nlt (by omega) (by omega)]; omega), lt_d]
  · obtain ⟨D, hM, -⟩ := h
    have n6 : M2 m_o 6 = nI (g + 1) := by have := hM.1.ct.2.1; rw [swp_r (zZ_n (by simp))] at this; exact this
    show f_X11_meet_L145 (u + 1) (nI (g + 1)) M2 = _
    rw [f_X11_meet_L145, lt_d, n6, if_pos (nI_le (by omega) (by omega)), lt_d]
theorem pds_0 (h : ∀ z, D z = false) : pds N G D M = 0 := by
  unfold pds
  have : ∀ n, wsum (fun z => if D z = true then cntF (bt (rHo N M G z)) 0 N else 0) n = 0 := by
    intro n
    induction n with
    | zero => rfl
    | succ n ih =>
      show wsum _ n + (if D n = true then _ else 0) = 0
      rw [ih, h n, if_neg (by decide)]
  rw [this]; rfl
theorem swp_n (h : ∀ z, D z = false) : swp N G D (pO par g D) M = M := by
  have e1 : D = fun _ => false := funext h
  have e2 : pO par g D = fun _ => false := funext fun z => by unfold pO; rw [h, Bool.and_false]
  rw [e2, e1]
  exact swp_0
theorem r_meetHead : ∃ J1 : gM → Option (Int64 × gM), (∀ M E : gM, E = gset M m_o 66 0 → f_X11_isServer M (nI a) = some 1 → f_X11_meet M (nI a) = rd E m_up 4 (nI a) (fun v8 => if v8 = 0 then some ((-2199023255552 : Int64), E) else f_X11_meet_L46 (nI a) J1 100 (0 : Int32) (gset E m_o 53 0))) ∧ ∀ M11 : gM, J1 M11 = o1 (f_X11_manyOf M11 (M11 m_o 53)) (fun v14 => f_X11_meet_L124 (fun M17 => f_X11_meet_L145 100 (0 : Int32) M17) 100 (0 : Int32) (gset (gset M11 m_o 54 v14) m_o 55 0)) := by
  refine ⟨fun M11 => lt (M11 m_o 53) (fun v12 => o1 (f_X11_manyOf M11 v12) (fun v14 => lt (gset M11 m_o 54 v14) (fun M15 => lt (gset M15 m_o 55 (0 : Int32)) (fun M16 => jn (fun (M17 : gM) => f_X11_meet_L145 100 (0 : Int32) M17) (fun J143 => f_X11_meet_L124 J143 100 (0 : Int32) M16))))), fun M E hE h => ?_, fun M11 => ?_⟩
  · unfold f_X11_meet
    rw [h, o1_s, jn_d, if_neg (by decide)]
    show lt (gset M m_o 66 0) _ = _
    rw [lt_d, ← hE, lt_d, show E m_o 66 = 0 from by rw [hE, g66], if_pos (by decide)]
    refine congrArg _ (funext fun v8 => ?_)
    by_cases h8 : v8 = 0
    · rw [if_pos h8, if_pos h8]
    · rw [if_neg h8, if_neg h8, lt_d, jn_d]
  · show lt (M11 m_o 53) _ = _
    rw [lt_d]
    refine congrArg _ (funext fun v14 => ?_)
    rw [lt_d, lt_d, jn_d]
theorem st_meet (hN : 1 ≤ N ∧ N ≤ 4) (h : St N T zz.1 zz.2.1) : ∃ z1, s_meet N zz a1 = some z1 ∧ St N (T + 1) z1.1 z1.2.1 := by
  obtain ⟨g, R, I, U, O⟩ := id h
  have hg := I.1.1
  rcases rng a1 N (by omega) with ⟨a, ha, rfl⟩ | bad
  · obtain ⟨E, hE⟩ : ∃ X, X = gset zz.2.1 m_o 66 0 := ⟨_, rfl⟩
    have fE : cf (fun j q => j.1 = 0 ∧ q = 66) zz.2.1 E := by rw [hE]; exact cf.st ⟨rfl, rfl⟩
    have RE : Rel N g zz.1 E := R.fr hN.2 (cf.rf _ _) (fE.mo (fun j q => by unfold rsc; omega))
    obtain ⟨J1, hJ1, hJ2⟩ := r_meetHead (a := a)
    have hh := hJ1 zz.2.1 E hE (r_isServer_ok R.n0 hN.2 ha)
    rw [rd_n (by omega) (by omega)] at hh
    have hup : bt (zz.1 (5, 0, 0) 2) a = nz (E m_up a) := by
      rw [RE.2.2.1.1, bt_sS (by omega) (by omega), decide_eq_true ha, Bool.true_and]
    by_cases hu : E m_up a = 0
    · have c1 : f_X10_meet N zz.1 (nI a) = some (0, -2199023255552, zz.1) := by
        unfold f_X10_meet
        rw [c_checkServer_ok R.c0 hN.2 ha, o1_s, if_pos rfl, c_isUp (by omega), o1_s, hup, hu]
        rfl
      rw [if_pos hu] at hh
      refine q_meet c1 hh (by rw [hE]; exact g66 _ _) (by omega) (fun _ => rfl) ?_
      rw [hE]
      exact h.thr hN.2 0
    · have hbu : bt (zz.1 (5, 0, 0) 2) a = true := by rw [hup]; exact (nz_t _).mpr hu
      obtain ⟨G, hG⟩ : ∃ v, v = cGr zz.1 a := ⟨_, rfl⟩
      have hgb : ∀ t, t < 32 → bt G t = (decide (t < N) && (decide (t = a) || (nz (E m_up t) && nz (E m_linked (4 * a + t))))) := fun t ht => by rw [hG]; exact gr_b RE hN.2 ha hbu ht
      have hGb : ∀ i, N ≤ i → i < 32 → bt G i = false := fun i h1 h2 => by rw [hgb i h2, decide_eq_false (by omega)]; rfl
      have hba : bt G a = true := by rw [hgb a (by omega), decide_eq_true ha, decide_eq_true rfl]; rfl
      rw [if_neg hu, r_group hN.2 ha hbu RE, ← hG, hJ2] at hh
      -- the reference's start
      obtain ⟨mv, hmv⟩ : ∃ v, f_X11_manyOf (gset E m_o 53 G) (gset E m_o 53 G m_o 53) = some v := ⟨_, rfl⟩
      obtain ⟨E1, hE1⟩ : ∃ X, X = gpu (gset (gset (gset E m_o 53 G) m_o 54 mv) m_o 55 0) m_swept 0 48 (fun _ => 0) := ⟨_, rfl⟩
      have f1 : cf (fun j q => (j.1 = 0 ∧ 53 ≤ q ∧ q ≤ 55) ∨ j.1 = 61) E E1 := by
        rw [hE1]
        exact (((cf.st (Or.inl ⟨rfl, by omega, by omega⟩)).tr (cf.st (Or.inl ⟨rfl, by omega, by omega⟩))).tr (cf.st (Or.inl ⟨rfl, by omega, by omega⟩))).tr (cf.pu (fun _ _ _ => Or.inr rfl))
      rw [hmv, o1_s, r_swept0, ← hE1] at hh
      -- the class's
      obtain ⟨A, hA⟩ : ∃ X, X = gset (gset zz.1 (13, 0, 0) 6 G) (13, 0, 0) 7 0 := ⟨_, rfl⟩
      have fA : cf (fun j q => j.1 = 13) zz.1 A := by rw [hA]; exact (cf.st rfl).tr (cf.st rfl)
      have RA : Rel N g A E1 := RE.fr hN.2 (fA.mo (fun j q h => by unfold csc; omega)) (f1.mo (fun j q h => by unfold rsc; omega))
      have IA : Inv N g A := I.free0 hN.2 (fA.mo (fun j q h => by unfold iFree csc; omega))
      have JA : JInv N g A := ⟨IA.1, IA.2.1, IA.2.2.1, IA.2.2.2.1, IA.2.2.2.2.1, IA.2.2.2.2.2.1⟩
      obtain ⟨par, hpd⟩ : ∃ f : Nat → Nat, f = fun z => (A (2, 0, 0) z).toNatClampNeg := ⟨_, rfl⟩
      have hpar : ∀ z, 1 ≤ z → z ≤ g → A (2, 0, 0) z = nI (par z) ∧ par z < z := fun z z1 z2 => by
        obtain ⟨p, p1, p2, -⟩ := JA.1.2.2.2 z z1 z2
        have e : par z = p := by rw [hpd]; show (A (2, 0, 0) z).toNatClampNeg = p; rw [p2, nI_clamp (by omega)]
        rw [e]; exact ⟨p2, p1⟩
      have D0 : ∀ z : Nat, (fun _ : Nat => false) z = false := fun _ => rfl
      have L0 : LI N g G par 0 A E1 A E1 := by
        refine ⟨fun _ => false, ⟨by rw [swp_n D0]; exact RA, JA, ?_, ?_, ?_⟩, fun x hx => absurd hx Bool.false_ne_true, ⟨fun z hz => absurd hz Bool.false_ne_true, fun z _ hz => ?_, fun z _ _ _ => ⟨fun h => absurd h Bool.false_ne_true, fun h => ?_⟩, fun z hz => absurd hz (by omega)⟩, fun h => absurd h (by omega), ⟨fun z hz => absurd hz (by omega), fun x _ _ hx => absurd hx (by omega), fun _ _ _ h => h, cf.rf _ _⟩, cf.rf _ _⟩
        · rw [hA, gset_o (by simp), gset_aa]
        · rw [hE1, gpu_ne (by simp), gset_o (by simp), gset_o (by simp), gset_aa]
        · rw [pds_0 D0, hA, gset_aa, hE1, gpu_ne (by simp), gset_aa]; rfl
        · rw [hE1, gpu_r, if_pos ⟨rfl, by omega, by omega⟩]
        · rcases h with h | h
          · exact absurd h Bool.false_ne_true
          · omega
      obtain ⟨Mc', Mr', q1, q2, D, hM, hI, hS, -, ⟨-, -, hpn, fC⟩, fQ⟩ := meet_loop hN hg hGb ha hba hpar L0
      have hD : ∀ z, D z = false := fun z => Bool.eq_false_iff.mpr (fun w => by
        have h1 := hS.1 z w
        have h2 := (hI z w).2.1
        omega)
      obtain ⟨RM, JM, -, -, gM3⟩ := hM
      rw [swp_n hD] at RM
      rw [pds_0 hD, Int32.add_zero] at gM3
      have c1 : f_X10_meet N zz.1 (nI a) = some (0, (Mc' (13, 0, 0) 7).toInt64, Mc') := by
        unfold f_X10_meet
        rw [c_checkServer_ok R.c0 hN.2 ha, o1_s, if_pos rfl, c_isUp (by omega), o1_s, hbu, zb_t, if_neg (by decide), c_nearServer hN.2 ha hbu, o1_s, ← hG]
        unfold f_X4_hold
        rw [lt_d, lt_d, ← hA, q1, ob_s]
      have fCz : cf (fun j q => uCc j q) zz.1 Mc' := (fA.mo (fun j q h => by unfold uCc; omega)).tr fC
      have fQz : cf (fun j q => uQq j q ∨ (j.1 = 0 ∧ (q = 66 ∨ (53 ≤ q ∧ q ≤ 55)))) zz.2.1 Mr' := ((fE.mo (fun j q h => by omega)).tr (f1.mo (fun j q h => by unfold uQq; omega))).tr (fQ.mo (fun j q h => Or.inl h))
      have IM : Inv N g Mc' := JM.up (fun c hc => by
        obtain ⟨n, k1, k2, k3, k4, k5⟩ := IA.2.2.2.2.2.2.1 c hc
        have ec : ∀ (t q : Nat), (t = 40 ∨ t = 41 ∨ t = 42 ∨ t = 43 ∨ t = 33) → Mc' (t, c, 0) q = A (t, c, 0) q := fun t q ht => fC _ _ (by unfold uCc; dsimp only; omega)
        refine ⟨n, k1, by rw [ec 40 4 (by omega)]; exact k2, fun h0 o ho => by rw [ec 33 o (by omega)]; exact k3 h0 o ho, fun i hi => ?_, fun i j hi hj => by rw [ec 41 i (by omega), ec 41 j (by omega), ec 42 i (by omega), ec 42 j (by omega)]; exact k5 i j hi hj⟩
        obtain ⟨ob, o1', o2', o3', o4'⟩ := k4 i hi
        have e51 : Mc' (51, 4 + c, 0) ob = A (51, 4 + c, 0) ob := fC _ _ (by unfold uCc; dsimp only; omega)
        have e4 : Mc' (4, 0, 0) ob = A (4, 0, 0) ob := fC _ _ (by unfold uCc; dsimp only; omega)
        have e2 : Mc' (2, 0, 0) ob = A (2, 0, 0) ob := fC _ _ (by unfold uCc; dsimp only; omega)
        refine ⟨ob, o1', o2', by rw [ec 42 i (by omega)]; exact o3', ?_⟩
        rw [ec 41 i (by omega), ec 43 i (by omega), e51, e4, e2, ec 33 ob (by omega)]
        rcases o4' with h | h | h
        · exact Or.inl h
        · exact Or.inr (Or.inl ⟨h.1, h.2.1, hpn ob o1' o2' h.2.2⟩)
        · exact Or.inr (Or.inr h)) (IA.2.2.2.2.2.2.2.fr fC (by intro t c q h1 h2; unfold uCc; dsimp only; omega))
      refine q_meet c1 (hh.trans q2) ?_ (by omega) (fun _ => by rw [gM3]) ⟨g, RM, IM, (U.fr fCz fQz ?_ ?_ ?_ ?_ ?_ ?_).up (by omega), O.fr fCz fQz ?_ ?_ ?_⟩
      · rw [fQ _ _ (by unfold uQq; dsimp only; omega), f1 _ _ (by dsimp only; omega), hE, g66]; rfl
      · intro c q; unfold uCc; dsimp only; omega
      · intro c; unfold uCc; dsimp only; omega
      · intro q; unfold uQq; dsimp only; omega
      · intro q; unfold uQq; dsimp only; omega
      · unfold uQq; dsimp only; omega
      · unfold uQq; dsimp only; omega
      · intro c q; unfold uCc; dsimp only; omega
      · intro c q; unfold uCc; dsimp only; omega
      · intro q; unfold uQq; dsimp only; omega
  · have c1 : f_X10_meet N zz.1 a1 = some (1, 0, zz.1) := by
      unfold f_X10_meet
      rw [c_checkServer_bad R.c0 bad, o1_s, if_neg (by decide)]
    have r1 : f_X11_meet zz.2.1 a1 = some (0, gset zz.2.1 m_o 66 1) := by
      unfold f_X11_meet
      rw [r_isServer_bad R.n0 hN.1 hN.2 bad, o1_s, jn_d, if_pos rfl]
      show lt (gset zz.2.1 m_o 66 1) _ = _
      rw [lt_d, lt_d, g66, if_neg (by decide)]
    exact q_meet c1 r1 (g66 _ _) (by omega) (fun e => absurd e (by decide)) (h.thr hN.2 1)
end ZZE
