/-! layer 2: a file among servers that meet -/
section ZM
variable {N g B s o c d x y z T n m t l i j a b : Nat} {A E M M' X Mc Mr Mc' Mr' : gM} {row a3 : gI} {D P : Nat → Bool} {G pd v w nr a1 a2 a4 a5 : Int32} {f : Nat → Int32} {zz : lS}
theorem ho_all (hN : N ≤ 4) (hGb : ∀ i, N ≤ i → i < 32 → bt G i = false) : (cHo N M G y = G) = ∀ s, s < N → bt G s = true → ¬ M (51, s, 0) y = 0 := by
  refine propext ⟨fun h s hs hb => ?_, fun h => ?_⟩
  · rw [← h] at hb
    exact (bt_cHo hN hb).2.2
  · unfold cHo
    refine b_ext fun i hi => ?_
    rw [bt_sS (by omega) hi]
    by_cases hiN : i < N
    · rw [decide_eq_true hiN, Bool.true_and]
      cases hb : bt G i with
      | false => rfl
      | true => rw [show nz (M (51, i, 0) y) = true from (nz_t _).mpr (h i hiN hb)]; rfl
    · rw [decide_eq_false hiN, hGb i (by omega) hi]; rfl
theorem c_allHold (hN : N ≤ 4) (hy : y < 48) (hG : M (13, 0, 0) 6 = G) : f_X4_allHold N M (nI y) = some (zb (decide (cHo N M G y = G))) := by
  unfold f_X4_allHold
  rw [lt_d, hG, c_holders hN hy, o1_s, lt_d]
  by_cases h : cHo N M G y = G
  · rw [if_pos h, decide_eq_true h]; rfl
  · rw [if_neg h, decide_eq_false h]; rfl
theorem ver_eq (hN : N ≤ 4) (hyg : y ≤ g) (hg : g ≤ 47) (hGb : ∀ i, N ≤ i → i < 32 → bt G i = false) (hs : s < N) (hb : bt G s = true) (hS : ∀ s, s < N → rSv N s y Mc Mr) (hI : ∀ s, s < N → iVr s y Mc ∧ (Mc (51, s, 0) y = 0 ∨ Mc (51, s, 0) y = 1)) (hcat : iCat g Mc) (C : Cd N n Mc Mr) (hn : 2 ≤ n) (hd : Mc (4, 0, 0) y = 0) (hl : Mc (60, 48 * lst N G + y, 0) 3 = nI m) (m6 : m ≤ 6) :
    (decide (cHo N Mc G y = G) && (aF (fun s => !bt G s || cSl N g Mc s (lst N G) y) 0 N && (decide (m = n) && cVl N Mc (48 * lst N G + y) 192 0 m))) = aF (rJv N n G Mr (lst N G) y) 0 N := by
  obtain ⟨c1, c2, c3, c4⟩ := id C
  obtain ⟨l1, l2, l3⟩ := lst_in hs hb
  have hv : ∀ i j : Nat, rEq (Mc (64, i, j)) (Mc (64, 192, j)) 0 (N + 4) = true → ∀ k, k < N + 4 → Mc (64, i, j) k = Mc (64, 192, j) k := fun i j h k hk => (rEq_iff _ _ _ _).mp h k (by omega) (by omega)
  refine Bool.eq_iff_iff.mpr ⟨fun h => ?_, fun h => ?_⟩
  · rw [Bool.and_eq_true, Bool.and_eq_true, Bool.and_eq_true, decide_eq_true_eq, decide_eq_true_eq, ho_all hN hGb] at h
    obtain ⟨h1, h2, h3, h4⟩ := h
    subst h3
    refine aF_t fun t _ ht => ?_
    have ht : t < N := by omega
    unfold rJv
    cases hbt : bt G t with
    | false => rfl
    | true =>
      have k2 := (aF_iff _ _).mp h2 t (by omega) (by omega)
      rw [hbt] at k2
      have k2 : cSl N g Mc t (lst N G) y = true := k2
      unfold cSl cCl at k2
      simp only [Bool.and_eq_true, decide_eq_true_eq] at k2
      obtain ⟨⟨k51, k52, k53, k55, k56⟩, k60, kv⟩ := k2
      rw [hl] at k60
      rw [k60, nI_clamp (by omega)] at kv
      have Rt := hS t ht
      have Rl := hS _ l1
      have ht1 : ¬ Mr m_has (48 * t + y) = 0 := by rw [← Rt.1]; exact h1 t ht hbt
      have hl1 : ¬ Mr m_has (48 * lst N G + y) = 0 := by rw [← Rl.1]; exact h1 _ l1 l2
      have hvt : Mr m_versions (48 * t + y) = nI m := by rw [← Rt.dd.1]; exact k60
      rw [show nz (Mr m_has (48 * t + y)) = true from (nz_t _).mpr ht1, decide_eq_true hvt]
      have e55 : rEq (fun k => Mr m_vector (8 * (48 * t + y) + k)) (fun k => Mr m_vector (8 * (48 * lst N G + y) + k)) 0 (N + 4) = true := rEq_t fun k hk => by
        have a1 := Rt.a.2.2.2 k hk
        have a2 := Rl.a.2.2.2 k hk
        rw [if_neg ht1] at a1
        rw [if_neg hl1] at a2
        rw [← a1, ← a2]
        exact (rEq_iff _ _ _ _).mp k55 k (by omega) (by omega)
      rw [e55]
      have eC : rCv N m Mr (48 * t + y) 0 m = true := aF_t fun i _ hi => by
        have hi : i < m := by omega
        obtain ⟨d1, d2, d3⟩ := Rt.dd.2 i (by omega) (by rw [hvt]; exact nI_lt hi (by omega))
        obtain ⟨x1, x2, x3, -⟩ := c4 i hi
        have kvi := (aF_iff _ _).mp kv i (by omega) (by omega)
        have h4i := (aF_iff _ _).mp h4 i (by omega) (by omega)
        simp only [Bool.and_eq_true, decide_eq_true_eq] at kvi h4i
        rw [← d1, ← d2, kvi.1, kvi.2.1, h4i.1, h4i.2.1, x1, x2, decide_eq_true rfl, decide_eq_true rfl]
        have : rEq (fun k => Mr m_versionVector (8 * (6 * (48 * t + y) + i) + k)) (fun k => Mr m_candidateVector (8 * i + k)) 0 (N + 4) = true := rEq_t fun k hk => by
          rw [← d3 k hk, ← x3 k hk]
          exact ((rEq_iff _ _ _ _).mp kvi.2.2 k (by omega) (by omega)).trans (hv _ _ h4i.2.2 k hk)
        rw [this]; rfl
      rw [eC]; rfl
  · have F : ∀ t, t < N → bt G t = true → ¬ Mr m_has (48 * t + y) = 0 ∧ Mr m_versions (48 * t + y) = nI n ∧ (∀ k, k < N + 4 → Mr m_vector (8 * (48 * t + y) + k) = Mr m_vector (8 * (48 * lst N G + y) + k)) ∧ rCv N n Mr (48 * t + y) 0 n = true := fun t ht hbt => by
      have k := (aF_iff _ _).mp h t (by omega) (by omega)
      unfold rJv at k
      rw [hbt] at k
      simp only [Bool.not_true, Bool.false_or, Bool.and_eq_true, decide_eq_true_eq] at k
      exact ⟨(nz_t _).mp k.1, k.2.1, fun q hq => (rEq_iff _ _ _ _).mp k.2.2.1 q (by omega) (by omega), k.2.2.2⟩
    obtain ⟨fl1, fl2, fl3, fl4⟩ := F _ l1 l2
    have hmn : m = n := by
      have := (hS _ l1).dd.1
      rw [hl, fl2, neq (by omega) (by omega)] at this
      exact this
    subst hmn
    have K : ∀ t, t < N → bt G t = true → Mc (51, t, 0) y = 1 ∧ Mc (60, 48 * t + y, 0) 3 = nI m ∧ Mc (52, t, 0) y = Mc (61, 192, 0) 0 ∧ Mc (53, t, 0) y = Mc (62, 192, 0) 0 ∧ (∀ k, k < N + 4 → Mc (55, t, y) k = Mr m_vector (8 * (48 * lst N G + y) + k)) ∧ ∀ i, i < m → Mc (61, 48 * t + y, 0) i = Mc (61, 192, 0) i ∧ Mc (62, 48 * t + y, 0) i = Mc (62, 192, 0) i ∧ ∀ k, k < N + 4 → Mc (64, 48 * t + y, i) k = Mc (64, 192, i) k := fun t ht hbt => by
      obtain ⟨f1, f2, f3, f4⟩ := F t ht hbt
      have Rt := hS t ht
      have h51 : Mc (51, t, 0) y = 1 := (hI t ht).2.resolve_left (fun z => f1 (by rw [← Rt.1]; exact z))
      have h60 : Mc (60, 48 * t + y, 0) 3 = nI m := by rw [Rt.dd.1]; exact f2
      have hc : ∀ i, i < m → Mc (61, 48 * t + y, 0) i = Mc (61, 192, 0) i ∧ Mc (62, 48 * t + y, 0) i = Mc (62, 192, 0) i ∧ ∀ k, k < N + 4 → Mc (64, 48 * t + y, i) k = Mc (64, 192, i) k := fun i hi => by
        obtain ⟨d1, d2, d3⟩ := Rt.dd.2 i (by omega) (by rw [f2]; exact nI_lt hi (by omega))
        obtain ⟨x1, x2, x3, -⟩ := c4 i hi
        have k := (aF_iff _ _).mp f4 i (by omega) (by omega)
        simp only [Bool.and_eq_true, decide_eq_true_eq] at k
        refine ⟨by rw [d1, x1]; exact k.1, by rw [d2, x2]; exact k.2.1, fun q hq => ?_⟩
        rw [d3 q hq, x3 q hq]
        exact (rEq_iff _ _ _ _).mp k.2.2 q (by omega) (by omega)
      obtain ⟨-, u, u6, hu, hu2, -⟩ := (hI t ht).1
      have hum : u = m := by rw [h60, neq (by omega) (by omega)] at hu; omega
      subst hum
      obtain ⟨-, -, v1, v2⟩ := hu2 (by omega)
      refine ⟨h51, h60, by rw [v1]; exact (hc 0 (by omega)).1, by rw [v2]; exact (hc 0 (by omega)).2.1, fun k hk => ?_, hc⟩
      have a1 := Rt.a.2.2.2 k hk
      rw [if_neg f1] at a1
      rw [a1]; exact f3 k hk
    rw [Bool.and_eq_true, Bool.and_eq_true, Bool.and_eq_true, decide_eq_true_eq, decide_eq_true_eq, ho_all hN hGb]
    obtain ⟨w1, w2, w3, w4, w5, w6⟩ := K _ l1 l2
    refine ⟨fun t ht hbt => by rw [(K t ht hbt).1]; decide, aF_t fun t _ ht => ?_, rfl, aF_t fun i _ hi => ?_⟩
    · cases hbt : bt G t with
      | false => rfl
      | true =>
        obtain ⟨t1, t2, t3, t4, t5, t6⟩ := K t (by omega) hbt
        show cSl N g Mc t (lst N G) y = true
        unfold cSl cCl
        simp only [Bool.and_eq_true, decide_eq_true_eq]
        refine ⟨⟨by rw [t1, w1], by rw [t3, w3], by rw [t4, w4], rEq_t fun k hk => by rw [t5 k hk, w5 k hk], aF_t fun p p1 p2 => ?_⟩, by rw [t2, w2], aF_t fun i _ hi => ?_⟩
        · have : ¬ Mc (2, 0, 0) p = nI y := fun e => by
            obtain ⟨q, q1, q2, q3⟩ := hcat.2.2.2 p (by omega) (by omega)
            rw [e, neq (by omega) (by omega)] at q2
            subst q2
            rw [hd] at q3; exact absurd q3 (by decide)
          rw [decide_eq_false this]; rfl
        · rw [t2, nI_clamp (by omega)] at hi
          obtain ⟨z1, z2, z3⟩ := t6 i (by omega)
          obtain ⟨y1, y2, y3⟩ := w6 i (by omega)
          rw [decide_eq_true (z1.trans y1.symm), decide_eq_true (z2.trans y2.symm), rEq_t fun k hk => (z3 k hk).trans (y3 k hk).symm]; rfl
    · obtain ⟨y1, y2, y3⟩ := w6 i (by omega)
      rw [decide_eq_true y1, decide_eq_true y2, rEq_t fun k hk => y3 k hk]; rfl
theorem file_step (hN : 1 ≤ N ∧ N ≤ 4) (hyg : y ≤ g) (hD : D y = false) (hP : P y = false) (hGb : ∀ i, N ≤ i → i < 32 → bt G i = false) (hs : s < N) (hb : bt G s = true) (h : MM N g G pd D P Mc Mr) (hd : Mc (4, 0, 0) y = 0) (hpar : ∀ s, s < N → bt G s = true → 1 ≤ y → ∀ p, p < 48 → Mc (2, 0, 0) y = nI p → Mc (51, s, 0) p = 1 ∧ ¬ Mc (56, s, 0) y = 0) : ∃ Mc' Mr', f_X4_joinFile N Mc (nI y) = some Mc' ∧ f_X11_mergeFile Mr (nI y) = some Mr' ∧ MM N g G pd D P Mc' Mr' ∧ ((∀ s, s < N → bt G s = true → Mc' (51, s, 0) y = 1) ∨ (∀ s, s < N → bt G s = true → Mc' (51, s, 0) y = 0)) ∧ cf (oC y) Mc Mc' ∧ cf oQ Mr Mr' ∧ cf (fun j q => ¬ zZ D P j q) Mr Mr' := by
  obtain ⟨hN1, hN⟩ := hN
  obtain ⟨R, I, g1, g2, g3⟩ := id h
  have hg := I.1.1
  have hy : y < 48 := by omega
  have hS : ∀ s, s < N → rSv N s y Mc Mr := fun s hs => live_sv R hs hN hy hD hP
  have hI : ∀ s, s < N → iVr s y Mc ∧ (Mc (51, s, 0) y = 0 ∨ Mc (51, s, 0) y = 1) := fun s hs => ⟨I.2.2.2.1 s hs y hy, (I.2.2.1 s hs y hy).1⟩
  have n0 : Mr m_o 0 = nI N := by have := R.n0; rw [swp_r (zZ_n (by simp))] at this; exact this
  have n1 : Mr m_o 1 = nI (N + 4) := by have := R.n1; rw [swp_r (zZ_n (by simp))] at this; exact this
  have hdr : Mr m_isDirectory y = 0 := by have := (R.ct.2.2 y hy).2.2; rw [swp_r (zZ_n (by simp))] at this; rw [← this]; exact hd
  obtain ⟨n, A, E, e1, e2, C, hn, fA, fE⟩ := gather_all hN hy hS hI n0 n1 g2 g1 hdr
  have zE : cf (fun j q => ¬ zZ D P j q) Mr E := fE.mo (fun j q hh => zZ_n (by revert hh; unfold rCd; omega))
  have hM : MM N g G pd D P A E := ⟨R.fr hN (fA.mo (fun j q h => by revert h; unfold cCd csc; omega)) ((swp_cf hN fE zE).mo (fun j q h => by revert h; unfold rCd rsc; omega)), I.free0 hN (fA.mo (fun j q h => by revert h; unfold cCd iFree csc; omega)), by rw [fA _ _ (by unfold cCd; dsimp only; omega)]; exact g1, by rw [fE _ _ (by unfold rCd; dsimp only; omega)]; exact g2, by rw [fA _ _ (by unfold cCd; dsimp only; omega), fE _ _ (by unfold rCd; dsimp only; omega)]; exact g3⟩
  have a13 : A (13, 0, 0) 6 = G := hM.2.2.1
  obtain ⟨c1, c2, c3, c4⟩ := id C
  have eA : ∀ (j : gI) q, (j.1 = 51 ∨ j.1 = 2 ∨ j.1 = 4 ∨ j.1 = 56) → A j q = Mc j q := fun j q hj => fA _ _ (by unfold cCd; omega)
  have hdA : A (4, 0, 0) y = 0 := by rw [eA _ _ (by simp)]; exact hd
  have hparA : ∀ s, s < N → bt G s = true → 1 ≤ y → ∀ p, p < 48 → A (2, 0, 0) y = nI p → A (51, s, 0) p = 1 ∧ ¬ A (56, s, 0) y = 0 := fun s hs hb y1 p hp e => by
    rw [eA _ _ (by simp)] at e
    rw [eA _ _ (by simp), eA _ _ (by simp)]
    exact hpar s hs hb y1 p hp e
  have oA : cf (oC y) Mc A := fA.mo (fun j q hh => by unfold oC; exact Or.inr (Or.inr (Or.inr (Or.inr (Or.inr (Or.inr (Or.inl hh)))))))
  have oE : cf oQ Mr E := fE.mo (fun j q hh => by unfold oQ; exact Or.inr (Or.inr (Or.inr (Or.inr (Or.inr hh)))))
  have hSA : ∀ s, s < N → rSv N s y A E := fun s hs => live_sv hM.1 hs hN hy hD hP
  have hIA : ∀ s, s < N → iVr s y A ∧ (A (51, s, 0) y = 0 ∨ A (51, s, 0) y = 1) := fun s hs => ⟨hM.2.1.2.2.2.1 s hs y hy, (hM.2.1.2.2.1 s hs y hy).1⟩
  unfold f_X4_joinFile f_X11_mergeFile
  rw [e1, e2, o1_s, o1_s, lt_d, lt_d, c2, c3]
  by_cases h1 : n = 1
  · subst h1
    obtain ⟨Mc', Mr', q1, q2, q3, q4, q5, q6, q7⟩ := one_step hN hyg hD hP hM C (by omega) hdA (fun s hs hb y1 p hp e => ⟨fun z => by
      obtain ⟨q, k1, k2, -⟩ := hM.2.1.1.2.2.2 y y1 hyg
      rw [e, neq (by omega) (by omega)] at k2
      omega, hparA s hs hb y1 p hp e⟩)
    refine ⟨Mc', Mr', ?_, ?_, q3, Or.inl q4, oA.tr (q5.mo (fun j q hh => ?_)), oE.tr (q6.mo (fun j q hh => ?_)), zE.tr q7⟩
    · rw [if_pos (by rfl), q1]; rfl
    · rw [if_pos (by rfl), q2]; rfl
    · rcases hh with hh | hh | hh | hh | hh
      · exact Or.inl hh
      · exact Or.inr (Or.inl hh)
      · exact Or.inr (Or.inr (Or.inl hh))
      · exact Or.inr (Or.inr (Or.inr (Or.inl hh)))
      · exact Or.inr (Or.inr (Or.inr (Or.inr (Or.inl hh))))
    · revert hh; unfold fQy oQ; omega
  · have hn1 : ¬ nI n = (1 : Int32) := by rw [show ((1 : Int32) = nI 1) from rfl, neq (by omega) (by omega)]; exact h1
    obtain ⟨l1, l2, l3⟩ := lst_in hs hb
    obtain ⟨-, m, m6, hm, -⟩ := (hIA _ l1).1
    rw [if_neg hn1, if_neg hn1, c_allHold hN hy a13, o1_s, jn_d, jn_d]
    simp only [lt_d, a13, c3]
    rw [c_areAlike ⟨hN1, hN⟩ hM.1.ct.1 hg hyg (fun s hs => by
      obtain ⟨-, m, m6, hm, -⟩ := (hIA s hs).1
      exact ⟨m, m6, hm⟩), o1_s, c_leastOf hN, o1_s, ix_n l1 (by omega), ix_n (n := 48) hy (by omega), c_isLike9 hN hm c2 (by rw [cMost_lt (by omega)]; exact m6) c1 (by rw [cMost_lt (by omega)]; omega) (by decide), o1_s]
    by_cases h2 : n = 0
    · subst h2
      refine ⟨A, E, ?_, ?_, hM, Or.inr (fun t ht hbt => ?_), oA, oE, zE⟩
      · simp only [c2]
        rw [if_pos (show nI 0 ≤ (1 : Int32) by decide)]
        split
        · rfl
        · split
          · rfl
          · split <;> rfl
      · rw [if_pos (show nI 0 ≤ (1 : Int32) by decide)]
      · rcases (hIA t ht).2 with z | z
        · exact z
        · rw [eA _ _ (by simp)] at z
          exact absurd (hn ⟨t, ht, hbt, z⟩) (by omega)
    · have hle : ¬ nI n ≤ (1 : Int32) := by rw [show ((1 : Int32) = nI 1) from rfl, nle (by omega) (by omega)]; omega
      rw [if_neg hle, r_areVersions hN (by rw [fE _ _ (by unfold rCd; dsimp only; omega)]; exact n0) (by rw [fE _ _ (by unfold rCd; dsimp only; omega)]; exact n1) c3 c1 hM.2.2.2.1 hy hs hb (fun t ht => by
        obtain ⟨-, m, m6, hm, -⟩ := (hIA t ht).1
        exact ⟨m, m6, by rw [← (hSA t ht).dd.1]; exact hm⟩), o1_s, ← ver_eq hN hyg hg hGb hs hb hSA hIA hM.2.1.1 C (by omega) hdA hm m6]
      simp only [c2, if_neg hle]
      cases b1 : decide (cHo N A G y = G) && (aF (fun s => !bt G s || cSl N g A s (lst N G) y) 0 N && (decide (m = n) && cVl N A (48 * lst N G + y) 192 0 m)) with
      | true =>
        rw [Bool.and_eq_true, Bool.and_eq_true] at b1
        refine ⟨A, E, ?_, ?_, hM, Or.inl (fun t ht hbt => ?_), oA, oE, zE⟩
        · rw [b1.1, b1.2.1, b1.2.2]; simp only [zb_t, one_0, if_false]
        · rw [zb_t]; exact if_neg (by decide)
        · have := b1.1
          rw [decide_eq_true_eq, ho_all hN hGb] at this
          exact (hIA t ht).2.resolve_left (this t ht hbt)
      | false =>
        obtain ⟨Mc', Mr', q1, q2, q3, q4, q5, q6, q7⟩ := many_step hN hyg hD hP hGb hM C (by omega) hdA hparA
        refine ⟨Mc', Mr', ?_, ?_, q3, Or.inl q4, oA.tr q5, oE.tr q6, zE.tr q7⟩
        · rw [q1, if_pos trivial, o1_s]
          cases b2 : decide (cHo N A G y = G) with
          | false => rw [zb_f, if_pos rfl]
          | true =>
            cases b3 : aF (fun s => !bt G s || cSl N g A s (lst N G) y) 0 N with
            | false => rw [zb_t, if_neg (by decide), zb_f, if_pos rfl]
            | true =>
              rw [b2, b3, Bool.true_and, Bool.true_and] at b1
              rw [b1, zb_t, if_neg (by decide), if_neg (by decide), zb_f, if_pos rfl]
        · rw [zb_f, if_pos rfl, q2, o1_s]
end ZM
