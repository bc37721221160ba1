/-! layer 2: an object that is gone somewhere and held somewhere -/
section ZZD
variable {N g B s o c d x y z T n m t l i j a b p k u : Nat} {A E M M1 M0 R0 M' X Y Mc Mr Mc' Mr' : gM} {row a3 : gI} {D P : Nat → Bool} {G H pd v w nr a1 a2 a4 a5 : Int32} {f r : Nat → Int32} {zz : lS} {par : Nat → Nat}
theorem dI_live (hN : N ≤ 4) (hpar : ∀ z, 1 ≤ z → z ≤ g → Mc (2, 0, 0) z = nI (par z) ∧ par z < z) (R : Rel N g Mc (swp N G D (pO par g D) Mr)) (I : JInv N g Mc) (hz1 : 1 ≤ z) (hzg : z ≤ g) (hD : D z = false) : ∀ s, s < N → bt G s = true → (∃ n, n ≤ 6 ∧ Mr m_versions (48 * s + z) = nI n) ∧ (Mr m_has (48 * s + z) = 0 → Mr m_versions (48 * s + z) = 0 ∧ ∀ c, 1 ≤ c → c ≤ g → par c = z → Mr m_entry (48 * s + c) = 0) := fun s hs _ => by
  have hg := I.1.1
  have hz : z < 48 := by omega
  have sv := R.sv hs hz
  have e1 : Mc (51, s, 0) z = Mr m_has (48 * s + z) := by rw [sv.1, swp_r (zZ_y hz hD (by decide))]
  have e2 : Mc (60, 48 * s + z, 0) 3 = Mr m_versions (48 * s + z) := by rw [sv.dd.1, swp_r (zZ_y hz hD (by decide))]
  obtain ⟨-, n, k2, k3, k4, -⟩ := I.2.2.2.1 s hs z hz
  refine ⟨⟨n, k2, by rw [← e2]; exact k3⟩, fun h0 => ⟨?_, fun c c1 c2 c3 => ?_⟩⟩
  · rw [← e2, k3]
    have : n = 0 := by
      rcases Nat.eq_zero_or_pos n with e | e
      · exact e
      · have := (k4 (by omega)).1; rw [e1, h0] at this; exact absurd this (by decide)
    rw [this]; rfl
  · have e3 := (R.sv hs (show c < 48 by omega)).b.1
    rw [swp_ent (by omega), show (48 * s + c) % 48 = c by omega, if_neg (fun y => by
      have := y.2; unfold pO at this; rw [c3, hD, Bool.and_false] at this; exact absurd this (by decide))] at e3
    rw [← e3]
    refine Classical.not_not.mp (fun y => ?_)
    have := ((I.2.2.1 s hs c (by omega)).2.2.2.2 z hz c1 (by rw [(hpar c c1 c2).1, c3])).2 y
    rw [e1, h0] at this; exact absurd this (by decide)
theorem bC_u {j : gI} {q : Nat} (h : bC x y j q) : uCc j q := by
  unfold uCc
  rcases h with h | h | h | ⟨h0, h | h | h⟩
  · omega
  · have : j.1 = 13 := by rw [h.1]
    omega
  · omega
  · omega
  · omega
  · omega
theorem dC_u {j : gI} {q : Nat} (h : dC j q) : uCc j q := by
  unfold uCc
  rcases h with h | h | h | h
  · omega
  · omega
  · omega
  · have : j.1 = 13 := by rw [h.1]
    omega
theorem gone_LI {β : Type} (hN : 1 ≤ N ∧ N ≤ 4) (hk1 : 1 ≤ k) (hkg : k ≤ g) (hGb : ∀ i, N ≤ i → i < 32 → bt G i = false) (hs : s < N) (hb : bt G s = true) (hpar : ∀ z, 1 ≤ z → z ≤ g → Mc (2, 0, 0) z = nI (par z) ∧ par z < z) (hDk : D k = false) (hM : MM N g G (pds N G D Mr) D (pO par g D) Mc Mr) (hI : dI N g G par D Mr) (hS : sK N g G par k D Mc Mr) (hA : aG N g G par k M0 Mc) (f0 : cf uQq R0 Mr) (hall : ∀ s, s < N → bt G s = true → Mc (51, s, 0) (par k) = 1) (h56 : ∀ s, s < N → bt G s = true → Mc (56, s, 0) k = 2) (hho : ¬ cHo N Mc G k = 0) : ∃ Mc' Mr', (∀ K : gM → Option β, ob (ob (f_X4_canBeDropped N Mc (nI k)) (fun v14 M13 => if v14 = 0 then o1 (f_X4_bringBack N M13 (nI k)) (fun M17 => some ((1 : Int32), M17)) else o1 (f_X4_dropInside N M13) (fun M19 => some ((0 : Int32), M19)))) (fun v21 M20 => if v21 = 0 then K M20 else cJo N M20 k K) = K Mc') ∧ rFo Mr k = some Mr' ∧ LI N g G par (k + 1) M0 R0 Mc' Mr' := by
  obtain ⟨R, I, g1, g2, g3⟩ := id hM
  have hg := I.1.1
  have hk : k < 48 := by omega
  have hDz : ∀ z, z < k → D z = false := fun z hz => Bool.eq_false_iff.mpr (fun w => by have := hS.1 z w; omega)
  obtain ⟨pk1, pk2⟩ := hpar k hk1 hkg
  have hP : ∀ z, z ≤ k → z ≤ g → pO par g D z = false := fun z hz hzg => by
    unfold pO
    by_cases h1 : 1 ≤ z
    · rw [hDz (par z) (by have := (hpar z h1 hzg).2; omega), Bool.and_false]
    · rw [decide_eq_false (by omega), Bool.false_and]
  have hlive := ins_live hg hpar hk1 hkg hDk hS
  have hlive : ∀ z, z ≤ g → insI Mc k z = true → D z = false := fun z hzg hi => hlive (z + 1) z (by omega) hzg hi
  have hj2 : jS Mc G k N = 2 := (jS_v (M := Mc) (G := G) (x := k) N (fun s hs _ => (I.2.2.1 s hs k hk).2.1)).2.2.1 s hs hb (h56 s hs hb)
  -- the class's test
  obtain ⟨X, x1, x2, x3⟩ := c_canBe (A := Mc) (I := insI Mc k) (G := G) hN.2 hkg hg g1 R.ct.1 (fun x hx s hs => by
      obtain ⟨-, n, k2, k3, -⟩ := I.2.2.2.1 s hs x (by omega)
      exact ⟨n, k2, k3⟩) (fun x hx hxg => ⟨par x, (hpar x (by omega) hxg).2, (hpar x (by omega) hxg).1, insI_gt hx (hpar x (by omega) hxg).2 (by omega) (hpar x (by omega) hxg).1⟩) insI_o (fun x hx => insI_lt hx)
  rw [drop_eq hg hkg hj2] at x1 x3
  -- the reference's
  obtain ⟨Mr2, y1, y2, y3⟩ := fore_step hN.2 hk1 hkg R I g2 (fun z z1 z2 hi => ⟨hlive z z2 hi, by
      by_cases e : z = k
      · rw [e]; exact hP k (by omega) hkg
      · obtain ⟨p1, p2⟩ := hpar z (by omega) z2
        rw [insI_gt (by omega) p2 (by omega) p1] at hi
        unfold pO
        rw [hlive (par z) (by omega) hi, Bool.and_false], fun p hp e => by
      obtain ⟨p1, p2⟩ := hpar z (by omega) z2
      rw [p1, neq (by omega) (by omega)] at e
      subst e
      by_cases e : z = k
      · rw [e]; exact hDz _ pk2
      · rw [insI_gt (by omega) p2 (by omega) p1] at hi
        exact hlive (par z) (by omega) hi⟩) (fun z hz s hs hb => by
      by_cases hD : D z = true
      · exact ((hI z hD).2.2 s hs hb).1
      · by_cases h1 : 1 ≤ z
        · exact (dI_live hN.2 hpar R I h1 hz (Bool.eq_false_iff.mpr hD) s hs hb).1
        · have e0 : z = 0 := by omega
          obtain ⟨-, n, k2, k3, -⟩ := I.2.2.2.1 s hs z (by omega)
          exact ⟨n, k2, by rw [← k3, (R.sv hs (show z < 48 by omega)).dd.1, swp_r (zZ_y (by omega) (Bool.eq_false_iff.mpr hD) (by decide))]⟩) hj2
  have dz2 : cf (fun j q => ¬ zZ D (pO par g D) j q) Mr Mr2 := y2.mo (fun j q h => zZ_n (by unfold fS at h; omega))
  have hX : ∀ (j : gI) q, ¬ (j.1 = 14 ∨ j.1 = 15) → X j q = Mc j q := fun j q hj => x2 _ _ hj
  have hR2 : ∀ (j : gI) q, ¬ (57 ≤ j.1 ∧ j.1 ≤ 60) → Mr2 j q = Mr j q := fun j q hj => y2 _ _ hj
  have M2 : MM N g G (pds N G D Mr) D (pO par g D) X Mr2 := ⟨R.fr hN.2 (x2.mo (fun j q h => by unfold csc; omega)) ((swp_cf hN.2 y2 dz2).mo (fun j q h => by unfold fS at h; unfold rsc; omega)), I.free0 hN.2 (x2.mo (fun j q h => by unfold iFree csc; omega)), by rw [hX _ _ (by simp)]; exact g1, by rw [hR2 _ _ (by simp)]; exact g2, by rw [hX _ _ (by simp), hR2 _ _ (by simp)]; exact g3⟩
  have I2 : dI N g G par D Mr2 := dI_zz hN.2 hg dz2 hI
  have fR2 : cf uQq R0 Mr2 := f0.tr (y2.mo (fun j q h => by unfold fS at h; unfold uQq; omega))
  have fX2 : cf uCc Mc X := x2.mo (fun j q h => by unfold uCc; omega)
  have hparX : ∀ z, 1 ≤ z → z ≤ g → X (2, 0, 0) z = nI (par z) ∧ par z < z := fun z z1 z2 => by rw [hX _ _ (by simp)]; exact hpar z z1 z2
  cases hgd : gd N Mc G g k with
  | false =>
    rw [hgd] at x1 y3
    have hcg : Mr2 m_canGo k = 0 := Classical.not_not.mp (fun z => by rw [(nz_t _).mpr z] at y3; exact absurd y3 (by decide))
    obtain ⟨X', Mr3, q1, q2, q3, q4, q5, q6, q7⟩ := bring_step (Mc := X) (Mr := Mr2) hN.2 pk2 hkg (hparX k hk1 hkg).1 hDk (hP k (by omega) hkg) (hDz _ pk2) (hP _ (by omega) (by omega)) hGb M2 (fun s hs hb => by rw [hX _ _ (by simp)]; exact hall s hs hb) (fun s hs hb => by rw [hX _ _ (by simp), h56 s hs hb]; decide)
    have e51 : ∀ s z, X' (51, s, 0) z = Mc (51, s, 0) z := fun s z => by rw [q5 _ _ (by unfold bC; simp), hX _ _ (by simp)]
    have e56 : ∀ s z, z ≠ k → X' (56, s, 0) z = Mc (56, s, 0) z := fun s z hz => by rw [q5 _ _ (by unfold bC; simp [hz]), hX _ _ (by simp)]
    have e2 : ∀ z, X' (2, 0, 0) z = Mc (2, 0, 0) z := fun z => by rw [q5 _ _ (by unfold bC; simp), hX _ _ (by simp)]
    have esw : ∀ z, Mr3 m_swept z = Mr m_swept z := fun z => by rw [q6 _ _ (by unfold bR; simp), hR2 _ _ (by simp)]
    have hnp : ¬ pnd N k Mc := fun h => hho (by rw [ho_0 hN.2]; exact fun s hs _ => (h s hs).1)
    have M3 : MM N g G (pds N G D Mr3) D (pO par g D) X' Mr3 := by rw [pds_zz hN.2 q7, pds_zz hN.2 dz2]; exact q3
    obtain ⟨Mc', Mr', j1, j2, j3⟩ := join_LI (β := β) (k := k) (M0 := M0) (R0 := R0) hN hkg hGb hs hb (fun z z1 z2 => by rw [e2]; exact hpar z z1 z2) hDk M3 (dI_zz hN.2 hg q7 I2) ⟨hS.1, fun z z1 z2 => by rw [esw]; exact hS.2.1 z z1 z2, fun z z1 z2 z3 => by rw [esw]; exact hS.2.2.1 z z1 z2 z3, fun z z1 z2 z3 s hs hb => by rw [e51]; rw [esw] at z3; exact hS.2.2.2 z z1 z2 z3 s hs hb⟩ ⟨fun z z1 z2 => by
        rcases hA.1 z z1 z2 with h | h
        · exact Or.inl (fun s hs hb => by rw [e51]; exact h s hs hb)
        · exact Or.inr (fun s hs hb => by rw [e51]; exact h s hs hb), fun x x1 x2 x3 s t hs ht hbs hbt => by
        by_cases e : x = k
        · rw [e, q4 s hs hbs, q4 t ht hbt]
        · rw [e56 s x e, e56 t x e]; exact hA.2.1 x x1 x2 x3 s t hs ht hbs hbt, fun z z0 z1 z2 s hs => by
        have hz := hA.2.2.1 z z0 z1 z2
        have e : z ≠ k := fun e => hnp (by rw [← e]; exact hz)
        rw [e51, e56 s z e]; exact hz s hs, hA.2.2.2.tr (fX2.tr (q5.mo (fun j q h => bC_u h)))⟩ (fR2.tr (q6.mo (fun j q h => by revert h; unfold bR uQq; omega))) (fun _ s hs hb => ⟨by rw [e51]; exact hall s hs hb, by rw [q4 s hs hb]; decide⟩) (fun _ h => hnp (fun s hs => ⟨by have := (h s hs).1; rw [e51] at this; exact this, fun w => by
        by_cases hbs : bt G s = true
        · rw [h56 s hs hbs] at w; exact absurd w (by decide)
        · have := hho
          rw [ho_0 hN.2] at this
          exact this (fun t ht _ => by have := (h t ht).1; rw [e51] at this; exact this)⟩))
    refine ⟨Mc', Mr', fun K => ?_, ?_, j3⟩
    · rw [x1, ob_s, zb_f, if_pos rfl, q1, o1_s, ob_s, if_neg (by decide)]
      exact j1 K
    · unfold rFo
      rw [y1, o1_s, rd_n hk (by omega), hcg, if_pos rfl, q2, o1_s]
      exact j2
  | true =>
    rw [hgd] at x1 y3
    have hcg : ¬ Mr2 m_canGo k = 0 := (nz_t _).mp y3
    have ec : ∀ z, insI Mc k z = insI X k z := fun z => (insI_congr (fun z => hX _ _ (by simp)) (z + 1) z (by omega)).symm
    obtain ⟨Mc', d1, d2, d3, d4, d5⟩ := drop_all (M := Mc) (Mc := X) (Mr := Mr2) (par := par) (D := D) hN.2 hk1 hkg hGb (by rw [pds_zz hN.2 dz2]; exact M2) hparX (fun z _ => ec z) (fun z hz => x3 hgd z hz) (fun z hz hi => hlive z hz hi)
    obtain ⟨D1, hD1⟩ : ∃ Q, Q = dK Mc D g k (g + 1) := ⟨_, rfl⟩
    rw [← hD1] at d2
    have zD1 : ∀ z, D1 z = true ↔ D z = true ∨ (z ≤ g ∧ insI Mc k z = true) := fun z => by
      rw [hD1]
      unfold dK
      rw [Bool.or_eq_true, Bool.and_eq_true, decide_eq_true_eq]
      refine ⟨fun h => ?_, fun h => ?_⟩
      · rcases h with h | h
        · exact Or.inl h
        · exact Or.inr ⟨h.1.2, h.2⟩
      · rcases h with h | h
        · exact Or.inl h
        · exact Or.inr ⟨⟨by omega, h.1⟩, h.2⟩
    have e51 : ∀ s, s < N → ∀ z, z < k → Mc' (51, s, 0) z = Mc (51, s, 0) z := fun s hs z hz => by
      rw [d3 s hs z, if_neg (fun w => by have := w.2.2; rw [insI_lt hz] at this; exact absurd this (by decide)), hX _ _ (by simp)]
    have e2 : ∀ z, Mc' (2, 0, 0) z = Mc (2, 0, 0) z := fun z => by rw [d5 _ _ (by unfold dC; simp), hX _ _ (by simp)]
    have esw : ∀ z, Mr2 m_swept z = Mr m_swept z := fun z => by
      have := y2 m_swept z (by unfold fS; dsimp only; omega)
      exact this
    obtain ⟨Mr', w1, w2⟩ := LI_sweep (M0 := M0) (R0 := R0) (Mc := Mc') (Mr := Mr2) (D := D1) (par := par) (k := k) hN.2 hk1 hkg hGb (fun z z1 z2 => by rw [e2]; exact hpar z z1 z2) ((zD1 k).mpr (Or.inr ⟨hkg, insI_o⟩)) d2 (fun z hz => by
        by_cases hD : D z = true
        · exact I2 z hD
        · have h := ((zD1 z).mp hz).resolve_left hD
          have hge := ins_ge h.2
          exact ⟨by omega, h.1, dI_live hN.2 hparX M2.1 M2.2.1 (by omega) h.1 (Bool.eq_false_iff.mpr hD)⟩) ⟨fun z hz => by
        rcases (zD1 z).mp hz with h | h
        · exact hS.1 z h
        · exact ins_ge h.2, fun z z1 z2 => by rw [esw]; exact hS.2.1 z z1 z2, fun z z1 z2 z3 => by
        obtain ⟨p1, p2⟩ := hpar z z1 z3
        have ei : insI Mc k z = insI Mc k (par z) := insI_gt z2 p2 (by omega) p1
        rw [zD1, zD1, esw, hS.2.2.1 z z1 z2 z3, ei]
        refine ⟨fun h => ?_, fun h => ?_⟩
        · rcases h with (h | h) | h
          · exact Or.inl (Or.inl h)
          · exact Or.inr h
          · exact Or.inl (Or.inr ⟨by omega, h.2⟩)
        · rcases h with (h | h) | h
          · exact Or.inl (Or.inl h)
          · exact Or.inr ⟨z3, h.2⟩
          · exact Or.inl (Or.inr h), fun z z1 z2 z3 s hs hb => by
        rw [e51 s hs z z1]
        rw [esw] at z3
        exact hS.2.2.2 z z1 z2 z3 s hs hb⟩ ⟨fun z z1 z2 => by
        rcases hA.1 z z1 z2 with h | h
        · exact Or.inl (fun s hs hb => by rw [e51 s hs z z1]; exact h s hs hb)
        · exact Or.inr (fun s hs hb => by rw [e51 s hs z z1]; exact h s hs hb), fun x x1 x2 x3 s t hs ht hbs hbt => by
        have key : ∀ s, s < N → Mc' (56, s, 0) x = Mc (56, s, 0) x := fun s hs => by
          rcases d4 s hs x (by omega) with h | h
          · rw [h, hX _ _ (by simp)]
          · have := h.2.2.2.2
            rw [insI_lt x3] at this; exact absurd this (by decide)
        rw [key s hs, key t ht]; exact hA.2.1 x x1 x2 x3 s t hs ht hbs hbt, fun z z0 z1 z2 s hs => by
        have hz := hA.2.2.1 z z0 z1 z2 s hs
        refine ⟨?_, fun w => ?_⟩
        · rw [d3 s hs z]
          split
          · rfl
          · rw [hX _ _ (by simp)]; exact hz.1
        · rcases d4 s hs z (by omega) with h | h
          · rw [h, hX _ _ (by simp)] at w; exact hz.2 w
          · rw [h.1] at w; exact absurd w (by decide), hA.2.2.2.tr (fX2.tr (d5.mo (fun j q h => dC_u h)))⟩ (fun s hs hb => by
        rw [d3 s hs k, if_pos ⟨hb, hkg, insI_o⟩]) fR2
    refine ⟨Mc', Mr', fun K => ?_, ?_, w2⟩
    · rw [x1, ob_s, zb_t, if_neg (by decide), d1, o1_s, ob_s, if_pos rfl]
    · unfold rFo
      rw [y1, o1_s, rd_n hk (by omega), if_neg hcg]
      exact w1
end ZZD
