/-! layer 2: dropInside of the class (2) -/
def dK (M : gM) (D : Nat → Bool) (g o k z : Nat) : Bool := D z || (decide (z < k ∧ z ≤ g) && insI M o z)
section ZYE
variable {N g B s o c d x y z T n m t l i j a b p k : Nat} {A E M M1 M' X Y Mc Mr Mc' Mr' : gM} {row a3 : gI} {D P : Nat → Bool} {G H pd v w nr a1 a2 a4 a5 : Int32} {f r : Nat → Int32} {zz : lS} {par : Nat → Nat}
theorem dK_0 : dK M D g o 0 = D := by
  funext z
  unfold dK
  rw [decide_eq_false (by omega), Bool.false_and, Bool.or_false]
theorem dK_in (hk : k ≤ g) (hi : insI M o k = true) : dK M D g o (k + 1) = dA (dK M D g o k) k := by
  funext z
  unfold dA dK
  by_cases e : z = k
  · subst e
    rw [hi, decide_eq_true (show z < z + 1 ∧ z ≤ g by omega), decide_eq_true rfl]; simp
  · rw [decide_eq_false e, Bool.or_false]
    by_cases e2 : z < k ∧ z ≤ g
    · rw [decide_eq_true e2, decide_eq_true (show z < k + 1 ∧ z ≤ g by omega)]
    · rw [decide_eq_false e2, decide_eq_false (by omega)]
theorem dK_no (hi : insI M o k = false) : dK M D g o (k + 1) = dK M D g o k := by
  funext z
  unfold dK
  by_cases e : z = k
  · subst e; rw [hi, Bool.and_false, Bool.and_false]
  · by_cases e2 : z < k ∧ z ≤ g
    · rw [decide_eq_true e2, decide_eq_true (show z < k + 1 ∧ z ≤ g by omega)]
    · rw [decide_eq_false e2, decide_eq_false (by omega)]
theorem pds_add (hx : x < 48) (hD : D x = false) : pds N G (dA D x) M = pds N G D M + nI (cntF (bt (rHo N M G x)) 0 N) := by
  unfold pds
  rw [nI_add]
  refine congrArg nI (wsum_at 48 hx (fun z hz hne => ?_) ?_).symm
  · unfold dA; rw [decide_eq_false hne, Bool.or_false]
  · unfold dA; rw [decide_eq_true rfl, Bool.or_true, hD, if_neg (by decide), if_pos rfl, Nat.zero_add]
theorem drop_all (hN : N ≤ 4) (ho1 : 1 ≤ o) (hog : o ≤ g) (hGb : ∀ i, N ≤ i → i < 32 → bt G i = false) (h : MM N g G (pds N G D Mr) D (pO par g D) Mc Mr) (hpar : ∀ z, 1 ≤ z → z ≤ g → Mc (2, 0, 0) z = nI (par z) ∧ par z < z) (hI : ∀ z, z ≤ g → insI M o z = insI Mc o z) (h15 : ∀ z, z ≤ g → Mc (15, 0, 0) z = zb (insI M o z)) (hin : ∀ z, z ≤ g → insI M o z = true → D z = false) : ∃ Mc', f_X4_dropInside N Mc = some Mc' ∧ MM N g G (pds N G (dK M D g o (g + 1)) Mr) (dK M D g o (g + 1)) (pO par g (dK M D g o (g + 1))) Mc' Mr ∧ (∀ s, s < N → ∀ z, Mc' (51, s, 0) z = if bt G s = true ∧ z ≤ g ∧ insI M o z = true then 0 else Mc (51, s, 0) z) ∧ (∀ s, s < N → ∀ z, z < 48 → Mc' (56, s, 0) z = Mc (56, s, 0) z ∨ (Mc' (56, s, 0) z = 0 ∧ bt G s = true ∧ 1 ≤ z ∧ z ≤ g ∧ insI M o (par z) = true)) ∧ cf dC Mc Mc' := by
  obtain ⟨R, I, g1, g2, g3⟩ := id h
  have hg := I.1.1
  obtain ⟨X, h1, h2, h3, h4, h5, h6, h7⟩ := loopP (fun u k M1 => f_X4_dropInside_L2 N u (nI k) M1) (g + 1) some (fun k X => Rel N g X (swp N G (dK M D g o k) (pO par g (dK M D g o k)) Mr) ∧ JW N g X ∧ X (13, 0, 0) 7 = Mr m_o 55 + pds N G (dK M D g o k) Mr ∧ (∀ s, s < N → ∀ z, X (51, s, 0) z = if bt G s = true ∧ z < k ∧ z ≤ g ∧ insI M o z = true then 0 else Mc (51, s, 0) z) ∧ (∀ s, s < N → ∀ z, z < 48 → X (56, s, 0) z = Mc (56, s, 0) z ∨ (X (56, s, 0) z = 0 ∧ bt G s = true ∧ 1 ≤ z ∧ z ≤ g ∧ insI M o (par z) = true)) ∧ cf dC Mc X) (by omega) (fun u k X hk ⟨r1, r2, r3, r4, r5, r6⟩ => by
    have e : ∀ (j : gI) q, (j.1 = 1 ∨ j.1 = 2 ∨ j.1 = 15 ∨ (j.1 = 13 ∧ q = 6)) → X j q = Mc j q := fun j q hj => r6 _ _ (fun z => by
      rcases z with z | z | z | z
      · omega
      · omega
      · omega
      · rw [z.1] at hj; have := z.2; dsimp only at hj; omega)
    have w3 : X (1, 0, 0) 3 = nI g := by rw [e _ _ (Or.inl rfl)]; exact R.ct.1
    have st : f_X4_dropInside_L2 N (u + 1) (nI k) X = if zb (insI M o k) = 0 then f_X4_dropInside_L2 N u (nI (k + 1)) X else o1 (f_X6_holders N X G (nI k)) (fun v12 => jn (fun (M13 : gM) => o1 (f_X4_noteChange N M13 v12 (nI k)) (fun M15 => f_X4_dropInside_L2 N u (nI (k + 1)) M15)) (fun J73 => f_X4_dropInside_L40 N (nI k) v12 J73 (fun M7 => f_X4_dropInside_L2 N u (nI (k + 1)) M7) 100 (0 : Int32) X)) := by
      rw [f_X4_dropInside_L2, lt_d, w3, if_neg (show ¬ nI g < nI k by rw [nlt (by omega) (by omega)]; omega), rd_n (by omega) (by omega), e (15, 0, 0) k (by simp), h15 k (by omega), jn_d]
      by_cases hz : zb (insI M o k) = 0
      · rw [if_pos hz, if_pos hz]
        show lt (nI k + 1) (fun x8 => f_X4_dropInside_L2 N u x8 X) = _
        rw [lt_d, nI_1]
      · rw [if_neg hz, if_neg hz, lt_d, e (13, 0, 0) 6 (by simp), g1]
        simp only [lt_d, nI_1]
    cases hi : insI M o k with
    | false =>
      refine ⟨X, by show f_X4_dropInside_L2 N (u + 1) (nI k) X = _; rw [st, hi, zb_f, if_pos rfl], by rw [dK_no hi]; exact r1, r2, by rw [dK_no hi]; exact r3, fun s hs z => ?_, r5, r6⟩
      rw [r4 s hs z]
      by_cases y : bt G s = true ∧ z < k ∧ z ≤ g ∧ insI M o z = true
      · rw [if_pos y, if_pos ⟨y.1, by omega, y.2.2⟩]
      · rw [if_neg y, if_neg (fun w => y ⟨w.1, by
          have : z ≠ k := fun e => by have := w.2.2.2; rw [e, hi] at this; exact absurd this (by decide)
          omega, w.2.2⟩)]
    | true =>
      have hk1 : 1 ≤ k := by have := ins_ge hi; omega
      have hDk : dK M D g o k k = false := by
        unfold dK
        rw [hin k (by omega) hi, decide_eq_false (by omega)]; rfl
      obtain ⟨X', q1, q2, q3, q4, q5, q6, q7⟩ := drop1 (J := fun M15 => f_X4_dropInside_L2 N u (nI (k + 1)) M15) (A := X) (x := k) (par := par) (D := dK M D g o k) hN hk1 (by omega) hGb r1 r2 (by rw [e _ _ (by simp)]; exact g1) hDk (fun z z1 z2 => by rw [e _ _ (by simp)]; exact ⟨(hpar z z1 z2).1, by have := (hpar z z1 z2).2; omega⟩)
      refine ⟨X', ?_, by rw [dK_in (by omega) hi]; exact q2, q3, ?_, fun s hs z => ?_, fun s hs z hz48 => ?_, r6.tr q7⟩
      · show f_X4_dropInside_L2 N (u + 1) (nI k) X = _
        rw [st, hi, zb_t, if_neg (by decide)]
        exact q1
      · rw [q4, r3, dK_in (by omega) hi, pds_add (by omega) hDk, Int32.add_assoc]
      · rw [q5 s hs z, r4 s hs z]
        by_cases e1 : bt G s = true ∧ z = k
        · rw [if_pos e1, if_pos ⟨e1.1, by omega, by omega, by rw [e1.2]; exact hi⟩]
        · rw [if_neg e1]
          by_cases y : bt G s = true ∧ z < k ∧ z ≤ g ∧ insI M o z = true
          · rw [if_pos y, if_pos ⟨y.1, by omega, y.2.2⟩]
          · rw [if_neg y, if_neg (fun w => y ⟨w.1, by
              have : z ≠ k := fun e => e1 ⟨w.1, e⟩
              omega, w.2.2⟩)]
      · rcases q6 s hs z hz48 with y | y
        · rw [y]; exact r5 s hs z hz48
        · exact Or.inr ⟨y.1, y.2.1, y.2.2.1, y.2.2.2.1, by rw [y.2.2.2.2]; exact hi⟩) (fun u X ⟨_, _, _, _, _, r6⟩ => by
    show f_X4_dropInside_L2 N (u + 1) (nI (g + 1)) X = _
    rw [f_X4_dropInside_L2, lt_d, r6 (1, 0, 0) 3 (by unfold dC; simp), R.ct.1, if_pos (show nI g < nI (g + 1) by rw [nlt (by omega) (by omega)]; omega)]) (st := Mc) ⟨by rw [dK_0]; exact R, I.weak, by rw [dK_0]; exact g3, fun s hs z => by rw [if_neg (fun y => absurd y.2.1 (by omega))], fun s hs z _ => Or.inl rfl, cf.rf _ _⟩
  have f51 : ∀ s, s < N → ∀ z, X (51, s, 0) z = if bt G s = true ∧ z ≤ g ∧ insI M o z = true then 0 else Mc (51, s, 0) z := fun s hs z => by
    rw [h5 s hs z]
    by_cases y : bt G s = true ∧ z ≤ g ∧ insI M o z = true
    · rw [if_pos y, if_pos ⟨y.1, by omega, y.2⟩]
    · rw [if_neg y, if_neg (fun w => y ⟨w.1, w.2.2⟩)]
  refine ⟨X, h1, ⟨h2, ?_, ?_, g2, h4⟩, f51, h6, h7⟩
  · refine ⟨h3.1, h3.2.1, fun s hs z hz48 => ?_, h3.2.2.2.1, h3.2.2.2.2.1, h3.2.2.2.2.2⟩
    obtain ⟨i1, i2, i3, i4, i5⟩ := h3.2.2.1 s hs z hz48
    refine ⟨i1, i2, i3, i4, fun p hp z1 e => ⟨fun y => ?_, fun y => i5 p hp z1 e y⟩⟩
    have hzg := i3 y
    obtain ⟨e1, e2⟩ := hpar z z1 hzg
    have eX2 : X (2, 0, 0) z = Mc (2, 0, 0) z := h7 _ _ (by unfold dC; simp)
    have ep : p = par z := by rw [eX2, e1, neq (by omega) (by omega)] at e; exact e.symm
    subst ep
    have y' := y
    rw [f51 s hs z] at y'
    by_cases hc : bt G s = true ∧ z ≤ g ∧ insI M o z = true
    · rw [if_pos hc] at y'; exact absurd y' (by decide)
    · rw [if_neg hc] at y'
      obtain ⟨k1, k2⟩ := ((I.2.2.1 s hs z hz48).2.2.2.2 (par z) hp z1 e1).1 y'
      have np : ¬ (bt G s = true ∧ insI M o (par z) = true) := fun w => by
        by_cases ho : o < z
        · rw [hI (par z) (by omega), ← insI_gt ho e2 hz48 e1, ← hI z hzg] at w
          exact hc ⟨w.1, hzg, w.2⟩
        · have := w.2
          rw [insI_lt (show par z < o by omega)] at this; exact absurd this (by decide)
      refine ⟨?_, ?_⟩
      · rw [f51 s hs (par z), if_neg (fun w => np ⟨w.1, w.2.2⟩)]; exact k1
      · rcases h6 s hs z hz48 with w | w
        · rw [w]; exact k2
        · exact absurd ⟨w.2.1, w.2.2.2.2⟩ np
  · rw [h7 _ _ (by unfold dC; simp)]; exact g1
end ZYE
