section SW
variable {N g B s o c d x z T n : Nat} {M M' Mc Mr Mc' Mr' : gM} {zz : lS} {v w a1 a2 a3 a4 : Int32}
theorem cSt_o {q : Nat} (h : q ≠ 10) : cSt M c (30, c, 0) q = M (30, c, 0) q := by
  show gset _ _ _ _ _ _ = _
  rw [gset_r, if_neg (fun z => h z.2)]
theorem rSt_n {j : gI} {q : Nat} (h : ¬ (j.1 = 0 ∧ (q = 66 ∨ q = 33))) : rSt M j q = M j q := by
  show gset _ _ _ _ _ _ = _
  rw [gset_r, if_neg (fun z => h (by rw [z.1]; exact ⟨rfl, Or.inr z.2⟩)), gset_r, if_neg (fun z => h (by rw [z.1]; exact ⟨rfl, Or.inl z.2⟩))]
/-- alone or not, before and behind an obtaining -/
theorem alone_eq (hN : N ≤ 4) (hc : c < 4) (R : Rel N g Mc Mr) (I : Inv N g Mc) : ∃ (n : Nat) (al : Bool), n ≤ 12 ∧ Mc (40, c, 0) 4 = nI n ∧ (al = false → n = 0 ∧ ¬ cNr N Mc c = 0) ∧ (al = true → 0 < n ∨ cNr N Mc c = 0) ∧ (∀ M', M' (40, c, 0) 4 = Mc (40, c, 0) 4 → M' (5, 0, 0) 0 = Mc (5, 0, 0) 0 → M' (30, c, 0) 0 = Mc (30, c, 0) 0 → cNr N M' c = cNr N Mc c → f_X10_isAlone N M' c = some (zb al)) ∧ (∀ M', M' m_o 0 = Mr m_o 0 → M' m_records c = Mr m_records c → rNr N M' c = rNr N Mr c → f_X11_isAlone M' (nI c) = some (zb al)) := by
  obtain ⟨n, hn, hl, -⟩ := I.2.2.2.2.2.2.1 c hc
  refine ⟨n, decide (0 < n) || decide (cNr N Mc c = 0), hn, hl, fun e => ?_, fun e => ?_, fun M' h1 h2 h3 h4 => ?_, fun M' h1 h2 h3 => ?_⟩
  · rw [Bool.or_eq_false_iff, decide_eq_false_iff_not, decide_eq_false_iff_not] at e
    exact ⟨by omega, e.2⟩
  · rw [Bool.or_eq_true, decide_eq_true_eq, decide_eq_true_eq] at e
    exact e
  · rw [c_isAlone (n := n) (by rw [h2]; exact R.1.2.1) (by rw [h3]; exact R.1.2.2.1 c hc) hN hc (by rw [h1]; exact hl) hn, h4]
  · rw [r_isAlone (n := n) (N := N) (by rw [h1]; exact R.n0) hN hc (by rw [h2, ← (R.lg hc).1]; exact hl) hn, h3, R.nr hN hc]
theorem st_write (hN : 1 ≤ N ∧ N ≤ 4) (hT : T ≤ 500) (h : St N T zz.1 zz.2.1) : ∃ z1, s_write N zz a1 a2 a3 a4 = some z1 ∧ St N (T + 1) z1.1 z1.2.1 := by
  obtain ⟨g, R, I, U, O⟩ := id h
  have hg := I.1.1
  rcases rng a1 4 (by omega) with ⟨c, hc, rfl⟩ | bad
  · rcases rng a2 48 (by omega) with ⟨o, ho, rfl⟩ | bad
    · rcases rng a4 7 (by omega) with ⟨z, hz, rfl⟩ | bad
      · have hC : f_X10_write N zz.1 (nI c) (nI o) a3 (nI z) = ob (f_X10_obtainKind N (cSt zz.1 c) c (nI o) (0 : Int32)) (fun v15 M14 => (if (lg_cmp v15 (0 : Int64)) = 0 then o1 (f_X10_isAlone N M14 c) (fun v18 => (if v18 = 0 then ob (f_X10_writeNear N M14 c (nI o) a3 (nI z)) (fun v22 M21 => some (0, v22, M21)) else ob (f_X1_writeAlone N M14 c (nI o) a3 (nI z)) (fun v25 M24 => some (0, v25, M24)))) else some (0, v15, M14))) := by
          unfold f_X10_write gnl
          simp only [c_checkClient_ok hc, o1_s, if_true, c_checkObject_ok ho, c_checkArgument_ok (n := 7) (hi := 6) hz (by omega) rfl, c_startCall hc, ob_s, hc]
        have hR : f_X11_write zz.2.1 (nI c) (nI o) a3 (nI z) = o1 (f_X11_kindOf (gset zz.2.1 m_o 66 0) (nI o) (0 : Int32)) (fun v9 => (if (lg_cmp v9 (0 : Int64)) = 0 then o1 (f_X11_isAlone (rSt zz.2.1) (nI c)) (fun v14 => (if v14 = 0 then ob (f_X11_get (rSt zz.2.1) (nI c) (nI o) (10 : Int32)) (fun v18 M17 => (if (lg_cmp v18 (0 : Int64)) = 0 then rWn M17 c o z a3 else some (v18, M17))) else ob (ob (f_X11_get (rSt zz.2.1) (nI c) (nI o) (10 : Int32)) (fun v3 M2 => (if (lg_cmp v3 (0 : Int64)) = 0 then rWa M2 c o z a3 else some (v3, M2)))) (fun v53 M52 => some (v53, M52)))) else some (v9, gset zz.2.1 m_o 66 0))) := by
          unfold f_X11_write f_X11_writeAlone rWn rWa
          simp only [r_isClient_ok hc, r_isObject_ok ho, in_ok (n := 7) (hi := 6) hz (by omega) rfl, o1_s, jn_d, one_0, if_false, lt_d, g66, le_00, if_true]
        have R5 : Rel N g zz.1 (gset zz.2.1 m_o 66 0) := R.fr hN.2 (cf.rf _ _) ((cf.st (A := fun j q => j.1 = 0 ∧ q = 66) ⟨rfl, rfl⟩).mo (fun j q => by unfold rsc; omega))
        have k1 : cSt zz.1 c (1, 0, 0) 3 = nI g := by rw [cSt_n (by decide)]; exact R.ct.1
        have k4 : kdO (cSt zz.1 c) g o 0 = kdO zz.1 g o 0 := by
          unfold kdO
          rw [cSt_n (show ((4, 0, 0) : gI).1 ≠ 30 by decide)]
        rw [r_kindOf R5 hg ho, o1_s] at hR
        unfold f_X10_obtainKind at hC
        rw [c_stop k1 hg ho, o1_s, k4] at hC
        by_cases hk : kdO zz.1 g o 0 = 0
        · obtain ⟨hog, hdir⟩ := kd_0 hk
          obtain ⟨v, Mc', Mr', e1, e2, e3, e4, e5⟩ := first_ob hN.2 hc hT hog R I U O
          obtain ⟨n, al, hn, hl, al1, al2, alc, alr⟩ := alone_eq hN.2 hc R I
          have a1' : f_X10_isAlone N Mc' c = some (zb al) := by
            refine alc Mc' ?_ ?_ ?_ ?_
            · rw [e3.2.1 _ _ (by unfold tC fC; dsimp only; omega), cSt_n (by simp)]
            · rw [e3.2.1 _ _ (by unfold tC fC; dsimp only; omega), cSt_n (by simp)]
            · rw [e3.2.1 _ _ (by unfold tC fC; dsimp only; omega), cSt_o (by decide)]
            · rw [cNr.fr hN.2 e3.2.1 (by unfold tC fC; dsimp only; omega) (fun q _ => by unfold tC fC; dsimp only; omega)]
              exact cNr.fr (A := fun j q => j.1 = 30) hN.2 (cf.st rfl) (by simp) (fun q _ => by simp)
          have a2' : f_X11_isAlone (rSt zz.2.1) (nI c) = some (zb al) := by
            refine alr _ ?_ ?_ ?_
            · rw [rSt_n (by simp)]
            · rw [rSt_n (by simp)]
            · exact rNr.fr (A := fun j q => j.1 = 0) hN.2 hc ((cf.st rfl).tr (cf.st rfl)) (fun q _ => by simp) (fun q _ => by simp)
          rw [hk, if_pos (lg_cmp_z 0), e1, ob_s, ob_s, a1', o1_s] at hC
          rw [hk, if_pos (lg_cmp_z 0), a2', o1_s, e2] at hR
          simp only [ob_s] at hR
          have hS : St N (T + 1) Mc' Mr' := ci_st e3.1 (by omega)
          by_cases hv : v = 0
          · obtain ⟨hh, gt⟩ := e4 hv
            have ht := (e3.2.2.2.1 hv).2.1
            have hd' : Mc' (4, 0, 0) o = 0 := by rw [e3.2.1 _ _ (by unfold tC fC; dsimp only; omega), cSt_n (by simp)]; exact hdir
            rw [if_pos (by rw [lg_cmp0]; exact hv)] at hC
            have lgv : lg_cmp v 0 = 0 := by rw [lg_cmp0]; exact hv
            rw [if_pos lgv, if_pos lgv] at hR
            cases al with
            | false =>
              have hlog : Mc' (40, c, 0) 4 = 0 := by rw [e3.2.1 _ _ (by unfold tC fC; dsimp only; omega), cSt_n (by simp), hl, (al1 rfl).1]; rfl
              obtain ⟨v2, Mc2, Mr2, f1, f2, f3, f4⟩ := write_near (z := z) (a3 := a3) hN.2 hc hog e3.1 hh gt ht hd' hlog (by omega)
              rw [zb_f, if_pos rfl, f1, ob_s] at hC
              rw [zb_f, if_pos rfl, f2] at hR
              exact q_write hC hR (f4.trans e5) (by omega) (fun _ => rfl) (ci_st f3 (by omega))
            | true =>
              obtain ⟨v2, Mc2, Mr2, f1, f2, f3, f4⟩ := write_alone (z := z) (a3 := a3) hN.2 hc hog e3.1 hh ht hd' (by omega)
              rw [zb_t, if_neg (by decide), f1, ob_s] at hC
              rw [zb_t, if_neg (by decide), f2, ob_s] at hR
              exact q_write hC hR (f4.trans e5) (by omega) (fun _ => rfl) (ci_st f3 (by omega))
          · rw [if_neg (by rw [lg_cmp0]; exact hv)] at hC
            have lgv : ¬ lg_cmp v 0 = 0 := by rw [lg_cmp0]; exact hv
            rw [if_neg lgv, if_neg lgv, ob_s] at hR
            have hR' : f_X11_write zz.2.1 (nI c) (nI o) a3 (nI z) = some (v, Mr') := by
              rw [hR]; by_cases q : zb al = 0
              · rw [if_pos q]
              · rw [if_neg q]
            exact q_write hC hR' e5 (by omega) (fun _ => rfl) hS
        · rw [if_neg (by rw [lg_cmp0]; exact hk), ob_s, if_neg (by rw [lg_cmp0]; exact hk)] at hC
          rw [if_neg (by rw [lg_cmp0]; exact hk)] at hR
          exact q_write hC hR (g66 _ _) (by omega) (fun _ => rfl) (st_begun hN.2 hc h)
      · have c1 : f_X10_write N zz.1 (nI c) (nI o) a3 a4 = some (2, 0, zz.1) := by
          unfold f_X10_write
          rw [c_checkClient_ok hc, o1_s, if_pos rfl, c_checkObject_ok ho, o1_s, if_pos rfl, c_checkArgument_bad (n := 7) (hi := 6) bad (by omega) (by omega) rfl, o1_s, if_neg (by decide)]
        have r1 : f_X11_write zz.2.1 (nI c) (nI o) a3 a4 = some (0, gset zz.2.1 m_o 66 2) := by
          unfold f_X11_write
          simp only [r_isClient_ok hc, r_isObject_ok ho, in_bad (n := 7) (hi := 6) bad (by omega) (by omega) rfl, o1_s, jn_d, one_0, if_true, lt_d, g66, le_20, if_false]
        exact q_write c1 r1 (g66 _ _) (by omega) (fun h => absurd h (by decide)) (h.thr hN.2 2)
    · have c1 : f_X10_write N zz.1 (nI c) a2 a3 a4 = some (1, 0, zz.1) := by
        unfold f_X10_write
        rw [c_checkClient_ok hc, o1_s, if_pos rfl, c_checkObject_bad bad, o1_s, if_neg (by decide)]
      have r1 : f_X11_write zz.2.1 (nI c) a2 a3 a4 = some (0, gset zz.2.1 m_o 66 1) := by
        unfold f_X11_write
        simp only [r_isClient_ok hc, r_isObject_bad bad, o1_s, jn_d, one_0, if_true, lt_d, g66, le_10, if_false]
      exact q_write c1 r1 (g66 _ _) (by omega) (fun h => absurd h (by decide)) (h.thr hN.2 1)
  · have c1 : f_X10_write N zz.1 a1 a2 a3 a4 = some (1, 0, zz.1) := by
      unfold f_X10_write
      rw [c_checkClient_bad bad, o1_s, if_neg (by decide)]
    have r1 : f_X11_write zz.2.1 a1 a2 a3 a4 = some (0, gset zz.2.1 m_o 66 1) := by
      unfold f_X11_write
      simp only [r_isClient_bad bad, o1_s, jn_d, if_true, lt_d, g66, le_10, if_false]
    exact q_write c1 r1 (g66 _ _) (by omega) (fun h => absurd h (by decide)) (h.thr hN.2 1)
end SW
