/-! layer 2: a call begins; find, read -/
theorem lg_cmp0 (v : Int64) : (lg_cmp v (0 : Int64) = 0) = (v = 0) := by
  apply propext
  constructor
  · intro h
    unfold lg_cmp at h
    by_cases h1 : v > 0
    · rw [if_pos h1] at h; exact absurd h (by decide)
    · rw [if_neg h1] at h
      by_cases h2 : v = 0
      · exact h2
      · rw [if_neg h2] at h; exact absurd h (by decide)
  · intro h
    rw [h]
    exact lg_cmp_z 0
section FI2
variable {N g T c o : Nat} {M Mc Mr : gM} {z : lS} {a1 a2 a3 a4 : Int32}
theorem ci_st {B : Nat} (h : CI N g B c 48 Mc Mr) (hB : B ≤ 1000 * T) : St N T Mc Mr := by
  obtain ⟨R, I, U, O, W⟩ := h
  refine ⟨g, R, I, U.up hB, fun d hd => ?_⟩
  have := O d hd
  have e : (if d = c then 48 else 48) = 48 := by split <;> rfl
  have e2 : (if d = 0 then 48 else 48) = 48 := by split <;> rfl
  rw [e] at this
  rw [e2]
  exact this
abbrev cSt (M : gM) (c : Nat) : gM := gset M (30, c, 0) 10 (M (30, c, 0) 9)
abbrev rSt (M : gM) : gM := gset (gset M m_o 66 0) m_o 33 (gset M m_o 66 0 m_o 33 + 1)
theorem cSt_10 : cSt M c (30, c, 0) 10 = M (30, c, 0) 9 := by
  show gset M (30, c, 0) 10 (M (30, c, 0) 9) (30, c, 0) 10 = _
  rw [gset_r, if_pos ⟨rfl, rfl⟩]
theorem cSt_n {j : gI} {q : Nat} (h : j.1 ≠ 30) : cSt M c j q = M j q := by
  show gset M (30, c, 0) 10 (M (30, c, 0) 9) j q = _
  rw [gset_r, if_neg (fun x => h (by rw [x.1]))]
theorem c_startCall (hc : c < 4) : f_X10_startCall N M (nI c) = some (c, cSt M c) := by
  unfold f_X10_startCall f_X1_startCall
  rw [ix_n hc (by omega), lt_d, lt_d, o1_s, ix_n hc (by omega)]
/-- a call of client c begins -/
theorem start_ci (hN : N ≤ 4) (hc : c < 4) (hT : T ≤ 500) (R : Rel N g Mc Mr) (I : Inv N g Mc) (U : Usd (1000 * T) Mc Mr) (O : uAll 0 48 Mc Mr) : CI N g (1000 * T + 1) c 48 (cSt Mc c) (rSt Mr) := by
  have fc : cf (fun j q => j.1 = 30 ∧ q = 10) Mc (cSt Mc c) := cf.st ⟨rfl, rfl⟩
  have fr : cf (fun j q => j.1 = 0 ∧ (q = 66 ∨ q = 33)) Mr (rSt Mr) := (cf.st ⟨rfl, Or.inl rfl⟩).tr (cf.st ⟨rfl, Or.inr rfl⟩)
  obtain ⟨K, J, k1, k2, k3, k4, k5⟩ := U
  have h33 : rSt Mr m_o 33 = nI (J + 1) := by
    show gset (gset Mr m_o 66 0) m_o 33 (gset Mr m_o 66 0 m_o 33 + 1) m_o 33 = _
    rw [gset_r, if_pos ⟨rfl, rfl⟩, gset_r, if_neg (by simp), k4, nI_1]
  refine ⟨R.fr hN (fc.mo ?_) (fr.mo ?_), I.fr hN (fc.mo ?_), ⟨K, J + 1, by omega, by omega, by rw [fr _ _ (by dsimp only; omega)]; exact k3, h33, fun d hd => ?_⟩, fun d hd => ?_, ?_, fun p hp _ hh => ?_⟩
  · intro j q; unfold csc; omega
  · intro j q; unfold rsc; omega
  · intro j q; unfold csc; omega
  · obtain ⟨u, u1, u2, u3⟩ := k5 d hd
    refine ⟨u, by omega, by rw [fc _ _ (by dsimp only; omega)]; exact u2, fun p hp => ?_⟩
    rw [fc _ _ (by dsimp only; omega), fr m_usedAt _ (by dsimp only; omega), fr m_usedBy _ (by dsimp only; omega)]
    obtain ⟨x1, x2, y, y1, y2⟩ := u3 p hp
    exact ⟨x1, x2, y, by omega, y2⟩
  · have e : (if d = c then 48 else 48) = 48 := by split <;> rfl
    have e2 : (if d = 0 then 48 else 48) = 48 := by split <;> rfl
    have := O d hd
    rw [e2] at this
    rw [e]
    exact this.fr (fun q _ => fc _ _ (by dsimp only; omega)) (fun q _ _ h => by rw [fc _ _ (by dsimp only; omega)] at h; exact h) (fun q _ => fr _ _ (by dsimp only; omega))
  · obtain ⟨u, u1, u2, u3⟩ := k5 c hc
    exact ⟨u, u, Nat.le_refl _, by omega, by rw [cSt_10]; exact u2, by rw [fc _ _ (by dsimp only; omega)]; exact u2⟩
  · obtain ⟨u, u1, u2, u3⟩ := k5 c hc
    obtain ⟨⟨a, a1, a2⟩, -, y, y1, y2⟩ := u3 p hp
    rw [fc (34, c, 0) p (by dsimp only; omega), cSt_10, fr m_usedBy _ (by dsimp only; omega), h33, a2, u2, y2]
    exact ⟨fun _ e => by
      have := (nI_eq (by omega) (by omega)).mp e
      omega, fun _ => nI_le a1 (by omega)⟩
/-- at its beginning whatever is held, and not dirty, may go -/
theorem start_may {p : Nat} (hc : c < 4) (hp : p < 48) (hT : T ≤ 500) (I : Inv N g Mc) (U : Usd (1000 * T) Mc Mr) (hd : Mc (33, c, 0) p = 0) (hm : cMay (cSt Mc c) c 10 p = false) : wt (cSt Mc c) c p = 0 := by
  have fc : cf (fun j q => j.1 = 30 ∧ q = 10) Mc (cSt Mc c) := cf.st ⟨rfl, rfl⟩
  obtain ⟨K, J, k1, k2, k3, k4, k5⟩ := U
  obtain ⟨u, u1, u2, u3⟩ := k5 c hc
  obtain ⟨⟨a, b1, b2⟩, -⟩ := u3 p hp
  obtain ⟨y, y1, y2⟩ := (I.2.2.2.2.1 c hc p hp).2.2.2.2.2.2.2.2
  unfold wt
  unfold cMay at hm
  rw [fc (51, 4 + c, 0) p (by dsimp only; omega), fc (33, c, 0) p (by dsimp only; omega), fc (34, c, 0) p (by dsimp only; omega), fc (31, c, 0) p (by dsimp only; omega), cSt_10, hd, u2, b2, y2, decide_eq_false (nI_nlt b1 (by omega)), decide_eq_false (show ¬ (10 : Int32) ≤ nI y from nI_ge (b := 10) (by omega) (by omega))] at hm
  rw [fc (51, 4 + c, 0) p (by dsimp only; omega)]
  have h0 : nz (Mc (51, 4 + c, 0) p) = false := by
    cases hq : nz (Mc (51, 4 + c, 0) p)
    · rfl
    · rw [hq] at hm; exact absurd hm (by decide)
  rw [nz_f] at h0
  rw [if_pos h0]
def kdO (M : gM) (g o : Nat) (a : Int32) : Int64 := if o ≤ g then (if M (4, 0, 0) o = a then 0 else -2199023255559) else -2199023255552
theorem c_stop (h1 : M (1, 0, 0) 3 = nI g) (hg : g ≤ 47) (ho : o < 48) : f_X10_stopOfKind N M (nI o) a3 = some (kdO M g o a3) := by
  unfold f_X10_stopOfKind f_X0_isMade kdO
  rw [lt_d, h1]
  by_cases e : o ≤ g
  · rw [if_neg (nI_nlt e (by omega)), o1_s, if_neg (by decide), rd_n ho (by omega), if_pos e]
    by_cases e2 : M (4, 0, 0) o = a3
    · rw [if_pos e2, if_pos e2]
    · rw [if_neg e2, if_neg e2]
  · rw [if_pos (nI_lt (by omega) (by omega)), o1_s, if_pos rfl, if_neg e]
theorem r_kindOf (R : Rel N g Mc Mr) (hg : g ≤ 47) (ho : o < 48) : f_X11_kindOf Mr (nI o) a3 = some (kdO Mc g o a3) := by
  unfold f_X11_kindOf kdO
  rw [lt_d, R.ct.2.1, (R.ct.2.2 o ho).2.2]
  by_cases e : o ≤ g
  · rw [if_pos (nI_lt (by omega) (by omega)), rd_n ho (by omega), if_pos e]
    by_cases e2 : Mr m_isDirectory o = a3
    · rw [if_pos e2, if_pos e2]
    · rw [if_neg e2, if_neg e2]
  · rw [if_neg (nI_nlt (by omega) (by omega)), if_neg e]
theorem kd_0 (h : kdO M g o a3 = 0) : o ≤ g ∧ M (4, 0, 0) o = a3 := by
  unfold kdO at h
  by_cases e : o ≤ g
  · rw [if_pos e] at h
    by_cases e2 : M (4, 0, 0) o = a3
    · exact ⟨e, e2⟩
    · rw [if_neg e2] at h; exact absurd h (by decide)
  · rw [if_neg e] at h; exact absurd h (by decide)
/-- a call that got no object to begin with -/
theorem st_begun (hN : N ≤ 4) (hc : c < 4) (h : St N T Mc Mr) : St N (T + 1) (cSt Mc c) (gset Mr m_o 66 0) := by
  obtain ⟨g, R, I, U, O⟩ := h.thr (k := 1) hN 0
  have fc : cf (fun j q => j.1 = 30 ∧ q = 10) Mc (cSt Mc c) := cf.st ⟨rfl, rfl⟩
  have fr : cf (fun _ _ => False) (gset Mr m_o 66 0) (gset Mr m_o 66 0) := cf.rf _ _
  refine ⟨g, R.fr hN (fc.mo ?_) (cf.rf _ _), I.fr hN (fc.mo ?_), U.fr fc fr ?_ ?_ ?_ ?_ ?_ ?_, O.fr fc fr ?_ ?_ ?_⟩
  · intro j q; unfold csc; omega
  · intro j q; unfold csc; omega
  · intro c q; dsimp only; omega
  · intro c; dsimp only; omega
  · intro q h; exact h
  · intro q h; exact h
  · intro h; exact h
  · intro h; exact h
  · intro c q; dsimp only; omega
  · intro c q; dsimp only; omega
  · intro q h; exact h
/-- the first object that a call gets, with any priority to give way: it is in the cache then -/
theorem first_ob (hN : N ≤ 4) (hc : c < 4) (hT : T ≤ 500) (hog : o ≤ g) (R : Rel N g Mc Mr) (I : Inv N g Mc) (U : Usd (1000 * T) Mc Mr) (O : uAll 0 48 Mc Mr) : ∃ v Mc' Mr', f_X10_obtain N (cSt Mc c) c (nI o) (10 : Int32) = some (v, Mc') ∧ f_X11_get (rSt Mr) (nI c) (nI o) (10 : Int32) = some (v, Mr') ∧ obP N g (1000 * T + 1) c o 10 (cSt Mc c) (rSt Mr) v Mc' Mr' ∧ (v = 0 → Mc' (51, 4 + c, 0) o = 1 ∧ Got N g c o Mc' Mr') ∧ Mr' m_o 66 = 0 := by
  have fc : cf (fun j q => j.1 = 30 ∧ q = 10) Mc (cSt Mc c) := cf.st ⟨rfl, rfl⟩
  obtain ⟨v, Mc', Mr', h1, h2, h3⟩ := obtain9 (be := 10) hN hc hog (by omega) (start_ci hN hc hT R I U O)
  refine ⟨v, Mc', Mr', h1, h2, h3, fun hv => ?_, ?_⟩
  · obtain ⟨q1, -, q3⟩ := h3.2.2.2.1 hv
    have hh : Mc' (51, 4 + c, 0) o = 1 := q3.resolve_right (fun x => by
      obtain ⟨x1, x2⟩ := x
      rw [fc (40, c, 0) 4 (by dsimp only; omega)] at x1
      obtain ⟨n, n1, n2, n3, -⟩ := I.2.2.2.2.2.2.1 c hc
      have hn0 : n = 0 := (nI_eq (b := 0) (by omega) (by omega)).mp (n2.symm.trans x1)
      have : wsum (fun p => if cMay (cSt Mc c) c 10 p then 0 else if p = o then 0 else wt (cSt Mc c) c p) 48 = wsum (fun _ => 0) 48 := wsum_congr 48 (fun k hk => by
        cases hm : cMay (cSt Mc c) c 10 k with
        | true => rfl
        | false =>
          rw [start_may hc hk hT I U (n3 hn0 k hk) hm]
          simp)
      rw [this] at x2
      exact absurd x2 (by decide))
    exact ⟨hh, q1 hh⟩
  · rw [h3.2.2.1 _ _ (by unfold tR fR; dsimp only; omega)]
    show gset (gset Mr m_o 66 0) m_o 33 (gset Mr m_o 66 0 m_o 33 + 1) m_o 66 = 0
    rw [gset_r, if_neg (by simp), g66]
set_option maxHeartbeats 1000000 in
theorem st_read (hN : 1 ≤ N ∧ N ≤ 4) (hT : T ≤ 500) (h : St N T z.1 z.2.1) : ∃ z1, s_read N z a1 a2 = some z1 ∧ St N (T + 1) z1.1 z1.2.1 := by
  obtain ⟨g, R, I, U, O⟩ := id h
  have hg := I.1.1
  rcases rng a1 4 (by omega) with ⟨c, hc, rfl⟩ | bad
  · rcases rng a2 48 (by omega) with ⟨o, ho, rfl⟩ | bad
    · have hC : f_X10_read N z.1 (nI c) (nI o) = ob (f_X10_obtainKind N (cSt z.1 c) c (nI o) (0 : Int32)) (fun v12 M11 => (if (lg_cmp v12 (0 : Int64)) = 0 then rd M11 (52, (4 + c), 0) 48 (nI o) (fun v14 => some (0, v14.toInt64, M11)) else some (0, v12, M11))) := by
        unfold f_X10_read gnl
        simp only [c_checkClient_ok hc, o1_s, if_true, c_checkObject_ok ho, c_startCall hc, ob_s, hc]
      have hR : f_X11_read z.2.1 (nI c) (nI o) = o1 (f_X11_kindOf (gset z.2.1 m_o 66 0) (nI o) (0 : Int32)) (fun v9 => (if (lg_cmp v9 (0 : Int64)) = 0 then ob (f_X11_get (rSt z.2.1) (nI c) (nI o) (10 : Int32)) (fun v15 M14 => (if (lg_cmp v15 (0 : Int64)) = 0 then some ((M14 m_o 42).toInt64, M14) else some (v15, M14))) else some (v9, gset z.2.1 m_o 66 0))) := by
        unfold f_X11_read
        simp only [r_isClient_ok hc, r_isObject_ok ho, o1_s, jn_d, one_0, if_false, lt_d, g66, le_00, if_true]
      have R5 : Rel N g z.1 (gset z.2.1 m_o 66 0) := R.fr hN.2 (cf.rf _ _) ((cf.st (A := fun j q => j.1 = 0 ∧ q = 66) ⟨rfl, rfl⟩).mo (fun j q => by unfold rsc; omega))
      have k1 : cSt z.1 c (1, 0, 0) 3 = nI g := by rw [cSt_n (by decide)]; exact R.ct.1
      have k4 : kdO (cSt z.1 c) g o 0 = kdO z.1 g o 0 := by
        unfold kdO
        rw [cSt_n (show ((4, 0, 0) : gI).1 ≠ 30 by decide)]
      rw [r_kindOf R5 hg ho, o1_s] at hR
      unfold f_X10_obtainKind at hC
      rw [c_stop k1 hg ho, o1_s, k4] at hC
      by_cases hk : kdO z.1 g o 0 = 0
      · obtain ⟨hog, hdir⟩ := kd_0 hk
        obtain ⟨v, Mc', Mr', e1, e2, e3, e4, e5⟩ := first_ob hN.2 hc hT hog R I U O
        rw [hk, if_pos (lg_cmp_z 0), e1, ob_s, ob_s] at hC
        rw [hk, if_pos (lg_cmp_z 0), e2, ob_s] at hR
        have hS : St N (T + 1) Mc' Mr' := ci_st e3.1 (by omega)
        by_cases hv : v = 0
        · obtain ⟨hh, gt⟩ := e4 hv
          rw [if_pos (by rw [lg_cmp0]; exact hv), rd_n ho (by omega)] at hC
          rw [if_pos (by rw [lg_cmp0]; exact hv), gt.1 (by rw [e3.2.1 _ _ (by unfold tC fC; dsimp only; omega), cSt_n (by decide)]; exact hdir)] at hR
          exact q_read hC hR e5 (by omega) (fun _ => rfl) hS
        · rw [if_neg (by rw [lg_cmp0]; exact hv)] at hC hR
          exact q_read hC hR e5 (by omega) (fun _ => rfl) hS
      · rw [if_neg (by rw [lg_cmp0]; exact hk), ob_s, if_neg (by rw [lg_cmp0]; exact hk)] at hC
        rw [if_neg (by rw [lg_cmp0]; exact hk)] at hR
        exact q_read hC hR (g66 _ _) (by omega) (fun _ => rfl) (st_begun hN.2 hc h)
    · have c1 : f_X10_read N z.1 (nI c) a2 = some (1, 0, z.1) := by
        unfold f_X10_read
        rw [c_checkClient_ok hc, o1_s, if_pos rfl, c_checkObject_bad bad, o1_s, if_neg (by decide)]
      have r1 : f_X11_read z.2.1 (nI c) a2 = some (0, gset z.2.1 m_o 66 1) := by
        unfold f_X11_read
        simp only [r_isClient_ok hc, r_isObject_bad bad, o1_s, jn_d, one_0, if_true, lt_d, g66, le_10, if_false]
      exact q_read c1 r1 (g66 _ _) (by omega) (fun h => absurd h (by decide)) (h.thr hN.2 1)
  · have c1 : f_X10_read N z.1 a1 a2 = some (1, 0, z.1) := by
      unfold f_X10_read
      rw [c_checkClient_bad bad, o1_s, if_neg (by decide)]
    have r1 : f_X11_read z.2.1 a1 a2 = some (0, gset z.2.1 m_o 66 1) := by
      unfold f_X11_read
      simp only [r_isClient_bad bad, o1_s, jn_d, if_true, lt_d, g66, le_10, if_false]
    exact q_read c1 r1 (g66 _ _) (by omega) (fun h => absurd h (by decide)) (h.thr hN.2 1)
end FI2
