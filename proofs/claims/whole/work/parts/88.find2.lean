/-! layer 2: find -/
theorem lsF_skip {p : Nat → Bool} : ∀ (d k m : Nat), (∀ j, k ≤ j → j < k + d → p j = false) → lsF p k (d + m) = lsF p (k + d) m := by
  intro d
  induction d with
  | zero => intro k m _; rw [Nat.zero_add, Nat.add_zero]
  | succ d ih =>
    intro k m h
    rw [show d + 1 + m = (d + m) + 1 by omega]
    show (if p k then k else lsF p (k + 1) (d + m)) = _
    rw [h k (by omega) (by omega), if_neg (by decide), ih (k + 1) m (fun j a b => h j (by omega) (by omega)), show k + 1 + d = k + (d + 1) by omega]
def fnd (p : Nat → Bool) (k m : Nat) : Int64 := if lsF p k m < k + m then (nI (lsF p k m)).toInt64 else -2199023255552
theorem fnd_s {p : Nat → Bool} (k m : Nat) : fnd p k (m + 1) = if p k then (nI k).toInt64 else fnd p (k + 1) m := by
  have el : lsF p k (m + 1) = if p k then k else lsF p (k + 1) m := rfl
  by_cases hp : p k = true
  · rw [if_pos hp]
    rw [if_pos hp] at el
    unfold fnd
    rw [el, if_pos (by omega)]
  · rw [if_neg hp]
    rw [if_neg hp] at el
    unfold fnd
    rw [el, show k + (m + 1) = k + 1 + m by omega]
section FD
variable {N g T c o t : Nat} {M Mc Mr : gM} {z : lS} {a1 a2 a3 a4 : Int32}
theorem c_isMade {x : Nat} (h1 : M (1, 0, 0) 3 = nI g) (hg : g ≤ 47) (hx : x < 100) : f_X0_isMade N M (nI x) = some (zb (decide (x ≤ g))) := by
  unfold f_X0_isMade
  rw [lt_d, h1]
  by_cases e : x ≤ g
  · rw [if_neg (nI_nlt e (by omega)), decide_eq_true e]; rfl
  · rw [if_pos (nI_lt (by omega) (by omega)), decide_eq_false e]; rfl
theorem c_isThereIn {x : Nat} (h1 : M (1, 0, 0) 3 = nI g) (hg : g ≤ 47) (hx : x < 48) : f_X8_isThereIn N M t (nI o) (nI x) = some (zb (decide (x ≤ g ∧ M (2, 0, 0) x = nI o ∧ M (56, t, 0) x = 1))) := by
  unfold f_X8_isThereIn
  rw [c_isMade h1 hg (by omega), o1_s]
  by_cases e : x ≤ g
  · rw [decide_eq_true e, zb_t, if_neg (by decide), rd_n hx (by omega)]
    by_cases e2 : M (2, 0, 0) x = nI o
    · rw [if_pos e2, rd_n hx (by omega)]
      by_cases e3 : M (56, t, 0) x = 1
      · rw [if_pos e3, decide_eq_true ⟨e, e2, e3⟩]; rfl
      · rw [if_neg e3, decide_eq_false (fun y => e3 y.2.2)]; rfl
    · rw [if_neg e2, decide_eq_false (fun y => e2 y.2.1)]; rfl
  · rw [decide_eq_false e, zb_f, if_pos rfl, decide_eq_false (fun y => e y.1)]; rfl
theorem c_leastNamed (h1 : M (1, 0, 0) 3 = nI g) (hg : g ≤ 47) (hog : o ≤ g) : f_X8_leastNamed N M t (nI o) a3 = some (fnd (fun x => decide (M (2, 0, 0) x = nI o ∧ M (56, t, 0) x = 1 ∧ M (3, 0, 0) x = a3)) (o + 1) (g - o)) := by
  have H : ∀ m k fu, k + m = g + 1 → m < fu → f_X8_leastNamed_L4 N M t (nI o) a3 fu (nI k) = some (fnd (fun x => decide (M (2, 0, 0) x = nI o ∧ M (56, t, 0) x = 1 ∧ M (3, 0, 0) x = a3)) k m) := by
    intro m
    induction m with
    | zero =>
      intro k fu hk hf
      obtain ⟨fu, rfl⟩ : ∃ q, fu = q + 1 := ⟨fu - 1, by omega⟩
      simp only [f_X8_leastNamed_L4, lt_d, h1]
      rw [if_pos (nI_lt (by omega) (by omega))]
      unfold fnd
      rw [if_neg (by show ¬ k < k + 0; omega)]
    | succ m ih =>
      intro k fu hk hf
      obtain ⟨fu, rfl⟩ : ∃ q, fu = q + 1 := ⟨fu - 1, by omega⟩
      simp only [f_X8_leastNamed_L4, lt_d, h1, jn_d]
      rw [if_neg (nI_nlt (by omega) (by omega)), c_isThereIn h1 hg (by omega), o1_s]
      have e : ∀ b : Bool, decide (M (2, 0, 0) k = nI o ∧ M (56, t, 0) k = 1 ∧ M (3, 0, 0) k = a3) = b → fnd (fun x => decide (M (2, 0, 0) x = nI o ∧ M (56, t, 0) x = 1 ∧ M (3, 0, 0) x = a3)) k (m + 1) = if b then (nI k).toInt64 else fnd (fun x => decide (M (2, 0, 0) x = nI o ∧ M (56, t, 0) x = 1 ∧ M (3, 0, 0) x = a3)) (k + 1) m := fun b hb => by
        rw [fnd_s]
        cases b
        · rw [if_neg (by rw [hb]; decide), if_neg (by decide)]
        · rw [if_pos hb, if_pos rfl]
      by_cases e1 : k ≤ g ∧ M (2, 0, 0) k = nI o ∧ M (56, t, 0) k = 1
      · rw [decide_eq_true e1, zb_t, if_neg (by decide), rd_n (by omega) (by omega)]
        by_cases e2 : M (3, 0, 0) k = a3
        · rw [if_pos e2, e true (decide_eq_true ⟨e1.2.1, e1.2.2, e2⟩)]; rfl
        · rw [if_neg e2, nI_1, ih (k + 1) fu (by omega) (by omega), e false (decide_eq_false (fun y => e2 y.2.2))]; rfl
      · rw [decide_eq_false e1, zb_f, if_pos rfl, nI_1, ih (k + 1) fu (by omega) (by omega), e false (decide_eq_false (fun y => e1 ⟨by omega, y.1, y.2.1⟩))]; rfl
  unfold f_X8_leastNamed
  rw [lt_d, nI_1]
  exact H (g - o) (o + 1) 100 (by omega) (by omega)
theorem r_find (h6 : M m_o 6 = nI (g + 1)) (hg : g ≤ 47) : f_X11_find_L97 a3 100 (1 : Int32) M = some (fnd (fun x => decide (M m_gotEntry x = 1 ∧ M m_name x = a3)) 1 g, M) := by
  have H : ∀ m k fu, k + m = g + 1 → m < fu → f_X11_find_L97 a3 fu (nI k) M = some (fnd (fun x => decide (M m_gotEntry x = 1 ∧ M m_name x = a3)) k m, M) := by
    intro m
    induction m with
    | zero =>
      intro k fu hk hf
      obtain ⟨fu, rfl⟩ : ∃ q, fu = q + 1 := ⟨fu - 1, by omega⟩
      simp only [f_X11_find_L97, lt_d, h6]
      rw [if_pos (nI_le (by omega) (by omega))]
      unfold fnd
      rw [if_neg (by show ¬ k < k + 0; omega)]
    | succ m ih =>
      intro k fu hk hf
      obtain ⟨fu, rfl⟩ : ∃ q, fu = q + 1 := ⟨fu - 1, by omega⟩
      simp only [f_X11_find_L97, lt_d, h6, jn_d]
      rw [if_neg (nI_ge (by omega) (by omega)), rd_n (by omega) (by omega), rd_n (by omega) (by omega)]
      have e : ∀ b : Bool, decide (M m_gotEntry k = 1 ∧ M m_name k = a3) = b → fnd (fun x => decide (M m_gotEntry x = 1 ∧ M m_name x = a3)) k (m + 1) = if b then (nI k).toInt64 else fnd (fun x => decide (M m_gotEntry x = 1 ∧ M m_name x = a3)) (k + 1) m := fun b hb => by
        rw [fnd_s]
        cases b
        · rw [if_neg (by rw [hb]; decide), if_neg (by decide)]
        · rw [if_pos hb, if_pos rfl]
      by_cases e1 : M m_gotEntry k = 1
      · rw [if_pos e1]
        by_cases e2 : M m_name k = a3
        · rw [if_pos e2, e true (decide_eq_true ⟨e1, e2⟩)]; rfl
        · rw [if_neg e2, nI_1, ih (k + 1) fu (by omega) (by omega), e false (decide_eq_false (fun y => e2 y.2))]; rfl
      · rw [if_neg e1, nI_1, ih (k + 1) fu (by omega) (by omega), e false (decide_eq_false (fun y => e1 y.1))]; rfl
  exact H g 1 100 (by omega) (by omega)
theorem fnd_eq (R : Rel N g Mc Mr) (I : iCat g Mc) (hog : o ≤ g) (G : Got N g c o Mc Mr) : fnd (fun x => decide (Mr m_gotEntry x = 1 ∧ Mr m_name x = a3)) 1 g = fnd (fun x => decide (Mc (2, 0, 0) x = nI o ∧ Mc (56, 4 + c, 0) x = 1 ∧ Mc (3, 0, 0) x = a3)) (o + 1) (g - o) := by
  have hg := I.1
  have sk : lsF (fun x => decide (Mr m_gotEntry x = 1 ∧ Mr m_name x = a3)) 1 (o + (g - o)) = lsF (fun x => decide (Mr m_gotEntry x = 1 ∧ Mr m_name x = a3)) (1 + o) (g - o) := lsF_skip o 1 (g - o) (fun j h1 h2 => by
    refine decide_eq_false (fun y => ?_)
    rw [G.2.2 j (by omega), if_neg (fun w => by
      have := kid_gt I w.1 w.2.1 (by omega) w.2.2
      omega)] at y
    exact absurd y.1 (by decide))
  have cg : lsF (fun x => decide (Mr m_gotEntry x = 1 ∧ Mr m_name x = a3)) (o + 1) (g - o) = lsF (fun x => decide (Mc (2, 0, 0) x = nI o ∧ Mc (56, 4 + c, 0) x = 1 ∧ Mc (3, 0, 0) x = a3)) (o + 1) (g - o) := lsF_congr (g - o) (o + 1) (fun j h1 h2 => by
    have hj : j < 48 := by omega
    rw [Bool.eq_iff_iff, decide_eq_true_iff, decide_eq_true_iff, G.2.2 j hj, (R.ct.2.2 j hj).2.1]
    by_cases e : 1 ≤ j ∧ j ≤ g ∧ Mc (2, 0, 0) j = nI o
    · rw [if_pos e]
      exact ⟨fun y => ⟨e.2.2, y.1, y.2⟩, fun y => ⟨y.2.1, y.2.2⟩⟩
    · rw [if_neg e]
      exact ⟨fun y => absurd y.1 (by decide), fun y => absurd ⟨by omega, by omega, y.1⟩ e⟩)
  rw [show o + (g - o) = g by omega, show 1 + o = o + 1 by omega, cg] at sk
  unfold fnd
  rw [sk, show 1 + g = o + 1 + (g - o) by omega]
set_option maxHeartbeats 1000000 in
theorem st_find (hN : 1 ≤ N ∧ N ≤ 4) (hT : T ≤ 500) (h : St N T z.1 z.2.1) : ∃ z1, s_find N z a1 a2 a3 = some z1 ∧ St N (T + 1) z1.1 z1.2.1 := by
  obtain ⟨g, R, I, U, O⟩ := id h
  have hg := I.1.1
  rcases rng a1 4 (by omega) with ⟨c, hc, rfl⟩ | bad
  · rcases rng a2 48 (by omega) with ⟨o, ho, rfl⟩ | bad
    · rcases rng a3 16 (by omega) with ⟨w, hw, rfl⟩ | bad
      · have hC : f_X10_find N z.1 (nI c) (nI o) (nI w) = ob (f_X10_obtainKind N (cSt z.1 c) c (nI o) (1 : Int32)) (fun v15 M14 => (if (lg_cmp v15 (0 : Int64)) = 0 then o1 (f_X8_leastNamed N M14 (4 + c) (nI o) (nI w)) (fun v18 => some (0, v18, M14)) else some (0, v15, M14))) := by
          unfold f_X10_find gnl
          simp only [c_checkClient_ok hc, o1_s, if_true, c_checkObject_ok ho, c_checkArgument_ok (n := 16) (hi := 15) hw (by omega) rfl, c_startCall hc, ob_s, hc]
        have hR : f_X11_find z.2.1 (nI c) (nI o) (nI w) = o1 (f_X11_kindOf (gset z.2.1 m_o 66 0) (nI o) (1 : Int32)) (fun v9 => (if (lg_cmp v9 (0 : Int64)) = 0 then ob (f_X11_get (rSt z.2.1) (nI c) (nI o) (10 : Int32)) (fun v15 M14 => (if (lg_cmp v15 (0 : Int64)) = 0 then f_X11_find_L97 (nI w) 100 (1 : Int32) M14 else some (v15, M14))) else some (v9, gset z.2.1 m_o 66 0))) := by
          unfold f_X11_find
          simp only [r_isClient_ok hc, r_isObject_ok ho, in_ok (n := 16) (hi := 15) hw (by omega) rfl, o1_s, jn_d, one_0, if_false, lt_d, g66, le_00, if_true]
        have R5 : Rel N g z.1 (gset z.2.1 m_o 66 0) := R.fr hN.2 (cf.rf _ _) ((cf.st (A := fun j q => j.1 = 0 ∧ q = 66) ⟨rfl, rfl⟩).mo (fun j q => by unfold rsc; omega))
        have k1 : cSt z.1 c (1, 0, 0) 3 = nI g := by rw [cSt_n (by decide)]; exact R.ct.1
        have k4 : kdO (cSt z.1 c) g o 1 = kdO z.1 g o 1 := by
          unfold kdO
          rw [cSt_n (show ((4, 0, 0) : gI).1 ≠ 30 by decide)]
        rw [r_kindOf R5 hg ho, o1_s] at hR
        unfold f_X10_obtainKind at hC
        rw [c_stop k1 hg ho, o1_s, k4] at hC
        by_cases hk : kdO z.1 g o 1 = 0
        · obtain ⟨hog, hdir⟩ := kd_0 hk
          obtain ⟨v, Mc', Mr', e1, e2, e3, e4, e5⟩ := first_ob hN.2 hc hT hog R I U O
          rw [hk, if_pos (lg_cmp_z 0), e1, ob_s, ob_s] at hC
          rw [hk, if_pos (lg_cmp_z 0), e2, ob_s] at hR
          have hS : St N (T + 1) Mc' Mr' := ci_st e3.1 (by omega)
          by_cases hv : v = 0
          · obtain ⟨hh, gt⟩ := e4 hv
            have R' := e3.1.1
            have I' := e3.1.2.1
            rw [if_pos (by rw [lg_cmp0]; exact hv), c_leastNamed R'.ct.1 hg hog, o1_s] at hC
            rw [if_pos (by rw [lg_cmp0]; exact hv), r_find R'.ct.2.1 hg, fnd_eq R' I'.1 hog gt] at hR
            exact q_find hC hR e5 (by omega) (fun _ => rfl) hS
          · rw [if_neg (by rw [lg_cmp0]; exact hv)] at hC hR
            exact q_find hC hR e5 (by omega) (fun _ => rfl) hS
        · rw [if_neg (by rw [lg_cmp0]; exact hk), ob_s, if_neg (by rw [lg_cmp0]; exact hk)] at hC
          rw [if_neg (by rw [lg_cmp0]; exact hk)] at hR
          exact q_find hC hR (g66 _ _) (by omega) (fun _ => rfl) (st_begun hN.2 hc h)
      · have c1 : f_X10_find N z.1 (nI c) (nI o) a3 = some (2, 0, z.1) := by
          unfold f_X10_find
          rw [c_checkClient_ok hc, o1_s, if_pos rfl, c_checkObject_ok ho, o1_s, if_pos rfl, c_checkArgument_bad (n := 16) (hi := 15) bad (by omega) (by omega) rfl, o1_s, if_neg (by decide)]
        have r1 : f_X11_find z.2.1 (nI c) (nI o) a3 = some (0, gset z.2.1 m_o 66 2) := by
          unfold f_X11_find
          simp only [r_isClient_ok hc, r_isObject_ok ho, in_bad (n := 16) (hi := 15) bad (by omega) (by omega) rfl, o1_s, jn_d, one_0, if_true, lt_d, g66, le_20, if_false]
        exact q_find c1 r1 (g66 _ _) (by omega) (fun h => absurd h (by decide)) (h.thr hN.2 2)
    · have c1 : f_X10_find N z.1 (nI c) a2 a3 = some (1, 0, z.1) := by
        unfold f_X10_find
        rw [c_checkClient_ok hc, o1_s, if_pos rfl, c_checkObject_bad bad, o1_s, if_neg (by decide)]
      have r1 : f_X11_find z.2.1 (nI c) a2 a3 = some (0, gset z.2.1 m_o 66 1) := by
        unfold f_X11_find
        simp only [r_isClient_ok hc, r_isObject_bad bad, o1_s, jn_d, one_0, if_true, lt_d, g66, le_10, if_false]
      exact q_find c1 r1 (g66 _ _) (by omega) (fun h => absurd h (by decide)) (h.thr hN.2 1)
  · have c1 : f_X10_find N z.1 a1 a2 a3 = some (1, 0, z.1) := by
      unfold f_X10_find
      rw [c_checkClient_bad bad, o1_s, if_neg (by decide)]
    have r1 : f_X11_find z.2.1 a1 a2 a3 = some (0, gset z.2.1 m_o 66 1) := by
      unfold f_X11_find
      simp only [r_isClient_bad bad, o1_s, jn_d, if_true, lt_d, g66, le_10, if_false]
    exact q_find c1 r1 (g66 _ _) (by omega) (fun h => absurd h (by decide)) (h.thr hN.2 1)
end FD
