/-! layer 2: lose, priority, record, version, vector -/
section SI
variable {N T : Nat} {z : lS} {a1 a2 a3 a4 : Int32}
theorem Rel.n0 {N g : Nat} {Mc Mr : gM} (R : Rel N g Mc Mr) : Mr m_o 0 = nI N := R.1.2.2.2.1
theorem Rel.n1 {N g : Nat} {Mc Mr : gM} (R : Rel N g Mc Mr) : Mr m_o 1 = nI (N + 4) := R.1.2.2.2.2
theorem Rel.c0 {N g : Nat} {Mc Mr : gM} (R : Rel N g Mc Mr) : Mc (0, 0, 0) 0 = nI N := R.1.1
theorem Rel.sv {N g s o : Nat} {Mc Mr : gM} (R : Rel N g Mc Mr) (hs : s < N) (ho : o < 48) : rSv N s o Mc Mr := R.2.2.2.2.1 s hs o ho
theorem Rel.kl {N g c o : Nat} {Mc Mr : gM} (R : Rel N g Mc Mr) (hs : c < 4) (ho : o < 48) : rKl N c o Mc Mr := R.2.2.2.2.2.1 c hs o ho
theorem Rel.lg {N g c : Nat} {Mc Mr : gM} (R : Rel N g Mc Mr) (hs : c < 4) : rLg N c Mc Mr := R.2.2.2.2.2.2.1 c hs
theorem Rel.ct {N g : Nat} {Mc Mr : gM} (R : Rel N g Mc Mr) : rCat g Mc Mr := R.2.1
theorem g66 (M : gM) (v : Int32) : gset M m_o 66 v m_o 66 = v := by rw [gset_r, if_pos ⟨rfl, rfl⟩]
theorem g66n {M : gM} {v : Int32} {t q : Nat} (h : t ≠ 0) : gset M m_o 66 v (t, 0, 0) q = M (t, 0, 0) q := by
  rw [gset_r, if_neg]
  intro e
  exact h (congrArg Prod.fst e.1)
theorem le_00 : ((0 : Int32) ≤ 0) = True := by decide
theorem le_10 : ((1 : Int32) ≤ 0) = False := by decide
theorem le_20 : ((2 : Int32) ≤ 0) = False := by decide
theorem one_0 : ((1 : Int32) = 0) = False := by decide
theorem two_0 : ((2 : Int32) = 0) = False := by decide
set_option maxHeartbeats 1000000 in
theorem st_lose (hN : 1 ≤ N ∧ N ≤ 4) (h : St N T z.1 z.2.1) : ∃ z1, s_lose N z a1 = some z1 ∧ St N (T + 1) z1.1 z1.2.1 := by
  obtain ⟨g, R, I, U, O⟩ := id h
  rcases rng a1 N (by omega) with ⟨s, hs, rfl⟩ | bad
  · have hl : z.1 (20, s, 0) 3 = z.2.1 m_loses s := R.2.2.2.1 s hs
    have c : f_X10_lose N z.1 (nI s) = some (0, zb (decide (z.2.1 m_loses s = 0)), gset z.1 (20, s, 0) 3 1) := by
      unfold f_X10_lose
      rw [c_checkServer_ok R.c0 hN.2 hs, o1_s, if_pos rfl, ix_n hs (by omega), lt_d, jn_d, hl]
      by_cases e : z.2.1 m_loses s = 0
      · simp only [if_pos e]
        rw [ix_n hs (by omega), gz_1, lt_d, gz_1, decide_eq_true e]
        rfl
      · simp only [if_neg e]
        rw [ix_n hs (by omega), gz_1, lt_d, gz_0, decide_eq_false e]
        rfl
    have r : f_X11_lose z.2.1 (nI s) = some (zb (decide (z.2.1 m_loses s = 0)), gset (gset z.2.1 m_o 66 0) m_loses s 1) := by
      unfold f_X11_lose
      rw [r_isServer_ok R.n0 hN.2 hs, o1_s, jn_d, if_neg (by decide)]
      simp only [lt_d, g66, le_00, if_true]
      rw [rd_n (by omega) (by omega), wz_1 (by omega) (by omega), g66n (by decide)]
      by_cases e : z.2.1 m_loses s = 0
      · rw [if_pos e, decide_eq_true e]; rfl
      · rw [if_neg e, decide_eq_false e]; rfl
    have hc : cf (fun j q => j.1 = 20) z.1 (gset z.1 (20, s, 0) 3 1) := cf.st rfl
    have hr : cf (fun j q => j.1 = 6 ∨ (j.1 = 0 ∧ q = 66)) z.2.1 (gset (gset z.2.1 m_o 66 0) m_loses s 1) := (cf.st (Or.inr ⟨rfl, rfl⟩)).tr (cf.st (Or.inl rfl))
    refine q_lose c r ?_ (by omega) (fun _ => rfl) ⟨g, ?_, ?_, (U.fr hc hr ?_ ?_ ?_ ?_ ?_ ?_).up (by omega), O.fr hc hr ?_ ?_ ?_⟩
    · rw [gset_r, if_neg (by simp), g66]; rfl
    · obtain ⟨co, cat, net, lo, sv, kl, lg, tl⟩ := R
      refine ⟨co.fr hc hr ?_ ?_, cat.fr hc hr ?_ ?_, net.fr hN.2 hc hr ?_ ?_, ?_, fun s hs o ho => (sv s hs o ho).fr hN.2 hc hr ?_ ?_, fun c h o ho => (kl c h o ho).fr hN.2 hc hr ?_ ?_, fun c h => (lg c h).fr hN.2 hc hr ?_ ?_, tl.fr hc hr ?_ ?_⟩
      · intro j q; unfold kCo; omega
      · intro j q; unfold lCo; omega
      · intro j q; unfold kCat; omega
      · intro j q; unfold lCat; omega
      · intro j q; unfold kNet; omega
      · intro j q; unfold lNet; omega
      · intro t ht
        by_cases e : t = s
        · subst e; rw [gset_r, if_pos ⟨rfl, rfl⟩, gset_r, if_pos ⟨rfl, rfl⟩]
        · rw [gset_r, if_neg (fun x => e (congrArg (fun j : gI => j.2.1) x.1)), gset_r, if_neg (fun x => e x.2), g66n (by decide)]; exact lo t ht
      · intro j q; unfold kSv; omega
      · intro j q; unfold lSv; omega
      · intro j q; unfold kKl; omega
      · intro j q; unfold lKl; omega
      · intro j q; unfold kLg; omega
      · intro j q; unfold lLg; omega
      · intro j q; unfold kTl; omega
      · intro j q; unfold lTl; omega
    · obtain ⟨cat, lo, sv, vr, kl, w, lg, mk⟩ := I
      refine ⟨cat.fr hc ?_, fun t ht => ?_, fun s hs o ho => (sv s hs o ho).fr ho hc ?_, fun s hs o ho => (vr s hs o ho).fr hc ?_, fun c h o ho => (kl c h o ho).fr hN.2 hc ?_, fun c h => (w c h).fr hc ?_, fun c h => (lg c h).fr cat.1 hc ?_, mk.fr hc ?_⟩
      · intro j q; unfold eCat; omega
      · rw [gset_r]
        by_cases e : ((20, t, 0) : gI) = (20, s, 0) ∧ 3 = 3
        · rw [if_pos e]; right; rfl
        · rw [if_neg e]; exact lo t ht
      · intro j q; unfold eSv; omega
      · intro j q; unfold eVr; omega
      · intro j q; unfold eKl; omega
      · intro j q; unfold eWt; omega
      · intro j q; unfold eLg; omega
      · intro t c q h1 h2; omega
    · intro c q; dsimp only; omega
    · intro c; dsimp only; omega
    · intro q; dsimp only; omega
    · intro q; dsimp only; omega
    · dsimp only; omega
    · dsimp only; omega
    · intro c q; dsimp only; omega
    · intro c q; dsimp only; omega
    · intro q; dsimp only; omega
  · have c : f_X10_lose N z.1 a1 = some (1, 0, z.1) := by
      unfold f_X10_lose
      rw [c_checkServer_bad R.c0 bad, o1_s, if_neg (by decide)]
    have r : f_X11_lose z.2.1 a1 = some (0, gset z.2.1 m_o 66 1) := by
      unfold f_X11_lose
      rw [r_isServer_bad R.n0 hN.1 hN.2 bad, o1_s, jn_d, if_pos rfl]
      simp only [lt_d, g66, le_10, if_false]
    exact q_lose c r (g66 _ _) (by omega) (fun h => absurd h (by decide)) (h.thr hN.2 1)
set_option maxHeartbeats 1000000 in
theorem st_record (hN : 1 ≤ N ∧ N ≤ 4) (h : St N T z.1 z.2.1) : ∃ z1, s_record N z a1 a2 a3 = some z1 ∧ St N (T + 1) z1.1 z1.2.1 := by
  obtain ⟨g, R, I, U, O⟩ := id h
  rcases rng a1 4 (by omega) with ⟨c, hc, rfl⟩ | bad
  · rcases rng a3 3 (by omega) with ⟨w, hw, rfl⟩ | bad
    · obtain ⟨l1, l2, l3⟩ := R.lg hc
      obtain ⟨n, n1, n2, -⟩ := I.2.2.2.2.2.2.1 c hc
      have hnr : z.2.1 m_records c = nI n := by rw [← l1]; exact n2
      have key : ∃ v : Int64, f_X10_record N z.1 (nI c) a2 (nI w) = some (0, v, z.1) ∧ f_X11_record z.2.1 (nI c) a2 (nI w) = some (v, gset z.2.1 m_o 66 0) := by
        unfold f_X10_record f_X11_record
        simp only [c_checkClient_ok hc, o1_s, if_true, c_checkWhat_ok (n := 3) (hi := 2) hw (by omega) rfl, ix_n hc (show 4 ≤ 16384 by omega), r_isClient_ok hc, jn_d, one_0, if_false, in_ok (n := 3) (hi := 2) hw (by omega) rfl, lt_d, g66, le_00, n2, rd_n hc (show 4 ≤ 16384 by omega), g66n (show (35 : Nat) ≠ 0 by decide), hnr, nI_m12]
        rcases rng a2 n (by omega) with ⟨i, hi, rfl⟩ | bad
        · obtain ⟨q1, q2, q3, -⟩ := l3 i (by omega) (by rw [hnr]; exact nI_lt hi (by omega))
          simp only [nI_n0 (show i < 2 ^ 31 by omega), if_false, nlt (show i < 2 ^ 31 by omega) (show n < 2 ^ 31 by omega), hi, if_true, nI_add, rd_n (show i < 12 by omega) (show 12 ≤ 16384 by omega), rd_n (show 12 * c + i < 48 by omega) (show 48 ≤ 16384 by omega), g66n (show (36 : Nat) ≠ 0 by decide), g66n (show (37 : Nat) ≠ 0 by decide), g66n (show (38 : Nat) ≠ 0 by decide), q1, q2, q3]
          by_cases e0 : nI w = 0
          · rw [if_pos e0, if_pos e0]; exact ⟨_, rfl, rfl⟩
          · rw [if_neg e0, if_neg e0]
            by_cases e1 : nI w = 1
            · rw [if_pos e1, if_pos e1]; exact ⟨_, rfl, rfl⟩
            · rw [if_neg e1, if_neg e1]; exact ⟨_, rfl, rfl⟩
        · by_cases e0 : a2 < 0
          · rw [if_pos e0, if_pos e0]; exact ⟨_, rfl, rfl⟩
          · have e1 := Int32.not_lt.mpr (bad.resolve_left e0)
            rw [if_neg e0, if_neg e0, if_neg e1, if_neg e1]; exact ⟨_, rfl, rfl⟩
      obtain ⟨v, k1, k2⟩ := key
      exact q_record k1 k2 (g66 _ _) (by omega) (fun _ => rfl) (h.thr hN.2 0)
    · have c1 : f_X10_record N z.1 (nI c) a2 a3 = some (1, 0, z.1) := by
        unfold f_X10_record
        rw [c_checkClient_ok hc, o1_s, if_pos rfl, c_checkWhat_bad (n := 3) (hi := 2) bad (by omega) (by omega) rfl, o1_s, if_neg (by decide)]
      have r1 : f_X11_record z.2.1 (nI c) a2 a3 = some (0, gset z.2.1 m_o 66 1) := by
        unfold f_X11_record
        simp only [r_isClient_ok hc, o1_s, jn_d, one_0, in_bad (n := 3) (hi := 2) bad (by omega) (by omega) rfl, if_true, lt_d, g66, le_10, if_false]
      exact q_record c1 r1 (g66 _ _) (by omega) (fun h => absurd h (by decide)) (h.thr hN.2 1)
  · have c1 : f_X10_record N z.1 a1 a2 a3 = some (1, 0, z.1) := by
      unfold f_X10_record
      rw [c_checkClient_bad bad, o1_s, if_neg (by decide)]
    have r1 : f_X11_record z.2.1 a1 a2 a3 = some (0, gset z.2.1 m_o 66 1) := by
      unfold f_X11_record
      simp only [r_isClient_bad bad, o1_s, jn_d, if_true, lt_d, g66, le_10, if_false]
    exact q_record c1 r1 (g66 _ _) (by omega) (fun h => absurd h (by decide)) (h.thr hN.2 1)
end SI
