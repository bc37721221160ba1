/-! layer 2: priority, version, vector -/
section QU
variable {N T : Nat} {z : lS} {a1 a2 a3 a4 : Int32}
theorem Rel.at0 {N g : Nat} {Mc Mr : gM} (hN : N ≤ 4) (R : Rel N g Mc Mr) (v : Int32) : Rel N g Mc (gset Mr m_o 66 v) := R.fr hN (cf.rf _ _) ((cf.st (A := fun j q => j.1 = 0 ∧ q = 66) ⟨rfl, rfl⟩).mo (fun j q => by unfold rsc; omega))
theorem c_has {N v n : Nat} {M : gM} {a : Int32} (hl : M (60, v, 0) 3 = nI n) (hn : n ≤ 24) : f_X9_has N M v a = some (zb (decide (¬ a < 0 ∧ a < nI n))) := by
  unfold f_X9_has
  by_cases e : a < 0
  · rw [if_pos e, decide_eq_false (fun x => x.1 e)]; rfl
  · rw [if_neg e, lt_d, hl]
    by_cases e2 : a < nI n
    · rw [if_neg (Int32.not_le.mpr e2), decide_eq_true ⟨e, e2⟩]; rfl
    · rw [if_pos (Int32.not_lt.mp e2), decide_eq_false (fun x => e2 x.2)]; rfl
theorem r_inN {M : gM} {a : Int32} {n : Nat} (hn : n ≤ 24) : f_X11_in M a (0 : Int32) (nI n - (1 : Int32)) = some (zb (decide (¬ a < 0 ∧ a < nI n))) := by
  unfold f_X11_in
  by_cases e : a < 0
  · rw [if_pos e, decide_eq_false (fun x => x.1 e)]; rfl
  · rw [if_neg e]
    obtain ⟨j, hj, rfl⟩ := nI_of e
    have hs : (nI n - nI 1).toInt = (n : Int) - 1 := pk_sub_toInt (by omega) (by omega)
    by_cases e2 : nI j < nI n
    · have := (nI_ltI hj (by omega)).mp e2
      rw [if_neg (by rw [Int32.lt_iff_toInt_lt, show (1 : Int32) = nI 1 from rfl, hs, nI_toInt hj]; omega), decide_eq_true ⟨e, e2⟩]; rfl
    · have := mt (nI_ltI hj (by omega)).mpr e2
      rw [if_pos (by rw [Int32.lt_iff_toInt_lt, show (1 : Int32) = nI 1 from rfl, hs, nI_toInt hj]; omega), decide_eq_false (fun x => e2 x.2)]; rfl
set_option maxHeartbeats 1000000 in
theorem st_version (hN : 1 ≤ N ∧ N ≤ 4) (hT : T ≤ 500) (h : St N T z.1 z.2.1) : ∃ z1, s_version N z a1 a2 a3 a4 = some z1 ∧ St N (T + 1) z1.1 z1.2.1 := by
  obtain ⟨g, R, I, U, O⟩ := id h
  have hg := I.1.1
  rcases rng a1 N (by omega) with ⟨y1, h1, rfl⟩ | bad
  · rcases rng a2 48 (by omega) with ⟨y2, h2, rfl⟩ | bad
    · rcases rng a4 2 (by omega) with ⟨y4, h4, rfl⟩ | bad
      · obtain ⟨n, n1, n2, n3, -⟩ := (I.2.2.2.1 y1 h1 y2 h2).2
        obtain ⟨f1, -, -, -, -, -, -, f8, f9⟩ := R.sv h1 h2
        have hvr : z.2.1 m_versions (48 * y1 + y2) = nI n := by rw [← f8]; exact n2
        have key : ∃ v : Int64, f_X10_version N z.1 (nI y1) (nI y2) a3 (nI y4) = some (0, v, z.1) ∧ f_X11_version z.2.1 (nI y1) (nI y2) a3 (nI y4) = some (v, gset z.2.1 m_o 66 0) := by
          unfold f_X10_version f_X11_version
          simp only [c_checkServer_ok R.c0 hN.2 h1, c_checkObject_ok h2, c_checkWhat_ok (n := 2) (hi := 1) h4 (by omega) rfl, o1_s, if_true, ix_n h1 (show N ≤ 16384 by omega), ix_n h2 (show 48 ≤ 16384 by omega), c_has n2 (show n ≤ 24 by omega), r_isServer_ok R.n0 hN.2 h1, r_isObject_ok h2, in_ok (n := 2) (hi := 1) h4 (by omega) rfl, jn_d, one_0, if_false, lt_d, g66, le_00, nI_m48, nI_add, nI_m6, rd_n (show 48 * y1 + y2 < 192 by omega) (show 192 ≤ 16384 by omega), g66n (show (11 : Nat) ≠ 0 by decide), g66n (show (15 : Nat) ≠ 0 by decide), hvr, r_inN (show n ≤ 24 by omega)]
          by_cases hh : z.2.1 m_has (48 * y1 + y2) = 0
          · have hn0 : n = 0 := Classical.byContradiction fun x => by
              have := (n3 x).1
              rw [f1, hh] at this
              exact absurd this (by decide)
            have hf : decide (¬ a3 < 0 ∧ a3 < nI n) = false := decide_eq_false (fun x => by
              rw [hn0] at x
              exact x.1 x.2)
            rw [hf, zb_f, if_pos rfl, if_pos hh]
            exact ⟨_, rfl, rfl⟩
          · rw [if_neg hh]
            rcases rng a3 n (by omega) with ⟨i, hi, rfl⟩ | bad
            · have ht : decide (¬ nI i < 0 ∧ nI i < nI n) = true := decide_eq_true ⟨nI_pos (by omega), nI_lt hi (by omega)⟩
              obtain ⟨q1, q2, -⟩ := f9 i (by omega) (by rw [hvr]; exact nI_lt hi (by omega))
              have hm : cMost (48 * y1 + y2) = 6 := if_neg (by omega)
              rw [ht, zb_t]
              simp only [one_0, if_false, hm, nI_add, rd_n (show i < 6 by omega) (show 6 ≤ 16384 by omega), rd_n (show 6 * (48 * y1 + y2) + i < 1152 by omega) (show 1152 ≤ 16384 by omega), g66n (show (16 : Nat) ≠ 0 by decide), g66n (show (17 : Nat) ≠ 0 by decide), q1, q2]
              by_cases e : nI y4 = 0
              · rw [if_pos e, if_pos e]; exact ⟨_, rfl, rfl⟩
              · rw [if_neg e, if_neg e]; exact ⟨_, rfl, rfl⟩
            · have hf : decide (¬ a3 < 0 ∧ a3 < nI n) = false := decide_eq_false (fun x => bad.elim x.1 (fun y => Int32.not_lt.mpr y x.2))
              rw [hf, zb_f, if_pos rfl, if_pos rfl]
              exact ⟨_, rfl, rfl⟩
        obtain ⟨v, k1, k2⟩ := key
        exact q_version k1 k2 (g66 _ _) (by omega) (fun _ => rfl) (h.thr hN.2 0)
      · have c1 : f_X10_version N z.1 (nI y1) (nI y2) a3 a4 = some (1, 0, z.1) := by
          unfold f_X10_version
          simp only [c_checkServer_ok R.c0 hN.2 h1, c_checkObject_ok h2, c_checkWhat_bad (n := 2) (hi := 1) bad (by omega) (by omega) rfl, o1_s, lt_d, R.c0, if_true, if_false, Nat.one_ne_zero, show (2 = 0) = False from eq_false (by decide)]
        have r1 : f_X11_version z.2.1 (nI y1) (nI y2) a3 a4 = some (0, gset z.2.1 m_o 66 1) := by
          unfold f_X11_version
          simp only [r_isServer_ok R.n0 hN.2 h1, r_isObject_ok h2, in_bad (n := 2) (hi := 1) bad (by omega) (by omega) rfl, o1_s, jn_d, one_0, if_true, lt_d, R.n1, g66, le_10, le_20, if_false]
        exact q_version c1 r1 (g66 _ _) (by omega) (fun h => absurd h (by decide)) (h.thr hN.2 1)
    · have c1 : f_X10_version N z.1 (nI y1) a2 a3 a4 = some (1, 0, z.1) := by
        unfold f_X10_version
        simp only [c_checkServer_ok R.c0 hN.2 h1, c_checkObject_bad bad, o1_s, lt_d, R.c0, if_true, if_false, Nat.one_ne_zero, show (2 = 0) = False from eq_false (by decide)]
      have r1 : f_X11_version z.2.1 (nI y1) a2 a3 a4 = some (0, gset z.2.1 m_o 66 1) := by
        unfold f_X11_version
        simp only [r_isServer_ok R.n0 hN.2 h1, r_isObject_bad bad, o1_s, jn_d, one_0, if_true, lt_d, R.n1, g66, le_10, le_20, if_false]
      exact q_version c1 r1 (g66 _ _) (by omega) (fun h => absurd h (by decide)) (h.thr hN.2 1)
  · have c1 : f_X10_version N z.1 a1 a2 a3 a4 = some (1, 0, z.1) := by
      unfold f_X10_version
      simp only [c_checkServer_bad R.c0 bad, o1_s, lt_d, R.c0, if_true, if_false, Nat.one_ne_zero, show (2 = 0) = False from eq_false (by decide)]
    have r1 : f_X11_version z.2.1 a1 a2 a3 a4 = some (0, gset z.2.1 m_o 66 1) := by
      unfold f_X11_version
      simp only [r_isServer_bad R.n0 hN.1 hN.2 bad, o1_s, jn_d, one_0, if_true, lt_d, R.n1, g66, le_10, le_20, if_false]
    exact q_version c1 r1 (g66 _ _) (by omega) (fun h => absurd h (by decide)) (h.thr hN.2 1)
set_option maxHeartbeats 1000000 in
theorem st_priority (hN : 1 ≤ N ∧ N ≤ 4) (hT : T ≤ 500) (h : St N T z.1 z.2.1) : ∃ z1, s_priority N z a1 a2 a3 = some z1 ∧ St N (T + 1) z1.1 z1.2.1 := by
  obtain ⟨g, R, I, U, O⟩ := id h
  have hg := I.1.1
  rcases rng a1 4 (by omega) with ⟨y1, h1, rfl⟩ | bad
  · rcases rng a2 48 (by omega) with ⟨y2, h2, rfl⟩ | bad
    · rcases rng a3 10 (by omega) with ⟨y3, h3, rfl⟩ | bad
      · obtain ⟨-, -, -, -, -, f6, -, -⟩ := R.kl h1 h2
        have c1 : f_X10_priority N z.1 (nI y1) (nI y2) (nI y3) = some (0, z.1 (31, y1, 0) y2, gset z.1 (31, y1, 0) y2 (nI y3)) := by
          unfold f_X10_priority
          simp only [c_checkClient_ok h1, c_checkObject_ok h2, c_checkArgument_ok (n := 10) (hi := 9) h3 (by omega) rfl, o1_s, if_true, ix_n h1 (show 4 ≤ 16384 by omega), rd_n h2 (show 48 ≤ 16384 by omega), wr_n h2 (show 48 ≤ 16384 by omega)]
        have r1 : f_X11_priority z.2.1 (nI y1) (nI y2) (nI y3) = some (z.2.1 m_priorities (48 * y1 + y2), gset (gset z.2.1 m_o 66 0) m_priorities (48 * y1 + y2) (nI y3)) := by
          unfold f_X11_priority
          simp only [r_isClient_ok h1, r_isObject_ok h2, in_ok (n := 10) (hi := 9) h3 (by omega) rfl, o1_s, jn_d, one_0, if_false, lt_d, g66, le_00, if_true, nI_m48, nI_add, rd_n (show 48 * y1 + y2 < 192 by omega) (show 192 ≤ 16384 by omega), wr_n (show 48 * y1 + y2 < 192 by omega) (show 192 ≤ 16384 by omega), g66n (show (32 : Nat) ≠ 0 by decide)]
        have hc : cf (fun j q => j.1 = 31 ∧ j.2.1 = y1 ∧ q = y2) z.1 (gset z.1 (31, y1, 0) y2 (nI y3)) := cf.st ⟨rfl, rfl, rfl⟩
        have hr : cf (fun j q => (j.1 = 32 ∧ q = 48 * y1 + y2) ∨ (j.1 = 0 ∧ q = 66)) z.2.1 (gset (gset z.2.1 m_o 66 0) m_priorities (48 * y1 + y2) (nI y3)) := (cf.st (Or.inr ⟨rfl, rfl⟩)).tr (cf.st (Or.inl ⟨rfl, rfl⟩))
        refine q_priority c1 r1 ?_ (by omega) (fun _ => f6) ⟨g, R.cli hN.2 (hc.mo ?_) (hr.mo ?_) (fun d hd p hp => ?_), I.cli hN.2 (hc.mo ?_) (fun d hd p hp => ?_) (fun d hd => (I.2.2.2.2.2.1 d hd).fr hc ?_) (fun d hd => (I.2.2.2.2.2.2.1 d hd).fr hg hc ?_), (U.fr hc hr ?_ ?_ ?_ ?_ ?_ ?_).up (by omega), O.fr hc hr ?_ ?_ ?_⟩
        · rw [gset_r, if_neg (by simp), g66]; rfl
        · intro j q; unfold aKl csc; omega
        · intro j q; unfold bKl rsc; omega
        · have hq := R.kl hd hp
          by_cases e : d = y1 ∧ p = y2
          · obtain ⟨rfl, rfl⟩ := e
            have hE : rKl N d p z.1 (gset z.2.1 m_o 66 0) := (R.at0 hN.2 0).kl hd hp
            obtain ⟨b1, b2, b3, b4, b5, b6, b7, b8⟩ := hE
            have ec : ∀ t a b q, t ≠ 31 → gset z.1 (31, d, 0) p (nI y3) (t, a, b) q = z.1 (t, a, b) q := fun t a b q ht => by rw [gset_r, if_neg (fun x => ht (congrArg Prod.fst x.1))]
            have er : ∀ t q, t ≠ 32 → gset (gset z.2.1 m_o 66 0) m_priorities (48 * d + p) (nI y3) (t, 0, 0) q = gset z.2.1 m_o 66 0 (t, 0, 0) q := fun t q ht => by rw [gset_r, if_neg (fun x => ht (congrArg Prod.fst x.1))]
            unfold rKl
            rw [ec 51 _ _ _ (by decide), ec 52 _ _ _ (by decide), ec 53 _ _ _ (by decide), ec 56 _ _ _ (by decide), ec 32 _ _ _ (by decide), ec 33 _ _ _ (by decide), er 22 _ (by decide), er 10 _ (by decide), er 23 _ (by decide), er 24 _ (by decide), er 30 _ (by decide), er 26 _ (by decide), er 27 _ (by decide)]
            refine ⟨b1, b2, b3, fun k hk => ?_, b5, ?_, b7, b8⟩
            · rw [ec 55 _ _ _ (by decide), er 25 _ (by decide)]; exact b4 k hk
            · rw [gset_r, if_pos ⟨rfl, rfl⟩, gset_r, if_pos ⟨rfl, rfl⟩]
          · refine hq.fr hN.2 hc hr ?_ ?_
            · intro j q; unfold kKl; omega
            · intro j q; unfold lKl; omega
        · intro j q; unfold aKl csc; omega
        · have hq := I.2.2.2.2.1 d hd p hp
          by_cases e : d = y1 ∧ p = y2
          · obtain ⟨rfl, rfl⟩ := e
            have ec : ∀ t a b q, t ≠ 31 → gset z.1 (31, d, 0) p (nI y3) (t, a, b) q = z.1 (t, a, b) q := fun t a b q ht => by rw [gset_r, if_neg (fun x => ht (congrArg Prod.fst x.1))]
            have en : cNr N (gset z.1 (31, d, 0) p (nI y3)) d = cNr N z.1 d := cNr.fr hN.2 hc (by dsimp only; omega) (fun q _ => by dsimp only; omega)
            obtain ⟨b1, b2, b3, b4, b5, b6, b7, b8, -⟩ := hq
            unfold iKl
            rw [ec 51 _ _ _ (by decide), ec 53 _ _ _ (by decide), ec 56 _ _ _ (by decide), ec 32 _ _ _ (by decide), ec 33 _ _ _ (by decide), en]
            exact ⟨b1, b2, b3, b4, b5, b6, b7, b8, y3, by omega, by rw [gset_r, if_pos ⟨rfl, rfl⟩]⟩
          · refine hq.fr hN.2 hc ?_
            intro j q; unfold eKl; omega
        · intro j q; unfold eWt; omega
        · intro j q; unfold eLg; omega
        · intro c q; dsimp only; omega
        · intro c; dsimp only; omega
        · intro q; dsimp only; omega
        · intro q; dsimp only; omega
        · dsimp only; omega
        · dsimp only; omega
        · intro c q; dsimp only; omega
        · intro c q; dsimp only; omega
        · intro q; dsimp only; omega
      · have c1 : f_X10_priority N z.1 (nI y1) (nI y2) a3 = some (2, 0, z.1) := by
          unfold f_X10_priority
          simp only [c_checkClient_ok h1, c_checkObject_ok h2, c_checkArgument_bad (n := 10) (hi := 9) bad (by omega) (by omega) rfl, o1_s, lt_d, R.c0, if_true, if_false, Nat.one_ne_zero, show (2 = 0) = False from eq_false (by decide)]
        have r1 : f_X11_priority z.2.1 (nI y1) (nI y2) a3 = some (0, gset z.2.1 m_o 66 2) := by
          unfold f_X11_priority
          simp only [r_isClient_ok h1, r_isObject_ok h2, in_bad (n := 10) (hi := 9) bad (by omega) (by omega) rfl, o1_s, jn_d, one_0, if_true, lt_d, R.n1, g66, le_10, le_20, if_false]
        exact q_priority c1 r1 (g66 _ _) (by omega) (fun h => absurd h (by decide)) (h.thr hN.2 2)
    · have c1 : f_X10_priority N z.1 (nI y1) a2 a3 = some (1, 0, z.1) := by
        unfold f_X10_priority
        simp only [c_checkClient_ok h1, c_checkObject_bad bad, o1_s, lt_d, R.c0, if_true, if_false, Nat.one_ne_zero, show (2 = 0) = False from eq_false (by decide)]
      have r1 : f_X11_priority z.2.1 (nI y1) a2 a3 = some (0, gset z.2.1 m_o 66 1) := by
        unfold f_X11_priority
        simp only [r_isClient_ok h1, r_isObject_bad bad, o1_s, jn_d, one_0, if_true, lt_d, R.n1, g66, le_10, le_20, if_false]
      exact q_priority c1 r1 (g66 _ _) (by omega) (fun h => absurd h (by decide)) (h.thr hN.2 1)
  · have c1 : f_X10_priority N z.1 a1 a2 a3 = some (1, 0, z.1) := by
      unfold f_X10_priority
      simp only [c_checkClient_bad bad, o1_s, lt_d, R.c0, if_true, if_false, Nat.one_ne_zero, show (2 = 0) = False from eq_false (by decide)]
    have r1 : f_X11_priority z.2.1 a1 a2 a3 = some (0, gset z.2.1 m_o 66 1) := by
      unfold f_X11_priority
      simp only [r_isClient_bad bad, o1_s, jn_d, one_0, if_true, lt_d, R.n1, g66, le_10, le_20, if_false]
    exact q_priority c1 r1 (g66 _ _) (by omega) (fun h => absurd h (by decide)) (h.thr hN.2 1)
end QU
