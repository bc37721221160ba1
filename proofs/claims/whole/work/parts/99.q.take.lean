/-! layer 2: a record is taken out of a log -/
def sk (i k : Nat) : Nat := if k < i then k else k + 1
def tq (i k q : Nat) : Nat := if i ≤ q ∧ q + 1 < k then q + 1 else q
def cTk (N c i n : Nat) (M M' : gM) : Prop := cf (fun j q => 40 ≤ j.1 ∧ j.1 ≤ 45 ∧ j.2.1 = c) M M' ∧ M' (40, c, 0) 4 = nI (n - 1) ∧ ∀ k, k + 1 < n → M' (41, c, 0) k = M (41, c, 0) (sk i k) ∧ M' (42, c, 0) k = M (42, c, 0) (sk i k) ∧ M' (43, c, 0) k = M (43, c, 0) (sk i k) ∧ ∀ q, q < N + 4 → M' (45, c, k) q = M (45, c, sk i k) q
def lgR (c : Nat) (j : gI) (q : Nat) : Prop := (j.1 = 35 ∧ q = c) ∨ ((j.1 = 36 ∨ j.1 = 37 ∨ j.1 = 38) ∧ 12 * c ≤ q ∧ q < 12 * c + 12) ∨ (j.1 = 39 ∧ 96 * c ≤ q ∧ q < 96 * c + 96)
def rTk (c i n : Nat) (M M' : gM) : Prop := cf (lgR c) M M' ∧ M' m_records c = nI (n - 1) ∧ ∀ k, k + 1 < n → M' m_recordKind (12 * c + k) = M m_recordKind (12 * c + sk i k) ∧ M' m_recordObject (12 * c + k) = M m_recordObject (12 * c + sk i k) ∧ M' m_recordDirectory (12 * c + k) = M m_recordDirectory (12 * c + sk i k) ∧ ∀ q, q < 8 → M' m_recordVector (8 * (12 * c + k) + q) = M m_recordVector (8 * (12 * c + sk i k) + q)
section TO
variable {N g B s o c d x z T n t i : Nat} {M M' Mc Mr Mc' Mr' : gM} {row : gI} {v w a1 a2 a3 a4 : Int32}
theorem c_take (hN : N ≤ 4) (hl : M (40, c, 0) 4 = nI n) (hn : n ≤ 12) (hi : i < n) (hf : fst (fun i => decide (M (41, c, 0) i = a1 ∧ M (42, c, 0) i = a2)) n = nI i) : ∃ M', f_X3_takeOut N M c a1 a2 = some M' ∧ cTk N c i n M M' := by
  unfold f_X3_takeOut
  rw [c_indexOf hl hn, hf, o1_s, if_neg (by rw [nI_m1 (by omega)]; exact id), lt_d, jn_d, nI_1]
  obtain ⟨M1, h1, h2, h3, h4⟩ := loopQ (fun f k M => f_X3_takeOut_L18 N c (fun M5 => lt (M5 (40, c, 0) 4) (fun v6 => lt (gset M5 (40, c, 0) 4 (v6 - (1 : Int32))) (fun M7 => some M7))) f (nI k) M) n (fun M5 => some (gset M5 (40, c, 0) 4 (M5 (40, c, 0) 4 - (1 : Int32)))) (fun k M1 => (i + 1 ≤ k) ∧ (cf (fun j q => 40 ≤ j.1 ∧ j.1 ≤ 45 ∧ j.2.1 = c) M M1) ∧ M1 (40, c, 0) 4 = nI n ∧ ∀ q, q < n → M1 (41, c, 0) q = M (41, c, 0) (tq i k q) ∧ M1 (42, c, 0) q = M (42, c, 0) (tq i k q) ∧ M1 (43, c, 0) q = M (43, c, 0) (tq i k q) ∧ ∀ r, r < N + 4 → M1 (45, c, q) r = M (45, c, tq i k q) r) (fun f k M1 hk ⟨p0, p1, p2, p3⟩ => by
    have hs : nI k - (1 : Int32) = nI (k - 1) := nI_s1 (by omega)
    refine ⟨gpu (gset (gset (gset M1 (41, c, 0) (k - 1) (M1 (41, c, 0) k)) (42, c, 0) (k - 1) (M1 (42, c, 0) k)) (43, c, 0) (k - 1) (M1 (43, c, 0) k)) (45, c, k - 1) 0 (N + 4) (fun q => M1 (45, c, k) q), ?_, by omega, p1.tr ((((cf.st (by simp)).tr (cf.st (by simp))).tr (cf.st (by simp))).tr (cf.pu (fun _ _ _ => by simp))), ?_, fun q hq => ?_⟩
    · simp only [f_X3_takeOut_L18, lt_d, p2, hs]
      rw [if_neg (nI_ge (by omega) (by omega)), rd_n (by omega) (by omega), wr_n (by omega) (by omega), rd_n (by omega) (by omega), wr_n (by omega) (by omega), rd_n (by omega) (by omega), wr_n (by omega) (by omega), ix_n (by omega) (by omega), ix_n (by omega) (by omega), c_assign (cN45 _ _ _) (cN45 _ _ _) (by omega), o1_s, nI_1]
      have e1 : gset M1 (41, c, 0) (k - 1) (M1 (41, c, 0) k) (42, c, 0) k = M1 (42, c, 0) k := by rw [gset_r, if_neg (by simp)]
      have e2 : gset (gset M1 (41, c, 0) (k - 1) (M1 (41, c, 0) k)) (42, c, 0) (k - 1) (M1 (42, c, 0) k) (43, c, 0) k = M1 (43, c, 0) k := by rw [gset_r, if_neg (by simp), gset_r, if_neg (by simp)]
      rw [e1, e2]
      congr 1
    · rw [gpu_ne (by simp), gset_r, if_neg (by simp), gset_r, if_neg (by simp), gset_r, if_neg (by simp)]; exact p2
    · obtain ⟨q1, q2, q3, q4⟩ := p3 k hk
      obtain ⟨u1, u2, u3, u4⟩ := p3 q hq
      have tk : tq i k k = k := by unfold tq; rw [if_neg (by omega)]
      rw [tk] at q1 q2 q3 q4
      by_cases e : q = k - 1
      · subst e
        have te : tq i (k + 1) (k - 1) = k := by unfold tq; rw [if_pos (by omega)]; omega
        rw [te]
        refine ⟨?_, ?_, ?_, fun r hr => ?_⟩
        · rw [gpu_ne (by simp), gset_r, if_neg (by simp), gset_r, if_neg (by simp), gset_r, if_pos ⟨rfl, rfl⟩]; exact q1
        · rw [gpu_ne (by simp), gset_r, if_neg (by simp), gset_r, if_pos ⟨rfl, rfl⟩]; exact q2
        · rw [gpu_ne (by simp), gset_r, if_pos ⟨rfl, rfl⟩]; exact q3
        · rw [gpu_r, if_pos ⟨rfl, by omega, by omega⟩]; exact q4 r hr
      · have te : tq i (k + 1) q = tq i k q := by
          unfold tq
          by_cases y : i ≤ q ∧ q + 1 < k
          · rw [if_pos y, if_pos ⟨y.1, by omega⟩]
          · rw [if_neg y, if_neg (by omega)]
        rw [te]
        refine ⟨?_, ?_, ?_, fun r hr => ?_⟩
        · rw [gpu_ne (by simp), gset_r, if_neg (by simp), gset_r, if_neg (by simp), gset_r, if_neg (fun z => e z.2)]; exact u1
        · rw [gpu_ne (by simp), gset_r, if_neg (by simp), gset_r, if_neg (fun z => e z.2)]; exact u2
        · rw [gpu_ne (by simp), gset_r, if_neg (fun z => e z.2)]; exact u3
        · rw [gpu_r, if_neg (fun z => e (congrArg (fun y : gI => y.2.2) z.1)), gset_r, if_neg (by simp), gset_r, if_neg (by simp), gset_r, if_neg (by simp)]; exact u4 r hr) (fun f M1 ⟨p0, p1, p2, p3⟩ => by
    simp only [f_X3_takeOut_L18, lt_d, p2]
    rw [if_pos (nI_le (by omega) (by omega))]) (n - (i + 1)) (i + 1) 100 M (by omega) (by omega) ⟨by omega, cf.rf _ _, hl, fun q hq => by
    have te : tq i (i + 1) q = q := by unfold tq; rw [if_neg (by omega)]
    rw [te]
    exact ⟨rfl, rfl, rfl, fun _ _ => rfl⟩⟩
  refine ⟨_, h1, h3.tr (cf.st (by simp)), ?_, fun k hk => ?_⟩
  · rw [gset_r, if_pos ⟨rfl, rfl⟩, h4.1]; exact nI_s1 (by omega)
  · have te : tq i n k = sk i k := by
      unfold tq sk
      by_cases y : k < i
      · rw [if_pos y, if_neg (by omega)]
      · rw [if_neg y, if_pos (by omega)]
    obtain ⟨u1, u2, u3, u4⟩ := h4.2 k (by omega)
    rw [te] at u1 u2 u3 u4
    refine ⟨?_, ?_, ?_, fun q hq => ?_⟩
    · rw [gset_r, if_neg (by simp)]; exact u1
    · rw [gset_r, if_neg (by simp)]; exact u2
    · rw [gset_r, if_neg (by simp)]; exact u3
    · rw [gset_r, if_neg (by simp)]; exact u4 q hq
theorem c_take_no (hl : M (40, c, 0) 4 = nI n) (hn : n ≤ 12) (hf : fst (fun i => decide (M (41, c, 0) i = a1 ∧ M (42, c, 0) i = a2)) n = -1) : f_X3_takeOut N M c a1 a2 = some M := by
  unfold f_X3_takeOut
  rw [c_indexOf hl hn, hf, o1_s, if_pos rfl]
theorem r_take (hc : c < 4) (hl : M m_records c = nI n) (hn : n ≤ 12) (hi : i < n) : ∃ M', f_X11_takeOut M (nI c) (nI i) = some M' ∧ rTk c i n M M' := by
  unfold f_X11_takeOut
  rw [if_neg (by rw [nI_m1 (by omega)]; exact id), jn_d]
  have hn1 : nI n - (1 : Int32) = nI (n - 1) := nI_s1 (by omega)
  obtain ⟨M1, h1, h2, h3, h4⟩ := loopQ (fun f k M => f_X11_takeOut_L8 (nI c) (fun M2 => rd M2 m_records 4 (nI c) (fun v3 => wr M2 m_records 4 (nI c) (v3 - (1 : Int32)) (fun M4 => some M4))) f (nI k) M) (n - 1) (fun M5 => some (gset M5 m_records c (M5 m_records c - (1 : Int32)))) (fun k M1 => (i ≤ k) ∧ (cf (lgR c) M M1) ∧ M1 m_records c = nI n ∧ ∀ q, q < n → M1 m_recordKind (12 * c + q) = M m_recordKind (12 * c + tq i (k + 1) q) ∧ M1 m_recordObject (12 * c + q) = M m_recordObject (12 * c + tq i (k + 1) q) ∧ M1 m_recordDirectory (12 * c + q) = M m_recordDirectory (12 * c + tq i (k + 1) q) ∧ ∀ r, r < 8 → M1 m_recordVector (8 * (12 * c + q) + r) = M m_recordVector (8 * (12 * c + tq i (k + 1) q) + r)) (fun f k M1 hk ⟨p0, p1, p2, p3⟩ => by
    refine ⟨gpu (gset (gset (gset M1 m_recordKind (12 * c + k) (M1 m_recordKind (12 * c + (k + 1)))) m_recordObject (12 * c + k) (M1 m_recordObject (12 * c + (k + 1)))) m_recordDirectory (12 * c + k) (M1 m_recordDirectory (12 * c + (k + 1)))) m_recordVector (8 * (12 * c + k)) 8 (fun q => M1 m_recordVector (8 * (12 * c + (k + 1)) + q)), ?_, by omega, p1.tr ((((cf.st ?_).tr (cf.st ?_)).tr (cf.st ?_)).tr (cf.pu (fun q _ _ => ?_))), ?_, fun q hq => ?_⟩
    · simp only [f_X11_takeOut_L8, lt_d, nI_m12, nI_add]
      rw [rd_n hc (by omega), p2, hn1, if_neg (nI_ge (by omega) (by omega)), nI_1 (12 * c + k), rd_n (by omega) (by omega), wr_n (by omega) (by omega), rd_n (by omega) (by omega), wr_n (by omega) (by omega), rd_n (by omega) (by omega), wr_n (by omega) (by omega), r_copyTo (by show _ ≤ 384; omega) (by show _ ≤ 384; omega) (by decide) (by decide), o1_s, nI_1, show 12 * c + k + 1 = 12 * c + (k + 1) by omega]
      rw [show gset M1 m_recordKind (12 * c + k) (M1 m_recordKind (12 * c + (k + 1))) m_recordObject (12 * c + (k + 1)) = M1 m_recordObject (12 * c + (k + 1)) from by rw [gset_r, if_neg (by simp)]]
      rw [show gset (gset M1 m_recordKind (12 * c + k) (M1 m_recordKind (12 * c + (k + 1)))) m_recordObject (12 * c + k) (M1 m_recordObject (12 * c + (k + 1))) m_recordDirectory (12 * c + (k + 1)) = M1 m_recordDirectory (12 * c + (k + 1)) from by rw [gset_r, if_neg (by simp), gset_r, if_neg (by simp)]]
      congr 1
    · unfold lgR; dsimp only; omega
    · unfold lgR; dsimp only; omega
    · unfold lgR; dsimp only; omega
    · unfold lgR; dsimp only; omega
    · rw [gpu_ne (by simp), gset_r, if_neg (by simp), gset_r, if_neg (by simp), gset_r, if_neg (by simp)]; exact p2
    · obtain ⟨q1, q2, q3, q4⟩ := p3 (k + 1) (by omega)
      obtain ⟨u1, u2, u3, u4⟩ := p3 q hq
      have tk : tq i (k + 1) (k + 1) = k + 1 := by unfold tq; rw [if_neg (by omega)]
      rw [tk] at q1 q2 q3 q4
      by_cases e : q = k
      · subst e
        have te : tq i (q + 1 + 1) q = q + 1 := by unfold tq; rw [if_pos (by omega)]
        rw [te]
        refine ⟨?_, ?_, ?_, fun r hr => ?_⟩
        · rw [gpu_ne (by simp), gset_r, if_neg (by simp), gset_r, if_neg (by simp), gset_r, if_pos ⟨rfl, rfl⟩]; exact q1
        · rw [gpu_ne (by simp), gset_r, if_neg (by simp), gset_r, if_pos ⟨rfl, rfl⟩]; exact q2
        · rw [gpu_ne (by simp), gset_r, if_pos ⟨rfl, rfl⟩]; exact q3
        · rw [gpu_r, if_pos ⟨rfl, by omega, by omega⟩, show 8 * (12 * c + q) + r - 8 * (12 * c + q) = r by omega]; exact q4 r hr
      · have te : tq i (k + 1 + 1) q = tq i (k + 1) q := by
          unfold tq
          by_cases y : i ≤ q ∧ q + 1 < k + 1
          · rw [if_pos y, if_pos ⟨y.1, by omega⟩]
          · rw [if_neg y, if_neg (by omega)]
        rw [te]
        refine ⟨?_, ?_, ?_, fun r hr => ?_⟩
        · rw [gpu_ne (by simp), gset_r, if_neg (by simp), gset_r, if_neg (by simp), gset_r, if_neg (by omega)]; exact u1
        · rw [gpu_ne (by simp), gset_r, if_neg (by simp), gset_r, if_neg (by omega)]; exact u2
        · rw [gpu_ne (by simp), gset_r, if_neg (by omega)]; exact u3
        · rw [gpu_r, if_neg (by omega), gset_r, if_neg (by simp), gset_r, if_neg (by simp), gset_r, if_neg (by simp)]; exact u4 r hr) (fun f M1 ⟨p0, p1, p2, p3⟩ => by
    simp only [f_X11_takeOut_L8]
    rw [rd_n hc (by omega), p2, hn1, if_pos (nI_le (by omega) (by omega)), rd_n hc (by omega), wr_n hc (by omega), p2, hn1]) (n - 1 - i) i 100 M (by omega) (by omega) ⟨by omega, cf.rf _ _, hl, fun q hq => by
    have te : tq i (i + 1) q = q := by unfold tq; rw [if_neg (by omega)]
    rw [te]
    exact ⟨rfl, rfl, rfl, fun _ _ => rfl⟩⟩
  refine ⟨_, h1, h3.tr (cf.st (by unfold lgR; dsimp only; omega)), ?_, fun k hk => ?_⟩
  · rw [gset_r, if_pos ⟨rfl, rfl⟩, h4.1]; exact hn1
  · have te : tq i (n - 1 + 1) k = sk i k := by
      unfold tq sk
      by_cases y : k < i
      · rw [if_pos y, if_neg (by omega)]
      · rw [if_neg y, if_pos (by omega)]
    obtain ⟨u1, u2, u3, u4⟩ := h4.2 k (by omega)
    rw [te] at u1 u2 u3 u4
    refine ⟨?_, ?_, ?_, fun q hq => ?_⟩
    · rw [gset_r, if_neg (by simp)]; exact u1
    · rw [gset_r, if_neg (by simp)]; exact u2
    · rw [gset_r, if_neg (by simp)]; exact u3
    · rw [gset_r, if_neg (by simp)]; exact u4 q hq
theorem sk_lt {i k n : Nat} (h : k + 1 < n) : sk i k < n := by unfold sk; split <;> omega
theorem tk_rel (hN : N ≤ 4) (hc : c < 4) (hn : n ≤ 12) (hi : i < n) (R : Rel N g Mc Mr) (hl : Mc (40, c, 0) 4 = nI n) (h1 : cTk N c i n Mc Mc') (h2 : rTk c i n Mr Mr') : Rel N g Mc' Mr' := by
  have hlr : Mr m_records c = nI n := by rw [← (R.lg hc).1]; exact hl
  refine R.lone hN hc h1.1 (h2.1.mo (fun j q h => h)) ⟨by rw [h1.2.1, h2.2.1], ?_, fun k hk hl' => ?_⟩
  · rw [h1.1 _ _ (by dsimp only; omega), h2.1 _ _ (by unfold lgR; dsimp only; omega)]; exact (R.lg hc).2.1
  · rw [h2.2.1, nlt (by omega) (by omega)] at hl'
    obtain ⟨u1, u2, u3, u4⟩ := h1.2.2 k (by omega)
    obtain ⟨w1, w2, w3, w4⟩ := h2.2.2 k (by omega)
    have hs := sk_lt (i := i) (show k + 1 < n by omega)
    obtain ⟨z1, z2, z3, z4⟩ := (R.lg hc).2.2 (sk i k) (by omega) (by rw [hlr]; exact nI_lt hs (by omega))
    refine ⟨by rw [u1, w1]; exact z1, by rw [u2, w2]; exact z2, by rw [u3, w3]; exact z3, fun q hq => by rw [u4 q hq, w4 q (by omega)]; exact z4 q hq⟩
/-- the reference's log as before, for as many records as there are -/
theorem lg_same {n2 : Nat} (hN : N ≤ 4) (hc : c < 4) (hn : n2 ≤ 12) (R : Rel N g Mc Mr) (hl : Mr m_records c = nI n2) (hr : cf (lgR c) Mr Mr') (hl' : Mr' m_records c = nI n2) (hv : ∀ k, k < n2 → Mr' m_recordKind (12 * c + k) = Mr m_recordKind (12 * c + k) ∧ Mr' m_recordObject (12 * c + k) = Mr m_recordObject (12 * c + k) ∧ Mr' m_recordDirectory (12 * c + k) = Mr m_recordDirectory (12 * c + k) ∧ ∀ q, q < 8 → Mr' m_recordVector (8 * (12 * c + k) + q) = Mr m_recordVector (8 * (12 * c + k) + q)) : Rel N g Mc Mr' := by
  refine R.lone hN hc (cf.rf _ _) (hr.mo (fun j q h => h)) ⟨by rw [hl', ← hl]; exact (R.lg hc).1, ?_, fun k hk hk' => ?_⟩
  · rw [hr _ _ (by unfold lgR; dsimp only; omega)]; exact (R.lg hc).2.1
  · rw [hl', nlt (by omega) (by omega)] at hk'
    obtain ⟨w1, w2, w3, w4⟩ := hv k hk'
    obtain ⟨z1, z2, z3, z4⟩ := (R.lg hc).2.2 k hk (by rw [hl]; exact nI_lt hk' (by omega))
    exact ⟨by rw [w1]; exact z1, by rw [w2]; exact z2, by rw [w3]; exact z3, fun q hq => by rw [w4 q (by omega)]; exact z4 q hq⟩
theorem sk_sk {m u k : Nat} (h : m < u) : sk m (sk (u - 1) k) = sk u (sk m k) := by
  unfold sk
  repeat' split
  all_goals omega
end TO
