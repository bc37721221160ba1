/-! layer 2: what the servers of a group hold of a file -/
def Cd (N n : Nat) (Mc Mr : gM) : Prop := n ≤ 24 ∧ Mc (60, 192, 0) 3 = nI n ∧ Mr m_o 61 = nI n ∧ ∀ i, i < n → Mc (61, 192, 0) i = Mr m_candidateValue i ∧ Mc (62, 192, 0) i = Mr m_candidateSize i ∧ (∀ k, k < N + 4 → Mc (64, 192, i) k = Mr m_candidateVector (8 * i + k)) ∧ ∃ z, z ≤ 6 ∧ Mc (62, 192, 0) i = nI z
def cCd (j : gI) (q : Nat) : Prop := (j.1 = 60 ∨ j.1 = 61 ∨ j.1 = 62 ∨ j.1 = 64) ∧ j.2.1 = 192
def rCd (j : gI) (q : Nat) : Prop := (63 ≤ j.1 ∧ j.1 ≤ 66) ∨ (j.1 = 0 ∧ q = 61)
section ZB
variable {N g B s o c d x y z T n m t l i j : Nat} {A E M M' X Mc Mr Mc' Mr' : gM} {row a3 : gI} {D P : Nat → Bool} {G v w nr a1 a2 a4 a5 : Int32} {zz : lS}
theorem cM192 : cMost 192 = 24 := rfl
theorem c_addL {J : gM → Option gM} (hN : N ≤ 4) (hl : M (60, 192, 0) 3 = nI n) (hn : n ≤ 24) (hr : cN N row = N + 4) : f_X9_addOnce_L3 N 192 a1 a2 row J 100 (0 : Int32) M = if aF (fun i => !(decide (M (61, 192, 0) i = a1) && (decide (M (62, 192, 0) i = a2) && rEq (M (64, 192, i)) (M row) 0 (N + 4)))) 0 n = true then J M else some M := by
  have H : ∀ m k fu, k + m = n → m < fu → f_X9_addOnce_L3 N 192 a1 a2 row J fu (nI k) M = if aF (fun i => !(decide (M (61, 192, 0) i = a1) && (decide (M (62, 192, 0) i = a2) && rEq (M (64, 192, i)) (M row) 0 (N + 4)))) k m = true then J M else some M := by
    intro m
    induction m with
    | zero =>
      intro k fu hk hf
      obtain ⟨fu, rfl⟩ : ∃ q, fu = q + 1 := ⟨fu - 1, by omega⟩
      simp only [f_X9_addOnce_L3, lt_d, hl]
      rw [if_pos (nI_le (by omega) (by omega))]
      rfl
    | succ m ih =>
      intro k fu hk hf
      obtain ⟨fu, rfl⟩ : ∃ q, fu = q + 1 := ⟨fu - 1, by omega⟩
      simp only [f_X9_addOnce_L3, lt_d, hl]
      rw [if_neg (nI_ge (by omega) (by omega)), c_isAt hN (by rw [cM192]; omega) (by rw [cM192]; omega) hr, o1_s, aF_s, nI_1]
      cases decide (M (61, 192, 0) k = a1) && (decide (M (62, 192, 0) k = a2) && rEq (M (64, 192, k)) (M row) 0 (N + 4)) with
      | true => rw [zb_t, if_neg (by decide)]; rfl
      | false => rw [zb_f, if_pos rfl, ih (k + 1) fu (by omega) (by omega), Bool.not_false, Bool.true_and]
  exact H n 0 100 (by omega) (by omega)
theorem r_addL {J : gM → Option gM} (hN : N ≤ 4) (h1 : M m_o 1 = nI (N + 4)) (hl : M m_o 61 = nI n) (hn : n ≤ 24) (hj : 8 * j + 8 ≤ mN a3) (m3 : mN a3 ≤ 16384) : f_X11_addCandidate_L3 a1 a2 a3 (nI j) J 100 (0 : Int32) M = if aF (fun i => !(decide (M m_candidateValue i = a1) && (decide (M m_candidateSize i = a2) && rEq (fun k => M m_candidateVector (8 * i + k)) (fun k => M a3 (8 * j + k)) 0 (N + 4)))) 0 n = true then J M else some M := by
  have H : ∀ m k fu, k + m = n → m < fu → f_X11_addCandidate_L3 a1 a2 a3 (nI j) J fu (nI k) M = if aF (fun i => !(decide (M m_candidateValue i = a1) && (decide (M m_candidateSize i = a2) && rEq (fun k => M m_candidateVector (8 * i + k)) (fun k => M a3 (8 * j + k)) 0 (N + 4)))) k m = true then J M else some M := by
    intro m
    induction m with
    | zero =>
      intro k fu hk hf
      obtain ⟨fu, rfl⟩ : ∃ q, fu = q + 1 := ⟨fu - 1, by omega⟩
      simp only [f_X11_addCandidate_L3, lt_d, hl]
      rw [if_pos (nI_le (by omega) (by omega))]
      rfl
    | succ m ih =>
      intro k fu hk hf
      obtain ⟨fu, rfl⟩ : ∃ q, fu = q + 1 := ⟨fu - 1, by omega⟩
      have ih' := ih (k + 1) fu (by omega) (by omega)
      simp only [f_X11_addCandidate_L3, lt_d, hl, jn_d]
      rw [if_neg (nI_ge (by omega) (by omega)), rd_n (by omega) (by omega), aF_s, nI_1]
      by_cases e1 : M m_candidateValue k = a1
      · rw [if_pos e1, rd_n (by omega) (by omega), decide_eq_true e1, Bool.true_and]
        by_cases e2 : M m_candidateSize k = a2
        · rw [if_pos e2, r_isSame h1 (by omega) (by show _ ≤ 192; omega) hj (by decide) m3, o1_s, decide_eq_true e2, Bool.true_and]
          cases rEq (fun q => M m_candidateVector (8 * k + q)) (fun q => M a3 (8 * j + q)) 0 (N + 4) with
          | true => rw [zb_t, if_neg (by decide)]; rfl
          | false => rw [zb_f, if_pos rfl, ih', Bool.not_false, Bool.true_and]
        · rw [if_neg e2, ih', decide_eq_false e2, Bool.false_and, Bool.not_false, Bool.true_and]
      · rw [if_neg e1, ih', decide_eq_false e1, Bool.false_and, Bool.not_false, Bool.true_and]
  exact H n 0 100 (by omega) (by omega)
/-- one more candidate, if it is new -/
theorem add_step (hN : N ≤ 4) (C : Cd N n Mc Mr) (hn : n < 24) (hr : cN N row = N + 4) (h1 : row.1 ≠ 61) (h2 : row.1 ≠ 62) (n1 : Mr m_o 1 = nI (N + 4)) (hj : 8 * j + 8 ≤ mN a3) (m3 : mN a3 ≤ 16384) (ha : a3.1 = 14 ∨ a3.1 = 18) (hv : ∀ k, k < N + 4 → Mr a3 (8 * j + k) = Mc row k) (hz : ∃ z, z ≤ 6 ∧ a2 = nI z) : ∃ n' Mc' Mr', f_X9_addOnce N Mc 192 a1 a2 row = some Mc' ∧ f_X11_addCandidate Mr a1 a2 a3 (nI j) = some Mr' ∧ Cd N n' Mc' Mr' ∧ n' ≤ n + 1 ∧ 1 ≤ n' ∧ cf cCd Mc Mc' ∧ cf rCd Mr Mr' := by
  obtain ⟨c1, c2, c3, c4⟩ := id C
  have heq : aF (fun i => !(decide (Mr m_candidateValue i = a1) && (decide (Mr m_candidateSize i = a2) && rEq (fun k => Mr m_candidateVector (8 * i + k)) (fun k => Mr a3 (8 * j + k)) 0 (N + 4)))) 0 n = aF (fun i => !(decide (Mc (61, 192, 0) i = a1) && (decide (Mc (62, 192, 0) i = a2) && rEq (Mc (64, 192, i)) (Mc row) 0 (N + 4)))) 0 n := aF_congr _ _ (fun i _ hi => by
    obtain ⟨z1, z2, z3, -⟩ := c4 i (by omega)
    rw [z1, z2, rEq_congr (fun k hk => (z3 k hk).symm) hv])
  have cL := c_addL (J := fun M1 => o1 (f_X9_add N M1 192 a1 a2 row) (fun M3 => some M3)) (a1 := a1) (a2 := a2) hN c2 c1 hr
  have rL := r_addL (J := fun M1 => lt (M1 m_o 61) (fun v2 => wr M1 m_candidateValue 24 v2 a1 (fun M3 => lt (M3 m_o 61) (fun v4 => wr M3 m_candidateSize 24 v4 a2 (fun M5 => lt (M5 m_o 61) (fun v6 => o1 (f_X11_copyTo M5 a3 (nI j) m_candidateVector v6) (fun M8 => lt (M8 m_o 61) (fun v9 => lt (gset M8 m_o 61 (v9 + (1 : Int32))) (fun M10 => some M10))))))))) (a1 := a1) (a2 := a2) hN n1 c3 c1 hj m3
  rw [heq] at rL
  unfold f_X9_addOnce f_X11_addCandidate
  rw [jn_d, jn_d, cL, rL]
  by_cases hit : aF (fun i => !(decide (Mc (61, 192, 0) i = a1) && (decide (Mc (62, 192, 0) i = a2) && rEq (Mc (64, 192, i)) (Mc row) 0 (N + 4)))) 0 n = true
  · rw [if_pos hit, if_pos hit, c_vadd hN c2 (by rw [cM192]; omega) (by rw [cM192]; omega) hr h1 h2, o1_s]
    obtain ⟨Mr1, hMr1⟩ : ∃ X, X = gset (gset Mr m_candidateValue n a1) m_candidateSize n a2 := ⟨_, rfl⟩
    have f1 : cf (fun j q => (j.1 = 63 ∨ j.1 = 64) ∧ q = n) Mr Mr1 := by rw [hMr1]; exact (cf.st ⟨Or.inl rfl, rfl⟩).tr (cf.st ⟨Or.inr rfl, rfl⟩)
    obtain ⟨Mr2, hMr2⟩ : ∃ X, X = gpu Mr1 m_candidateVector (8 * n) 8 (fun k => Mr1 a3 (8 * j + k)) := ⟨_, rfl⟩
    have f2 : cf (fun q' q => q'.1 = 65 ∧ 8 * n ≤ q ∧ q < 8 * n + 8) Mr1 Mr2 := by rw [hMr2]; exact cf.pu (fun q a b => ⟨rfl, a, by omega⟩)
    have f3 : cf (fun j q => j.1 = 0 ∧ q = 61) Mr2 (gset Mr2 m_o 61 (nI (n + 1))) := cf.st ⟨rfl, rfl⟩
    have fC := cVa_fr (N := N) (M := Mc) (v := 192) (n := n) (a1 := a1) (a2 := a2) (row := row)
    refine ⟨n + 1, cVa N Mc 192 n a1 a2 row, gset Mr2 m_o 61 (nI (n + 1)), rfl, ?_, ⟨by omega, (cVa_v (i := 0)).1, gset_aa _ _ _ _, fun i hi => ?_⟩, by omega, by omega, fC.mo (fun j q h => h), ((f1.mo (fun j q h => ?_)).tr (f2.mo (fun j q h => ?_))).tr (f3.mo (fun j q h => ?_))⟩
    · have e1 : gset Mr m_candidateValue n a1 m_o 61 = nI n := by rw [gset_o (by simp)]; exact c3
      have e2 : Mr1 m_o 61 = nI n := by rw [f1 _ _ (by simp)]; exact c3
      have e3 : Mr2 m_o 61 = nI n := by rw [f2 _ _ (by simp)]; exact e2
      simp only [lt_d]
      rw [c3, wr_n (by omega) (by omega), e1, wr_n (by omega) (by omega), ← hMr1, e2, r_copyTo hj (by show _ ≤ 192; omega) m3 (by decide), o1_s, ← hMr2, e3, nI_1]
    · obtain ⟨-, u2, u3, u4⟩ := cVa_v (N := N) (M := Mc) (v := 192) (n := n) (a1 := a1) (a2 := a2) (row := row) (i := i)
      rw [u2, u3]
      by_cases e : i = n
      · subst e
        rw [if_pos rfl, if_pos rfl]
        refine ⟨?_, ?_, fun k hk => ?_, hz⟩
        · rw [f3 _ _ (by simp), f2 _ _ (by simp), hMr1, gset_o (by simp), gset_aa]
        · rw [f3 _ _ (by simp), f2 _ _ (by simp), hMr1, gset_aa]
        · rw [u4 k hk, if_pos rfl, f3 _ _ (by simp), hMr2, gpu_r, if_pos ⟨rfl, by omega, by omega⟩, f1 _ _ (by omega), show 8 * i + k - 8 * i = k by omega]
          exact (hv k hk).symm
      · obtain ⟨z1, z2, z3, z4⟩ := c4 i (by omega)
        rw [if_neg e, if_neg e]
        refine ⟨?_, ?_, fun k hk => ?_, z4⟩
        · rw [f3 _ _ (by simp), f2 _ _ (by simp), f1 _ _ (by simp [e])]; exact z1
        · rw [f3 _ _ (by simp), f2 _ _ (by simp), f1 _ _ (by simp [e])]; exact z2
        · rw [u4 k hk, if_neg e, f3 _ _ (by simp), f2 _ _ (by dsimp only; omega), f1 _ _ (by simp)]; exact z3 k hk
    · unfold rCd; omega
    · unfold rCd; omega
    · unfold rCd; omega
  · rw [if_neg hit, if_neg hit]
    refine ⟨n, Mc, Mr, rfl, rfl, C, by omega, ?_, cf.rf _ _, cf.rf _ _⟩
    rcases Nat.eq_zero_or_pos n with e | e
    · subst e; exact absurd rfl hit
    · exact e
end ZB
