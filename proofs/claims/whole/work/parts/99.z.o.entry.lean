/-! layer 2: joinEntry and mergeEntry in step -/
section ZO
variable {N g B s o c d x y z T n m t l i j a b : Nat} {A E M M' X Mc Mr Mc' Mr' : gM} {row a3 : gI} {D P : Nat → Bool} {G pd v w nr a1 a2 a4 a5 : Int32} {f : Nat → Int32} {zz : lS}
theorem jS_skip (h : jS M G x n = 0 ∨ jS M G x n = 1 ∨ jS M G x n = 2) (h0 : bt G n = true → M (56, n, 0) x = 0) : jS M G x (n + 1) = jS M G x n := by
  have e : jS M G x (n + 1) = if bt G n = true then (if jS M G x n < M (56, n, 0) x then M (56, n, 0) x else jS M G x n) else jS M G x n := rfl
  rw [e]
  by_cases hb : bt G n = true
  · rw [if_pos hb, h0 hb]
    rcases h with h | h | h <;> rw [h] <;> decide
  · rw [if_neg hb]
theorem jR_skip {k : Nat} (h0 : bt G n = true → M (58, n, x) k = 0) : jR M G x k (n + 1) = jR M G x k n := by
  have e : jR M G x k (n + 1) = if bt G n = true then (if jR M G x k n < M (58, n, x) k then M (58, n, x) k else jR M G x k n) else jR M G x k n := rfl
  rw [e]
  by_cases hb : bt G n = true
  · rw [if_pos hb, h0 hb, if_neg (Int32.not_lt.mpr (jR_nn n))]
  · rw [if_neg hb]
theorem gpu_tail {i : gI} {b n m : Nat} {h : Nat → Int32} (hm : m ≤ n) (h0 : ∀ k, k < m → h k = 0) : gpu (gpu M i b n (fun _ => 0)) i b m h = gpu M i b n (fun _ => 0) := by
  funext j q
  rw [gpu_r]
  by_cases e : j = i ∧ b ≤ q ∧ q < b + m
  · rw [if_pos e, gpu_r, if_pos ⟨e.1, e.2.1, by omega⟩]
    exact h0 _ (by omega)
  · rw [if_neg e]
theorem r_mentL {J : Int32 × gM → Option gM} (hN : N ≤ 4) (hy : y < 48) (hx : x < 48) (hB : ∀ s, s < N → rB N s x A E) (hh : ∀ s, s < N → A (51, s, 0) y = E m_has (48 * s + y)) (hun : ∀ s, s < N → A (51, s, 0) y = 0 → A (56, s, 0) x = 0) (h2 : ∀ s, s < N → A (56, s, 0) x = 0 ∨ A (56, s, 0) x = 1 ∨ A (56, s, 0) x = 2) (n0 : E m_o 0 = nI N) (n1 : E m_o 1 = nI (N + 4)) (h53 : E m_o 53 = G) : f_X11_mergeEntry_L14 (nI y) (nI x) J 100 (0 : Int32) (0 : Int32) (gpu E m_mergedGone (8 * x) 8 (fun _ => 0)) = J (jS A G x N, gpu (gpu E m_mergedGone (8 * x) 8 (fun _ => 0)) m_mergedGone (8 * x) (N + 4) (fun k => jR A G x k N)) := by
  obtain ⟨E0, hE0⟩ : ∃ X, X = gpu E m_mergedGone (8 * x) 8 (fun _ => 0) := ⟨_, rfl⟩
  have f0 : ∀ (j : gI) q, ¬ j = m_mergedGone → E0 j q = E j q := fun j q hj => by rw [hE0]; exact gpu_ne hj
  rw [← hE0]
  have H : ∀ m s fu, s + m = N → m < fu → f_X11_mergeEntry_L14 (nI y) (nI x) J fu (jS A G x s) (nI s) (gpu E0 m_mergedGone (8 * x) (N + 4) (fun k => jR A G x k s)) = J (jS A G x N, gpu E0 m_mergedGone (8 * x) (N + 4) (fun k => jR A G x k N)) := by
    intro m
    induction m with
    | zero =>
      intro s fu hs hf
      obtain ⟨fu, rfl⟩ : ∃ q, fu = q + 1 := ⟨fu - 1, by omega⟩
      have : s = N := by omega
      subst this
      simp only [f_X11_mergeEntry_L14, lt_d]
      rw [gpu_ne (by simp), f0 _ _ (by simp), n0, if_pos (nI_le (by omega) (by omega))]
    | succ m ih =>
      intro s fu hs hf
      obtain ⟨fu, rfl⟩ : ∃ q, fu = q + 1 := ⟨fu - 1, by omega⟩
      have ih' := ih (s + 1) fu (by omega) (by omega)
      have hsN : s < N := by omega
      have jv := (jS_v (M := A) (G := G) (x := x) s (fun t ht _ => h2 t (by omega))).1
      obtain ⟨X, hX⟩ : ∃ X, X = gpu E0 m_mergedGone (8 * x) (N + 4) (fun k => jR A G x k s) := ⟨_, rfl⟩
      have fX : ∀ (j : gI) q, ¬ j = m_mergedGone → X j q = E j q := fun j q hj => by rw [hX, gpu_ne hj]; exact f0 j q hj
      obtain ⟨b1, b2⟩ := hB s hsN
      have skip : (bt G s = true → A (56, s, 0) x = 0) → f_X11_mergeEntry_L14 (nI y) (nI x) J fu (jS A G x s) (nI (s + 1)) X = J (jS A G x N, gpu E0 m_mergedGone (8 * x) (N + 4) (fun k => jR A G x k N)) := fun hz => by
        refine Eq.trans ?_ ih'
        rw [jS_skip jv hz, hX]
        refine congrArg _ (gpu_congr fun k hk => (jR_skip (fun hb => ?_)).symm)
        rw [b2 k hk, ← b1, hz hb]; rfl
      rw [← hX]
      simp only [f_X11_mergeEntry_L14, lt_d, jn_d]
      rw [fX m_o 0 (by simp), n0, if_neg (nI_ge (by omega) (by omega)), r_isOf (G := G) (by rw [fX _ _ (by simp)]; exact h53) (by omega), o1_s, nI_m48, nI_add, nI_add, nI_1]
      by_cases hb : bt G s = true
      · rw [hb, zb_t, if_neg (by decide), rd_n (by omega) (by omega), fX _ _ (by simp)]
        by_cases hz : E m_has (48 * s + y) = 0
        · rw [if_pos hz]
          exact skip (fun _ => hun s hsN (by rw [hh s hsN]; exact hz))
        · rw [if_neg hz, rd_n (by omega) (by omega), fX _ _ (by simp), ← b1]
          have e1 : jS A G x (s + 1) = if jS A G x s < A (56, s, 0) x then A (56, s, 0) x else jS A G x s := (show jS A G x (s + 1) = _ from rfl).trans (if_pos hb)
          have fin : (if A (56, s, 0) x = (2 : Int32) then o1 (f_X11_raise X m_gone (nI (48 * s + x)) m_mergedGone (nI x)) (fun M39 => f_X11_mergeEntry_L14 (nI y) (nI x) J fu (jS A G x (s + 1)) (nI (s + 1)) M39) else f_X11_mergeEntry_L14 (nI y) (nI x) J fu (jS A G x (s + 1)) (nI (s + 1)) X) = J (jS A G x N, gpu E0 m_mergedGone (8 * x) (N + 4) (fun k => jR A G x k N)) := by
            by_cases h2' : A (56, s, 0) x = 2
            · rw [if_pos h2', r_raise (j := x) (by rw [fX _ _ (by simp)]; exact n1) (by omega) (by decide) (show _ ≤ 1536 by omega) (show _ ≤ 384 by omega) (by decide) (by decide), o1_s]
              refine Eq.trans ?_ ih'
              refine congrArg _ ?_
              rw [hX, gpu_2]
              refine gpu_congr fun k hk => ?_
              have e2 : jR A G x k (s + 1) = if jR A G x k s < A (58, s, x) k then A (58, s, x) k else jR A G x k s := (show jR A G x k (s + 1) = _ from rfl).trans (if_pos hb)
              rw [e2, mx_eq, gpu_in hk, gpu_ne (by simp), f0 _ _ (by simp), b2 k hk, if_pos (show E m_entry (48 * s + x) = 2 by rw [← b1]; exact h2')]
            · rw [if_neg h2']
              refine Eq.trans ?_ ih'
              rw [hX]
              refine congrArg _ (gpu_congr fun k hk => (jR_skip (fun hb => ?_)).symm)
              rw [b2 k hk, if_neg (show ¬ E m_entry (48 * s + x) = 2 by rw [← b1]; exact h2')]
          by_cases hle : A (56, s, 0) x ≤ jS A G x s
          · rw [if_neg (Int32.not_lt.mpr hle)] at e1
            rw [if_pos hle]
            rw [rd_n (by omega) (by omega), fX _ _ (by simp), ← b1, ← e1]
            exact fin
          · rw [if_pos (Int32.not_le.mp hle)] at e1
            rw [if_neg hle, rd_n (by omega) (by omega), fX _ _ (by simp), ← b1]
            rw [rd_n (by omega) (by omega), fX _ _ (by simp), ← b1]
            rw [e1] at fin
            exact fin
      · rw [Bool.not_eq_true] at hb
        rw [hb, zb_f, if_pos rfl]
        exact skip (fun z => absurd (hb.symm.trans z) (by decide))
  have := H N 0 100 (by omega) (by omega)
  rw [show gpu E0 m_mergedGone (8 * x) (N + 4) (fun k => jR A G x k 0) = E0 from by rw [hE0]; exact gpu_tail (by omega) (fun _ _ => rfl)] at this
  exact this
def eC (G : Int32) (x n : Nat) (j : gI) (q : Nat) : Prop := ∃ s, s < n ∧ bt G s = true ∧ ((j = (56, s, 0) ∧ q = x) ∨ j = (58, s, x))
def eR (G : Int32) (x n : Nat) (j : gI) (q : Nat) : Prop := ∃ s, s < n ∧ bt G s = true ∧ ((j = m_entry ∧ q = 48 * s + x) ∨ (j = m_gone ∧ 8 * (48 * s + x) ≤ q ∧ q < 8 * (48 * s + x) + 8))
theorem c_entL (hN : N ≤ 4) (hx : x < 48) (hG : M (13, 0, 0) 6 = G) : ∃ M', f_X4_joinEntry_L8 N (nI x) v 100 (0 : Int32) M = some M' ∧ cf (eC G x N) M M' ∧ ∀ s, s < N → bt G s = true → M' (56, s, 0) x = v ∧ ∀ k, k < N + 4 → M' (58, s, x) k = M (14, 0, 0) k := by
  obtain ⟨M', h1, h2, h3⟩ := loopP (fun u k M1 => f_X4_joinEntry_L8 N (nI x) v u (nI k) M1) N (fun M1 => some M1) (fun k M1 => cf (eC G x k) M M1 ∧ ∀ s, s < k → bt G s = true → M1 (56, s, 0) x = v ∧ ∀ q, q < N + 4 → M1 (58, s, x) q = M (14, 0, 0) q) (by omega) (fun u k M1 hk ⟨c1, p1⟩ => by
    have e : ∀ (j : gI) q, (j.1 = 13 ∨ j.1 = 14) → M1 j q = M j q := fun j q h => c1 _ _ (fun ⟨s, _, _, hh⟩ => by
      rcases hh with hh | hh
      · rw [hh.1] at h; exact absurd h (by simp)
      · rw [hh] at h; exact absurd h (by simp))
    have up : cf (eC G x (k + 1)) M M1 := c1.mo (fun j q ⟨s, a, b, c⟩ => ⟨s, by omega, b, c⟩)
    by_cases hb : bt G k = true
    · refine ⟨gpu (gset M1 (56, k, 0) x v) (58, k, x) 0 (N + 4) (fun q => M (14, 0, 0) q), ?_, up.tr (((cf.st ⟨k, by omega, hb, Or.inl ⟨rfl, rfl⟩⟩).tr (cf.pu (fun q _ _ => ⟨k, by omega, hb, Or.inr rfl⟩)))), fun s hs hbs => ?_⟩
      · simp only [f_X4_joinEntry_L8, lt_d, jn_d]
        rw [if_neg (nI_ge hk (by omega)), e (13, 0, 0) 6 (Or.inl rfl), hG, c_isIn _ (by omega), o1_s, hb, zb_t, if_neg (by decide), ix_n hk (by omega), wr_n hx (by omega), ix_n hk (by omega), ix_n (n := 48) hx (by omega), c_assign (show cN N (58, k, x) = N + 4 from rfl) (cN14 _) (by omega), o1_s, nI_1]
        refine congrArg _ (gpu_congr fun q hq => ?_)
        rw [gset_o (by simp)]; exact e _ _ (Or.inr rfl)
      · by_cases es : s = k
        · subst es
          exact ⟨by rw [gpu_ne (by simp), gset_aa], fun q hq => by rw [gpu_r, if_pos ⟨rfl, by omega, by omega⟩]; rfl⟩
        · obtain ⟨z1, z2⟩ := p1 s (by omega) hbs
          exact ⟨by rw [gpu_ne (by simp), gset_o (by simp [es])]; exact z1, fun q hq => by rw [gpu_ne (by simp [es]), gset_o (by simp)]; exact z2 q hq⟩
    · refine ⟨M1, ?_, up, fun s hs hbs => p1 s (by
        have : s ≠ k := fun e => hb (by rw [← e]; exact hbs)
        omega) hbs⟩
      rw [Bool.not_eq_true] at hb
      simp only [f_X4_joinEntry_L8, lt_d, jn_d]
      rw [if_neg (nI_ge hk (by omega)), e (13, 0, 0) 6 (Or.inl rfl), hG, c_isIn _ (by omega), o1_s, hb, zb_f, if_pos rfl, nI_1]) (fun u M1 _ => by
    simp only [f_X4_joinEntry_L8]
    rw [if_pos (nI_le (by omega) (by omega))]) (st := M) ⟨cf.rf _ _, fun s hs => by omega⟩
  exact ⟨M', h1, h2, h3⟩
theorem r_entL (hN : N ≤ 4) (hx : x < 48) (n0 : M m_o 0 = nI N) (h53 : M m_o 53 = G) : ∃ M', f_X11_mergeEntry_L114 (nI x) v 100 (0 : Int32) M = some M' ∧ cf (eR G x N) M M' ∧ ∀ s, s < N → bt G s = true → M' m_entry (48 * s + x) = v ∧ ∀ k, k < 8 → M' m_gone (8 * (48 * s + x) + k) = M m_mergedGone (8 * x + k) := by
  obtain ⟨M', h1, h2, h3⟩ := loopP (fun u k M1 => f_X11_mergeEntry_L114 (nI x) v u (nI k) M1) N (fun M1 => some M1) (fun k M1 => cf (eR G x k) M M1 ∧ ∀ s, s < k → bt G s = true → M1 m_entry (48 * s + x) = v ∧ ∀ q, q < 8 → M1 m_gone (8 * (48 * s + x) + q) = M m_mergedGone (8 * x + q)) (by omega) (fun u k M1 hk ⟨c1, p1⟩ => by
    have e : ∀ (j : gI) q, (j.1 = 0 ∨ j.1 = 59) → M1 j q = M j q := fun j q h => c1 _ _ (fun ⟨s, _, _, hh⟩ => by
      rcases hh with hh | hh
      · rw [hh.1] at h; exact absurd h (by simp)
      · rw [hh.1] at h; exact absurd h (by simp))
    have up : cf (eR G x (k + 1)) M M1 := c1.mo (fun j q ⟨s, a, b, c⟩ => ⟨s, by omega, b, c⟩)
    by_cases hb : bt G k = true
    · refine ⟨gpu (gset M1 m_entry (48 * k + x) v) m_gone (8 * (48 * k + x)) 8 (fun q => M m_mergedGone (8 * x + q)), ?_, up.tr (((cf.st ⟨k, by omega, hb, Or.inl ⟨rfl, rfl⟩⟩).tr (cf.pu (fun q a b => ⟨k, by omega, hb, Or.inr ⟨rfl, a, b⟩⟩)))), fun s hs hbs => ?_⟩
      · simp only [f_X11_mergeEntry_L114, lt_d, jn_d]
        rw [e m_o 0 (Or.inl rfl), n0, if_neg (nI_ge hk (by omega)), r_isOf (G := G) (by rw [e _ _ (Or.inl rfl)]; exact h53) (by omega), o1_s, hb, zb_t, if_neg (by decide), nI_m48, nI_add, wr_n (by omega) (by omega), r_copyTo (show _ ≤ 384 by omega) (show _ ≤ 1536 by omega) (by decide) (by decide), o1_s, nI_1]
        refine congrArg _ (gpu_congr fun q hq => ?_)
        rw [gset_o (by simp)]; exact e _ _ (Or.inr rfl)
      · by_cases es : s = k
        · subst es
          exact ⟨by rw [gpu_ne (by simp), gset_aa], fun q hq => by rw [gpu_in hq]⟩
        · obtain ⟨z1, z2⟩ := p1 s (by omega) hbs
          refine ⟨by rw [gpu_ne (by simp), gset_o (by omega)]; exact z1, fun q hq => ?_⟩
          rw [gpu_r, if_neg (by omega), gset_o (by simp)]; exact z2 q hq
    · refine ⟨M1, ?_, up, fun s hs hbs => p1 s (by
        have : s ≠ k := fun e => hb (by rw [← e]; exact hbs)
        omega) hbs⟩
      rw [Bool.not_eq_true] at hb
      simp only [f_X11_mergeEntry_L114, lt_d, jn_d]
      rw [e m_o 0 (Or.inl rfl), n0, if_neg (nI_ge hk (by omega)), r_isOf (G := G) (by rw [e _ _ (Or.inl rfl)]; exact h53) (by omega), o1_s, hb, zb_f, if_pos rfl, nI_1]) (fun u M1 h => by
    simp only [f_X11_mergeEntry_L114, lt_d]
    rw [h.1 _ _ (fun ⟨s, _, _, hh⟩ => by
      rcases hh with hh | hh
      · exact absurd hh.1 (by decide)
      · exact absurd hh.1 (by decide)), n0, if_pos (nI_le (by omega) (by omega))]) (st := M) ⟨cf.rf _ _, fun s hs => by omega⟩
  exact ⟨M', h1, h2, h3⟩
theorem ent_one (hN : N ≤ 4) (hy : y < 48) (hx : x < 48) (hB : ∀ s, s < N → rB N s x Mc Mr) (hh : ∀ s, s < N → Mc (51, s, 0) y = Mr m_has (48 * s + y)) (hun : ∀ s, s < N → Mc (51, s, 0) y = 0 → Mc (56, s, 0) x = 0) (h2 : ∀ s, s < N → Mc (56, s, 0) x = 0 ∨ Mc (56, s, 0) x = 1 ∨ Mc (56, s, 0) x = 2) (g1 : Mc (13, 0, 0) 6 = G) (n0 : Mr m_o 0 = nI N) (n1 : Mr m_o 1 = nI (N + 4)) (h53 : Mr m_o 53 = G) : ∃ Mc' Mr', f_X4_joinEntry N Mc (nI x) = some Mc' ∧ f_X11_mergeEntry Mr (nI y) (nI x) = some Mr' ∧ (∀ s, s < N → rB N s x Mc' Mr') ∧ (∀ s, s < N → bt G s = true → Mc' (56, s, 0) x = jS Mc G x N) ∧ cf (fun j q => j.1 = 14 ∨ eC G x N j q) Mc Mc' ∧ cf (fun j q => j.1 = 59 ∨ eR G x N j q) Mr Mr' := by
  obtain ⟨A1, hA1⟩ : ∃ X, X = gpu Mc (14, 0, 0) 0 (N + 4) (fun k => jR Mc G x k N) := ⟨_, rfl⟩
  obtain ⟨E1, hE1⟩ : ∃ X, X = gpu (gpu Mr m_mergedGone (8 * x) 8 (fun _ => 0)) m_mergedGone (8 * x) (N + 4) (fun k => jR Mc G x k N) := ⟨_, rfl⟩
  have f1 : cf (fun j q => j.1 = 14) Mc A1 := by rw [hA1]; exact cf.pu (fun _ _ _ => rfl)
  have d1 : cf (fun j q => j.1 = 59) Mr E1 := by rw [hE1]; exact (cf.pu (fun _ _ _ => rfl)).tr (cf.pu (fun _ _ _ => rfl))
  obtain ⟨A2, p1, p2, p3⟩ := c_entL (G := G) (M := A1) (x := x) (v := jS Mc G x N) hN hx (by rw [f1 _ _ (by simp)]; exact g1)
  obtain ⟨E2, q1, q2, q3⟩ := r_entL (G := G) (M := E1) (x := x) (v := jS Mc G x N) hN hx (by rw [d1 _ _ (by simp)]; exact n0) (by rw [d1 _ _ (by simp)]; exact h53)
  obtain ⟨v1, v2, v3, v4, v5⟩ := jS_v (M := Mc) (G := G) (x := x) N (fun t ht _ => h2 t ht)
  refine ⟨A2, E2, ?_, ?_, fun s hs => ?_, fun s hs hb => (p3 s hs hb).1, (f1.mo (fun j q h => Or.inl h)).tr (p2.mo (fun j q h => Or.inr h)), (d1.mo (fun j q h => Or.inl h)).tr (q2.mo (fun j q h => Or.inr h))⟩
  · unfold f_X4_joinEntry
    rw [c_joined hN hx g1, ← hA1]
    exact p1
  · unfold f_X11_mergeEntry
    rw [r_clearRow (show _ ≤ 384 by omega) (by decide), o1_s, jn_d, r_mentL hN hy hx hB hh hun h2 n0 n1 h53, ← hE1]
    exact q1
  · by_cases hb : bt G s = true
    · obtain ⟨a1, a2⟩ := p3 s hs hb
      obtain ⟨b1, b2⟩ := q3 s hs hb
      refine ⟨by rw [a1, b1], fun k hk => ?_⟩
      rw [a2 k hk, b1, b2 k (by omega), hA1, hE1, gpu_in hk, show gpu Mc (14, 0, 0) 0 (N + 4) (fun k => jR Mc G x k N) (14, 0, 0) k = jR Mc G x k N from by rw [gpu_r, if_pos ⟨rfl, by omega, by omega⟩]; rfl]
      by_cases e : jS Mc G x N = 2
      · rw [if_pos e]
      · rw [if_neg e]
        refine jR_0 N (fun t ht hbt => ?_)
        obtain ⟨r1, r2⟩ := hB t ht
        rw [r2 k hk, if_neg (fun z => e (v3 t ht hbt (by rw [r1]; exact z)))]
    · have e1 : ∀ (j : gI) q, ((j = (56, s, 0) ∧ q = x) ∨ j = (58, s, x)) → A2 j q = Mc j q := fun j q h => by
        rw [p2 _ _ (fun ⟨s', hs', hb', hh⟩ => by
          have : s' = s := by
            rcases h with ⟨rfl, rfl⟩ | rfl
            · rcases hh with hh | hh
              · exact ((Prod.mk.inj (Prod.mk.inj hh.1).2).1).symm
              · exact absurd (Prod.mk.inj hh).1 (by decide)
            · rcases hh with hh | hh
              · exact absurd (Prod.mk.inj hh.1).1 (by decide)
              · exact ((Prod.mk.inj (Prod.mk.inj hh).2).1).symm
          exact hb (by rw [← this]; exact hb')), f1 _ _ (by rcases h with h | h; rw [h.1]; simp; rw [h]; simp)]
      have e2 : ∀ (j : gI) q, ((j = m_entry ∧ q = 48 * s + x) ∨ (j = m_gone ∧ 8 * (48 * s + x) ≤ q ∧ q < 8 * (48 * s + x) + 8)) → E2 j q = Mr j q := fun j q h => by
        rw [q2 _ _ (fun ⟨s', hs', hb', hh⟩ => by
          have : s' = s := by
            rcases h with ⟨rfl, h⟩ | ⟨rfl, h⟩
            · rcases hh with hh | hh
              · omega
              · exact absurd hh.1 (by decide)
            · rcases hh with hh | hh
              · exact absurd hh.1 (by decide)
              · omega
          exact hb (by rw [← this]; exact hb')), d1 _ _ (by rcases h with h | h <;> (rw [h.1]; simp))]
      obtain ⟨r1, r2⟩ := hB s hs
      refine ⟨by rw [e1 _ _ (Or.inl ⟨rfl, rfl⟩), e2 _ _ (Or.inl ⟨rfl, rfl⟩)]; exact r1, fun k hk => ?_⟩
      rw [e1 _ _ (Or.inr rfl), e2 m_entry _ (Or.inl ⟨rfl, rfl⟩), e2 m_gone _ (Or.inr ⟨rfl, by omega, by omega⟩)]
      exact r2 k hk
end ZO
