/-! layer 2: repair -/
section RP
variable {N g B s o c d x z T n t : Nat} {M M' Mc Mr Mc' Mr' : gM} {zz : lS} {v w a1 a2 a3 a4 : Int32}
theorem c_leastInConflict (hN : N ≤ 4) (ho : o < 48) (hv : ∀ s, s < N → ∃ n, n ≤ 6 ∧ M (60, 48 * s + o, 0) 3 = nI n) : f_X6_leastInConflict N M v (nI o) = some (fst (fun s => bt v s && nz (M (60, 48 * s + o, 0) 3)) N) := by
  have H : ∀ m k fu, k + m = N → m < fu → f_X6_leastInConflict_L2 N M v (nI o) fu (nI k) = some (if lsF (fun s => bt v s && nz (M (60, 48 * s + o, 0) 3)) k m < k + m then nI (lsF (fun s => bt v s && nz (M (60, 48 * s + o, 0) 3)) k m) else -1) := by
    intro m
    induction m with
    | zero =>
      intro k fu hk hf
      obtain ⟨fu, rfl⟩ : ∃ q, fu = q + 1 := ⟨fu - 1, by omega⟩
      simp only [f_X6_leastInConflict_L2]
      rw [if_pos (nI_le (by omega) (by omega)), if_neg (by show ¬ k < k + 0; omega)]
    | succ m ih =>
      intro k fu hk hf
      obtain ⟨fu, rfl⟩ : ∃ q, fu = q + 1 := ⟨fu - 1, by omega⟩
      simp only [f_X6_leastInConflict_L2, lt_d, jn_d]
      rw [if_neg (nI_ge (by omega) (by omega)), c_isIn v (by omega), o1_s, fst_s]
      have hi := ih (k + 1) fu (by omega) (by omega)
      rw [show k + 1 + m = k + (m + 1) by omega] at hi
      cases hb : bt v k with
      | false => rw [zb_f, if_pos rfl, nI_1, hi]; rfl
      | true =>
        obtain ⟨n, n1, n2⟩ := hv k (by omega)
        rw [zb_t, if_neg (by decide), ix_n (by omega) (by omega), c_isInConflict ho n2 n1, o1_s, Bool.true_and]
        cases nz (M (60, 48 * k + o, 0) 3) with
        | false => rw [zb_f, if_pos rfl, nI_1, hi]; rfl
        | true => rw [zb_t, if_neg (by decide), if_pos rfl, if_pos (by omega)]
  have h0 := H N 0 100 (by omega) (by omega)
  rw [show 0 + N = N by omega] at h0
  exact h0
theorem r_found {J : Int32 × gM → Option (Int64 × gM)} {p : Nat → Bool} (hp : ∀ s, p s = (bt v s && (nz (M m_has (48 * s + o)) && nz (M m_versions (48 * s + o))))) (ho : o < 48) (hv : ∀ s, s < 4 → s < N → ∃ n, n ≤ 6 ∧ M m_versions (48 * s + o) = nI n) : ∀ (k fu : Nat) (b : Int32), k ≤ 4 → k ≤ N → k < fu → f_X11_repair_L80 (nI o) a3 v J fu b (nI k - 1) M = J (if lsF p 0 k < k then nI (lsF p 0 k) else b, M) := by
  intro k
  induction k with
  | zero =>
    intro fu b _ _ hf
    obtain ⟨fu, rfl⟩ : ∃ q, fu = q + 1 := ⟨fu - 1, by omega⟩
    simp only [f_X11_repair_L80]
    rw [if_pos (by decide), if_neg (by omega)]
  | succ k ih =>
    intro fu b hk hkN hf
    obtain ⟨fu, rfl⟩ : ∃ q, fu = q + 1 := ⟨fu - 1, by omega⟩
    have e0 : nI (k + 1) - (1 : Int32) = nI k := nI_s1 (by omega)
    have e1 : nI k + (-1 : Int32) = nI k - 1 := by rw [Int32.sub_eq_add_neg]
    simp only [f_X11_repair_L80, lt_d, jn_d, e0, e1, nI_m48, nI_add]
    rw [if_neg (nI_pos (by omega)), lsF_snoc]
    have no : p k = false → (if (if lsF p 0 k < k then lsF p 0 k else if p k then k else k + 1) < k + 1 then nI (if lsF p 0 k < k then lsF p 0 k else if p k then k else k + 1) else b) = (if lsF p 0 k < k then nI (lsF p 0 k) else b) := fun hp => by
      by_cases h : lsF p 0 k < k
      · rw [if_pos h, if_pos h, if_pos (by omega)]
      · rw [if_neg h, if_neg h, hp]
        rw [if_neg (show ¬ false = true by decide), if_neg (by omega)]
    have yes : p k = true → (if (if lsF p 0 k < k then lsF p 0 k else if p k then k else k + 1) < k + 1 then nI (if lsF p 0 k < k then lsF p 0 k else if p k then k else k + 1) else b) = (if lsF p 0 k < k then nI (lsF p 0 k) else nI k) := fun hp => by
      by_cases h : lsF p 0 k < k
      · rw [if_pos h, if_pos h, if_pos (by omega)]
      · rw [if_neg h, if_neg h, hp]
        rw [if_pos rfl, if_pos (by omega)]
    by_cases hb : bt v k = true
    · rw [if_pos (by rw [bt_1 (by omega)]; exact hb), rd_n (by omega) (by omega)]
      by_cases h1 : M m_has (48 * k + o) = 0
      · rw [if_pos h1, ih fu b (by omega) (by omega) (by omega), no (by rw [hp, h1]; simp [nz])]
      · obtain ⟨n, n1, n2⟩ := hv k (by omega) (by omega)
        rw [if_neg h1, rd_n (by omega) (by omega)]
        by_cases h2 : n = 0
        · rw [if_pos (by rw [n2, h2]; decide), ih fu b (by omega) (by omega) (by omega), no (by rw [hp, n2, h2]; simp [nz, nI_0])]
        · rw [if_neg (by rw [n2]; exact nI_nle (by omega) (by omega)), ih fu _ (by omega) (by omega) (by omega), yes (by rw [hp, hb, n2]; simp [nz, h1, nI_z (show n < 2 ^ 31 by omega), h2])]
    · rw [if_neg (by rw [bt_1 (by omega)]; exact hb), ih fu b (by omega) (by omega) (by omega), no (by rw [Bool.not_eq_true] at hb; rw [hp, hb]; rfl)]
/-- one server settles a file -/
theorem Rel.rep (hN : N ≤ 4) (hs : s < N) (ho : o < 48) (R : Rel N g Mc Mr) (hh : ¬ Mc (51, s, 0) o = 0) (hd : Mc (4, 0, 0) o = 0) : Rel N g (gset (gset (gset Mc (52, s, 0) o v) (53, s, 0) o w) (60, 48 * s + o, 0) 3 0) (gset (gset (gset Mr m_value (48 * s + o) v) m_size (48 * s + o) w) m_versions (48 * s + o) 0) := by
  have R1 := R.fil (v := v) (w := w) hN hs ho hh hd
  have hc : cf (fun j q => j = (60, 48 * s + o, 0) ∧ q = 3) (gset (gset Mc (52, s, 0) o v) (53, s, 0) o w) (gset (gset (gset Mc (52, s, 0) o v) (53, s, 0) o w) (60, 48 * s + o, 0) 3 0) := cf.st ⟨rfl, rfl⟩
  have hr : cf (fun j q => j = m_versions ∧ q = 48 * s + o) (gset (gset Mr m_value (48 * s + o) v) m_size (48 * s + o) w) (gset (gset (gset Mr m_value (48 * s + o) v) m_size (48 * s + o) w) m_versions (48 * s + o) 0) := cf.st ⟨rfl, rfl⟩
  have h := R1.sv hs ho
  have v1 : (gset (gset (gset Mr m_value (48 * s + o) v) m_size (48 * s + o) w) m_versions (48 * s + o) 0) m_versions (48 * s + o) = 0 := by rw [gset_r, if_pos ⟨rfl, rfl⟩]
  have v2 : (gset (gset (gset Mc (52, s, 0) o v) (53, s, 0) o w) (60, 48 * s + o, 0) 3 0) (60, 48 * s + o, 0) 3 = 0 := by rw [gset_r, if_pos ⟨rfl, rfl⟩]
  refine R1.mix hN hs ho (hc.mo ?_) (hr.mo ?_) (R1.2.2.2.1.fr hc hr ?_ ?_) (rSv_of (h.a.fr hN hc hr ?_ ?_) (h.b.fr hN hc hr ?_ ?_) (h.cc.fr hc hr ?_ ?_) ⟨by rw [v1, v2], fun i hi hl => by rw [v1] at hl; exact absurd hl (nI_pos (by omega))⟩) (R1.2.2.2.2.2.2.2.fr hc hr ?_ ?_)
  · rintro j q ⟨rfl, rfl⟩; unfold mC kSv; dsimp only; omega
  · rintro j q ⟨rfl, rfl⟩; unfold mR lSv; dsimp only; omega
  · rintro s' ⟨z, -⟩; exact absurd z (by simp)
  · rintro s' ⟨z, -⟩; exact absurd z (by decide)
  · rintro j q z ⟨rfl, rfl⟩; dsimp only at z; omega
  · rintro j q z ⟨rfl, rfl⟩; dsimp only at z; omega
  · rintro j q z ⟨rfl, rfl⟩; dsimp only at z; omega
  · rintro j q z ⟨rfl, rfl⟩; dsimp only at z; omega
  · rintro ⟨z, -⟩; exact absurd z (by simp)
  · rintro ⟨z, -⟩; exact absurd z (by decide)
  · rintro j q z ⟨rfl, rfl⟩; revert z; unfold kTl; dsimp only; omega
  · rintro j q z ⟨rfl, rfl⟩; revert z; unfold lTl; dsimp only; omega
theorem rep_inv (hN : N ≤ 4) (hs : s < N) (ho : o < 48) (I : Inv N g M) (hz : z ≤ 6) : Inv N g (gset (gset (gset M (52, s, 0) o v) (53, s, 0) o (nI z)) (60, 48 * s + o, 0) 3 0) := by
  have hc : cf (fun j q => ((j.1 = 52 ∨ j.1 = 53) ∧ j.2.1 = s ∧ q = o) ∨ (j.1 = 60 ∧ j.2.1 = 48 * s + o)) M (gset (gset (gset M (52, s, 0) o v) (53, s, 0) o (nI z)) (60, 48 * s + o, 0) 3 0) := ((cf.st (by simp)).tr (cf.st (by simp))).tr (cf.st (by simp))
  refine I.mixv hN hs ho (hc.mo (fun j q h => by omega)) ⟨⟨z, hz, by rw [gset_r, if_neg (by simp), gset_r, if_pos ⟨rfl, rfl⟩]⟩, 0, by omega, by rw [gset_r, if_pos ⟨rfl, rfl⟩]; rfl, fun h => absurd rfl h, fun i hi => absurd hi (by omega)⟩
def aRp (o : Nat) (j : gI) (q : Nat) : Prop := ((j.1 = 52 ∨ j.1 = 53) ∧ j.2.1 < 4 ∧ q = o) ∨ (j.1 = 60 ∧ j.2.1 < 192 ∧ q = 3)
def bRp (j : gI) (q : Nat) : Prop := j.1 = 12 ∨ j.1 = 13 ∨ j.1 = 15 ∨ (j.1 = 0 ∧ q = 51)
theorem settle_step {J : gM → Option (Int32 × gM)} {J' : gM → Option (Int64 × gM)} {row : gI} {f : Nat → Bool} (hN : N ≤ 4) (ho : o < 48) (hz : z ≤ 6) (R : Rel N g Mc Mr) (I : Inv N g Mc) (hd : Mc (4, 0, 0) o = 0) (h51 : Mr m_o 51 = 0) (hrow : ∀ k, k < N + 4 → Mr m_row k = Mc row k) (hf : f = fun t => (bt v t && nz (Mc (51, t, 0) o)) && rEq (Mc (55, t, o)) (Mc row) 0 (N + 4)) : ∃ Mc' Mr', f_X6_settle_L58 N (nI o) w (nI z) (sS f N) J 100 0 Mc = J Mc' ∧ f_X11_repair_L231 (nI o) v w (nI z) J' 100 0 Mr = J' Mr' ∧ Rel N g Mc' Mr' ∧ Inv N g Mc' ∧ Mr' m_o 51 = sS f N ∧ cf (aRp o) Mc Mc' ∧ cf bRp Mr Mr' := by
  refine loop2 (fun n k M => f_X6_settle_L58 N (nI o) w (nI z) (sS f N) J n (nI k) M) (fun n k M => f_X11_repair_L231 (nI o) v w (nI z) J' n (nI k) M) N J J' (fun k M1 M2 => Rel N g M1 M2 ∧ Inv N g M1 ∧ M2 m_o 51 = sN f 0 k 0 ∧ cf (aRp o) Mc M1 ∧ cf bRp Mr M2) (by omega) (fun n n' k M1 M2 hk ⟨r, i, h51', c1, c2⟩ => ?_) (fun n M1 M2 _ => ?_) (fun n M1 M2 ⟨r, _⟩ => ?_) ⟨R, I, h51, cf.rf _ _, cf.rf _ _⟩
  · have hbt : bt (sS f N) k = f k := by rw [bt_sS (by omega) (by omega), decide_eq_true hk, Bool.true_and]
    have e51 : M1 (51, k, 0) o = Mc (51, k, 0) o := c1 _ _ (by unfold aRp; dsimp only; omega)
    have hsn : sN f 0 (k + 1) 0 = if f (0 + k) then sN f 0 k 0 ||| sB (0 + k) else sN f 0 k 0 := sN_snoc k 0 0
    rw [show 0 + k = k by omega] at hsn
    have hh := (r.sv hk ho).a.1
    have hfk : f k = ((bt v k && nz (Mc (51, k, 0) o)) && rEq (Mc (55, k, o)) (Mc row) 0 (N + 4)) := by rw [hf]
    have hrq : ¬ M1 (51, k, 0) o = 0 → rEq (fun q => M2 m_vector (8 * (48 * k + o) + q)) (fun q => M2 m_row q) 0 (N + 4) = rEq (Mc (55, k, o)) (Mc row) 0 (N + 4) := fun hz1 => rEq_congr (fun q hq => by
      rw [← r.row hk ho hz1 hq, c1 _ _ (by unfold aRp; dsimp only; omega)]) (fun q hq => by rw [c2 _ _ (by unfold bRp; dsimp only; omega)]; exact hrow q hq)
    have hsame : ¬ M1 (51, k, 0) o = 0 → f_X11_isSame M2 m_vector (nI (48 * k + o)) m_row (0 : Int32) = some (zb (rEq (Mc (55, k, o)) (Mc row) 0 (N + 4))) := fun hz1 => by
      refine (r_isSame (j := 0) r.n1 (by omega) (by show _ ≤ 1536; omega) (by decide) (by decide) (by decide)).trans ?_
      simp only [Nat.mul_zero, Nat.zero_add]
      rw [hrq hz1]
    cases hfv : f k with
    | true =>
      rw [hfv] at hfk
      rw [hfv, if_pos rfl] at hsn
      have q := hfk.symm
      rw [Bool.and_eq_true, Bool.and_eq_true, nz_t] at q
      obtain ⟨⟨q1, q2⟩, q3⟩ := q
      have hz1 : ¬ M1 (51, k, 0) o = 0 := by rw [e51]; exact q2
      have hd1 : M1 (4, 0, 0) o = 0 := by rw [c1 _ _ (by unfold aRp; dsimp only; omega)]; exact hd
      have r1 := (r.sc (v := sN f 0 (k + 1) 0) hN rsc51).rep (v := w) (w := nI z) hN hk ho hz1 hd1
      have i1 := rep_inv (v := w) hN hk ho i hz
      have d1 : cf (aRp o) Mc (gset (gset (gset M1 (52, k, 0) o w) (53, k, 0) o (nI z)) (60, 48 * k + o, 0) 3 0) := ((c1.tr (cf.st (by unfold aRp; dsimp only; omega))).tr (cf.st (by unfold aRp; dsimp only; omega))).tr (cf.st (by unfold aRp; dsimp only; omega))
      have d2 : cf bRp Mr (gset (gset (gset (gset M2 m_o 51 (sN f 0 (k + 1) 0)) m_value (48 * k + o) w) m_size (48 * k + o) (nI z)) m_versions (48 * k + o) 0) := (((c2.tr (cf.st (by unfold bRp; dsimp only; omega))).tr (cf.st (by unfold bRp; dsimp only; omega))).tr (cf.st (by unfold bRp; dsimp only; omega))).tr (cf.st (by unfold bRp; dsimp only; omega))
      refine ⟨_, _, ?_, ?_, r1, i1, ?_, d1, d2⟩
      · simp only [f_X6_settle_L58, lt_d, jn_d]
        rw [if_neg (nI_ge (by omega) (by omega)), c_isIn _ (by omega), o1_s, hbt, hfv, zb_t, if_neg (by decide), ix_n hk (by omega), c_setFile ho, o1_s, ix_n hk (by omega), ix_n ho (by omega)]
        unfold f_X9_clear
        rw [lt_d, o1_s, nI_1]
      · simp only [f_X11_repair_L231, lt_d, jn_d, nI_m48, nI_add, r.n0]
        rw [if_neg (nI_ge (by omega) (by omega)), if_pos (by rw [bt_1 (by omega)]; exact q1), rd_n (by omega) (by omega), ← hh, if_neg hz1, hsame hz1, q3, o1_s, zb_t, if_neg (by decide), wr_n (by omega) (by omega), wr_n (by omega) (by omega), wr_n (by omega) (by omega), nI_1, h51', hsn]
        rfl
      · rw [gset_r, if_neg (by simp), gset_r, if_neg (by simp), gset_r, if_neg (by simp), gset_r, if_pos ⟨rfl, rfl⟩]
    | false =>
      rw [hfv] at hfk
      rw [hfv, if_neg (by decide)] at hsn
      refine ⟨M1, M2, ?_, ?_, r, i, by rw [hsn]; exact h51', c1, c2⟩
      · simp only [f_X6_settle_L58, lt_d, jn_d]
        rw [if_neg (nI_ge (by omega) (by omega)), c_isIn _ (by omega), o1_s, hbt, hfv, zb_f, if_pos rfl, nI_1]
      · simp only [f_X11_repair_L231, lt_d, jn_d, nI_m48, nI_add, r.n0]
        rw [if_neg (nI_ge (by omega) (by omega))]
        by_cases hb : bt v k = true
        · rw [if_pos (by rw [bt_1 (by omega)]; exact hb), rd_n (by omega) (by omega), ← hh]
          by_cases hz1 : M1 (51, k, 0) o = 0
          · rw [if_pos hz1, nI_1]
          · have q3 : rEq (Mc (55, k, o)) (Mc row) 0 (N + 4) = false := by
              rw [hb, show nz (Mc (51, k, 0) o) = true by rw [← e51]; unfold nz; rw [decide_eq_true hz1]] at hfk
              exact hfk.symm
            rw [if_neg hz1, hsame hz1, q3, o1_s, zb_f, if_pos rfl, nI_1]
        · rw [if_neg (by rw [bt_1 (by omega)]; exact hb), nI_1]
  · simp only [f_X6_settle_L58]
    rw [if_pos (nI_le (by omega) (by omega))]
  · simp only [f_X11_repair_L231, lt_d, r.n0]
    rw [if_pos (nI_le (by omega) (by omega))]
theorem st_sv (R' : Rel N g Mc' Mr') (I' : Inv N g Mc') (U : Usd (1000 * T) Mc Mr) (O : uAll 0 48 Mc Mr) (hc : cf uC Mc Mc') (hr : cf uR Mr Mr') : St N (T + 1) Mc' Mr' := by
  refine ⟨g, R', I', (U.fr hc hr ?_ ?_ ?_ ?_ ?_ ?_).up (by omega), O.fr hc hr ?_ ?_ ?_⟩
  · intro c q; unfold uC; dsimp only; omega
  · intro c; unfold uC; dsimp only; omega
  · intro q; unfold uR; dsimp only; omega
  · intro q; unfold uR; dsimp only; omega
  · unfold uR; dsimp only; omega
  · unfold uR; dsimp only; omega
  · intro c q; unfold uC; dsimp only; omega
  · intro c q; unfold uC; dsimp only; omega
  · intro q; unfold uR; dsimp only; omega
theorem settle9 {i : Nat} (hN : N ≤ 4) (ho : o < 48) (hs : s < N) (R : Rel N g Mc Mr) (I : Inv N g Mc) (hd : Mc (4, 0, 0) o = 0) (hn : Mc (60, 48 * s + o, 0) 3 = nI n) (n6 : n ≤ 6) (hi : i < n) : ∃ m Mc' Mr', f_X6_settle N Mc v (nI o) (nI s) (nI i) = some (m, Mc') ∧ (rd Mr m_versionValue 1152 (nI (6 * (48 * s + o) + i)) (fun v25 => rd Mr m_versionSize 1152 (nI (6 * (48 * s + o) + i)) (fun v26 => o1 (f_X11_copyTo Mr m_vector (nI (48 * s + o)) m_row (0 : Int32)) (fun M28 => f_X11_repair_L231 (nI o) v v25 v26 (fun M30 => o1 (f_X11_phases M30 (nI o)) (fun M32 => o1 (f_X11_endPromises M32 (nI o) (M32 m_o 51) (-1 : Int32)) (fun M35 => o1 (f_X11_manyOf M35 (M35 m_o 51)) (fun v38 => some (v38.toInt64, M35))))) 100 (0 : Int32) (gset M28 m_o 51 (0 : Int32)))))) = some (m.toInt64, Mr') ∧ Rel N g Mc' Mr' ∧ Inv N g Mc' ∧ cf uC Mc Mc' ∧ cf uR Mr Mr' ∧ Mr' m_o 66 = Mr m_o 66 := by
  obtain ⟨-, n', n1, n2, n3, n4⟩ := I.2.2.2.1 s hs o ho
  have en : n' = n := by rw [hn, neq (by omega) (by omega)] at n2; exact n2.symm
  subst en
  obtain ⟨hh, -, -, -⟩ := n3 (by omega)
  obtain ⟨z, z6, hz⟩ := n4 i hi
  obtain ⟨y1, y2, y3⟩ := (R.sv hs ho).dd.2 i (by omega) (by rw [← (R.sv hs ho).dd.1, hn]; exact nI_lt hi (by omega))
  obtain ⟨w, hw⟩ : ∃ w, w = Mc (61, 48 * s + o, 0) i := ⟨_, rfl⟩
  obtain ⟨f, hf⟩ : ∃ f : Nat → Bool, f = fun t => (bt v t && nz (Mc (51, t, 0) o)) && rEq (Mc (55, t, o)) (Mc (55, s, o)) 0 (N + 4) := ⟨_, rfl⟩
  have hcp : f_X11_copyTo Mr m_vector (nI (48 * s + o)) m_row (0 : Int32) = some (gpu Mr m_row 0 8 (fun k => Mr m_vector (8 * (48 * s + o) + k))) := r_copyTo0 (by show _ ≤ 1536; omega) (by decide) (by decide) (by decide)
  obtain ⟨Mr1, hMr1⟩ : ∃ X, X = gset (gpu Mr m_row 0 8 (fun k => Mr m_vector (8 * (48 * s + o) + k))) m_o 51 0 := ⟨_, rfl⟩
  have f1 : cf (fun j q => j.1 = 45 ∨ (j.1 = 0 ∧ q = 51)) Mr Mr1 := by rw [hMr1]; exact (cf.pu (fun _ _ _ => Or.inl rfl)).tr (cf.st (Or.inr ⟨rfl, rfl⟩))
  have R1 : Rel N g Mc Mr1 := R.fr hN (cf.rf _ _) (f1.mo (fun j q h => by unfold rsc; omega))
  have hrow : ∀ k, k < N + 4 → Mr1 m_row k = Mc (55, s, o) k := fun k hk => by
    rw [hMr1, gset_r, if_neg (by simp), gpu_r, if_pos ⟨rfl, by omega, by omega⟩, R.row hs ho (by rw [hh]; decide) hk]
    rfl
  have hc6 : cMost (48 * s + o) = 6 := cMost_lt (by omega)
  obtain ⟨Mc2, Mr2, k1, k2, r2, i2, h51, c2, d2⟩ := settle_step (v := v) (w := w) (row := (55, s, o)) (J := fun M9 => ob (f_X6_countAct N M9 (sS f N) (nI o)) (fun v12 M11 => o1 (f_X6_endPromises N M11 (sS f N) (nI o)) (fun M14 => o1 (f_J6_bitCount_0f7a4 N M14 (sS f N)) (fun v16 => some (v16, M14))))) (J' := fun M30 => o1 (f_X11_phases M30 (nI o)) (fun M32 => o1 (f_X11_endPromises M32 (nI o) (M32 m_o 51) (-1 : Int32)) (fun M35 => o1 (f_X11_manyOf M35 (M35 m_o 51)) (fun v38 => some (v38.toInt64, M35))))) hN ho z6 R1 I hd (by rw [hMr1, gset_r, if_pos ⟨rfl, rfl⟩]) hrow hf
  obtain ⟨l, Mc3, Mr3, p1, p2, r3, i3, -, c3, d3⟩ := phases_step (v := sS f N) hN ho r2 i2 h51 (fun t ht hb => by
    rw [bt_sS (by omega) (by omega), hf] at hb
    simp only [Bool.and_eq_true, nz_t] at hb
    rw [c2 _ _ (by unfold aRp; dsimp only; omega)]
    exact (I.2.2.1 t ht o ho).1.resolve_left hb.2.1.2)
  obtain ⟨Mc4, Mr4, q1, q2, r4, i4, c4, d4⟩ := ends_step (v := sS f N) hN ho r3 i3
  have h51' : Mr3 m_o 51 = sS f N := by rw [d3 _ _ (by unfold bPh; dsimp only; omega)]; exact h51
  have h51'' : Mr4 m_o 51 = sS f N := by rw [d4 _ _ (by simp)]; exact h51'
  refine ⟨nI (cntF f 0 N), Mc4, Mr4, ?_, ?_, r4, i4, ((c2.mo (fun j q h => by revert h; unfold aRp uC; omega)).tr (c3.mo (fun j q h => by revert h; unfold aPh uC; omega))).tr (c4.mo (fun j q h => by revert h; unfold uC; omega)), (((f1.mo (fun j q h => by revert h; unfold uR; omega)).tr (d2.mo (fun j q h => by revert h; unfold bRp uR; omega))).tr (d3.mo (fun j q h => by revert h; unfold bPh uR; omega))).tr (d4.mo (fun j q h => by revert h; unfold uR; omega)), ?_⟩
  · unfold f_X6_settle
    rw [ix_n hs (by omega), ix_n ho (by omega), hc6, rd_n (by omega) (by omega), rd_n (by omega) (by omega), ix_n hs (by omega), ix_n ho (by omega), c_holdersWith hN ho (cN55 _ _ _), o1_s, jn_d, ← hf, ← hw, hz]
    refine k1.trans ?_
    rw [p1, ob_s, q1, o1_s, c_bits hN, o1_s]
  · rw [rd_n (by omega) (by omega), rd_n (by omega) (by omega), hcp, o1_s, ← hMr1, ← y1, ← y2, ← hw, hz]
    refine k2.trans ?_
    rw [p2, o1_s, h51', q2, o1_s, h51'', r_many hN, o1_s]
  · rw [d4 _ _ (by simp), d3 _ _ (by unfold bPh; dsimp only; omega), d2 _ _ (by unfold bRp; dsimp only; omega), f1 _ _ (by simp)]
theorem st_repair (hN : 1 ≤ N ∧ N ≤ 4) (h : St N T zz.1 zz.2.1) : ∃ z1, s_repair N zz a1 a2 a3 = some z1 ∧ St N (T + 1) z1.1 z1.2.1 := by
  obtain ⟨g, R, I, U, O⟩ := id h
  have hg := I.1.1
  have hS := h.thr (k := 1) hN.2 0
  rcases rng a1 4 (by omega) with ⟨c, hc, rfl⟩ | bad
  · rcases rng a2 48 (by omega) with ⟨o, ho, rfl⟩ | bad
    · have R5 : Rel N g zz.1 (gset zz.2.1 m_o 66 0) := R.fr hN.2 (cf.rf _ _) ((cf.st (A := fun j q => j.1 = 0 ∧ q = 66) ⟨rfl, rfl⟩).mo (fun j q => by unfold rsc; omega))
      obtain ⟨n, al, hn, hl, al1, al2, alc, alr⟩ := alone_eq hN.2 hc R5 I
      have a1' : f_X10_isAlone N zz.1 c = some (zb al) := alc _ rfl rfl rfl rfl
      have a2' : f_X11_isAlone (gset zz.2.1 m_o 66 0) (nI c) = some (zb al) := alr _ rfl rfl rfl
      have hC : f_X10_repair N zz.1 (nI c) (nI o) a3 = (if (lg_cmp (kdO zz.1 g o 0) (0 : Int64)) = 0 then (if zb al = 0 then o1 (f_X6_leastInConflict N zz.1 (cNr N zz.1 c) (nI o)) (fun v17 => (if v17 = (-1 : Int32) then some (0, (-2199023255552 : Int64), zz.1) else ix v17 N (fun v19 => ix (nI o) 48 (fun v20 => o1 (f_X9_has N zz.1 (48 * v19 + v20) a3) (fun v22 => (if v22 = 0 then some (0, (-2199023255552 : Int64), zz.1) else ob (f_X6_settle N zz.1 (cNr N zz.1 c) (nI o) v17 a3) (fun v26 M25 => some (0, v26.toInt64, M25)))))))) else some (0, (-2199023255560 : Int64), zz.1)) else some (0, kdO zz.1 g o 0, zz.1)) := by
        unfold f_X10_repair
        rw [c_checkClient_ok hc, o1_s, if_pos rfl, c_checkObject_ok ho, o1_s, if_pos rfl, c_stop R.ct.1 hg ho, o1_s, ix_n hc (by omega), a1', o1_s, c_nearClient R.1.2.1 hN.2 hc, o1_s]
      have hR : f_X11_repair zz.2.1 (nI c) (nI o) a3 = (if (lg_cmp (kdO zz.1 g o 0) (0 : Int64)) = 0 then (if zb al = 0 then f_X11_repair_L80 (nI o) a3 (cNr N zz.1 c) (fun (q : (Int32 × gM)) => (if q.1 = (-1 : Int32) then some ((-2199023255552 : Int64), q.2) else (if a3 < 0 then some ((-2199023255552 : Int64), q.2) else rd q.2 m_versions 192 (((48 : Int32) * q.1) + nI o) (fun v22 => (if a3 < v22 then rd q.2 m_versionValue 1152 (((6 : Int32) * (((48 : Int32) * q.1) + nI o)) + a3) (fun v25 => rd q.2 m_versionSize 1152 (((6 : Int32) * (((48 : Int32) * q.1) + nI o)) + a3) (fun v26 => o1 (f_X11_copyTo q.2 m_vector (((48 : Int32) * q.1) + nI o) m_row (0 : Int32)) (fun M28 => f_X11_repair_L231 (nI o) (cNr N zz.1 c) v25 v26 (fun M30 => o1 (f_X11_phases M30 (nI o)) (fun M32 => o1 (f_X11_endPromises M32 (nI o) (M32 m_o 51) (-1 : Int32)) (fun M35 => o1 (f_X11_manyOf M35 (M35 m_o 51)) (fun v38 => some (v38.toInt64, M35))))) 100 (0 : Int32) (gset M28 m_o 51 (0 : Int32))))) else some ((-2199023255552 : Int64), q.2)))))) 100 (-1 : Int32) (nI N - 1) (gset zz.2.1 m_o 66 0) else some ((-2199023255560 : Int64), gset zz.2.1 m_o 66 0)) else some (kdO zz.1 g o 0, gset zz.2.1 m_o 66 0)) := by
        unfold f_X11_repair
        simp only [r_isClient_ok hc, r_isObject_ok ho, o1_s, jn_d, one_0, if_false, lt_d, g66, le_00, if_true, r_kindOf R5 hg ho, a2', r_nearSet R5.n0 hN.2 hc, R5.nr hN.2 hc, R5.n0]
      by_cases hk : kdO zz.1 g o 0 = 0
      · obtain ⟨hog, hdir⟩ := kd_0 hk
        have lgk : lg_cmp (kdO zz.1 g o 0) 0 = 0 := by rw [lg_cmp0]; exact hk
        rw [if_pos lgk] at hC hR
        cases al with
        | true =>
          rw [zb_t, if_neg (by decide)] at hC hR
          exact q_repair hC hR (g66 _ _) (by omega) (fun _ => rfl) hS
        | false =>
          have hvc : ∀ s, s < N → ∃ n, n ≤ 6 ∧ zz.1 (60, 48 * s + o, 0) 3 = nI n := fun s hs => by obtain ⟨-, n, m1, m2, -⟩ := I.2.2.2.1 s hs o ho; exact ⟨n, m1, m2⟩
          rw [zb_f, if_pos rfl, c_leastInConflict hN.2 ho hvc, o1_s] at hC
          rw [zb_f, if_pos rfl, r_found (N := N) (p := fun s => bt (cNr N zz.1 c) s && (nz (gset zz.2.1 m_o 66 0 m_has (48 * s + o)) && nz (gset zz.2.1 m_o 66 0 m_versions (48 * s + o)))) (fun _ => rfl) ho (fun s _ hs => by obtain ⟨n, m1, m2⟩ := hvc s hs; exact ⟨n, m1, by rw [← (R5.sv hs ho).dd.1]; exact m2⟩) N 100 (-1) hN.2 (by omega) (by omega)] at hR
          have hfe : (if lsF (fun s => bt (cNr N zz.1 c) s && (nz (gset zz.2.1 m_o 66 0 m_has (48 * s + o)) && nz (gset zz.2.1 m_o 66 0 m_versions (48 * s + o)))) 0 N < N then nI (lsF (fun s => bt (cNr N zz.1 c) s && (nz (gset zz.2.1 m_o 66 0 m_has (48 * s + o)) && nz (gset zz.2.1 m_o 66 0 m_versions (48 * s + o)))) 0 N) else -1) = fst (fun s => bt (cNr N zz.1 c) s && nz (zz.1 (60, 48 * s + o, 0) 3)) N := by
            refine fst_congr (fun s hs => ?_)
            have q := R5.sv hs ho
            rw [← q.a.1, ← q.dd.1]
            obtain ⟨-, n, m1, m2, m3, -⟩ := I.2.2.2.1 s hs o ho
            by_cases e : n = 0
            · rw [m2, e]; simp [nz, nI_0]
            · rw [(m3 e).1]; simp [nz]
          rw [hfe] at hR
          dsimp only at hR
          rcases fst_spec (N := N) (p := fun s => bt (cNr N zz.1 c) s && nz (zz.1 (60, 48 * s + o, 0) 3)) with ⟨ef, -⟩ | ⟨s, hs, ef, hps⟩
          · rw [ef, if_pos rfl] at hC hR
            exact q_repair hC hR (g66 _ _) (by omega) (fun _ => rfl) hS
          · have hm1 : ¬ nI s = (-1 : Int32) := by rw [nI_m1 (by omega)]; exact id
            obtain ⟨n, m1, m2⟩ := hvc s hs
            have m2r : gset zz.2.1 m_o 66 0 m_versions (48 * s + o) = nI n := by rw [← (R5.sv hs ho).dd.1]; exact m2
            rw [ef, if_neg hm1, ix_n hs (by omega), ix_n ho (by omega), c_has m2 (by omega), o1_s] at hC
            rw [ef, if_neg hm1, nI_m48, nI_add, rd_n (by omega) (by omega), m2r] at hR
            by_cases hi0 : a3 < 0
            · rw [decide_eq_false (fun z => z.1 hi0), zb_f, if_pos rfl] at hC
              rw [if_pos hi0] at hR
              exact q_repair hC hR (g66 _ _) (by omega) (fun _ => rfl) hS
            · rw [if_neg hi0] at hR
              by_cases hi1 : a3 < nI n
              · rw [decide_eq_true ⟨hi0, hi1⟩, zb_t, if_neg (by decide)] at hC
                rw [if_pos hi1] at hR
                obtain ⟨i, hi, rfl⟩ := nI_of hi0
                have hin : i < n := by rw [nlt (by omega) (by omega)] at hi1; exact hi1
                obtain ⟨m, Mc', Mr', k1, k2, r', i', c', d', e66⟩ := settle9 (v := cNr N zz.1 c) hN.2 ho hs R5 I hdir m2 m1 hin
                rw [k1, ob_s] at hC
                rw [nI_m6, nI_add, k2] at hR
                exact q_repair hC hR (e66.trans (g66 _ _)) (by omega) (fun _ => rfl) (st_sv r' i' U O c' ((cf.st (by unfold uR; dsimp only; omega)).tr d'))
              · rw [decide_eq_false (fun z => hi1 z.2), zb_f, if_pos rfl] at hC
                rw [if_neg hi1] at hR
                exact q_repair hC hR (g66 _ _) (by omega) (fun _ => rfl) hS
      · have lgk : ¬ lg_cmp (kdO zz.1 g o 0) 0 = 0 := by rw [lg_cmp0]; exact hk
        rw [if_neg lgk] at hC hR
        exact q_repair hC hR (g66 _ _) (by omega) (fun _ => rfl) hS
    · have c1 : f_X10_repair N zz.1 (nI c) a2 a3 = some (1, 0, zz.1) := by
        unfold f_X10_repair
        rw [c_checkClient_ok hc, o1_s, if_pos rfl, c_checkObject_bad bad, o1_s, if_neg (by decide)]
      have r1 : f_X11_repair zz.2.1 (nI c) a2 a3 = some (0, gset zz.2.1 m_o 66 1) := by
        unfold f_X11_repair
        simp only [r_isClient_ok hc, r_isObject_bad bad, o1_s, jn_d, one_0, if_true, lt_d, g66, le_10, if_false]
      exact q_repair c1 r1 (g66 _ _) (by omega) (fun h => absurd h (by decide)) (h.thr hN.2 1)
  · have c1 : f_X10_repair N zz.1 a1 a2 a3 = some (1, 0, zz.1) := by
      unfold f_X10_repair
      rw [c_checkClient_bad bad, o1_s, if_neg (by decide)]
    have r1 : f_X11_repair zz.2.1 a1 a2 a3 = some (0, gset zz.2.1 m_o 66 1) := by
      unfold f_X11_repair
      simp only [r_isClient_bad bad, o1_s, jn_d, if_true, lt_d, g66, le_10, if_false]
    exact q_repair c1 r1 (g66 _ _) (by omega) (fun h => absurd h (by decide)) (h.thr hN.2 1)
end RP
