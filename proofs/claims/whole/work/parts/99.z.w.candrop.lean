/-! layer 2: canBeDropped of the class -/
/-- all copies and versions in the group are at most the row -/
def kn (N : Nat) (M : gM) (G : Int32) (x : Nat) (r : Nat → Int32) : Bool := aF (fun s => !bt (cHo N M G x) s || (rLe (M (55, s, x)) r 0 (N + 4) && aF (fun i => rLe (M (64, 48 * s + x, i)) r 0 (N + 4)) 0 (M (60, 48 * s + x, 0) 3).toNatClampNeg)) 0 N
def knJ (N : Nat) (M : gM) (G : Int32) (x : Nat) : Bool := kn N M G x (fun k => jR M G x k N)
def okB (N : Nat) (M : gM) (G : Int32) (x : Nat) : Bool := !decide (jS M G x N = 1) && (!decide (jS M G x N = 2) || knJ N M G x)
/-- x is in o, however deep, or is it -/
def insI (M : gM) (o : Nat) (x : Nat) : Bool := if x = o then true else if x < o then false else if h : (M (2, 0, 0) x).toNatClampNeg < x then insI M o ((M (2, 0, 0) x).toNatClampNeg) else false
termination_by x
section ZW
variable {N g B s o c d x y z T n m t l i j a b : Nat} {A E M M' X Mc Mr Mc' Mr' : gM} {row a3 : gI} {D P : Nat → Bool} {G pd v w nr a1 a2 a4 a5 : Int32} {f r : Nat → Int32} {zz : lS}
theorem insI_o : insI M o o = true := by rw [insI, if_pos rfl]
theorem insI_lt (h : x < o) : insI M o x = false := by rw [insI, if_neg (by omega), if_pos h]
theorem insI_gt {p : Nat} (h : o < x) (hp : p < x) (hx : x < 48) (e : M (2, 0, 0) x = nI p) : insI M o x = insI M o p := by
  have e2 : (M (2, 0, 0) x).toNatClampNeg = p := by rw [e]; exact nI_clamp (by omega)
  rw [insI, if_neg (by omega), if_neg (by omega), e2, dif_pos hp]
theorem jR_congr {k : Nat} : ∀ n, (∀ s, s < n → bt G s = true → M' (58, s, x) k = M (58, s, x) k) → jR M' G x k n = jR M G x k n := by
  intro n
  induction n with
  | zero => exact fun _ => rfl
  | succ n ih =>
    intro h
    have i := ih (fun s hs => h s (by omega))
    unfold jR
    rw [i]
    by_cases hb : bt G n = true
    · rw [if_pos hb, if_pos hb, h n (by omega) hb]
    · rw [if_neg hb, if_neg hb]
theorem cHo_congr (h : ∀ s, s < N → M' (51, s, 0) x = M (51, s, 0) x) : cHo N M' G x = cHo N M G x := sN_congr _ _ _ (fun s _ hs => by rw [h s (by omega)])
theorem c_knL77 {J : Unit → Option Int32} (hN : N ≤ 4) (hs : s < 4) (hx : x < 48) (hv : M (60, 48 * s + x, 0) 3 = nI n) (hn : n ≤ 6) : f_X4_isKnownAtMost_L77 N M (nI x) v (nI s) s x J 100 (0 : Int32) = if aF (fun i => rLe (M (64, 48 * s + x, i)) (M (14, 0, 0)) 0 (N + 4)) 0 n = true then J () else some 0 := by
  have H : ∀ m k fu, k + m = n → m < fu → f_X4_isKnownAtMost_L77 N M (nI x) v (nI s) s x J fu (nI k) = if aF (fun i => rLe (M (64, 48 * s + x, i)) (M (14, 0, 0)) 0 (N + 4)) k m = true then J () else some 0 := by
    intro m
    induction m with
    | zero =>
      intro k fu hk hf
      obtain ⟨fu, rfl⟩ : ∃ q, fu = q + 1 := ⟨fu - 1, by omega⟩
      simp only [f_X4_isKnownAtMost_L77, lt_d]
      rw [hv, if_pos (nI_le (by omega) (by omega))]
      rfl
    | succ m ih =>
      intro k fu hk hf
      obtain ⟨fu, rfl⟩ : ∃ q, fu = q + 1 := ⟨fu - 1, by omega⟩
      have ih' := ih (k + 1) fu (by omega) (by omega)
      simp only [f_X4_isKnownAtMost_L77, lt_d]
      rw [hv, if_neg (nI_ge (by omega) (by omega)), ix_n (by rw [cMost_lt (by omega)]; omega) (by rw [cMost_lt (by omega)]; omega), c_isAtMost (show cN N (64, 48 * s + x, k) = N + 4 from rfl) (cN14 _) (by omega), o1_s, aF_s, nI_1, ih']
      cases rLe (M (64, 48 * s + x, k)) (M (14, 0, 0)) 0 (N + 4) with
      | true => rw [zb_t, if_neg (by decide), Bool.true_and]
      | false => rw [zb_f, if_pos rfl, Bool.false_and]; rfl
  exact H n 0 100 (by omega) (by omega)
theorem c_known (hN : N ≤ 4) (hx : x < 48) (hG : M (13, 0, 0) 6 = G) (hv : ∀ s, s < N → ∃ n, n ≤ 6 ∧ M (60, 48 * s + x, 0) 3 = nI n) : f_X4_isKnownAtMost N M (nI x) = some (zb (kn N M G x (M (14, 0, 0)))) := by
  have H : ∀ m k fu, k + m = N → m < fu → f_X4_isKnownAtMost_L15 N M (nI x) (cHo N M G x) fu (nI k) = some (zb (aF (fun s => !bt (cHo N M G x) s || (rLe (M (55, s, x)) (M (14, 0, 0)) 0 (N + 4) && aF (fun i => rLe (M (64, 48 * s + x, i)) (M (14, 0, 0)) 0 (N + 4)) 0 (M (60, 48 * s + x, 0) 3).toNatClampNeg)) k m)) := by
    intro m
    induction m with
    | zero =>
      intro k fu hk hf
      obtain ⟨fu, rfl⟩ : ∃ q, fu = q + 1 := ⟨fu - 1, by omega⟩
      simp only [f_X4_isKnownAtMost_L15]
      rw [if_pos (nI_le (by omega) (by omega))]
      rfl
    | succ m ih =>
      intro k fu hk hf
      obtain ⟨fu, rfl⟩ : ∃ q, fu = q + 1 := ⟨fu - 1, by omega⟩
      have ih' := ih (k + 1) fu (by omega) (by omega)
      obtain ⟨n, n6, hn⟩ := hv k (by omega)
      simp only [f_X4_isKnownAtMost_L15, lt_d, jn_d]
      rw [if_neg (nI_ge (by omega) (by omega)), c_isIn _ (by omega), o1_s, aF_s, nI_1, ih']
      cases hb : bt (cHo N M G x) k with
      | false => rw [zb_f, if_pos rfl]; rfl
      | true =>
        rw [zb_t, if_neg (by decide), ix_n (n := N) (by omega) (by omega), ix_n (n := 48) hx (by omega), c_isAtMost (show cN N (55, k, x) = N + 4 from rfl) (cN14 _) (by omega), o1_s]
        cases hr : rLe (M (55, k, x)) (M (14, 0, 0)) 0 (N + 4) with
        | false => rw [zb_f, if_pos rfl]; rfl
        | true =>
          rw [zb_t, if_neg (by decide), ix_n (n := N) (by omega) (by omega), ix_n (n := 48) hx (by omega), c_knL77 hN (by omega) hx hn n6, hn, nI_clamp (by omega)]
          cases aF (fun i => rLe (M (64, 48 * k + x, i)) (M (14, 0, 0)) 0 (N + 4)) 0 n with
          | true => rw [if_pos rfl]; rfl
          | false => rw [if_neg (by decide)]; rfl
  unfold f_X4_isKnownAtMost
  rw [lt_d, hG, c_holders hN hx, o1_s]
  exact H N 0 100 (by omega) (by omega)
theorem kn_congr (h51 : ∀ s, s < N → M' (51, s, 0) x = M (51, s, 0) x) (h55 : ∀ s, M' (55, s, x) = M (55, s, x)) (h64 : ∀ s i, M' (64, 48 * s + x, i) = M (64, 48 * s + x, i)) (h60 : ∀ s, M' (60, 48 * s + x, 0) 3 = M (60, 48 * s + x, 0) 3) {r' : Nat → Int32} (hr : ∀ k, k < N + 4 → r' k = r k) : kn N M' G x r' = kn N M G x r := by
  unfold kn
  rw [cHo_congr h51]
  refine aF_congr N 0 (fun s _ _ => ?_)
  rw [h55 s, h60 s, rLe_congr (f := M (55, s, x)) (g := r') (f' := M (55, s, x)) (g' := r) (fun _ _ => rfl) hr, aF_congr (p := fun i => rLe (M' (64, 48 * s + x, i)) r' 0 (N + 4)) (q := fun i => rLe (M (64, 48 * s + x, i)) r 0 (N + 4)) _ 0 (fun i _ _ => by rw [h64 s i]; exact rLe_congr (fun _ _ => rfl) hr)]
/-- the state joined, then whether all is known -/
theorem c_jk (hN : N ≤ 4) (hx : x < 48) (hG : A (13, 0, 0) 6 = G) (hM : cf (fun j q => j.1 = 14 ∨ j.1 = 15) A M) (hv : ∀ s, s < N → ∃ n, n ≤ 6 ∧ A (60, 48 * s + x, 0) 3 = nI n) : ∃ M', f_X4_joinedState N M (nI x) = some (jS A G x N, M') ∧ f_X4_isKnownAtMost N M' (nI x) = some (zb (knJ N A G x)) ∧ cf (fun j q => j.1 = 14) M M' := by
  have e : ∀ (j : gI) q, ¬ (j.1 = 14 ∨ j.1 = 15) → M j q = A j q := fun j q hj => hM _ _ hj
  have hG' : M (13, 0, 0) 6 = G := by rw [e _ _ (by simp)]; exact hG
  obtain ⟨X, hX⟩ : ∃ X, X = gpu M (14, 0, 0) 0 (N + 4) (fun k => jR M G x k N) := ⟨_, rfl⟩
  have fX : cf (fun j q => j.1 = 14) M X := by rw [hX]; exact cf.pu (fun _ _ _ => rfl)
  have eX : ∀ (j : gI) q, ¬ (j.1 = 14 ∨ j.1 = 15) → X j q = A j q := fun j q hj => by rw [fX _ _ (by omega)]; exact e j q hj
  refine ⟨X, ?_, ?_, fX⟩
  · rw [c_joined hN hx hG', ← hX, jS_congr N (fun s _ _ => e (56, s, 0) x (by simp))]
  · rw [c_known (G := G) hN hx (by rw [eX _ _ (by simp)]; exact hG) (fun s hs => by rw [eX _ _ (by simp)]; exact hv s hs)]
    refine congrArg (fun b => some (zb b)) ?_
    unfold knJ
    refine kn_congr (fun s _ => eX _ _ (by simp)) (fun s => funext fun q => eX _ _ (by simp)) (fun s i => funext fun q => eX _ _ (by simp)) (fun s => eX _ _ (by simp)) (fun k hk => ?_)
    rw [hX, gpu_r, if_pos ⟨rfl, by omega, by omega⟩]
    exact jR_congr N (fun s _ _ => e _ _ (by simp))
theorem c_canL {I : Nat → Bool} (hN : N ≤ 4) (hg : g ≤ 47) (hG : A (13, 0, 0) 6 = G) (h3 : A (1, 0, 0) 3 = nI g) (hv : ∀ x, x ≤ g → ∀ s, s < N → ∃ n, n ≤ 6 ∧ A (60, 48 * s + x, 0) 3 = nI n) (hI : ∀ x, o < x → x ≤ g → ∃ p, p < x ∧ A (2, 0, 0) x = nI p ∧ I x = I p) : ∀ m k fu M, k + m = g + 1 → o < k → m < fu → cf (fun j q => j.1 = 14 ∨ j.1 = 15) A M → (∀ x, x < k → M (15, 0, 0) x = zb (I x)) → ∃ X, f_X4_canBeDropped_L50 N fu (nI k) M = some (zb (aF (fun x => !I x || okB N A G x) k m), X) ∧ cf (fun j q => j.1 = 14 ∨ j.1 = 15) A X ∧ (aF (fun x => !I x || okB N A G x) k m = true → ∀ x, x ≤ g → X (15, 0, 0) x = zb (I x)) := by
  intro m
  induction m with
  | zero =>
    intro k fu M hk hok hf hM h15
    obtain ⟨fu, rfl⟩ : ∃ q, fu = q + 1 := ⟨fu - 1, by omega⟩
    refine ⟨M, ?_, hM, fun _ x hx => h15 x (by omega)⟩
    simp only [f_X4_canBeDropped_L50, lt_d]
    rw [hM _ _ (by simp), h3, if_pos (show nI g < nI k by rw [nlt (by omega) (by omega)]; omega)]
    rfl
  | succ m ih =>
    intro k fu M hk hok hf hM h15
    obtain ⟨fu, rfl⟩ : ∃ q, fu = q + 1 := ⟨fu - 1, by omega⟩
    obtain ⟨p, p1, p2, p3⟩ := hI k hok (by omega)
    obtain ⟨M1, hM1⟩ : ∃ X, X = gset M (15, 0, 0) k (zb (I k)) := ⟨_, rfl⟩
    have f1 : cf (fun j q => j.1 = 14 ∨ j.1 = 15) A M1 := by rw [hM1]; exact hM.tr (cf.st (Or.inr rfl))
    have h1 : ∀ x, x < k + 1 → M1 (15, 0, 0) x = zb (I x) := fun x hx => by
      by_cases e : x = k
      · subst e; rw [hM1, gset_aa]
      · rw [hM1, gset_o (by simp [e])]; exact h15 x (by omega)
    have st : f_X4_canBeDropped_L50 N (fu + 1) (nI k) M = if zb (I k) = 0 then f_X4_canBeDropped_L50 N fu (nI (k + 1)) M1 else ob (f_X4_joinedState N M1 (nI k)) (fun v23 M22 => if v23 = (1 : Int32) then some ((0 : Int32), M22) else if v23 = (2 : Int32) then o1 (f_X4_isKnownAtMost N M22 (nI k)) (fun v27 => if v27 = 0 then some ((0 : Int32), M22) else f_X4_canBeDropped_L50 N fu (nI (k + 1)) M22) else f_X4_canBeDropped_L50 N fu (nI (k + 1)) M22) := by
      simp only [f_X4_canBeDropped_L50, lt_d, jn_d]
      rw [hM _ _ (by simp), h3, if_neg (show ¬ nI g < nI k by rw [nlt (by omega) (by omega)]; omega), rd_n (by omega) (by omega), hM (2, 0, 0) k (by simp), p2, rd_n (by omega) (by omega), h15 p p1, ← p3, wz_n (by omega) (by omega) (zb_01 _), ← hM1, rd_n (by omega) (by omega), h1 k (by omega), nI_1]
    rw [st, aF_s]
    cases hIk : I k with
    | false =>
      obtain ⟨X, x1, x2, x3⟩ := ih (k + 1) fu M1 (by omega) (by omega) (by omega) f1 h1
      refine ⟨X, ?_, x2, fun h => x3 (by simpa using h)⟩
      rw [zb_f, if_pos rfl, x1]; rfl
    | true =>
      obtain ⟨M2, q1, q2, q3⟩ := c_jk (x := k) hN (by omega) hG f1 (hv k (by omega))
      have f2 : cf (fun j q => j.1 = 14 ∨ j.1 = 15) A M2 := f1.tr (q3.mo (fun j q h => Or.inl h))
      have h2 : ∀ x, x < k + 1 → M2 (15, 0, 0) x = zb (I x) := fun x hx => by rw [q3 _ _ (by simp)]; exact h1 x hx
      obtain ⟨X, x1, x2, x3⟩ := ih (k + 1) fu M2 (by omega) (by omega) (by omega) f2 h2
      rw [zb_t, if_neg (by decide), q1, ob_s, q2, o1_s, x1]
      have eo : okB N A G k = (!decide (jS A G k N = 1) && (!decide (jS A G k N = 2) || knJ N A G k)) := rfl
      rw [eo]
      by_cases e1 : jS A G k N = 1
      · refine ⟨M2, ?_, f2, fun h => ?_⟩
        · rw [if_pos e1, decide_eq_true e1]; rfl
        · rw [decide_eq_true e1] at h; simp at h
      · rw [if_neg e1, decide_eq_false e1]
        by_cases e2 : jS A G k N = 2
        · rw [if_pos e2, decide_eq_true e2]
          cases hkn : knJ N A G k with
          | false =>
            refine ⟨M2, ?_, f2, fun h => ?_⟩
            · rw [zb_f, if_pos rfl]; rfl
            · simp at h
          | true =>
            refine ⟨X, ?_, x2, fun h => x3 (by simpa using h)⟩
            rw [zb_t, if_neg (by decide)]; rfl
        · rw [if_neg e2, decide_eq_false e2]
          exact ⟨X, rfl, x2, fun h => x3 (by simpa using h)⟩
theorem c_canL2 {J : gM → Option (Int32 × gM)} (hx : x < 48) : f_X4_canBeDropped_L2 N (nI x) J 100 (0 : Int32) M = J (gpu M (15, 0, 0) 0 48 (fun k => zb (decide (k = x)))) := by
  refine rowloop (L := fun n k M => f_X4_canBeDropped_L2 N (nI x) J n (nI k) M) (E := J) (B := 48) (row := (15, 0, 0)) (base := 0) (h := fun _ k => zb (decide (k = x))) (P := fun _ => True) (by omega) (fun n k M hk _ => ⟨?_, trivial⟩) (fun n M _ => ?_) (fun _ _ _ _ _ _ _ _ => rfl) trivial
  · simp only [f_X4_canBeDropped_L2, lt_d, jn_d]
    rw [if_neg (ge_48 hk), nI_1]
    by_cases e : k = x
    · subst e
      rw [if_pos rfl, wz_1 hk (by omega), decide_eq_true rfl, show 0 + k = k by omega]; rfl
    · rw [if_neg (show ¬ nI k = nI x by rw [neq (by omega) (by omega)]; exact e), wz_0 hk (by omega), decide_eq_false e, show 0 + k = k by omega]; rfl
  · simp only [f_X4_canBeDropped_L2]
    rw [if_pos (show (48 : Int32) ≤ nI 48 by decide)]
theorem c_canBe {I : Nat → Bool} (hN : N ≤ 4) (hog : o ≤ g) (hg : g ≤ 47) (hG : A (13, 0, 0) 6 = G) (h3 : A (1, 0, 0) 3 = nI g) (hv : ∀ x, x ≤ g → ∀ s, s < N → ∃ n, n ≤ 6 ∧ A (60, 48 * s + x, 0) 3 = nI n) (hI : ∀ x, o < x → x ≤ g → ∃ p, p < x ∧ A (2, 0, 0) x = nI p ∧ I x = I p) (hI0 : I o = true) (hI1 : ∀ x, x < o → I x = false) : ∃ X, f_X4_canBeDropped N A (nI o) = some (zb (knJ N A G o && aF (fun x => !I x || okB N A G x) (o + 1) (g - o)), X) ∧ cf (fun j q => j.1 = 14 ∨ j.1 = 15) A X ∧ ((knJ N A G o && aF (fun x => !I x || okB N A G x) (o + 1) (g - o)) = true → ∀ x, x ≤ g → X (15, 0, 0) x = zb (I x)) := by
  obtain ⟨M0, hM0⟩ : ∃ X, X = gpu A (15, 0, 0) 0 48 (fun k => zb (decide (k = o))) := ⟨_, rfl⟩
  have f0 : cf (fun j q => j.1 = 14 ∨ j.1 = 15) A M0 := by rw [hM0]; exact cf.pu (fun _ _ _ => Or.inr rfl)
  obtain ⟨M2, q1, q2, q3⟩ := c_jk (x := o) hN (by omega) hG f0 (hv o hog)
  have f2 : cf (fun j q => j.1 = 14 ∨ j.1 = 15) A M2 := f0.tr (q3.mo (fun j q h => Or.inl h))
  obtain ⟨X, x1, x2, x3⟩ := c_canL hN hg hG h3 hv hI (g - o) (o + 1) 100 M2 (by omega) (by omega) (by omega) f2 (fun x hx => by
    rw [q3 _ _ (by simp), hM0, gpu_r, if_pos ⟨rfl, by omega, by omega⟩]
    by_cases e : x = o
    · subst e; rw [hI0, show x - 0 = x by omega, decide_eq_true rfl]
    · rw [hI1 x (by omega), show x - 0 = x by omega, decide_eq_false e])
  have st : f_X4_canBeDropped N A (nI o) = if zb (knJ N A G o) = 0 then some ((0 : Int32), M2) else f_X4_canBeDropped_L50 N 100 (nI (o + 1)) M2 := by
    unfold f_X4_canBeDropped
    rw [jn_d, c_canL2 (by omega), ← hM0, q1, ob_s, q2, o1_s, lt_d, nI_1]
  rw [st]
  cases hk : knJ N A G o with
  | false => exact ⟨M2, by rw [zb_f, if_pos rfl]; rfl, f2, fun h => by simp at h⟩
  | true => exact ⟨X, by rw [zb_t, if_neg (by decide), x1]; rfl, x2, fun h => x3 (by simpa using h)⟩
end ZW
