/-! layer 2: candidates that another one is above are left out -/
/-- below, and not the same -/
def bts (N : Nat) (f : Nat → Nat → Int32) (i j : Nat) : Bool := rLe (f i) (f j) 0 (N + 4) && !rEq (f i) (f j) 0 (N + 4)
def ub (N n : Nat) (f : Nat → Nat → Int32) (i : Nat) : Bool := aF (fun j => !bts N f i j) 0 n
def s3 (N : Nat) (M : gM) (p : Nat) (A : gM) (j : Nat) : Prop := M (61, 192, 0) p = A (61, 192, 0) j ∧ M (62, 192, 0) p = A (62, 192, 0) j ∧ ∀ q, q < N + 4 → M (64, 192, p) q = A (64, 192, j) q
def t3 (N : Nat) (M : gM) (p : Nat) (A : gM) (j : Nat) : Prop := M m_candidateValue p = A m_candidateValue j ∧ M m_candidateSize p = A m_candidateSize j ∧ ∀ q, q < N + 4 → M m_candidateVector (8 * p + q) = A m_candidateVector (8 * j + q)
section ZD
variable {N g B s o c d x y z T n m t l i j k : Nat} {A E M M' X Mc Mr Mc' Mr' : gM} {f h : Nat → Nat → Int32} {b p q : Nat → Bool} {G v w nr a1 a2 a4 a5 : Int32}
theorem cntF_lt : ∀ (m k : Nat), (∀ j, k ≤ j → j < k + m → p j = true → q j = true) → (∃ j, k ≤ j ∧ j < k + m ∧ q j = true ∧ p j = false) → cntF p k m < cntF q k m := by
  have mono : ∀ (m k : Nat), (∀ j, k ≤ j → j < k + m → p j = true → q j = true) → cntF p k m ≤ cntF q k m := by
    intro m
    induction m with
    | zero => intro k _; exact Nat.le_refl _
    | succ m ih =>
      intro k hk
      rw [cntF_s, cntF_s]
      have := ih (k + 1) (fun j a b => hk j (by omega) (by omega))
      cases e : p k with
      | false => rw [if_neg (by decide)]; omega
      | true => rw [if_pos rfl, if_pos (hk k (by omega) (by omega) e)]; omega
  intro m
  induction m with
  | zero => intro k _ ⟨j, a, b, _⟩; omega
  | succ m ih =>
    intro k hk ⟨j, a, b, e1, e2⟩
    rw [cntF_s, cntF_s]
    by_cases ej : j = k
    · subst ej
      rw [if_neg (by rw [e2]; decide), if_pos e1]
      have := mono m (j + 1) (fun j' a b => hk j' (by omega) (by omega))
      omega
    · have := ih (k + 1) (fun j a b => hk j (by omega) (by omega)) ⟨j, by omega, by omega, e1, e2⟩
      cases e : p k with
      | false => rw [if_neg (by decide)]; omega
      | true => rw [if_pos rfl, if_pos (hk k (by omega) (by omega) e)]; omega
theorem cntF_snoc : ∀ (m k : Nat), cntF p k (m + 1) = cntF p k m + (if p (k + m) then 1 else 0) := by
  intro m
  induction m with
  | zero => intro k; rw [cntF_s]; show _ + 0 = 0 + _; rw [Nat.add_zero, Nat.zero_add]; rfl
  | succ m ih =>
    intro k
    rw [cntF_s, ih (k + 1), cntF_s, show k + 1 + m = k + (m + 1) by omega]
    omega
theorem cntF_app : ∀ (u m k : Nat), cntF p k (u + m) = cntF p k u + cntF p (k + u) m := by
  intro u
  induction u with
  | zero => intro m k; rw [Nat.zero_add]; show _ = 0 + _; rw [Nat.zero_add]; rfl
  | succ u ih =>
    intro m k
    rw [show u + 1 + m = (u + m) + 1 by omega, cntF_s, ih m (k + 1), cntF_s, show k + 1 + u = k + (u + 1) by omega]
    omega
/-- every place comes from somewhere -/
theorem cntF_sur : ∀ (m k r : Nat), r < cntF p k m → ∃ j, k ≤ j ∧ j < k + m ∧ p j = true ∧ cntF p k (j - k) = r := by
  intro m
  induction m with
  | zero => intro k r h; exact absurd h (Nat.not_lt_zero _)
  | succ m ih =>
    intro k r h
    rw [cntF_snoc] at h
    by_cases e : r < cntF p k m
    · obtain ⟨j, a, b, c, d⟩ := ih k r e
      exact ⟨j, a, by omega, c, d⟩
    · cases ep : p (k + m) with
      | false => rw [ep, if_neg (by decide)] at h; omega
      | true =>
        rw [ep, if_pos rfl] at h
        exact ⟨k + m, by omega, by omega, ep, by rw [show k + m - k = m by omega]; omega⟩
theorem bts_tr (h1 : bts N f i j = true) (h2 : bts N f j k = true) : bts N f i k = true := by
  unfold bts at h1 h2 ⊢
  rw [Bool.and_eq_true, Bool.not_eq_true'] at h1 h2 ⊢
  obtain ⟨a1, a2⟩ := h1
  obtain ⟨b1, b2⟩ := h2
  rw [rLe_iff] at a1 b1 ⊢
  refine ⟨fun q h h' => Int32.le_trans (a1 q h h') (b1 q h h'), ?_⟩
  cases e : rEq (f i) (f k) 0 (N + 4) with
  | false => rfl
  | true =>
    rw [rEq_iff] at e
    have : rEq (f i) (f j) 0 (N + 4) = true := by
      rw [rEq_iff]
      exact fun q h h' => Int32.le_antisymm (a1 q h h') (by rw [e q h h']; exact b1 q h h')
    rw [this] at a2
    exact absurd a2 (by decide)
theorem bts_ir : bts N f i i = false := by
  unfold bts
  rw [rEq_t (fun _ _ => rfl)]
  cases rLe (f i) (f i) 0 (N + 4) <;> rfl
/-- above a beaten one stands one that is not beaten -/
theorem bts_top : ∀ (u i : Nat), cntF (bts N f i) 0 n ≤ u → ub N n f i = false → ∃ j, j < n ∧ bts N f i j = true ∧ ub N n f j = true := by
  intro u
  induction u with
  | zero =>
    intro i hu hb
    exfalso
    have h0 : ∀ j, 0 ≤ j → j < 0 + n → bts N f i j = false := (cntF_z n 0).mp (by omega)
    have : ub N n f i = true := aF_t (fun j a b => by rw [h0 j a b]; rfl)
    rw [this] at hb
    exact absurd hb (by decide)
  | succ u ih =>
    intro i hu hb
    have : ∃ j, j < n ∧ bts N f i j = true := Classical.byContradiction (fun hn => by
      have : ub N n f i = true := aF_t (fun j a b => by
        cases e : bts N f i j with
        | false => rfl
        | true => exact absurd ⟨j, by omega, e⟩ hn)
      rw [this] at hb
      exact absurd hb (by decide))
    obtain ⟨j, hj, hij⟩ := this
    cases e : ub N n f j with
    | true => exact ⟨j, hj, hij, e⟩
    | false =>
      have hlt : cntF (bts N f j) 0 n < cntF (bts N f i) 0 n := cntF_lt n 0 (fun k _ _ hk => bts_tr hij hk) ⟨j, by omega, by omega, hij, bts_ir⟩
      obtain ⟨k, hk, hjk, hku⟩ := ih j (by omega) e
      exact ⟨k, hk, bts_tr hij hjk, hku⟩
theorem bts_congr (hi : ∀ q, q < N + 4 → f i q = h i q) (hj : ∀ q, q < N + 4 → f j q = h j q) : bts N f i j = bts N h i j := by
  unfold bts
  rw [rLe_congr hi hj, rEq_congr hi hj]
theorem c_isLesser (hN : N ≤ 4) (hl : M (60, 192, 0) 3 = nI n) (hn : n ≤ 24) (hi : i < 24) : f_X9_isLesser N M 192 (nI i) = some (zb (!aF (fun j => !bts N (fun k => M (64, 192, k)) i j) 0 n)) := by
  have H : ∀ m k fu, k + m = n → m < fu → f_X9_isLesser_L2 N M 192 (nI i) fu (nI k) = some (zb (!aF (fun j => !bts N (fun k => M (64, 192, k)) i j) k m)) := by
    intro m
    induction m with
    | zero =>
      intro k fu hk hf
      obtain ⟨fu, rfl⟩ : ∃ q, fu = q + 1 := ⟨fu - 1, by omega⟩
      simp only [f_X9_isLesser_L2, lt_d, hl]
      rw [if_pos (nI_le (by omega) (by omega))]
      rfl
    | succ m ih =>
      intro k fu hk hf
      obtain ⟨fu, rfl⟩ : ∃ q, fu = q + 1 := ⟨fu - 1, by omega⟩
      have ih' := ih (k + 1) fu (by omega) (by omega)
      simp only [f_X9_isLesser_L2, lt_d, hl, jn_d, cM192]
      rw [if_neg (nI_ge (by omega) (by omega)), ix_n hi (by omega), ix_n (by omega) (by omega), c_isAtMost (cN64 _ _ _) (cN64 _ _ _) (by omega), o1_s, aF_s, nI_1]
      unfold bts at ih' ⊢
      cases rLe (M (64, 192, i)) (M (64, 192, k)) 0 (N + 4) with
      | false => rw [zb_f, if_pos rfl, ih']; rfl
      | true =>
        rw [zb_t, if_neg (by decide), ix_n hi (by omega), ix_n (by omega) (by omega), c_isSame (cN64 _ _ _) (cN64 _ _ _) (by omega), o1_s]
        cases rEq (M (64, 192, i)) (M (64, 192, k)) 0 (N + 4) with
        | false => rw [zb_f, if_pos rfl]; rfl
        | true => rw [zb_t, if_neg (by decide), ih']; rfl
  exact H n 0 100 (by omega) (by omega)
theorem c_leaveOut (hN : N ≤ 4) (hl : M (60, 192, 0) 3 = nI n) (hn : n ≤ 24) (hi : i < n) : ∃ M', f_X9_leaveOut N M 192 (nI i) = some M' ∧ cf cCd M M' ∧ M' (60, 192, 0) 3 = nI (n - 1) ∧ (∀ p, p < i → s3 N M' p M p) ∧ ∀ p, i ≤ p → p + 1 < n → s3 N M' p M (p + 1) := by
  obtain ⟨M1, h1, h2, h0, h3, h4, h5⟩ := loopQ (fun u k M1 => f_X9_leaveOut_L4 N 192 (fun M2 => lt (M2 (60, 192, 0) 3) (fun v3 => lt (gset M2 (60, 192, 0) 3 (v3 - (1 : Int32))) (fun M4 => some M4))) u (nI k) M1) n (fun M2 => lt (M2 (60, 192, 0) 3) (fun v3 => lt (gset M2 (60, 192, 0) 3 (v3 - (1 : Int32))) (fun M4 => some M4))) (fun k M1 => cf (fun j q => cCd j q ∧ ¬ j.1 = 60) M M1 ∧ i + 1 ≤ k ∧ (∀ p, p < i → s3 N M1 p M p) ∧ (∀ p, i ≤ p → p + 1 < k → s3 N M1 p M (p + 1)) ∧ ∀ p, k ≤ p → p < n → s3 N M1 p M p) (fun u k M1 hk ⟨fc, hki, p1, p2, p3⟩ => by
    obtain ⟨M2, hM2⟩ : ∃ X, X = gset (gset M1 (61, 192, 0) (k - 1) (M1 (61, 192, 0) k)) (62, 192, 0) (k - 1) (M1 (62, 192, 0) k) := ⟨_, rfl⟩
    obtain ⟨M3, hM3⟩ : ∃ X, X = gpu M2 (64, 192, k - 1) 0 (N + 4) (fun q => M2 (64, 192, k) q) := ⟨_, rfl⟩
    have f2 : cf (fun j q => (j = (61, 192, 0) ∨ j = (62, 192, 0)) ∧ q = k - 1) M1 M2 := by rw [hM2]; exact (cf.st ⟨Or.inl rfl, rfl⟩).tr (cf.st ⟨Or.inr rfl, rfl⟩)
    have f3 : cf (fun j q => j = (64, 192, k - 1)) M2 M3 := by rw [hM3]; exact cf.pu (fun _ _ _ => rfl)
    have w60 : M1 (60, 192, 0) 3 = nI n := by rw [fc _ _ (by unfold cCd; dsimp only; omega)]; exact hl
    have oth : ∀ p, p ≠ k - 1 → s3 N M3 p M1 p := fun p hp => ⟨by rw [f3 _ _ (by simp), f2 _ _ (by simp [hp])], by rw [f3 _ _ (by simp), f2 _ _ (by simp [hp])], fun q _ => by rw [f3 _ _ (by simp [hp]), f2 _ _ (by simp)]⟩
    have new : s3 N M3 (k - 1) M1 k := ⟨by rw [f3 _ _ (by simp), hM2, gset_o (by simp), gset_aa], by rw [f3 _ _ (by simp), hM2, gset_aa], fun q hq => by rw [hM3, gpu_r, if_pos ⟨rfl, by omega, by omega⟩, f2 _ _ (by simp)]; rfl⟩
    have tr3 : ∀ {P Q R : gM} {a b c : Nat}, s3 N P a Q b → s3 N Q b R c → s3 N P a R c := fun h h' => ⟨h.1.trans h'.1, h.2.1.trans h'.2.1, fun q hq => (h.2.2 q hq).trans (h'.2.2 q hq)⟩
    refine ⟨M3, ?_, (fc.tr (f2.mo (fun j q h => ?_))).tr (f3.mo (fun j q h => ?_)), by omega, fun p hp => tr3 (oth p (by omega)) (p1 p hp), fun p a b => ?_, fun p a b => tr3 (oth p (by omega)) (p3 p (by omega) b)⟩
    · simp only [f_X9_leaveOut_L4, lt_d, cM192]
      rw [w60, if_neg (nI_ge hk (by omega)), nI_s1 (by omega), rd_n (by omega) (by omega), wr_n (by omega) (by omega), rd_n (by omega) (by omega), wr_n (by omega) (by omega), gset_o (j := (62, 192, 0)) (by simp), ← hM2, ix_n (by omega) (by omega), ix_n (by omega) (by omega), c_assign (cN64 _ _ _) (cN64 _ _ _) (by omega), o1_s, ← hM3, nI_1]
    · unfold cCd; rcases h.1 with h | h <;> rw [h] <;> dsimp only <;> omega
    · unfold cCd; rw [h]; dsimp only; omega
    · by_cases e : p = k - 1
      · subst e
        rw [show k - 1 + 1 = k by omega]
        exact tr3 new (p3 k (by omega) (by omega))
      · exact tr3 (oth p e) (p2 p a (by omega))) (fun u M1 ⟨fc, _⟩ => by
    simp only [f_X9_leaveOut_L4, lt_d]
    rw [fc _ _ (by unfold cCd; dsimp only; omega), hl, if_pos (nI_le (by omega) (by omega))]) (n - (i + 1)) (i + 1) 100 M (by omega) (by omega) ⟨cf.rf _ _, by omega, fun p _ => ⟨rfl, rfl, fun _ _ => rfl⟩, fun p a b => by omega, fun p _ _ => ⟨rfl, rfl, fun _ _ => rfl⟩⟩
  have w60 : M1 (60, 192, 0) 3 = nI n := by rw [h2 _ _ (by unfold cCd; dsimp only; omega)]; exact hl
  have fin : ∀ (P : gM) p j, s3 N M1 p P j → s3 N (gset M1 (60, 192, 0) 3 (nI (n - 1))) p P j := fun P p j h => ⟨by rw [gset_o (by simp)]; exact h.1, by rw [gset_o (by simp)]; exact h.2.1, fun q hq => by rw [gset_o (by simp)]; exact h.2.2 q hq⟩
  refine ⟨gset M1 (60, 192, 0) 3 (nI (n - 1)), ?_, (h2.mo (fun j q h => h.1)).tr (cf.st (by unfold cCd; dsimp only; omega)), gset_aa _ _ _ _, fun p hp => fin _ _ _ (h3 p hp), fun p a b => fin _ _ _ (h4 p a b)⟩
  unfold f_X9_leaveOut
  rw [nI_1, lt_d, jn_d]
  refine h1.trans ?_
  rw [lt_d, w60, nI_s1 (by omega), lt_d]
/-- from the last to the first -/
theorem c_outL (hN : N ≤ 4) (hn : n ≤ 24) (b : Nat → Bool) (hb : b = ub N n (fun k => A (64, 192, k))) : ∀ (i fu : Nat) (M : gM), i ≤ n → i < fu → cf cCd A M → M (60, 192, 0) 3 = nI (i + cntF b i (n - i)) → (∀ j, j < i → s3 N M j A j) → (∀ j, i ≤ j → j < n → b j = true → s3 N M (i + cntF b i (j - i)) A j) → ∃ M', f_X9_leaveOutLesser_L7 N 192 fu (nI i - 1) M = some M' ∧ cf cCd A M' ∧ M' (60, 192, 0) 3 = nI (cntF b 0 n) ∧ ∀ j, j < n → b j = true → s3 N M' (cntF b 0 j) A j := by
  have tr3 : ∀ {P Q R : gM} {a b c : Nat}, s3 N P a Q b → s3 N Q b R c → s3 N P a R c := fun h h' => ⟨h.1.trans h'.1, h.2.1.trans h'.2.1, fun q hq => (h.2.2 q hq).trans (h'.2.2 q hq)⟩
  intro i
  induction i with
  | zero =>
    intro fu M _ hf fc hl _ h2
    obtain ⟨fu, rfl⟩ : ∃ q, fu = q + 1 := ⟨fu - 1, by omega⟩
    refine ⟨M, ?_, fc, by rw [hl, Nat.sub_zero, Nat.zero_add], fun j hj hb => ?_⟩
    · simp only [f_X9_leaveOutLesser_L7]
      rw [if_pos (by decide)]
    · have := h2 j (by omega) hj hb
      rw [show 0 + cntF b 0 (j - 0) = cntF b 0 j by rw [Nat.sub_zero, Nat.zero_add]] at this
      exact this
  | succ i ih =>
    intro fu M hin hf fc hl h1 h2
    obtain ⟨fu, rfl⟩ : ∃ q, fu = q + 1 := ⟨fu - 1, by omega⟩
    have hcn : cntF b (i + 1) (n - (i + 1)) ≤ n - (i + 1) := cntF_le _ _
    have hs : nI (i + 1) - 1 = nI i := by rw [nI_s1 (by omega)]; rfl
    have hs' : nI i + (-1 : Int32) = nI i - 1 := by rw [Int32.sub_eq_add_neg]
    obtain ⟨cnt, hcnt⟩ : ∃ q, q = i + 1 + cntF b (i + 1) (n - (i + 1)) := ⟨_, rfl⟩
    rw [← hcnt] at hl
    have hi3 := h1 i (by omega)
    -- what stands at a place
    have place : ∀ p, p < cnt → ∃ j, j < n ∧ (j ≤ i ∨ b j = true) ∧ s3 N M p A j := fun p hp => by
      by_cases e : p < i + 1
      · exact ⟨p, by omega, Or.inl (by omega), h1 p e⟩
      · obtain ⟨j, a, c, d, e'⟩ := cntF_sur (p := b) (n - (i + 1)) (i + 1) (p - (i + 1)) (by omega)
        have := h2 j a (by omega) d
        rw [e', show i + 1 + (p - (i + 1)) = p by omega] at this
        exact ⟨j, by omega, Or.inr d, this⟩
    have les : (!aF (fun j => !bts N (fun k => M (64, 192, k)) i j) 0 cnt) = !b i := by
      have row : ∀ p j, s3 N M p A j → bts N (fun k => M (64, 192, k)) i p = bts N (fun k => A (64, 192, k)) i j := fun p j h => by
        unfold bts
        rw [rLe_congr hi3.2.2 h.2.2, rEq_congr hi3.2.2 h.2.2]
      congr 1
      cases hbi : b i with
      | true =>
        refine aF_t (fun p _ hp => ?_)
        obtain ⟨j, hj, -, h3⟩ := place p (by omega)
        rw [row p j h3]
        rw [hb] at hbi
        exact (aF_iff n 0).mp hbi j (by omega) (by omega)
      | false =>
        rw [hb] at hbi
        obtain ⟨j, hj, hij, hju⟩ := bts_top _ i (Nat.le_refl _) hbi
        rw [← hb] at hju
        have hp : ∃ p, p < cnt ∧ s3 N M p A j := by
          by_cases e : j < i + 1
          · exact ⟨j, by omega, h1 j e⟩
          · refine ⟨i + 1 + cntF b (i + 1) (j - (i + 1)), ?_, h2 j (by omega) hj hju⟩
            have k1 := cntF_snoc (p := b) (j - (i + 1)) (i + 1)
            rw [show i + 1 + (j - (i + 1)) = j by omega, if_pos hju] at k1
            have k2 : cntF b (i + 1) (n - (i + 1)) = cntF b (i + 1) (j - (i + 1) + 1) + cntF b (i + 1 + (j - (i + 1) + 1)) (n - (i + 1) - (j - (i + 1) + 1)) := by
              have := cntF_app (p := b) (j - (i + 1) + 1) (n - (i + 1) - (j - (i + 1) + 1)) (i + 1)
              rw [show j - (i + 1) + 1 + (n - (i + 1) - (j - (i + 1) + 1)) = n - (i + 1) by omega] at this
              exact this
            omega
        obtain ⟨p, hp, h3⟩ := hp
        cases e : aF (fun j => !bts N (fun k => M (64, 192, k)) i j) 0 cnt with
        | false => rfl
        | true =>
          have := (aF_iff cnt 0).mp e p (by omega) (by omega)
          rw [row p j h3, hij] at this
          exact absurd this (by decide)
    have hstep : f_X9_leaveOutLesser_L7 N 192 (fu + 1) (nI (i + 1) - 1) M = (if zb (!b i) = 0 then f_X9_leaveOutLesser_L7 N 192 fu (nI i - 1) M else o1 (f_X9_leaveOut N M 192 (nI i)) (fun M13 => f_X9_leaveOutLesser_L7 N 192 fu (nI i - 1) M13)) := by
      simp only [f_X9_leaveOutLesser_L7, lt_d, jn_d]
      rw [hs, if_neg (nI_pos (by omega)), c_isLesser hN hl (by omega) (by omega), o1_s, les, hs']
    rw [hstep]
    have hci : cntF b i (n - i) = (if b i then 1 else 0) + cntF b (i + 1) (n - (i + 1)) := by
      rw [show n - i = (n - (i + 1)) + 1 by omega, cntF_s]
    have hcj : ∀ j, i + 1 ≤ j → cntF b i (j - i) = (if b i then 1 else 0) + cntF b (i + 1) (j - (i + 1)) := fun j hj => by
      rw [show j - i = (j - (i + 1)) + 1 by omega, cntF_s]
    cases hbi : b i with
    | true =>
      rw [hbi, if_pos rfl] at hci
      rw [show zb (!true) = 0 from rfl, if_pos rfl]
      refine ih fu M (by omega) (by omega) fc (by rw [hl]; congr 1; omega) (fun j hj => h1 j (by omega)) (fun j a c d => ?_)
      by_cases e : j = i
      · subst e
        rw [show j - j = 0 by omega]
        exact hi3
      · have := hcj j (by omega)
        rw [hbi, if_pos rfl] at this
        rw [this, show i + (1 + cntF b (i + 1) (j - (i + 1))) = i + 1 + cntF b (i + 1) (j - (i + 1)) by omega]
        exact h2 j (by omega) c d
    | false =>
      rw [hbi, if_neg (by decide)] at hci
      rw [show zb (!false) = 1 from rfl, if_neg (by decide)]
      obtain ⟨M', q1, q2, q3, q4, q5⟩ := c_leaveOut (i := i) hN hl (by omega) (by omega)
      rw [q1, o1_s]
      refine ih fu M' (by omega) (by omega) (fc.tr q2) (by rw [q3]; congr 1; omega) (fun j hj => tr3 (q4 j hj) (h1 j (by omega))) (fun j a c d => ?_)
      have e : j ≠ i := fun e => by rw [e, hbi] at d; exact absurd d (by decide)
      have := hcj j (by omega)
      rw [hbi, if_neg (by decide)] at this
      rw [this]
      have h6 := h2 j (by omega) c d
      have k1 := cntF_snoc (p := b) (j - (i + 1)) (i + 1)
      rw [show i + 1 + (j - (i + 1)) = j by omega, if_pos d] at k1
      have k2 : cntF b (i + 1) (n - (i + 1)) = cntF b (i + 1) (j - (i + 1) + 1) + cntF b (i + 1 + (j - (i + 1) + 1)) (n - (i + 1) - (j - (i + 1) + 1)) := by
        have := cntF_app (p := b) (j - (i + 1) + 1) (n - (i + 1) - (j - (i + 1) + 1)) (i + 1)
        rw [show j - (i + 1) + 1 + (n - (i + 1) - (j - (i + 1) + 1)) = n - (i + 1) by omega] at this
        exact this
      have := q5 (i + (0 + cntF b (i + 1) (j - (i + 1)))) (by omega) (by omega)
      rw [show i + (0 + cntF b (i + 1) (j - (i + 1))) + 1 = i + 1 + cntF b (i + 1) (j - (i + 1)) by omega] at this
      exact tr3 this h6
/-- the reference: who is beaten -/
theorem r_beat1 {J J2 : gM → Option gM} (hN : N ≤ 4) (h1 : M m_o 1 = nI (N + 4)) (hl : M m_o 61 = nI n) (hn : n ≤ 24) (hi : i < 24) : f_X11_gather_L170 (nI i) J J2 100 (0 : Int32) (gset M m_beaten i 0) = J (gset M m_beaten i (zb (!ub N n (fun k q => M m_candidateVector (8 * k + q)) i))) := by
  have H : ∀ m k fu (c : Bool), k + m = n → m < fu → f_X11_gather_L170 (nI i) J J2 fu (nI k) (gset M m_beaten i (zb c)) = J (gset M m_beaten i (zb (c || !aF (fun j => !bts N (fun k q => M m_candidateVector (8 * k + q)) i j) k m))) := by
    intro m
    induction m with
    | zero =>
      intro k fu c hk hf
      obtain ⟨fu, rfl⟩ : ∃ q, fu = q + 1 := ⟨fu - 1, by omega⟩
      simp only [f_X11_gather_L170, lt_d]
      rw [gset_o (by simp), hl, if_pos (nI_le (by omega) (by omega)), show aF (fun j => !bts N (fun k q => M m_candidateVector (8 * k + q)) i j) k 0 = true from rfl, Bool.not_true, Bool.or_false]
    | succ m ih =>
      intro k fu c hk hf
      obtain ⟨fu, rfl⟩ : ∃ q, fu = q + 1 := ⟨fu - 1, by omega⟩
      have h1' : gset M m_beaten i (zb c) m_o 1 = nI (N + 4) := by rw [gset_o (by simp)]; exact h1
      have ev : (fun q => gset M m_beaten i (zb c) m_candidateVector (8 * i + q)) = fun q => M m_candidateVector (8 * i + q) := by funext q; exact gset_o (by simp)
      have ev' : (fun q => gset M m_beaten i (zb c) m_candidateVector (8 * k + q)) = fun q => M m_candidateVector (8 * k + q) := by funext q; exact gset_o (by simp)
      have ih0 := ih (k + 1) fu false (by omega) (by omega)
      have ih1 := ih (k + 1) fu true (by omega) (by omega)
      rw [zb_f] at ih0
      rw [zb_t] at ih1
      simp only [f_X11_gather_L170, lt_d, jn_d]
      rw [gset_o (j := m_o) (by simp), hl, if_neg (nI_ge (by omega) (by omega)), rd_n hi (by omega), gset_aa, aF_s, nI_1]
      cases c with
      | true =>
        rw [zb_t, if_neg (by decide), wz_n hi (by omega) (Or.inr rfl), gset_tw, ih1]
        simp
      | false =>
        rw [zb_f, if_pos rfl, ← zb_f, r_isSame h1' (by omega) (by show _ ≤ 192; omega) (by show _ ≤ 192; omega) (by decide) (by decide), o1_s, r_isAtMost h1' (by omega) (by show _ ≤ 192; omega) (by show _ ≤ 192; omega) (by decide) (by decide), o1_s, ev, ev', zb_f, wz_n hi (by omega) (Or.inl rfl), wz_n hi (by omega) (Or.inr rfl), gset_tw, gset_tw, ih0, ih1]
        unfold bts
        cases rEq (fun q => M m_candidateVector (8 * i + q)) (fun q => M m_candidateVector (8 * k + q)) 0 (N + 4) with
        | true => rw [zb_t, if_neg (by decide)]; simp
        | false =>
          rw [zb_f, if_pos rfl]
          cases rLe (fun q => M m_candidateVector (8 * i + q)) (fun q => M m_candidateVector (8 * k + q)) 0 (N + 4) with
          | true => rw [zb_t, if_neg (by decide)]; simp
          | false => rw [zb_f, if_pos rfl]; simp
  have := H n 0 100 false (by omega) (by omega)
  rw [zb_f, Bool.false_or] at this
  exact this
theorem r_beat {J : gM → Option gM} (hN : N ≤ 4) (h1 : E m_o 1 = nI (N + 4)) (hl : E m_o 61 = nI n) (hn : n ≤ 24) : ∃ M', f_X11_gather_L153 J 100 (0 : Int32) E = J M' ∧ cf (fun j q => j.1 = 66) E M' ∧ ∀ i, i < n → M' m_beaten i = zb (!ub N n (fun k q => E m_candidateVector (8 * k + q)) i) := by
  obtain ⟨M', q1, q2, q3⟩ := loopP (fun u k M => f_X11_gather_L153 J u (nI k) M) n J (fun k M => cf (fun j q => j.1 = 66) E M ∧ ∀ i, i < k → M m_beaten i = zb (!ub N n (fun k q => E m_candidateVector (8 * k + q)) i)) (by omega) (fun u k M hk ⟨fc, p⟩ => by
    have ev : (fun k q => M m_candidateVector (8 * k + q)) = fun k q => E m_candidateVector (8 * k + q) := by funext k q; exact fc _ _ (by simp)
    refine ⟨gset M m_beaten k (zb (!ub N n (fun k q => E m_candidateVector (8 * k + q)) k)), ?_, fc.tr (cf.st rfl), fun i hi => ?_⟩
    · simp only [f_X11_gather_L153, lt_d, jn_d]
      rw [fc _ _ (by simp), hl, if_neg (nI_ge hk (by omega)), wz_n (by omega) (by omega) (Or.inl rfl), nI_1, r_beat1 hN (by rw [fc _ _ (by simp)]; exact h1) (by rw [fc _ _ (by simp)]; exact hl) hn (by omega), ev]
    · by_cases e : i = k
      · subst e; rw [gset_aa]
      · rw [gset_o (by simp [e])]; exact p i (by omega)) (fun u M ⟨fc, p⟩ => by
    simp only [f_X11_gather_L153, lt_d]
    rw [fc _ _ (by simp), hl, if_pos (nI_le (by omega) (by omega))]) (st := E) ⟨cf.rf _ _, fun i hi => by omega⟩
  exact ⟨M', q1, q2, q3⟩
theorem r_squeeze {J : Int32 × gM → Option gM} {E : gM} (hN : N ≤ 4) (hl : E m_o 61 = nI n) (hn : n ≤ 24) (b : Nat → Bool) (hb : ∀ i, i < n → E m_beaten i = zb (!b i)) : ∃ M', f_X11_gather_L248 J 100 (0 : Int32) (0 : Int32) E = J (nI (cntF b 0 n), M') ∧ cf (fun j q => 63 ≤ j.1 ∧ j.1 ≤ 65) E M' ∧ ∀ j, j < n → b j = true → t3 N M' (cntF b 0 j) E j := by
  have H : ∀ m k fu M, k + m = n → m < fu → cf (fun j q => 63 ≤ j.1 ∧ j.1 ≤ 65) E M → (∀ j, j < k → b j = true → M m_candidateValue (cntF b 0 j) = E m_candidateValue j ∧ M m_candidateSize (cntF b 0 j) = E m_candidateSize j ∧ ∀ q, q < 8 → M m_candidateVector (8 * cntF b 0 j + q) = E m_candidateVector (8 * j + q)) → (∀ j, k ≤ j → M m_candidateValue j = E m_candidateValue j ∧ M m_candidateSize j = E m_candidateSize j ∧ ∀ q, q < 8 → M m_candidateVector (8 * j + q) = E m_candidateVector (8 * j + q)) → ∃ M', f_X11_gather_L248 J fu (nI (cntF b 0 k)) (nI k) M = J (nI (cntF b 0 n), M') ∧ cf (fun j q => 63 ≤ j.1 ∧ j.1 ≤ 65) E M' ∧ ∀ j, j < n → b j = true → M' m_candidateValue (cntF b 0 j) = E m_candidateValue j ∧ M' m_candidateSize (cntF b 0 j) = E m_candidateSize j ∧ ∀ q, q < 8 → M' m_candidateVector (8 * cntF b 0 j + q) = E m_candidateVector (8 * j + q) := by
    intro m
    induction m with
    | zero =>
      intro k fu M hk hf fc p1 p2
      obtain ⟨fu, rfl⟩ : ∃ q, fu = q + 1 := ⟨fu - 1, by omega⟩
      have : k = n := by omega
      subst this
      refine ⟨M, ?_, fc, p1⟩
      simp only [f_X11_gather_L248, lt_d]
      rw [fc _ _ (by dsimp only; omega), hl, if_pos (nI_le (by omega) (by omega))]
    | succ m ih =>
      intro k fu M hk hf fc p1 p2
      obtain ⟨fu, rfl⟩ : ∃ q, fu = q + 1 := ⟨fu - 1, by omega⟩
      have hck := cntF_le (p := b) k 0
      have hsn := cntF_snoc (p := b) k 0
      rw [Nat.zero_add] at hsn
      have w61 : M m_o 61 = nI n := by rw [fc _ _ (by dsimp only; omega)]; exact hl
      have wb : M m_beaten k = zb (!b k) := by rw [fc _ _ (by dsimp only; omega)]; exact hb k (by omega)
      cases hbk : b k with
      | false =>
        rw [hbk] at wb hsn
        rw [if_neg (by decide)] at hsn
        have hsn' : cntF b 0 (k + 1) = cntF b 0 k := by omega
        obtain ⟨M', q1, q2⟩ := ih (k + 1) fu M (by omega) (by omega) fc (fun j hj hbj => p1 j (by
          have : j ≠ k := fun e => by rw [e, hbk] at hbj; exact absurd hbj (by decide)
          omega) hbj) (fun j hj => p2 j (by omega))
        refine ⟨M', ?_, q2⟩
        simp only [f_X11_gather_L248, lt_d, jn_d]
        rw [w61, if_neg (nI_ge (by omega) (by omega)), rd_n (by omega) (by omega), wb, show zb (!false) = 1 from rfl, if_neg (by decide), nI_1, ← hsn']
        exact q1
      | true =>
        rw [hbk] at wb hsn
        rw [if_pos rfl] at hsn
        obtain ⟨p, hp⟩ : ∃ p, p = cntF b 0 k := ⟨_, rfl⟩
        rw [← hp] at hsn hck ⊢
        obtain ⟨M1, hM1⟩ : ∃ X, X = gset (gset M m_candidateValue p (M m_candidateValue k)) m_candidateSize p (M m_candidateSize k) := ⟨_, rfl⟩
        obtain ⟨M2, hM2⟩ : ∃ X, X = gpu M1 m_candidateVector (8 * p) 8 (fun q => M1 m_candidateVector (8 * k + q)) := ⟨_, rfl⟩
        have f1 : cf (fun j q => (j.1 = 63 ∨ j.1 = 64) ∧ q = p) M M1 := by rw [hM1]; exact (cf.st ⟨Or.inl rfl, rfl⟩).tr (cf.st ⟨Or.inr rfl, rfl⟩)
        have f2 : cf (fun j q => j.1 = 65 ∧ 8 * p ≤ q ∧ q < 8 * p + 8) M1 M2 := by rw [hM2]; exact cf.pu (fun q a b => ⟨rfl, a, by omega⟩)
        obtain ⟨z1, z2, z3⟩ := p2 k (Nat.le_refl _)
        have oth : ∀ r, r ≠ p → M2 m_candidateValue r = M m_candidateValue r ∧ M2 m_candidateSize r = M m_candidateSize r ∧ ∀ q, q < 8 → M2 m_candidateVector (8 * r + q) = M m_candidateVector (8 * r + q) := fun r hr => ⟨by rw [f2 _ _ (by simp), f1 _ _ (by simp [hr])], by rw [f2 _ _ (by simp), f1 _ _ (by simp [hr])], fun q hq => by rw [f2 _ _ (by dsimp only; omega), f1 _ _ (by simp)]⟩
        obtain ⟨M', q1, q2⟩ := ih (k + 1) fu M2 (by omega) (by omega) ((fc.tr (f1.mo (fun j q h => by omega))).tr (f2.mo (fun j q h => by omega))) (fun j hj hbj => by
          by_cases e : j = k
          · subst e
            rw [← hp]
            exact ⟨by rw [f2 _ _ (by simp), hM1, gset_o (by simp), gset_aa]; exact z1, by rw [f2 _ _ (by simp), hM1, gset_aa]; exact z2, fun q hq => by rw [hM2, gpu_r, if_pos ⟨rfl, by omega, by omega⟩, f1 _ _ (by simp), show 8 * j + (8 * p + q - 8 * p) = 8 * j + q by omega]; exact z3 q hq⟩
          · have hlt : cntF b 0 j < p := by
              have k1 := cntF_snoc (p := b) j 0
              rw [Nat.zero_add, if_pos hbj] at k1
              have k2 := cntF_app (p := b) (j + 1) (k - (j + 1)) 0
              rw [show j + 1 + (k - (j + 1)) = k by omega] at k2
              omega
            obtain ⟨o1', o2', o3'⟩ := oth (cntF b 0 j) (by omega)
            obtain ⟨y1, y2, y3⟩ := p1 j (by omega) hbj
            exact ⟨o1'.trans y1, o2'.trans y2, fun q hq => (o3' q hq).trans (y3 q hq)⟩) (fun j hj => by
          obtain ⟨o1', o2', o3'⟩ := oth j (by omega)
          obtain ⟨y1, y2, y3⟩ := p2 j (by omega)
          exact ⟨o1'.trans y1, o2'.trans y2, fun q hq => (o3' q hq).trans (y3 q hq)⟩)
        refine ⟨M', ?_, q2⟩
        simp only [f_X11_gather_L248, lt_d, jn_d]
        rw [w61, if_neg (nI_ge (by omega) (by omega)), rd_n (by omega) (by omega), wb, show zb (!true) = 0 from rfl, if_pos rfl, rd_n (by omega) (by omega), wr_n (by omega) (by omega), rd_n (by omega) (by omega), wr_n (by omega) (by omega), gset_o (j := m_candidateSize) (by simp), ← hM1, r_copyTo (by show _ ≤ 192; omega) (by show _ ≤ 192; omega) (by decide) (by decide), o1_s, ← hM2, nI_1, nI_1, ← hsn]
        exact q1
  obtain ⟨M', q1, q2, q3⟩ := H n 0 100 E (by omega) (by omega) (cf.rf _ _) (fun j hj => by omega) (fun j _ => ⟨rfl, rfl, fun _ _ => rfl⟩)
  exact ⟨M', q1, q2, fun j hj hb => ⟨(q3 j hj hb).1, (q3 j hj hb).2.1, fun q hq => (q3 j hj hb).2.2 q (by omega)⟩⟩
/-- the candidates, both in step -/
theorem gather_all (hN : N ≤ 4) (hy : y < 48) (hS : ∀ s, s < N → rSv N s y Mc Mr) (I : ∀ s, s < N → iVr s y Mc ∧ (Mc (51, s, 0) y = 0 ∨ Mc (51, s, 0) y = 1)) (n0 : Mr m_o 0 = nI N) (n1 : Mr m_o 1 = nI (N + 4)) (h53 : Mr m_o 53 = G) (hG : Mc (13, 0, 0) 6 = G) (hd : Mr m_isDirectory y = 0) : ∃ n Mc' Mr', f_X4_gatherCandidates N Mc (nI y) = some Mc' ∧ f_X11_gather Mr (nI y) = some Mr' ∧ Cd N n Mc' Mr' ∧ ((∃ s, s < N ∧ bt G s = true ∧ Mc (51, s, 0) y = 1) → 1 ≤ n) ∧ cf cCd Mc Mc' ∧ cf rCd Mr Mr' := by
  obtain ⟨A, hA⟩ : ∃ X, X = gset Mc (60, 192, 0) 3 0 := ⟨_, rfl⟩
  obtain ⟨E, hE⟩ : ∃ X, X = gset Mr m_o 61 0 := ⟨_, rfl⟩
  have fA : cf (fun j q => j = (60, 192, 0)) Mc A := by rw [hA]; exact cf.st rfl
  have fE : cf (fun j q => j.1 = 0 ∧ q = 61) Mr E := by rw [hE]; exact cf.st ⟨rfl, rfl⟩
  have hSA : ∀ s, s < N → rSv N s y A E := fun s hs => by
    refine (hS s hs).fr hN fA fE ?_ ?_
    · rintro j q h rfl; revert h; unfold kSv; dsimp only; omega
    · rintro j q h ⟨h1, h2⟩; revert h; unfold lSv; omega
  have cHoA : cHo N A G y = cHo N Mc G y := sN_congr _ _ _ (fun s _ _ => by rw [fA _ _ (by simp)])
  obtain ⟨n, Mc1, Mr1, q1, q2, C, hh, fc, fr⟩ := gath_step (A := A) (E := E) (G := G) (J := fun M6 => o1 (f_X9_leaveOutLesser N M6 192) (fun M8 => some M8)) (J' := fun M2 => f_X11_gather_L153 (fun M3 => f_X11_gather_L248 (fun q => lt (gset q.2 m_o 61 q.1) (fun M6 => some M6)) 100 (0 : Int32) (0 : Int32) M3) 100 (0 : Int32) M2) hN hy hSA (fun s hs => ⟨(I s hs).1.fr fA (by
      rintro j q h rfl; revert h; unfold eVr; dsimp only; omega), by rw [fA _ _ (by simp)]; exact (I s hs).2⟩) (by rw [fE _ _ (by simp)]; exact n0) (by rw [fE _ _ (by simp)]; exact n1) (by rw [fE _ _ (by simp)]; exact h53) (by rw [fE _ _ (by simp)]; exact hd) ⟨by omega, by rw [hA, gset_aa]; rfl, by rw [hE, gset_aa]; rfl, fun i hi => by omega⟩
  obtain ⟨c1, c2, c3, c4⟩ := id C
  have n1' : Mr1 m_o 1 = nI (N + 4) := by rw [fr _ _ (by unfold rCd; dsimp only; omega), fE _ _ (by simp)]; exact n1
  obtain ⟨b, hb⟩ : ∃ b, b = ub N n (fun k => Mc1 (64, 192, k)) := ⟨_, rfl⟩
  have hb' : ∀ i, i < n → ub N n (fun k q => Mr1 m_candidateVector (8 * k + q)) i = b i := fun i hi => by
    rw [hb]
    unfold ub
    refine aF_congr _ _ (fun j _ hj => ?_)
    rw [bts_congr (h := fun k => Mc1 (64, 192, k)) (fun q hq => ((c4 i hi).2.2.1 q hq).symm) (fun q hq => ((c4 j (by omega)).2.2.1 q hq).symm)]
  obtain ⟨Mc2, p1, p2, p3, p4⟩ := c_outL (A := Mc1) (n := n) hN c1 b hb n 100 Mc1 (Nat.le_refl _) (by omega) (cf.rf _ _) (by rw [c2, Nat.sub_self]; rfl) (fun j hj => ⟨rfl, rfl, fun _ _ => rfl⟩) (fun j a c => by omega)
  obtain ⟨Mr2, r1, r2, r3⟩ := r_beat (J := fun M3 => f_X11_gather_L248 (fun q => lt (gset q.2 m_o 61 q.1) (fun M6 => some M6)) 100 (0 : Int32) (0 : Int32) M3) hN n1' c3 c1
  obtain ⟨Mr3, u1, u2, u3⟩ := r_squeeze (J := fun q => lt (gset q.2 m_o 61 q.1) (fun M6 => some M6)) (E := Mr2) hN (by rw [r2 _ _ (by simp)]; exact c3) c1 b (fun i hi => by rw [r3 i hi, hb' i hi])
  have hcn := cntF_le (p := b) n 0
  refine ⟨cntF b 0 n, Mc2, gset Mr3 m_o 61 (nI (cntF b 0 n)), ?_, ?_, ⟨by omega, p3, gset_aa _ _ _ _, fun i hi => ?_⟩, fun h => ?_, ?_, ?_⟩
  · unfold f_X4_gatherCandidates f_X9_clear
    rw [lt_d, o1_s, ← hA, lt_d, fA _ _ (by simp), hG, c_holders hN hy, o1_s, jn_d]
    refine q1.trans ?_
    unfold f_X9_leaveOutLesser
    rw [lt_d, c2, lt_d, p1, o1_s]
  · unfold f_X11_gather
    rw [lt_d, ← hE]
    simp only [jn_d]
    refine q2.trans ?_
    refine r1.trans ?_
    exact u1
  · obtain ⟨j, -, hj, hbj, hji⟩ := cntF_sur (p := b) n 0 i hi
    rw [Nat.sub_zero] at hji
    obtain ⟨w1, w2, w3⟩ := p4 j (by omega) hbj
    obtain ⟨x1, x2, x3⟩ := u3 j (by omega) hbj
    obtain ⟨y1, y2, y3, y4⟩ := c4 j (by omega)
    rw [hji] at w1 w2 w3 x1 x2 x3
    refine ⟨?_, ?_, fun k hk => ?_, ?_⟩
    · rw [w1, y1, gset_o (by simp), x1, r2 _ _ (by simp)]
    · rw [w2, y2, gset_o (by simp), x2, r2 _ _ (by simp)]
    · rw [w3 k hk, y3 k hk, gset_o (by simp), x3 k hk, r2 _ _ (by simp)]
    · rw [w2]; exact y4
  · have hn1 : 1 ≤ n := hh (by
      obtain ⟨s, a1, a2, a3⟩ := h
      exact ⟨s, a1, a2, by rw [fA _ _ (by simp)]; exact a3⟩)
    have : ∃ j, j < n ∧ b j = true := by
      cases e : b 0 with
      | true => exact ⟨0, by omega, e⟩
      | false =>
        rw [hb] at e
        obtain ⟨j, hj, -, hu⟩ := bts_top _ 0 (Nat.le_refl _) e
        exact ⟨j, hj, by rw [hb]; exact hu⟩
    obtain ⟨j, hj, hu⟩ := this
    rcases Nat.eq_zero_or_pos (cntF b 0 n) with z | z
    · rw [(cntF_z n 0).mp z j (by omega) (by omega)] at hu
      exact absurd hu (by decide)
    · exact z
  · exact ((fA.mo (fun j q h => by rw [h]; unfold cCd; dsimp only; omega)).tr fc).tr p2
  · exact ((((fE.mo (fun j q h => by unfold rCd; omega)).tr fr).tr (r2.mo (fun j q h => by unfold rCd; omega))).tr (u2.mo (fun j q h => by unfold rCd; omega))).tr (cf.st (by unfold rCd; dsimp only; omega))
end ZD
