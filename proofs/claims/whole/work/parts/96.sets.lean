/-! layer 2: the set of a call, how many it has; a file's value at servers -/
theorem cntF_s {p : Nat → Bool} (k m : Nat) : cntF p k (m + 1) = (if p k then 1 else 0) + cntF p (k + 1) m := by
  rfl
theorem bc_4 : ∀ a b c d : Bool, f_J6_bitCount_0f7a4 0 gM0 (sN (fun s => match s with | 0 => a | 1 => b | 2 => c | _ => d) 0 4 0) = some (nI ((if a then 1 else 0) + ((if b then 1 else 0) + ((if c then 1 else 0) + ((if d then 1 else 0) + 0))))) := by decide +kernel
theorem bm_4 : ∀ a b c d : Bool, f_X11_manyOf gM0 (sN (fun s => match s with | 0 => a | 1 => b | 2 => c | _ => d) 0 4 0) = some (nI ((if a then 1 else 0) + ((if b then 1 else 0) + ((if c then 1 else 0) + ((if d then 1 else 0) + 0))))) := by decide +kernel
theorem sS_4 {f : Nat → Bool} {N : Nat} (hN : N ≤ 4) : sS f N = sN (fun s => match s with | 0 => decide (0 < N) && f 0 | 1 => decide (1 < N) && f 1 | 2 => decide (2 < N) && f 2 | _ => decide (3 < N) && f 3) 0 4 0 := by
  have e : sS f N = sS (fun s => decide (s < N) && f s) 4 := b_ext fun i hi => by
    rw [bt_sS (by omega) hi, bt_sS (by omega) hi]
    by_cases h : i < N
    · rw [decide_eq_true h, decide_eq_true (show i < 4 by omega)]; rfl
    · rw [decide_eq_false h]; simp
  rw [e]
  rfl
theorem cnt_4 {f : Nat → Bool} {N : Nat} (hN : N ≤ 4) : cntF f 0 N = (if (decide (0 < N) && f 0) then 1 else 0) + ((if (decide (1 < N) && f 1) then 1 else 0) + ((if (decide (2 < N) && f 2) then 1 else 0) + ((if (decide (3 < N) && f 3) then 1 else 0) + 0))) := by
  rcases (show N = 0 ∨ N = 1 ∨ N = 2 ∨ N = 3 ∨ N = 4 by omega) with rfl | rfl | rfl | rfl | rfl <;> simp [cntF_s, cntF]
theorem c_bits {f : Nat → Bool} {N Q : Nat} {M : gM} (hN : N ≤ 4) : f_J6_bitCount_0f7a4 Q M (sS f N) = some (nI (cntF f 0 N)) := by
  rw [sS_4 hN, cnt_4 hN]
  exact bc_4 _ _ _ _
theorem r_many {f : Nat → Bool} {N : Nat} {M : gM} (hN : N ≤ 4) : f_X11_manyOf M (sS f N) = some (nI (cntF f 0 N)) := by
  rw [sS_4 hN, cnt_4 hN]
  exact bm_4 _ _ _ _
section SE
variable {N g s o c d : Nat} {M M' Mc Mr Mc' Mr' : gM} {v w : Int32}
/-- those of v with a copy of this vector, not in conflict -/
def hSet (N : Nat) (M : gM) (v : Int32) (o : Nat) (row : gI) : Int32 := sS (fun s => ((bt v s && nz (M (51, s, 0) o)) && rEq (M (55, s, o)) (M row) 0 (N + 4)) && !nz (M (60, 48 * s + o, 0) 3)) N
theorem r_setOf {row : gI} (h0 : M m_o 0 = nI N) (h1 : M m_o 1 = nI (N + 4)) (hN : N ≤ 4) (ho : o < 48) (hw : 8 ≤ mN row) (m1 : mN row ≤ 16384) : f_X11_setOf M v (nI o) row = some (sS (fun s => bt v s && (nz (M m_has (48 * s + o)) && (!nz (M m_versions (48 * s + o)) && rEq (fun k => M m_vector (8 * (48 * s + o) + k)) (fun k => M row k) 0 (N + 4)))) N) := by
  have H : ∀ m k fu x, k + m = N → m < fu → f_X11_setOf_L6 M v (nI o) row fu x (nI k) = some (sN (fun s => bt v s && (nz (M m_has (48 * s + o)) && (!nz (M m_versions (48 * s + o)) && rEq (fun k => M m_vector (8 * (48 * s + o) + k)) (fun k => M row k) 0 (N + 4)))) k m x) := by
    intro m
    induction m with
    | zero =>
      intro k fu x hk hf
      obtain ⟨fu, rfl⟩ : ∃ q, fu = q + 1 := ⟨fu - 1, by omega⟩
      simp only [f_X11_setOf_L6, lt_d, h0]
      rw [if_pos (nI_le (by omega) (by omega))]
      rfl
    | succ m ih =>
      intro k fu x hk hf
      obtain ⟨fu, rfl⟩ : ∃ q, fu = q + 1 := ⟨fu - 1, by omega⟩
      simp only [f_X11_setOf_L6, lt_d, jn_d, h0, nI_m48, nI_add]
      rw [if_neg (nI_ge (by omega) (by omega))]
      by_cases hb : bt v k = true
      · rw [if_pos (by rw [bt_1 (by omega)]; exact hb), rd_n (by omega) (by omega)]
        by_cases hh : M m_has (48 * k + o) = 0
        · rw [if_pos hh, if_true, nI_1, ih (k + 1) fu x (by omega) (by omega), sN_f (by rw [hh]; simp [nz])]
        · rw [if_neg hh, rd_n (by omega) (by omega)]
          by_cases hv : M m_versions (48 * k + o) = 0
          · rw [if_pos hv, show f_X11_isSame M m_vector (nI (48 * k + o)) row 0 = _ from r_isSame (j := 0) h1 (by omega) (by show _ ≤ 1536; omega) (by omega) (by decide) m1, o1_s]
            cases hq : rEq (fun q => M m_vector (8 * (48 * k + o) + q)) (fun q => M row (8 * 0 + q)) 0 (N + 4)
            · rw [zb_f, if_pos rfl, if_true, nI_1, ih (k + 1) fu x (by omega) (by omega), sN_f (by simp only [Nat.mul_zero, Nat.zero_add] at hq; rw [hq]; simp)]
            · rw [zb_t, if_neg (by decide), if_neg (by decide), nI_1, ih (k + 1) fu _ (by omega) (by omega), sN_t (by simp only [Nat.mul_zero, Nat.zero_add] at hq; rw [hq, hb]; simp [nz, hh, hv])]
              rfl
          · rw [if_neg hv, if_true, nI_1, ih (k + 1) fu x (by omega) (by omega), sN_f (by simp [nz, hv])]
      · rw [if_neg (by rw [bt_1 (by omega)]; exact hb), if_true, nI_1, ih (k + 1) fu x (by omega) (by omega), sN_f (by rw [Bool.not_eq_true] at hb; rw [hb]; rfl)]
  exact H N 0 100 0 (by omega) (by omega)
theorem set_eq {row row' : gI} (hN : N ≤ 4) (ho : o < 48) (R : Rel N g Mc Mr) (I : Inv N g Mc) (hr : cN N row = N + 4) (hw : 8 ≤ mN row') (m1 : mN row' ≤ 16384) (hv : ∀ k, k < N + 4 → Mr row' k = Mc row k) : f_X6_holdersOf N Mc v (nI o) row = some (hSet N Mc v o row) ∧ f_X11_setOf Mr v (nI o) row' = some (hSet N Mc v o row) := by
  constructor
  · exact c_holdersOf hN ho hr (fun s hs => by obtain ⟨-, n, h1, h2, -⟩ := I.2.2.2.1 s hs o ho; exact ⟨n, h1, h2⟩)
  · rw [r_setOf R.n0 R.n1 hN ho hw m1]
    refine congrArg some (sN_congr _ _ _ (fun s _ hs => ?_))
    have h := R.sv (show s < N by omega) ho
    rw [h.a.1, h.dd.1]
    by_cases hh : Mr m_has (48 * s + o) = 0
    · rw [hh]; simp [nz]
    · have e : rEq (fun k => Mr m_vector (8 * (48 * s + o) + k)) (fun k => Mr row' k) 0 (N + 4) = rEq (Mc (55, s, o)) (Mc row) 0 (N + 4) := rEq_congr (fun k hk => (R.row (show s < N by omega) ho (by rw [h.a.1]; exact hh) hk).symm) hv
      rw [e]
      cases bt v s <;> cases nz (Mr m_has (48 * s + o)) <;> cases nz (Mr m_versions (48 * s + o)) <;> cases rEq (Mc (55, s, o)) (Mc row) 0 (N + 4) <;> rfl
theorem hSet_b {row : gI} {s : Nat} (hN : N ≤ 4) (h : bt (hSet N M v o row) s = true) : s < N ∧ bt v s = true ∧ ¬ M (51, s, 0) o = 0 ∧ M (60, 48 * s + o, 0) 3 = 0 := by
  by_cases h32 : s < 32
  · rw [show hSet N M v o row = sS _ N from rfl, bt_sS (by omega) h32] at h
    simp only [Bool.and_eq_true, decide_eq_true_eq, Bool.not_eq_true', nz_t, nz_f] at h
    exact ⟨h.1, h.2.1.1.1, h.2.1.1.2, h.2.2⟩
  · rw [b_big (by omega)] at h; exact absurd h (by decide)
theorem hSet_n {row : gI} (hN : N ≤ 4) : hSet N M v o row &&& v = hSet N M v o row := b_ext fun i hi => by
  rw [b_and]
  cases h : bt (hSet N M v o row) i
  · rfl
  · rw [(hSet_b hN h).2.1]; rfl
/-- a file's value and size at a server that holds it plainly -/
theorem Rel.fil (hN : N ≤ 4) (hs : s < N) (ho : o < 48) (R : Rel N g Mc Mr) (hh : ¬ Mc (51, s, 0) o = 0) (hd : Mc (4, 0, 0) o = 0) : Rel N g (gset (gset Mc (52, s, 0) o v) (53, s, 0) o w) (gset (gset Mr m_value (48 * s + o) v) m_size (48 * s + o) w) := by
  have hc : cf (fun j q => (j = (52, s, 0) ∨ j = (53, s, 0)) ∧ q = o) Mc (gset (gset Mc (52, s, 0) o v) (53, s, 0) o w) := (cf.st ⟨Or.inl rfl, rfl⟩).tr (cf.st ⟨Or.inr rfl, rfl⟩)
  have hr : cf (fun j q => (j = m_value ∨ j = m_size) ∧ q = 48 * s + o) Mr (gset (gset Mr m_value (48 * s + o) v) m_size (48 * s + o) w) := (cf.st ⟨Or.inl rfl, rfl⟩).tr (cf.st ⟨Or.inr rfl, rfl⟩)
  have h := R.sv hs ho
  refine R.mix hN hs ho (hc.mo ?_) (hr.mo ?_) (R.2.2.2.1.fr hc hr ?_ ?_) (rSv_of ?_ (h.b.fr hN hc hr ?_ ?_) (h.cc.fr hc hr ?_ ?_) (h.dd.fr hN hc hr ?_ ?_)) (R.2.2.2.2.2.2.2.fr hc hr ?_ ?_)
  · rintro j q ⟨rfl | rfl, rfl⟩ <;> (unfold mC kSv; dsimp only; omega)
  · rintro j q ⟨rfl | rfl, rfl⟩ <;> (unfold mR lSv; dsimp only; omega)
  · rintro s' ⟨z | z, -⟩ <;> exact absurd z (by simp)
  · rintro s' ⟨z | z, -⟩ <;> exact absurd z (by decide)
  · obtain ⟨f1, f2, f3, f4⟩ := h.a
    have hd' : Mr m_isDirectory o = 0 := by rw [← (R.ct.2.2 o ho).2.2]; exact hd
    have hh' : ¬ Mr m_has (48 * s + o) = 0 := by rw [← f1]; exact hh
    have e : ∀ (j : gI) q, j.1 ≠ 52 → j.1 ≠ 53 → gset (gset Mc (52, s, 0) o v) (53, s, 0) o w j q = Mc j q := fun j q h1 h2 => hc _ _ (fun z => z.1.elim (fun z => h1 (by rw [z])) (fun z => h2 (by rw [z])))
    have e' : ∀ (j : gI) q, j.1 ≠ 12 → j.1 ≠ 13 → gset (gset Mr m_value (48 * s + o) v) m_size (48 * s + o) w j q = Mr j q := fun j q h1 h2 => hr _ _ (fun z => z.1.elim (fun z => h1 (by rw [z])) (fun z => h2 (by rw [z])))
    refine ⟨?_, ?_, ?_, fun k hk => ?_⟩
    · rw [e _ _ (by simp) (by simp), e' _ _ (by simp) (by simp)]; exact f1
    · rw [e' m_has _ (by simp) (by simp), e' m_isDirectory _ (by simp) (by simp), if_neg (fun z => z.elim hh' (fun z => z hd')), gset_r, if_neg (by simp), gset_r, if_pos ⟨rfl, rfl⟩, gset_r, if_neg (by simp), gset_r, if_pos ⟨rfl, rfl⟩]
    · rw [e' m_has _ (by simp) (by simp), e' m_isDirectory _ (by simp) (by simp), if_neg (fun z => z.elim hh' (fun z => z hd')), gset_r, if_pos ⟨rfl, rfl⟩, gset_r, if_pos ⟨rfl, rfl⟩]
    · rw [e _ _ (by simp) (by simp), e' _ _ (by simp) (by simp), e' _ _ (by simp) (by simp)]; exact f4 k hk
  · rintro j q z ⟨rfl | rfl, rfl⟩ <;> (dsimp only at z; omega)
  · rintro j q z ⟨rfl | rfl, rfl⟩ <;> (dsimp only at z; omega)
  · rintro ⟨z | z, -⟩ <;> exact absurd z (by simp)
  · rintro ⟨z | z, -⟩ <;> exact absurd z (by decide)
  · rintro j q z ⟨rfl | rfl, rfl⟩ <;> (dsimp only at z; omega)
  · rintro j q z ⟨rfl | rfl, rfl⟩ <;> (dsimp only at z; omega)
  · rintro j q z ⟨rfl | rfl, rfl⟩ <;> (revert z; unfold kTl; dsimp only; omega)
  · rintro j q z ⟨rfl | rfl, rfl⟩ <;> (revert z; unfold lTl; dsimp only; omega)
/-- held and entry of one object as they were: the invariants of the rest stay -/
theorem Inv.mixv (hN : N ≤ 4) (hs : s < N) (ho : o < 48) (I : Inv N g M) (hc : cf (fun j q => iFree j q ∨ ((j.1 = 52 ∨ j.1 = 53) ∧ j.2.1 = s ∧ q = o) ∨ ((j.1 = 60 ∨ j.1 = 61 ∨ j.1 = 62) ∧ j.2.1 = 48 * s + o)) M M') (hv : iVr s o M') : Inv N g M' := by
  obtain ⟨cat, lo, sv, vr, kl, w, lg, mk⟩ := I
  have hg := cat.1
  refine ⟨cat.fr hc ?_, fun s' hs' => ?_, fun s' hs' o' ho' => (sv s' hs' o' ho').fr ho' hc ?_, fun s' hs' o' ho' => ?_, fun c h o' ho' => (kl c h o' ho').fr hN hc ?_, fun c h => (w c h).fr hc ?_, fun c h => (lg c h).fr hg hc ?_, mk.fr hc ?_⟩
  · intro j q; unfold eCat iFree csc; omega
  · rw [hc (20, s', 0) 3 (by unfold iFree csc; dsimp only; omega)]; exact lo s' hs'
  · intro j q; unfold eSv iFree csc; omega
  · by_cases e : s' = s ∧ o' = o
    · obtain ⟨rfl, rfl⟩ := e; exact hv
    · refine (vr s' hs' o' ho').fr hc ?_
      intro j q; unfold eVr iFree csc; omega
  · intro j q; unfold eKl iFree csc; omega
  · intro j q; unfold eWt iFree csc; omega
  · intro j q; unfold eLg iFree csc; omega
  · intro t c q h1 h2; unfold iFree csc; dsimp only; omega
theorem fil_inv {z : Nat} (hN : N ≤ 4) (hs : s < N) (ho : o < 48) (I : Inv N g M) (hz : z ≤ 6) (h6 : M (60, 48 * s + o, 0) 3 = 0) : Inv N g (gset (gset M (52, s, 0) o v) (53, s, 0) o (nI z)) := by
  have hc : cf (fun j q => (j = (52, s, 0) ∨ j = (53, s, 0)) ∧ q = o) M (gset (gset M (52, s, 0) o v) (53, s, 0) o (nI z)) := (cf.st ⟨Or.inl rfl, rfl⟩).tr (cf.st ⟨Or.inr rfl, rfl⟩)
  refine I.mixv hN hs ho (hc.mo ?_) ⟨⟨z, hz, by rw [gset_r, if_pos ⟨rfl, rfl⟩]⟩, 0, by omega, ?_, fun h => absurd rfl h, fun i hi => absurd hi (by omega)⟩
  · rintro j q ⟨rfl | rfl, rfl⟩ <;> (dsimp only; omega)
  · rw [hc _ _ (by simp)]; exact h6
def aWr (o : Nat) (j : gI) (q : Nat) : Prop := ((j.1 = 52 ∨ j.1 = 53) ∧ j.2.1 < 4 ∧ q = o) ∨ (j.1 = 9 ∧ q = 1)
def bWr (j : gI) (q : Nat) : Prop := j.1 = 12 ∨ j.1 = 13 ∨ (j.1 = 0 ∧ q = 45)
/-- a value comes to servers that hold the file plainly -/
theorem write_step {z : Nat} {J : gM → Option gM} (hN : N ≤ 4) (ho : o < 48) (hz : z ≤ 6) (R : Rel N g Mc Mr) (I : Inv N g Mc) (hset : Mr m_o 51 = v) (hd : Mc (4, 0, 0) o = 0) (hh : ∀ s, s < N → bt v s = true → ¬ Mc (51, s, 0) o = 0 ∧ Mc (60, 48 * s + o, 0) 3 = 0) : ∃ Mc' Mr', f_X6_writeAt N Mc v (nI o) w (nI z) = some Mc' ∧ f_X11_putValue_L3 (nI o) w (nI z) J 100 0 Mr = J Mr' ∧ Rel N g Mc' Mr' ∧ Inv N g Mc' ∧ Mr' m_o 51 = v ∧ cf (aWr o) Mc Mc' ∧ cf bWr Mr Mr' := by
  refine loop2 (fun n k M => f_X6_writeAt_L3 N v (nI o) w (nI z) n (nI k) M) (fun n k M => f_X11_putValue_L3 (nI o) w (nI z) J n (nI k) M) N some J (fun _ M1 M2 => Rel N g M1 M2 ∧ Inv N g M1 ∧ M2 m_o 51 = v ∧ cf (aWr o) Mc M1 ∧ cf bWr Mr M2) (by omega) (fun n n' k M1 M2 hk ⟨r, i, h51, c1, c2⟩ => ?_) (fun n M1 M2 _ => ?_) (fun n M1 M2 ⟨r, _⟩ => ?_) ⟨R, I, hset, cf.rf _ _, cf.rf _ _⟩
  · by_cases hb : bt v k = true
    · obtain ⟨hh1, hh2⟩ := hh k hk hb
      rw [← c1 (51, k, 0) o (by unfold aWr; dsimp only; omega)] at hh1
      rw [← c1 (60, 48 * k + o, 0) 3 (by unfold aWr; dsimp only; omega)] at hh2
      rw [← c1 (4, 0, 0) o (by unfold aWr; dsimp only; omega)] at hd
      have r1 := (r.fil (v := w) (w := nI z) hN hk ho hh1 hd).ta1 (k := 1) (v := 1) hN (by decide) (by decide)
      have i1 : Inv N g (gset (gset (gset M1 (52, k, 0) o w) (53, k, 0) o (nI z)) (9, 0, 0) 1 (gset (gset M1 (52, k, 0) o w) (53, k, 0) o (nI z) (9, 0, 0) 1 + 1)) := (fil_inv (v := w) hN hk ho i hz hh2).free0 hN (cf.st (by unfold iFree; dsimp only; omega))
      have d1 : cf (aWr o) Mc (gset (gset (gset M1 (52, k, 0) o w) (53, k, 0) o (nI z)) (9, 0, 0) 1 (gset (gset M1 (52, k, 0) o w) (53, k, 0) o (nI z) (9, 0, 0) 1 + 1)) := ((c1.tr (cf.st (by unfold aWr; dsimp only; omega))).tr (cf.st (by unfold aWr; dsimp only; omega))).tr (cf.st (by unfold aWr; dsimp only; omega))
      have d2 : cf bWr Mr (gset (gset (gset M2 m_value (48 * k + o) w) m_size (48 * k + o) (nI z)) m_o 45 (gset (gset M2 m_value (48 * k + o) w) m_size (48 * k + o) (nI z) m_o 45 + 1)) := ((c2.tr (cf.st (by unfold bWr; dsimp only; omega))).tr (cf.st (by unfold bWr; dsimp only; omega))).tr (cf.st (by unfold bWr; dsimp only; omega))
      refine ⟨_, _, ?_, ?_, r1, i1, ?_, d1, d2⟩
      · simp only [f_X6_writeAt_L3, lt_d, jn_d]
        rw [if_neg (nI_ge (by omega) (by omega)), c_isIn v (by omega), o1_s, hb, zb_t, if_neg (by decide), ix_n hk (by omega), c_setFile ho, o1_s, rd_l.2.2.2.2.2, wr_l.2.2.2.2.2, nI_1]
      · simp only [f_X11_putValue_L3, lt_d, jn_d, nI_m48, nI_add, r.n0, h51]
        rw [if_neg (nI_ge (by omega) (by omega)), if_pos (by rw [bt_1 (by omega)]; exact hb), wr_n (by omega) (by omega), wr_n (by omega) (by omega), nI_1]
      · rw [gset_r, if_neg (by decide), gset_r, if_neg (fun z => absurd z.1 (by decide)), gset_r, if_neg (fun z => absurd z.1 (by decide))]; exact h51
    · refine ⟨M1, M2, ?_, ?_, r, i, h51, c1, c2⟩
      · simp only [f_X6_writeAt_L3, lt_d, jn_d]
        rw [if_neg (nI_ge (by omega) (by omega)), c_isIn v (by omega), o1_s]
        rw [Bool.not_eq_true] at hb
        rw [hb, zb_f, if_pos rfl, nI_1]
      · simp only [f_X11_putValue_L3, lt_d, jn_d, nI_m48, nI_add, r.n0, h51]
        rw [if_neg (nI_ge (by omega) (by omega)), if_neg (by rw [bt_1 (by omega)]; exact hb), nI_1]
  · simp only [f_X6_writeAt_L3]
    rw [if_pos (nI_le (by omega) (by omega))]
  · simp only [f_X11_putValue_L3, lt_d, r.n0]
    rw [if_pos (nI_le (by omega) (by omega))]
end SE
