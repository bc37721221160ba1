/-! layer 2: a new object at servers and in a cache -/
section MD
variable {N g B s o c d x z T n t : Nat} {M M' Mc Mr Mc' Mr' : gM} {v w a1 a2 a3 a4 : Int32}
theorem c_setThere (hN : N ≤ 4) (hx : x < 48) : f_X8_setThere N M t (nI x) = some (cTh N M t x) := by
  unfold f_X8_setThere cTh
  rw [wr_n hx (by omega), ix_n hx (by omega), c_fill (0 : Int32) (cN58 _ _ _) (by omega), o1_s]
theorem c_createCopy (hN : N ≤ 4) (hx : x < 48) : f_X8_createCopy N M t (nI x) = some (cCr N M t x) := by
  unfold f_X8_createCopy cCr
  rw [wz_1 hx (by omega), c_setFile hx, o1_s, ix_n hx (by omega), c_fill (0 : Int32) (cN55 _ _ _) (by omega), o1_s]
theorem cCr_fr : cf (fun j q => ((j.1 = 51 ∨ j.1 = 52 ∨ j.1 = 53) ∧ j.2.1 = t ∧ q = x) ∨ (j.1 = 55 ∧ j.2.1 = t ∧ j.2.2 = x)) M (cCr N M t x) := by
  unfold cCr
  exact (((cf.st (by simp)).tr (cf.st (by simp))).tr (cf.st (by simp))).tr (cf.pu (fun _ _ _ => by simp))
theorem cTh_fr : cf (fun j q => (j.1 = 56 ∧ j.2.1 = t ∧ q = x) ∨ (j.1 = 58 ∧ j.2.1 = t ∧ j.2.2 = x)) M (cTh N M t x) := by
  unfold cTh
  exact (cf.st (by simp)).tr (cf.pu (fun _ _ _ => by simp))
theorem cCr_v : cCr N M t x (51, t, 0) x = 1 ∧ cCr N M t x (52, t, 0) x = 0 ∧ cCr N M t x (53, t, 0) x = 0 ∧ ∀ k, k < N + 4 → cCr N M t x (55, t, x) k = 0 := by
  unfold cCr
  refine ⟨by simp [gset_r, gpu_r], by simp [gset_r, gpu_r], by simp [gset_r, gpu_r], fun k hk => by simp [gpu_r, hk]⟩
theorem cTh_v : cTh N M t x (56, t, 0) x = 1 ∧ ∀ k, k < N + 4 → cTh N M t x (58, t, x) k = 0 := by
  unfold cTh
  refine ⟨by simp [gset_r, gpu_r], fun k hk => by simp [gpu_r, hk]⟩
/-- the reference's new copy at a server -/
def rNc (M : gM) (s x : Nat) : gM := gpu (gset (gset (gset (gset (gpu (gset M m_entry (48 * s + x) 1) m_gone (8 * (48 * s + x)) 8 (fun _ => 0)) m_has (48 * s + x) 1) m_value (48 * s + x) 0) m_size (48 * s + x) 0) m_versions (48 * s + x) 0) m_vector (8 * (48 * s + x)) 8 (fun _ => 0)
theorem rNc_fr : cf (fun j q => ((j.1 = 11 ∨ j.1 = 12 ∨ j.1 = 13 ∨ j.1 = 15 ∨ j.1 = 19) ∧ q = 48 * s + x) ∨ ((j.1 = 14 ∨ j.1 = 20) ∧ 8 * (48 * s + x) ≤ q ∧ q < 8 * (48 * s + x) + 8)) M (rNc M s x) := by
  unfold rNc
  exact ((((((cf.st (by simp)).tr (cf.pu (fun q a b => Or.inr ⟨Or.inr rfl, a, b⟩))).tr (cf.st (by simp))).tr (cf.st (by simp))).tr (cf.st (by simp))).tr (cf.st (by simp))).tr (cf.pu (fun q a b => Or.inr ⟨Or.inl rfl, a, b⟩))
theorem rNc_v : rNc M s x m_has (48 * s + x) = 1 ∧ rNc M s x m_value (48 * s + x) = 0 ∧ rNc M s x m_size (48 * s + x) = 0 ∧ rNc M s x m_versions (48 * s + x) = 0 ∧ rNc M s x m_entry (48 * s + x) = 1 ∧ ∀ k, k < 8 → rNc M s x m_vector (8 * (48 * s + x) + k) = 0 := by
  unfold rNc
  refine ⟨by simp [gset_r, gpu_r], by simp [gset_r, gpu_r], by simp [gset_r, gpu_r], by simp [gset_r, gpu_r], by simp [gset_r, gpu_r], fun k hk => ?_⟩
  rw [gpu_r, if_pos ⟨rfl, by omega, by omega⟩]
theorem r_newThere (hs : s < 4) (hx : x < 48) {β : Type} {K : gM → Option β} : (wr M m_entry 192 (nI (48 * s + x)) (1 : Int32) (fun M13 => o1 (f_X11_clearRow M13 m_gone (nI (48 * s + x))) (fun M15 => o1 (f_X11_newCopy M15 (nI s) (nI x)) K))) = K (rNc M s x) := by
  unfold f_X11_newCopy rNc
  simp only [lt_d, nI_m48, nI_add]
  rw [wr_n (by omega) (by omega), r_clearRow (by show _ ≤ 1536; omega) (by decide), o1_s, wz_1 (by omega) (by omega), wr_n (by omega) (by omega), wr_n (by omega) (by omega), wr_n (by omega) (by omega), r_clearRow (by show _ ≤ 1536; omega) (by decide), o1_s, o1_s]
/-- one server gets a new copy -/
theorem made_one (hN : N ≤ 4) (hs : s < N) (hx1 : 1 ≤ x) (hxg : x ≤ g) (R : Rel N g Mc Mr) (I : JInv N g Mc) (hp : Mc (2, 0, 0) x = nI o) (ho : o < 48) (hh : Mc (51, s, 0) o = 1) (h0 : Mc (51, s, 0) x = 0) : Rel N g (cCr N (cTh N Mc s x) s x) (rNc Mr s x) ∧ JInv N g (cCr N (cTh N Mc s x) s x) := by
  have hg := I.1.1
  have hx : x < 48 := by omega
  have hc : cf (fun j q => (((j.1 = 51 ∨ j.1 = 52 ∨ j.1 = 53 ∨ j.1 = 56) ∧ j.2.1 = s ∧ q = x) ∨ ((j.1 = 55 ∨ j.1 = 58) ∧ j.2.1 = s ∧ j.2.2 = x))) Mc (cCr N (cTh N Mc s x) s x) := (cTh_fr.mo (fun j q h => by omega)).tr (cCr_fr.mo (fun j q h => by omega))
  have hr := rNc_fr (M := Mr) (s := s) (x := x)
  obtain ⟨u1, u2, u3, u4⟩ := cCr_v (N := N) (M := cTh N Mc s x) (t := s) (x := x)
  have u5 : cCr N (cTh N Mc s x) s x (56, s, 0) x = 1 := by rw [cCr_fr _ _ (by dsimp only; omega)]; exact cTh_v.1
  have u6 : ∀ k, k < N + 4 → cCr N (cTh N Mc s x) s x (58, s, x) k = 0 := fun k hk => by rw [cCr_fr _ _ (by dsimp only; omega)]; exact cTh_v.2 k hk
  obtain ⟨w1, w2, w3, w4, w5, w6⟩ := rNc_v (M := Mr) (s := s) (x := x)
  obtain ⟨hz1, n, n1, n2, n3, -⟩ := I.2.2.2.1 s hs x hx
  have hn0 : n = 0 := by
    rcases Nat.eq_zero_or_pos n with e | e
    · exact e
    · have := (n3 (by omega)).1; rw [h0] at this; exact absurd this (by decide)
  subst hn0
  have u7 : cCr N (cTh N Mc s x) s x (60, 48 * s + x, 0) 3 = 0 := by rw [hc _ _ (by dsimp only; omega)]; exact n2
  constructor
  · have h := R.sv hs hx
    refine R.mix hN hs hx (hc.mo ?_) (hr.mo ?_) (R.2.2.2.1.fr hc hr ?_ ?_) (rSv_of ⟨?_, ?_, ?_, fun k hk => ?_⟩ ⟨?_, fun k hk => ?_⟩ (h.cc.fr hc hr ?_ ?_) ⟨?_, fun i hi hl => ?_⟩) (R.2.2.2.2.2.2.2.fr hc hr ?_ ?_)
    · intro j q z; unfold mC kSv; omega
    · intro j q z; unfold mR lSv; omega
    · intro s'; dsimp only; omega
    · intro s'; dsimp only; omega
    · rw [u1, w1]
    · rw [u2, w2]; split <;> rfl
    · rw [u3, w3]; split <;> rfl
    · rw [u4 k hk, w6 k (by omega)]; split <;> rfl
    · rw [u5, w5]
    · rw [u6 k hk, w5, if_neg (by decide)]
    · dsimp only; omega
    · dsimp only; omega
    · rw [u7, w4]
    · rw [w4] at hl; exact absurd hl (nI_pos (by omega))
    · intro j q; unfold kTl; omega
    · intro j q; unfold lTl; omega
  · obtain ⟨cat, lo, sv, vr, kl, wt'⟩ := I
    refine ⟨cat.fr hc ?_, fun s' hs' => ?_, fun s' hs' p hp' => ?_, fun s' hs' p hp' => ?_, fun c h p hp' => (kl c h p hp').fr hN hc ?_, fun c h => (wt' c h).fr hc ?_⟩
    · intro j q; unfold eCat; omega
    · rw [hc _ _ (by dsimp only; omega)]; exact lo s' hs'
    · by_cases es : s' = s
      · subst es
        have e2 : ∀ p, cCr N (cTh N Mc s' x) s' x (2, 0, 0) p = Mc (2, 0, 0) p := fun p => hc _ _ (by dsimp only; omega)
        have mono : ∀ q, Mc (51, s', 0) q = 1 → cCr N (cTh N Mc s' x) s' x (51, s', 0) q = 1 := fun q e => by
          by_cases y : q = x
          · subst y; exact u1
          · rw [hc _ _ (by dsimp only; omega)]; exact e
        by_cases ep : p = x
        · subst ep
          unfold iSv
          rw [u1, u5, e2]
          refine ⟨Or.inr rfl, Or.inr (Or.inl rfl), fun _ => hxg, fun _ => ⟨hx1, hxg⟩, fun q hq _ e => ?_⟩
          rw [hp, neq (by omega) (by omega)] at e
          subst e
          exact ⟨fun _ => ⟨mono _ hh, by decide⟩, fun _ => mono _ hh⟩
        · obtain ⟨i1, i2, i3, i4, i5⟩ := sv s' hs' p hp'
          unfold iSv
          rw [hc (51, s', 0) p (by dsimp only; omega), hc (56, s', 0) p (by dsimp only; omega), e2]
          exact ⟨i1, i2, i3, i4, fun q hq p1 e => ⟨fun y => ⟨mono q ((i5 q hq p1 e).1 y).1, ((i5 q hq p1 e).1 y).2⟩, fun y => mono q ((i5 q hq p1 e).2 y)⟩⟩
      · refine (sv s' hs' p hp').fr hp' hc ?_
        intro j q; unfold eSv; omega
    · by_cases e : s' = s ∧ p = x
      · obtain ⟨rfl, rfl⟩ := e
        exact ⟨⟨0, by omega, u3⟩, 0, by omega, u7, fun h => absurd rfl h, fun i hi => absurd hi (by omega)⟩
      · refine (vr s' hs' p hp').fr hc ?_
        intro j q; unfold eVr; omega
    · intro j q; unfold eKl; omega
    · intro j q; unfold eWt; omega
def aMk (x : Nat) (j : gI) (q : Nat) : Prop := ((j.1 = 51 ∨ j.1 = 52 ∨ j.1 = 53 ∨ j.1 = 56) ∧ j.2.1 < 4 ∧ q = x) ∨ ((j.1 = 55 ∨ j.1 = 58) ∧ j.2.1 < 4 ∧ j.2.2 = x) ∨ (j.1 = 9 ∧ q = 1)
def bMk (j : gI) (q : Nat) : Prop := j.1 = 11 ∨ j.1 = 12 ∨ j.1 = 13 ∨ j.1 = 14 ∨ j.1 = 15 ∨ j.1 = 19 ∨ j.1 = 20 ∨ (j.1 = 0 ∧ q = 45)
theorem make_step {J : gM → Option gM} (hN : N ≤ 4) (hx1 : 1 ≤ x) (hxg : x ≤ g) (ho : o < 48) (R : Rel N g Mc Mr) (I : JInv N g Mc) (hset : Mr m_o 51 = v) (hp : Mc (2, 0, 0) x = nI o) (hox : o ≠ x) (hh : ∀ s, s < N → bt v s = true → Mc (51, s, 0) o = 1) (h0 : ∀ s, s < N → Mc (51, s, 0) x = 0) : ∃ Mc' Mr', f_X6_makeAt N Mc v (nI x) = some Mc' ∧ f_X11_putEntry_L2 (nI o) (nI x) J 100 0 Mr = J Mr' ∧ Rel N g Mc' Mr' ∧ JInv N g Mc' ∧ Mr' m_o 51 = v ∧ cf (aMk x) Mc Mc' ∧ cf bMk Mr Mr' := by
  have hg := I.1.1
  have hx : x < 48 := by omega
  have key : ∃ Mc' Mr', f_X6_makeAt_L2 N v (nI x) 100 0 Mc = some Mc' ∧ f_X11_putEntry_L2 (nI o) (nI x) J 100 0 Mr = J Mr' ∧ Rel N g Mc' Mr' ∧ JInv N g Mc' ∧ Mr' m_o 51 = v ∧ cf (aMk x) Mc Mc' ∧ cf bMk Mr Mr' ∧ ∀ s, N ≤ s → s < N → Mc' (51, s, 0) x = 0 := by
    refine loop2 (fun n k M => f_X6_makeAt_L2 N v (nI x) n (nI k) M) (fun n k M => f_X11_putEntry_L2 (nI o) (nI x) J n (nI k) M) N some J (fun k M1 M2 => Rel N g M1 M2 ∧ JInv N g M1 ∧ M2 m_o 51 = v ∧ cf (aMk x) Mc M1 ∧ cf bMk Mr M2 ∧ ∀ s, k ≤ s → s < N → M1 (51, s, 0) x = 0) (by omega) (fun n n' k M1 M2 hk ⟨r, i, h51, c1, c2, hz⟩ => ?_) (fun n M1 M2 _ => ?_) (fun n M1 M2 ⟨r, _⟩ => ?_) ⟨R, I, hset, cf.rf _ _, cf.rf _ _, fun s _ hs => h0 s hs⟩
    · by_cases hb : bt v k = true
      · have hk1 : M1 (51, k, 0) o = 1 := by rw [c1 _ _ (by unfold aMk; dsimp only; omega)]; exact hh k hk hb
        have hp1 : M1 (2, 0, 0) x = nI o := by rw [c1 _ _ (by unfold aMk; dsimp only; omega)]; exact hp
        obtain ⟨r1, i1⟩ := made_one hN hk hx1 hxg r i hp1 ho hk1 (hz k (by omega) hk)
        have r2 := r1.ta1 (k := 1) (v := 1) hN (by decide) (by decide)
        have i2 : JInv N g (gset (cCr N (cTh N M1 k x) k x) (9, 0, 0) 1 (cCr N (cTh N M1 k x) k x (9, 0, 0) 1 + 1)) := i1.free0 hN (cf.st (by unfold iFree; dsimp only; omega))
        have d1 : cf (aMk x) Mc (gset (cCr N (cTh N M1 k x) k x) (9, 0, 0) 1 (cCr N (cTh N M1 k x) k x (9, 0, 0) 1 + 1)) := ((c1.tr (cTh_fr.mo (fun j q h => by unfold aMk; omega))).tr (cCr_fr.mo (fun j q h => by unfold aMk; omega))).tr (cf.st (by unfold aMk; dsimp only; omega))
        have d2 : cf bMk Mr (gset (rNc M2 k x) m_o 45 (rNc M2 k x m_o 45 + 1)) := (c2.tr (rNc_fr.mo (fun j q h => by unfold bMk; omega))).tr (cf.st (by unfold bMk; dsimp only; omega))
        refine ⟨_, _, ?_, ?_, r2, i2, ?_, d1, d2, fun s h1 h2 => ?_⟩
        · simp only [f_X6_makeAt_L2, lt_d, jn_d]
          rw [if_neg (nI_ge (by omega) (by omega)), c_isIn v (by omega), o1_s, hb, zb_t, if_neg (by decide), ix_n hk (by omega), c_setThere hN hx, o1_s, ix_n hk (by omega), c_createCopy hN hx, o1_s, rd_l.2.2.2.2.2, wr_l.2.2.2.2.2, nI_1]
        · simp only [f_X11_putEntry_L2, lt_d, jn_d, nI_m48, nI_add, r.n0, h51]
          rw [if_neg (nI_ge (by omega) (by omega)), if_pos (by rw [bt_1 (by omega)]; exact hb), r_newThere (by omega) hx, nI_1]
        · rw [gset_r, if_neg (by decide), rNc_fr _ _ (by dsimp only; omega)]; exact h51
        · rw [gset_r, if_neg (by simp), cCr_fr _ _ (by dsimp only; omega), cTh_fr _ _ (by dsimp only; omega)]; exact hz s (by omega) h2
      · refine ⟨M1, M2, ?_, ?_, r, i, h51, c1, c2, fun s h1 h2 => hz s (by omega) h2⟩
        · simp only [f_X6_makeAt_L2, lt_d, jn_d]
          rw [if_neg (nI_ge (by omega) (by omega)), c_isIn v (by omega), o1_s]
          rw [Bool.not_eq_true] at hb
          rw [hb, zb_f, if_pos rfl, nI_1]
        · simp only [f_X11_putEntry_L2, lt_d, jn_d, nI_m48, nI_add, r.n0, h51]
          rw [if_neg (nI_ge (by omega) (by omega)), if_neg (by rw [bt_1 (by omega)]; exact hb), nI_1]
    · simp only [f_X6_makeAt_L2]
      rw [if_pos (nI_le (by omega) (by omega))]
    · simp only [f_X11_putEntry_L2, lt_d, r.n0]
      rw [if_pos (nI_le (by omega) (by omega))]
  obtain ⟨Mc', Mr', k1, k2, k3, k4, k5, k6, k7, -⟩ := key
  exact ⟨Mc', Mr', k1, k2, k3, k4, k5, k6, k7⟩
/-- servers' held and entries change at x alone, which no log makes -/
theorem iLg.mkx (hg : g ≤ 47) (h : iLg N g c M) (hc : cf (fun j q => ((j.1 = 51 ∨ j.1 = 56) ∧ j.2.1 < 4 ∧ q = x) ∨ ¬ eLg N c j q) M M') (hx : ∀ i, i < 12 → nI i < M (40, c, 0) 4 → M (41, c, 0) i = 1 → ¬ M (42, c, 0) i = nI x) : iLg N g c M' := by
  have e0 : ∀ t, (40 ≤ t ∧ t ≤ 43) → ∀ q, M' (t, c, 0) q = M (t, c, 0) q := fun t ht q => hc _ _ (by unfold eLg; dsimp only; omega)
  have e1 : ∀ o, o < 48 → M' (33, c, 0) o = M (33, c, 0) o := fun o ho => hc _ _ (by unfold eLg; dsimp only; omega)
  obtain ⟨n, a, b, d, f, k⟩ := h
  refine ⟨n, a, by rw [e0 40 (by omega)]; exact b, fun h0 o ho => by rw [e1 o ho]; exact d h0 o ho, fun i hi => ?_, fun i j hi hj x1 x2 x3 => ?_⟩
  · refine (f i hi).to (e0 41 (by omega) i) (e0 42 (by omega) i) (e0 43 (by omega) i) (fun ob h1 _ _ h2 h3 => ⟨?_, ?_⟩) (fun ob h1 => ⟨?_, ?_⟩) (fun s ob hs h1 k1 k2 h2 => ?_)
    · rw [hc _ _ (by unfold eLg; dsimp only; omega)]; exact h2
    · rw [e1 ob (by omega)]; exact h3
    · exact hc _ _ (by unfold eLg; dsimp only; omega)
    · exact hc _ _ (by unfold eLg; dsimp only; omega)
    · have hne : ob ≠ x := fun e => by
        subst e
        exact hx i (by omega) (by rw [b]; exact nI_lt hi (by omega)) k1 k2
      rw [hc _ _ (by unfold eLg; dsimp only; omega), hc _ _ (by unfold eLg; dsimp only; omega)]; exact h2
  · rw [e0 41 (by omega)] at x1 x2
    rw [e0 42 (by omega), e0 42 (by omega)] at x3
    exact k i j hi hj x1 x2 x3
end MD
