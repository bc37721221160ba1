section RT
variable {N g B s o c d x z T n t : Nat} {M M' Mc Mr Mc' Mr' : gM} {row : gI} {v w a1 a2 a3 a4 : Int32}
theorem r_gone {β : Type} {K : gM → Option β} (hs : s < 4) (hx : x < 48) : (wr M m_entry 192 (nI (48 * s + x)) (2 : Int32) (fun M14 => o1 (f_X11_copyTo M14 m_row (0 : Int32) m_gone (nI (48 * s + x))) K)) = K (rGn M s x) := by
  rw [wr_n (by omega) (by omega), show f_X11_copyTo (gset M m_entry (48 * s + x) 2) m_row (0 : Int32) m_gone (nI (48 * s + x)) = _ from r_copyTo (i := 0) (by decide) (by show _ ≤ 1536; omega) (by decide) (by decide), o1_s]
  unfold rGn
  congr 1
  refine gpu_congr (fun k _ => ?_)
  rw [gset_r, if_neg (by simp), show 8 * 0 + k = k by omega]
def rGo (N g : Nat) (M : gM) (s x : Nat) : Bool := (nz (M m_has (48 * s + x)) && (!nz (M m_versions (48 * s + x)) && rLe (fun k => M m_vector (8 * (48 * s + x) + k)) (fun k => M m_row k) 0 (N + 4))) && aF (fun p => !rkH g M s x p) 1 g
theorem go_eq (hN : N ≤ 4) (hs : s < N) (hxg : x ≤ g) (R : Rel N g Mc Mr) (I : iCat g Mc) (hv : ∀ k, k < N + 4 → Mr m_row k = Mc row k) : rGo N g Mr s x = cGo N g Mc s x row := by
  have hg := I.1
  have hx : x < 48 := by omega
  have h := R.sv hs hx
  unfold rGo cGo
  rw [kids_eq hN hs hxg R I, ← h.a.1, ← h.dd.1]
  by_cases e : Mc (51, s, 0) x = 0
  · rw [show nz (Mc (51, s, 0) x) = false by rw [e]; rfl]
    rfl
  · have er : rLe (fun k => Mr m_vector (8 * (48 * s + x) + k)) (fun k => Mr m_row k) 0 (N + 4) = rLe (Mc (55, s, x)) (Mc row) 0 (N + 4) := rLe_congr (fun k hk => (R.row hs hx e hk).symm) hv
    rw [er]
    cases nz (Mc (51, s, 0) x) <;> cases nz (Mc (60, 48 * s + x, 0) 3) <;> cases rLe (Mc (55, s, x)) (Mc row) 0 (N + 4) <;> rfl
def aRm (j : gI) (q : Nat) : Prop := (51 ≤ j.1 ∧ j.1 ≤ 58 ∧ j.2.1 < 4) ∨ (j.1 = 60 ∧ j.2.1 < 192 ∧ q = 3) ∨ (j.1 = 9 ∧ q = 1)
def bRm (j : gI) (q : Nat) : Prop := j.1 = 11 ∨ j.1 = 15 ∨ j.1 = 19 ∨ j.1 = 20 ∨ (j.1 = 0 ∧ q = 45)
def kRm (N x : Nat) (M M' : gM) : Prop := (∀ s, s < N → ∀ p, p ≠ x → M' (51, s, 0) p = M (51, s, 0) p) ∧ (∀ s, s < N → ∀ p, M (51, s, 0) p = 0 → M' (51, s, 0) p = 0) ∧ ∀ s, s < N → ∀ p, ¬ M (56, s, 0) p = 1 → ¬ M' (56, s, 0) p = 1
theorem kRm.tr {M'' : gM} (h : kRm N x M M') (h' : kRm N x M' M'') : kRm N x M M'' := ⟨fun s hs p hp => (h'.1 s hs p hp).trans (h.1 s hs p hp), fun s hs p e => h'.2.1 s hs p (h.2.1 s hs p e), fun s hs p e => h'.2.2 s hs p (h.2.2 s hs p e)⟩
/-- one server removes -/
theorem rem_one (hN : N ≤ 4) (hs : s < N) (hx1 : 1 ≤ x) (hxg : x ≤ g) (ho : o < 48) (R : Rel N g Mc Mr) (I : JInv N g Mc) (hp : Mc (2, 0, 0) x = nI o) (hh : Mc (51, s, 0) o = 1) (hrow : row.1 = 45 ∨ (row.1 = 55 ∧ 4 ≤ row.2.1)) (hv : ∀ k, k < N + 4 → Mr m_row k = Mc row k) : ∃ Mc' Mr', Mc' = (if cGo N g (cGn N Mc s x row) s x row = true then cSd N g (cGn N Mc s x row) s x else cGn N Mc s x row) ∧ Mr' = (if rGo N g (rGn Mr s x) s x = true then rSd g (rGn Mr s x) s x else rGn Mr s x) ∧ Rel N g Mc' Mr' ∧ JInv N g Mc' ∧ cf aRm Mc Mc' ∧ cf bRm Mr Mr' ∧ kRm N x Mc Mc' := by
  have hg := I.1.1
  have hx : x < 48 := by omega
  obtain ⟨r1, i1⟩ := gone_one hN hs hx1 hxg R I hp ho hh hv
  have fc := cGn_fr (N := N) (M := Mc) (t := s) (x := x) (row := row)
  have fr := rGn_fr (M := Mr) (s := s) (x := x)
  have hv1 : ∀ k, k < N + 4 → rGn Mr s x m_row k = cGn N Mc s x row row k := fun k hk => by
    rw [fc _ _ (by omega), fr _ _ (by dsimp only; omega)]; exact hv k hk
  have c1 : cf aRm Mc (cGn N Mc s x row) := fc.mo (fun j q h => by unfold aRm; omega)
  have d1 : cf bRm Mr (rGn Mr s x) := fr.mo (fun j q h => by unfold bRm; omega)
  have k1 : kRm N x Mc (cGn N Mc s x row) := ⟨fun s' _ p _ => fc _ _ (by dsimp only; omega), fun s' _ p e => by rw [fc _ _ (by dsimp only; omega)]; exact e, fun s' _ p e => by
    by_cases y : s' = s ∧ p = x
    · obtain ⟨rfl, rfl⟩ := y; rw [cGn_v.1]; decide
    · rw [fc _ _ (by dsimp only; omega)]; exact e⟩
  have ge := go_eq hN hs hxg r1 i1.1 hv1
  rw [ge]
  by_cases hgo : cGo N g (cGn N Mc s x row) s x row = true
  · rw [if_pos hgo, if_pos hgo]
    have fd := cSd_fr (N := N) (g := g) (s := s) (x := x) (M := cGn N Mc s x row)
    refine ⟨_, _, rfl, rfl, rel_sdrop hN hs hx r1 i1.1, inv_sdrop hN hs hx1 hx i1 (fun p hp' p1 e y => ?_), c1.tr (fd.mo (fun j q h => by unfold aRm; omega)), d1.tr ((rSd_fr hg).mo (fun j q h => by unfold bRm; omega)), k1.tr ⟨fun s' hs' p hpx => ?_, fun s' hs' p e => ?_, fun s' hs' p e => ?_⟩⟩
    · unfold cGo at hgo
      rw [Bool.and_eq_true, aF_iff] at hgo
      have hpg := (i1.2.2.1 s hs p hp').2.2.1 y
      have hlt := kid_gt i1.1 p1 hpg (by omega) e
      have := hgo.2 p (by omega) (by omega)
      unfold kdH nz at this
      rw [y, e] at this
      exact absurd this (by simp)
    · by_cases es : s' = s
      · subst es; rw [cSd_h 51 p (by omega), if_neg hpx]
      · rw [fd _ _ (by dsimp only; omega)]
    · by_cases es : s' = s
      · subst es; rw [cSd_h 51 p (by omega), e]; split <;> rfl
      · rw [fd _ _ (by dsimp only; omega)]; exact e
    · by_cases es : s' = s
      · subst es; rw [cSd_56]; split
        · decide
        · exact e
      · rw [fd _ _ (by dsimp only; omega)]; exact e
  · rw [if_neg hgo, if_neg hgo]
    exact ⟨_, _, rfl, rfl, r1, i1, c1, d1, k1⟩
theorem r_remone {J : gM → Option gM} {J174 J180 : gM → Option gM} (h0 : M m_o 1 = nI (N + 4)) (h6 : M m_o 6 = nI (g + 1)) (hg : g ≤ 47) (hN : N ≤ 4) (hs : s < N) (hx : x < 48) : (wr M m_entry 192 (nI (48 * s + x)) (2 : Int32) (fun M14 => o1 (f_X11_copyTo M14 m_row (0 : Int32) m_gone (nI (48 * s + x))) (fun M16 => rd M16 m_has 192 (nI (48 * s + x)) (fun v17 => if v17 = 0 then f_X11_putGone_L101 (nI o) (nI x) (nI s) (fun (q : (Int32 × gM)) => if q.1 = 0 then J q.2 else o1 (f_X11_drop q.2 (nI s) (nI x)) J) J174 J180 100 0 (1 : Int32) M16 else rd M16 m_versions 192 (nI (48 * s + x)) (fun v47 => (if v47 = 0 then o1 (f_X11_isAtMost M16 m_vector (nI (48 * s + x)) m_row (0 : Int32)) (fun v50 => (if v50 = 0 then f_X11_putGone_L101 (nI o) (nI x) (nI s) (fun (q : (Int32 × gM)) => if q.1 = 0 then J q.2 else o1 (f_X11_drop q.2 (nI s) (nI x)) J) J174 J180 100 0 (1 : Int32) M16 else f_X11_putGone_L101 (nI o) (nI x) (nI s) (fun (q : (Int32 × gM)) => if q.1 = 0 then J q.2 else o1 (f_X11_drop q.2 (nI s) (nI x)) J) J174 J180 100 1 (1 : Int32) M16)) else f_X11_putGone_L101 (nI o) (nI x) (nI s) (fun (q : (Int32 × gM)) => if q.1 = 0 then J q.2 else o1 (f_X11_drop q.2 (nI s) (nI x)) J) J174 J180 100 0 (1 : Int32) M16)))))) = J (if rGo N g (rGn M s x) s x = true then rSd g (rGn M s x) s x else rGn M s x) := by
  have fr := rGn_fr (M := M) (s := s) (x := x)
  rw [r_gone (by omega) hx]
  have h6' : rGn M s x m_o 6 = nI (g + 1) := by rw [fr _ _ (by dsimp only; omega)]; exact h6
  have h0' : rGn M s x m_o 1 = nI (N + 4) := by rw [fr _ _ (by dsimp only; omega)]; exact h0
  generalize rGn M s x = Y at h6' h0' ⊢
  have hk0 : ∀ J153 J174 J180, f_X11_putGone_L101 (nI o) (nI x) (nI s) J153 J174 J180 100 (0 : Int32) (1 : Int32) Y = J153 (0, Y) := fun _ _ _ => r_kids (b := false) h6' hg (by omega)
  have hk1 : ∀ J153 J174 J180, f_X11_putGone_L101 (nI o) (nI x) (nI s) J153 J174 J180 100 (1 : Int32) (1 : Int32) Y = J153 (zb (aF (fun p => !rkH g Y s x p) 1 g), Y) := fun _ _ _ => r_kids (b := true) h6' hg (by omega)
  rw [rd_n (by omega) (by omega)]
  unfold rGo
  by_cases e1 : Y m_has (48 * s + x) = 0
  · rw [if_pos e1, hk0, show nz (Y m_has (48 * s + x)) = false by rw [e1]; rfl]
    rfl
  · rw [if_neg e1, rd_n (by omega) (by omega), show nz (Y m_has (48 * s + x)) = true by unfold nz; rw [decide_eq_true e1], Bool.true_and]
    by_cases e2 : Y m_versions (48 * s + x) = 0
    · rw [if_pos e2, show nz (Y m_versions (48 * s + x)) = false by rw [e2]; rfl, show f_X11_isAtMost Y m_vector (nI (48 * s + x)) m_row (0 : Int32) = some (zb (rLe (fun k => Y m_vector (8 * (48 * s + x) + k)) (fun k => Y m_row k) 0 (N + 4))) from by
        refine (r_isAtMost (j := 0) h0' (by omega) (by show _ ≤ 1536; omega) (by decide) (by decide) (by decide)).trans ?_
        simp only [Nat.mul_zero, Nat.zero_add], o1_s, Bool.not_false, Bool.true_and]
      cases rLe (fun k => Y m_vector (8 * (48 * s + x) + k)) (fun k => Y m_row k) 0 (N + 4) with
      | false => rw [zb_f, if_pos rfl, hk0]; rfl
      | true =>
        rw [zb_t, if_neg (by decide), hk1]
        cases aF (fun p => !rkH g Y s x p) 1 g with
        | false => rfl
        | true =>
          show o1 (f_X11_drop Y (nI s) (nI x)) J = _
          rw [r_drop h6' hg (by omega) hx, o1_s]
          rfl
    · rw [if_neg e2, hk0, show nz (Y m_versions (48 * s + x)) = true by unfold nz; rw [decide_eq_true e2]]
      rfl
theorem rem_step {J : gM → Option gM} (hN : N ≤ 4) (hx1 : 1 ≤ x) (hxg : x ≤ g) (ho : o < 48) (hox : o ≠ x) (R : Rel N g Mc Mr) (I : JInv N g Mc) (hset : Mr m_o 51 = v) (hp : Mc (2, 0, 0) x = nI o) (hh : ∀ s, s < N → bt v s = true → Mc (51, s, 0) o = 1) (hr : cN N row = N + 4) (hrow : row.1 = 45 ∨ (row.1 = 55 ∧ 4 ≤ row.2.1)) (hv : ∀ k, k < N + 4 → Mr m_row k = Mc row k) : ∃ Mc' Mr', f_X6_removeAt N Mc v (nI x) row = some Mc' ∧ f_X11_putGone_L2 (nI o) (nI x) J 100 0 Mr = J Mr' ∧ Rel N g Mc' Mr' ∧ JInv N g Mc' ∧ Mr' m_o 51 = v ∧ cf aRm Mc Mc' ∧ cf bRm Mr Mr' ∧ kRm N x Mc Mc' := by
  have hg := I.1.1
  have hx : x < 48 := by omega
  refine loop2 (fun n k M => f_X6_removeAt_L3 N v (nI x) row n (nI k) M) (fun n k M => f_X11_putGone_L2 (nI o) (nI x) J n (nI k) M) N some J (fun _ M1 M2 => Rel N g M1 M2 ∧ JInv N g M1 ∧ M2 m_o 51 = v ∧ cf aRm Mc M1 ∧ cf bRm Mr M2 ∧ kRm N x Mc M1) (by omega) (fun n n' k M1 M2 hk ⟨r, i, h51, c1, c2, k1⟩ => ?_) (fun n M1 M2 _ => ?_) (fun n M1 M2 ⟨r, _⟩ => ?_) ⟨R, I, hset, cf.rf _ _, cf.rf _ _, fun _ _ _ _ => rfl, fun _ _ _ e => e, fun _ _ _ e => e⟩
  · by_cases hb : bt v k = true
    · have hk1 : M1 (51, k, 0) o = 1 := by rw [k1.1 k hk o hox]; exact hh k hk hb
      have hp1 : M1 (2, 0, 0) x = nI o := by rw [c1 _ _ (by unfold aRm; dsimp only; omega)]; exact hp
      have hv1 : ∀ q, q < N + 4 → M2 m_row q = M1 row q := fun q hq => by
        rw [c1 _ _ (by unfold aRm; omega), c2 _ _ (by unfold bRm; dsimp only; omega)]; exact hv q hq
      obtain ⟨Mc', Mr', e1, e2, r1, i1, d1, d2, k2⟩ := rem_one hN hk hx1 hxg ho r i hp1 hk1 hrow hv1
      have r2 := r1.ta1 (k := 1) (v := 1) hN (by decide) (by decide)
      have i2 : JInv N g (gset Mc' (9, 0, 0) 1 (Mc' (9, 0, 0) 1 + 1)) := i1.free0 hN (cf.st (by unfold iFree; dsimp only; omega))
      have f1 : cf aRm Mc (gset Mc' (9, 0, 0) 1 (Mc' (9, 0, 0) 1 + 1)) := (c1.tr d1).tr (cf.st (by unfold aRm; dsimp only; omega))
      have f2 : cf bRm Mr (gset Mr' m_o 45 (Mr' m_o 45 + 1)) := (c2.tr d2).tr (cf.st (by unfold bRm; dsimp only; omega))
      have k3 : kRm N x Mc' (gset Mc' (9, 0, 0) 1 (Mc' (9, 0, 0) 1 + 1)) := ⟨fun s _ p _ => by rw [gset_r, if_neg (by simp)], fun s _ p e => by rw [gset_r, if_neg (by simp)]; exact e, fun s _ p e => by rw [gset_r, if_neg (by simp)]; exact e⟩
      refine ⟨_, _, ?_, ?_, r2, i2, ?_, f1, f2, (k1.tr k2).tr k3⟩
      · simp only [f_X6_removeAt_L3, lt_d, jn_d]
        rw [if_neg (nI_ge (by omega) (by omega)), c_isIn v (by omega), o1_s, hb, zb_t, if_neg (by decide), ix_n hk (by omega), c_removeAtOne hN hg hxg hr (by omega) r.ct.1 (by obtain ⟨-, n, n1, n2, -⟩ := i.2.2.2.1 k hk x hx; exact ⟨n, n1, n2⟩), o1_s, ← e1, rd_l.2.2.2.2.2, wr_l.2.2.2.2.2, nI_1]
      · have hR := r_remone (J := fun M22 => f_X11_putGone_L2 (nI o) (nI x) J n' (nI (k + 1)) (gset M22 m_o 45 (M22 m_o 45 + (1 : Int32)))) (J174 := fun M10 => f_X11_putGone_L2 (nI o) (nI x) J n' (nI k + 1) M10) (J180 := J) (o := o) r.n1 r.ct.2.1 hg hN hk hx
        simp only [f_X11_putGone_L2, lt_d, jn_d, nI_m48, nI_add, r.n0, h51]
        rw [if_neg (nI_ge (by omega) (by omega)), if_pos (by rw [bt_1 (by omega)]; exact hb)]
        simp only [nI_1] at hR ⊢
        rw [e2]
        exact hR
      · rw [gset_r, if_neg (by decide), d2 _ _ (by unfold bRm; dsimp only; omega)]; exact h51
    · refine ⟨M1, M2, ?_, ?_, r, i, h51, c1, c2, k1⟩
      · simp only [f_X6_removeAt_L3, lt_d, jn_d]
        rw [if_neg (nI_ge (by omega) (by omega)), c_isIn v (by omega), o1_s]
        rw [Bool.not_eq_true] at hb
        rw [hb, zb_f, if_pos rfl, nI_1]
      · simp only [f_X11_putGone_L2, lt_d, jn_d, nI_m48, nI_add, r.n0, h51]
        rw [if_neg (nI_ge (by omega) (by omega)), if_neg (by rw [bt_1 (by omega)]; exact hb), nI_1]
  · simp only [f_X6_removeAt_L3]
    rw [if_pos (nI_le (by omega) (by omega))]
  · simp only [f_X11_putGone_L2, lt_d, r.n0]
    rw [if_pos (nI_le (by omega) (by omega))]
end RT
