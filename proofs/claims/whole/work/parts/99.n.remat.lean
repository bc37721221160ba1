/-! layer 2: an object is removed at servers -/
def cGn (N : Nat) (M : gM) (t x : Nat) (row : gI) : gM := gpu (gset M (56, t, 0) x 2) (58, t, x) 0 (N + 4) (fun k => M row k)
def rGn (M : gM) (s x : Nat) : gM := gpu (gset M m_entry (48 * s + x) 2) m_gone (8 * (48 * s + x)) 8 (fun k => M m_row k)
def kdH (M : gM) (s x : Nat) (p : Nat) : Bool := nz (M (51, s, 0) p) && decide (M (2, 0, 0) p = nI x)
def rkH (g : Nat) (M : gM) (s x : Nat) (p : Nat) : Bool := decide (1 ≤ p ∧ p ≤ g ∧ M m_parent p = nI x) && nz (M m_has (48 * s + p))
section RA
variable {N g B s o c d x z T n t : Nat} {M M' Mc Mr Mc' Mr' : gM} {row : gI} {v w a1 a2 a3 a4 : Int32}
theorem c_setGone (hN : N ≤ 4) (hx : x < 48) (hr : cN N row = N + 4) (h1 : row.1 ≠ 56) : f_X8_setGone N M t (nI x) row = some (cGn N M t x row) := by
  unfold f_X8_setGone cGn
  rw [wr_n hx (by omega), ix_n hx (by omega), c_assign (cN58 _ _ _) hr (by omega), o1_s]
  congr 1
  refine gpu_congr (fun k _ => ?_)
  rw [gset_r, if_neg (fun z => h1 (by rw [z.1]))]
theorem cGn_fr : cf (fun j q => (j.1 = 56 ∧ j.2.1 = t ∧ q = x) ∨ (j.1 = 58 ∧ j.2.1 = t ∧ j.2.2 = x)) M (cGn N M t x row) := by
  unfold cGn
  exact (cf.st (by simp)).tr (cf.pu (fun _ _ _ => by simp))
theorem rGn_fr : cf (fun j q => (j.1 = 19 ∧ q = 48 * s + x) ∨ (j.1 = 20 ∧ 8 * (48 * s + x) ≤ q ∧ q < 8 * (48 * s + x) + 8)) M (rGn M s x) := by
  unfold rGn
  exact (cf.st (by simp)).tr (cf.pu (fun q a b => Or.inr ⟨rfl, a, b⟩))
theorem cGn_v : cGn N M t x row (56, t, 0) x = 2 ∧ ∀ k, k < N + 4 → cGn N M t x row (58, t, x) k = M row k := by
  unfold cGn
  refine ⟨by simp [gset_r, gpu_r], fun k hk => by simp [gpu_r, hk]⟩
theorem rGn_v : rGn M s x m_entry (48 * s + x) = 2 ∧ ∀ k, k < 8 → rGn M s x m_gone (8 * (48 * s + x) + k) = M m_row k := by
  unfold rGn
  refine ⟨by simp [gset_r, gpu_r], fun k hk => ?_⟩
  rw [gpu_r, if_pos ⟨rfl, by omega, by omega⟩, show 8 * (48 * s + x) + k - 8 * (48 * s + x) = k by omega]
theorem gone_one (hN : N ≤ 4) (hs : s < N) (hx1 : 1 ≤ x) (hxg : x ≤ g) (R : Rel N g Mc Mr) (I : JInv N g Mc) (hp : Mc (2, 0, 0) x = nI o) (ho : o < 48) (hh : Mc (51, s, 0) o = 1) (hv : ∀ k, k < N + 4 → Mr m_row k = Mc row k) : Rel N g (cGn N Mc s x row) (rGn Mr s x) ∧ JInv N g (cGn N Mc s x row) := by
  have hg := I.1.1
  have hx : x < 48 := by omega
  have hc := cGn_fr (N := N) (M := Mc) (t := s) (x := x) (row := row)
  have hr := rGn_fr (M := Mr) (s := s) (x := x)
  obtain ⟨u1, u2⟩ := cGn_v (N := N) (M := Mc) (t := s) (x := x) (row := row)
  obtain ⟨w1, w2⟩ := rGn_v (M := Mr) (s := s) (x := x)
  constructor
  · have h := R.sv hs hx
    refine R.mix hN hs hx (hc.mo ?_) (hr.mo ?_) (R.2.2.2.1.fr hc hr ?_ ?_) (rSv_of (h.a.fr hN hc hr ?_ ?_) ⟨by rw [u1, w1], fun k hk => by rw [u2 k hk, w1, if_pos rfl, w2 k (by omega)]; exact (hv k hk).symm⟩ (h.cc.fr hc hr ?_ ?_) (h.dd.fr hN hc hr ?_ ?_)) (R.2.2.2.2.2.2.2.fr hc hr ?_ ?_)
    · intro j q z; unfold mC kSv; omega
    · intro j q z; unfold mR lSv; omega
    · intro s'; dsimp only; omega
    · intro s'; dsimp only; omega
    · intro j q; omega
    · intro j q; omega
    · dsimp only; omega
    · dsimp only; omega
    · intro j q; omega
    · intro j q; omega
    · intro j q; unfold kTl; omega
    · intro j q; unfold lTl; omega
  · obtain ⟨cat, lo, sv, vr, kl, wt'⟩ := I
    refine ⟨cat.fr hc ?_, fun s' hs' => ?_, fun s' hs' p hp' => ?_, fun s' hs' p hp' => (vr s' hs' p hp').fr hc ?_, fun c h p hp' => (kl c h p hp').fr hN hc ?_, fun c h => (wt' c h).fr hc ?_⟩
    · intro j q; unfold eCat; omega
    · rw [hc _ _ (by dsimp only; omega)]; exact lo s' hs'
    · by_cases e : s' = s ∧ p = x
      · obtain ⟨rfl, rfl⟩ := e
        obtain ⟨i1, i2, i3, i4, i5⟩ := sv s' hs' p hp'
        have e51 : ∀ q, cGn N Mc s' p row (51, s', 0) q = Mc (51, s', 0) q := fun q => hc _ _ (by dsimp only; omega)
        unfold iSv
        rw [e51, u1, hc (2, 0, 0) p (by dsimp only; omega)]
        refine ⟨i1, Or.inr (Or.inr rfl), i3, fun _ => ⟨hx1, hxg⟩, fun q hq _ e => ?_⟩
        rw [hp, neq (by omega) (by omega)] at e
        subst e
        rw [e51]
        exact ⟨fun _ => ⟨hh, by decide⟩, fun _ => hh⟩
      · refine (sv s' hs' p hp').fr hp' hc ?_
        intro j q; unfold eSv; omega
    · intro j q; unfold eVr; omega
    · intro j q; unfold eKl; omega
    · intro j q; unfold eWt; omega
theorem c_holdsIn (h1 : M (1, 0, 0) 3 = nI g) (hg : g ≤ 47) (hxg : x ≤ g) : f_X8_holdsSomethingIn N M s (nI x) = some (zb (!aF (fun p => !kdH M s x p) (x + 1) (g - x))) := by
  have H : ∀ m k fu, k + m = g + 1 → m < fu → f_X8_holdsSomethingIn_L4 N M s (nI x) fu (nI k) = some (zb (!aF (fun p => !kdH M s x p) k m)) := by
    intro m
    induction m with
    | zero =>
      intro k fu hk hf
      obtain ⟨fu, rfl⟩ : ∃ q, fu = q + 1 := ⟨fu - 1, by omega⟩
      simp only [f_X8_holdsSomethingIn_L4, lt_d, h1]
      rw [if_pos (nI_lt (by omega) (by omega))]
      rfl
    | succ m ih =>
      intro k fu hk hf
      obtain ⟨fu, rfl⟩ : ∃ q, fu = q + 1 := ⟨fu - 1, by omega⟩
      simp only [f_X8_holdsSomethingIn_L4, lt_d, jn_d, h1]
      rw [if_neg (nI_nlt (by omega) (by omega)), rd_n (by omega) (by omega), show aF (fun p => !kdH M s x p) k (m + 1) = ((!kdH M s x k) && aF (fun p => !kdH M s x p) (k + 1) m) from rfl]
      by_cases e1 : M (51, s, 0) k = 0
      · rw [if_pos e1, nI_1, ih (k + 1) fu (by omega) (by omega), show kdH M s x k = false by unfold kdH nz; rw [decide_eq_false (fun z => z e1)]; rfl]
        rfl
      · rw [if_neg e1, rd_n (by omega) (by omega)]
        by_cases e2 : M (2, 0, 0) k = nI x
        · rw [if_pos e2, show kdH M s x k = true by unfold kdH nz; rw [decide_eq_true e1, decide_eq_true e2]; rfl]
          rfl
        · rw [if_neg e2, nI_1, ih (k + 1) fu (by omega) (by omega), show kdH M s x k = false by unfold kdH nz; rw [decide_eq_false e2, Bool.and_false]]
          rfl
  unfold f_X8_holdsSomethingIn
  rw [lt_d, nI_1]
  exact H (g - x) (x + 1) 100 (by omega) (by omega)
theorem r_kids {J153 : Int32 × gM → Option gM} {J174 J180 : gM → Option gM} {b : Bool} (h6 : M m_o 6 = nI (g + 1)) (hg : g ≤ 47) (hs : s < 4) : f_X11_putGone_L101 (nI o) (nI x) (nI s) J153 J174 J180 100 (zb b) (1 : Int32) M = J153 (zb (b && aF (fun p => !rkH g M s x p) 1 g), M) := by
  have H : ∀ m k fu b, k + m = g + 1 → 1 ≤ k → m < fu → f_X11_putGone_L101 (nI o) (nI x) (nI s) J153 J174 J180 fu (zb b) (nI k) M = J153 (zb (b && aF (fun p => !rkH g M s x p) k m), M) := by
    intro m
    induction m with
    | zero =>
      intro k fu b hk h1 hf
      obtain ⟨fu, rfl⟩ : ∃ q, fu = q + 1 := ⟨fu - 1, by omega⟩
      simp only [f_X11_putGone_L101, lt_d, h6]
      rw [if_pos (nI_le (by omega) (by omega)), show aF (fun p => !rkH g M s x p) k 0 = true from rfl, Bool.and_true]
    | succ m ih =>
      intro k fu b hk h1 hf
      obtain ⟨fu, rfl⟩ : ∃ q, fu = q + 1 := ⟨fu - 1, by omega⟩
      simp only [f_X11_putGone_L101, lt_d, jn_d, h6, nI_m48, nI_add]
      rw [if_neg (nI_ge (by omega) (by omega)), show aF (fun p => !rkH g M s x p) k (m + 1) = ((!rkH g M s x k) && aF (fun p => !rkH g M s x p) (k + 1) m) from rfl]
      cases b with
      | false =>
        rw [zb_f, if_pos rfl, nI_1, ← zb_f, ih (k + 1) fu false (by omega) (by omega) (by omega)]
        rfl
      | true =>
        rw [zb_t, if_neg (by decide), r_isChild h6 hg (by omega), o1_s]
        by_cases e1 : 1 ≤ k ∧ k ≤ g ∧ M m_parent k = nI x
        · rw [decide_eq_true e1, zb_t, if_neg (by decide), rd_n (by omega) (by omega)]
          by_cases e2 : M m_has (48 * s + k) = 0
          · rw [if_pos e2, nI_1, ← zb_t, ih (k + 1) fu true (by omega) (by omega) (by omega), show rkH g M s x k = false by unfold rkH nz; rw [show decide (¬ M m_has (48 * s + k) = 0) = false from decide_eq_false (fun z => z e2), Bool.and_false]]
            rfl
          · rw [if_neg e2, nI_1, ← zb_f, ih (k + 1) fu false (by omega) (by omega) (by omega), show rkH g M s x k = true by unfold rkH nz; rw [decide_eq_true e1, decide_eq_true e2]; rfl]
            rfl
        · rw [decide_eq_false e1, zb_f, if_pos rfl, nI_1, ← zb_t, ih (k + 1) fu true (by omega) (by omega) (by omega), show rkH g M s x k = false by unfold rkH; rw [decide_eq_false e1]; rfl]
          rfl
  exact H g 1 100 b (by omega) (by omega) (by omega)
theorem kids_eq (hN : N ≤ 4) (hs : s < N) (hxg : x ≤ g) (R : Rel N g Mc Mr) (I : iCat g Mc) : aF (fun p => !rkH g Mr s x p) 1 g = aF (fun p => !kdH Mc s x p) (x + 1) (g - x) := by
  have hg := I.1
  rw [Bool.eq_iff_iff, aF_iff, aF_iff]
  have hk : ∀ p, p < 48 → 1 ≤ p → p ≤ g → (rkH g Mr s x p = kdH Mc s x p) := fun p hp p1 p2 => by
    unfold rkH kdH
    rw [(R.sv hs hp).1, (R.ct.2.2 p hp).1]
    by_cases e : Mr m_parent p = nI x
    · rw [decide_eq_true ⟨p1, p2, e⟩, decide_eq_true e, Bool.true_and, Bool.and_true]
    · rw [decide_eq_false (fun z => e z.2.2), decide_eq_false e, Bool.false_and, Bool.and_false]
  constructor
  · intro h p h1 h2
    rw [← hk p (by omega) (by omega) (by omega)]
    exact h p (by omega) (by omega)
  · intro h p h1 h2
    rw [hk p (by omega) (by omega) (by omega)]
    by_cases e : x + 1 ≤ p
    · exact h p e (by omega)
    · unfold kdH
      rw [decide_eq_false (fun z => by have := kid_gt I h1 (by omega) (by omega) z; omega), Bool.and_false]
      rfl
/-- whether a copy goes -/
def cGo (N g : Nat) (M : gM) (s x : Nat) (row : gI) : Bool := (nz (M (51, s, 0) x) && (rLe (M (55, s, x)) (M row) 0 (N + 4) && !nz (M (60, 48 * s + x, 0) 3))) && aF (fun p => !kdH M s x p) (x + 1) (g - x)
theorem c_removeAtOne (hN : N ≤ 4) (hg : g ≤ 47) (hxg : x ≤ g) (hr : cN N row = N + 4) (h1 : row.1 ≠ 56) (h3 : M (1, 0, 0) 3 = nI g) (hn : ∃ n, n ≤ 6 ∧ M (60, 48 * s + x, 0) 3 = nI n) : f_X6_removeAtOne N M s (nI x) row = some (if cGo N g (cGn N M s x row) s x row = true then cSd N g (cGn N M s x row) s x else cGn N M s x row) := by
  have hx : x < 48 := by omega
  have fc := cGn_fr (N := N) (M := M) (t := s) (x := x) (row := row)
  have h3' : cGn N M s x row (1, 0, 0) 3 = nI g := by rw [fc _ _ (by dsimp only; omega)]; exact h3
  obtain ⟨n, n1, n2⟩ := hn
  have n2' : cGn N M s x row (60, 48 * s + x, 0) 3 = nI n := by rw [fc _ _ (by dsimp only; omega)]; exact n2
  unfold f_X6_removeAtOne cGo
  rw [c_setGone hN hx hr h1, o1_s]
  generalize cGn N M s x row = X at h3' n2' ⊢
  rw [ix_n hx (by omega), c_isAtMost (cN55 _ _ _) hr (by omega), o1_s]
  simp only [jn_d]
  rw [c_isInConflict hx n2' n1, o1_s]
  have hh : ∀ b6 : Int32, (rd X (51, s, 0) 48 (nI x) (fun v8 => (if v8 = 0 then some X else (if b6 = 0 then some X else o1 (f_X8_holdsSomethingIn N X s (nI x)) (fun v12 => (if v12 = 0 then o1 (f_X7_drop N X s (nI x)) (fun M15 => some M15) else some X)))))) = some (if (nz (X (51, s, 0) x) && !decide (b6 = 0)) && aF (fun p => !kdH X s x p) (x + 1) (g - x) then cSd N g X s x else X) := fun b6 => by
    rw [rd_n hx (by omega), c_holdsIn h3' hg hxg, o1_s, c_sdrop hN h3' hg hx, o1_s]
    by_cases e1 : X (51, s, 0) x = 0
    · rw [if_pos e1, e1]; rfl
    · rw [if_neg e1, show nz (X (51, s, 0) x) = true by unfold nz; rw [decide_eq_true e1], Bool.true_and]
      by_cases e2 : b6 = 0
      · rw [if_pos e2, decide_eq_true e2]; rfl
      · rw [if_neg e2, decide_eq_false e2]
        cases aF (fun p => !kdH X s x p) (x + 1) (g - x) <;> rfl
  cases rLe (X (55, s, x)) (X row) 0 (N + 4) with
  | false =>
    rw [zb_f, if_pos rfl, rd_n hx (by omega)]
    simp
  | true =>
    rw [zb_t, if_neg (by decide)]
    cases nz (X (60, 48 * s + x, 0) 3) with
    | false =>
      rw [zb_f, if_pos rfl, hh 1, decide_eq_false (by decide)]
      simp
    | true =>
      rw [zb_t, if_neg (by decide), rd_n hx (by omega)]
      simp
end RA
