/-! layer 2: trees: copies are dropped -/
theorem cN55 (N t o : Nat) : cN N (55, t, o) = N + 4 := rfl
theorem cN58 (N t o : Nat) : cN N (58, t, o) = N + 4 := rfl
theorem cN45 (N t o : Nat) : cN N (45, t, o) = N + 4 := rfl
theorem cN64 (N t o : Nat) : cN N (64, t, o) = N + 4 := rfl
theorem cN12 (N : Nat) : cN N (12, 0, 0) = N + 4 := rfl
theorem cN14 (N : Nat) : cN N (14, 0, 0) = N + 4 := rfl
section TR
variable {N g t o : Nat} {M : gM}
theorem c_setFile {v n : Int32} (ho : o < 48) : f_X8_setFile N M t (nI o) v n = some (gset (gset M (52, t, 0) o v) (53, t, 0) o n) := by
  unfold f_X8_setFile
  rw [wr_n ho (by omega), wr_n ho (by omega)]
theorem ite2 {α : Type} {a b d : Prop} {_ : Decidable a} {_ : Decidable b} {_ : Decidable d} {z w : α} (h : d ↔ a ∨ b) : (if a then z else if b then z else w) = if d then z else w := by
  by_cases ha : a
  · rw [if_pos ha, if_pos (h.mpr (Or.inl ha))]
  · rw [if_neg ha]
    by_cases hb : b
    · rw [if_pos hb, if_pos (h.mpr (Or.inr hb))]
    · rw [if_neg hb, if_neg (fun x => (h.mp x).elim ha hb)]
theorem ite3 {α : Type} {a b c d : Prop} {_ : Decidable a} {_ : Decidable b} {_ : Decidable c} {_ : Decidable d} {z w : α} (h : d ↔ a ∨ b ∨ c) : (if a then z else if b then z else if c then z else w) = if d then z else w := by
  by_cases ha : a
  · rw [if_pos ha, if_pos (h.mpr (Or.inl ha))]
  · rw [if_neg ha]
    exact ite2 (h.trans ⟨fun x => x.resolve_left ha, Or.inr⟩)
theorem ite1 {α : Type} {a d : Prop} {_ : Decidable a} {_ : Decidable d} {z w : α} (h : d ↔ a) : (if a then z else w) = if d then z else w := by
  by_cases ha : a
  · rw [if_pos ha, if_pos (h.mpr ha)]
  · rw [if_neg ha, if_neg (fun x => ha (h.mp x))]
theorem kC_s {par : Nat → Int32} {k q : Nat} {j : gI} (hp : par k = nI o) (ho : o < k) : ((j = (56, t, 0) ∧ o < q ∧ q < k + 1 ∧ par q = nI o) ∨ ((j.1 = 58 ∧ j.2.1 = t ∧ o < j.2.2 ∧ j.2.2 < k + 1 ∧ par j.2.2 = nI o) ∧ q < N + 4)) ↔ (j = (58, t, k) ∧ 0 ≤ q ∧ q < 0 + (N + 4)) ∨ (j = (56, t, 0) ∧ q = k) ∨ ((j = (56, t, 0) ∧ o < q ∧ q < k ∧ par q = nI o) ∨ ((j.1 = 58 ∧ j.2.1 = t ∧ o < j.2.2 ∧ j.2.2 < k ∧ par j.2.2 = nI o) ∧ q < N + 4)) := by
  obtain ⟨ja, jb, jc⟩ := j
  simp only [Prod.mk.injEq]
  constructor
  · rintro (⟨⟨a1, a2, a3⟩, b, c, d⟩ | ⟨⟨a, b, c, d, e⟩, f⟩)
    · by_cases h : q = k
      · exact Or.inr (Or.inl ⟨⟨a1, a2, a3⟩, h⟩)
      · exact Or.inr (Or.inr (Or.inl ⟨⟨a1, a2, a3⟩, b, by omega, d⟩))
    · by_cases h : jc = k
      · exact Or.inl ⟨⟨a, b, h⟩, by omega, by omega⟩
      · exact Or.inr (Or.inr (Or.inr ⟨⟨a, b, c, by omega, e⟩, f⟩))
  · rintro (⟨⟨a, b, c⟩, d, e⟩ | ⟨⟨a, b, c⟩, d⟩ | ⟨⟨a1, a2, a3⟩, b, c, d⟩ | ⟨⟨a, b, c, d, e⟩, f⟩)
    · exact Or.inr ⟨⟨a, b, by omega, by omega, by rw [c]; exact hp⟩, by omega⟩
    · exact Or.inl ⟨⟨a, b, c⟩, by omega, by omega, by rw [d]; exact hp⟩
    · exact Or.inl ⟨⟨a1, a2, a3⟩, b, by omega, d⟩
    · exact Or.inr ⟨⟨a, b, c, by omega, e⟩, f⟩
theorem kC_n {par : Nat → Int32} {k q : Nat} {j : gI} (hp : ¬ par k = nI o) : ((j = (56, t, 0) ∧ o < q ∧ q < k + 1 ∧ par q = nI o) ∨ ((j.1 = 58 ∧ j.2.1 = t ∧ o < j.2.2 ∧ j.2.2 < k + 1 ∧ par j.2.2 = nI o) ∧ q < N + 4)) ↔ ((j = (56, t, 0) ∧ o < q ∧ q < k ∧ par q = nI o) ∨ ((j.1 = 58 ∧ j.2.1 = t ∧ o < j.2.2 ∧ j.2.2 < k ∧ par j.2.2 = nI o) ∧ q < N + 4)) := by
  constructor
  · rintro (⟨a, b, c, d⟩ | ⟨⟨a, b, c, d, e⟩, f⟩)
    · exact Or.inl ⟨a, b, by
        have : q ≠ k := fun y => hp (y ▸ d)
        omega, d⟩
    · exact Or.inr ⟨⟨a, b, c, by
        have : j.2.2 ≠ k := fun y => hp (y ▸ e)
        omega, e⟩, f⟩
  · rintro (⟨a, b, c, d⟩ | ⟨⟨a, b, c, d, e⟩, f⟩)
    · exact Or.inl ⟨a, b, by omega, d⟩
    · exact Or.inr ⟨⟨a, b, c, by omega, e⟩, f⟩
/-- the entries of o's children, below k, are unknown -/
def cKd (N : Nat) (M : gM) (t o k : Nat) : gM := fun j q => if (j = (56, t, 0) ∧ o < q ∧ q < k ∧ M (2, 0, 0) q = nI o) ∨ ((j.1 = 58 ∧ j.2.1 = t ∧ o < j.2.2 ∧ j.2.2 < k ∧ M (2, 0, 0) j.2.2 = nI o) ∧ q < N + 4) then 0 else M j q
def cDr (N g : Nat) (M : gM) (t o : Nat) : gM := cKd N (gpu (gset (gset (gset M (51, t, 0) o 0) (52, t, 0) o 0) (53, t, 0) o 0) (55, t, o) 0 (N + 4) (fun _ => 0)) t o (g + 1)
theorem cKd_n {k q : Nat} {j : gI} (h : j.1 ≠ 56 ∧ j.1 ≠ 58) : cKd N M t o k j q = M j q := by
  unfold cKd
  rw [if_neg]
  rintro (e | e)
  · exact h.1 (by rw [e.1])
  · exact h.2 e.1.1
theorem c_kids (hN : N ≤ 4) (h1 : M (1, 0, 0) 3 = nI g) (hg : g ≤ 47) (ho : o < 48) : f_X8_drop_L28 N t (nI o) 100 (nI (o + 1)) M = some (cKd N M t o (g + 1)) := by
  have H : ∀ m k fu st, o + 1 ≤ k → k + m = 49 → m < fu → st = cKd N M t o k → f_X8_drop_L28 N t (nI o) fu (nI k) st = some (cKd N M t o (max k (g + 1))) := by
    intro m
    induction m with
    | zero =>
      intro k fu st h0 hk hf e
      obtain ⟨fu, rfl⟩ : ∃ q, fu = q + 1 := ⟨fu - 1, by omega⟩
      subst e
      simp only [f_X8_drop_L28, lt_d]
      rw [cKd_n (by decide), h1, if_pos (nI_lt (by omega) (by omega)), Nat.max_eq_left (by omega)]
    | succ m ih =>
      intro k fu st h0 hk hf e
      obtain ⟨fu, rfl⟩ : ∃ q, fu = q + 1 := ⟨fu - 1, by omega⟩
      subst e
      simp only [f_X8_drop_L28, lt_d, jn_d]
      rw [cKd_n (by decide), h1]
      by_cases hgk : g < k
      · rw [if_pos (nI_lt hgk (by omega)), Nat.max_eq_left (by omega)]
      · rw [if_neg (nI_nlt (by omega) (by omega)), rd_n (by omega) (by omega), cKd_n (by decide)]
        by_cases hp : M (2, 0, 0) k = nI o
        · rw [if_pos hp, wr_n (by omega) (by omega), ix_n (by omega) (by omega), c_fill 0 (cN58 N t k) (by omega), o1_s, nI_1, ih (k + 1) fu _ (by omega) (by omega) (by omega) ?_]
          · congr 2; omega
          · funext j q
            rw [gpu_r, gset_r]
            unfold cKd
            exact ite3 (kC_s (par := M (2, 0, 0)) hp (by omega))
        · rw [if_neg hp, nI_1, ih (k + 1) fu _ (by omega) (by omega) (by omega) ?_]
          · congr 2; omega
          · funext j q
            unfold cKd
            exact ite1 (kC_n (par := M (2, 0, 0)) hp)
  have h := H (48 - o) (o + 1) 100 M (by omega) (by omega) (by omega) (by
    funext j q
    unfold cKd
    rw [if_neg]
    rintro (e | e) <;> omega)
  rw [h]
  by_cases hog : o ≤ g
  · rw [Nat.max_eq_right (by omega)]
  · rw [Nat.max_eq_left (by omega)]
    congr 1
    funext j q
    unfold cKd
    rw [if_neg (by rintro (e | e) <;> omega), if_neg (by rintro (e | e) <;> omega)]
theorem c_drop8 (hN : N ≤ 4) (h1 : M (1, 0, 0) 3 = nI g) (hg : g ≤ 47) (ho : o < 48) : f_X8_drop N M t (nI o) = some (cDr N g M t o) := by
  unfold f_X8_drop
  rw [wz_0 ho (by omega), c_setFile ho, o1_s, ix_n ho (by omega), c_fill 0 (cN55 N t o) (by omega), o1_s, lt_d, nI_1]
  refine c_kids hN ?_ hg ho
  rw [gpu_r, if_neg (by simp), gset_r, if_neg (by simp), gset_r, if_neg (by simp), gset_r, if_neg (by simp)]
  exact h1
end TR
theorem i48 {a b o p : Nat} (ho : o < 48) (hp : p < 48) : (48 * a + o = 48 * b + p) = (a = b ∧ o = p) := propext ⟨fun h => by omega, fun h => by omega⟩
theorem a4 {a b : Nat} : (4 + a = 4 + b) = (a = b) := propext ⟨fun h => by omega, fun h => by omega⟩
section TQ
variable {N g c o : Nat} {M Mc Mr : gM}
theorem r_isChild {x : Nat} (h6 : M m_o 6 = nI (g + 1)) (hg : g ≤ 47) (hx : x < 48) : f_X11_isChild M (nI x) (nI o) = some (zb (decide (1 ≤ x ∧ x ≤ g ∧ M m_parent x = nI o))) := by
  unfold f_X11_isChild
  by_cases h0 : x = 0
  · subst h0
    rw [if_pos (by decide), decide_eq_false (by omega)]; rfl
  · rw [if_neg (nI_nle (by omega) (by omega)), lt_d, h6]
    by_cases h1 : g + 1 ≤ x
    · rw [if_pos (nI_le h1 (by omega)), decide_eq_false (by omega)]; rfl
    · rw [if_neg (nI_ge (by omega) (by omega)), rd_n hx (by omega)]
      by_cases h2 : M m_parent x = nI o
      · rw [if_pos h2, decide_eq_true ⟨by omega, by omega, h2⟩]; rfl
      · rw [if_neg h2, decide_eq_false (fun h => h2 h.2.2)]; rfl
/-- the reference forgets a cached copy -/
def rFg (g : Nat) (M : gM) (c o : Nat) : gM := fun j q => if (j = m_kept ∨ j = m_dirty ∨ j = m_promised) ∧ q = 48 * c + o then 0 else if j = m_keptEntry ∧ 48 * c + 1 ≤ q ∧ q ≤ 48 * c + g ∧ M m_parent (q - 48 * c) = nI o then 0 else M j q
theorem r_forget (h6 : M m_o 6 = nI (g + 1)) (hg : g ≤ 47) (hc : c < 4) (ho : o < 48) : f_X11_forget M (nI c) (nI o) = some (rFg g M c o) := by
  unfold f_X11_forget
  simp only [nI_m48, nI_add]
  rw [wz_0 (by omega) (by omega), wz_0 (by omega) (by omega), wr_n (by omega) (by omega)]
  generalize hM3 : gset (gset (gset M m_kept (48 * c + o) 0) m_dirty (48 * c + o) 0) m_promised (48 * c + o) 0 = M3
  have hf : ∀ j q, j ≠ m_kept → j ≠ m_dirty → j ≠ m_promised → M3 j q = M j q := fun j q a b d => by
    rw [← hM3, gset_r, if_neg (fun e => d e.1), gset_r, if_neg (fun e => b e.1), gset_r, if_neg (fun e => a e.1)]
  have H := loopF (σ := gM) (L := fun n k st => f_X11_forget_L38 (nI c) (nI o) n (nI k) st) (B := g + 1) (g := fun x st => if M m_parent x = nI o then gset st m_keptEntry (48 * c + x) 0 else st) (P := fun k st => 1 ≤ k ∧ st = fun j q => if j = m_keptEntry ∧ 48 * c + 1 ≤ q ∧ q < 48 * c + k ∧ M m_parent (q - 48 * c) = nI o then 0 else M3 j q) (E := some) (fun n k st hk hP => ⟨?_, by omega, ?_⟩) (fun n st hP => ?_) g 1 100 M3 (by omega) (by omega) ⟨by omega, by funext j q; rw [if_neg (by omega)]⟩
  · refine H.1.trans (congrArg some (H.2.2.trans ?_))
    funext j q
    unfold rFg
    by_cases e : (j = m_kept ∨ j = m_dirty ∨ j = m_promised) ∧ q = 48 * c + o
    · rw [if_pos e, if_neg (fun x => by rcases e.1 with y | y | y <;> exact absurd (x.1.symm.trans y) (by decide)), ← hM3]
      obtain ⟨y | y | y, rfl⟩ := e
      · subst y; rw [gset_r, if_neg (by simp), gset_r, if_neg (by simp), gset_r, if_pos ⟨rfl, rfl⟩]
      · subst y; rw [gset_r, if_neg (by simp), gset_r, if_pos ⟨rfl, rfl⟩]
      · subst y; rw [gset_r, if_pos ⟨rfl, rfl⟩]
    · rw [if_neg e]
      by_cases e2 : j = m_keptEntry ∧ 48 * c + 1 ≤ q ∧ q ≤ 48 * c + g ∧ M m_parent (q - 48 * c) = nI o
      · rw [if_pos e2, if_pos ⟨e2.1, e2.2.1, by omega, e2.2.2.2⟩]
      · rw [if_neg e2, if_neg (fun x => e2 ⟨x.1, x.2.1, by omega, x.2.2.2⟩), ← hM3, gset_r, if_neg (fun x => e ⟨Or.inr (Or.inr x.1), x.2⟩), gset_r, if_neg (fun x => e ⟨Or.inr (Or.inl x.1), x.2⟩), gset_r, if_neg (fun x => e ⟨Or.inl x.1, x.2⟩)]
  · obtain ⟨k1, hst⟩ := hP
    have e6 : st m_o 6 = nI (g + 1) := by
      rw [hst]
      show (if m_o = m_keptEntry ∧ _ then 0 else M3 m_o 6) = _
      rw [if_neg (fun x => absurd x.1 (by decide)), hf m_o 6 (by decide) (by decide) (by decide)]; exact h6
    have ep : st m_parent k = M m_parent k := by
      rw [hst]
      show (if m_parent = m_keptEntry ∧ _ then 0 else M3 m_parent k) = _
      rw [if_neg (fun x => absurd x.1 (by decide)), hf m_parent k (by decide) (by decide) (by decide)]
    simp only [f_X11_forget_L38, lt_d, jn_d]
    rw [e6, if_neg (nI_ge (by omega) (by omega)), r_isChild (g := g) e6 hg (by omega), o1_s, ep]
    by_cases hp : M m_parent k = nI o
    · rw [decide_eq_true ⟨by omega, by omega, hp⟩, zb_t, if_neg (by decide), nI_m48, nI_add, wr_n (by omega) (by omega), nI_1, if_pos hp]
    · rw [decide_eq_false (fun x => hp x.2.2), zb_f, if_pos rfl, nI_1, if_neg hp]
  · obtain ⟨k1, rfl⟩ := hP
    funext j q
    by_cases hp : M m_parent k = nI o
    · rw [if_pos hp, gset_r]
      by_cases e : j = m_keptEntry ∧ q = 48 * c + k
      · obtain ⟨rfl, rfl⟩ := e
        rw [if_pos ⟨rfl, rfl⟩, if_pos ⟨rfl, by omega, by omega, by rw [show 48 * c + k - 48 * c = k by omega]; exact hp⟩]
      · rw [if_neg e]
        by_cases e2 : j = m_keptEntry ∧ 48 * c + 1 ≤ q ∧ q < 48 * c + k ∧ M m_parent (q - 48 * c) = nI o
        · rw [if_pos e2, if_pos ⟨e2.1, e2.2.1, by omega, e2.2.2.2⟩]
        · rw [if_neg e2, if_neg (fun x => e2 ⟨x.1, x.2.1, by
            have : q ≠ 48 * c + k := fun y => e ⟨x.1, y⟩
            omega, x.2.2.2⟩)]
    · rw [if_neg hp]
      by_cases e2 : j = m_keptEntry ∧ 48 * c + 1 ≤ q ∧ q < 48 * c + k ∧ M m_parent (q - 48 * c) = nI o
      · rw [if_pos e2, if_pos ⟨e2.1, e2.2.1, by omega, e2.2.2.2⟩]
      · rw [if_neg e2, if_neg (fun x => e2 ⟨x.1, x.2.1, by
          have : q ≠ 48 * c + k := fun y => hp (by
            have z := x.2.2.2
            rw [y, show 48 * c + k - 48 * c = k by omega] at z
            exact z)
          omega, x.2.2.2⟩)]
  · obtain ⟨k1, hst⟩ := hP
    have e6 : st m_o 6 = nI (g + 1) := by
      rw [hst]
      show (if m_o = m_keptEntry ∧ _ then 0 else M3 m_o 6) = _
      rw [if_neg (fun x => absurd x.1 (by decide)), hf m_o 6 (by decide) (by decide) (by decide)]; exact h6
    simp only [f_X11_forget_L38, lt_d]
    rw [e6, if_pos (nI_le (by omega) (by omega))]
/-- a client drops a copy -/
def cDp (N g : Nat) (M : gM) (c o : Nat) : gM := gset (gset (cDr N g M (4 + c) o) (32, c, 0) o 0) (33, c, 0) o 0
theorem c_drop1 (hN : N ≤ 4) (h1 : M (1, 0, 0) 3 = nI g) (hg : g ≤ 47) (ho : o < 48) : f_X1_drop N M c (nI o) = some (cDp N g M c o) := by
  unfold f_X1_drop
  rw [c_drop8 hN h1 hg ho, o1_s, wr_n ho (by omega), wz_0 ho (by omega)]
  rfl
end TQ
