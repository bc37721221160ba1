/-! layer 2: trees: copies are dropped -/
theorem cN55 (N t o : Nat) : cN N (55, t, o) = N + 4 := rfl
theorem cN58 (N t o : Nat) : cN N (58, t, o) = N + 4 := rfl
theorem cN45 (N t o : Nat) : cN N (45, t, o) = N + 4 := rfl
theorem cN64 (N t o : Nat) : cN N (64, t, o) = N + 4 := rfl
theorem cN12 (N : Nat) : cN N (12, 0, 0) = N + 4 := rfl
theorem cN14 (N : Nat) : cN N (14, 0, 0) = N + 4 := rfl
section TR
variable {N g t o : Nat} {M : gM}
theorem c_setFile {v n : Int32} (ho : o < 48) : f_X8_setFile N M t (nI o) v n = some (gset (gset M (52, t, 0) o v) (53, t, 0) o n) := by
  unfold f_X8_setFile
  rw [wr_n ho (by omega), wr_n ho (by omega)]
/-- the entries of o's children, below k, are unknown -/
def cKd (N : Nat) (M : gM) (t o k : Nat) : gM := fun j q => if j = (56, t, 0) ∧ o < q ∧ q < k ∧ M (2, 0, 0) q = nI o then 0 else if (j.1 = 58 ∧ j.2.1 = t ∧ o < j.2.2 ∧ j.2.2 < k ∧ M (2, 0, 0) j.2.2 = nI o) ∧ q < N + 4 then 0 else M j q
def cDr (N g : Nat) (M : gM) (t o : Nat) : gM := cKd N (gpu (gset (gset (gset M (51, t, 0) o 0) (52, t, 0) o 0) (53, t, 0) o 0) (55, t, o) 0 (N + 4) (fun _ => 0)) t o (g + 1)
theorem cKd_2 {k q : Nat} : cKd N M t o k (2, 0, 0) q = M (2, 0, 0) q := by
  unfold cKd
  rw [if_neg (fun e => absurd e.1 (by simp)), if_neg (fun e => absurd e.1.1 (by decide))]
theorem cKd_1 {k q : Nat} : cKd N M t o k (1, 0, 0) q = M (1, 0, 0) q := by
  unfold cKd
  rw [if_neg (fun e => absurd e.1 (by simp)), if_neg (fun e => absurd e.1.1 (by decide))]
theorem c_kids {A : Type} (hN : N ≤ 4) (h1 : M (1, 0, 0) 3 = nI g) (hg : g ≤ 47) (ho : o < 48) : f_X8_drop_L28 N t (nI o) 100 (nI (o + 1)) M = some (cKd N M t o (g + 1)) := by
  have H : ∀ m k fu st, o + 1 ≤ k → k + m = 49 → m < fu → st = cKd N M t o k → f_X8_drop_L28 N t (nI o) fu (nI k) st = some (cKd N M t o (max k (g + 1))) := by
    intro m
    induction m with
    | zero =>
      intro k fu st h0 hk hf e
      obtain ⟨fu, rfl⟩ : ∃ q, fu = q + 1 := ⟨fu - 1, by omega⟩
      subst e
      simp only [f_X8_drop_L28, lt_d, cKd_1, h1]
      rw [if_pos (nI_lt (by omega) (by omega)), Nat.max_eq_left (by omega)]
    | succ m ih =>
      intro k fu st h0 hk hf e
      obtain ⟨fu, rfl⟩ : ∃ q, fu = q + 1 := ⟨fu - 1, by omega⟩
      subst e
      simp only [f_X8_drop_L28, lt_d, cKd_1, h1, jn_d]
      by_cases hgk : g < k
      · rw [if_pos (nI_lt hgk (by omega)), Nat.max_eq_left (by omega)]
      · rw [if_neg (nI_nlt (by omega) (by omega)), rd_n (by omega) (by omega), cKd_2]
        by_cases hp : M (2, 0, 0) k = nI o
        · rw [if_pos hp, wr_n (by omega) (by omega), ix_n (by omega) (by omega), c_fill 0 (cN58 N t k) (by omega), o1_s, nI_1, ih (k + 1) fu _ (by omega) (by omega) (by omega) ?_]
          · congr 2; omega
          · funext j q
            rw [gpu_r, gset_r]
            unfold cKd
            by_cases e1 : j = (58, t, k) ∧ 0 ≤ q ∧ q < 0 + (N + 4)
            · obtain ⟨rfl, e1⟩ := e1
              rw [if_pos ⟨rfl, e1⟩, if_neg (by simp), if_pos ⟨⟨rfl, rfl, by show o < k; omega, by show k < k + 1; omega, hp⟩, by omega⟩]
            · rw [if_neg e1]
              by_cases e2 : j = (56, t, 0) ∧ q = k
              · obtain ⟨rfl, rfl⟩ := e2
                rw [if_pos ⟨rfl, rfl⟩, if_pos ⟨rfl, by omega, by omega, hp⟩]
              · rw [if_neg e2]
                by_cases e3 : j = (56, t, 0) ∧ o < q ∧ q < k ∧ M (2, 0, 0) q = nI o
                · rw [if_pos e3, if_pos ⟨e3.1, e3.2.1, by omega, e3.2.2.2⟩]
                · rw [if_neg e3, if_neg (fun x => e3 ⟨x.1, x.2.1, by
                    have : q ≠ k := fun y => e2 ⟨x.1, y⟩
                    omega, x.2.2.2⟩)]
                  by_cases e4 : (j.1 = 58 ∧ j.2.1 = t ∧ o < j.2.2 ∧ j.2.2 < k ∧ M (2, 0, 0) j.2.2 = nI o) ∧ q < N + 4
                  · rw [if_pos e4, if_pos ⟨⟨e4.1.1, e4.1.2.1, e4.1.2.2.1, by omega, e4.1.2.2.2.2⟩, e4.2⟩]
                  · rw [if_neg e4, if_neg (fun x => e4 ⟨⟨x.1.1, x.1.2.1, x.1.2.2.1, by
                      have : j.2.2 ≠ k := fun y => e1 ⟨by
                        obtain ⟨ja, jb, jc⟩ := j
                        have a1 := x.1.1
                        have a2 := x.1.2.1
                        dsimp only at a1 a2 y
                        rw [a1, a2, y], by omega, by omega⟩
                      omega, x.1.2.2.2.2⟩, x.2⟩)]
        · rw [if_neg hp, nI_1, ih (k + 1) fu _ (by omega) (by omega) (by omega) ?_]
          · congr 2; omega
          · funext j q
            unfold cKd
            by_cases e3 : j = (56, t, 0) ∧ o < q ∧ q < k ∧ M (2, 0, 0) q = nI o
            · rw [if_pos e3, if_pos ⟨e3.1, e3.2.1, by omega, e3.2.2.2⟩]
            · rw [if_neg e3, if_neg (fun x => e3 ⟨x.1, x.2.1, by
                have : q ≠ k := fun y => hp (y ▸ x.2.2.2)
                omega, x.2.2.2⟩)]
              by_cases e4 : (j.1 = 58 ∧ j.2.1 = t ∧ o < j.2.2 ∧ j.2.2 < k ∧ M (2, 0, 0) j.2.2 = nI o) ∧ q < N + 4
              · rw [if_pos e4, if_pos ⟨⟨e4.1.1, e4.1.2.1, e4.1.2.2.1, by omega, e4.1.2.2.2.2⟩, e4.2⟩]
              · rw [if_neg e4, if_neg (fun x => e4 ⟨⟨x.1.1, x.1.2.1, x.1.2.2.1, by
                  have : j.2.2 ≠ k := fun y => hp (y ▸ x.1.2.2.2.2)
                  omega, x.1.2.2.2.2⟩, x.2⟩)]
  have h := H (48 - o) (o + 1) 100 M (by omega) (by omega) (by omega) (by
    funext j q
    unfold cKd
    rw [if_neg (by omega), if_neg (by omega)])
  rw [h]
  congr 1
  funext j q
  unfold cKd
  by_cases hog : o ≤ g
  · rw [Nat.max_eq_right (by omega)]
  · rw [Nat.max_eq_left (by omega), if_neg (by omega), if_neg (by omega), if_neg (by omega), if_neg (by omega)]
theorem c_drop8 (hN : N ≤ 4) (h1 : M (1, 0, 0) 3 = nI g) (hg : g ≤ 47) (ho : o < 48) : f_X8_drop N M t (nI o) = some (cDr N g M t o) := by
  unfold f_X8_drop
  rw [wz_0 ho (by omega), c_setFile ho, o1_s, ix_n ho (by omega), c_fill 0 (cN55 N t o) (by omega), o1_s, lt_d, nI_1]
  refine c_kids (A := Unit) hN ?_ hg ho
  rw [gpu_r, if_neg (by simp), gset_r, if_neg (by simp), gset_r, if_neg (by simp), gset_r, if_neg (by simp)]
  exact h1
end TR
theorem i48 {a b o p : Nat} (ho : o < 48) (hp : p < 48) : (48 * a + o = 48 * b + p) = (a = b ∧ o = p) := propext ⟨fun h => by omega, fun h => by omega⟩
theorem a4 {a b : Nat} : (4 + a = 4 + b) = (a = b) := propext ⟨fun h => by omega, fun h => by omega⟩
section TQ
variable {N g c o : Nat} {M Mc Mr : gM}
theorem r_isChild {x : Nat} (h6 : M m_o 6 = nI (g + 1)) (hg : g ≤ 47) (hx : x < 48) : f_X11_isChild M (nI x) (nI o) = some (zb (decide (1 ≤ x ∧ x ≤ g ∧ M m_parent x = nI o))) := by
  unfold f_X11_isChild
  by_cases h0 : x = 0
  · subst h0
    rw [if_pos (by decide), decide_eq_false (by omega)]; rfl
  · rw [if_neg (nI_nle (by omega) (by omega)), lt_d, h6]
    by_cases h1 : g + 1 ≤ x
    · rw [if_pos (nI_le h1 (by omega)), decide_eq_false (by omega)]; rfl
    · rw [if_neg (nI_ge (by omega) (by omega)), rd_n hx (by omega)]
      by_cases h2 : M m_parent x = nI o
      · rw [if_pos h2, decide_eq_true ⟨by omega, by omega, h2⟩]; rfl
      · rw [if_neg h2, decide_eq_false (fun h => h2 h.2.2)]; rfl
/-- the reference forgets a cached copy -/
def rFg (g : Nat) (M : gM) (c o : Nat) : gM := fun j q => if (j = m_kept ∨ j = m_dirty ∨ j = m_promised) ∧ q = 48 * c + o then 0 else if j = m_keptEntry ∧ 48 * c + 1 ≤ q ∧ q ≤ 48 * c + g ∧ M m_parent (q - 48 * c) = nI o then 0 else M j q
theorem r_forget (h6 : M m_o 6 = nI (g + 1)) (hg : g ≤ 47) (hc : c < 4) (ho : o < 48) : f_X11_forget M (nI c) (nI o) = some (rFg g M c o) := by
  unfold f_X11_forget
  simp only [nI_m48, nI_add]
  rw [wz_0 (by omega) (by omega), wz_0 (by omega) (by omega), wr_n (by omega) (by omega)]
  generalize hM3 : gset (gset (gset M m_kept (48 * c + o) 0) m_dirty (48 * c + o) 0) m_promised (48 * c + o) 0 = M3
  have hf : ∀ j q, j ≠ m_kept → j ≠ m_dirty → j ≠ m_promised → M3 j q = M j q := fun j q a b d => by
    rw [← hM3, gset_r, if_neg (fun e => d e.1), gset_r, if_neg (fun e => b e.1), gset_r, if_neg (fun e => a e.1)]
  have H := loopF (σ := gM) (L := fun n k st => f_X11_forget_L38 (nI c) (nI o) n (nI k) st) (B := g + 1) (g := fun x st => if M m_parent x = nI o then gset st m_keptEntry (48 * c + x) 0 else st) (P := fun k st => 1 ≤ k ∧ st = fun j q => if j = m_keptEntry ∧ 48 * c + 1 ≤ q ∧ q < 48 * c + k ∧ M m_parent (q - 48 * c) = nI o then 0 else M3 j q) (E := some) (fun n k st hk hP => ⟨?_, by omega, ?_⟩) (fun n st hP => ?_) g 1 100 M3 (by omega) (by omega) ⟨by omega, by funext j q; rw [if_neg (by omega)]⟩
  · refine H.1.trans (congrArg some (H.2.2.trans ?_))
    funext j q
    unfold rFg
    by_cases e : (j = m_kept ∨ j = m_dirty ∨ j = m_promised) ∧ q = 48 * c + o
    · rw [if_pos e, if_neg (fun x => by rcases e.1 with y | y | y <;> exact absurd (x.1.symm.trans y) (by decide)), ← hM3]
      obtain ⟨y | y | y, rfl⟩ := e
      · subst y; rw [gset_r, if_neg (by decide), gset_r, if_neg (by decide), gset_r, if_pos ⟨rfl, rfl⟩]
      · subst y; rw [gset_r, if_neg (by decide), gset_r, if_pos ⟨rfl, rfl⟩]
      · subst y; rw [gset_r, if_pos ⟨rfl, rfl⟩]
    · rw [if_neg e]
      by_cases e2 : j = m_keptEntry ∧ 48 * c + 1 ≤ q ∧ q ≤ 48 * c + g ∧ M m_parent (q - 48 * c) = nI o
      · rw [if_pos e2, if_pos ⟨e2.1, e2.2.1, by omega, e2.2.2.2⟩]
      · rw [if_neg e2, if_neg (fun x => e2 ⟨x.1, x.2.1, by omega, x.2.2.2⟩), ← hM3, gset_r, if_neg (fun x => e ⟨Or.inr (Or.inr x.1), x.2⟩), gset_r, if_neg (fun x => e ⟨Or.inr (Or.inl x.1), x.2⟩), gset_r, if_neg (fun x => e ⟨Or.inl x.1, x.2⟩)]
  · obtain ⟨k1, rfl⟩ := hP
    have e6 : (if m_o = m_keptEntry ∧ 48 * c + 1 ≤ 6 ∧ 6 < 48 * c + k ∧ M m_parent (6 - 48 * c) = nI o then 0 else M3 m_o 6) = nI (g + 1) := by
      rw [if_neg (fun x => absurd x.1 (by decide)), hf m_o 6 (by decide) (by decide) (by decide)]; exact h6
    have ep : ∀ x, (fun (j : gI) (q : Nat) => if j = m_keptEntry ∧ 48 * c + 1 ≤ q ∧ q < 48 * c + k ∧ M m_parent (q - 48 * c) = nI o then 0 else M3 j q) m_parent x = M m_parent x := fun x => by
      show (if m_parent = m_keptEntry ∧ _ then 0 else M3 m_parent x) = _
      rw [if_neg (fun x => absurd x.1 (by decide)), hf m_parent x (by decide) (by decide) (by decide)]
    simp only [f_X11_forget_L38, lt_d, jn_d]
    rw [e6, if_neg (nI_ge (by omega) (by omega)), r_isChild (g := g) e6 hg (by omega), o1_s, ep]
    by_cases hp : M m_parent k = nI o
    · rw [decide_eq_true ⟨by omega, by omega, hp⟩, zb_t, if_neg (by decide), nI_m48, nI_add, wr_n (by omega) (by omega), nI_1, if_pos hp]
    · rw [decide_eq_false (fun x => hp x.2.2), zb_f, if_pos rfl, nI_1, if_neg hp]
  · obtain ⟨k1, rfl⟩ := hP
    funext j q
    by_cases hp : M m_parent k = nI o
    · rw [if_pos hp, gset_r]
      by_cases e : j = m_keptEntry ∧ q = 48 * c + k
      · obtain ⟨rfl, rfl⟩ := e
        rw [if_pos ⟨rfl, rfl⟩, if_pos ⟨rfl, by omega, by omega, by rw [show 48 * c + k - 48 * c = k by omega]; exact hp⟩]
      · rw [if_neg e]
        by_cases e2 : j = m_keptEntry ∧ 48 * c + 1 ≤ q ∧ q < 48 * c + k ∧ M m_parent (q - 48 * c) = nI o
        · rw [if_pos e2, if_pos ⟨e2.1, e2.2.1, by omega, e2.2.2.2⟩]
        · rw [if_neg e2, if_neg (fun x => e2 ⟨x.1, x.2.1, by
            have : q ≠ 48 * c + k := fun y => e ⟨x.1, y⟩
            omega, x.2.2.2⟩)]
    · rw [if_neg hp]
      by_cases e2 : j = m_keptEntry ∧ 48 * c + 1 ≤ q ∧ q < 48 * c + k ∧ M m_parent (q - 48 * c) = nI o
      · rw [if_pos e2, if_pos ⟨e2.1, e2.2.1, by omega, e2.2.2.2⟩]
      · rw [if_neg e2, if_neg (fun x => e2 ⟨x.1, x.2.1, by
          have : q ≠ 48 * c + k := fun y => hp (by
            have z := x.2.2.2
            rw [y, show 48 * c + k - 48 * c = k by omega] at z
            exact z)
          omega, x.2.2.2⟩)]
  · obtain ⟨k1, rfl⟩ := hP
    have e6 : (if m_o = m_keptEntry ∧ 48 * c + 1 ≤ 6 ∧ 6 < 48 * c + (g + 1) ∧ M m_parent (6 - 48 * c) = nI o then 0 else M3 m_o 6) = nI (g + 1) := by
      rw [if_neg (fun x => absurd x.1 (by decide)), hf m_o 6 (by decide) (by decide) (by decide)]; exact h6
    simp only [f_X11_forget_L38, lt_d]
    rw [e6, if_pos (nI_le (by omega) (by omega))]
/-- a client drops a copy -/
def cDp (N g : Nat) (M : gM) (c o : Nat) : gM := gset (gset (cDr N g M (4 + c) o) (32, c, 0) o 0) (33, c, 0) o 0
theorem c_drop1 (hN : N ≤ 4) (h1 : M (1, 0, 0) 3 = nI g) (hg : g ≤ 47) (ho : o < 48) : f_X1_drop N M c (nI o) = some (cDp N g M c o) := by
  unfold f_X1_drop
  rw [c_drop8 hN h1 hg ho, o1_s, wr_n ho (by omega), wz_0 ho (by omega)]
  rfl
end TQ
