/-! layer 2: a use -/
section US
variable {N g B c o : Nat} {M Mc Mr : gM}
def cUs (M : gM) (c o : Nat) : gM := gset (gset M (30, c, 0) 9 (M (30, c, 0) 9 + 1)) (34, c, 0) o (M (30, c, 0) 9 + 1)
def rUs (M : gM) (c o : Nat) : gM := gset (gset (gset M m_o 32 (M m_o 32 + 1)) m_usedAt (48 * c + o) (M m_o 32 + 1)) m_usedBy (48 * c + o) (M m_o 33)
theorem c_use (ho : o < 48) : f_X1_use N M c (nI o) = some (cUs M c o) := by
  unfold f_X1_use cUs
  simp only [lt_d]
  rw [wr_n ho (by omega), gset_r M, if_pos ⟨rfl, rfl⟩]
theorem r_use (hc : c < 4) (ho : o < 48) : f_X11_use M (nI c) (nI o) = some (rUs M c o) := by
  unfold f_X11_use rUs
  simp only [lt_d, nI_m48, nI_add]
  rw [wr_n (by omega) (by omega), wr_n (by omega) (by omega), gset_r M, if_pos ⟨rfl, rfl⟩, gset_r _ m_usedAt _ _ m_o, if_neg (by simp), gset_r M, if_neg (by simp)]
theorem cUs_fr : cf (fun j q => (j.1 = 30 ∧ j.2.1 = c ∧ q = 9) ∨ (j.1 = 34 ∧ j.2.1 = c ∧ q = o)) M (cUs M c o) := (cf.st (Or.inl ⟨rfl, rfl, rfl⟩)).tr (cf.st (Or.inr ⟨rfl, rfl, rfl⟩))
theorem rUs_fr : cf (fun j q => (j.1 = 0 ∧ q = 32) ∨ ((j.1 = 28 ∨ j.1 = 29) ∧ q = 48 * c + o)) M (rUs M c o) := ((cf.st (Or.inl ⟨rfl, rfl⟩)).tr (cf.st (Or.inr ⟨Or.inl rfl, rfl⟩))).tr (cf.st (Or.inr ⟨Or.inr rfl, rfl⟩))
theorem cUs_9 : cUs M c o (30, c, 0) 9 = M (30, c, 0) 9 + 1 := by
  unfold cUs
  rw [gset_r, if_neg (by simp), gset_r, if_pos ⟨rfl, rfl⟩]
theorem cUs_34 (p : Nat) : cUs M c o (34, c, 0) p = if p = o then M (30, c, 0) 9 + 1 else M (34, c, 0) p := by
  unfold cUs
  rw [gset_r]
  by_cases e : p = o
  · rw [if_pos ⟨rfl, e⟩, if_pos e]
  · rw [if_neg (fun x => e x.2), if_neg e, gset_r, if_neg (by simp)]
theorem rUs_28 (p : Nat) : rUs M c o m_usedAt (48 * c + p) = if p = o then M m_o 32 + 1 else M m_usedAt (48 * c + p) := by
  unfold rUs
  rw [gset_r, if_neg (by simp), gset_r]
  by_cases e : p = o
  · rw [if_pos ⟨rfl, by omega⟩, if_pos e]
  · rw [if_neg (fun x => e (by omega)), if_neg e, gset_r, if_neg (by simp)]
theorem rUs_29 (p : Nat) : rUs M c o m_usedBy (48 * c + p) = if p = o then M m_o 33 else M m_usedBy (48 * c + p) := by
  unfold rUs
  rw [gset_r]
  by_cases e : p = o
  · rw [if_pos ⟨rfl, by omega⟩, if_pos e]
  · rw [if_neg (fun x => e (by omega)), if_neg e, gset_r, if_neg (by simp), gset_r, if_neg (by simp)]
theorem usd_cuse (ho : o < 48) (hB : B ≤ 900000) (U : Usd B Mc Mr) : Usd (B + 1) (cUs Mc c o) Mr := by
  obtain ⟨K, J, k1, k2, k3, k4, k5⟩ := U
  have fc := cUs_fr (c := c) (o := o) (M := Mc)
  refine ⟨K, J, by omega, by omega, k3, k4, fun d hd => ?_⟩
  obtain ⟨v, v1, v2, v3⟩ := k5 d hd
  by_cases e : d = c
  · subst e
    refine ⟨v + 1, by omega, by rw [cUs_9, v2, nI_1], fun p hp => ?_⟩
    obtain ⟨⟨a1, a2, a3⟩, ⟨a4, a5, a6⟩, ⟨a7, a8, a9⟩⟩ := v3 p hp
    refine ⟨?_, ⟨a4, by omega, a6⟩, ⟨a7, by omega, a9⟩⟩
    rw [cUs_34, v2, nI_1]
    by_cases e : p = o
    · rw [if_pos e]; exact ⟨v + 1, by omega, rfl⟩
    · rw [if_neg e]; exact ⟨a1, by omega, a3⟩
  · refine ⟨v, by omega, by rw [fc _ _ (by dsimp only; omega)]; exact v2, fun p hp => ?_⟩
    rw [fc _ _ (by dsimp only; omega)]
    exact v3 p hp
theorem usd_ruse (hc : c < 4) (ho : o < 48) (hB : B ≤ 900000) (U : Usd B Mc Mr) : Usd (B + 1) Mc (rUs Mr c o) := by
  obtain ⟨K, J, k1, k2, k3, k4, k5⟩ := U
  have fr := rUs_fr (c := c) (o := o) (M := Mr)
  refine ⟨K + 1, J, by omega, by omega, ?_, ?_, fun d hd => ?_⟩
  · unfold rUs
    rw [gset_r, if_neg (by simp), gset_r, if_neg (by simp), gset_r, if_pos ⟨rfl, rfl⟩, k3, nI_1]
  · rw [fr _ _ (by dsimp only; omega)]; exact k4
  · obtain ⟨v, v1, v2, v3⟩ := k5 d hd
    refine ⟨v, by omega, v2, fun p hp => ?_⟩
    obtain ⟨a, ⟨a4, a5, a6⟩, ⟨a7, a8, a9⟩⟩ := v3 p hp
    by_cases e : d = c
    · subst e
      rw [rUs_28, rUs_29, k3, k4, nI_1]
      by_cases e : p = o
      · rw [if_pos e, if_pos e]
        exact ⟨a, ⟨K + 1, by omega, rfl⟩, ⟨J, by omega, rfl⟩⟩
      · rw [if_neg e, if_neg e]
        exact ⟨a, ⟨a4, by omega, a6⟩, ⟨a7, by omega, a9⟩⟩
    · rw [fr m_usedAt _ (by dsimp only; omega), fr m_usedBy _ (by dsimp only; omega)]
      exact ⟨a, ⟨a4, by omega, a6⟩, ⟨a7, by omega, a9⟩⟩
/-- o was used last -/
def uTop (c o : Nat) (M : gM) : Prop := ∃ w u, w < u ∧ u ≤ 1000000 ∧ M (30, c, 0) 10 = nI w ∧ M (30, c, 0) 9 = nI u ∧ M (34, c, 0) o = nI u ∧ ∀ p, p < 48 → p ≠ o → ∃ a, a < u ∧ M (34, c, 0) p = nI a
theorem top_use (hc : c < 4) (hB : B ≤ 900000) (U : Usd B Mc Mr) {x : Nat} (W : uNow c x Mc Mr) : uTop c o (cUs Mc c o) := by
  obtain ⟨K, J, k1, k2, k3, k4, k5⟩ := U
  obtain ⟨⟨w, u, w1, w2, w3, w4⟩, -⟩ := W
  obtain ⟨v, v1, v2, v3⟩ := k5 c hc
  have hv : v = u := (nI_eq (by omega) (by omega)).mp (v2.symm.trans w4)
  subst hv
  have fc := cUs_fr (c := c) (o := o) (M := Mc)
  refine ⟨w, v + 1, by omega, by omega, by rw [fc _ _ (by dsimp only; omega)]; exact w3, by rw [cUs_9, v2, nI_1], by rw [cUs_34, if_pos rfl, v2, nI_1], fun p hp hn => ?_⟩
  obtain ⟨⟨a, a1, a2⟩, -⟩ := v3 p hp
  exact ⟨a, by omega, by rw [cUs_34, if_neg hn]; exact a2⟩
/-- the class uses it first -/
theorem use_class (hN : N ≤ 4) (hc : c < 4) (ho : o < 48) (hB : B ≤ 900000) (h : CI N g B c 48 Mc Mr) : CI N g (B + 1) c o (cUs Mc c o) Mr := by
  obtain ⟨R, I, U, O, W⟩ := h
  have ht := top_use (o := o) hc hB U W
  have fc := cUs_fr (c := c) (o := o) (M := Mc)
  refine ⟨R.fr hN (fc.mo ?_) (cf.rf _ _), I.fr hN (fc.mo ?_), usd_cuse ho hB U, fun d hd => ?_, ?_, fun p hp hne hh => ?_⟩
  · intro j q; unfold csc; omega
  · intro j q; unfold csc; omega
  · have u := O d hd
    by_cases e : d = c
    · subst e
      rw [if_pos rfl] at u ⊢
      intro a b ha hb n1 n2 x1 x2
      rw [fc _ _ (by dsimp only; omega)] at x1 x2
      rw [cUs_34, cUs_34, if_neg n1, if_neg n2]
      exact u a b ha hb (by omega) (by omega) x1 x2
    · rw [if_neg e] at u ⊢
      exact u.fr (fun q _ => fc _ _ (by dsimp only; omega)) (fun q _ _ h => by rw [fc _ _ (by dsimp only; omega)] at h; exact h) (fun q _ => rfl)
  · obtain ⟨w, u, w1, w2, w3, w4, -⟩ := ht
    exact ⟨w, u, by omega, w2, w3, w4⟩
  · rw [fc _ _ (by dsimp only; omega)] at hh
    rw [cUs_34, if_neg hne, fc (30, c, 0) 10 (by dsimp only; omega)]
    exact W.2 p hp (by omega) hh
/-- then the reference -/
theorem use_ref (hN : N ≤ 4) (hc : c < 4) (ho : o < 48) (hB : B ≤ 900000) (h : CI N g B c o Mc Mr) (ht : uTop c o Mc) : CI N g (B + 1) c 48 Mc (rUs Mr c o) := by
  obtain ⟨R, I, U, O, W⟩ := h
  have fr := rUs_fr (c := c) (o := o) (M := Mr)
  obtain ⟨w, u, w1, w2, w3, w4, w5, w6⟩ := ht
  refine ⟨R.fr hN (cf.rf _ _) (fr.mo ?_), I, usd_ruse hc ho hB U, fun d hd => ?_, ⟨w, u, by omega, w2, w3, w4⟩, fun p hp _ hh => ?_⟩
  · intro j q; unfold rsc; omega
  · have uo := O d hd
    by_cases e : d = c
    · subst e
      rw [if_pos rfl] at uo ⊢
      obtain ⟨K, J, k1, k2, k3, k4, k5⟩ := U
      obtain ⟨v, v1, v2, v3⟩ := k5 d hd
      intro a b ha hb _ _ x1 x2
      rw [rUs_28, rUs_28, k3, nI_1]
      obtain ⟨-, ⟨a4, a5, a6⟩, -⟩ := v3 a ha
      obtain ⟨-, ⟨b4, b5, b6⟩, -⟩ := v3 b hb
      by_cases ea : a = o
      · subst ea
        rw [if_pos rfl, w5]
        by_cases eb : b = a
        · subst eb
          rw [if_pos rfl, w5]
          exact ⟨fun x => (Int32.lt_irrefl x).elim, fun x => (Int32.lt_irrefl x).elim⟩
        · obtain ⟨y, y1, y2⟩ := w6 b hb eb
          rw [if_neg eb, y2, b6]
          exact ⟨fun x => absurd x (nI_nlt (by omega) (by omega)), fun x => absurd x (nI_nlt (by omega) (by omega))⟩
      · rw [if_neg ea]
        by_cases eb : b = o
        · subst eb
          obtain ⟨y, y1, y2⟩ := w6 a ha ea
          rw [if_pos rfl, w5, y2, a6]
          exact ⟨fun _ => nI_lt (by omega) (by omega), fun _ => nI_lt (by omega) (by omega)⟩
        · rw [if_neg eb]
          exact uo a b ha hb ea eb x1 x2
    · rw [if_neg e] at uo ⊢
      exact uo.fr (fun q _ => rfl) (fun q _ _ h => h) (fun q _ => fr _ _ (by dsimp only; omega))
  · rw [rUs_29, fr m_o 33 (by dsimp only; omega)]
    by_cases e : p = o
    · subst e
      rw [if_pos rfl, w3, w5]
      exact ⟨fun x => absurd x (nI_ge (by omega) (by omega)), fun x => absurd rfl x⟩
    · rw [if_neg e]
      exact W.2 p hp e hh
theorem use_both (hN : N ≤ 4) (hc : c < 4) (ho : o < 48) (hB : B ≤ 899999) (h : CI N g B c 48 Mc Mr) : CI N g (B + 2) c 48 (cUs Mc c o) (rUs Mr c o) := use_ref hN hc ho (by omega) (use_class hN hc ho (by omega) h) (top_use hc (by omega) h.2.2.1 h.2.2.2.2)
end US
