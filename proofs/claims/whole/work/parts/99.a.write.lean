/-! layer 2: write at the servers near -/
def rWn (M : gM) (c o z : Nat) (a3 : Int32) : Option (Int64 × gM) := o1 (f_X11_nearSet M (nI c)) (fun v21 => o1 (f_X11_setOf M v21 (nI o) m_gotVector) (fun v23 => lt (gset M m_o 51 v23) (fun M24 => o1 (f_X11_putValue M24 (nI o) a3 (nI z)) (fun M26 => lt ((((48 : Int32) * nI c) + nI o)) (fun x27 => rd M26 m_kept 192 x27 (fun v28 => jn (fun (M29 : gM) => rd M29 m_kept 192 x27 (fun v30 => jn (fun (M31 : gM) => o1 (f_X11_follow M31 (nI c) (nI o)) (fun M33 => lt (M33 m_o 51) (fun v34 => o1 (f_X11_manyOf M33 v34) (fun v36 => some (v36.toInt64, M33))))) (fun J215 => (if v30 = 0 then J215 M29 else wr M29 m_keptValue 192 x27 a3 (fun M38 => wr M38 m_keptSize 192 x27 (nI z) (fun M39 => J215 M39)))))) (fun J188 => (if v28 = 0 then J188 M26 else o1 (f_X11_weight M26 (nI o) (nI z)) (fun v42 => o1 (f_X11_weightKept M26 (nI c) (nI o)) (fun v44 => ob (f_X11_makeRoom M26 (nI c) (v42 - v44) (nI o) (10 : Int32)) (fun v47 M46 => (if v47 = 0 then o1 (f_X11_forget M46 (nI c) (nI o)) (fun M50 => J188 M50) else J188 M46))))))))))))
section WR
variable {N g B s o c d x z T : Nat} {M M' Mc Mr Mc' Mr' : gM} {v w a3 : Int32}
theorem mo_eq {a b : Nat} (ha : a ≤ 6) (hb : b ≤ 6) : (1 + nI a) - nI (1 + b) = nI a - nI b ∧ -100 ≤ (nI a - nI b).toInt ∧ (nI a - nI b).toInt ≤ 100 ∧ (nI a - nI b).toInt = (a : Int) - b := by
  have h : ∀ a, a ≤ 6 → ∀ b, b ≤ 6 → (1 + nI a) - nI (1 + b) = nI a - nI b ∧ (nI a - nI b).toInt = (a : Int) - b := by decide +kernel
  obtain ⟨h1, h2⟩ := h a ha b hb
  exact ⟨h1, by omega, by omega, h2⟩
/-- a held file's value and size in a cache -/
theorem Rel.kfil (hN : N ≤ 4) (hc4 : c < 4) (ho : o < 48) (R : Rel N g Mc Mr) (hh : ¬ Mc (51, 4 + c, 0) o = 0) (hd : Mc (4, 0, 0) o = 0) : Rel N g (gset (gset Mc (52, 4 + c, 0) o v) (53, 4 + c, 0) o w) (gset (gset Mr m_keptValue (48 * c + o) v) m_keptSize (48 * c + o) w) := by
  have hc : cf (fun j q => (j = (52, 4 + c, 0) ∨ j = (53, 4 + c, 0)) ∧ q = o) Mc (gset (gset Mc (52, 4 + c, 0) o v) (53, 4 + c, 0) o w) := (cf.st ⟨Or.inl rfl, rfl⟩).tr (cf.st ⟨Or.inr rfl, rfl⟩)
  have hr : cf (fun j q => (j = m_keptValue ∨ j = m_keptSize) ∧ q = 48 * c + o) Mr (gset (gset Mr m_keptValue (48 * c + o) v) m_keptSize (48 * c + o) w) := (cf.st ⟨Or.inl rfl, rfl⟩).tr (cf.st ⟨Or.inr rfl, rfl⟩)
  refine R.kmix hN hc4 ho (hc.mo ?_) (hr.mo ?_) ?_
  · rintro j q ⟨rfl | rfl, rfl⟩ <;> (unfold kKl; dsimp only; omega)
  · rintro j q ⟨rfl | rfl, rfl⟩ <;> (unfold lKl; dsimp only; omega)
  · obtain ⟨f1, f2, f3, f4, f5, f6, f7, f8⟩ := R.kl hc4 ho
    have hd' : Mr m_isDirectory o = 0 := by rw [← (R.ct.2.2 o ho).2.2]; exact hd
    have hh' : ¬ Mr m_kept (48 * c + o) = 0 := by rw [← f1]; exact hh
    have e : ∀ (j : gI) q, j.1 ≠ 52 → j.1 ≠ 53 → gset (gset Mc (52, 4 + c, 0) o v) (53, 4 + c, 0) o w j q = Mc j q := fun j q h1 h2 => hc _ _ (fun z => z.1.elim (fun z => h1 (by rw [z])) (fun z => h2 (by rw [z])))
    have e' : ∀ (j : gI) q, j.1 ≠ 23 → j.1 ≠ 24 → gset (gset Mr m_keptValue (48 * c + o) v) m_keptSize (48 * c + o) w j q = Mr j q := fun j q h1 h2 => hr _ _ (fun z => z.1.elim (fun z => h1 (by rw [z])) (fun z => h2 (by rw [z])))
    refine ⟨?_, ?_, ?_, fun k hk => ?_, ?_, ?_, ?_, ?_⟩
    · rw [e _ _ (by simp) (by simp), e' _ _ (by simp) (by simp)]; exact f1
    · rw [e' m_kept _ (by simp) (by simp), e' m_isDirectory _ (by simp) (by simp), if_neg (fun z => z.elim hh' (fun z => z hd')), gset_r, if_neg (by simp), gset_r, if_pos ⟨rfl, rfl⟩, gset_r, if_neg (by simp), gset_r, if_pos ⟨rfl, rfl⟩]
    · rw [e' m_kept _ (by simp) (by simp), e' m_isDirectory _ (by simp) (by simp), if_neg (fun z => z.elim hh' (fun z => z hd')), gset_r, if_pos ⟨rfl, rfl⟩, gset_r, if_pos ⟨rfl, rfl⟩]
    · rw [e _ _ (by simp) (by simp), e' _ _ (by simp) (by simp), e' _ _ (by simp) (by simp)]; exact f4 k hk
    · rw [e _ _ (by simp) (by simp), e' _ _ (by simp) (by simp)]; exact f5
    · rw [e _ _ (by simp) (by simp), e' _ _ (by simp) (by simp)]; exact f6
    · rw [e _ _ (by simp) (by simp), e' _ _ (by simp) (by simp)]; exact f7
    · rw [e _ _ (by simp) (by simp), e' _ _ (by simp) (by simp)]; exact f8
theorem wt_file {y : Nat} (hh : Mc (51, 4 + c, 0) o = 1) (hd : Mc (4, 0, 0) o = 0) (hy : y ≤ 6) (e : Mc (53, 4 + c, 0) o = nI y) : wt Mc c o = 1 + y := by
  unfold wt
  rw [if_neg (by rw [hh]; decide), if_pos hd, e, nI_clamp (by omega)]
/-- a file's size in a cache changes, within the room -/
theorem kfil_inv {y : Nat} (hN : N ≤ 4) (hc4 : c < 4) (ho : o < 48) (I : Inv N g M) (hz : z ≤ 6) (hh : M (51, 4 + c, 0) o = 1) (hd : M (4, 0, 0) o = 0) (hy : y ≤ 6 ∧ M (53, 4 + c, 0) o = nI y) (hw : (nI z - nI y).toInt + wsum (wt M c) 48 ≤ 24) : Inv N g (gset (gset M (52, 4 + c, 0) o v) (53, 4 + c, 0) o (nI z)) := by
  have hc : cf (fun j q => (j = (52, 4 + c, 0) ∨ j = (53, 4 + c, 0)) ∧ q = o) M (gset (gset M (52, 4 + c, 0) o v) (53, 4 + c, 0) o (nI z)) := (cf.st ⟨Or.inl rfl, rfl⟩).tr (cf.st ⟨Or.inr rfl, rfl⟩)
  have e53 : gset (gset M (52, 4 + c, 0) o v) (53, 4 + c, 0) o (nI z) (53, 4 + c, 0) o = nI z := by rw [gset_r, if_pos ⟨rfl, rfl⟩]
  have e : ∀ (j : gI) q, j.1 ≠ 52 → j.1 ≠ 53 → gset (gset M (52, 4 + c, 0) o v) (53, 4 + c, 0) o (nI z) j q = M j q := fun j q h1 h2 => hc _ _ (fun z => z.1.elim (fun z => h1 (by rw [z])) (fun z => h2 (by rw [z])))
  have nr : ∀ c', cNr N (gset (gset M (52, 4 + c, 0) o v) (53, 4 + c, 0) o (nI z)) c' = cNr N M c' := fun c' => cNr.fr hN hc (by simp) (fun q _ => by simp)
  have hg := I.1.1
  refine I.cli hN (hc.mo ?_) (fun c' h' o' ho' => ?_) (fun c' h' => ?_) (fun c' h' => (I.2.2.2.2.2.2.1 c' h').fr hg hc ?_)
  · rintro j q ⟨rfl | rfl, rfl⟩ <;> (unfold aKl; dsimp only; omega)
  · by_cases q : c' = c ∧ o' = o
    · obtain ⟨rfl, rfl⟩ := q
      have i0 := I.2.2.2.2.1 c' h' o' ho'
      unfold iKl at i0 ⊢
      rw [nr, e53, e _ _ (by simp) (by simp), e _ _ (by simp) (by simp), e _ _ (by simp) (by simp), e _ _ (by simp) (by simp), e _ _ (by simp) (by simp)]
      obtain ⟨i1, i2, i3, i4, i5, i6, i7, i8, i9⟩ := i0
      exact ⟨i1, i2, i3, i4, i5, i6, i7, ⟨z, hz, rfl⟩, i9⟩
    · refine (I.2.2.2.2.1 c' h' o' ho').fr hN hc ?_
      rintro j p h ⟨rfl | rfl, rfl⟩ <;> (revert h; unfold eKl; dsimp only; omega)
  · by_cases q : c' = c
    · subst q
      have h0 : wsum (wt (gset (gset M (52, 4 + c', 0) o v) (53, 4 + c', 0) o (nI z)) c') 48 + wt M c' o = wsum (wt M c') 48 + wt (gset (gset M (52, 4 + c', 0) o v) (53, 4 + c', 0) o (nI z)) c' o := wsum_put 48 ho (fun k hk hne => by
        unfold wt
        rw [e (51, 4 + c', 0) k (by simp) (by simp), e (4, 0, 0) k (by simp) (by simp), hc (53, 4 + c', 0) k (fun z => hne z.2)])
      rw [wt_file hh hd hy.1 hy.2, wt_file (by rw [e _ _ (by simp) (by simp)]; exact hh) (by rw [e _ _ (by simp) (by simp)]; exact hd) hz e53] at h0
      rw [(mo_eq hz hy.1).2.2.2] at hw
      unfold iWt
      omega
    · refine (I.2.2.2.2.2.1 c' h').fr hc ?_
      rintro j p h ⟨rfl | rfl, rfl⟩ <;> (revert h; unfold eWt; dsimp only; omega)
  · rintro j p h ⟨rfl | rfl, rfl⟩ <;> (revert h; unfold eLg; dsimp only; omega)
end WR
