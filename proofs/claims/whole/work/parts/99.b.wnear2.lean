/-! layer 2: a client that is not alone writes, both in step -/
section W2
variable {N g B s o c d x z T : Nat} {M M2 M3 M6 M' Mc Mr Mc' Mr' : gM} {v w a3 : Int32}
theorem rFl_n {j : gI} {q : Nat} (h1 : j.1 ≠ 25) (h2 : j.1 ≠ 26) : rFl N M c o j q = M j q := rFl_fr _ _ (by omega)
theorem rFl_nf {j : gI} (h1 : j ≠ m_keptVector) (h2 : j ≠ m_promised) : rFl N M c o j = M j := by
  funext q
  unfold rFl rEp
  rw [if_neg (fun z => h2 z.1)]
  by_cases h : M m_kept (48 * c + o) = 0
  · rw [if_pos h]
  · rw [if_neg h, gset_r, if_neg (fun z => h2 z.1), gpu_ne h1]
theorem rFl_p {q : Nat} (hq : q ≠ 48 * c + o) : rFl N M c o m_promised q = if q < 192 ∧ q % 48 = o ∧ ¬ nI (q / 48) = nI c then M m_promised q &&& (M m_o 51 ^^^ (-1 : Int32)) else M m_promised q := by
  have e : (if M m_kept (48 * c + o) = 0 then M else gset (gpu M m_keptVector (8 * (48 * c + o)) N (fun k => if bt (M m_o 51) k = true then M m_marks (48 * k + o) else M m_keptVector (8 * (48 * c + o) + k))) m_promised (48 * c + o) (M m_o 51 &&& (M m_o 52 ^^^ (-1 : Int32)))) m_promised q = M m_promised q := by
    by_cases h : M m_kept (48 * c + o) = 0
    · rw [if_pos h]
    · rw [if_neg h, gset_r, if_neg (fun z => hq z.2), gpu_ne (by decide)]
  unfold rFl rEp
  rw [e]
  by_cases y : q < 192 ∧ q % 48 = o ∧ ¬ nI (q / 48) = nI c
  · rw [if_pos ⟨rfl, y⟩, if_pos y]
  · rw [if_neg (fun z => y z.2), if_neg y]
theorem rFl_q : rFl N M c o m_promised (48 * c + o) = if M m_kept (48 * c + o) = 0 then M m_promised (48 * c + o) else M m_o 51 &&& (M m_o 52 ^^^ (-1 : Int32)) := by
  have e : ¬ (m_promised = m_promised ∧ 48 * c + o < 192 ∧ (48 * c + o) % 48 = o ∧ ¬ nI ((48 * c + o) / 48) = nI c) := fun u => by
    by_cases h : o < 48
    · exact u.2.2.2 (by rw [show (48 * c + o) / 48 = c by omega])
    · omega
  unfold rFl rEp
  rw [if_neg e]
  by_cases h : M m_kept (48 * c + o) = 0
  · rw [if_pos h, if_pos h]
  · rw [if_neg h, if_neg h, gset_r, if_pos ⟨rfl, rfl⟩]
theorem rFl_v {q : Nat} (h : ¬ M m_kept (48 * c + o) = 0) : rFl N M c o m_keptVector q = if 8 * (48 * c + o) ≤ q ∧ q < 8 * (48 * c + o) + N then (if bt (M m_o 51) (q - 8 * (48 * c + o)) = true then M m_marks (48 * (q - 8 * (48 * c + o)) + o) else M m_keptVector (8 * (48 * c + o) + (q - 8 * (48 * c + o)))) else M m_keptVector q := by
  unfold rFl rEp
  rw [if_neg (by simp), if_neg h, gset_r, if_neg (by simp), gpu_r]
  by_cases y : 8 * (48 * c + o) ≤ q ∧ q < 8 * (48 * c + o) + N
  · rw [if_pos ⟨rfl, y⟩, if_pos y]
  · rw [if_neg (fun z => y z.2), if_neg y]
theorem fl_comm (px : pX M2 (rFl N M2 c o) M3 M6) (hk : ¬ M2 m_kept (48 * c + o) = 0) (hk3 : ¬ M3 m_kept (48 * c + o) = 0) (hm : M6 m_marks = M2 m_marks) (h1 : M6 m_o 51 = M2 m_o 51) (h2 : M6 m_o 52 = M2 m_o 52) (hp : M6 m_promised (48 * c + o) = M2 m_o 51 &&& (M2 m_o 52 ^^^ (-1 : Int32))) : rFl N (gset (gset M3 m_keptValue (48 * c + o) a3) m_keptSize (48 * c + o) w) c o = gset (gset M6 m_keptValue (48 * c + o) a3) m_keptSize (48 * c + o) w := by
  obtain ⟨p1, p2, p3, p4⟩ := px
  have e : ∀ (M : gM) (j : gI), j ≠ m_keptValue → j ≠ m_keptSize → gset (gset M m_keptValue (48 * c + o) a3) m_keptSize (48 * c + o) w j = M j := fun M j x1 x2 => by
    funext q
    rw [gset_r, if_neg (fun z => x2 z.1), gset_r, if_neg (fun z => x1 z.1)]
  have eo : M3 m_o = M6 m_o := p1 _ (by decide) (by decide)
  funext j q
  by_cases j26 : j = m_promised
  · subst j26
    by_cases y : q = 48 * c + o
    · subst y
      rw [rFl_q, e _ _ (by decide) (by decide), if_neg hk3, e _ m_o (by decide) (by decide), e _ m_promised (by decide) (by decide), eo, h1, h2, hp]
    · rw [rFl_p y, e _ _ (by decide) (by decide), e _ m_o (by decide) (by decide), e _ m_promised (by decide) (by decide), eo, h1]
      rcases p4 q with ⟨a, b⟩ | ⟨a, b⟩
      · rw [a, b, rFl_p y]
      · rw [a, b, Int32.zero_and]
        by_cases u : q < 192 ∧ q % 48 = o ∧ ¬ nI (q / 48) = nI c
        · rw [if_pos u]
        · rw [if_neg u]
  · by_cases j25 : j = m_keptVector
    · subst j25
      rw [rFl_v (by rw [e _ _ (by decide) (by decide)]; exact hk3), e _ m_keptVector (by decide) (by decide), e _ m_keptVector (by decide) (by decide), e _ m_o (by decide) (by decide), e _ m_marks (by decide) (by decide), p2, p3, rFl_v hk, eo, h1, p1 m_marks (by decide) (by decide), hm]
    · have hj : rFl N (gset (gset M3 m_keptValue (48 * c + o) a3) m_keptSize (48 * c + o) w) c o j q = gset (gset M3 m_keptValue (48 * c + o) a3) m_keptSize (48 * c + o) w j q := by
        unfold rFl rEp
        rw [if_neg (fun z => j26 z.1), e _ m_kept (by decide) (by decide), if_neg hk3, gset_r, if_neg (fun z => j26 z.1), gpu_ne j25]
      rw [hj, gset_r, gset_r, gset_r, gset_r, p1 j j25 j26]
/-- the file didn't fit: both forget it -/
theorem fl_fall (hg : g ≤ 47) (hN : N ≤ 4) (hc4 : c < 4) (ho : o < 48) (R : Rel N g Mc' (rFg g (rFl N M2 c o) c o)) (h0 : Mc' (51, 4 + c, 0) o = 0) (px : pX M2 (rFl N M2 c o) M3 (rFl N M2 c o)) (h1 : M3 m_o 51 = M2 m_o 51) : Rel N g Mc' (rFl N (rFg g M3 c o) c o) ∧ cf (fun j q => j.1 = 25) (rFg g (rFl N M2 c o) c o) (rFl N (rFg g M3 c o) c o) := by
  obtain ⟨p1, p2, p3, p4⟩ := px
  have hk0 : rFg g M3 c o m_kept (48 * c + o) = 0 := by rw [rFg_k (Or.inl rfl) ho ho, if_pos rfl]
  have hcf : cf (fun j q => j = m_keptVector ∧ 8 * (48 * c + o) ≤ q ∧ q < 8 * (48 * c + o) + 8) (rFg g (rFl N M2 c o) c o) (rFl N (rFg g M3 c o) c o) := fun j q hn => by
    by_cases j26 : j = m_promised
    · subst j26
      by_cases y : q = 48 * c + o
      · subst y
        rw [rFl_q, if_pos hk0, rFg_k (Or.inr (Or.inr rfl)) ho ho, if_pos rfl, rFg_k (Or.inr (Or.inr rfl)) ho ho, if_pos rfl]
      · have e : ∀ M : gM, rFg g M c o m_promised q = M m_promised q := fun M => by
          unfold rFg
          rw [if_neg (fun z => y z.2), if_neg (by simp)]
        rw [rFl_p y, e, e, rFg_fr hg m_o 51 (by dsimp only; omega), h1]
        rcases p4 q with ⟨a, b⟩ | ⟨a, b⟩
        · rw [a, rFl_p y]
        · rw [a, b, Int32.zero_and]
          by_cases u : q < 192 ∧ q % 48 = o ∧ ¬ nI (q / 48) = nI c
          · rw [if_pos u]
          · rw [if_neg u]
    · have hj : rFl N (rFg g M3 c o) c o j q = rFg g M3 c o j q := by
        unfold rFl rEp
        rw [if_neg (fun z => j26 z.1), if_pos hk0]
      rw [hj]
      by_cases j25 : j = m_keptVector
      · subst j25
        have e : ∀ M : gM, rFg g M c o m_keptVector q = M m_keptVector q := fun M => by
          unfold rFg
          rw [if_neg (by simp), if_neg (by simp)]
        rw [e, e, p2]
        by_cases hk : M2 m_kept (48 * c + o) = 0
        · unfold rFl rEp
          rw [if_neg (by simp), if_pos hk]
        · rw [rFl_v hk, if_neg (fun z => hn ⟨rfl, z.1, by omega⟩)]
      · unfold rFg
        rw [p1 j j25 j26, p1 m_parent (by decide) (by decide)]
  refine ⟨R.kmix hN hc4 ho (cf.rf _ _) (hcf.mo ?_) ?_, hcf.mo (fun j q h => by rw [h.1])⟩
  · rintro j q ⟨rfl, x1, x2⟩; unfold lKl; dsimp only; omega
  · obtain ⟨f1, f2, f3, f4, f5, f6, f7, f8⟩ := R.kl hc4 ho
    have e' : ∀ (j : gI) q, j.1 ≠ 25 → rFl N (rFg g M3 c o) c o j q = rFg g (rFl N M2 c o) c o j q := fun j q h => hcf _ _ (fun z => h (by rw [z.1]))
    refine ⟨?_, ?_, ?_, fun k hk => ?_, ?_, ?_, ?_, ?_⟩
    · rw [e' _ _ (by simp)]; exact f1
    · rw [e' _ _ (by simp), e' _ _ (by simp), e' _ _ (by simp)]; exact f2
    · rw [e' _ _ (by simp), e' _ _ (by simp), e' _ _ (by simp)]; exact f3
    · rw [e' m_kept _ (by simp), if_pos (by rw [← f1]; exact h0), f4 k hk, if_pos (by rw [← f1]; exact h0)]
    · rw [e' _ _ (by simp)]; exact f5
    · rw [e' _ _ (by simp)]; exact f6
    · rw [e' _ _ (by simp)]; exact f7
    · rw [e' _ _ (by simp)]; exact f8
theorem write_near (hN : N ≤ 4) (hc : c < 4) (hog : o ≤ g) (h : CI N g B c 48 Mc Mr) (hh : Mc (51, 4 + c, 0) o = 1) (G : Got N g c o Mc Mr) (ht : uTop c o Mc) (hd : Mc (4, 0, 0) o = 0) (hlog : Mc (40, c, 0) 4 = 0) (hz : z ≤ 6) : ∃ v Mc' Mr', f_X10_writeNear N Mc c (nI o) a3 (nI z) = some (v, Mc') ∧ rWn Mr c o z a3 = some (v, Mr') ∧ CI N g B c 48 Mc' Mr' ∧ Mr' m_o 66 = Mr m_o 66 := by
  obtain ⟨R, I, U, O, W⟩ := id h
  have hg := I.1.1
  have ho : o < 48 := by omega
  obtain ⟨s1, s2⟩ := set_eq (v := cNr N Mc c) (row := (55, 4 + c, o)) (row' := m_gotVector) hN ho R I (cN55 _ _ _) (by decide) (by decide) (fun k hk => G.2.1 k hk)
  obtain ⟨V, hV⟩ : ∃ V, V = hSet N Mc (cNr N Mc c) o (55, 4 + c, o) := ⟨_, rfl⟩
  have hVn : V &&& cNr N Mc c = V := by rw [hV]; exact hSet_n hN
  have hVb : ∀ s, bt V s = true → s < N ∧ ¬ Mc (51, s, 0) o = 0 ∧ Mc (60, 48 * s + o, 0) 3 = 0 := fun s hs => by
    rw [hV] at hs
    obtain ⟨k1, k2, k3, k4⟩ := hSet_b hN hs
    exact ⟨k1, k3, k4⟩
  obtain ⟨fV, hfV⟩ : ∃ f, V = sS f N := ⟨_, hV⟩
  rw [← hV] at s1 s2
  obtain ⟨Mc1, Mr1, w1, w2, r1, i1, h51, cw1, cw2⟩ := write_step (v := V) (w := a3) (J := fun M1 => o1 (f_X11_phases M1 (nI o)) (fun M3 => some M3)) hN ho hz (R.sc (v := V) hN rsc51) I (by rw [gset_r, if_pos ⟨rfl, rfl⟩]) hd (fun s _ hb => (hVb s hb).2)
  obtain ⟨l, Mc2, Mr2, p1, p2, r2, i2, h52, cp1, cp2⟩ := phases_step (v := V) hN ho r1 i1 h51 (fun s hs hb => by
    rw [cw1 _ _ (by unfold aWr; dsimp only; omega)]
    exact (I.2.2.1 s hs o ho).1.resolve_left (hVb s hb).2.1)
  have c12 : cf (fun j q => aWr o j q ∨ aPh o j q) Mc Mc2 := (cw1.mo (fun j q h => Or.inl h)).tr (cp1.mo (fun j q h => Or.inr h))
  have d12 : cf (fun j q => (j.1 = 0 ∧ q = 51) ∨ bWr j q ∨ bPh j q) Mr Mr2 := ((cf.st (Or.inl ⟨rfl, rfl⟩)).tr (cw2.mo (fun j q h => Or.inr (Or.inl h)))).tr (cp2.mo (fun j q h => Or.inr (Or.inr h)))
  have h51' : Mr2 m_o 51 = V := by rw [cp2 _ _ (by unfold bPh; dsimp only; omega)]; exact h51
  have nr2 : cNr N Mc2 c = cNr N Mc c := cNr.fr hN c12 (by unfold aWr aPh; dsimp only; omega) (fun q _ => by unfold aWr aPh; dsimp only; omega)
  obtain ⟨Mc5, q1, r5, i5, c5, hpr⟩ := fin_step hN hc ho r2 i2 h51' h52 (by rw [nr2]; exact hVn)
  have c15 : cf (fun j q => aWr o j q ∨ aPh o j q ∨ aFl c o j q) Mc Mc5 := (c12.mo (fun j q h => h.elim Or.inl (fun h => Or.inr (Or.inl h)))).tr (c5.mo (fun j q h => Or.inr (Or.inr h)))
  have e5 : ∀ j q, aFl c o j q → (j.1 = 32 ∧ q = o) ∨ (j.1 = 55 ∧ j.2.1 = 4 + c ∧ j.2.2 = o) := fun j q h => h.elim Or.inl (fun h => Or.inr (by rw [h]; exact ⟨rfl, rfl, rfl⟩))
  have h5 : CI N g B c 48 Mc5 (rFl N Mr2 c o) := by
    refine h.sv (c15.mo (fun j q h => ?_)) ((d12.mo (fun j q h => ?_)).tr (rFl_fr.mo (fun j q h => ?_))) r5 i5
    · rcases h with h | h | h
      · revert h; unfold aWr uC; omega
      · revert h; unfold aPh uC; omega
      · have := e5 j q h; unfold uC; omega
    · revert h; unfold bWr bPh uR; omega
    · revert h; unfold uR; omega
  have n5 : ∀ (j : gI) q, ¬ aWr o j q → ¬ aPh o j q → ¬ ((j.1 = 32 ∧ q = o) ∨ (j.1 = 55 ∧ j.2.1 = 4 + c ∧ j.2.2 = o)) → Mc5 j q = Mc j q := fun j q x1 x2 x3 => c15 _ _ (fun z => z.elim x1 (fun z => z.elim x2 (fun z => x3 (e5 j q z))))
  have hh5 : Mc5 (51, 4 + c, 0) o = 1 := by rw [n5 _ _ (by unfold aWr; dsimp only; omega) (by unfold aPh; dsimp only; omega) (by dsimp only; omega)]; exact hh
  have hh2 : Mc2 (51, 4 + c, 0) o = 1 := by rw [c12 _ _ (by unfold aWr aPh; dsimp only; omega)]; exact hh
  have hd5 : Mc5 (4, 0, 0) o = 0 := by rw [n5 _ _ (by unfold aWr; dsimp only; omega) (by unfold aPh; dsimp only; omega) (by dsimp only; omega)]; exact hd
  have hl5 : Mc5 (40, c, 0) 4 = 0 := by rw [n5 _ _ (by unfold aWr; dsimp only; omega) (by unfold aPh; dsimp only; omega) (by dsimp only; omega)]; exact hlog
  have ht5 : uTop c o Mc5 := ht.fr (c15.mo (fun j q h => by
    rcases h with h | h | h
    · revert h; unfold aWr uC; omega
    · revert h; unfold aPh uC; omega
    · have := e5 j q h; unfold uC; omega))
  obtain ⟨y, hy1, hy2⟩ := (i5.2.2.2.2.1 c hc o ho).2.2.2.2.2.2.2.1
  have hy2' : Mc2 (53, 4 + c, 0) o = nI y := by rw [← hy2]; exact (c5 _ _ (fun z => by have := e5 _ _ z; dsimp only at this; omega)).symm
  obtain ⟨mo1, mo2, mo3, mo4⟩ := mo_eq hz hy1
  obtain ⟨b, Mc6, Mr6, m1, m2, h6, cc6, cr6, k6, -, hb0, -, hb1⟩ := room (x := 48) (bu := nI o) (be := 10) (mo := nI z - nI y) hN hc (by omega) h5 (fun p hp e => by
    rw [neq (by omega) (by omega)] at e
    subst e
    exact top_may ht5) mo2 mo3
  obtain ⟨Mr3, m3, px⟩ := room_shd (M1 := Mr2) (pX_rf (fun j a b => (rFl_nf (N := N) (M := Mr2) (c := c) (o := o) a b).symm)) m2
  have hF : f_X10_finishNear N Mc1 c V (nI o) = some Mc5 := by
    unfold f_X10_finishNear
    rw [p1, ob_s]
    exact q1
  have hP : f_X11_putValue (gset Mr m_o 51 V) (nI o) a3 (nI z) = some Mr2 := by
    unfold f_X11_putValue
    rw [jn_d, w2, p2, o1_s]
  have hkr2 : Mr2 m_kept (48 * c + o) = 1 := by rw [← (r2.kl hc ho).1]; exact hh2
  have hdr : Mr2 m_isDirectory o = 0 := by rw [← (r2.ct.2.2 o ho).2.2, c12 _ _ (by unfold aWr aPh; dsimp only; omega)]; exact hd
  have hwt : wt Mc2 c o = 1 + y := wt_file hh2 (by rw [c12 _ _ (by unfold aWr aPh; dsimp only; omega)]; exact hd) hy1 hy2'
  have hbc : ∀ M12, f_J6_bitCount_0f7a4 N M12 V = some (nI (cntF fV 0 N)) := fun M12 => by rw [hfV]; exact c_bits hN
  have hmc : ∀ M12, f_X11_manyOf M12 V = some (nI (cntF fV 0 N)) := fun M12 => by rw [hfV]; exact r_many hN
  have hC0 : f_X10_writeNear N Mc c (nI o) a3 (nI z) = o1 (f_X1_changeFile N Mc5 c (nI o) a3 (nI z)) (fun M12 => some ((nI (cntF fV 0 N)).toInt64, M12)) := by
    unfold f_X10_writeNear
    simp only [lt_d]
    rw [R.1.2.2.1 c hc, c_nearClient R.1.2.1 hN hc, o1_s, ix_n ho (by omega), s1, o1_s, w1, o1_s, hF, o1_s]
    simp only [hbc, o1_s]
  have hC1 : f_X1_changeFile N Mc5 c (nI o) a3 (nI z) = (if zb b = 0 then o1 (f_X1_drop N Mc6 c (nI o)) (fun M11 => some M11) else o1 (f_X8_setFile N Mc6 (4 + c) (nI o) a3 (nI z)) (fun M9 => some M9)) := by
    unfold f_X1_changeFile
    rw [rd_n ho (by omega), hh5, if_neg (by decide), rd_n ho (by omega), hy2, m1, ob_s]
  have o3 : Mr3 m_o = Mr6 m_o := px.1 _ (by decide) (by decide)
  have o6 : ∀ q, q ≠ 50 → Mr6 m_o q = Mr2 m_o q := fun q hq => by
    rw [cr6 m_o q (by unfold fR; dsimp only; omega)]
    exact rFl_n (by decide) (by decide)
  have o66 : Mr2 m_o 66 = Mr m_o 66 := d12 _ _ (by unfold bWr bPh; dsimp only; omega)
  cases b with
  | true =>
    have hk6 : Mc6 (51, 4 + c, 0) o = 1 := by rw [(k6 o ho (top_may ht5)).1 51 (Or.inl rfl)]; exact hh5
    have hy6 : Mc6 (53, 4 + c, 0) o = nI y := by rw [(k6 o ho (top_may ht5)).1 53 (Or.inr (Or.inr rfl))]; exact hy2
    have hd6 : Mc6 (4, 0, 0) o = 0 := by rw [cc6 _ _ (by unfold fC; dsimp only; omega)]; exact hd5
    have hkr3 : Mr3 m_kept (48 * c + o) = 1 := by rw [px.1 m_kept (by decide) (by decide), ← (h6.1.kl hc ho).1]; exact hk6
    have hpr6 : Mr6 m_promised (48 * c + o) = V &&& (l ^^^ (-1 : Int32)) := by rw [← (h6.1.kl hc ho).2.2.2.2.2.2.1, (k6 o ho (top_may ht5)).2.2.1]; exact hpr (by rw [hh2]; decide)
    have hcm := fl_comm (a3 := a3) (w := nI z) px (by rw [hkr2]; decide) (by rw [hkr3]; decide) (by
      funext q
      rw [cr6 m_marks q (by unfold fR; dsimp only; omega)]
      exact rFl_n (by decide) (by decide)) (o6 51 (by decide)) (o6 52 (by decide)) (by rw [hpr6, h51', h52])
    refine ⟨(nI (cntF fV 0 N)).toInt64, gset (gset Mc6 (52, 4 + c, 0) o a3) (53, 4 + c, 0) o (nI z), gset (gset Mr6 m_keptValue (48 * c + o) a3) m_keptSize (48 * c + o) (nI z), ?_, ?_, ?_, ?_⟩
    · rw [hC0, hC1, zb_t, if_neg (by decide), c_setFile ho, o1_s, o1_s]
    · have e51 : gset (gset Mr6 m_keptValue (48 * c + o) a3) m_keptSize (48 * c + o) (nI z) m_o 51 = V := by
        rw [gset_r, if_neg (by simp), gset_r, if_neg (by simp), o6 51 (by decide)]; exact h51'
      unfold rWn
      simp only [lt_d, jn_d, nI_m48, nI_add]
      rw [r_nearSet R.n0 hN hc, o1_s, R.nr hN hc, s2, o1_s, hP, o1_s, rd_n (by omega) (by omega), hkr2, if_neg (by decide), r_weight ho, o1_s, hdr, if_pos rfl, r_weightKept hc ho r2 ⟨y, hy1, hy2'⟩, o1_s, hwt, mo1, m3, ob_s, zb_t, if_neg (by decide), rd_n (by omega) (by omega), hkr3, if_neg (by decide), wr_n (by omega) (by omega), wr_n (by omega) (by omega), r_follow (N := N) (by rw [gset_r, if_neg (by simp), gset_r, if_neg (by simp), o3]; exact h6.1.n0) hN hc ho, o1_s, hcm, e51, hmc, o1_s]
    · refine h6.sv (cf.tr (cf.st ?_) (cf.st ?_)) (cf.tr (cf.st ?_) (cf.st ?_)) (h6.1.kfil hN hc ho (by rw [hk6]; decide) hd6) (kfil_inv hN hc ho h6.2.1 hz hk6 hd6 ⟨hy1, hy6⟩ (hb1 rfl))
      · unfold uC; dsimp only; omega
      · unfold uC; dsimp only; omega
      · unfold uR; dsimp only; omega
      · unfold uR; dsimp only; omega
    · rw [gset_r, if_neg (by simp), gset_r, if_neg (by simp), o6 66 (by decide)]; exact o66
  | false =>
    obtain ⟨e6, e6'⟩ := hb0 rfl
    subst e6 e6'
    have h13 : Mc6 (1, 0, 0) 3 = nI g := r5.ct.1
    have hm6 : Mr3 m_o 6 = nI (g + 1) := by rw [o3]; exact r5.ct.2.1
    have rd5 := rel_cdrop hN hc ho r5 i5.1
    have h0 : cDp N g Mc6 c o (51, 4 + c, 0) o = 0 := by rw [cDp_h 51 o (Or.inl rfl), if_pos rfl]
    obtain ⟨rf1, rf2⟩ := fl_fall hg hN hc ho rd5 h0 px (by rw [o3]; exact o6 51 (by decide))
    have id5 : Inv N g (cDp N g Mc6 c o) := inv_cdrop hN hc ho i5 (fun i hi hl => by
      rw [hl5] at hl
      exact absurd hl (nI_pos (by omega)))
    have hci : CI N g B c 48 (cDp N g Mc6 c o) (rFg g (rFl N Mr2 c o) c o) := ⟨rd5, id5, usd_cdrop h5.2.2.1 hg, all_cdrop h5.2.2.2.1 hg, now_cdrop h5.2.2.2.2 hg⟩
    have hkr0 : rFg g Mr3 c o m_kept (48 * c + o) = 0 := by rw [rFg_k (Or.inl rfl) ho ho, if_pos rfl]
    have og : ∀ q, rFg g Mr3 c o m_o q = Mr3 m_o q := fun q => rFg_fr hg m_o q (by dsimp only; omega)
    refine ⟨(nI (cntF fV 0 N)).toInt64, cDp N g Mc6 c o, rFl N (rFg g Mr3 c o) c o, ?_, ?_, hci.sv (cf.rf _ _) (rf2.mo (fun j q h => by unfold uR; omega)) rf1 id5, ?_⟩
    · rw [hC0, hC1, zb_f, if_pos rfl, c_drop1 hN h13 hg ho, o1_s, o1_s]
    · have e51 : rFl N (rFg g Mr3 c o) c o m_o 51 = V := by
        rw [rFl_n (by decide) (by decide), og, o3, o6 51 (by decide)]; exact h51'
      unfold rWn
      simp only [lt_d, jn_d, nI_m48, nI_add]
      rw [r_nearSet R.n0 hN hc, o1_s, R.nr hN hc, s2, o1_s, hP, o1_s, rd_n (by omega) (by omega), hkr2, if_neg (by decide), r_weight ho, o1_s, hdr, if_pos rfl, r_weightKept hc ho r2 ⟨y, hy1, hy2'⟩, o1_s, hwt, mo1, m3, ob_s, zb_f, if_pos rfl, r_forget hm6 hg hc ho, o1_s, rd_n (by omega) (by omega), hkr0, if_pos rfl, r_follow (N := N) (by rw [og, o3]; exact r5.n0) hN hc ho, o1_s, e51, hmc, o1_s]
    · rw [rFl_n (by decide) (by decide), og, o3, o6 66 (by decide)]; exact o66
end W2
