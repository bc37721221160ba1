/-! layer 2: a client that is not alone writes -/
def uC (j : gI) (q : Nat) : Prop := ¬ (j.1 = 34 ∨ (j.1 = 30 ∧ (q = 9 ∨ q = 10)) ∨ (j.1 = 51 ∧ 4 ≤ j.2.1))
def uR (j : gI) (q : Nat) : Prop := ¬ (j.1 = 28 ∨ j.1 = 29 ∨ (j.1 = 0 ∧ (q = 32 ∨ q = 33)))
def rEp (M : gM) (o : Nat) (v a3 : Int32) : gM := fun j q => if j = m_promised ∧ q < 192 ∧ q % 48 = o ∧ ¬ nI (q / 48) = a3 then M j q &&& (v ^^^ (-1 : Int32)) else M j q
section WN
variable {N g B s o c d x z : Nat} {M M' Mc Mr Mc' Mr' : gM} {v w a3 : Int32}
theorem CI.sv (h : CI N g B c x Mc Mr) (hc : cf uC Mc Mc') (hr : cf uR Mr Mr') (R' : Rel N g Mc' Mr') (I' : Inv N g Mc') : CI N g B c x Mc' Mr' := by
  obtain ⟨-, -, U, O, W⟩ := h
  refine ⟨R', I', U.fr hc hr ?_ ?_ ?_ ?_ ?_ ?_, O.fr hc hr ?_ ?_ ?_, W.fr hc hr ?_ ?_ ?_ ?_ ?_ (fun q _ _ e => ?_)⟩
  · intro c q; unfold uC; dsimp only; omega
  · intro c; unfold uC; dsimp only; omega
  · intro q; unfold uR; dsimp only; omega
  · intro q; unfold uR; dsimp only; omega
  · unfold uR; dsimp only; omega
  · unfold uR; dsimp only; omega
  · intro c q; unfold uC; dsimp only; omega
  · intro c q; unfold uC; dsimp only; omega
  · intro q; unfold uR; dsimp only; omega
  · intro q; unfold uC; dsimp only; omega
  · unfold uC; dsimp only; omega
  · unfold uC; dsimp only; omega
  · intro q; unfold uR; dsimp only; omega
  · unfold uR; dsimp only; omega
  · rw [hc _ _ (by unfold uC; dsimp only; omega)] at e; exact e
theorem uTop.fr (hc : cf uC M M') (h : uTop c o M) : uTop c o M' := by
  obtain ⟨w, u, h1, h2, h3, h4, h5, h6⟩ := h
  refine ⟨w, u, h1, h2, ?_, ?_, ?_, fun p hp hn => ?_⟩
  · rw [hc _ _ (by unfold uC; dsimp only; omega)]; exact h3
  · rw [hc _ _ (by unfold uC; dsimp only; omega)]; exact h4
  · rw [hc _ _ (by unfold uC; dsimp only; omega)]; exact h5
  · rw [hc _ _ (by unfold uC; dsimp only; omega)]; exact h6 p hp hn
theorem r_ends (ho : o < 48) : f_X11_endPromises M (nI o) v a3 = some (rEp M o v a3) := by
  obtain ⟨M1, h1, h2⟩ := loopP (fun n k M => f_X11_endPromises_L3 (nI o) v a3 n (nI k) M) 4 some (fun k M1 => M1 = fun j q => if j = m_promised ∧ q < 48 * k ∧ q % 48 = o ∧ ¬ nI (q / 48) = a3 then M j q &&& (v ^^^ (-1 : Int32)) else M j q) (by decide) (fun n k M1 hk e => by
    by_cases hb : nI k = a3
    · refine ⟨M1, ?_, ?_⟩
      · simp only [f_X11_endPromises_L3, lt_d, jn_d, nI_m48, nI_add]
        rw [if_neg (ge_4 hk), if_pos hb, nI_1]
      · rw [e]
        funext j q
        by_cases z : j = m_promised ∧ q < 48 * k ∧ q % 48 = o ∧ ¬ nI (q / 48) = a3
        · rw [if_pos z, if_pos ⟨z.1, by omega, z.2.2.1, z.2.2.2⟩]
        · rw [if_neg z, if_neg (fun y => z ⟨y.1, by
            rcases Nat.lt_or_ge q (48 * k) with a | a
            · exact a
            · exact absurd (by rw [show q / 48 = k by omega]; exact hb) y.2.2.2, y.2.2⟩)]
    · refine ⟨gset M1 m_promised (48 * k + o) (M1 m_promised (48 * k + o) &&& (v ^^^ (-1 : Int32))), ?_, ?_⟩
      · simp only [f_X11_endPromises_L3, lt_d, jn_d, nI_m48, nI_add]
        rw [if_neg (ge_4 hk), if_neg hb, rd_n (by omega) (by omega), wr_n (by omega) (by omega), nI_1]
      · rw [e]
        funext j q
        rw [gset_r]
        dsimp only
        by_cases y : j = m_promised ∧ q = 48 * k + o
        · obtain ⟨rfl, rfl⟩ := y
          rw [if_pos ⟨rfl, rfl⟩, if_neg (by omega), if_pos ⟨rfl, by omega, by omega, by rw [show (48 * k + o) / 48 = k by omega]; exact hb⟩]
        · rw [if_neg y]
          by_cases z : j = m_promised ∧ q < 48 * k ∧ q % 48 = o ∧ ¬ nI (q / 48) = a3
          · rw [if_pos z, if_pos ⟨z.1, by omega, z.2.2.1, z.2.2.2⟩]
          · rw [if_neg z, if_neg (fun u => z ⟨u.1, by
              rcases Nat.lt_or_ge q (48 * k) with a | a
              · exact a
              · exact absurd ⟨u.1, by omega⟩ y, u.2.2⟩)]) (fun n M1 _ => by
    simp only [f_X11_endPromises_L3]
    rw [if_pos (lf_4 (by omega))]) (st := M) (by
    funext j q
    rw [if_neg (by omega)])
  rw [show f_X11_endPromises M (nI o) v a3 = f_X11_endPromises_L3 (nI o) v a3 100 (nI 0) M from rfl, h1, h2]
  rfl
theorem rEp_fr : cf (fun j q => j.1 = 26) M (rEp M o v a3) := fun j q h => if_neg (fun z => h (by rw [z.1]))
/-- the reference follows a call in its cache -/
def rFl (N : Nat) (M : gM) (c o : Nat) : gM := rEp (if M m_kept (48 * c + o) = 0 then M else gset (gpu M m_keptVector (8 * (48 * c + o)) N (fun k => if bt (M m_o 51) k = true then M m_marks (48 * k + o) else M m_keptVector (8 * (48 * c + o) + k))) m_promised (48 * c + o) (M m_o 51 &&& (M m_o 52 ^^^ (-1 : Int32)))) o (M m_o 51) (nI c)
theorem r_follow (h0 : M m_o 0 = nI N) (hN : N ≤ 4) (hc : c < 4) (ho : o < 48) : f_X11_follow M (nI c) (nI o) = some (rFl N M c o) := by
  unfold f_X11_follow rFl
  simp only [lt_d, jn_d, nI_m48, nI_add]
  rw [rd_n (by omega) (by omega)]
  by_cases h : M m_kept (48 * c + o) = 0
  · rw [if_pos h, if_pos h, r_ends ho, o1_s]
  · rw [if_neg h, if_neg h, r_count h0 hN ho (by show _ ≤ 1536; omega) (by decide) (by decide) (by decide), o1_s, gpu_ne (by decide), gpu_ne (by decide), wr_n (by omega) (by omega), gset_r, if_neg (fun z => absurd z.1 (by decide)), gpu_ne (by decide), r_ends ho, o1_s]
theorem rFl_fr : cf (fun j q => j.1 = 26 ∨ (j.1 = 25 ∧ 8 * (48 * c + o) ≤ q ∧ q < 8 * (48 * c + o) + N)) M (rFl N M c o) := by
  unfold rFl
  refine cf.tr ?_ (rEp_fr.mo (fun j q h => Or.inl h))
  by_cases h : M m_kept (48 * c + o) = 0
  · rw [if_pos h]; exact cf.rf _ _
  · rw [if_neg h]; exact (cf.pu (fun q a b => Or.inr ⟨rfl, a, b⟩)).tr (cf.st (Or.inl rfl))
theorem Rel.kvec (hN : N ≤ 4) (hc4 : c < 4) (ho : o < 48) (R : Rel N g Mc Mr) (hh : ¬ Mc (51, 4 + c, 0) o = 0) (hc : cf (fun j q => j = (55, 4 + c, o)) Mc Mc') (hr : cf (fun j q => j = m_keptVector ∧ 8 * (48 * c + o) ≤ q ∧ q < 8 * (48 * c + o) + 8) Mr Mr') (hv : ∀ k, k < N + 4 → Mc' (55, 4 + c, o) k = Mr' m_keptVector (8 * (48 * c + o) + k)) : Rel N g Mc' Mr' := by
  refine R.kmix hN hc4 ho (hc.mo ?_) (hr.mo ?_) ?_
  · rintro j q rfl; unfold kKl; dsimp only; omega
  · rintro j q ⟨rfl, h1, h2⟩; unfold lKl; dsimp only; omega
  · obtain ⟨f1, f2, f3, f4, f5, f6, f7, f8⟩ := R.kl hc4 ho
    have e : ∀ (j : gI) q, j.1 ≠ 55 → Mc' j q = Mc j q := fun j q h => hc _ _ (fun z => h (by rw [z]))
    have e' : ∀ (j : gI) q, j.1 ≠ 25 → Mr' j q = Mr j q := fun j q h => hr _ _ (fun z => h (by rw [z.1]))
    refine ⟨?_, ?_, ?_, fun k hk => ?_, ?_, ?_, ?_, ?_⟩
    · rw [e _ _ (by simp), e' _ _ (by simp)]; exact f1
    · rw [e _ _ (by simp), e' _ _ (by simp), e' _ _ (by simp), e' _ _ (by simp)]; exact f2
    · rw [e _ _ (by simp), e' _ _ (by simp), e' _ _ (by simp), e' _ _ (by simp)]; exact f3
    · rw [e' m_kept _ (by simp), if_neg (by rw [← f1]; exact hh)]; exact hv k hk
    · rw [e _ _ (by simp), e' _ _ (by simp)]; exact f5
    · rw [e _ _ (by simp), e' _ _ (by simp)]; exact f6
    · rw [e _ _ (by simp), e' _ _ (by simp)]; exact f7
    · rw [e _ _ (by simp), e' _ _ (by simp)]; exact f8
theorem Rel.krow (R : Rel N g Mc Mr) (hc : c < 4) (ho : o < 48) (hh : ¬ Mc (51, 4 + c, 0) o = 0) {k : Nat} (hk : k < N + 4) : Mc (55, 4 + c, o) k = Mr m_keptVector (8 * (48 * c + o) + k) := by
  obtain ⟨f1, -, -, f4, -⟩ := R.kl hc ho
  rw [f4 k hk, if_neg (by rw [← f1]; exact hh)]
def aFl (c o : Nat) (j : gI) (q : Nat) : Prop := (j.1 = 32 ∧ q = o) ∨ j = (55, 4 + c, o)
/-- a call ends in the client's cache, both in step -/
theorem fin_step {l : Int32} (hN : N ≤ 4) (hc : c < 4) (ho : o < 48) (R : Rel N g Mc Mr) (I : Inv N g Mc) (h51 : Mr m_o 51 = v) (h52 : Mr m_o 52 = l) (hv : v &&& cNr N Mc c = v) : ∃ Mc', o1 (f_X6_endPromisesToOthers N Mc c v (nI o)) (fun M5 => rd M5 (51, (4 + c), 0) 48 (nI o) (fun v6 => (if v6 = 0 then some M5 else ix (nI o) 48 (fun v8 => o1 (f_X6_copyMarks N M5 v (nI o) (55, (4 + c), v8)) (fun M10 => wr M10 (32, c, 0) 48 (nI o) (v &&& (l ^^^ (-1 : Int32))) (fun M11 => some M11)))))) = some Mc' ∧ Rel N g Mc' (rFl N Mr c o) ∧ Inv N g Mc' ∧ cf (aFl c o) Mc Mc' ∧ (¬ Mc (51, 4 + c, 0) o = 0 → Mc' (32, c, 0) o = v &&& (l ^^^ (-1 : Int32))) := by
  obtain ⟨M5, Mr5, e1, e2, r1, i1, c1, c2⟩ := endsO_step (v := v) hN ho hc R I
  rw [r_ends ho] at e2
  have e2 := Option.some.inj e2
  subst e2
  rw [e1, o1_s, rd_n ho (by omega)]
  have hk : M5 (51, 4 + c, 0) o = Mc (51, 4 + c, 0) o := c1 _ _ (by dsimp only; omega)
  have hkr := (R.kl hc ho).1
  have c1' : cf (aFl c o) Mc M5 := c1.mo (fun j q h => Or.inl ⟨h.1, h.2.2⟩)
  by_cases h : M5 (51, 4 + c, 0) o = 0
  · rw [if_pos h]
    refine ⟨M5, rfl, ?_, i1, c1', fun z => absurd (hk.symm.trans h) z⟩
    unfold rFl
    rw [if_pos (by rw [← hkr, ← hk]; exact h), h51]
    exact r1
  · rw [if_neg h, ix_n ho (by omega), c_copyMarks hN ho (cN55 _ _ _) (by simp), o1_s, wr_n ho (by omega)]
    have nr : cNr N M5 c = cNr N Mc c := cNr.fr hN c1 (by dsimp only; omega) (fun q _ => by dsimp only; omega)
    have r2 : Rel N g (gpu M5 (55, 4 + c, o) 0 N (fun k => if bt v k = true then M5 (22, k, 0) o else M5 (55, 4 + c, o) k)) (gpu (rEp Mr o v (nI c)) m_keptVector (8 * (48 * c + o)) N (fun k => if bt v k = true then rEp Mr o v (nI c) m_marks (48 * k + o) else rEp Mr o v (nI c) m_keptVector (8 * (48 * c + o) + k))) := by
      refine r1.kvec hN hc ho h (cf.pu (fun _ _ _ => rfl)) (cf.pu (fun q a b => ⟨rfl, a, by omega⟩)) (fun k hk => ?_)
      have e0 := r1.krow hc ho h hk
      by_cases e : k < N
      · rw [show gpu M5 (55, 4 + c, o) 0 N (fun k => if bt v k = true then M5 (22, k, 0) o else M5 (55, 4 + c, o) k) (55, 4 + c, o) k = _ from by simpa using gpu_in (M := M5) (row := (55, 4 + c, o)) (base := 0) (n := N) (k := k) (f := fun k => if bt v k = true then M5 (22, k, 0) o else M5 (55, 4 + c, o) k) e, gpu_in e]
        by_cases hb : bt v k = true
        · rw [if_pos hb, if_pos hb]; exact (r1.sv e ho).cc
        · rw [if_neg hb, if_neg hb]; exact e0
      · rw [gpu_r, if_neg (by omega), gpu_r, if_neg (by omega)]; exact e0
    have i2 : Inv N g (gpu M5 (55, 4 + c, o) 0 N (fun k => if bt v k = true then M5 (22, k, 0) o else M5 (55, 4 + c, o) k)) := i1.free0 hN ((cf.pu (A := fun j q => j.1 = 55) (fun _ _ _ => rfl)).mo (fun j q h => Or.inr (Or.inr (Or.inl h))))
    have nr2 : cNr N (gpu M5 (55, 4 + c, o) 0 N (fun k => if bt v k = true then M5 (22, k, 0) o else M5 (55, 4 + c, o) k)) c = cNr N M5 c := cNr.fr (A := fun j q => j.1 = 55) hN (cf.pu (fun _ _ _ => rfl)) (by simp) (fun q _ => by simp)
    obtain ⟨r3, i3⟩ := pr_set (w := v &&& (l ^^^ (-1 : Int32))) hN hc ho r2 i2 (by rw [nr2, nr]; exact and_sub hv) (fun z => absurd (by rw [gpu_ne (by simp)] at z; exact z) h)
    refine ⟨_, rfl, ?_, i3, (c1'.tr (cf.pu (fun _ _ _ => Or.inr rfl))).tr (cf.st (Or.inl ⟨rfl, rfl⟩)), fun _ => by rw [gset_r, if_pos ⟨rfl, rfl⟩]⟩
    have hf : rFl N Mr c o = gset (gpu (rEp Mr o v (nI c)) m_keptVector (8 * (48 * c + o)) N (fun k => if bt v k = true then rEp Mr o v (nI c) m_marks (48 * k + o) else rEp Mr o v (nI c) m_keptVector (8 * (48 * c + o) + k))) m_promised (48 * c + o) (v &&& (l ^^^ (-1 : Int32))) := by
      unfold rFl
      rw [if_neg (by rw [← hkr, ← hk]; exact h), h51, h52]
      funext j q
      have e1 : ∀ (M : gM) q j, j ≠ m_promised → rEp M o v (nI c) j q = M j q := fun M q j h => if_neg (fun u => h u.1)
      by_cases j26 : j = m_promised
      · subst j26
        by_cases y : q = 48 * c + o
        · subst y
          rw [gset_r, if_pos ⟨rfl, rfl⟩]
          unfold rEp
          rw [if_neg (fun u => u.2.2.2 (by rw [show (48 * c + o) / 48 = c by omega])), gset_r, if_pos ⟨rfl, rfl⟩]
        · rw [gset_r, if_neg (fun z => y z.2), gpu_ne (by decide)]
          have e2 : ∀ (f : Nat → Int32) (w : Int32), gset (gpu Mr m_keptVector (8 * (48 * c + o)) N f) m_promised (48 * c + o) w m_promised q = Mr m_promised q := fun f w => by rw [gset_r, if_neg (fun z => y z.2), gpu_ne (by decide)]
          unfold rEp
          rw [e2]
      · rw [e1 _ _ _ j26, gset_r, if_neg (fun z => j26 z.1), gset_r, if_neg (fun z => j26 z.1), gpu_r, gpu_r]
        simp only [e1 _ _ m_marks (by decide), e1 _ _ m_keptVector (by decide), e1 _ _ j j26]
    rw [hf]
    exact r3
end WN
