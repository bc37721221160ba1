/-! layer 2: the records one after another, and the end of the log -/
def pend (N c i : Nat) (A M : gM) : Prop := ∀ d, d < 4 → ∀ j, j < 12 → nI j < A (40, d, 0) 4 → A (41, d, 0) j = 1 → (d = c → i ≤ j) → ∀ ob, ob < 48 → A (42, d, 0) j = nI ob → ∀ s, s < N → M (51, s, 0) ob = 0 ∧ ¬ M (56, s, 0) ob = 1
section HI
variable {N g B s o c d x z T n t l i : Nat} {A E M M' Mc Mr Mc' Mr' : gM} {row : gI} {v w nr a1 a2 a3 a4 a5 : Int32}
theorem pend_next (hi : i < 12) (hc : c < 4) (mk : iMk A) (hil : nI i < A (40, c, 0) 4) (hP : pend N c i A Mc) (hx : (A (41, c, 0) i = 1 ∧ A (42, c, 0) i = nI x ∧ kH N x Mc Mc') ∨ ∀ x, kH N x Mc Mc') : pend N c (i + 1) A Mc' := by
  intro d hd j hj hl hk hdc ob hob ho s hs
  obtain ⟨q1, q2⟩ := hP d hd j hj hl hk (fun e => by have := hdc e; omega) ob hob ho s hs
  have key : kH N (ob + 1) Mc Mc' ∨ ∃ y, y ≠ ob ∧ kH N y Mc Mc' := by
    rcases hx with ⟨k1, k2, k3⟩ | h
    · refine Or.inr ⟨x, fun e => ?_, k3⟩
      subst e
      have := mk c d i j hc hd hil hl hi hj (by rw [k1, hk]) (Or.inl k1) (by rw [k2, ho])
      have h2 := hdc this.1.symm
      omega
    · exact Or.inl (h _)
  rcases key with h | ⟨y, hy, h⟩
  · exact ⟨(h s hs ob (by omega)).1 q1, (h s hs ob (by omega)).2 q2⟩
  · exact ⟨(h s hs ob (fun e => hy e.symm)).1 q1, (h s hs ob (fun e => hy e.symm)).2 q2⟩
theorem hi_loop {J : gM → Option gM} {J' : gM → Option (Int64 × gM)} (hN : N ≤ 4) (hc : c < 4) (hl : l < N) (I : Inv N g A) (R0 : Rel N g A E) (e2 : A (11, 0, 0) 2 = nI c) (e3 : A (11, 0, 0) 3 = nr) (e4 : A (11, 0, 0) 4 = nI l) (hn : n ≤ 12) (h40 : A (40, c, 0) 4 = nI n) : ∃ Mc' Mr', f_X2_handInAll_L27 N c J 100 (0 : Int32) A = J Mc' ∧ f_X11_handIn_L55 (nI c) nr (nI n) (nI l) J' 100 (0 : Int32) E = J' Mr' ∧ HS N g A E Mc' Mr' ∧ pend N c n A Mc' := by
  have hg := I.1.1
  obtain ⟨n', n12, h40', -, rec, -⟩ := I.2.2.2.2.2.2.1 c hc
  have en : n' = n := by rw [h40, neq (by omega) (by omega)] at h40'; exact h40'.symm
  subst en
  obtain ⟨Mc', Mr', h1, h2, h3, h4⟩ := loop2 (fun n k M => f_X2_handInAll_L27 N c J n (nI k) M) (fun n k M => f_X11_handIn_L55 (nI c) nr (nI n') (nI l) J' n (nI k) M) n' J J' (fun k Mc Mr => HS N g A E Mc Mr ∧ pend N c k A Mc) (by omega) (fun m m' k Mc Mr hk ⟨⟨R, Ij, fc, fr⟩, hP⟩ => by
    have e : ∀ (j : gI) q, ¬ HC j q → Mc j q = A j q := fun j q h => fc _ _ h
    have hk12 : k < 12 := by omega
    have hkl : nI k < A (40, c, 0) 4 := by rw [h40]; exact nI_lt hk (by omega)
    have u40 : Mc (40, c, 0) 4 = nI n' := by rw [e _ _ (by unfold HC aSv; dsimp only; omega)]; exact h40
    have u41 : Mc (41, c, 0) k = A (41, c, 0) k := e _ _ (by unfold HC aSv; dsimp only; omega)
    have u42 : Mc (42, c, 0) k = A (42, c, 0) k := e _ _ (by unfold HC aSv; dsimp only; omega)
    have u43 : Mc (43, c, 0) k = A (43, c, 0) k := e _ _ (by unfold HC aSv; dsimp only; omega)
    have w2 : Mc (11, 0, 0) 2 = nI c := by rw [e _ _ (by unfold HC aSv; dsimp only; omega)]; exact e2
    have w3 : Mc (11, 0, 0) 3 = nr := by rw [e _ _ (by unfold HC aSv; dsimp only; omega)]; exact e3
    have w4 : Mc (11, 0, 0) 4 = nI l := by rw [e _ _ (by unfold HC aSv; dsimp only; omega)]; exact e4
    have hil : nI k < Mc (40, c, 0) 4 := by rw [u40]; exact nI_lt hk (by omega)
    obtain ⟨l1, -, l3⟩ := R.lg hc
    obtain ⟨y1, y2, y3, -⟩ := l3 k hk12 (by rw [← l1]; exact hil)
    obtain ⟨ob, o1', o2', o3', cases⟩ := rec k hk
    have cont : ∀ Mc1 Mr1, HS N g Mc Mr Mc1 Mr1 → HS N g A E Mc1 Mr1 := fun Mc1 Mr1 h => ⟨h.1, h.2.1, fc.tr h.2.2.1, fr.tr h.2.2.2⟩
    have hR : f_X11_handIn_L55 (nI c) nr (nI n') (nI l) J' (m' + 1) (nI k) Mr = (if Mc (41, c, 0) k = 0 then o1 (f_X11_handWrite Mr (nI c) (nI (12 * c + k)) (nI ob) (nI l) nr) (fun M46 => f_X11_handIn_L55 (nI c) nr (nI n') (nI l) J' m' (nI (k + 1)) M46) else (if Mc (41, c, 0) k = 1 then o1 (f_X11_handMake Mr (Mc (43, c, 0) k) (nI ob) (nI l) nr) (fun M44 => f_X11_handIn_L55 (nI c) nr (nI n') (nI l) J' m' (nI (k + 1)) M44) else o1 (f_X11_handRemove Mr (nI (12 * c + k)) (Mc (43, c, 0) k) (nI ob) (nI l) nr) (fun M41 => f_X11_handIn_L55 (nI c) nr (nI n') (nI l) J' m' (nI (k + 1)) M41))) := by
      simp only [f_X11_handIn_L55, nI_m12, nI_add, lt_d, jn_d]
      rw [if_neg (nI_ge hk (by omega)), rd_n (by omega) (by omega), rd_n (by omega) (by omega), ← y1, ← y2, u42, o3', rd_n (by omega) (by omega), rd_n (by omega) (by omega), rd_n (by omega) (by omega), ← y1, ← y3, nI_1]
    have hC : f_X2_handInAll_L27 N c J (m + 1) (nI k) Mc = (if Mc (41, c, 0) k = 0 then o1 (f_X2_handInWrite N Mc (nI ob) (45, c, k)) (fun M22 => f_X2_handInAll_L27 N c J m (nI (k + 1)) M22) else (if Mc (41, c, 0) k = 1 then o1 (f_X2_handInMake N Mc (Mc (43, c, 0) k) (nI ob)) (fun M27 => f_X2_handInAll_L27 N c J m (nI (k + 1)) M27) else o1 (f_X2_handInRemove N Mc (Mc (43, c, 0) k) (nI ob) (45, c, k)) (fun M32 => f_X2_handInAll_L27 N c J m (nI (k + 1)) M32))) := by
      simp only [f_X2_handInAll_L27, lt_d, jn_d]
      rw [u40, if_neg (nI_ge hk (by omega)), rd_n hk12 (by omega), rd_n hk12 (by omega), ix_n hk12 (by omega), rd_n hk12 (by omega), rd_n hk12 (by omega), rd_n hk12 (by omega), rd_n hk12 (by omega), ix_n hk12 (by omega), u42, o3', nI_1]
    rw [hR, hC]
    have hx : ob < 48 := by omega
    obtain ⟨p, hpo, hp, -⟩ := I.1.2.2.2 ob o1' o2'
    have hp' : Mc (2, 0, 0) ob = nI p := by rw [e _ _ (by unfold HC aSv; dsimp only; omega)]; exact hp
    rcases cases with ⟨k0, -, kh, -, kd⟩ | ⟨k0, k43, k51⟩ | ⟨k0, k43⟩
    · obtain ⟨Mc1, Mr1, q1, q2, q3, q4⟩ := hw_step (x := ob) hN hc hl hx hk12 R Ij w2 w3 w4 hil (by rw [e _ _ (by unfold HC aSv; dsimp only; omega)]; exact kd) (by rw [e _ _ (by unfold HC aSv; dsimp only; omega)]; exact kh)
      refine ⟨Mc1, Mr1, ?_, ?_, cont _ _ q3, pend_next (x := ob) hk12 hc I.2.2.2.2.2.2.2 hkl hP (Or.inr q4)⟩
      · rw [u41, if_pos k0, q1, o1_s]
      · rw [u41, if_pos k0, q2, o1_s]
    · obtain ⟨Mc1, Mr1, q1, q2, q3, q4⟩ := hm_step (x := ob) (o := p) hN hl o1' o2' (by omega) (by omega) hp' R Ij w3 w4 (fun s hs => (hP c hc k hk12 hkl k0 (fun _ => Nat.le_refl _) ob hx o3' s hs).1)
      refine ⟨Mc1, Mr1, ?_, ?_, cont _ _ q3, pend_next (x := ob) hk12 hc I.2.2.2.2.2.2.2 hkl hP (Or.inl ⟨k0, o3', q4⟩)⟩
      · rw [u41, k0, if_neg (by decide), if_pos rfl, u43, k43, hp, q1, o1_s]
      · rw [u41, k0, if_neg (by decide), if_pos rfl, u43, k43, hp, q2, o1_s]
    · obtain ⟨Mc1, Mr1, q1, q2, q3, q4⟩ := hr_step (x := ob) (o := p) (i := k) hN hc hl o1' o2' (by omega) (by omega) hk12 hp' R Ij w3 w4 hil
      refine ⟨Mc1, Mr1, ?_, ?_, cont _ _ q3, pend_next (x := ob) hk12 hc I.2.2.2.2.2.2.2 hkl hP (Or.inr q4)⟩
      · rw [u41, k0, if_neg (by decide), if_neg (by decide), u43, k43, hp, q1, o1_s]
      · rw [u41, k0, if_neg (by decide), if_neg (by decide), u43, k43, hp, q2, o1_s]) (fun m Mc Mr h => by
    simp only [f_X2_handInAll_L27, lt_d]
    rw [h.1.2.2.1 _ _ (by unfold HC aSv; dsimp only; omega), h40, if_pos (nI_le (by omega) (by omega))]) (fun m Mc Mr h => by
    simp only [f_X11_handIn_L55]
    rw [if_pos (nI_le (by omega) (by omega))]) (st := A) (st' := E) ⟨⟨R0, I.j, cf.rf _ _, cf.rf _ _⟩, fun d hd j hj hl hk _ ob hob ho s hs => by
      obtain ⟨m, m12, hm, -, rec', -⟩ := I.2.2.2.2.2.2.1 d hd
      rw [hm, nlt (by omega) (by omega)] at hl
      obtain ⟨ob', z1, z2, z3, zc⟩ := rec' j hl
      have : ob' = ob := by rw [ho, neq (by omega) (by omega)] at z3; exact z3.symm
      subst this
      rcases zc with ⟨k0, -⟩ | ⟨-, -, k51⟩ | ⟨k0, -⟩
      · rw [hk] at k0; exact absurd k0 (by decide)
      · exact k51 s hs
      · rw [hk] at k0; exact absurd k0 (by decide)⟩
  exact ⟨Mc', Mr', h1, h2, h3, h4⟩
end HI
