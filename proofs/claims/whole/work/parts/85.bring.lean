/-! layer 2: a copy comes into a cache, both in step -/
theorem r_copyTo0 {M : gM} {a1 a3 : gI} {i : Nat} (h1 : 8 * i + 8 ≤ mN a1) (h2 : 8 ≤ mN a3) (m1 : mN a1 ≤ 16384) (m3 : mN a3 ≤ 16384) : f_X11_copyTo M a1 (nI i) a3 (0 : Int32) = some (gpu M a3 0 8 (fun k => M a1 (8 * i + k))) := r_copyTo (j := 0) h1 (by omega) m1 m3
theorem r_weight {M : gM} {o : Nat} {v : Int32} (ho : o < 48) : f_X11_weight M (nI o) v = some (if M m_isDirectory o = 0 then 1 + v else 2) := by
  unfold f_X11_weight
  rw [rd_n ho (by omega)]
  by_cases e : M m_isDirectory o = 0
  · rw [if_pos e, if_pos e]
  · rw [if_neg e, if_neg e]
theorem c_fullWeight {N c o : Nat} {M : gM} {v : Int32} (ho : o < 48) : f_X1_fullWeight N M c (nI o) v = some (if M (4, 0, 0) o = 0 then 1 + v else 2) := by
  unfold f_X1_fullWeight
  rw [rd_n ho (by omega)]
  by_cases e : M (4, 0, 0) o = 0
  · rw [if_pos e, if_pos e]
  · rw [if_neg e, if_neg e]
theorem wsum_put {f f' : Nat → Nat} {o : Nat} : ∀ n, o < n → (∀ k, k < n → k ≠ o → f' k = f k) → wsum f' n + f o = wsum f n + f' o := by
  intro n
  induction n with
  | zero => intro h; omega
  | succ n ih =>
    intro h he
    show wsum f' n + f' n + f o = wsum f n + f n + f' o
    by_cases e : o = n
    · subst e
      rw [wsum_congr (f' := f) o (fun k hk => he k (by omega) (by omega))]
      omega
    · have := ih (by omega) (fun k hk hn => he k (by omega) hn)
      rw [he n (by omega) (by omega)]
      omega
/-- what the reference has got is what the cache has -/
def Got (N g c o : Nat) (Mc Mr : gM) : Prop := (Mc (4, 0, 0) o = 0 → Mr m_o 42 = Mc (52, 4 + c, 0) o) ∧ (∀ k, k < N + 4 → Mr m_gotVector k = Mc (55, 4 + c, o) k) ∧ ∀ x, x < 48 → Mr m_gotEntry x = if 1 ≤ x ∧ x ≤ g ∧ Mc (2, 0, 0) x = nI o then Mc (56, 4 + c, 0) x else 0
def tK (c : Nat) (j : gI) (q : Nat) : Prop := fC c j q ∨ (j.1 = 9 ∧ q = 5)
def tC (c : Nat) (j : gI) (q : Nat) : Prop := fC c j q ∨ (j.1 = 9 ∧ q = 5) ∨ ((j.1 = 30 ∧ q = 9 ∨ j.1 = 34) ∧ j.2.1 = c)
def tR (c : Nat) (j : gI) (q : Nat) : Prop := fR c j q ∨ (j.1 = 0 ∧ (q = 32 ∨ q = 42 ∨ q = 49)) ∨ j.1 = 28 ∨ j.1 = 29 ∨ j.1 = 31 ∨ j.1 = 41 ∨ j.1 = 42 ∨ ((j.1 = 23 ∨ j.1 = 24) ∧ 48 * c ≤ q ∧ q < 48 * c + 48) ∨ (j.1 = 25 ∧ 384 * c ≤ q ∧ q < 384 * c + 384)
/-- what may not go, but for o, stays -/
def rmK' (N c o : Nat) (be : Int32) (M M' : gM) : Prop := ∀ p, p < 48 → p ≠ o → cMay M c be p = false → (∀ t, t = 51 ∨ t = 52 ∨ t = 53 → M' (t, 4 + c, 0) p = M (t, 4 + c, 0) p) ∧ (∀ k, k < N + 4 → M' (55, 4 + c, p) k = M (55, 4 + c, p) k) ∧ M' (32, c, 0) p = M (32, c, 0) p ∧ M' (33, c, 0) p = M (33, c, 0) p
def rmS' (c o : Nat) (be : Int32) (M M' : gM) : Prop := ∀ x, x < 48 → (∀ p, p < 48 → M (2, 0, 0) x = nI p → p ≠ o ∧ cMay M c be p = false) → M' (56, 4 + c, 0) x = M (56, 4 + c, 0) x
section BR
variable {N g B c o s : Nat} {Mc Mr : gM} {be hl pr : Int32}
theorem top_may (ht : uTop c o Mc) : cMay Mc c be o = false := by
  obtain ⟨w, u, w1, w2, w3, w4, w5, w6⟩ := ht
  unfold cMay
  rw [w3, w5, decide_eq_true (nI_lt w1 (by omega))]
  simp
theorem ci_scr {M' : gM} {x : Nat} (hN : N ≤ 4) (h : CI N g B c x Mc Mr) (hr : cf (fun j q => (j.1 = 0 ∧ q = 42) ∨ j.1 = 41 ∨ j.1 = 42) Mr M') : CI N g B c x Mc M' := by
  obtain ⟨R, I, U, O, W⟩ := h
  have hc0 : cf (fun _ _ => False) Mc Mc := cf.rf _ _
  refine ⟨R.fr hN (cf.rf _ _) (hr.mo ?_), I, U.fr hc0 hr ?_ ?_ ?_ ?_ ?_ ?_, O.fr hc0 hr ?_ ?_ ?_, W.fr hc0 hr ?_ ?_ ?_ ?_ ?_ ?_⟩
  · intro j q; unfold rsc; omega
  · intro c q h; exact h
  · intro c h; exact h
  · intro q; dsimp only; omega
  · intro q; dsimp only; omega
  · dsimp only; omega
  · dsimp only; omega
  · intro c q h; exact h
  · intro c q h; exact h
  · intro q; dsimp only; omega
  · intro q h; exact h
  · intro h; exact h
  · intro h; exact h
  · intro q; dsimp only; omega
  · dsimp only; omega
  · intro q _ _ h; exact h
/-- both stores behind it -/
theorem brought {Mc1 Mr1 Mc2 A8 : gM} {z : Nat} (hN : N ≤ 4) (hc : c < 4) (ho : o < 48) (hs : s < N) (R1 : Rel N g Mc1 Mr1) (I1 : Inv N g Mc1) (hlog : Mc1 (40, c, 0) 4 = 0) (hh : Mc1 (51, s, 0) o = 1) (hz : z ≤ 6 ∧ Mc1 (53, s, 0) o = nI z) (t2 : cf (fun j q => ((j.1 = 51 ∨ j.1 = 52 ∨ j.1 = 53) ∧ j.2.1 = 4 + c ∧ q = o) ∨ (j.1 = 55 ∧ j.2.1 = 4 + c ∧ j.2.2 = o) ∨ ((j.1 = 56 ∨ j.1 = 58) ∧ j.2.1 = 4 + c)) Mc1 Mc2) (t3 : Mc2 (51, 4 + c, 0) o = 1) (t4 : Mc2 (52, 4 + c, 0) o = Mc1 (52, s, 0) o) (t5 : Mc2 (53, 4 + c, 0) o = Mc1 (53, s, 0) o) (t6 : ∀ k, k < N + 4 → Mc2 (55, 4 + c, o) k = Mc1 (55, s, o) k) (t7 : ∀ q, q < 48 → Mc2 (56, 4 + c, 0) q = if o < q ∧ q ≤ g ∧ Mc1 (2, 0, 0) q = nI o then Mc1 (56, s, 0) q else Mc1 (56, 4 + c, 0) q) (fA : cf (fun j q => (j.1 = 0 ∧ q = 49) ∨ ((j.1 = 22 ∨ j.1 = 27 ∨ j.1 = 23 ∨ j.1 = 24 ∨ j.1 = 26) ∧ q = 48 * c + o) ∨ (j.1 = 25 ∧ 8 * (48 * c + o) ≤ q ∧ q < 8 * (48 * c + o) + 8) ∨ (j.1 = 30 ∧ 48 * c ≤ q ∧ q < 48 * c + 48) ∨ j.1 = 31) Mr1 A8) (v22 : A8 m_kept (48 * c + o) = 1) (v27 : A8 m_dirty (48 * c + o) = 0) (v23 : A8 m_keptValue (48 * c + o) = Mr1 m_value (48 * s + o)) (v24 : A8 m_keptSize (48 * c + o) = Mr1 m_size (48 * s + o)) (v25 : ∀ k, k < 8 → A8 m_keptVector (8 * (48 * c + o) + k) = Mr1 m_vector (8 * (48 * s + o) + k)) (v49 : A8 m_o 49 = Mr1 m_o 49 + 1) (v0 : ∀ j, j.1 = 0 → j ≠ m_o → A8 j 49 = Mr1 j 49) (v30 : ∀ x, x < 48 → A8 m_keptEntry (48 * c + x) = if 1 ≤ x ∧ x ≤ g ∧ Mr1 m_parent x = nI o then Mr1 m_entry (48 * s + x) else Mr1 m_keptEntry (48 * c + x)) (v26 : A8 m_promised (48 * c + o) = pr) (hprn : pr &&& cNr N Mc1 c = pr) (hwt : wsum (wt Mc1 c) 48 + (if Mc1 (4, 0, 0) o = 0 then 1 + z else 2) ≤ 24 + wt Mc1 c o) : Rel N g (gset (gset Mc2 (32, c, 0) o pr) (9, 0, 0) 5 (gset Mc2 (32, c, 0) o pr (9, 0, 0) 5 + 1)) A8 ∧ Inv N g (gset (gset Mc2 (32, c, 0) o pr) (9, 0, 0) 5 (gset Mc2 (32, c, 0) o pr (9, 0, 0) 5 + 1)) := by
  have hg := I1.1.1
  have hog : o ≤ g := (I1.2.2.1 s hs o ho).2.2.1 hh
  obtain ⟨n0, n1, n2, n3, -, -⟩ := I1.2.2.2.2.2.2.1 c hc
  have hn0 : n0 = 0 := (nI_eq (b := 0) (by omega) (by omega)).mp (n2.symm.trans hlog)
  subst hn0
  have hdy : ∀ p, p < 48 → Mc1 (33, c, 0) p = 0 := n3 rfl
  have h95 : gset Mc2 (32, c, 0) o pr (9, 0, 0) 5 = Mc1 (9, 0, 0) 5 := by rw [gset_r, if_neg (by simp), t2 _ _ (by dsimp only; omega)]
  rw [h95]
  generalize hM3 : gset (gset Mc2 (32, c, 0) o pr) (9, 0, 0) 5 (Mc1 (9, 0, 0) 5 + 1) = Mc3
  have f3 : cf (fun j q => ((j.1 = 51 ∨ j.1 = 52 ∨ j.1 = 53) ∧ j.2.1 = 4 + c ∧ q = o) ∨ (j.1 = 55 ∧ j.2.1 = 4 + c ∧ j.2.2 = o) ∨ ((j.1 = 56 ∨ j.1 = 58) ∧ j.2.1 = 4 + c) ∨ (j.1 = 32 ∧ j.2.1 = c ∧ q = o) ∨ (j.1 = 9 ∧ q = 5)) Mc1 Mc3 := by
    rw [← hM3]
    exact ((t2.mo (fun j q => by omega)).tr (cf.st (by dsimp only; omega))).tr (cf.st (by dsimp only; omega))
  have e3 : ∀ t q, t ≠ 32 → t ≠ 9 → ∀ b, Mc3 (t, 4 + c, b) q = Mc2 (t, 4 + c, b) q := fun t q a1 a2 b => by
    rw [← hM3, gset_r, if_neg (fun x => a2 (congrArg Prod.fst x.1)), gset_r, if_neg (fun x => a1 (congrArg Prod.fst x.1))]
  have m51 : Mc3 (51, 4 + c, 0) o = 1 := by rw [e3 51 _ (by decide) (by decide)]; exact t3
  have m52 : Mc3 (52, 4 + c, 0) o = Mc1 (52, s, 0) o := by rw [e3 52 _ (by decide) (by decide)]; exact t4
  have m53 : Mc3 (53, 4 + c, 0) o = Mc1 (53, s, 0) o := by rw [e3 53 _ (by decide) (by decide)]; exact t5
  have m55 : ∀ k, k < N + 4 → Mc3 (55, 4 + c, o) k = Mc1 (55, s, o) k := fun k hk => by rw [e3 55 _ (by decide) (by decide)]; exact t6 k hk
  have m56 : ∀ q, q < 48 → Mc3 (56, 4 + c, 0) q = if o < q ∧ q ≤ g ∧ Mc1 (2, 0, 0) q = nI o then Mc1 (56, s, 0) q else Mc1 (56, 4 + c, 0) q := fun q hq => by rw [e3 56 _ (by decide) (by decide)]; exact t7 q hq
  have m32 : Mc3 (32, c, 0) o = pr := by rw [← hM3, gset_r, if_neg (by simp), gset_r, if_pos ⟨rfl, rfl⟩]
  have m9 : Mc3 (9, 0, 0) 5 = Mc1 (9, 0, 0) 5 + 1 := by rw [← hM3, gset_r, if_pos ⟨rfl, rfl⟩]
  have m9' : ∀ j, j.1 = 9 → j ≠ (9, 0, 0) → Mc3 j 5 = Mc1 j 5 := fun j h1 h2 => by
    rw [← hM3, gset_r, if_neg (fun x => h2 x.1), gset_r, if_neg (fun x => by rw [x.1] at h1; exact absurd h1 (show ¬ (32 : Nat) = 9 by decide)), t2 _ _ (by omega)]
  clear hM3 e3 t2 t3 t4 t5 t6 t7 h95
  have noself : ∀ p, o < o ∧ p → False := fun p h => absurd h.1 (by omega)
  have fT : cf (fun j q => j.1 = 9) Mc1 (gset Mc1 (9, 0, 0) 5 (Mc1 (9, 0, 0) 5 + 1)) := cf.st rfl
  have fU : cf (fun j q => j.1 = 0 ∧ q = 49) Mr1 (gset Mr1 m_o 49 (Mr1 m_o 49 + 1)) := cf.st ⟨rfl, rfl⟩
  have f4 : cf (fun j q => aKl j q ∨ csc j q) (gset Mc1 (9, 0, 0) 5 (Mc1 (9, 0, 0) 5 + 1)) Mc3 := fun j q hn => by
    rw [gset_r]
    by_cases e : j = (9, 0, 0) ∧ q = 5
    · rw [if_pos e, e.1, e.2]; exact m9
    · rw [if_neg e]
      by_cases e9 : j.1 = 9 ∧ q = 5
      · rw [e9.2]; exact m9' j e9.1 (fun x => e ⟨x, e9.2⟩)
      · exact f3 j q (fun x => hn (by unfold aKl csc; omega))
  refine ⟨(R1.tal hN (fT.mo ?_) (fU.mo ?_) ?_ : Rel N g (gset Mc1 (9, 0, 0) 5 (Mc1 (9, 0, 0) 5 + 1)) (gset Mr1 m_o 49 (Mr1 m_o 49 + 1))).cli hN f4 ?_ (fun d hd p hp => ?_), (I1.tal hN (fT.mo ?_) : Inv N g (gset Mc1 (9, 0, 0) 5 (Mc1 (9, 0, 0) 5 + 1))).cli hN f4 (fun d hd p hp => ?_) (fun d hd => ?_) (fun d hd => ?_)⟩
  · intro j q; unfold aTl csc; omega
  · intro j q; unfold bTl rsc; omega
  · intro k h1 h2
    have h0 := R1.2.2.2.2.2.2.2 k h1 h2
    by_cases e : k = 5
    · subst e; rw [gset_r, if_pos ⟨rfl, rfl⟩, gset_r, if_pos ⟨rfl, rfl⟩, h0]
    · rw [gset_r, if_neg (fun x => e x.2), gset_r, if_neg (fun x => by omega)]; exact h0
  · intro j q hn
    rw [gset_r]
    by_cases e : j = m_o ∧ q = 49
    · rw [if_pos e, e.1, e.2]; exact v49
    · rw [if_neg e]
      by_cases e0 : j.1 = 0 ∧ q = 49
      · rw [e0.2]; exact v0 j e0.1 (fun x => e ⟨x, e0.2⟩)
      · exact fA j q (fun x => hn (by unfold bKl rsc; omega))
  · have h := R1.kl hd hp
    by_cases e : d = c
    · subst e
      obtain ⟨a1, a2, a3, a4, a5, a6, a7, a8⟩ := h
      have hdir : A8 m_isDirectory p = Mr1 m_isDirectory p := fA _ _ (by dsimp only; omega)
      have hpri : Mc3 (31, d, 0) p = A8 m_priorities (48 * d + p) := by rw [f3 _ _ (by dsimp only; omega), fA _ _ (by dsimp only; omega)]; exact a6
      have hst : Mc3 (56, 4 + d, 0) p = A8 m_keptEntry (48 * d + p) := by
        have ep := (R1.ct.2.2 p hp).1
        rw [m56 p hp, v30 p hp, ← ep, a5, (R1.sv hs hp).2.2.2.2.1]
        exact ite1 ⟨fun x => ⟨kid_gt I1.1 x.1 x.2.1 (by omega) x.2.2, x.2.1, x.2.2⟩, fun x => ⟨by omega, x.2.1, x.2.2⟩⟩
      by_cases eo : p = o
      · subst eo
        obtain ⟨b1, b2, b3, b4, -⟩ := R1.sv hs hp
        have hhr : ¬ Mr1 m_has (48 * s + p) = 0 := by rw [← b1, hh]; decide
        refine ⟨by rw [m51, v22], ?_, ?_, fun k hk => ?_, hst, hpri, by rw [m32, v26], ?_⟩
        · rw [m52, b2, v22, hdir, v23]
          exact ite1 ⟨fun x => x.elim (fun y => absurd y (by decide)) Or.inr, fun x => x.elim (fun y => absurd y hhr) Or.inr⟩
        · rw [m53, b3, v22, hdir, v24]
          exact ite1 ⟨fun x => x.elim (fun y => absurd y (by decide)) Or.inr, fun x => x.elim (fun y => absurd y hhr) Or.inr⟩
        · rw [m55 k hk, b4 k hk, v22, if_neg hhr, if_neg (by decide), v25 k (by omega)]
        · rw [f3 _ _ (by dsimp only; omega), hdy p hp, v27]
      · refine ⟨?_, ?_, ?_, fun k hk => ?_, hst, hpri, ?_, ?_⟩
        · rw [f3 _ _ (by dsimp only; omega), fA _ _ (by dsimp only; omega)]; exact a1
        · rw [f3 _ _ (by dsimp only; omega), fA m_kept _ (by dsimp only; omega), hdir, fA m_keptValue _ (by dsimp only; omega)]; exact a2
        · rw [f3 _ _ (by dsimp only; omega), fA m_kept _ (by dsimp only; omega), hdir, fA m_keptSize _ (by dsimp only; omega)]; exact a3
        · rw [f3 _ _ (by dsimp only; omega), fA m_kept _ (by dsimp only; omega), fA m_keptVector _ (by dsimp only; omega)]; exact a4 k hk
        · rw [f3 _ _ (by dsimp only; omega), fA _ _ (by dsimp only; omega)]; exact a7
        · rw [f3 _ _ (by dsimp only; omega), fA _ _ (by dsimp only; omega)]; exact a8
    · refine h.fr hN f3 fA ?_ ?_
      · intro j q; unfold kKl; omega
      · intro j q; unfold lKl; omega
  · intro j q; unfold aTl csc; omega
  · have h := I1.2.2.2.2.1 d hd p hp
    by_cases e : d = c
    · subst e
      obtain ⟨a1, a2, a3, a4, a5, a6, a7, a8, a9⟩ := h
      have hnr : cNr N Mc3 d = cNr N Mc1 d := cNr.fr hN f3 (by dsimp only; omega) (fun q _ => by dsimp only; omega)
      have hst : Mc3 (56, 4 + d, 0) p = Mc1 (56, s, 0) p ∨ Mc3 (56, 4 + d, 0) p = Mc1 (56, 4 + d, 0) p := by
        rw [m56 p hp]
        by_cases q : o < p ∧ p ≤ g ∧ Mc1 (2, 0, 0) p = nI o
        · left; rw [if_pos q]
        · right; rw [if_neg q]
      have hs5 := I1.2.2.1 s hs p hp
      have s1 : Mc3 (56, 4 + d, 0) p = 0 ∨ Mc3 (56, 4 + d, 0) p = 1 ∨ Mc3 (56, 4 + d, 0) p = 2 := by
        rcases hst with x | x <;> rw [x]
        · exact hs5.2.1
        · exact a3
      have s2 : ¬ Mc3 (56, 4 + d, 0) p = 0 → 1 ≤ p ∧ p ≤ g := by
        rcases hst with x | x <;> rw [x]
        · exact hs5.2.2.2.1
        · exact a5
      have e31 : Mc3 (31, d, 0) p = Mc1 (31, d, 0) p := f3 _ _ (by dsimp only; omega)
      have e33 : Mc3 (33, d, 0) p = Mc1 (33, d, 0) p := f3 _ _ (by dsimp only; omega)
      unfold iKl
      rw [e31, e33, hnr]
      by_cases eo : p = o
      · subst eo
        rw [m51, m32, m53]
        exact ⟨Or.inr rfl, a2, s1, fun _ => hog, s2, fun x => absurd x (by decide), hprn, ⟨z, hz⟩, a9⟩
      · rw [f3 (51, 4 + d, 0) p (by dsimp only; omega), f3 (53, 4 + d, 0) p (by dsimp only; omega), f3 (32, d, 0) p (by dsimp only; omega)]
        exact ⟨a1, a2, s1, a4, s2, a6, a7, a8, a9⟩
    · refine h.fr hN f3 ?_
      intro j q; unfold eKl; omega
  · have h := I1.2.2.2.2.2.1 d hd
    by_cases e : d = c
    · subst e
      have hp := wsum_put (f := wt Mc1 d) (f' := wt Mc3 d) (o := o) 48 ho (fun k _ hn => by
        unfold wt
        rw [f3 (51, 4 + d, 0) k (by dsimp only; omega), f3 (53, 4 + d, 0) k (by dsimp only; omega), f3 (4, 0, 0) k (by dsimp only; omega)])
      have hw : wt Mc3 d o = (if Mc1 (4, 0, 0) o = 0 then 1 + z else 2) := by
        unfold wt
        rw [m51, m53, hz.2, f3 (4, 0, 0) o (by dsimp only; omega), if_neg (by decide), nI_clamp (by omega)]
      unfold iWt
      omega
    · refine h.fr f3 ?_
      intro j q; unfold eWt; omega
  · have h := I1.2.2.2.2.2.2.1 d hd
    by_cases e : d = c
    · subst e
      refine ⟨0, by omega, by rw [f3 _ _ (by dsimp only; omega)]; exact hlog, fun _ p hp => by rw [f3 _ _ (by dsimp only; omega)]; exact hdy p hp, fun i hi => by omega, fun i j hi => by omega⟩
    · refine h.fr hg f3 ?_
      intro j q; unfold eLg; omega
theorem take_in (hN : N ≤ 4) (hc : c < 4) (ho : o < 48) (hs : s < N) (hB : B ≤ 900000) (h : CI N g B c o Mc Mr) (ht : uTop c o Mc) (hlog : Mc (40, c, 0) 4 = 0) (hh : Mc (51, s, 0) o = 1) (hhl : ∀ t, t < N → bt hl t = true → Mc (51, t, 0) o = 1 ∧ bt (cNr N Mc c) t = true) (hpr : pr = sS (fun t => bt hl t && (!nz (Mc (60, 48 * t + o, 0) 3) && rEq (Mc (55, t, o)) (Mc (55, s, o)) 0 (N + 4))) N) : ∃ Mc' Mr', f_X1_takeIn N Mc c s (nI o) pr be = some Mc' ∧ f_X11_bring Mr (nI c) (nI o) (nI s) hl be = some Mr' ∧ CI N g (B + 1) c 48 Mc' Mr' ∧ cf (tK c) Mc Mc' ∧ cf (tR c) Mr Mr' ∧ (Mc' (51, 4 + c, 0) o = 1 → Got N g c o Mc' Mr') ∧ rmK' N c o be Mc Mc' ∧ rmS' c o be Mc Mc' ∧ (Mc' (51, 4 + c, 0) o = 1 ∨ 17 < wsum (fun p => if cMay Mc c be p then 0 else if p = o then 0 else wt Mc c p) 48) ∧ (∀ p, p < 48 → Mc' (51, 4 + c, 0) p = 1 → p = o ∨ Mc (51, 4 + c, 0) p = 1) ∧ uTop c o Mc' := by
  obtain ⟨R, I, U, O, W⟩ := id h
  have hg := I.1.1
  have h13 : Mc (1, 0, 0) 3 = nI g := R.ct.1
  have h6 : Mr m_o 6 = nI (g + 1) := R.ct.2.1
  obtain ⟨r1, r2, r3, r4, r5, -, -, r8, -⟩ := R.sv hs ho
  have hhr : ¬ Mr m_has (48 * s + o) = 0 := by rw [← r1, hh]; decide
  have hdir := (R.ct.2.2 o ho).2.2
  obtain ⟨z, z1, z2⟩ := (I.2.2.2.1 s hs o ho).1
  have hog : o ≤ g := (I.2.2.1 s hs o ho).2.2.1 hh
  -- what is got
  generalize hM7 : rGot g Mr (Mr m_value (48 * s + o)) (fun k => Mr m_vector (8 * (48 * s + o) + k)) (fun x => Mr m_entry (48 * s + x)) o = Mr7
  have f7 : cf (fun j q => (j.1 = 0 ∧ q = 42) ∨ j.1 = 41 ∨ j.1 = 42) Mr Mr7 := hM7 ▸ rGot_fr
  have h7 : CI N g B c o Mc Mr7 := ci_scr hN h f7
  -- the room that is wanted
  generalize ha : (if Mc (4, 0, 0) o = 0 then 1 + z else 2) = a
  have ha7 : a ≤ 7 := by rw [← ha]; split <;> omega
  have hb7 : wt Mc c o ≤ 7 := by
    obtain ⟨y, y1, y2⟩ := (I.2.2.2.2.1 c hc o ho).2.2.2.2.2.2.2.1
    unfold wt
    rw [y2, nI_clamp (by omega)]
    split
    · omega
    · split <;> omega
  have hmo : (nI a - nI (wt Mc c o)).toInt = (a : Int) - wt Mc c o := pk_sub_toInt (by omega) (by omega)
  have hmay := top_may (be := be) ht
  obtain ⟨b, Mc1, Mr1, k1, k2, k3, k4, k5, k6, k7, k8, k9, k10⟩ := room (be := be) (bu := nI o) (mo := nI a - nI (wt Mc c o)) hN hc (fun _ => rfl) h7 (fun p hp e => by
    have : p = o := (nI_eq (by omega) (by omega)).mp e
    rw [this]; exact hmay) (by omega) (by omega)
  have hc1 : f_X1_takeIn N Mc c s (nI o) pr be = ob (some (zb b, Mc1)) (fun v9 M8 => (if v9 = 0 then o1 (f_X1_drop N M8 c (nI o)) (fun M17 => some M17) else o1 (f_X8_takeFrom N M8 (4 + c) s (nI o)) (fun M12 => wr M12 (32, c, 0) 48 (nI o) pr (fun M13 => rd M13 (9, 0, 0) 8 (5 : Int32) (fun v14 => wr M13 (9, 0, 0) 8 (5 : Int32) (v14 + (1 : Int32)) (fun M15 => some M15)))))) := by
    have e : (if Mc (4, 0, 0) o = 0 then (1 : Int32) + nI z else 2) = nI a := by
      rw [← ha]
      split
      · exact nI_add 1 z
      · rfl
    unfold f_X1_takeIn
    rw [rd_n ho (by omega), z2, c_fullWeight ho, o1_s, c_weightOf ho (I.2.2.2.2.1 c hc o ho).2.2.2.2.2.2.2.1, o1_s, lt_d, e, k1]
  have hr1 : f_X11_bring Mr (nI c) (nI o) (nI s) hl be = ob (some (zb b, Mr1)) (fun v15 M14 => (if v15 = 0 then o1 (f_X11_forget M14 (nI c) (nI o)) (fun M68 => some M68) else lt (M14 m_o 49) (fun v17 => lt (gset M14 m_o 49 (v17 + (1 : Int32))) (fun M18 => wz M18 m_kept 192 (nI (48 * c + o)) (1 : Int32) (fun M19 => wz M19 m_dirty 192 (nI (48 * c + o)) (0 : Int32) (fun M20 => rd M20 m_value 192 (nI (48 * s + o)) (fun v21 => wr M20 m_keptValue 192 (nI (48 * c + o)) v21 (fun M22 => rd M22 m_size 192 (nI (48 * s + o)) (fun v23 => wr M22 m_keptSize 192 (nI (48 * c + o)) v23 (fun M24 => o1 (f_X11_copyTo M24 m_vector (nI (48 * s + o)) m_keptVector (nI (48 * c + o))) (fun M26 => f_X11_bring_L201 (nI c) (nI o) (nI s) hl (nI (48 * c + o)) (nI (48 * s + o)) (fun (M27 : gM) => wr M27 m_promised 192 (nI (48 * c + o)) (0 : Int32) (fun M28 => f_X11_bring_L287 (nI c) (nI o) hl (nI (48 * c + o)) (nI (48 * s + o)) (fun (M29 : gM) => o1 (f_X11_use M29 (nI c) (nI o)) (fun M31 => some M31)) 100 (0 : Int32) M28)) 100 (1 : Int32) M26))))))))))) := by
    have e : (if Mr7 m_isDirectory o = 0 then (1 : Int32) + Mr7 m_size (48 * s + o) else 2) = nI a := by
      rw [f7 m_isDirectory _ (by dsimp only; omega), f7 m_size _ (by dsimp only; omega), ← hdir, ← ha]
      by_cases e4 : Mc (4, 0, 0) o = 0
      · rw [if_pos e4, if_pos e4]
        rw [if_neg (fun x => x.elim hhr (fun y => y (by rw [← hdir]; exact e4)))] at r3
        rw [← r3, z2]
        exact nI_add 1 z
      · rw [if_neg e4, if_neg e4]; rfl
    unfold f_X11_bring
    simp only [lt_d, nI_m48, nI_add]
    rw [rd_n (by omega) (by omega), r_copyTo0 (by show 8 * (48 * s + o) + 8 ≤ 1536; omega) (by decide) (by decide) (by decide), o1_s, jn_d, r_br45 (g := g) ?_ hg (by omega)]
    · have em : gpu (gpu (gset Mr m_o 42 (Mr m_value (48 * s + o))) m_gotVector 0 8 (fun k => gset Mr m_o 42 (Mr m_value (48 * s + o)) m_vector (8 * (48 * s + o) + k))) m_gotEntry 0 48 (fun x => if 1 ≤ x ∧ x ≤ g ∧ gpu (gset Mr m_o 42 (Mr m_value (48 * s + o))) m_gotVector 0 8 (fun k => gset Mr m_o 42 (Mr m_value (48 * s + o)) m_vector (8 * (48 * s + o) + k)) m_parent x = nI o then gpu (gset Mr m_o 42 (Mr m_value (48 * s + o))) m_gotVector 0 8 (fun k => gset Mr m_o 42 (Mr m_value (48 * s + o)) m_vector (8 * (48 * s + o) + k)) m_entry (48 * s + x) else 0) = Mr7 := by
        rw [← hM7]
        unfold rGot
        have e1 : (fun k => gset Mr m_o 42 (Mr m_value (48 * s + o)) m_vector (8 * (48 * s + o) + k)) = fun k => Mr m_vector (8 * (48 * s + o) + k) := by
          funext k
          rw [gset_r, if_neg (by simp)]
        rw [e1]
        refine gpu_congr (fun x _ => ?_)
        have z9 : ∀ t q, t ≠ 41 → t ≠ 0 → gpu (gset Mr m_o 42 (Mr m_value (48 * s + o))) m_gotVector 0 8 (fun k => Mr m_vector (8 * (48 * s + o) + k)) (t, 0, 0) q = Mr (t, 0, 0) q := fun t q a b => by
          rw [gpu_r, if_neg (fun x => a (congrArg Prod.fst x.1)), gset_r, if_neg (fun x => b (congrArg Prod.fst x.1))]
        rw [z9 8 _ (by decide) (by decide), z9 19 _ (by decide) (by decide)]
      rw [em, rd_n (by omega) (by omega), r_weight ho, o1_s, r_weightKept hc ho h7.1 (I.2.2.2.2.1 c hc o ho).2.2.2.2.2.2.2.1, o1_s, e, k2]
      rfl
    · rw [gpu_r, if_neg (by simp), gset_r, if_neg (by simp)]; exact h6
  clear h7
  cases b with
  | false =>
    obtain ⟨rfl, rfl⟩ := k8 rfl
    have Ra := k3.1
    refine ⟨cDp N g Mc1 c o, rFg g Mr1 c o, ?_, ?_, ⟨rel_cdrop hN hc ho Ra I.1, inv_cdrop hN hc ho I (fun i _ hi => by rw [hlog] at hi; exact absurd hi (nI_pos (by omega))), (usd_cdrop k3.2.2.1 hg).up (by omega), all_un (o := o) (by rw [cDp_h 51 o (by omega), if_pos rfl]) (all_cdrop k3.2.2.2.1 hg), now_un (o := o) (by rw [cDp_h 51 o (by omega), if_pos rfl]) (now_cdrop k3.2.2.2.2 hg)⟩, (cDp_fr).mo ?_, (f7.mo ?_).tr ((rFg_fr hg).mo ?_), fun e => ?_, fun p hp hne _ => ?_, fun x hx hp => ?_, Or.inr ?_, fun p _ e => Or.inr (held_cdrop e).1, ?_⟩
    · rw [hc1, ob_s, zb_f, if_pos rfl, c_drop1 hN h13 hg ho, o1_s]
    · rw [hr1, ob_s, zb_f, if_pos rfl, r_forget Ra.ct.2.1 hg hc ho, o1_s]
    · intro j q; unfold tK fC; omega
    · intro j q; unfold tR; omega
    · intro j q; unfold tR fR; omega
    · rw [cDp_h 51 o (by omega), if_pos rfl] at e; exact absurd e (by decide)
    · refine ⟨fun t ht => by rw [cDp_h t p ht, if_neg hne], fun k hk => by rw [cDp_55 p k hk, if_neg hne], by rw [cDp_3 32 p (by omega), if_neg hne], by rw [cDp_3 33 p (by omega), if_neg hne]⟩
    · rw [cDp_56, if_neg (fun y => (hp o ho y.2.2).1 rfl)]
    · have q9 := (decide_eq_false_iff_not.mp k9.symm)
      have e : wsum (fun p => if cMay Mc1 c be p then 0 else wt Mc1 c p) 48 + 0 = wsum (fun p => if cMay Mc1 c be p then 0 else if p = o then 0 else wt Mc1 c p) 48 + wt Mc1 c o := by
        have := wsum_put (f := fun p => if cMay Mc1 c be p then 0 else if p = o then 0 else wt Mc1 c p) (f' := fun p => if cMay Mc1 c be p then 0 else wt Mc1 c p) (o := o) 48 ho (fun k _ hn => by rw [if_neg hn])
        rw [hmay] at this
        simp only [if_true] at this
        simpa using this
      omega
    · obtain ⟨w, u, w1, w2, w3, w4, w5, w6⟩ := ht
      refine ⟨w, u, w1, w2, ?_, ?_, ?_, fun p hp hn => ?_⟩
      · rw [cDp_fr _ _ (by dsimp only; omega)]; exact w3
      · rw [cDp_fr _ _ (by dsimp only; omega)]; exact w4
      · rw [cDp_fr _ _ (by dsimp only; omega)]; exact w5
      · rw [cDp_fr _ _ (by dsimp only; omega)]; exact w6 p hp hn
  | true =>
    obtain ⟨R1, I1, U1, O1, W1⟩ := k3
    have hk10 := k10 rfl
    clear k8 k9 k10 k1 k2
    obtain ⟨q51, q55, q32, q33⟩ := k6 o ho hmay
    have g13 : Mc1 (1, 0, 0) 3 = nI g := R1.ct.1
    have g6 : Mr1 m_o 6 = nI (g + 1) := R1.ct.2.1
    obtain ⟨Mc2, t1, t2, t3, t4, t5, t6, t7⟩ := c_takeFrom (c := c) (s := s) hN g13 hg ho (by omega)
    -- the reference, step by step
    generalize hA5 : gpu (gset (gset (gset (gset (gset Mr1 m_o 49 (Mr1 m_o 49 + 1)) m_kept (48 * c + o) 1) m_dirty (48 * c + o) 0) m_keptValue (48 * c + o) (Mr1 m_value (48 * s + o))) m_keptSize (48 * c + o) (Mr1 m_size (48 * s + o))) m_keptVector (8 * (48 * c + o)) 8 (fun k => Mr1 m_vector (8 * (48 * s + o) + k)) = A5
    have fA5 : cf (fun j q => (j.1 = 0 ∧ q = 49) ∨ ((j.1 = 22 ∨ j.1 = 27 ∨ j.1 = 23 ∨ j.1 = 24) ∧ q = 48 * c + o) ∨ (j.1 = 25 ∧ 8 * (48 * c + o) ≤ q ∧ q < 8 * (48 * c + o) + 8)) Mr1 A5 := by
      rw [← hA5]
      exact (((((cf.st (by dsimp only; omega)).tr (cf.st (by dsimp only; omega))).tr (cf.st (by dsimp only; omega))).tr (cf.st (by dsimp only; omega))).tr (cf.st (by dsimp only; omega))).tr (cf.pu (fun q a b => by dsimp only; omega))
    have v22 : A5 m_kept (48 * c + o) = 1 := by rw [← hA5, gpu_r, if_neg (by simp), gset_r, if_neg (by simp), gset_r, if_neg (by simp), gset_r, if_neg (by simp), gset_r, if_pos ⟨rfl, rfl⟩]
    have v27 : A5 m_dirty (48 * c + o) = 0 := by rw [← hA5, gpu_r, if_neg (by simp), gset_r, if_neg (by simp), gset_r, if_neg (by simp), gset_r, if_pos ⟨rfl, rfl⟩]
    have v23 : A5 m_keptValue (48 * c + o) = Mr1 m_value (48 * s + o) := by rw [← hA5, gpu_r, if_neg (by simp), gset_r, if_neg (by simp), gset_r, if_pos ⟨rfl, rfl⟩]
    have v24 : A5 m_keptSize (48 * c + o) = Mr1 m_size (48 * s + o) := by rw [← hA5, gpu_r, if_neg (by simp), gset_r, if_pos ⟨rfl, rfl⟩]
    have v25 : ∀ k, k < 8 → A5 m_keptVector (8 * (48 * c + o) + k) = Mr1 m_vector (8 * (48 * s + o) + k) := fun k hk => by rw [← hA5, gpu_in hk]
    have v49 : A5 m_o 49 = Mr1 m_o 49 + 1 := by rw [← hA5, gpu_r, if_neg (by simp), gset_r, if_neg (by simp), gset_r, if_neg (by simp), gset_r, if_neg (by simp), gset_r, if_neg (by simp), gset_r, if_pos ⟨rfl, rfl⟩]
    obtain ⟨A8, w1, w2, w3⟩ : ∃ A8, f_X11_bring Mr (nI c) (nI o) (nI s) hl be = some (rUs A8 c o) ∧ (cf (fun j q => (j.1 = 30 ∧ 48 * c ≤ q ∧ q < 48 * c + 48) ∨ j.1 = 31 ∨ (j.1 = 26 ∧ q = 48 * c + o)) A5 A8 ∧ ∀ x, x < 48 → A8 m_keptEntry (48 * c + x) = if 1 ≤ x ∧ x ≤ g ∧ A5 m_parent x = nI o then A5 m_entry (48 * s + x) else A5 m_keptEntry (48 * c + x)) ∧ A8 m_promised (48 * c + o) = sS (fun t => bt hl t && (!nz (A5 m_versions (48 * t + o)) && rEq (fun k => A5 m_vector (8 * (48 * t + o) + k)) (fun k => A5 m_vector (8 * (48 * s + o) + k)) 0 (N + 4))) N := by
      have e6 : A5 m_o 6 = nI (g + 1) := by rw [fA5 _ _ (by dsimp only; omega)]; exact g6
      obtain ⟨A6, x1, x2, x3⟩ := r_br201 (M := A5) (c := c) (o := o) (s := s) (hl := hl) (x1 := nI (48 * c + o)) (x2 := nI (48 * s + o)) (J := fun (M27 : gM) => wr M27 m_promised 192 (nI (48 * c + o)) (0 : Int32) (fun M28 => f_X11_bring_L287 (nI c) (nI o) hl (nI (48 * c + o)) (nI (48 * s + o)) (fun (M29 : gM) => o1 (f_X11_use M29 (nI c) (nI o)) (fun M31 => some M31)) 100 (0 : Int32) M28)) e6 hg hc (by omega)
      have f6 : cf (fun j q => (j.1 = 30 ∧ 48 * c ≤ q ∧ q < 48 * c + 48) ∨ j.1 = 31 ∨ (j.1 = 26 ∧ q = 48 * c + o)) A5 (gset A6 m_promised (48 * c + o) 0) := (x2.mo (fun j q => by omega)).tr (cf.st (Or.inr (Or.inr ⟨rfl, rfl⟩)))
      obtain ⟨A8, y1, y2, y3⟩ := r_br287 (N := N) (M := gset A6 m_promised (48 * c + o) 0) (c := c) (o := o) (s := s) (hl := hl) (J := fun (M29 : gM) => o1 (f_X11_use M29 (nI c) (nI o)) (fun M31 => some M31)) (by rw [f6 _ _ (by dsimp only; omega), fA5 _ _ (by dsimp only; omega)]; exact R1.n0) (by rw [f6 _ _ (by dsimp only; omega), fA5 _ _ (by dsimp only; omega)]; exact R1.n1) hN hc ho (by omega) (by rw [gset_r, if_pos ⟨rfl, rfl⟩])
      have f8 := f6.tr (y2.mo (fun j q => by omega) : cf (fun j q => (j.1 = 30 ∧ 48 * c ≤ q ∧ q < 48 * c + 48) ∨ j.1 = 31 ∨ (j.1 = 26 ∧ q = 48 * c + o)) _ _)
      refine ⟨A8, ?_, ⟨f8, fun x hx => ?_⟩, ?_⟩
      · rw [hr1, ob_s, zb_t, if_neg (by decide), lt_d, lt_d, wz_1 (by omega) (by omega), wz_0 (by omega) (by omega), rd_n (by omega) (by omega), wr_n (by omega) (by omega), rd_n (by omega) (by omega), wr_n (by omega) (by omega), r_copyTo (by show 8 * (48 * s + o) + 8 ≤ 1536; omega) (by show 8 * (48 * c + o) + 8 ≤ 1536; omega) (by decide) (by decide), o1_s]
        have e1 : gset (gset (gset Mr1 m_o 49 (Mr1 m_o 49 + 1)) m_kept (48 * c + o) 1) m_dirty (48 * c + o) 0 m_value (48 * s + o) = Mr1 m_value (48 * s + o) := by rw [gset_r, if_neg (by simp), gset_r, if_neg (by simp), gset_r, if_neg (by simp)]
        have e2 : ∀ v, gset (gset (gset (gset Mr1 m_o 49 (Mr1 m_o 49 + 1)) m_kept (48 * c + o) 1) m_dirty (48 * c + o) 0) m_keptValue (48 * c + o) v m_size (48 * s + o) = Mr1 m_size (48 * s + o) := fun v => by rw [gset_r, if_neg (by simp), gset_r, if_neg (by simp), gset_r, if_neg (by simp), gset_r, if_neg (by simp)]
        have e3 : ∀ v w, (fun k => gset (gset (gset (gset (gset Mr1 m_o 49 (Mr1 m_o 49 + 1)) m_kept (48 * c + o) 1) m_dirty (48 * c + o) 0) m_keptValue (48 * c + o) v) m_keptSize (48 * c + o) w m_vector (8 * (48 * s + o) + k)) = fun k => Mr1 m_vector (8 * (48 * s + o) + k) := fun v w => by
          funext k
          rw [gset_r, if_neg (by simp), gset_r, if_neg (by simp), gset_r, if_neg (by simp), gset_r, if_neg (by simp), gset_r, if_neg (by simp)]
        rw [e1, e2, e3, hA5, x1, wr_n (by omega) (by omega), y1, r_use hc ho, o1_s]
      · rw [y2 m_keptEntry _ (by dsimp only; omega), gset_r, if_neg (by simp)]; exact x3 x hx
      · rw [y3]
        have ev : ∀ q, gset A6 m_promised (48 * c + o) 0 m_versions q = A5 m_versions q := fun q => f6 _ _ (by dsimp only; omega)
        have ew : ∀ q, gset A6 m_promised (48 * c + o) 0 m_vector q = A5 m_vector q := fun q => f6 _ _ (by dsimp only; omega)
        simp only [ev, ew]
    obtain ⟨w2, w30⟩ := w2
    -- frames
    have kM : ∀ j q, ¬ fC c j q → Mc1 j q = Mc j q := k4
    have kR : ∀ t q, (11 ≤ t ∧ t ≤ 21) ∨ t = 8 ∨ t = 10 → Mr1 (t, 0, 0) q = Mr (t, 0, 0) q := fun t q hq => by
      rw [k5 _ _ (by unfold fR; dsimp only; omega), f7 _ _ (by dsimp only; omega)]
    have kR5 : ∀ t q, (11 ≤ t ∧ t ≤ 21) ∨ t = 8 ∨ t = 10 → A5 (t, 0, 0) q = Mr (t, 0, 0) q := fun t q hq => by
      rw [fA5 _ _ (by dsimp only; omega), kR t q hq]
    have f8 : cf (fun j q => (j.1 = 0 ∧ q = 49) ∨ ((j.1 = 22 ∨ j.1 = 27 ∨ j.1 = 23 ∨ j.1 = 24 ∨ j.1 = 26) ∧ q = 48 * c + o) ∨ (j.1 = 25 ∧ 8 * (48 * c + o) ≤ q ∧ q < 8 * (48 * c + o) + 8) ∨ (j.1 = 30 ∧ 48 * c ≤ q ∧ q < 48 * c + 48) ∨ j.1 = 31) Mr1 A8 := (fA5.mo (fun j q => by omega)).tr (w2.mo (fun j q => by omega))
    have e4 : ∀ p, Mc1 (4, 0, 0) p = Mc (4, 0, 0) p := fun p => kM _ _ (by unfold fC; dsimp only; omega)
    have e2 : ∀ p, Mc1 (2, 0, 0) p = Mc (2, 0, 0) p := fun p => kM _ _ (by unfold fC; dsimp only; omega)
    have es : ∀ t p b, (51 ≤ t ∧ t ≤ 58) → Mc1 (t, s, b) p = Mc (t, s, b) p := fun t p b hq => kM _ _ (by unfold fC; dsimp only; omega)
    have ewt : wt Mc1 c o = wt Mc c o := by
      unfold wt
      rw [q51 51 (by omega), q51 53 (by omega), e4]
    have enr : cNr N Mc1 c = cNr N Mc c := cNr.fr hN k4 (by unfold fC; dsimp only; omega) (fun q _ => by unfold fC; dsimp only; omega)
    have hprn : pr &&& cNr N Mc1 c = pr := by
      rw [enr, hpr]
      unfold cNr
      rw [sS_and (by omega)]
      refine sN_congr _ _ _ (fun t _ htN => ?_)
      cases hb : bt hl t with
      | false => rfl
      | true =>
        have := (hhl t (by omega) hb).2
        unfold cNr at this
        rw [bt_sS (by omega) (by omega), decide_eq_true (show t < N by omega), Bool.true_and] at this
        rw [this, Bool.and_true]
    have hpr8 : A8 m_promised (48 * c + o) = pr := by
      rw [w3, hpr]
      refine sN_congr _ _ _ (fun t _ htN => ?_)
      rw [kR5 15 _ (by omega), ← (R.sv (show t < N by omega) ho).2.2.2.2.2.2.2.1]
      cases hb : bt hl t with
      | false => rfl
      | true =>
        have hh2 : ¬ Mc (51, t, 0) o = 0 := by rw [(hhl t (by omega) hb).1]; decide
        have er : rEq (fun k => A5 m_vector (8 * (48 * t + o) + k)) (fun k => A5 m_vector (8 * (48 * s + o) + k)) 0 (N + 4) = rEq (Mc (55, t, o)) (Mc (55, s, o)) 0 (N + 4) := rEq_congr (fun k hk => by rw [kR5 14 _ (by omega)]; exact (R.row (by omega) ho hh2 hk).symm) (fun k hk => by rw [kR5 14 _ (by omega)]; exact (R.row hs ho (by rw [hh]; decide) hk).symm)
        rw [er]
    obtain ⟨R3, I3⟩ := brought (pr := pr) (z := z) hN hc ho hs R1 I1 (by rw [kM _ _ (by unfold fC; dsimp only; omega)]; exact hlog) (by rw [es 51 _ _ (by omega)]; exact hh) ⟨z1, by rw [es 53 _ _ (by omega)]; exact z2⟩ t2 t3 t4 t5 t6 t7 f8 (by rw [w2 _ _ (by dsimp only; omega)]; exact v22) (by rw [w2 _ _ (by dsimp only; omega)]; exact v27) (by rw [w2 _ _ (by dsimp only; omega)]; exact v23) (by rw [w2 _ _ (by dsimp only; omega)]; exact v24) (fun k hk => by rw [w2 _ _ (by dsimp only; omega)]; exact v25 k hk) (by rw [w2 _ _ (by dsimp only; omega)]; exact v49) (fun j h1 h2 => by
        rw [w2 _ _ (by omega), ← hA5, gpu_r, if_neg (fun x => by rw [x.1] at h1; exact absurd h1 (by decide)), gset_r, if_neg (fun x => by rw [x.1] at h1; exact absurd h1 (by decide)), gset_r, if_neg (fun x => by rw [x.1] at h1; exact absurd h1 (by decide)), gset_r, if_neg (fun x => by rw [x.1] at h1; exact absurd h1 (by decide)), gset_r, if_neg (fun x => by rw [x.1] at h1; exact absurd h1 (by decide)), gset_r, if_neg (fun x => h2 x.1)]) (fun x hx => by
        rw [w30 x hx, fA5 m_parent _ (by dsimp only; omega), fA5 m_entry _ (by dsimp only; omega), fA5 m_keptEntry _ (by dsimp only; omega)]) hpr8 hprn (by rw [e4, ewt, ha]; omega)
    clear v22 v27 v23 v24 v25 v49
    generalize hM3 : gset (gset Mc2 (32, c, 0) o pr) (9, 0, 0) 5 (gset Mc2 (32, c, 0) o pr (9, 0, 0) 5 + 1) = Mc3 at R3 I3
    have f3 : cf (fun j q => ((j.1 = 51 ∨ j.1 = 52 ∨ j.1 = 53) ∧ j.2.1 = 4 + c ∧ q = o) ∨ (j.1 = 55 ∧ j.2.1 = 4 + c ∧ j.2.2 = o) ∨ ((j.1 = 56 ∨ j.1 = 58) ∧ j.2.1 = 4 + c) ∨ (j.1 = 32 ∧ j.2.1 = c ∧ q = o) ∨ (j.1 = 9 ∧ q = 5)) Mc1 Mc3 := by
      rw [← hM3]
      exact ((t2.mo (fun j q => by omega)).tr (cf.st (by dsimp only; omega))).tr (cf.st (by dsimp only; omega))
    have e3 : ∀ t q b, t ≠ 32 → t ≠ 9 → Mc3 (t, 4 + c, b) q = Mc2 (t, 4 + c, b) q := fun t q b a1 a2 => by
      rw [← hM3, gset_r, if_neg (fun x => a2 (congrArg Prod.fst x.1)), gset_r, if_neg (fun x => a1 (congrArg Prod.fst x.1))]
    have kT : cf (tK c) Mc Mc1 := k4.mo (fun j q h => Or.inl h)
    have fT3 : cf (tK c) Mc Mc3 := kT.tr (f3.mo (fun j q => by unfold tK fC; omega))
    have top3 : uTop c o Mc3 := by
      obtain ⟨w, u, w1, w2, w3, w4, w5, w6⟩ := ht
      have e9 : ∀ t q, t = 30 ∨ t = 34 → Mc3 (t, c, 0) q = Mc (t, c, 0) q := fun t q hq => by
        rw [f3 _ _ (by dsimp only; omega), kM _ _ (by unfold fC; dsimp only; omega)]
      refine ⟨w, u, w1, w2, ?_, ?_, ?_, fun p hp hn => ?_⟩
      · rw [e9 30 _ (by omega)]; exact w3
      · rw [e9 30 _ (by omega)]; exact w4
      · rw [e9 34 _ (by omega)]; exact w5
      · rw [e9 34 _ (by omega)]; exact w6 p hp hn
    have hld : ∀ d p, Mc3 (51, 4 + d, 0) p = 1 → (d = c ∧ p = o) ∨ Mc1 (51, 4 + d, 0) p = 1 := fun d p hq => by
      by_cases e : d = c ∧ p = o
      · exact Or.inl e
      · rw [f3 _ _ (by dsimp only; omega)] at hq; exact Or.inr hq
    have C3 : CI N g B c o Mc3 A8 := by
      refine ⟨R3, I3, U1.fr f3 f8 ?_ ?_ ?_ ?_ ?_ ?_, fun d hd => (O1 d hd).fr (fun q _ => f3 _ _ (by dsimp only; omega)) (fun q _ hn hq => ?_) (fun q _ => f8 _ _ (by dsimp only; omega)), W1.fr f3 f8 ?_ ?_ ?_ ?_ ?_ ?_⟩
      · intro c q; dsimp only; omega
      · intro c; dsimp only; omega
      · intro q; dsimp only; omega
      · intro q; dsimp only; omega
      · dsimp only; omega
      · dsimp only; omega
      · rcases hld d q hq with x | x
        · rw [if_pos x.1] at hn; exact absurd x.2 hn
        · exact x
      · intro q; dsimp only; omega
      · dsimp only; omega
      · dsimp only; omega
      · intro q; dsimp only; omega
      · dsimp only; omega
      · intro q _ hn hq
        rcases hld c q hq with x | x
        · exact absurd x.2 hn
        · exact x
    have m51 : Mc3 (51, 4 + c, 0) o = 1 := by rw [e3 51 _ _ (by decide) (by decide)]; exact t3
    have kS : cf (tR c) Mr7 Mr1 := k5.mo (fun j q h => Or.inl h)
    have kS7 : cf (tR c) Mr Mr7 := f7.mo (fun j q => by unfold tR; omega)
    have kS8 : cf (tR c) Mr1 A8 := f8.mo (fun j q => by unfold tR fR; omega)
    have kS9 : cf (tR c) A8 (rUs A8 c o) := rUs_fr.mo (fun j q => by unfold tR; omega)
    have f9 : cf (tR c) Mr (rUs A8 c o) := ((kS7.tr kS).tr kS8).tr kS9
    have g9 : ∀ j q, j.1 = 41 ∨ j.1 = 42 ∨ (j.1 = 0 ∧ q = 42) → rUs A8 c o j q = Mr7 j q := fun j q hq => by
      rw [rUs_fr _ _ (by dsimp only; omega), f8 _ _ (by dsimp only; omega), k5 _ _ (by unfold fR; omega)]
    refine ⟨Mc3, rUs A8 c o, ?_, w1, use_ref hN hc ho hB C3 top3, fT3, f9, fun _ => ⟨fun hd4 => ?_, fun k hk => ?_, fun x hx => ?_⟩, fun p hp hn hm => ?_, fun x hx hp => ?_, Or.inl m51, fun p hp hq => ?_, top3⟩
    · rw [hc1, ob_s, zb_t, if_neg (by decide), t1, o1_s, wr_n ho (by omega), rd_l.2.1, wr_l.2.1, hM3]
    · have hd0 : Mc (4, 0, 0) o = 0 := by
        rw [f3 _ _ (by dsimp only; omega), e4] at hd4; exact hd4
      rw [g9 _ _ (by dsimp only; omega), ← hM7, rGot_v, e3 52 _ _ (by decide) (by decide), t4, es 52 _ _ (by omega), r2, if_neg (fun x => x.elim hhr (fun y => y (by rw [← hdir]; exact hd0)))]
    · rw [g9 _ _ (by dsimp only; omega), ← hM7, rGot_r (by omega), e3 55 _ _ (by decide) (by decide), t6 k hk, es 55 _ _ (by omega), r4 k hk, if_neg hhr]
    · rw [g9 _ _ (by dsimp only; omega), ← hM7, rGot_e hx, f3 (2, 0, 0) x (by dsimp only; omega), e2, ← (R.ct.2.2 x hx).1]
      by_cases q : 1 ≤ x ∧ x ≤ g ∧ Mc (2, 0, 0) x = nI o
      · rw [if_pos q, if_pos q, e3 56 _ _ (by decide) (by decide), t7 x hx, if_pos ⟨kid_gt I.1 q.1 q.2.1 (by omega) q.2.2, q.2.1, by rw [e2]; exact q.2.2⟩, es 56 _ _ (by omega)]
        exact ((R.sv hs hx).2.2.2.2.1).symm
      · rw [if_neg q, if_neg q]
    · obtain ⟨p1, p2, p3, p4⟩ := k6 p hp hm
      refine ⟨fun t ht => ?_, fun k hk => ?_, ?_, ?_⟩
      · rw [f3 _ _ (by dsimp only; omega)]; exact p1 t ht
      · rw [f3 _ _ (by dsimp only; omega)]; exact p2 k hk
      · rw [f3 _ _ (by dsimp only; omega)]; exact p3
      · rw [f3 _ _ (by dsimp only; omega)]; exact p4
    · rw [e3 56 _ _ (by decide) (by decide), t7 x hx, if_neg (fun y => (hp o ho (by rw [← e2]; exact y.2.2)).1 rfl)]
      exact k7 x hx (fun p h1 h2 => (hp p h1 h2).2)
    · rcases hld c p hq with x | x
      · exact Or.inl x.2
      · right
        cases hm : cMay Mc c be p with
        | true => exact (I.2.2.2.2.1 c hc p hp).1.resolve_left (may_held hm)
        | false => rw [← (k6 p hp hm).1 51 (by omega)]; exact x
end BR
