/-! layer 2: sweep of the reference -/
/-- what is still to be counted for the doomed -/
def pds (N : Nat) (G : Int32) (D : Nat → Bool) (M : gM) : Int32 := nI (wsum (fun z => if D z = true then cntF (bt (rHo N M G z)) 0 N else 0) 48)
def dI (N g : Nat) (G : Int32) (par : Nat → Nat) (D : Nat → Bool) (M : gM) : Prop := ∀ x, D x = true → 1 ≤ x ∧ x ≤ g ∧ ∀ s, s < N → bt G s = true → (∃ n, n ≤ 6 ∧ M m_versions (48 * s + x) = nI n) ∧ (M m_has (48 * s + x) = 0 → M m_versions (48 * s + x) = 0 ∧ ∀ z, 1 ≤ z → z ≤ g → par z = x → M m_entry (48 * s + z) = 0)
section ZYB
variable {N g B s o c d x y z T n m t l i j a b p k : Nat} {A E M M1 M' X Mc Mr Mc' Mr' : gM} {row a3 : gI} {D P : Nat → Bool} {G H pd v w nr a1 a2 a4 a5 : Int32} {f r : Nat → Int32} {zz : lS} {par : Nat → Nat}
theorem r_sweep (hN : N ≤ 4) (hg : g ≤ 47) (hx : x < 48) (n0 : M m_o 0 = nI N) (n6 : M m_o 6 = nI (g + 1)) (h53 : M m_o 53 = G) : ∃ M', f_X11_sweep M (nI x) = some M' ∧ SW N g (rHo N M G x) (rHo N M G x) x (gset M m_o 55 (M m_o 55 + nI (cntF (bt (rHo N M G x)) 0 N))) M' := by
  obtain ⟨H, hH⟩ : ∃ H, H = rHo N M G x := ⟨_, rfl⟩
  rw [← hH]
  have hHb : ∀ s, s < N → bt H s = (bt G s && nz (M m_has (48 * s + x))) := fun s hs => by rw [hH, rHo_b hN (by omega), decide_eq_true hs, Bool.true_and]
  have hHo : ∀ i, N ≤ i → i < 32 → bt H i = false := fun i h1 h2 => by rw [hH, rHo_b hN h2, decide_eq_false (by omega)]; rfl
  obtain ⟨M', h1, h2⟩ := loopP (fun u k M1 => f_X11_sweep_L2 (nI x) u (nI k) M1) N some (fun k M1 => SW k g H (sN (bt H) 0 k 0) x (gset M m_o 55 (M m_o 55 + nI (cntF (bt H) 0 k))) M1) (by omega) (fun u k M1 hk h => by
    have eo : ∀ q, q ≠ 55 → M1 m_o q = M m_o q := fun q hq => by rw [h.2.2.2 m_o q (fun z => absurd z.1 (by decide)), gset_o (by simp [hq])]
    have w0 : M1 m_o 0 = nI N := by rw [eo _ (by decide)]; exact n0
    have w53 : M1 m_o 53 = G := by rw [eo _ (by decide)]; exact h53
    have w6 : M1 m_o 6 = nI (g + 1) := by rw [eo _ (by decide)]; exact n6
    have wh : M1 m_has (48 * k + x) = M m_has (48 * k + x) := by rw [h.1 m_has _ (Or.inl rfl) (by omega), if_neg (fun z => by have := z.1; omega), gset_o (by simp)]
    have hcs : cntF (bt H) 0 (k + 1) = cntF (bt H) 0 k + (if bt H k then 1 else 0) := by have := cntF_snoc (p := bt H) k 0; rw [Nat.zero_add] at this; exact this
    have hsn : sN (bt H) 0 (k + 1) 0 = if bt H k then sN (bt H) 0 k 0 ||| sB k else sN (bt H) 0 k 0 := by have := sN_snoc (f := bt H) k 0 0; rw [Nat.zero_add] at this; exact this
    have w55 : M1 m_o 55 = M m_o 55 + nI (cntF (bt H) 0 k) := by rw [h.2.2.2 m_o 55 (fun z => absurd z.1 (by decide)), gset_aa]
    have hb' := hHb k hk
    by_cases hb : bt H k = true
    · rw [hb] at hb'
      have hb2 := hb'.symm
      rw [Bool.and_eq_true] at hb2
      have e55 : rSd g M1 k x m_o 55 = M1 m_o 55 := rSd_fr hg _ _ (by dsimp only; omega)
      refine ⟨rEp (gset (rSd g M1 k x) m_o 55 (M1 m_o 55 + 1)) x (sB k) (-1 : Int32), ?_, ?_⟩
      · simp only [f_X11_sweep_L2, lt_d, jn_d]
        rw [w0, if_neg (nI_ge hk (by omega)), r_isOf w53 (by omega), o1_s, hb2.1, zb_t, if_neg (by decide), nI_m48, nI_add, rd_n (by omega) (by omega), wh, if_neg ((nz_t _).mp hb2.2), r_drop w6 hg (by omega) hx, o1_s, e55, show f_X11_endPromises (gset (rSd g M1 k x) m_o 55 (M1 m_o 55 + 1)) (nI x) ((1 : Int32) <<< (nI k &&& 31)) (-1 : Int32) = _ from r_ends (v := sB k) hx, o1_s, nI_1]
      · rw [hsn, if_pos hb]
        have := (SW.dr hg (by omega) hx h hb).mo (a2 := M1 m_o 55 + 1)
        have := this.ep (w := sB k)
        rw [hcs, hb, if_pos rfl, ← nI_add, ← Int32.add_assoc, ← w55]
        exact this
    · refine ⟨M1, ?_, ?_⟩
      · simp only [f_X11_sweep_L2, lt_d, jn_d]
        rw [w0, if_neg (nI_ge hk (by omega)), r_isOf w53 (by omega), o1_s, nI_1]
        cases hg' : bt G k with
        | false => rw [zb_f, if_pos rfl]
        | true =>
          rw [hg', Bool.true_and] at hb'
          rw [zb_t, if_neg (by decide), nI_m48, nI_add, rd_n (by omega) (by omega), wh, if_pos (Classical.not_not.mp (fun z => hb (by rw [hb']; exact (nz_t _).mpr z)))]
      · rw [hsn, if_neg hb, hcs, if_neg hb, Nat.add_zero]
        exact h.no hb) (fun u M1 h => by
    simp only [f_X11_sweep_L2, lt_d]
    rw [h.2.2.2 m_o 0 (fun z => absurd z.1 (by decide)), gset_o (by simp), n0, if_pos (nI_le (by omega) (by omega))]) (st := M) (by
    have e : gset M m_o 55 (M m_o 55 + nI (cntF (bt H) 0 0)) = M := by
      rw [show M m_o 55 + nI (cntF (bt H) 0 0) = M m_o 55 from by show _ + 0 = _; rw [Int32.add_zero], gset_self]
    rw [e]
    exact SW.rf)
  refine ⟨M', h1, ?_⟩
  have e : sN (bt H) 0 N 0 = H := sS_bt (by omega) hHo
  rw [e] at h2
  exact h2
theorem wsum_at {f f' : Nat → Nat} : ∀ n, x < n → (∀ z, z < n → z ≠ x → f' z = f z) → f' x + d = f x → wsum f' n + d = wsum f n := by
  have cong : ∀ n, (∀ z, z < n → f' z = f z) → wsum f' n = wsum f n := by
    intro n
    induction n with
    | zero => exact fun _ => rfl
    | succ n ih =>
      intro h
      show wsum f' n + f' n = wsum f n + f n
      rw [ih (fun z hz => h z (by omega)), h n (by omega)]
  intro n
  induction n with
  | zero => intro h; omega
  | succ n ih =>
    intro hx h hd
    show wsum f' n + f' n + d = wsum f n + f n
    by_cases e : x = n
    · subst e
      rw [cong x (fun z hz => h z (by omega) (by omega))]
      omega
    · have := ih (by omega) (fun z hz => h z (by omega)) hd
      rw [h n (by omega) (fun z => e z.symm)]
      omega
theorem sweep_step (hN : N ≤ 4) (hg : g ≤ 47) (hx : x < 48) (hGb : ∀ i, N ≤ i → i < 32 → bt G i = false) (hD : D x = true) (hpar : ∀ z, 1 ≤ z → z ≤ g → M m_parent z = nI (par z) ∧ par z < 48) (hI : dI N g G par D M) (n0 : M m_o 0 = nI N) (n6 : M m_o 6 = nI (g + 1)) (h53 : M m_o 53 = G) : ∃ M', f_X11_sweep M (nI x) = some M' ∧ (∃ w, swp N G (dR D x) (pO par g (dR D x)) M' = gset (swp N G D (pO par g D) M) m_o 55 w) ∧ M' m_o 55 + pds N G (dR D x) M' = M m_o 55 + pds N G D M ∧ dI N g G par (dR D x) M' ∧ cf (fun j q => j = m_has ∨ j = m_versions ∨ j = m_entry ∨ j = m_promised ∨ (j = m_o ∧ q = 55)) M M' := by
  obtain ⟨M', h1, h2⟩ := r_sweep (x := x) hN hg hx n0 n6 h53
  refine ⟨M', h1, ⟨_, swp_sweep hN hg hx hGb hD hpar (fun s hs hb h0 => ((hI x hD).2.2 s hs hb).2 h0) h2⟩, ?_, fun y hy => ?_, fun j q hn => ?_⟩
  · obtain ⟨k1, k2, k3, k4⟩ := h2
    have e55 : M' m_o 55 = M m_o 55 + nI (cntF (bt (rHo N M G x)) 0 N) := by rw [k4 m_o 55 (fun z => absurd z.1 (by decide)), gset_aa]
    have eh : ∀ z, z < 48 → z ≠ x → rHo N M' G z = rHo N M G z := fun z hz hne => sN_congr _ _ _ (fun s _ hs => by
      rw [k1 m_has (48 * s + z) (Or.inl rfl) (by omega), if_neg (fun y => hne (by have := y.2.2; omega)), gset_o (by simp)])
    have ew : wsum (fun z => if dR D x z = true then cntF (bt (rHo N M' G z)) 0 N else 0) 48 + cntF (bt (rHo N M G x)) 0 N = wsum (fun z => if D z = true then cntF (bt (rHo N M G z)) 0 N else 0) 48 := wsum_at 48 hx (fun z hz hne => by
        unfold dR
        rw [decide_eq_false hne, Bool.not_false, Bool.and_true, eh z hz hne]) (by
        unfold dR
        rw [decide_eq_true rfl, Bool.not_true, Bool.and_false, hD, if_neg (by decide), if_pos rfl, Nat.zero_add])
    unfold pds
    rw [e55, ← ew, ← nI_add, Int32.add_assoc, Int32.add_comm (nI (cntF (bt (rHo N M G x)) 0 N))]
  · obtain ⟨k1, k2, k3, k4⟩ := h2
    have hy2 : D y = true ∧ y ≠ x := by
      unfold dR at hy
      rw [Bool.and_eq_true] at hy
      exact ⟨hy.1, by have := hy.2; simpa using this⟩
    obtain ⟨i1, i2, i3⟩ := hI y hy2.1
    refine ⟨i1, i2, fun s hs hb => ?_⟩
    have ek : ∀ j : gI, (j = m_has ∨ j = m_versions) → M' j (48 * s + y) = M j (48 * s + y) := fun j hj => by
      rw [k1 j _ hj (by omega), if_neg (fun z => hy2.2 (by have := z.2.2; omega)), gset_o (fun z => by rcases hj with hj | hj <;> (rw [hj] at z; exact absurd z.1 (by decide)))]
    rw [ek _ (Or.inl rfl), ek _ (Or.inr rfl)]
    refine ⟨(i3 s hs hb).1, fun h0 => ⟨((i3 s hs hb).2 h0).1, fun z z1 z2 z3 => ?_⟩⟩
    rw [k2 _ (by omega)]
    split
    · rfl
    · rw [gset_o (by simp)]; exact ((i3 s hs hb).2 h0).2 z z1 z2 z3
  · rw [h2.2.2.2 j q (fun z => hn (by
      rcases z.1 with z | z | z | z
      · exact Or.inl z
      · exact Or.inr (Or.inl z)
      · exact Or.inr (Or.inr (Or.inl z))
      · exact Or.inr (Or.inr (Or.inr (Or.inl z))))), gset_o (fun z => hn (Or.inr (Or.inr (Or.inr (Or.inr z)))))]
end ZYB
