/-! layer 2: what the reference foresees -/
def rKno (M : gM) (G : Int32) (p s : Nat) : Bool := bt G s && nz (M m_has (48 * s + p))
def tTh (M : gM) (G : Int32) (x p : Nat) : Nat → Bool
  | 0 => false
  | n + 1 => tTh M G x p n || (rKno M G p n && decide (M m_entry (48 * n + x) = 1))
def tGo (M : gM) (G : Int32) (x p : Nat) : Nat → Bool
  | 0 => false
  | n + 1 => tGo M G x p n || (rKno M G p n && decide (M m_entry (48 * n + x) = 2))
def tRw (M : gM) (G : Int32) (x p k : Nat) : Nat → Int32
  | 0 => 0
  | n + 1 => if rKno M G p n = true ∧ M m_entry (48 * n + x) = 2 then (if tRw M G x p k n < M m_gone (8 * (48 * n + x) + k) then M m_gone (8 * (48 * n + x) + k) else tRw M G x p k n) else tRw M G x p k n
def rAm (N : Nat) (M : gM) (G : Int32) (x : Nat) : Bool := aF (fun s => !(bt G s && nz (M m_has (48 * s + x))) || (rLe (fun k => M m_vector (8 * (48 * s + x) + k)) (fun k => M m_mergedGone (8 * x + k)) 0 (N + 4) && aF (fun i => rLe (fun k => M m_versionVector (8 * (6 * (48 * s + x) + i) + k)) (fun k => M m_mergedGone (8 * x + k)) 0 (N + 4)) 0 (M m_versions (48 * s + x)).toNatClampNeg)) 0 N
def rGoes (M : gM) (c : Nat) : Bool := if M m_someGone c = 0 then decide (M m_someThere c = 0) else !decide (M m_canGo c = 0)
section ZXA
variable {N g B s o c d x y z T n m t l i j a b p : Nat} {A E M M' X Mc Mr Mc' Mr' : gM} {row a3 : gI} {D P : Nat → Bool} {G pd v w nr a1 a2 a4 a5 : Int32} {f r : Nat → Int32} {zz : lS}
def lC (x : Nat) (j : gI) (q : Nat) : Prop := ((j.1 = 57 ∨ j.1 = 58) ∧ q = x) ∨ (j.1 = 59 ∧ 8 * x ≤ q ∧ q < 8 * x + 8)
theorem r_fL37 {J : gM → Option gM} (hN : N ≤ 4) (hx1 : 1 ≤ x) (hx : x < 48) (hp : p < 48) (hpx : E m_parent x = nI p) (n0 : E m_o 0 = nI N) (n1 : E m_o 1 = nI (N + 4)) (h53 : E m_o 53 = G) (z1 : E m_someThere x = 0) (z2 : E m_someGone x = 0) (z3 : ∀ k, k < 8 → E m_mergedGone (8 * x + k) = 0) : ∃ M', f_X11_foresee_L37 a1 (nI x) J 100 (0 : Int32) E = J M' ∧ cf (lC x) E M' ∧ M' m_someThere x = zb (tTh E G x p N) ∧ M' m_someGone x = zb (tGo E G x p N) ∧ ∀ k, k < N + 4 → M' m_mergedGone (8 * x + k) = tRw E G x p k N := by
  obtain ⟨M', h1, h2, h3, h4, h5⟩ := loopP (fun u k M1 => f_X11_foresee_L37 a1 (nI x) J u (nI k) M1) N J (fun s M1 => cf (lC x) E M1 ∧ M1 m_someThere x = zb (tTh E G x p s) ∧ M1 m_someGone x = zb (tGo E G x p s) ∧ ∀ k, k < N + 4 → M1 m_mergedGone (8 * x + k) = tRw E G x p k s) (by omega) (fun u s M1 hs ⟨c1, c2, c3, c4⟩ => by
    have e : ∀ (j : gI) q, ¬ (j.1 = 57 ∨ j.1 = 58 ∨ j.1 = 59) → M1 j q = E j q := fun j q h => c1 _ _ (by unfold lC; omega)
    have w0 : M1 m_o 0 = nI N := by rw [e _ _ (by simp)]; exact n0
    have w53 : M1 m_o 53 = G := by rw [e _ _ (by simp)]; exact h53
    have eT : tTh E G x p (s + 1) = (tTh E G x p s || (rKno E G p s && decide (E m_entry (48 * s + x) = 1))) := rfl
    have eG : tGo E G x p (s + 1) = (tGo E G x p s || (rKno E G p s && decide (E m_entry (48 * s + x) = 2))) := rfl
    have eR : ∀ k, tRw E G x p k (s + 1) = if rKno E G p s = true ∧ E m_entry (48 * s + x) = 2 then (if tRw E G x p k s < E m_gone (8 * (48 * s + x) + k) then E m_gone (8 * (48 * s + x) + k) else tRw E G x p k s) else tRw E G x p k s := fun _ => rfl
    obtain ⟨Ma, hMa⟩ : ∃ X, X = gset M1 m_someThere x (zb (tTh E G x p (s + 1))) := ⟨_, rfl⟩
    have fa : cf (lC x) E Ma := by rw [hMa]; exact c1.tr (cf.st (Or.inl ⟨Or.inl rfl, rfl⟩))
    have ea : ∀ (j : gI) q, ¬ (j.1 = 57 ∨ j.1 = 58 ∨ j.1 = 59) → Ma j q = E j q := fun j q h => fa _ _ (by unfold lC; omega)
    have a1' : Ma m_someThere x = zb (tTh E G x p (s + 1)) := by rw [hMa, gset_aa]
    have a2' : Ma m_someGone x = zb (tGo E G x p s) := by rw [hMa, gset_o (by simp)]; exact c3
    have a3' : ∀ k, k < N + 4 → Ma m_mergedGone (8 * x + k) = tRw E G x p k s := fun k hk => by rw [hMa, gset_o (by simp)]; exact c4 k hk
    have hx0 : ¬ nI x ≤ (0 : Int32) := by rw [show (0 : Int32) = nI 0 from rfl, nle (by omega) (by omega)]; omega
    -- the head
    have head : f_X11_foresee_L37 a1 (nI x) J (u + 1) (nI s) M1 = if rKno E G p s = true then (if E m_entry (48 * s + x) = 2 then wz Ma m_someGone 48 (nI x) (1 : Int32) (fun M44 => o1 (f_X11_raise M44 m_gone (nI (48 * s + x)) m_mergedGone (nI x)) (fun M46 => f_X11_foresee_L37 a1 (nI x) J u (nI (s + 1)) M46)) else f_X11_foresee_L37 a1 (nI x) J u (nI (s + 1)) Ma) else f_X11_foresee_L37 a1 (nI x) J u (nI (s + 1)) Ma := by
      simp only [f_X11_foresee_L37, lt_d, jn_d]
      rw [w0, if_neg (nI_ge hs (by omega)), r_isOf w53 (by omega), o1_s, nI_m48, nI_add, if_neg hx0, nI_1]
      have sT : ∀ b : Bool, b = (rKno E G p s && decide (E m_entry (48 * s + x) = 1)) → gset M1 m_someThere x (zb (tTh E G x p s || b)) = Ma := fun b hb => by rw [hMa, eT, hb]
      unfold rKno at sT ⊢
      cases hb : bt G s with
      | false =>
        have sT' := sT false (by rw [hb]; rfl)
        rw [Bool.or_false] at sT'
        rw [zb_f, if_pos rfl, rd_n hx (by omega), c2, Bool.false_and, if_neg (show ¬ false = true by decide)]
        cases ht : tTh E G x p s with
        | true =>
          rw [ht, zb_t] at sT'
          rw [zb_t, if_neg (by decide), wz_1 hx (by omega), sT', if_pos trivial]
        | false =>
          rw [ht, zb_f] at sT'
          rw [zb_f, if_pos rfl, if_pos trivial, wz_0 hx (by omega), sT', if_pos trivial]
      | true =>
        rw [zb_t, if_neg (show ¬ (1 : Int32) = 0 by decide), rd_n hx (by omega), e _ _ (by simp), hpx, nI_add, rd_n (by omega) (by omega), e _ _ (by simp)]
        by_cases hh : E m_has (48 * s + p) = 0
        · have hnz : nz (E m_has (48 * s + p)) = false := by rw [hh]; rfl
          have sT' := sT false (by rw [hb, hnz]; rfl)
          rw [Bool.or_false] at sT'
          rw [if_pos hh, rd_n hx (by omega), c2, hnz, Bool.true_and, if_neg (show ¬ false = true by decide)]
          cases ht : tTh E G x p s with
          | true =>
            rw [ht, zb_t] at sT'
            rw [zb_t, if_neg (by decide), wz_1 hx (by omega), sT', if_pos trivial]
          | false =>
            rw [ht, zb_f] at sT'
            rw [zb_f, if_pos rfl, if_pos trivial, wz_0 hx (by omega), sT', if_pos trivial]
        · have hnz : nz (E m_has (48 * s + p)) = true := (nz_t _).mpr hh
          have sT' := sT (decide (E m_entry (48 * s + x) = 1)) (by rw [hb, hnz]; rfl)
          rw [if_neg hh, rd_n hx (by omega), c2, hnz, Bool.true_and, if_pos rfl]
          cases ht : tTh E G x p s with
          | true =>
            rw [ht, Bool.true_or, zb_t] at sT'
            rw [zb_t, if_neg (by decide), wz_1 hx (by omega), sT', if_neg (by decide), rd_n (by omega) (by omega), ea _ _ (by simp)]
          | false =>
            rw [ht, Bool.false_or] at sT'
            rw [zb_f, if_pos rfl, if_neg (show ¬ (1 : Int32) = 0 by decide), rd_n (by omega) (by omega), e _ _ (by simp)]
            by_cases h1 : E m_entry (48 * s + x) = 1
            · rw [decide_eq_true h1, zb_t] at sT'
              rw [if_pos h1, wz_1 hx (by omega), sT', if_neg (show ¬ (1 : Int32) = 0 by decide), rd_n (by omega) (by omega), ea _ _ (by simp)]
            · rw [decide_eq_false h1, zb_f] at sT'
              rw [if_neg h1, wz_0 hx (by omega), sT', if_neg (show ¬ (1 : Int32) = 0 by decide), rd_n (by omega) (by omega), ea _ _ (by simp)]
    by_cases hk : rKno E G p s = true
    · rw [hk, Bool.true_and] at eG
      by_cases h2 : E m_entry (48 * s + x) = 2
      · rw [decide_eq_true h2, Bool.or_true] at eG
        obtain ⟨Mb, hMb⟩ : ∃ X, X = gset Ma m_someGone x 1 := ⟨_, rfl⟩
        have fb : cf (lC x) E Mb := by rw [hMb]; exact fa.tr (cf.st (Or.inl ⟨Or.inr rfl, rfl⟩))
        refine ⟨gpu Mb m_mergedGone (8 * x) (N + 4) (fun k => mx (Mb m_gone (8 * (48 * s + x) + k)) (Mb m_mergedGone (8 * x + k))), ?_, fb.tr (cf.pu (fun q a b => Or.inr ⟨rfl, a, by omega⟩)), ?_, ?_, fun k hk' => ?_⟩
        · rw [head, if_pos hk, if_pos h2, wz_1 hx (by omega), ← hMb, r_raise (n := N + 4) (by rw [fb _ _ (by unfold lC; dsimp only; omega)]; exact n1) (by omega) (by decide) (show _ ≤ 1536 by omega) (show _ ≤ 384 by omega) (by decide) (by decide), o1_s]
        · rw [gpu_ne (by simp), hMb, gset_o (by simp)]; exact a1'
        · rw [gpu_ne (by simp), hMb, gset_aa, eG]; rfl
        · rw [gpu_in hk', mx_eq, fb m_gone _ (by unfold lC; dsimp only; omega), hMb, gset_o (by simp), a3' k hk', (eR k).trans (if_pos ⟨hk, h2⟩)]
      · rw [decide_eq_false h2, Bool.or_false] at eG
        refine ⟨Ma, by rw [head, if_pos hk, if_neg h2], fa, a1', by rw [eG]; exact a2', fun k hk' => ?_⟩
        rw [a3' k hk', eR k, if_neg (fun z => h2 z.2)]
    · have hk0 : rKno E G p s = false := by rw [Bool.not_eq_true] at hk; exact hk
      rw [hk0, Bool.false_and, Bool.or_false] at eG
      refine ⟨Ma, by rw [head, if_neg hk], fa, a1', by rw [eG]; exact a2', fun k hk' => ?_⟩
      rw [a3' k hk', eR k, if_neg (fun z => hk z.1)]) (fun u M1 ⟨c1, _⟩ => by
    simp only [f_X11_foresee_L37, lt_d]
    rw [c1 m_o 0 (by unfold lC; dsimp only; omega), n0, if_pos (nI_le (by omega) (by omega))]) (st := E) ⟨cf.rf _ _, z1, z2, fun k hk => z3 k (by omega)⟩
  exact ⟨M', h1, h2, h3, h4, h5⟩
end ZXA
