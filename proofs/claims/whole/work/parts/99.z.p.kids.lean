/-! layer 2: all entries of a directory -/
section ZP
variable {N g B s o c d x y z T n m t l i j a b : Nat} {A E M M' X Mc Mr Mc' Mr' : gM} {row a3 : gI} {D P : Nat → Bool} {G pd v w nr a1 a2 a4 a5 : Int32} {f : Nat → Int32} {zz : lS}
/-- x is in the directory y -/
def ch (M : gM) (g y x : Nat) : Prop := y < x ∧ x ≤ g ∧ M (2, 0, 0) x = nI y
def fE (A : gM) (G : Int32) (N g y : Nat) (j : gI) (q : Nat) : Prop := j.1 = 14 ∨ ∃ x, ch A g y x ∧ eC G x N j q
def dE (A : gM) (G : Int32) (N g y : Nat) (j : gI) (q : Nat) : Prop := j.1 = 59 ∨ ∃ x, ch A g y x ∧ eR G x N j q
theorem eC_t {j : gI} {q : Nat} (h : eC G x N j q) : j.1 = 56 ∨ j.1 = 58 := by
  obtain ⟨s, -, -, h | h⟩ := h
  · rw [h.1]; exact Or.inl rfl
  · rw [h]; exact Or.inr rfl
theorem eR_t {j : gI} {q : Nat} (h : eR G x N j q) : j.1 = 19 ∨ j.1 = 20 := by
  obtain ⟨s, -, -, h | h⟩ := h
  · rw [h.1]; exact Or.inl rfl
  · rw [h.1]; exact Or.inr rfl
theorem eC_x {s x' : Nat} {j : gI} {q : Nat} (h : eC G x N j q) (h' : (j = (56, s, 0) ∧ q = x') ∨ j = (58, s, x')) : x = x' := by
  obtain ⟨t, -, -, h⟩ := h
  rcases h with ⟨rfl, rfl⟩ | rfl
  · rcases h' with h' | h'
    · exact h'.2
    · exact absurd (Prod.mk.inj h').1 (by decide)
  · rcases h' with h' | h'
    · exact absurd (Prod.mk.inj h'.1).1 (by decide)
    · exact (Prod.mk.inj (Prod.mk.inj h').2).2
theorem eR_x {s x' : Nat} {j : gI} {q : Nat} (hx : x < 48) (hx' : x' < 48) (h : eR G x N j q) (h' : (j = m_entry ∧ q = 48 * s + x') ∨ (j = m_gone ∧ 8 * (48 * s + x') ≤ q ∧ q < 8 * (48 * s + x') + 8)) : x = x' := by
  obtain ⟨t, -, -, h⟩ := h
  rcases h with ⟨rfl, h⟩ | ⟨rfl, h⟩
  · rcases h' with h' | h'
    · omega
    · exact absurd h'.1 (by decide)
  · rcases h' with h' | h'
    · exact absurd h'.1 (by decide)
    · omega
theorem rB.same (h : rB N s x Mc Mr) (e1 : Mc' (56, s, 0) x = Mc (56, s, 0) x) (e2 : ∀ k, k < N + 4 → Mc' (58, s, x) k = Mc (58, s, x) k) (e3 : Mr' m_entry (48 * s + x) = Mr m_entry (48 * s + x)) (e4 : ∀ k, k < N + 4 → Mr' m_gone (8 * (48 * s + x) + k) = Mr m_gone (8 * (48 * s + x) + k)) : rB N s x Mc' Mr' := by
  obtain ⟨a, b⟩ := h
  refine ⟨by rw [e1, e3]; exact a, fun k hk => ?_⟩
  rw [e2 k hk, e3, e4 k hk]; exact b k hk
theorem r_skip160 {J : gM → Option gM} (hg : g ≤ 47) (hyg : y ≤ g) (h6 : E m_o 6 = nI (g + 1)) (hp : ∀ x, 1 ≤ x → x ≤ y → ¬ E m_parent x = nI y) : ∀ m k fu, k + m = y + 1 → 1 ≤ k → m < fu → f_X11_mergeDirectory_L160 (nI y) J fu (nI k) E = f_X11_mergeDirectory_L160 (nI y) J (fu - m) (nI (y + 1)) E := by
  intro m
  induction m with
  | zero =>
    intro k fu hk _ _
    rw [show k = y + 1 by omega]; rfl
  | succ m ih =>
    intro k fu hk h1 hf
    obtain ⟨fu, rfl⟩ : ∃ q, fu = q + 1 := ⟨fu - 1, by omega⟩
    rw [show fu + 1 - (m + 1) = fu - m by omega, ← ih (k + 1) fu (by omega) (by omega) (by omega)]
    simp only [f_X11_mergeDirectory_L160, lt_d, jn_d]
    rw [h6, if_neg (nI_ge (by omega) (by omega)), r_isChild h6 hg (by omega), o1_s, decide_eq_false (fun z => hp k (by omega) (by omega) z.2.2), zb_f, if_pos rfl, nI_1]
theorem ent_loop {J J' : gM → Option gM} (hN : N ≤ 4) (hyg : y ≤ g) (hg : g ≤ 47) (h3 : A (1, 0, 0) 3 = nI g) (h6 : E m_o 6 = nI (g + 1)) (hpa : ∀ x, 1 ≤ x → x ≤ g → E m_parent x = A (2, 0, 0) x) (hcat : ∀ x, 1 ≤ x → x ≤ g → ∃ p, p < x ∧ A (2, 0, 0) x = nI p) (hB : ∀ x, ch A g y x → ∀ s, s < N → rB N s x A E) (hh : ∀ s, s < N → A (51, s, 0) y = E m_has (48 * s + y)) (hun : ∀ x, ch A g y x → ∀ s, s < N → A (51, s, 0) y = 0 → A (56, s, 0) x = 0) (h2 : ∀ x, ch A g y x → ∀ s, s < N → A (56, s, 0) x = 0 ∨ A (56, s, 0) x = 1 ∨ A (56, s, 0) x = 2) (g1 : A (13, 0, 0) 6 = G) (n0 : E m_o 0 = nI N) (n1 : E m_o 1 = nI (N + 4)) (h53 : E m_o 53 = G) : ∃ Mc' Mr', f_X4_joinDirectory_L28 N (nI y) J 100 (nI (y + 1)) A = J Mc' ∧ f_X11_mergeDirectory_L160 (nI y) J' 100 (1 : Int32) E = J' Mr' ∧ (∀ x, ch A g y x → ∀ s, s < N → rB N s x Mc' Mr') ∧ (∀ x, ch A g y x → ∀ s, s < N → bt G s = true → Mc' (56, s, 0) x = jS A G x N) ∧ cf (fE A G N g y) A Mc' ∧ cf (dE A G N g y) E Mr' := by
  have hsk : f_X11_mergeDirectory_L160 (nI y) J' 100 (1 : Int32) E = f_X11_mergeDirectory_L160 (nI y) J' (100 - y) (nI (y + 1)) E := r_skip160 hg hyg h6 (fun x x1 x2 e => by
    rw [hpa x x1 (by omega)] at e
    obtain ⟨p, p1, p2⟩ := hcat x x1 (by omega)
    rw [e, neq (by omega) (by omega)] at p2
    omega) y 1 100 (by omega) (by omega) (by omega)
  rw [hsk]
  obtain ⟨Mc', Mr', k1, k2, k3, k4, k5, k6⟩ := loopQ2 (fun n k M1 => f_X4_joinDirectory_L28 N (nI y) J n (nI k) M1) (fun n k M1 => f_X11_mergeDirectory_L160 (nI y) J' n (nI k) M1) (g + 1) J J' (fun k M1 M2 => y < k ∧ (∀ x, ch A g y x → ∀ s, s < N → rB N s x M1 M2) ∧ (∀ x, ch A g y x → x < k → ∀ s, s < N → bt G s = true → M1 (56, s, 0) x = jS A G x N) ∧ (cf (fE A G N g y) A M1 ∧ ∀ x, ch A g y x → k ≤ x → ∀ s, s < N → M1 (56, s, 0) x = A (56, s, 0) x) ∧ cf (dE A G N g y) E M2)
    (fun n n' k M1 M2 hk ⟨hy1, b1, b2, ⟨b3, b4⟩, b5⟩ => by
      have eA : ∀ (j : gI) q, ¬ (j.1 = 14 ∨ j.1 = 56 ∨ j.1 = 58) → M1 j q = A j q := fun j q hj => b3 _ _ (fun z => by
        rcases z with z | ⟨x, -, z⟩
        · exact hj (Or.inl z)
        · exact hj (Or.inr (eC_t z)))
      have eE : ∀ (j : gI) q, ¬ (j.1 = 59 ∨ j.1 = 19 ∨ j.1 = 20) → M2 j q = E j q := fun j q hj => b5 _ _ (fun z => by
        rcases z with z | ⟨x, -, z⟩
        · exact hj (Or.inl z)
        · exact hj (Or.inr (eR_t z)))
      have h6' : M2 m_o 6 = nI (g + 1) := by rw [eE _ _ (by simp)]; exact h6
      have c0 : f_X4_joinDirectory_L28 N (nI y) J (n + 1) (nI k) M1 = if A (2, 0, 0) k = nI y then o1 (f_X4_joinEntry N M1 (nI k)) (fun M41 => f_X4_joinDirectory_L28 N (nI y) J n (nI (k + 1)) M41) else f_X4_joinDirectory_L28 N (nI y) J n (nI (k + 1)) M1 := by
        simp only [f_X4_joinDirectory_L28, lt_d, jn_d]
        rw [eA _ _ (by simp), h3, if_neg (show ¬ nI g < nI k by rw [nlt (by omega) (by omega)]; omega), rd_n (by omega) (by omega), eA _ _ (by simp), nI_1]
      have r0 : f_X11_mergeDirectory_L160 (nI y) J' (n' + 1) (nI k) M2 = if A (2, 0, 0) k = nI y then o1 (f_X11_mergeEntry M2 (nI y) (nI k)) (fun M41 => f_X11_mergeDirectory_L160 (nI y) J' n' (nI (k + 1)) M41) else f_X11_mergeDirectory_L160 (nI y) J' n' (nI (k + 1)) M2 := by
        simp only [f_X11_mergeDirectory_L160, lt_d, jn_d]
        rw [h6', if_neg (nI_ge (by omega) (by omega)), r_isChild h6' hg (by omega), o1_s, nI_1, eE _ _ (by simp), hpa k (by omega) (by omega)]
        by_cases e : A (2, 0, 0) k = nI y
        · rw [decide_eq_true ⟨by omega, by omega, e⟩, zb_t, if_neg (by decide), if_pos e]
        · rw [decide_eq_false (fun z => e z.2.2), zb_f, if_pos rfl, if_neg e]
      by_cases e : A (2, 0, 0) k = nI y
      · have hc : ch A g y k := ⟨hy1, by omega, e⟩
        obtain ⟨A2, E2, q1, q2, q3, q4, q5, q6⟩ := ent_one (Mc := M1) (Mr := M2) (y := y) (x := k) (G := G) hN (by omega) (by omega) (b1 k hc) (fun s hs => by rw [eA _ _ (by simp), eE _ _ (by simp)]; exact hh s hs) (fun s hs => by rw [eA _ _ (by simp), b4 k hc (by omega) s hs]; exact hun k hc s hs) (fun s hs => by rw [b4 k hc (by omega) s hs]; exact h2 k hc s hs) (by rw [eA _ _ (by simp)]; exact g1) (by rw [eE _ _ (by simp)]; exact n0) (by rw [eE _ _ (by simp)]; exact n1) (by rw [eE _ _ (by simp)]; exact h53)
        have ne : ∀ x s (j : gI) q, x ≠ k → ((j = (56, s, 0) ∧ q = x) ∨ j = (58, s, x)) → A2 j q = M1 j q := fun x s j q hne hj => q5 _ _ (fun z => by
          rcases z with z | z
          · rcases hj with hj | hj
            · rw [hj.1] at z; exact absurd z (by simp)
            · rw [hj] at z; exact absurd z (by simp)
          · exact hne (eC_x z hj).symm)
        have ne2 : ∀ x s (j : gI) q, x < 48 → x ≠ k → ((j = m_entry ∧ q = 48 * s + x) ∨ (j = m_gone ∧ 8 * (48 * s + x) ≤ q ∧ q < 8 * (48 * s + x) + 8)) → E2 j q = M2 j q := fun x s j q hx hne hj => q6 _ _ (fun z => by
          rcases z with z | z
          · rcases hj with hj | hj
            · rw [hj.1] at z; exact absurd z (by simp)
            · rw [hj.1] at z; exact absurd z (by simp)
          · exact hne (eR_x (by omega) hx z hj).symm)
        refine ⟨A2, E2, ?_, ?_, by omega, fun x hx s hs => ?_, fun x hx hxk s hs hb => ?_, ⟨?_, fun x hx hxk s hs => ?_⟩, ?_⟩
        · rw [c0, if_pos e, q1, o1_s]
        · rw [r0, if_pos e, q2, o1_s]
        · by_cases ex : x = k
          · subst ex; exact q3 s hs
          · have := hx.2.1
            exact (b1 x hx s hs).same (ne x s _ _ ex (Or.inl ⟨rfl, rfl⟩)) (fun k' _ => ne x s _ _ ex (Or.inr rfl)) (ne2 x s _ _ (by omega) ex (Or.inl ⟨rfl, rfl⟩)) (fun k' hk' => ne2 x s _ _ (by omega) ex (Or.inr ⟨rfl, by omega, by omega⟩))
        · by_cases ex : x = k
          · subst ex
            rw [q4 s hs hb]
            exact jS_congr N (fun t ht _ => b4 x hc (by omega) t ht)
          · rw [ne x s _ _ ex (Or.inl ⟨rfl, rfl⟩)]; exact b2 x hx (by omega) s hs hb
        · exact b3.tr (q5.mo (fun j q z => z.elim Or.inl (fun z => Or.inr ⟨k, hc, z⟩)))
        · rw [ne x s _ _ (by omega) (Or.inl ⟨rfl, rfl⟩)]; exact b4 x hx (by omega) s hs
        · exact b5.tr (q6.mo (fun j q z => z.elim Or.inl (fun z => Or.inr ⟨k, hc, z⟩)))
      · refine ⟨M1, M2, ?_, ?_, by omega, b1, fun x hx hxk s hs hb => b2 x hx (by
          have : x ≠ k := fun z => e (by rw [← z]; exact hx.2.2)
          omega) s hs hb, ⟨b3, fun x hx hxk s hs => b4 x hx (by omega) s hs⟩, b5⟩
        · rw [c0, if_neg e]
        · rw [r0, if_neg e])
    (fun n M1 M2 ⟨_, _, _, ⟨b3, _⟩, _⟩ => by
      simp only [f_X4_joinDirectory_L28, lt_d]
      rw [b3 (1, 0, 0) 3 (fun z => by
        rcases z with z | ⟨x, -, z⟩
        · exact absurd z (by simp)
        · exact absurd (eC_t z) (by simp)), h3, if_pos (show nI g < nI (g + 1) by rw [nlt (by omega) (by omega)]; omega)])
    (fun n M1 M2 ⟨_, _, _, _, b5⟩ => by
      simp only [f_X11_mergeDirectory_L160, lt_d]
      rw [b5 m_o 6 (fun z => by
        rcases z with z | ⟨x, -, z⟩
        · exact absurd z (by simp)
        · exact absurd (eR_t z) (by simp)), h6, if_pos (nI_le (by omega) (by omega))])
    (g - y) (y + 1) 100 (100 - y) A E (by omega) (by omega) (by omega) ⟨by omega, hB, fun x hx hxk => absurd hx.1 (by omega), ⟨cf.rf _ _, fun _ _ _ _ _ => rfl⟩, cf.rf _ _⟩
  exact ⟨Mc', Mr', k1, k2, k4, fun x hx => k5 x hx (by have := hx.2.1; omega), k6.1.1, k6.2⟩
end ZP
