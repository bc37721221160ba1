/-! layer 2: an object stays and is joined -/
section ZZB
variable {N g B s o c d x y z T n m t l i j a b p k : Nat} {A E M M1 M0 R0 M' X Y Mc Mr Mc' Mr' : gM} {row a3 : gI} {D P : Nat → Bool} {G H pd v w nr a1 a2 a4 a5 : Int32} {f r : Nat → Int32} {zz : lS} {par : Nat → Nat}
theorem r_stand_none (hN : N ≤ 4) (hy1 : 1 ≤ y) (hy : y < 48) (hp : p < 48) (hpy : M m_parent y = nI p) (n0 : M m_o 0 = nI N) (h53 : M m_o 53 = G) (h : ∀ s, s < N → bt G s = true → M m_has (48 * s + p) = 0) : f_X11_standing M (nI y) = some 0 := by
  have H : ∀ (J : Int32 → Option Int32) m k fu, k + m = N → m < fu → f_X11_standing_L8 M (nI y) J fu (nI k) = some 0 := by
    intro J m
    induction m with
    | zero =>
      intro k fu hk hf
      obtain ⟨fu, rfl⟩ : ∃ q, fu = q + 1 := ⟨fu - 1, by omega⟩
      simp only [f_X11_standing_L8, lt_d]
      rw [n0, if_pos (nI_le (by omega) (by omega))]
    | succ m ih =>
      intro k fu hk hf
      obtain ⟨fu, rfl⟩ : ∃ q, fu = q + 1 := ⟨fu - 1, by omega⟩
      have ih' := ih (k + 1) fu (by omega) (by omega)
      simp only [f_X11_standing_L8, lt_d, jn_d]
      rw [n0, if_neg (nI_ge (by omega) (by omega)), r_isOf h53 (by omega), o1_s, nI_1, ih']
      cases hb : bt G k with
      | false => rw [zb_f, if_pos rfl]
      | true => rw [zb_t, if_neg (by decide), rd_n hy (by omega), hpy, nI_m48, nI_add, rd_n (by omega) (by omega), if_pos (h k (by omega) hb)]
  unfold f_X11_standing
  rw [if_neg (by rw [nI_z (by omega)]; omega), jn_d]
  exact H _ N 0 100 (by omega) (by omega)
theorem r_stand_all (hN : N ≤ 4) (hy1 : 1 ≤ y) (hy : y < 48) (hp : p < 48) (hpy : M m_parent y = nI p) (n0 : M m_o 0 = nI N) (h53 : M m_o 53 = G) (hs : s < N) (hb : bt G s = true) (h : ∀ s, s < N → bt G s = true → ¬ M m_has (48 * s + p) = 0) : f_X11_standing M (nI y) = some (M m_entry (48 * lst N G + y)) := by
  obtain ⟨l1, l2, l3⟩ := lst_in hs hb
  have H : ∀ (J : Int32 → Option Int32) m k fu, k + m = N → m < fu → (∀ t, t < k → bt G t = false) → f_X11_standing_L8 M (nI y) J fu (nI k) = J (nI (lst N G)) := by
    intro J m
    induction m with
    | zero =>
      intro k fu hk hf ht
      rw [ht _ (by omega)] at hb; exact absurd hb (by decide)
    | succ m ih =>
      intro k fu hk hf ht
      obtain ⟨fu, rfl⟩ : ∃ q, fu = q + 1 := ⟨fu - 1, by omega⟩
      simp only [f_X11_standing_L8, lt_d, jn_d]
      rw [n0, if_neg (nI_ge (by omega) (by omega)), r_isOf h53 (by omega), o1_s, nI_1]
      cases hbk : bt G k with
      | false =>
        rw [zb_f, if_pos rfl]
        exact ih (k + 1) fu (by omega) (by omega) (fun t ht' => by
          by_cases e : t = k
          · subst e; exact hbk
          · exact ht t (by omega))
      | true =>
        rw [zb_t, if_neg (by decide), rd_n hy (by omega), hpy, nI_m48, nI_add, rd_n (by omega) (by omega), if_neg (h k (by omega) hbk)]
        have e : lst N G = k := by
          have h1 := (lst_in (show k < N by omega) hbk).2.2
          have h2 : ¬ lst N G < k := fun z => by rw [ht _ z] at l2; exact absurd l2 (by decide)
          omega
        rw [e]
  unfold f_X11_standing
  rw [if_neg (by rw [nI_z (by omega)]; omega), jn_d]
  refine (H _ N 0 100 (by omega) (by omega) (fun t ht => absurd ht (by omega))).trans ?_
  rw [nI_m48, nI_add, rd_n (by omega) (by omega)]
theorem r_someHas (hN : N ≤ 4) (hy : y < 48) (n0 : M m_o 0 = nI N) (h53 : M m_o 53 = G) : f_X11_someHas M (nI y) = some (zb (!aF (fun s => !(bt G s && nz (M m_has (48 * s + y)))) 0 N)) := by
  have H : ∀ m k fu (b : Bool), k + m = N → m < fu → f_X11_someHas_L4 M (nI y) fu (zb b) (nI k) = some (zb (b || !aF (fun s => !(bt G s && nz (M m_has (48 * s + y)))) k m)) := by
    intro m
    induction m with
    | zero =>
      intro k fu b hk hf
      obtain ⟨fu, rfl⟩ : ∃ q, fu = q + 1 := ⟨fu - 1, by omega⟩
      simp only [f_X11_someHas_L4, lt_d]
      rw [n0, if_pos (nI_le (by omega) (by omega)), gz_b]
      simp [aF]
    | succ m ih =>
      intro k fu b hk hf
      obtain ⟨fu, rfl⟩ : ∃ q, fu = q + 1 := ⟨fu - 1, by omega⟩
      have i0 := ih (k + 1) fu false (by omega) (by omega)
      have i1 := ih (k + 1) fu true (by omega) (by omega)
      rw [zb_f] at i0
      rw [zb_t] at i1
      simp only [f_X11_someHas_L4, lt_d, jn_d]
      rw [n0, if_neg (nI_ge (by omega) (by omega)), aF_s, nI_1]
      cases b with
      | true => rw [zb_t, if_neg (by decide), i1]; rfl
      | false =>
        rw [zb_f, if_pos rfl, r_isOf h53 (by omega), o1_s]
        cases hb : bt G k with
        | false => rw [zb_f, if_pos rfl, i0]; rfl
        | true =>
          rw [zb_t, if_neg (by decide), nI_m48, nI_add, rd_n (by omega) (by omega)]
          by_cases hh : M m_has (48 * k + y) = 0
          · rw [if_pos hh, i0, hh]; rfl
          · rw [if_neg hh, i1, show nz (M m_has (48 * k + y)) = true from (nz_t _).mpr hh]; rfl
  have := H N 0 100 false (by omega) (by omega)
  rw [zb_f, Bool.false_or] at this
  exact this
theorem oC_u {j : gI} {q : Nat} (h : oC y j q) : uCc j q := by
  unfold uCc
  rcases h with h | h | h | h | h | h | h | h | h
  · omega
  · omega
  · omega
  · omega
  · have : j.1 = 13 := by rw [h.1]
    omega
  · omega
  · have := h.1; omega
  · omega
  · omega
theorem qC_u {j : gI} {q : Nat} (h : qC M g y j q) : uCc j q := by
  unfold uCc
  rcases h with h | h | h | h | ⟨h0, h | h | h | h⟩
  · omega
  · omega
  · have : j.1 = 13 := by rw [h.1]
    omega
  · omega
  · omega
  · omega
  · have := h.1; omega
  · have := h.1; omega
theorem join_LI {β : Type} (hN : 1 ≤ N ∧ N ≤ 4) (hkg : k ≤ g) (hGb : ∀ i, N ≤ i → i < 32 → bt G i = false) (hs : s < N) (hb : bt G s = true) (hpar : ∀ z, 1 ≤ z → z ≤ g → Mc (2, 0, 0) z = nI (par z) ∧ par z < z) (hDk : D k = false) (hM : MM N g G (pds N G D Mr) D (pO par g D) Mc Mr) (hI : dI N g G par D Mr) (hS : sK N g G par k D Mc Mr) (hA : aG N g G par k M0 Mc) (f0 : cf uQq R0 Mr) (hup : 1 ≤ k → ∀ s, s < N → bt G s = true → Mc (51, s, 0) (par k) = 1 ∧ ¬ Mc (56, s, 0) k = 0) (hnp : 1 ≤ k → ¬ pnd N k Mc) : ∃ Mc' Mr', (∀ K : gM → Option β, rd Mc (4, 0, 0) 48 (nI k) (fun v12 => if v12 = 0 then o1 (f_X4_joinFile N Mc (nI k)) (fun M15 => K M15) else o1 (f_X4_joinDirectory N Mc (nI k)) (fun M17 => K M17)) = K Mc') ∧ rd Mr m_isDirectory 48 (nI k) (fun v7 => if v7 = 0 then o1 (f_X11_mergeFile Mr (nI k)) (fun M10 => some M10) else o1 (f_X11_mergeDirectory Mr (nI k)) (fun M12 => some M12)) = some Mr' ∧ LI N g G par (k + 1) M0 R0 Mc' Mr' := by
  obtain ⟨R, I, g1, g2, g3⟩ := id hM
  have hg := I.1.1
  have hk : k < 48 := by omega
  have hP : pO par g D k = false := by
    unfold pO
    by_cases h1 : 1 ≤ k
    · have : D (par k) = false := Bool.eq_false_iff.mpr (fun z => by
        have := hS.1 _ z
        have := (hpar k h1 hkg).2
        omega)
      rw [this, Bool.and_false]
    · rw [decide_eq_false (by omega), Bool.false_and]
  have hup' : ∀ s, s < N → bt G s = true → 1 ≤ k → ∀ p, p < 48 → Mc (2, 0, 0) k = nI p → Mc (51, s, 0) p = 1 ∧ ¬ Mc (56, s, 0) k = 0 := fun s hs hb h1 p hp e => by
    have e2 := (hpar k h1 hkg).2
    rw [(hpar k h1 hkg).1, neq (by omega) (by omega)] at e
    subst e
    exact hup h1 s hs hb
  have edr : Mr m_isDirectory k = Mc (4, 0, 0) k := by have := (R.ct.2.2 k hk).2.2; rw [swp_r (zZ_n (by simp))] at this; exact this.symm
  rw [rd_n hk (by omega), edr]
  rcases I.1.2.2.1 k hk with hd | hd
  · obtain ⟨Mc', Mr', q1, q2, q3, q4, q5, q6, q7⟩ := file_step hN hkg hDk hP hGb hs hb hM hd hup'
    have n56 : ∀ s x, s < N → Mc' (56, s, 0) x = Mc (56, s, 0) x := fun s x hs => q5 _ _ (by unfold oC cCd; simp)
    have n51 : ∀ s, s < N → ∀ z, z ≠ k → Mc' (51, s, 0) z = Mc (51, s, 0) z := fun s hs z hz => q5 _ _ (by unfold oC cCd; simp; omega)
    refine ⟨Mc', Mr', fun K => ?_, ?_, LI_next hN.2 hg hkg (fun z z1 z2 => (hpar z z1 z2).2) hDk q3 hI hS hA n51 q4 (fun x x1 x2 x3 s t hs ht hbs hbt => ?_) (fun z z0 z1 hz s hs => ?_) (q5.mo (fun j q h => oC_u h)) f0 (q6.mo (fun j q h => ?_)) (fun z => q6 _ _ (by unfold oQ rCd; dsimp only; omega)) q7⟩
    · rw [rd_n hk (by omega), hd, if_pos rfl, q1, o1_s]
    · rw [hd, if_pos rfl, q2, o1_s]
    · by_cases e : par x = k
      · obtain ⟨p, p1, p2, p3⟩ := I.1.2.2.2 x x1 x2
        rw [(hpar x x1 x2).1, e, neq (by omega) (by omega)] at p2
        subst p2
        rw [hd] at p3; exact absurd p3 (by decide)
      · rw [n56 s x hs, n56 t x ht]; exact hA.2.1 x x1 x2 (by omega) s t hs ht hbs hbt
    · by_cases e : z = k
      · subst e; exact absurd hz (hnp z0)
      · rw [n51 s hs z e, n56 s z hs]; exact hz s hs
    · revert h; unfold oQ uQq rCd; omega
  · have hkD : ∀ x, ch Mc g k x → D x = false ∧ pO par g D x = false := fun x hx => by
      obtain ⟨x1, x2, x3⟩ := hx
      have ep : par x = k := by
        have e2 := (hpar x (by omega) x2).2
        rw [(hpar x (by omega) x2).1, neq (by omega) (by omega)] at x3; exact x3
      refine ⟨Bool.eq_false_iff.mpr (fun z => ?_), by unfold pO; rw [ep, hDk, Bool.and_false]⟩
      rcases (hS.2.2.1 x (by omega) x1 x2).mp z with w | w
      · rw [ep, hDk] at w; exact absurd w (by decide)
      · omega
    obtain ⟨Mc', Mr', q1, q2, q3, q4, qa, qp, q5, q6, q7⟩ := dir_step hN hkg hDk hP hGb hs hb hM hd hup' hkD
    have n51 : ∀ s, s < N → ∀ z, z ≠ k → Mc' (51, s, 0) z = Mc (51, s, 0) z := fun s hs z hz => q5 _ _ (by unfold qC; simp; omega)
    have n56 : ∀ s x, s < N → ¬ ch Mc g k x → Mc' (56, s, 0) x = Mc (56, s, 0) x := fun s x hs hx => q5 _ _ (by
      intro z
      rcases z with h | h | h | h | ⟨h0, h | h | h | h⟩
      · simp at h
      · simp at h
      · simp at h
      · simp at h
      · simp at h
      · simp at h
      · exact hx h.2
      · simp at h)
    refine ⟨Mc', Mr', fun K => ?_, ?_, LI_next hN.2 hg hkg (fun z z1 z2 => (hpar z z1 z2).2) hDk q3 hI hS hA n51 (Or.inl q4) (fun x x1 x2 x3 s t hs ht hbs hbt => ?_) (fun z z0 z1 hz s hs => ?_) (q5.mo (fun j q h => qC_u h)) f0 (q6.mo (fun j q h => ?_)) (fun z => q6 _ _ (by unfold qR; dsimp only; omega)) q7⟩
    · rw [rd_n hk (by omega), hd, if_neg (by decide), q1, o1_s]
    · rw [hd, if_neg (by decide), q2, o1_s]
    · by_cases e : par x = k
      · exact qa x ⟨by have := (hpar x x1 x2).2; omega, x2, by rw [(hpar x x1 x2).1, e]⟩ s t hs ht hbs hbt
      · have hnx : ¬ ch Mc g k x := fun hx => e (by
          have e2 := (hpar x x1 x2).2
          have := hx.2.2
          rw [(hpar x x1 x2).1, neq (by omega) (by omega)] at this; exact this)
        rw [n56 s x hs hnx, n56 t x ht hnx]; exact hA.2.1 x x1 x2 (by omega) s t hs ht hbs hbt
    · by_cases e : z = k
      · subst e; exact absurd hz (hnp z0)
      · rw [n51 s hs z e]
        refine ⟨(hz s hs).1, fun w => ?_⟩
        by_cases hx : ch Mc g k z
        · obtain ⟨t, ht, e1⟩ := qp z s hs hx w
          exact (hz t ht).2 e1
        · rw [n56 s z hs hx] at w; exact (hz s hs).2 w
    · revert h; unfold qR uQq; omega
end ZZB
