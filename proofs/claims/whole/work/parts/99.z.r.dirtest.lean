/-! layer 2: whether a directory is alike in a group -/
section ZR
variable {N g B s o c d x y z T n m t l i j a b : Nat} {A E M M' X Mc Mr Mc' Mr' : gM} {row a3 : gI} {D P : Nat → Bool} {G pd v w nr a1 a2 a4 a5 : Int32} {f : Nat → Int32} {zz : lS}
theorem r_dirL13 {J : Int32 × gM → Option gM} (hN : N ≤ 4) (h0 : M m_o 0 = nI N) (h1 : M m_o 1 = nI (N + 4)) (h6 : M m_o 6 = nI (g + 1)) (hg : g ≤ 47) (h53 : M m_o 53 = G) (hl : l < 4) (hy : y < 48) : f_X11_mergeDirectory_L13 (nI y) (nI l) J 100 (1 : Int32) (0 : Int32) M = J (zb (aF (fun s => !bt G s || rLk N g M l s y) 0 N), M) := by
  have H : ∀ m k fu (b : Bool), k + m = N → m < fu → f_X11_mergeDirectory_L13 (nI y) (nI l) J fu (zb b) (nI k) M = J (zb (b && aF (fun s => !bt G s || rLk N g M l s y) k m), M) := by
    intro m
    induction m with
    | zero =>
      intro k fu b hk hf
      obtain ⟨fu, rfl⟩ : ∃ q, fu = q + 1 := ⟨fu - 1, by omega⟩
      simp only [f_X11_mergeDirectory_L13, lt_d]
      rw [h0, if_pos (nI_le (by omega) (by omega)), show aF (fun s => !bt G s || rLk N g M l s y) k 0 = true from rfl, Bool.and_true]
    | succ m ih =>
      intro k fu b hk hf
      obtain ⟨fu, rfl⟩ : ∃ q, fu = q + 1 := ⟨fu - 1, by omega⟩
      have ihb : ∀ b, f_X11_mergeDirectory_L13 (nI y) (nI l) J fu (zb b) (nI (k + 1)) M = J (zb (b && aF (fun s => !bt G s || rLk N g M l s y) (k + 1) m), M) := fun b => ih (k + 1) fu b (by omega) (by omega)
      have i0 := ihb false
      have i1 := ihb true
      rw [zb_f] at i0
      rw [zb_t] at i1
      simp only [f_X11_mergeDirectory_L13, lt_d, jn_d]
      rw [h0, if_neg (nI_ge (by omega) (by omega)), aF_s, nI_1]
      cases b with
      | false => rw [zb_f, if_pos rfl, i0]; rfl
      | true =>
        rw [zb_t, if_neg (by decide), r_isOf h53 (by omega), o1_s]
        cases hb : bt G k with
        | false => rw [zb_f, if_pos rfl, i1]; rfl
        | true =>
          rw [zb_t, if_neg (by decide), r_isLike hN h1 h6 hg hl (by omega) hy, o1_s]
          cases hr : rLk N g M l k y with
          | false => rw [zb_f, if_pos rfl, i0]; rfl
          | true => rw [zb_t, if_neg (by decide), i1]; rfl
  have := H N 0 100 true (by omega) (by omega)
  rw [zb_t, Bool.true_and] at this
  exact this
theorem rLk_swp (hy : y < 48) (hs : s < 4) (ht : t < 4) (hg : g ≤ 47) (hD : D y = false) (hk : ∀ p, 1 ≤ p → p ≤ g → M m_parent p = nI y → P p = false) : rLk N g (swp N G D P M) s t y = rLk N g M s t y := by
  have e1 : ∀ s, swp N G D P M m_has (48 * s + y) = M m_has (48 * s + y) := fun s => swp_r (zZ_y hy hD (by decide))
  have e2 : ∀ q, swp N G D P M m_vector q = M m_vector q := fun q => swp_r (zZ_n (by simp))
  have e3 : ∀ q, swp N G D P M m_parent q = M m_parent q := fun q => swp_r (zZ_n (by simp))
  have e4 : ∀ q, swp N G D P M m_gone q = M m_gone q := fun q => swp_r (zZ_n (by simp))
  unfold rLk
  simp only [e1, e2, e3, e4]
  refine congrArg _ (aF_congr g 1 (fun p p1 p2 => ?_))
  by_cases h : 1 ≤ p ∧ p ≤ g ∧ M m_parent p = nI y
  · have e5 : ∀ s, s < 4 → swp N G D P M m_entry (48 * s + p) = M m_entry (48 * s + p) := fun s hs => swp_r (fun z => by
      rcases z with ⟨z, -⟩ | ⟨-, z1, z2⟩
      · exact absurd z (by decide)
      · rw [show (48 * s + p) % 48 = p by omega, hk p h.1 h.2.1 h.2.2] at z2
        exact absurd z2 (by decide))
    rw [e5 s hs, e5 t ht]
  · rw [decide_eq_false h]; rfl
theorem dir_test (hN : N ≤ 4) (hyg : y ≤ g) (hD : D y = false) (hGb : ∀ i, N ≤ i → i < 32 → bt G i = false) (hs : s < N) (hb : bt G s = true) (R : Rel N g Mc (swp N G D P Mr)) (I : JInv N g Mc) (hd : Mc (4, 0, 0) y = 1) (hk : ∀ p, 1 ≤ p → p ≤ g → Mc (2, 0, 0) p = nI y → P p = false) : (decide (cHo N Mc G y = G) && aF (fun s => !bt G s || cSl N g Mc s (lst N G) y) 0 N) = aF (fun s => !bt G s || rLk N g Mr (lst N G) s y) 0 N := by
  have hg := I.1.1
  have hy : y < 48 := by omega
  obtain ⟨l1, l2, l3⟩ := lst_in hs hb
  have hp : ∀ p, 1 ≤ p → p ≤ g → Mr m_parent p = nI y → P p = false := fun p p1 p2 e => hk p p1 p2 (by
    rw [(R.ct.2.2 p (by omega)).1, swp_r (zZ_n (by simp))]; exact e)
  have hh : ∀ s, s < N → Mc (51, s, 0) y = Mr m_has (48 * s + y) := fun s hs => by
    rw [(R.sv hs hy).1, swp_r (zZ_y hy hD (by decide))]
  by_cases hc : cHo N Mc G y = G
  · have hc' := hc
    rw [ho_all hN hGb] at hc'
    have h1 : ∀ s, s < N → bt G s = true → Mc (51, s, 0) y = 1 := fun s hs hb => (I.2.2.1 s hs y hy).1.resolve_left (hc' s hs hb)
    rw [decide_eq_true hc, Bool.true_and]
    refine aF_congr N 0 (fun t _ ht => ?_)
    cases hbt : bt G t with
    | false => rfl
    | true =>
      rw [dir_eq hN (by omega) l1 hyg R I (h1 t (by omega) hbt) (h1 _ l1 l2) hd, rLk_swp hy (by omega) (by omega) hg hD hp]
  · rw [decide_eq_false hc, Bool.false_and]
    symm
    rw [ho_all hN hGb] at hc
    refine Bool.eq_false_iff.mpr (fun h => hc (fun t ht hbt => ?_))
    have := (aF_iff _ _).mp h t (by omega) (by omega)
    rw [hbt] at this
    unfold rLk at this
    simp only [Bool.not_true, Bool.false_or, Bool.and_eq_true] at this
    rw [hh t ht]
    exact (nz_t _).mp this.1.2.1
theorem r_dirHead : ∃ J1 : gM → Option gM, (∀ M, f_X11_mergeDirectory M (nI y) = lt (M m_o 53) (fun v1 => o1 (f_X11_leastOf M v1) (fun v3 => f_X11_mergeDirectory_L13 (nI y) v3 (fun q => if q.1 = 0 then o1 (f_X11_clearRow q.2 m_row (0 : Int32)) (fun M8 => f_X11_mergeDirectory_L75 (nI y) J1 100 (0 : Int32) M8) else some q.2) 100 (1 : Int32) (0 : Int32) M))) ∧ ∀ Rb Rm Rn : gM, Rb m_o 53 = G → f_X11_mark Rb (nI y) G = some Rm → Rm m_o 53 = G → f_X11_count Rm m_row (0 : Int32) G (nI y) = some Rn → J1 Rb = f_X11_mergeDirectory_L160 (nI y) (fun M16 => f_X11_mergeDirectory_L195 (nI y) (fun M17 => lt (M17 m_o 53) (fun v18 => o1 (f_X11_endPromises M17 (nI y) v18 (-1 : Int32)) (fun M20 => some M20))) 100 (0 : Int32) M16) 100 (1 : Int32) Rn := by
  refine ⟨_, fun M => rfl, fun Rb Rm Rn h1 h2 h3 h4 => ?_⟩
  show lt (Rb m_o 53) _ = _
  rw [lt_d, h1, h2, o1_s, lt_d, h3, h4, o1_s]
  rfl
end ZR
