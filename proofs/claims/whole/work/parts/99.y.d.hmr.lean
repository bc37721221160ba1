/-! layer 2: a record of a making, or of a removing, is handed in -/
section HMR
variable {N g B s o c d x z T n t l i : Nat} {M M' Mc Mr Mc' Mr' : gM} {row : gI} {v w nr a1 a2 a3 a4 a5 : Int32}
theorem gset_tw {i : gI} {k : Nat} : gset (gset M i k v) i k w = gset M i k w := by
  funext j q
  by_cases e : j = i ∧ q = k
  · obtain ⟨rfl, rfl⟩ := e
    rw [gset_aa, gset_aa]
  · rw [gset_o e, gset_o e, gset_o e]
theorem r_hmL {J : gM → Option gM} (hN : N ≤ 4) (ho : o < 48) (R : Rel N g Mc Mr) : f_X11_handMake_L33 (nI o) a2 nr J 100 (0 : Int32) (gset Mr m_o 51 0) = J (gset Mr m_o 51 (cHo N Mc nr o)) := by
  have hf : ∀ s, s < N → (bt nr s && nz (Mc (51, s, 0) o)) = (bt nr s && nz (Mr m_has (48 * s + o))) := fun s hs => by rw [(R.sv hs ho).a.1]
  obtain ⟨M', h1, h2⟩ := loopP (fun n k M => f_X11_handMake_L33 (nI o) a2 nr J n (nI k) M) N J (fun k M1 => M1 = gset Mr m_o 51 (sN (fun s => bt nr s && nz (Mr m_has (48 * s + o))) 0 k 0)) (by omega) (fun n k M1 hk p1 => by
    refine ⟨_, ?_, rfl⟩
    subst p1
    obtain ⟨V, hV⟩ : ∃ V, V = sN (fun s => bt nr s && nz (Mr m_has (48 * s + o))) 0 k 0 := ⟨_, rfl⟩
    have e0 : gset Mr m_o 51 V m_o 0 = nI N := by rw [gset_o (by simp)]; exact R.n0
    rw [sN_snoc, ← hV, show 0 + k = k by omega]
    simp only [f_X11_handMake_L33, lt_d, jn_d]
    rw [e0, if_neg (nI_ge (by omega) (by omega)), nI_m48, nI_add, nI_1]
    by_cases hb : bt nr k = true
    · rw [if_pos (by rw [bt_1 (by omega)]; exact hb), rd_n (by omega) (by omega), gset_o (by simp), hb]
      by_cases hh : Mr m_has (48 * k + o) = 0
      · rw [if_pos hh, hh, if_neg (by simp [nz]), gset_aa, gset_tw]
      · rw [if_neg hh, if_pos (by rw [Bool.true_and, nz_t]; exact hh), gset_aa, gset_tw]
        rfl
    · rw [if_neg (by rw [bt_1 (by omega)]; exact hb), if_neg (by rw [Bool.not_eq_true] at hb; rw [hb]; simp), gset_aa, gset_tw]) (fun n M1 p1 => by
    subst p1
    simp only [f_X11_handMake_L33, lt_d]
    rw [gset_o (by simp), R.n0, if_pos (nI_le (by omega) (by omega))]) (st := gset Mr m_o 51 0) rfl
  refine h1.trans ?_
  rw [h2]
  congr 2
  exact sN_congr _ _ _ (fun s _ hs => (hf s (by omega)).symm)
theorem hm_step (hN : N ≤ 4) (hl : l < N) (hx1 : 1 ≤ x) (hxg : x ≤ g) (ho : o < 48) (hox : o ≠ x) (hp : Mc (2, 0, 0) x = nI o) (R : Rel N g Mc Mr) (I : JInv N g Mc) (e3 : Mc (11, 0, 0) 3 = nr) (e4 : Mc (11, 0, 0) 4 = nI l) (h0 : ∀ s, s < N → Mc (51, s, 0) x = 0) : ∃ Mc' Mr', f_X2_handInMake N Mc (nI o) (nI x) = some Mc' ∧ f_X11_handMake Mr (nI o) (nI x) (nI l) nr = some Mr' ∧ HS N g Mc Mr Mc' Mr' ∧ kH N x Mc Mc' := by
  have ha := (R.sv hl ho).a
  have hg := I.1.1
  by_cases hh0 : Mc (51, l, 0) o = 0
  · obtain ⟨q1, q2⟩ := lostS (k := 2) hN (Or.inl rfl) R I (cf.rf _ _) R
    refine ⟨_, _, ?_, ?_, q1, q2 x⟩
    · unfold f_X2_handInMake
      rw [lt_d, e4, ix_n hl (by omega), rd_n ho (by omega), hh0, if_pos rfl]
      rfl
    · unfold f_X11_handMake
      rw [nI_m48, nI_add, rd_n (by omega) (by omega), ← ha.1, hh0, if_pos rfl]
      rfl
  obtain ⟨V, hV⟩ : ∃ V, V = cHo N Mc nr o := ⟨_, rfl⟩
  have hVb : ∀ s, s < N → bt V s = true → Mc (51, s, 0) o = 1 := fun s hs hb => by
    rw [hV] at hb
    exact (I.2.2.1 s hs o ho).1.resolve_left (bt_cHo hN hb).2.2
  obtain ⟨Mc1, Mr1, w1, w2, r1, i1, h51, cw1, cw2⟩ := make_step (x := x) (v := V) (o := o) (J := fun M1 => o1 (f_X11_phases M1 (nI o)) (fun M3 => some M3)) hN hx1 hxg ho (R.sc (v := V) hN rsc51) I (gset_aa _ _ _ _) hp hox hVb h0
  obtain ⟨l', Mc2, Mr2, p1, p2, r2, i2, h52, cp1, cp2⟩ := phases_stepJ (v := V) hN ho r1 i1 h51 (fun s hs hb => by
    rw [cw1 _ _ (by unfold aMk; dsimp only; omega)]; exact hVb s hs hb)
  have h51' : Mr2 m_o 51 = V := by rw [cp2 _ _ (by unfold bPh; dsimp only; omega)]; exact h51
  obtain ⟨Mc3, Mr3, g1, g2, r3, i3, c3, d3⟩ := ends_stepJ (v := V) hN ho r2 i2
  refine ⟨Mc3, Mr3, ?_, ?_, ⟨r3, i3, ((cw1.mo (fun j q h => ?_)).tr (cp1.mo (fun j q h => ?_))).tr (c3.mo (fun j q h => ?_)), (((cf.st (v := V) ?_).tr (cw2.mo (fun j q h => ?_))).tr (cp2.mo (fun j q h => ?_))).tr (d3.mo (fun j q h => ?_))⟩, fun s hs p hpx => ?_⟩
  · unfold f_X2_handInMake
    rw [lt_d, e4, ix_n hl (by omega), rd_n ho (by omega), if_neg hh0, lt_d, e3, c_holders hN ho, o1_s, ← hV, w1, o1_s, p1, ob_s, g1, o1_s]
  · have hP : f_X11_putEntry (gset Mr m_o 51 V) (nI o) (nI x) = some Mr2 := by
      unfold f_X11_putEntry
      rw [jn_d, w2, p2, o1_s]
    unfold f_X11_handMake
    rw [nI_m48, nI_add, rd_n (by omega) (by omega), ← ha.1, if_neg hh0, lt_d, jn_d, r_hmL hN ho R, ← hV, hP, o1_s, lt_d, h51', g2, o1_s]
  · revert h; unfold aMk HC aSv; omega
  · revert h; unfold aPh HC aSv; omega
  · unfold HC; omega
  · unfold HR; dsimp only; omega
  · revert h; unfold bMk HR bSv; omega
  · revert h; unfold bPh HR bSv; omega
  · unfold HR; omega
  · have e : ∀ j : gI, (j.1 = 51 ∨ j.1 = 56) → Mc3 j p = Mc j p := fun j hj => by
      rw [c3 _ _ (by omega), cp1 _ _ (by unfold aPh; omega), cw1 _ _ (by unfold aMk; omega)]
    rw [e (51, s, 0) (Or.inl rfl), e (56, s, 0) (Or.inr rfl)]
    exact ⟨id, id⟩
theorem r_hrL {J : Int32 × gM → Option gM} (h6 : M m_o 6 = nI (g + 1)) (hg : g ≤ 47) (hl : l < 4) (b : Bool) : f_X11_handRemove_L98 a2 (nI x) (nI l) a5 J 100 (zb b) (1 : Int32) M = J (zb (b && aF (fun y => !decide (M m_parent y = nI x ∧ M m_entry (48 * l + y) = 1)) 1 g), M) := by
  have H : ∀ m k fu (b : Bool), 1 ≤ k → k + m = g + 1 → m < fu → f_X11_handRemove_L98 a2 (nI x) (nI l) a5 J fu (zb b) (nI k) M = J (zb (b && aF (fun y => !decide (M m_parent y = nI x ∧ M m_entry (48 * l + y) = 1)) k m), M) := by
    intro m
    induction m with
    | zero =>
      intro k fu b hk1 hk hf
      obtain ⟨fu, rfl⟩ : ∃ q, fu = q + 1 := ⟨fu - 1, by omega⟩
      simp only [f_X11_handRemove_L98, lt_d, h6]
      rw [if_pos (nI_le (by omega) (by omega)), show aF (fun y => !decide (M m_parent y = nI x ∧ M m_entry (48 * l + y) = 1)) k 0 = true from rfl, Bool.and_true]
    | succ m ih =>
      intro k fu b hk1 hk hf
      obtain ⟨fu, rfl⟩ : ∃ q, fu = q + 1 := ⟨fu - 1, by omega⟩
      have ih0 := ih (k + 1) fu false (by omega) (by omega) (by omega)
      have ih1 := ih (k + 1) fu true (by omega) (by omega) (by omega)
      simp only [f_X11_handRemove_L98, lt_d, h6, jn_d]
      rw [if_neg (nI_ge (by omega) (by omega)), aF_s, nI_1]
      cases b with
      | false =>
        rw [zb_f] at ih0 ⊢
        rw [if_pos rfl, ih0]
        simp
      | true =>
        rw [zb_t] at ih1 ⊢
        rw [zb_f] at ih0
        rw [if_neg (by decide), r_isChild h6 hg (by omega), o1_s]
        by_cases e : M m_parent k = nI x
        · rw [decide_eq_true (⟨hk1, by omega, e⟩ : 1 ≤ k ∧ k ≤ g ∧ M m_parent k = nI x), zb_t, if_neg (by decide), nI_m48, nI_add, rd_n (by omega) (by omega)]
          by_cases e2 : M m_entry (48 * l + k) = 1
          · rw [if_pos e2, ih0, decide_eq_true ⟨e, e2⟩]
            simp
          · rw [if_neg e2, ih1, decide_eq_false (fun z => e2 z.2)]
            simp
        · rw [decide_eq_false (fun z : 1 ≤ k ∧ k ≤ g ∧ M m_parent k = nI x => e z.2.2), zb_f, if_pos rfl, ih1, decide_eq_false (fun z : M m_parent k = nI x ∧ M m_entry (48 * l + k) = 1 => e z.1)]
          simp
  exact H g 1 100 b (by omega) (by omega) (by omega)
theorem there_eqS (hN : N ≤ 4) (hxg : x ≤ g) (hl : l < N) (I : iCat g Mc) (R : Rel N g Mc Mr) : (aF (fun y => !decide (Mr m_parent y = nI x ∧ Mr m_entry (48 * l + y) = 1)) 1 g = true) ↔ cntF (kidT Mc l x) (x + 1) (g - x) = 0 := by
  have hg := I.1
  rw [aF_iff, cntF_z]
  have hk : ∀ y, 1 ≤ y → y ≤ g → (decide (Mr m_parent y = nI x ∧ Mr m_entry (48 * l + y) = 1) = kidT Mc l x y) := fun y y1 y2 => by
    unfold kidT
    rw [← (R.sv hl (show y < 48 by omega)).b.1, (R.ct.2.2 y (show y < 48 by omega)).1]
  constructor
  · intro h j h1 h2
    have := h j (by omega) (by omega)
    rw [hk j (by omega) (by omega)] at this
    simpa using this
  · intro h j h1 h2
    rw [hk j (by omega) (by omega)]
    by_cases e : x + 1 ≤ j
    · rw [h j e (by omega)]; rfl
    · unfold kidT
      rw [decide_eq_false (fun z => by have := kid_gt I h1 (by omega) (by omega) z.1; omega)]
      rfl
theorem hr_step (hN : N ≤ 4) (hc : c < 4) (hl : l < N) (hx1 : 1 ≤ x) (hxg : x ≤ g) (ho : o < 48) (hox : o ≠ x) (hi : i < 12) (hp : Mc (2, 0, 0) x = nI o) (R : Rel N g Mc Mr) (I : JInv N g Mc) (e3 : Mc (11, 0, 0) 3 = nr) (e4 : Mc (11, 0, 0) 4 = nI l) (hil : nI i < Mc (40, c, 0) 4) : ∃ Mc' Mr', f_X2_handInRemove N Mc (nI o) (nI x) (45, c, i) = some Mc' ∧ f_X11_handRemove Mr (nI (12 * c + i)) (nI o) (nI x) (nI l) nr = some Mr' ∧ HS N g Mc Mr Mc' Mr' ∧ ∀ x, kH N x Mc Mc' := by
  have hg := I.1.1
  have hx : x < 48 := by omega
  have hax := (R.sv hl hx).a
  have hao := (R.sv hl ho).a
  have stay : HS N g Mc Mr Mc Mr ∧ ∀ x, kH N x Mc Mc := ⟨⟨R, I, cf.rf _ _, cf.rf _ _⟩, fun x => kH_eq (fun _ _ _ => ⟨rfl, rfl⟩)⟩
  unfold f_X2_handInRemove f_X11_handRemove
  simp only [nI_m48, nI_add]
  rw [lt_d, e4, ix_n hl (by omega), rd_n hx (by omega), rd_n ho (by omega), rd_n hx (by omega), ix_n hx (by omega)]
  rw [lt_d (nI (48 * l + x)), rd_n (n := 192) (by omega) (by omega), ← hax.1]
  by_cases hh0 : Mc (51, l, 0) x = 0
  · rw [if_pos hh0, if_pos hh0]
    exact ⟨Mc, Mr, rfl, rfl, stay⟩
  rw [if_neg hh0, if_neg hh0, rd_n (n := 192) (by omega) (by omega), ← hao.1]
  by_cases hho0 : Mc (51, l, 0) o = 0
  · rw [if_pos hho0, if_pos hho0]
    exact ⟨Mc, Mr, rfl, rfl, stay⟩
  rw [if_neg hho0, if_neg hho0, rd_n (n := 192) (by omega) (by omega), ← (R.sv hl hx).b.1]
  have hh : Mc (51, l, 0) x = 1 := (I.2.2.1 l hl x hx).1.resolve_left hh0
  have hs0 : ¬ Mc (56, l, 0) x = 0 := ((I.2.2.1 l hl x hx).2.2.2.2 o ho hx1 hp).1 hh |>.2
  by_cases hs2 : Mc (56, l, 0) x = 2
  · rw [if_pos hs2, if_neg (by rw [hs2]; decide)]
    exact ⟨Mc, Mr, rfl, rfl, stay⟩
  have hs1 : Mc (56, l, 0) x = 1 := ((I.2.2.1 l hl x hx).2.1.resolve_left hs0).resolve_right hs2
  rw [if_neg hs2, if_pos hs1]
  obtain ⟨-, n, n6, hn, -, -⟩ := I.2.2.2.1 l hl x hx
  have hnr : Mr m_versions (48 * l + x) = nI n := by rw [← (R.sv hl hx).dd.1]; exact hn
  obtain ⟨l1, l2, l3⟩ := R.lg hc
  obtain ⟨-, -, -, hrv⟩ := l3 i hi (by rw [← l1]; exact hil)
  obtain ⟨Ra, hRa⟩ : ∃ X, X = gpu Mr m_row 0 8 (fun k => Mr m_recordVector (8 * (12 * c + i) + k)) := ⟨_, rfl⟩
  have fRa : cf (fun j q => j.1 = 45) Mr Ra := by rw [hRa]; exact cf.pu (fun _ _ _ => rfl)
  have RRa : Rel N g Mc Ra := R.fr hN (cf.rf _ _) (fRa.mo (fun j q h => by unfold rsc; omega))
  have hrow : ∀ k, k < N + 4 → Ra m_row k = Mc (45, c, i) k := fun k hk => by
    rw [hRa, gpu_r, if_pos ⟨rfl, by omega, by omega⟩, show k - 0 = k by omega]; exact (hrv k hk).symm
  have hcp : f_X11_copyTo Mr m_recordVector (nI (12 * c + i)) m_row (0 : Int32) = some Ra := by
    rw [hRa]; exact r_copyTo0 (by show _ ≤ 384; omega) (by decide) (by decide) (by decide)
  have HRa : cf HR Mr Ra := fRa.mo (fun j q h => by unfold HR; omega)
  obtain ⟨b1, hb1⟩ : ∃ b, b = rLe (Mc (55, l, x)) (Mc (45, c, i)) 0 (N + 4) := ⟨_, rfl⟩
  have hsr : f_X11_isAtMost Ra m_vector (nI (48 * l + x)) m_row (0 : Int32) = some (zb b1) := by
    refine (r_isAtMost (j := 0) RRa.n1 (by omega) (by show _ ≤ 1536; omega) (by decide) (by decide) (by decide)).trans ?_
    rw [hb1]
    exact congrArg (fun b => some (zb b)) (rLe_congr (fun k hk => (RRa.row hl hx (by rw [hh]; decide) hk).symm) (fun k hk => (congrArg (Ra m_row) (by omega : 8 * 0 + k = k)).trans (hrow k hk)))
  have h6a : Ra m_o 6 = nI (g + 1) := RRa.ct.2.1
  obtain ⟨b3, hb3⟩ : ∃ b, b = aF (fun y => !decide (Ra m_parent y = nI x ∧ Ra m_entry (48 * l + y) = 1)) 1 g := ⟨_, rfl⟩
  have hth := there_eqS hN hxg hl I.1 RRa
  rw [← hb3] at hth
  rw [hcp, o1_s, rd_n (n := 192) (by omega) (by omega), fRa m_versions _ (by simp), hnr, c_isAtMost (cN55 _ _ _) (cN45 _ _ _) (by omega), ← hb1, o1_s]
  simp only [jn_d]
  -- refused
  have ref : ∃ Mc' Mr', (rd Mc (9, 0, 0) 8 (3 : Int32) (fun v13 => wr Mc (9, 0, 0) 8 (3 : Int32) (v13 + (1 : Int32)) (fun M14 => some M14))) = some Mc' ∧ (lt (Ra m_o 47) (fun v29 => lt (gset Ra m_o 47 (v29 + (1 : Int32))) (fun M30 => some M30))) = some Mr' ∧ HS N g Mc Mr Mc' Mr' ∧ ∀ x, kH N x Mc Mc' := by
    obtain ⟨q1, q2⟩ := lostS (k := 3) hN (Or.inr rfl) R I HRa RRa
    exact ⟨_, _, rfl, rfl, q1, q2⟩
  have c98 : ∀ b : Bool, ∀ J : Int32 × gM → Option gM, f_X11_handRemove_L98 (nI o) (nI x) (nI l) nr J 100 (zb b) (1 : Int32) Ra = J (zb (b && b3), Ra) := fun b J => by rw [hb3]; exact r_hrL h6a hg (by omega) b
  have c980 := c98 false
  have c981 := c98 true
  rw [zb_f] at c980
  rw [zb_t] at c981
  simp only [Bool.false_and, Bool.true_and, zb_f] at c980 c981
  by_cases hn0 : ¬ n = 0
  · have hz : ¬ nI n = 0 := by rw [nI_z (by omega)]; exact hn0
    rw [if_neg hz, c980]
    dsimp only
    rw [if_pos rfl]
    cases b1 with
    | false => rw [zb_f, if_pos rfl]; exact ref
    | true => rw [zb_t, if_neg (by decide), c_isInConflict hx hn n6, o1_s, hn, if_neg (by rw [zb_z, nz_f]; exact hz)]; exact ref
  rw [Decidable.not_not] at hn0
  subst hn0
  rw [if_pos (show nI 0 = 0 from rfl), hsr, o1_s]
  cases b1 with
  | false =>
    rw [zb_f, if_pos rfl, if_pos rfl, c980]
    dsimp only
    rw [if_pos rfl]
    exact ref
  | true =>
    have hz0 : zb (nz (nI 0)) = 0 := by rw [zb_z, nz_f]; rfl
    rw [zb_t, if_neg (by decide), if_neg (by decide), c981, c_isInConflict hx hn n6, o1_s, hn, if_pos hz0, c_thereIn R.ct.1 hg hxg, o1_s]
    dsimp only
    have hcl := cntF_le (p := kidT Mc l x) (g - x) (x + 1)
    cases b3 with
    | false =>
      rw [zb_f, if_pos rfl, if_neg (by
        have h1 : ¬ cntF (kidT Mc l x) (x + 1) (g - x) = 0 := fun z => absurd (hth.mpr z) (by decide)
        intro z
        have z' : nI (cntF (kidT Mc l x) (x + 1) (g - x)) ≤ nI 0 := z
        rw [nle (by omega) (by omega)] at z'
        omega)]
      exact ref
    | true =>
      have h1 : cntF (kidT Mc l x) (x + 1) (g - x) = 0 := hth.mp rfl
      rw [zb_t, h1, if_pos (show nI 0 ≤ 0 by decide), if_neg (show ¬ (1 : Int32) = 0 by decide)]
      obtain ⟨Rb, hRb⟩ : ∃ X, X = gpu Ra m_directoryVector 0 8 (fun k => Ra m_vector (8 * (48 * l + o) + k)) := ⟨_, rfl⟩
      have fRb : cf (fun j q => j.1 = 44) Ra Rb := by rw [hRb]; exact cf.pu (fun _ _ _ => rfl)
      have RRb : Rel N g Mc Rb := RRa.fr hN (cf.rf _ _) (fRb.mo (fun j q h => by unfold rsc; omega))
      have hcb : f_X11_copyTo Ra m_vector (nI (48 * l + o)) m_directoryVector (0 : Int32) = some Rb := by
        rw [hRb]; exact r_copyTo0 (by show _ ≤ 1536; omega) (by decide) (by decide) (by decide)
      have hdv : ∀ k, k < N + 4 → Rb m_directoryVector k = Mc (55, l, o) k := fun k hk => by
        rw [hRb, gpu_r, if_pos ⟨rfl, by omega, by omega⟩, show k - 0 = k by omega]; exact (RRa.row hl ho hho0 hk).symm
      have hrow' : ∀ k, k < N + 4 → Rb m_row k = Mc (45, c, i) k := fun k hk => by rw [fRb _ _ (by simp)]; exact hrow k hk
      obtain ⟨s1, s2⟩ := set_eqJ (v := nr) (row := (55, l, o)) (row' := m_directoryVector) hN ho RRb I (cN55 _ _ _) (by decide) (by decide) hdv
      obtain ⟨V, hV⟩ : ∃ V, V = hSet N Mc nr o (55, l, o) := ⟨_, rfl⟩
      have hVb : ∀ s, s < N → bt V s = true → Mc (51, s, 0) o = 1 := fun s hs hb => by
        rw [hV] at hb
        exact (I.2.2.1 s hs o ho).1.resolve_left (hSet_b hN hb).2.2.1
      rw [← hV] at s1 s2
      obtain ⟨Mc1, Mr1, w1, w2, r1, i1, h51, cw1, cw2, km⟩ := rem_step (x := x) (v := V) (o := o) (row := (45, c, i)) (J := fun M1 => o1 (f_X11_phases M1 (nI o)) (fun M3 => some M3)) hN hx1 hxg ho hox (RRb.sc (v := V) hN rsc51) I (gset_aa _ _ _ _) hp hVb (cN45 _ _ _) (Or.inl rfl) (fun k hk => by rw [gset_o (by simp)]; exact hrow' k hk)
      obtain ⟨l', Mc2, Mr2, p1, p2, r2, i2, h52, cp1, cp2⟩ := phases_stepJ (v := V) hN ho r1 i1 h51 (fun s hs hb => by rw [km.1 s hs o hox]; exact hVb s hs hb)
      have h51' : Mr2 m_o 51 = V := by rw [cp2 _ _ (by unfold bPh; dsimp only; omega)]; exact h51
      obtain ⟨Mc3, Mr3, g1, g2, r3, i3, c3, d3⟩ := ends_stepJ (v := V) hN ho r2 i2
      have h51'' : Mr3 m_o 51 = V := by rw [d3 _ _ (by dsimp only; omega)]; exact h51'
      obtain ⟨Mc4, Mr4, g3, g4, r4, i4, c4, d4⟩ := ends_stepJ (v := V) hN hx r3 i3
      refine ⟨Mc4, Mr4, ?_, ?_, ⟨r4, i4, (((cw1.mo (fun j q h => ?_)).tr (cp1.mo (fun j q h => ?_))).tr (c3.mo (fun j q h => ?_))).tr (c4.mo (fun j q h => ?_)), (((((HRa.tr (fRb.mo (fun j q h => ?_))).tr (cf.st (v := V) ?_)).tr (cw2.mo (fun j q h => ?_))).tr (cp2.mo (fun j q h => ?_))).tr (d3.mo (fun j q h => ?_))).tr (d4.mo (fun j q h => ?_))⟩, fun x' s hs p hpx => ?_⟩
      · rw [lt_d, e3, ix_n ho (by omega), s1, o1_s, w1, o1_s, p1, ob_s, g1, o1_s, g3, o1_s]
      · have hP : f_X11_putGone (gset Rb m_o 51 V) (nI o) (nI x) = some Mr2 := by
          unfold f_X11_putGone
          rw [jn_d, w2, p2, o1_s]
        rw [hcb, o1_s, s2, o1_s, lt_d, hP, o1_s, lt_d, h51', g2, o1_s, lt_d, h51'', g4, o1_s]
      · revert h; unfold aRm HC aSv; omega
      · revert h; unfold aPh HC aSv; omega
      · unfold HC; omega
      · unfold HC; omega
      · unfold HR; omega
      · unfold HR; dsimp only; omega
      · revert h; unfold bRm HR bSv; omega
      · revert h; unfold bPh HR bSv; omega
      · unfold HR; omega
      · unfold HR; omega
      · have e : ∀ j : gI, (j.1 = 51 ∨ j.1 = 56) → Mc4 j p = Mc1 j p := fun j hj => by
          rw [c4 _ _ (by omega), c3 _ _ (by omega), cp1 _ _ (by unfold aPh; omega)]
        rw [e (51, s, 0) (Or.inl rfl), e (56, s, 0) (Or.inr rfl)]
        exact ⟨km.2.1 s hs p, km.2.2 s hs p⟩
end HMR
