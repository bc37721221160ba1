/-! layer 2: foresee -/
section ZXD
variable {N g B s o c d x y z T n m t l i j a b p : Nat} {A E M M' X Mc Mr Mc' Mr' : gM} {row a3 : gI} {D P : Nat → Bool} {G pd v nr a1 a2 a4 a5 : Int32} {f r : Nat → Int32} {zz : lS}
def clE (M : gM) (x : Nat) : gM := gpu (gset (gset M m_someThere x 0) m_someGone x 0) m_mergedGone (8 * x) 8 (fun _ => 0)
theorem r_foreHead (hx1 : 1 ≤ x) (hx : x < 48) (hox : o ≤ x) (fu : Nat) : ∃ J : gM → Option gM, (∀ M, f_X11_foresee_L7 (nI o) (fu + 1) (nI x) M = f_X11_foresee_L37 (nI o) (nI x) J 100 (0 : Int32) (clE M x)) ∧ ∀ (M : gM) (b0 b1 b2 : Bool), M m_someGone x = zb b0 → (b0 = true → f_X11_areAtMost M (nI x) = some (zb b1) ∧ f_X11_childrenCanGo M (nI x) = some (zb b2)) → J M = f_X11_foresee_L7 (nI o) fu (nI (x - 1)) (gset M m_canGo x (zb (b0 && (b1 && b2)))) := by
  refine ⟨fun M11 => rd M11 m_someGone 48 (nI x) (fun v12 => jn (fun (q : (Int32 × gM)) => match q with | (b13, M14) => wz M14 m_canGo 48 (nI x) b13 (fun M15 => lt (nI x + (-1)) (fun x16 => f_X11_foresee_L7 (nI o) fu x16 M15))) (fun J206 => jn (fun (M17 : gM) => J206 ((0 : Int32), M17)) (fun J205 => (if v12 = 0 then J205 M11 else o1 (f_X11_areAtMost M11 (nI x)) (fun v20 => (if v20 = 0 then J205 M11 else o1 (f_X11_childrenCanGo M11 (nI x)) (fun v23 => (if v23 = 0 then J205 M11 else J206 ((1 : Int32), M11))))))))), fun M => ?_, fun M b0 b1 b2 h0 h => ?_⟩
  · rw [f_X11_foresee_L7, if_neg (show ¬ nI x < nI o by rw [nlt (by omega) (by omega)]; omega), wz_0 hx (by omega), wz_0 hx (by omega), r_clearRow (show _ ≤ 384 by omega) (by decide), o1_s, jn_d]
    rfl
  · have hx' : nI x + (-1 : Int32) = nI (x - 1) := by
      have := nI_s1 hx1
      rw [← this]
      rw [Int32.sub_eq_add_neg]
    dsimp only
    rw [rd_n hx (by omega), jn_d, jn_d, h0]
    cases b0 with
    | false =>
      rw [zb_f, if_pos rfl]
      show wz M m_canGo 48 (nI x) (0 : Int32) (fun M15 => lt (nI x + (-1 : Int32)) _) = _
      rw [wz_0 hx (by omega), lt_d, hx']
      rfl
    | true =>
      obtain ⟨h1, h2⟩ := h rfl
      rw [zb_t, if_neg (by decide), h1, o1_s]
      cases b1 with
      | false =>
        rw [zb_f, if_pos rfl]
        show wz M m_canGo 48 (nI x) (0 : Int32) (fun M15 => lt (nI x + (-1 : Int32)) _) = _
        rw [wz_0 hx (by omega), lt_d, hx']
        rfl
      | true =>
        rw [zb_t, if_neg (by decide), h2, o1_s]
        cases b2 with
        | false =>
          rw [zb_f, if_pos rfl]
          show wz M m_canGo 48 (nI x) (0 : Int32) (fun M15 => lt (nI x + (-1 : Int32)) _) = _
          rw [wz_0 hx (by omega), lt_d, hx']
          rfl
        | true =>
          rw [zb_t, if_neg (by decide)]
          show wz M m_canGo 48 (nI x) (1 : Int32) (fun M15 => lt (nI x + (-1 : Int32)) _) = _
          rw [wz_1 hx (by omega), lt_d, hx']
          rfl
def fS (j : gI) (q : Nat) : Prop := 57 ≤ j.1 ∧ j.1 ≤ 60
theorem fore_loop (hN : N ≤ 4) (ho1 : 1 ≤ o) (R : Rel N g Mc (swp N G D P Mr)) (I : JInv N g Mc) (h53 : Mr m_o 53 = G) (hin : ∀ z, o ≤ z → z ≤ g → insI Mc o z = true → D z = false ∧ P z = false ∧ ∀ p, p < z → Mc (2, 0, 0) z = nI p → D p = false) (hvb : ∀ z, z ≤ g → ∀ s, s < N → bt G s = true → ∃ n, n ≤ 6 ∧ Mr m_versions (48 * s + z) = nI n) : ∀ m x fu M, x + 1 = o + m → x ≤ g → m < fu → cf fS Mr M → (∀ z, x < z → z ≤ g → insI Mc o z = true → rGoes M z = gd N Mc G g z ∧ M m_someGone z = zb (decide (jS Mc G z N = 2))) → ∃ M', f_X11_foresee_L7 (nI o) fu (nI x) M = some M' ∧ cf fS Mr M' ∧ ∀ z, o ≤ z → z ≤ g → insI Mc o z = true → rGoes M' z = gd N Mc G g z ∧ M' m_someGone z = zb (decide (jS Mc G z N = 2)) := by
  have hg := I.1.1
  have n0 : Mr m_o 0 = nI N := by have := R.n0; rw [swp_r (zZ_n (by simp))] at this; exact this
  have n1 : Mr m_o 1 = nI (N + 4) := by have := R.n1; rw [swp_r (zZ_n (by simp))] at this; exact this
  have n6 : Mr m_o 6 = nI (g + 1) := by have := R.ct.2.1; rw [swp_r (zZ_n (by simp))] at this; exact this
  have hpr : ∀ x, x < 48 → Mr m_parent x = Mc (2, 0, 0) x := fun x hx => by have := (R.ct.2.2 x hx).1; rw [swp_r (zZ_n (by simp))] at this; exact this.symm
  have hpa : ∀ x, 1 ≤ x → x ≤ g → ∃ p, p < x ∧ Mc (2, 0, 0) x = nI p := fun x x1 x2 => by
    obtain ⟨p, p1, p2, -⟩ := I.1.2.2.2 x x1 x2
    exact ⟨p, p1, p2⟩
  intro m
  induction m with
  | zero =>
    intro x fu M hx hxg hf fM hM
    obtain ⟨fu, rfl⟩ : ∃ q, fu = q + 1 := ⟨fu - 1, by omega⟩
    refine ⟨M, ?_, fM, fun z h1 h2 h3 => hM z (by omega) h2 h3⟩
    rw [f_X11_foresee_L7, if_pos (nI_lt (by omega) (by omega))]
  | succ m ih =>
    intro x fu M hx hxg hf fM hM
    obtain ⟨fu, rfl⟩ : ∃ q, fu = q + 1 := ⟨fu - 1, by omega⟩
    have hx1 : 1 ≤ x := by omega
    have hx48 : x < 48 := by omega
    obtain ⟨p, p1, p2⟩ := hpa x hx1 hxg
    obtain ⟨J, hJ1, hJ2⟩ := r_foreHead hx1 hx48 (show o ≤ x by omega) fu
    obtain ⟨Ma, hMa⟩ : ∃ X, X = clE M x := ⟨_, rfl⟩
    have fa : cf (lC x) M Ma := by
      rw [hMa]; unfold clE
      exact ((cf.st (Or.inl ⟨Or.inl rfl, rfl⟩)).tr (cf.st (Or.inl ⟨Or.inr rfl, rfl⟩))).tr (cf.pu (fun q a b => Or.inr ⟨rfl, a, b⟩))
    have eM : ∀ (j : gI) q, ¬ (57 ≤ j.1 ∧ j.1 ≤ 60) → M j q = Mr j q := fun j q h => fM _ _ h
    have ea : ∀ (j : gI) q, ¬ (57 ≤ j.1 ∧ j.1 ≤ 60) → Ma j q = Mr j q := fun j q h => by rw [fa _ _ (by unfold lC; omega)]; exact eM j q h
    obtain ⟨Mb, q1, q2, q3, q4, q5⟩ := r_fL37 (E := Ma) (J := J) (a1 := nI o) (G := G) (x := x) (p := p) hN hx1 hx48 (by omega) (by rw [ea _ _ (by simp), hpr x hx48]; exact p2) (by rw [ea _ _ (by simp)]; exact n0) (by rw [ea _ _ (by simp)]; exact n1) (by rw [ea _ _ (by simp)]; exact h53) (by rw [hMa]; unfold clE; rw [gpu_ne (by simp), gset_o (by simp), gset_aa]) (by rw [hMa]; unfold clE; rw [gpu_ne (by simp), gset_aa]) (fun k hk => by rw [hMa]; unfold clE; rw [gpu_in hk])
    have fb : cf (lC x) M Mb := fa.tr q2
    have eb : ∀ (j : gI) q, ¬ (57 ≤ j.1 ∧ j.1 ≤ 60) → Mb j q = Mr j q := fun j q h => by rw [fb _ _ (by unfold lC; omega)]; exact eM j q h
    have ct : ∀ n, tTh Ma G x p n = tTh Mr G x p n ∧ tGo Ma G x p n = tGo Mr G x p n ∧ ∀ k, tRw Ma G x p k n = tRw Mr G x p k n := fun n => by
      have ek : ∀ n, rKno Ma G p n = rKno Mr G p n := fun n => by unfold rKno; rw [ea _ _ (by simp)]
      induction n with
      | zero => exact ⟨rfl, rfl, fun _ => rfl⟩
      | succ n ih =>
        refine ⟨?_, ?_, fun k => ?_⟩
        · unfold tTh; rw [ih.1, ek, ea _ _ (by simp)]
        · unfold tGo; rw [ih.2.1, ek, ea _ _ (by simp)]
        · unfold tRw; rw [ih.2.2 k, ek, ea m_entry _ (by simp), ea m_gone _ (by simp)]
    rw [(ct N).1] at q3
    rw [(ct N).2.1] at q4
    have q5 : ∀ k, k < N + 4 → Mb m_mergedGone (8 * x + k) = tRw Mr G x p k N := fun k hk => by rw [q5 k hk]; exact (ct N).2.2 k
    have ham := r_areAtMost (M := Mb) (N := N) (x := x) (G := G) (by rw [eb _ _ (by simp)]; exact n0) (by rw [eb _ _ (by simp)]; exact n1) hN hx48 (by rw [eb _ _ (by simp)]; exact h53) (fun s hs hb => by rw [eb _ _ (by simp)]; exact hvb x hxg s hs hb)
    have hch := r_children (M := Mb) (x := x) (g := g) (by rw [eb _ _ (by simp)]; exact n6) hg hxg
    obtain ⟨b2, hb2⟩ : ∃ b, b = aF (fun c => !decide (1 ≤ c ∧ c ≤ g ∧ Mb m_parent c = nI x) || rGoes Mb c) (x + 1) (g - x) := ⟨_, rfl⟩
    rw [← hb2] at hch
    obtain ⟨Mc1, hMc1⟩ : ∃ X, X = gset Mb m_canGo x (zb (tGo Mr G x p N && (rAm N Mb G x && b2))) := ⟨_, rfl⟩
    have fc : cf (fun j q => lC x j q ∨ (j.1 = 60 ∧ q = x)) M Mc1 := by rw [hMc1]; exact (fb.mo (fun j q h => Or.inl h)).tr (cf.st (Or.inr ⟨rfl, rfl⟩))
    have fc' : cf fS Mr Mc1 := fM.tr (fc.mo (fun j q h => by unfold fS; rcases h with h | h; revert h; unfold lC; omega; omega))
    have st : f_X11_foresee_L7 (nI o) (fu + 1) (nI x) M = f_X11_foresee_L7 (nI o) fu (nI (x - 1)) Mc1 := by
      rw [hJ1, ← hMa, q1, hJ2 Mb _ _ _ q4 (fun _ => ⟨ham, hch⟩), hMc1]
    rw [st]
    have old : ∀ z, z ≠ x → rGoes Mc1 z = rGoes M z ∧ Mc1 m_someGone z = M m_someGone z := fun z hz => by
      have e1 : Mc1 m_someGone z = M m_someGone z := fc _ _ (by unfold lC; dsimp only; omega)
      refine ⟨?_, e1⟩
      unfold rGoes
      rw [e1, fc m_someThere z (by unfold lC; dsimp only; omega), fc m_canGo z (by unfold lC; dsimp only; omega)]
    refine ih (x - 1) fu Mc1 (by omega) (by omega) (by omega) fc' (fun z hz hzg hi => ?_)
    by_cases e : z = x
    · subst e
      obtain ⟨i1, i2, i3⟩ := hin z (by omega) hzg hi
      have hDp := i3 p p1 p2
      have hS : ∀ s, s < N → rSv N s z Mc Mr := fun s hs => live_sv R hs hN hx48 i1 i2
      have iS : ∀ s, s < N → iSv g s z Mc := fun s hs => I.2.2.1 s hs z hx48
      obtain ⟨l1, l2, l3⟩ := look_eq (G := G) (Mc := Mc) (Mr := Mr) (x := z) (p := p) hN hx48 (fun s hs => (hS s hs).b) (fun s hs => by rw [(R.sv hs (show p < 48 by omega)).1, swp_r (zZ_y (by omega) hDp (by decide))]) (fun s hs hz => ((iS s hs).2.2.2.2 p (by omega) hx1 p2).2 hz) N (Nat.le_refl N)
      obtain ⟨v1, v2, v3, v4, v5⟩ := jS_v (M := Mc) (G := G) (x := z) N (fun s hs _ => (iS s hs).2.1)
      have eg : tGo Mr G z p N = decide (jS Mc G z N = 2) := by
        refine Bool.eq_iff_iff.mpr ?_
        rw [l1, decide_eq_true_eq]
        exact ⟨fun ⟨s, a, b, c⟩ => v3 s a b c, fun h => v5 h⟩
      have c1 : Mc1 m_someGone z = zb (decide (jS Mc G z N = 2)) := by rw [hMc1, gset_o (by simp), q4, eg]
      have c2 : Mc1 m_someThere z = zb (tTh Mr G z p N) := by rw [hMc1, gset_o (by simp)]; exact q3
      refine ⟨?_, c1⟩
      unfold rGoes
      rw [c1, c2]
      by_cases h2 : jS Mc G z N = 2
      · rw [decide_eq_true h2, zb_t, if_neg (by decide), gd_2 hpa hg hzg h2, hMc1, gset_aa, eg, decide_eq_true h2, Bool.true_and]
        have er : rAm N Mb G z = knJ N Mc G z := am_eq hN hx48 hS (fun s hs => by
          obtain ⟨-, n, k2, k3, -⟩ := I.2.2.2.1 s hs z hx48
          exact ⟨n, k2, k3⟩) (fun j q hj => eb j q (by omega)) (fun k hk => by rw [q5 k hk]; exact l3 k hk)
        have ec : b2 = aF (fun c => !decide (1 ≤ c ∧ c ≤ g ∧ Mc (2, 0, 0) c = nI z) || gd N Mc G g c) (z + 1) (g - z) := by
          rw [hb2]
          refine aF_congr _ _ (fun c k1 k2 => ?_)
          rw [eb _ _ (by simp), hpr c (by omega)]
          by_cases hc : 1 ≤ c ∧ c ≤ g ∧ Mc (2, 0, 0) c = nI z
          · have hic : insI Mc o c = true := by rw [insI_gt (show o < c by omega) (show z < c by omega) (by omega) hc.2.2]; exact hi
            have eo : rGoes Mb c = rGoes M c := by
              unfold rGoes
              rw [fb m_someGone c (by unfold lC; dsimp only; omega), fb m_someThere c (by unfold lC; dsimp only; omega), fb m_canGo c (by unfold lC; dsimp only; omega)]
            rw [eo, (hM c (by omega) hc.2.1 hic).1]
          · rw [decide_eq_false hc, Bool.not_false, Bool.true_or, Bool.true_or]
        rw [er, ← ec]
        cases knJ N Mc G z && b2 <;> rfl
      · rw [decide_eq_false h2, zb_f, if_pos rfl]
        rcases v1 with v1 | v1 | v1
        · rw [gd_0 I hx1 hzg v1]
          have : tTh Mr G z p N = false := Bool.eq_false_iff.mpr (fun h => by
            obtain ⟨s, a, b, c⟩ := l2.mp h
            exact v2 s a b (by rw [c]; decide) v1)
          rw [this]; rfl
        · rw [gd_1 hzg v1]
          have : tTh Mr G z p N = true := l2.mpr (v4 v1)
          rw [this]; rfl
        · exact absurd v1 h2
    · obtain ⟨k1, k2⟩ := old z e
      rw [k1, k2]
      exact hM z (by omega) hzg hi
theorem fore_step (hN : N ≤ 4) (ho1 : 1 ≤ o) (hog : o ≤ g) (R : Rel N g Mc (swp N G D P Mr)) (I : JInv N g Mc) (h53 : Mr m_o 53 = G) (hin : ∀ z, o ≤ z → z ≤ g → insI Mc o z = true → D z = false ∧ P z = false ∧ ∀ p, p < z → Mc (2, 0, 0) z = nI p → D p = false) (hvb : ∀ z, z ≤ g → ∀ s, s < N → bt G s = true → ∃ n, n ≤ 6 ∧ Mr m_versions (48 * s + z) = nI n) (h2 : jS Mc G o N = 2) : ∃ Mr', f_X11_foresee Mr (nI o) = some Mr' ∧ cf fS Mr Mr' ∧ nz (Mr' m_canGo o) = gd N Mc G g o := by
  have hg := I.1.1
  have n6 : Mr m_o 6 = nI (g + 1) := by have := R.ct.2.1; rw [swp_r (zZ_n (by simp))] at this; exact this
  obtain ⟨M', h1, h3, h4⟩ := fore_loop hN ho1 R I h53 hin hvb (g + 1 - o) g 100 Mr (by omega) (by omega) (by omega) (cf.rf _ _) (fun z hz hzg => by omega)
  obtain ⟨k1, k2⟩ := h4 o (by omega) hog insI_o
  refine ⟨M', ?_, h3, ?_⟩
  · unfold f_X11_foresee
    rw [lt_d, n6, nI_s1 (by omega), lt_d]
    exact h1
  · rw [← k1]
    unfold rGoes
    rw [k2, decide_eq_true h2, zb_t, if_neg (by decide)]
    unfold nz
    simp
/-- the two tests alike -/
theorem drop_eq (hg : g ≤ 47) (hog : o ≤ g) (h2 : jS M G o N = 2) : (knJ N M G o && aF (fun x => !insI M o x || okB N M G x) (o + 1) (g - o)) = gd N M G g o := by
  have eo : okB N M G o = knJ N M G o := by
    unfold okB
    rw [decide_eq_true h2, decide_eq_false (show ¬ jS M G o N = 1 by rw [h2]; decide)]; simp
  unfold gd
  rw [show g + 1 - o = (g - o) + 1 by omega, aF_s, insI_o, eo]
  simp
end ZXD
