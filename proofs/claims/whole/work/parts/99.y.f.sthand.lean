/-! layer 2: handIn -/
def eL (c : Nat) (j : gI) (q : Nat) : Prop := (51 ≤ j.1 ∧ j.1 ≤ 58 ∧ j.2.1 = 4 + c) ∨ ((j.1 = 32 ∨ j.1 = 33) ∧ j.2.1 = c)
def fL (j : gI) (q : Nat) : Prop := j.1 = 22 ∨ j.1 = 26 ∨ j.1 = 27 ∨ j.1 = 30
def EI (N g B c k : Nat) (A E Mc Mr : gM) : Prop := Rel N g Mc Mr ∧ JInv N g Mc ∧ Usd B Mc Mr ∧ uAll c 48 Mc Mr ∧ (∀ p, p < k → Mc (33, c, 0) p = 0) ∧ cf (eL c) A Mc ∧ cf fL E Mr
section SH
variable {N g B s o c d x z T n t l i : Nat} {A E M M' Mc Mr Mc' Mr' : gM} {row : gI} {v w nr a1 a2 a3 a4 a5 : Int32} {zz : lS}
theorem r_rest (hc : c < 4) (hv : ¬ v ≤ 0) : ∀ m k fu, k + m = 48 → m < fu → (∀ q, k ≤ q → q < 48 → M m_dirty (48 * c + q) = 0) → f_X11_handIn_L168 (nI c) v fu (nI k) M = some (v.toInt64, M) := by
  intro m
  induction m with
  | zero =>
    intro k fu hk hf hq
    obtain ⟨fu, rfl⟩ : ∃ q, fu = q + 1 := ⟨fu - 1, by omega⟩
    have : k = 48 := by omega
    subst this
    simp only [f_X11_handIn_L168]
    rw [if_pos (show (48 : Int32) ≤ nI 48 by decide)]
  | succ m ih =>
    intro k fu hk hf hq
    obtain ⟨fu, rfl⟩ : ∃ q, fu = q + 1 := ⟨fu - 1, by omega⟩
    simp only [f_X11_handIn_L168, lt_d, jn_d]
    rw [if_neg (ge_48 (by omega)), if_neg hv, nI_m48, nI_add, rd_n (by omega) (by omega), if_pos (hq k (by omega) (by omega)), nI_1]
    exact ih (k + 1) fu (by omega) (by omega) (fun q a b => hq q (by omega) b)
theorem end_loop (hN : N ≤ 4) (hc : c < 4) (hg : g ≤ 47) (hv : ¬ v ≤ 0) : ∀ m k fu fu' Mc Mr, k + m = g + 1 → m < fu → m + 48 < fu' → EI N g B c k A E Mc Mr → ∃ Mc' Mr', f_X1_endLog_L10 N c fu (nI k) Mc = some Mc' ∧ f_X11_handIn_L168 (nI c) v fu' (nI k) Mr = some (v.toInt64, Mr') ∧ EI N g B c (g + 1) A E Mc' Mr' := by
  intro m
  induction m with
  | zero =>
    intro k fu fu' Mc Mr hk hf hf' h
    obtain ⟨fu, rfl⟩ : ∃ q, fu = q + 1 := ⟨fu - 1, by omega⟩
    have : k = g + 1 := by omega
    subst this
    refine ⟨Mc, Mr, ?_, ?_, h⟩
    · simp only [f_X1_endLog_L10, lt_d]
      rw [h.1.ct.1, if_pos (nI_lt (by omega) (by omega))]
    · refine r_rest hc hv (48 - (g + 1)) (g + 1) fu' (by omega) (by omega) (fun q a b => ?_)
      have hk := h.2.1.2.2.2.2.1 c hc q b
      rw [← (h.1.kl hc b).2.2.2.2.2.2.2]
      rcases hk.1 with h0 | h1
      · exact (hk.2.2.2.2.2.1 h0).2
      · have := hk.2.2.2.1 h1; omega
  | succ m ih =>
    intro k fu fu' Mc Mr hk hf hf' h
    obtain ⟨fu, rfl⟩ : ∃ q, fu = q + 1 := ⟨fu - 1, by omega⟩
    obtain ⟨fu', rfl⟩ : ∃ q, fu' = q + 1 := ⟨fu' - 1, by omega⟩
    have hk48 : k < 48 := by omega
    obtain ⟨R, I, U, O, D, fc, fr⟩ := h
    have hd : Mc (33, c, 0) k = Mr m_dirty (48 * c + k) := (R.kl hc hk48).2.2.2.2.2.2.2
    by_cases e : Mc (33, c, 0) k = 0
    · obtain ⟨Mc', Mr', q1, q2, q3⟩ := ih (k + 1) fu fu' Mc Mr (by omega) (by omega) (by omega) ⟨R, I, U, O, fun p hp => by
        by_cases ep : p = k
        · rw [ep]; exact e
        · exact D p (by omega), fc, fr⟩
      refine ⟨Mc', Mr', ?_, ?_, q3⟩
      · simp only [f_X1_endLog_L10, lt_d, jn_d]
        rw [R.ct.1, if_neg (nI_nlt (by omega) (by omega)), rd_n hk48 (by omega), if_pos e, nI_1]
        exact q1
      · simp only [f_X11_handIn_L168, lt_d, jn_d]
        rw [if_neg (ge_48 hk48), if_neg hv, nI_m48, nI_add, rd_n (by omega) (by omega), ← hd, if_pos e, nI_1]
        exact q2
    · obtain ⟨Mc', Mr', q1, q2, q3⟩ := ih (k + 1) fu fu' (cDp N g Mc c k) (rFg g Mr c k) (by omega) (by omega) (by omega) ⟨rel_cdrop hN hc hk48 R I.1, inv_cdropJ hN hc hk48 I, usd_cdrop U hg, all_cdrop O hg, fun p hp => by
        rw [cDp_3 33 p (Or.inr rfl)]
        by_cases ep : p = k
        · rw [if_pos ep]
        · rw [if_neg ep]; exact D p (by omega), fc.tr (cDp_fr.mo (fun j q h => by unfold eL; omega)), fr.tr ((rFg_fr hg).mo (fun j q h => by unfold fL; omega))⟩
      refine ⟨Mc', Mr', ?_, ?_, q3⟩
      · simp only [f_X1_endLog_L10, lt_d, jn_d]
        rw [R.ct.1, if_neg (nI_nlt (by omega) (by omega)), rd_n hk48 (by omega), if_neg e, c_drop1 hN R.ct.1 hg hk48, o1_s, nI_1]
        exact q1
      · simp only [f_X11_handIn_L168, lt_d, jn_d]
        rw [if_neg (ge_48 hk48), if_neg hv, nI_m48, nI_add, rd_n (by omega) (by omega), ← hd, if_neg e, r_forget R.ct.2.1 hg hc hk48, o1_s, nI_1]
        exact q2
theorem c_end0 (hg : g ≤ 47) (h1 : M (1, 0, 0) 3 = nI g) (h0 : ∀ o, o < 48 → M (33, c, 0) o = 0) : ∀ m k fu, k + m = g + 1 → m < fu → f_X1_endLog_L10 N c fu (nI k) M = some M := by
  intro m
  induction m with
  | zero =>
    intro k fu hk hf
    obtain ⟨fu, rfl⟩ : ∃ q, fu = q + 1 := ⟨fu - 1, by omega⟩
    simp only [f_X1_endLog_L10, lt_d]
    rw [h1, if_pos (nI_lt (by omega) (by omega))]
  | succ m ih =>
    intro k fu hk hf
    obtain ⟨fu, rfl⟩ : ∃ q, fu = q + 1 := ⟨fu - 1, by omega⟩
    simp only [f_X1_endLog_L10, lt_d, jn_d]
    rw [h1, if_neg (nI_nlt (by omega) (by omega)), rd_n (by omega) (by omega), if_pos (h0 k (by omega)), nI_1]
    exact ih (k + 1) fu (by omega) (by omega)
theorem r_leastOf {s : Nat} (hN : N ≤ 4) (hs : s < N) (hb : bt v s = true) : f_X11_leastOf M v = some (nI (lst N v)) := by
  have H : ∀ m k fu, k + m = 4 → m < fu → f_X11_leastOf_L2 M v fu (nI k) = some (nI (lsF (bt v) k m)) := by
    intro m
    induction m with
    | zero =>
      intro k fu hk hf
      obtain ⟨fu, rfl⟩ : ∃ q, fu = q + 1 := ⟨fu - 1, by omega⟩
      have : k = 4 := by omega
      subst this
      simp only [f_X11_leastOf_L2]
      rw [if_pos (show (4 : Int32) ≤ nI 4 by decide)]
      rfl
    | succ m ih =>
      intro k fu hk hf
      obtain ⟨fu, rfl⟩ : ∃ q, fu = q + 1 := ⟨fu - 1, by omega⟩
      simp only [f_X11_leastOf_L2, lt_d]
      rw [if_neg (ge_4 (by omega)), fst_s]
      cases hb : bt v k with
      | true => rw [if_neg (by rw [bt_0 (by omega), hb]; decide), if_pos rfl]
      | false => rw [if_pos (by rw [bt_0 (by omega)]; exact hb), nI_1, ih (k + 1) fu (by omega) (by omega)]; rfl
  have h0 := H 4 0 100 (by omega) (by omega)
  refine Eq.trans h0 ?_
  obtain ⟨a1, a2, a3⟩ := lst_in hs hb
  obtain ⟨⟨b1, b2⟩, b3, b4⟩ := lsF_spec (f := bt v) 4 0
  obtain ⟨⟨d1, d2⟩, d3, d4⟩ := lsF_spec (f := bt v) N 0
  have el : lst N v = lsF (bt v) 0 N := by
    unfold lst
    rw [if_pos]
    rcases Nat.lt_or_ge (lsF (bt v) 0 N) N with h | h
    · exact h
    · rw [d4 s (by omega) (by omega)] at hb; exact absurd hb (by decide)
  have e : lsF (bt v) 0 4 = lsF (bt v) 0 N := by
    rw [el] at a1 a2
    rcases Nat.lt_trichotomy (lsF (bt v) 0 4) (lsF (bt v) 0 N) with h | h | h
    · have := d4 _ (by omega) h
      rw [b3 (by omega)] at this
      exact absurd this (by decide)
    · exact h
    · have := b4 _ (by omega) h
      rw [a2] at this
      exact absurd this (by decide)
  rw [e, el]
theorem r_no (fu : Nat) (hv : v ≤ 0) : f_X11_handIn_L168 (nI c) v (fu + 1) (0 : Int32) M = some (v.toInt64, M) := by
  simp only [f_X11_handIn_L168]
  rw [if_neg (by decide), if_pos hv]
theorem near_bit (hN : N ≤ 4) (h : ¬ cNr N M c = 0) : ∃ s, s < N ∧ bt (cNr N M c) s = true := by
  refine Classical.byContradiction (fun hn => h (b_ext (fun i hi => ?_)))
  rw [b_0]
  cases hb : bt (cNr N M c) i with
  | false => rfl
  | true =>
    have hb' := hb
    unfold cNr at hb'
    rw [bt_sS (by omega) hi, Bool.and_eq_true] at hb'
    exact absurd ⟨i, of_decide_eq_true hb'.1, hb⟩ hn
theorem st_handIn (hN : 1 ≤ N ∧ N ≤ 4) (h : St N T zz.1 zz.2.1) : ∃ z1, s_handIn N zz a1 = some z1 ∧ St N (T + 1) z1.1 z1.2.1 := by
  obtain ⟨g, R, I, U, O⟩ := id h
  have hg := I.1.1
  rcases rng a1 4 (by omega) with ⟨c, hc, rfl⟩ | bad
  · obtain ⟨nr, hnr⟩ : ∃ v, v = cNr N zz.1 c := ⟨_, rfl⟩
    obtain ⟨E, hE⟩ : ∃ X, X = gset zz.2.1 m_o 66 0 := ⟨_, rfl⟩
    have R5 : Rel N g zz.1 E := by
      rw [hE]; exact R.fr hN.2 (cf.rf _ _) ((cf.st (A := fun j q => j.1 = 0 ∧ q = 66) ⟨rfl, rfl⟩).mo (fun j q => by unfold rsc; omega))
    have fE : cf (fun j q => j.1 = 0 ∧ q = 66) zz.2.1 E := by rw [hE]; exact cf.st ⟨rfl, rfl⟩
    have hns : f_X11_nearSet E (nI c) = some nr := by rw [r_nearSet R5.n0 hN.2 hc, R5.nr hN.2 hc, hnr]
    have hnc : f_X5_nearClient N zz.1 (nI c) = some nr := by rw [c_nearClient R.1.2.1 hN.2 hc, hnr]
    by_cases hz : nr = 0
    · have c1 : f_X10_handIn N zz.1 (nI c) = some (0, -2199023255560, zz.1) := by
        unfold f_X10_handIn
        rw [c_checkClient_ok hc, o1_s, if_pos rfl, hnc, o1_s, if_pos hz]
      have r1 : f_X11_handIn zz.2.1 (nI c) = some (-2199023255560, E) := by
        unfold f_X11_handIn
        rw [r_isClient_ok hc, o1_s]
        simp only [jn_d, one_0, if_false, lt_d, g66, le_00, if_true, ← hE]
        rw [hns, o1_s, if_pos hz]
      refine q_handIn c1 r1 (by rw [hE]; exact g66 _ _) (by omega) (fun _ => rfl) ?_
      rw [hE]
      exact h.thr hN.2 0
    · obtain ⟨s, hs, hb⟩ := near_bit (c := c) (M := zz.1) hN.2 (by rw [← hnr]; exact hz)
      rw [← hnr] at hb
      obtain ⟨l, hl'⟩ : ∃ l, l = lst N nr := ⟨_, rfl⟩
      have hl : l < N := by rw [hl']; exact (lst_in hs hb).1
      obtain ⟨A, hA⟩ : ∃ X, X = gset (gset (gset zz.1 (11, 0, 0) 2 (nI c)) (11, 0, 0) 3 nr) (11, 0, 0) 4 (nI l) := ⟨_, rfl⟩
      have fA : cf (fun j q => j.1 = 11) zz.1 A := by rw [hA]; exact ((cf.st rfl).tr (cf.st rfl)).tr (cf.st rfl)
      have RA : Rel N g A E := R5.fr hN.2 (fA.mo (fun j q h => by unfold csc; omega)) (cf.rf _ _)
      have IA : Inv N g A := I.free0 hN.2 (fA.mo (fun j q h => by unfold iFree csc; omega))
      have e4 : A (11, 0, 0) 4 = nI l := by rw [hA, gset_aa]
      have e3 : A (11, 0, 0) 3 = nr := by rw [hA, gset_o (by simp), gset_aa]
      have e2 : A (11, 0, 0) 2 = nI c := by rw [hA, gset_o (by simp), gset_o (by simp), gset_aa]
      obtain ⟨n, hn, h40, h0d, hrec, -⟩ := IA.2.2.2.2.2.2.1 c hc
      have h40z : zz.1 (40, c, 0) 4 = nI n := by rw [← h40, fA _ _ (by dsimp only; omega)]
      have h40r : E m_records c = nI n := by rw [← (RA.lg hc).1]; exact h40
      obtain ⟨Mc1, Mr1, q1, q2, ⟨r1, j1, f1, d1⟩, hP⟩ := hi_loop (J := fun M7 => o1 (f_X1_endLog N M7 c) (fun M9 => some M9)) (J' := fun M14 => wr M14 m_records 4 (nI c) (0 : Int32) (fun M15 => f_X11_handIn_L168 (nI c) (nI n) 100 (0 : Int32) M15)) hN.2 hc hl IA RA e2 e3 e4 hn h40
      obtain ⟨Mc2, hMc2⟩ : ∃ X, X = gset Mc1 (40, c, 0) 4 0 := ⟨_, rfl⟩
      obtain ⟨Mr2, hMr2⟩ : ∃ X, X = gset Mr1 m_records c 0 := ⟨_, rfl⟩
      have f2 : cf (fun j q => j = (40, c, 0) ∧ q = 4) Mc1 Mc2 := by rw [hMc2]; exact cf.st ⟨rfl, rfl⟩
      have d2 : cf (fun j q => j = m_records ∧ q = c) Mr1 Mr2 := by rw [hMr2]; exact cf.st ⟨rfl, rfl⟩
      have v2 : Mc2 (40, c, 0) 4 = 0 := by rw [hMc2, gset_aa]
      have w2 : Mr2 m_records c = 0 := by rw [hMr2, gset_aa]
      have r2 : Rel N g Mc2 Mr2 := by
        refine r1.log hN.2 (f2.mo ?_) (d2.mo ?_) (fun d hd => ?_)
        · rintro j q ⟨rfl, rfl⟩; unfold aLg; dsimp only; omega
        · rintro j q ⟨rfl, rfl⟩; unfold bLg; dsimp only; omega
        · by_cases e : d = c
          · subst e
            refine ⟨by rw [v2, w2], ?_, fun i hi hl => ?_⟩
            · rw [f2 _ _ (by simp), d2 _ _ (by simp)]; exact (r1.lg hd).2.1
            · rw [w2] at hl
              exact absurd hl (nI_pos (by omega))
          · refine (r1.lg hd).fr hN.2 f2 d2 ?_ ?_
            · rintro j q h ⟨rfl, rfl⟩; revert h; unfold kLg; dsimp only; omega
            · rintro j q h ⟨rfl, rfl⟩; revert h; unfold lLg; dsimp only; omega
      have j2 : JInv N g Mc2 := j1.lgs hN.2 (f2.mo (fun j q h => by rw [h.1]; dsimp only; omega))
      have fu : cf uC zz.1 Mc2 := by
        refine ((fA.mo (fun j q h => ?_)).tr (f1.mo (fun j q h => ?_))).tr (f2.mo (fun j q h => ?_))
        · unfold uC; omega
        · revert h; unfold HC aSv uC; omega
        · rw [h.1]; unfold uC; dsimp only; omega
      have du : cf uR zz.2.1 Mr2 := by
        refine ((fE.mo (fun j q h => ?_)).tr (d1.mo (fun j q h => ?_))).tr (d2.mo (fun j q h => ?_))
        · unfold uR; omega
        · revert h; unfold HR bSv uR; omega
        · rw [h.1]; unfold uR; dsimp only; omega
      have U2 : Usd (1000 * T) Mc2 Mr2 := by
        refine U.fr fu du ?_ ?_ ?_ ?_ ?_ ?_
        · intro c q; unfold uC; dsimp only; omega
        · intro c; unfold uC; dsimp only; omega
        · intro q; unfold uR; dsimp only; omega
        · intro q; unfold uR; dsimp only; omega
        · unfold uR; dsimp only; omega
        · unfold uR; dsimp only; omega
      have O2 : uAll c 48 Mc2 Mr2 := by
        have O' : uAll c 48 zz.1 zz.2.1 := fun d hd => by
          have := O d hd
          rw [show (if d = 0 then 48 else 48) = 48 from by split <;> rfl] at this
          rw [show (if d = c then 48 else 48) = 48 from by split <;> rfl]
          exact this
        refine O'.fr fu du ?_ ?_ ?_
        · intro c q; unfold uC; dsimp only; omega
        · intro c q; unfold uC; dsimp only; omega
        · intro q; unfold uR; dsimp only; omega
      have fin : ∃ Mc3 Mr3, f_X1_endLog_L10 N c 100 (0 : Int32) Mc2 = some Mc3 ∧ f_X11_handIn_L168 (nI c) (nI n) 100 (0 : Int32) Mr2 = some ((nI n).toInt64, Mr3) ∧ EI N g (1000 * T) c (g + 1) Mc2 Mr2 Mc3 Mr3 := by
        by_cases hn0 : n = 0
        · have dz : ∀ o, o < 48 → Mc2 (33, c, 0) o = 0 := fun o ho => by
            rw [f2 _ _ (by simp), f1 _ _ (by unfold HC aSv; dsimp only; omega)]; exact h0d hn0 o ho
          refine ⟨Mc2, Mr2, c_end0 hg r2.ct.1 dz (g + 1) 0 100 (by omega) (by omega), ?_, r2, j2, U2, O2, fun p hp => dz p (by omega), cf.rf _ _, cf.rf _ _⟩
          exact r_no 99 (by rw [hn0]; decide)
        · exact end_loop (A := Mc2) (E := Mr2) hN.2 hc hg (fun z => hn0 (by
            have z' : nI n ≤ nI 0 := z
            rw [nle (by omega) (by omega)] at z'
            omega)) (g + 1) 0 100 100 Mc2 Mr2 (by omega) (by omega) (by omega) ⟨r2, j2, U2, O2, fun p hp => by omega, cf.rf _ _, cf.rf _ _⟩
      obtain ⟨Mc3, Mr3, p1, p2, r3, j3, U3, O3, D3, f3, d3⟩ := fin
      have cell : ∀ (j : gI) q, ¬ HC j q → j ≠ (40, c, 0) → ¬ eL c j q → Mc3 j q = A j q := fun j q y1 y2 y3 => by
        rw [f3 _ _ y3, f2 _ _ (fun z => y2 z.1), f1 _ _ y1]
      have v3 : Mc3 (40, c, 0) 4 = 0 := by rw [f3 _ _ (by unfold eL; dsimp only; omega)]; exact v2
      have i3 : Inv N g Mc3 := by
        refine j3.up (fun d hd => ?_) ?_
        · by_cases e : d = c
          · subst e
            refine ⟨0, by omega, v3, fun _ o ho => ?_, fun i hi => by omega, fun i j hi => by omega⟩
            by_cases ho' : o < g + 1
            · exact D3 o ho'
            · have hk := j3.2.2.2.2.1 d hd o ho
              rcases hk.1 with h0 | h1
              · exact (hk.2.2.2.2.2.1 h0).2
              · have := hk.2.2.2.1 h1; omega
          · have ec : ∀ (j : gI) q, ¬ HC j q → j.2.1 ≠ c → j.2.1 ≠ 4 + c → Mc3 j q = A j q := fun j q y1 y2 y3 => cell j q y1 (fun z => y2 (by rw [z])) (by unfold eL; omega)
            obtain ⟨m, m12, hm, m0, mrec, mord⟩ := IA.2.2.2.2.2.2.1 d hd
            refine ⟨m, m12, by rw [ec _ _ (by unfold HC aSv; dsimp only; omega) e (by dsimp only; omega)]; exact hm, fun z o ho => by rw [ec _ _ (by unfold HC aSv; dsimp only; omega) e (by dsimp only; omega)]; exact m0 z o ho, fun i hi => ?_, fun i j hi hj => ?_⟩
            · obtain ⟨ob, o1', o2', o3', cs⟩ := mrec i hi
              refine ⟨ob, o1', o2', by rw [ec _ _ (by unfold HC aSv; dsimp only; omega) e (by dsimp only; omega)]; exact o3', ?_⟩
              rw [ec (41, d, 0) i (by unfold HC aSv; dsimp only; omega) e (by dsimp only; omega), ec (43, d, 0) i (by unfold HC aSv; dsimp only; omega) e (by dsimp only; omega), ec (51, 4 + d, 0) ob (by unfold HC aSv; dsimp only; omega) (by dsimp only; omega) (by dsimp only; omega), ec (33, d, 0) ob (by unfold HC aSv; dsimp only; omega) e (by dsimp only; omega), cell (4, 0, 0) ob (by unfold HC aSv; dsimp only; omega) (by simp) (by unfold eL; dsimp only; omega), cell (2, 0, 0) ob (by unfold HC aSv; dsimp only; omega) (by simp) (by unfold eL; dsimp only; omega)]
              rcases cs with h1 | ⟨k0, k43, k51⟩ | h3
              · exact Or.inl h1
              · refine Or.inr (Or.inl ⟨k0, k43, fun s hs => ?_⟩)
                have := hP d hd i (by omega) (by rw [hm]; exact nI_lt hi (by omega)) k0 (fun z => absurd z e) ob (by omega) o3' s hs
                rw [f3 _ _ (by unfold eL; dsimp only; omega), f2 _ _ (by simp), f3 _ _ (by unfold eL; dsimp only; omega), f2 _ _ (by simp)]
                exact this
              · exact Or.inr (Or.inr h3)
            · rw [ec (41, d, 0) i (by unfold HC aSv; dsimp only; omega) e (by dsimp only; omega), ec (41, d, 0) j (by unfold HC aSv; dsimp only; omega) e (by dsimp only; omega), ec (42, d, 0) i (by unfold HC aSv; dsimp only; omega) e (by dsimp only; omega), ec (42, d, 0) j (by unfold HC aSv; dsimp only; omega) e (by dsimp only; omega)]
              exact mord i j hi hj
        · refine iMk_edit (n := n) (n' := 0) (ph := id) hc hn (by omega) IA.2.2.2.2.2.2.2 h40 v3 (fun k hk => by omega) (fun i j hi => by omega) (fun i hi => by omega) (fun d hd i => ?_)
          have ec : ∀ t : Nat, (t = 40 ∨ t = 41 ∨ t = 42) → Mc3 (t, d, 0) i = A (t, d, 0) i := fun t ht => cell _ _ (by unfold HC aSv; dsimp only; omega) (fun z => hd (congrArg (fun y : gI => y.2.1) z)) (by unfold eL; dsimp only; omega)
          exact ⟨ec 40 (Or.inl rfl), ec 41 (Or.inr (Or.inl rfl)), ec 42 (Or.inr (Or.inr rfl))⟩
      have hAll : f_X2_handInAll N zz.1 c nr = some Mc3 := by
        unfold f_X2_handInAll
        simp only [lt_d, jn_d]
        rw [gset_aa, c_leastOf hN.2, o1_s, ← hl', ← hA]
        refine q1.trans ?_
        unfold f_X1_endLog
        rw [lt_d, ← hMc2, p1, o1_s]
      have c1 : f_X10_handIn N zz.1 (nI c) = some (0, (nI n).toInt64, Mc3) := by
        unfold f_X10_handIn
        rw [c_checkClient_ok hc, o1_s, if_pos rfl, hnc, o1_s, if_neg hz, ix_n hc (by omega), lt_d, h40z, hAll, o1_s]
      have rr1 : f_X11_handIn zz.2.1 (nI c) = some ((nI n).toInt64, Mr3) := by
        unfold f_X11_handIn
        rw [r_isClient_ok hc, o1_s]
        simp only [jn_d, one_0, if_false, lt_d, g66, le_00, if_true, ← hE]
        rw [hns, o1_s, if_neg hz, rd_n hc (by omega), h40r, r_leastOf hN.2 hs hb, o1_s, ← hl']
        refine q2.trans ?_
        rw [wr_n hc (by omega), ← hMr2]
        exact p2
      refine q_handIn c1 rr1 ?_ (by omega) (fun _ => rfl) ⟨g, r3, i3, U3.up (by omega), fun d hd => ?_⟩
      · rw [d3 _ _ (by unfold fL; dsimp only; omega), d2 _ _ (by simp), d1 _ _ (by unfold HR bSv; dsimp only; omega), hE]
        exact g66 _ _
      · have := O3 d hd
        rw [show (if d = c then 48 else 48) = 48 from by split <;> rfl] at this
        rw [show (if d = 0 then 48 else 48) = 48 from by split <;> rfl]
        exact this
  · have c1 : f_X10_handIn N zz.1 a1 = some (1, 0, zz.1) := by
      unfold f_X10_handIn
      rw [c_checkClient_bad bad, o1_s, if_neg (by decide)]
    have r1 : f_X11_handIn zz.2.1 a1 = some (0, gset zz.2.1 m_o 66 1) := by
      unfold f_X11_handIn
      simp only [r_isClient_bad bad, o1_s, jn_d, if_true, lt_d, g66, le_10, if_false]
    exact q_handIn c1 r1 (g66 _ _) (by omega) (fun h => absurd h (by decide)) (h.thr hN.2 1)
end SH
