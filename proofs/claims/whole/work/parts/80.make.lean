/-! layer 2: room in a cache, both in step -/
theorem rd_l {β : Type} {M : gM} {K : Int32 → Option β} {i : gI} : rd M i 8 (6 : Int32) K = K (M i 6) ∧ rd M i 8 (5 : Int32) K = K (M i 5) ∧ rd M i 8 (4 : Int32) K = K (M i 4) ∧ rd M i 8 (3 : Int32) K = K (M i 3) ∧ rd M i 8 (2 : Int32) K = K (M i 2) ∧ rd M i 8 (1 : Int32) K = K (M i 1) := ⟨rd_n (k := 6) (by decide) (by decide), rd_n (k := 5) (by decide) (by decide), rd_n (k := 4) (by decide) (by decide), rd_n (k := 3) (by decide) (by decide), rd_n (k := 2) (by decide) (by decide), rd_n (k := 1) (by decide) (by decide)⟩
theorem wr_l {β : Type} {M : gM} {K : gM → Option β} {i : gI} {v : Int32} : wr M i 8 (6 : Int32) v K = K (gset M i 6 v) ∧ wr M i 8 (5 : Int32) v K = K (gset M i 5 v) ∧ wr M i 8 (4 : Int32) v K = K (gset M i 4 v) ∧ wr M i 8 (3 : Int32) v K = K (gset M i 3 v) ∧ wr M i 8 (2 : Int32) v K = K (gset M i 2 v) ∧ wr M i 8 (1 : Int32) v K = K (gset M i 1 v) := ⟨wr_n (k := 6) (by decide) (by decide), wr_n (k := 5) (by decide) (by decide), wr_n (k := 4) (by decide) (by decide), wr_n (k := 3) (by decide) (by decide), wr_n (k := 2) (by decide) (by decide), wr_n (k := 1) (by decide) (by decide)⟩
def CI (N g B c x : Nat) (Mc Mr : gM) : Prop := Rel N g Mc Mr ∧ Inv N g Mc ∧ Usd B Mc Mr ∧ uAll c x Mc Mr ∧ uNow c x Mc Mr
def fC (c : Nat) (j : gI) (q : Nat) : Prop := (51 ≤ j.1 ∧ j.1 ≤ 58 ∧ j.2.1 = 4 + c) ∨ ((j.1 = 32 ∨ j.1 = 33) ∧ j.2.1 = c) ∨ (j.1 = 9 ∧ q = 6)
def fR (c : Nat) (j : gI) (q : Nat) : Prop := ((j.1 = 22 ∨ j.1 = 27 ∨ j.1 = 26 ∨ j.1 = 30) ∧ 48 * c ≤ q ∧ q < 48 * c + 48) ∨ (j.1 = 0 ∧ q = 50)
/-- what may not go stays as it is; so do the entries of what stays -/
def rmK (N c : Nat) (be : Int32) (M M' : gM) : Prop := ∀ o, o < 48 → cMay M c be o = false → (∀ t, t = 51 ∨ t = 52 ∨ t = 53 → M' (t, 4 + c, 0) o = M (t, 4 + c, 0) o) ∧ (∀ k, k < N + 4 → M' (55, 4 + c, o) k = M (55, 4 + c, o) k) ∧ M' (32, c, 0) o = M (32, c, 0) o ∧ M' (33, c, 0) o = M (33, c, 0) o
def rmS (c : Nat) (be : Int32) (M M' : gM) : Prop := ∀ x, x < 48 → (∀ p, p < 48 → M (2, 0, 0) x = nI p → cMay M c be p = false) → M' (56, 4 + c, 0) x = M (56, 4 + c, 0) x
section RL
variable {N g T c x : Nat} {be bu mo : Int32}
/-- one goes -/
theorem room_step {Mc Mr : gM} {b : Nat} (hN : N ≤ 4) (hc : c < 4) (hb : b < 48) (h : CI N g T c x Mc Mr) (hm : cMay Mc c be b = true) : CI N g T c x (gset (cDp N g Mc c b) (9, 0, 0) 6 (cDp N g Mc c b (9, 0, 0) 6 + 1)) (gset (rFg g Mr c b) m_o 50 (rFg g Mr c b m_o 50 + 1)) := by
  obtain ⟨R, I, U, O, W⟩ := h
  have hg := I.1.1
  have hdy : Mc (33, c, 0) b = 0 := by
    unfold cMay at hm
    simp only [Bool.and_eq_true, Bool.not_eq_true', nz_f] at hm
    exact hm.2.1
  have R1 := rel_cdrop hN hc hb R I.1
  have I1 : Inv N g (cDp N g Mc c b) := inv_cdrop hN hc hb I (fun i hi hl hk ho => by
    obtain ⟨n, n1, n2, -, n4, -⟩ := I.2.2.2.2.2.2.1 c hc
    rw [n2] at hl
    have hin : i < n := (nI_ltI (by omega) (by omega)).mp hl
    obtain ⟨ob, o1, o2, o3, o4⟩ := n4 i hin
    rcases o4 with q | q | q
    · have : ob = b := (nI_eq (by omega) (by omega)).mp (o3.symm.trans ho)
      rw [this, hdy] at q
      exact absurd q.2.2.2.1 (by decide)
    · rw [hk] at q; exact absurd q.1 (by decide)
    · rw [hk] at q; exact absurd q.1 (by decide))
  have U1 := usd_cdrop (N := N) (c := c) (o := b) U hg
  have O1 := all_cdrop (N := N) (o := b) O hg
  have W1 := now_cdrop (N := N) (o := b) W hg
  generalize hX : cDp N g Mc c b = X at R1 I1 U1 O1 W1 ⊢
  generalize hY : rFg g Mr c b = Y at R1 U1 O1 W1 ⊢
  have fc : cf (fun j q => j.1 = 9) X (gset X (9, 0, 0) 6 (X (9, 0, 0) 6 + 1)) := cf.st rfl
  have fr : cf (fun j q => j.1 = 0 ∧ q = 50) Y (gset Y m_o 50 (Y m_o 50 + 1)) := cf.st ⟨rfl, rfl⟩
  refine ⟨R1.tal hN (fc.mo ?_) (fr.mo ?_) ?_, I1.tal hN (fc.mo ?_), U1.fr fc fr ?_ ?_ ?_ ?_ ?_ ?_, O1.fr fc fr ?_ ?_ ?_, W1.fr fc fr ?_ ?_ ?_ ?_ ?_ ?_⟩
  · intro j q; unfold aTl csc; omega
  · intro j q; unfold bTl rsc; omega
  · intro k k1 k2
    have h0 := R1.2.2.2.2.2.2.2 k k1 k2
    by_cases e : k = 6
    · subst e
      rw [gset_r, if_pos ⟨rfl, rfl⟩, gset_r, if_pos ⟨rfl, rfl⟩, h0]
    · rw [gset_r, if_neg (fun x => e x.2), gset_r, if_neg (fun x => by omega)]
      exact h0
  · intro j q; unfold aTl csc; omega
  · intro c q; dsimp only; omega
  · intro c; dsimp only; omega
  · intro q; dsimp only; omega
  · intro q; dsimp only; omega
  · dsimp only; omega
  · dsimp only; omega
  · intro c q; dsimp only; omega
  · intro c q; dsimp only; omega
  · intro q; dsimp only; omega
  · intro q; dsimp only; omega
  · dsimp only; omega
  · dsimp only; omega
  · intro q; dsimp only; omega
  · dsimp only; omega
  · intro q _ _ h
    rw [fc _ _ (by dsimp only; omega)] at h
    exact h
theorem step_may {Mc : gM} {b : Nat} {v : Int32} (o : Nat) : cMay (gset (cDp N g Mc c b) (9, 0, 0) 6 v) c be o = (if o = b then false else cMay Mc c be o) := by
  have fc := cDp_fr (N := N) (g := g) (c := c) (o := b) (M := Mc)
  unfold cMay
  rw [gset_r, if_neg (by simp), gset_r, if_neg (by simp), gset_r, if_neg (by simp), gset_r, if_neg (by simp), gset_r, if_neg (by simp), cDp_h 51 o (by omega), cDp_3 33 o (by omega), fc (30, c, 0) 10 (by dsimp only; omega), fc (34, c, 0) o (by dsimp only; omega), fc (31, c, 0) o (by dsimp only; omega)]
  by_cases e : o = b
  · rw [if_pos e, if_pos e, if_pos e]; rfl
  · rw [if_neg e, if_neg e, if_neg e]
theorem step_wt {Mc : gM} {b : Nat} {v : Int32} (o : Nat) (ho : o < 48) : wt (gset (cDp N g Mc c b) (9, 0, 0) 6 v) c o = if o = b then 0 else wt Mc c o := by
  rw [← cDp_wt (N := N) (g := g) o ho]
  have e : ∀ t a q, t ≠ 9 → gset (cDp N g Mc c b) (9, 0, 0) 6 v (t, a, 0) q = cDp N g Mc c b (t, a, 0) q := fun t a q h => by rw [gset_r, if_neg (fun x => h (congrArg Prod.fst x.1))]
  unfold wt
  rw [e 51 _ _ (by decide), e 53 _ _ (by decide), e 4 _ _ (by decide)]
theorem may_held {Mc : gM} {o : Nat} (h : cMay Mc c be o = true) : ¬ Mc (51, 4 + c, 0) o = 0 := by
  unfold cMay at h
  simp only [Bool.and_eq_true, nz_t] at h
  exact h.1
theorem wt_pos {Mc : gM} {o : Nat} (h : ¬ Mc (51, 4 + c, 0) o = 0) : 1 ≤ wt Mc c o := by
  unfold wt
  rw [if_neg h]
  by_cases e : Mc (4, 0, 0) o = 0
  · rw [if_pos e]; omega
  · rw [if_neg e]; omega
theorem room_loop (hN : N ≤ 4) (hc : c < 4) (hxb : x < 48 → nI x = bu) (hm1 : 0 < mo.toInt) (hm2 : mo.toInt ≤ 100) : ∀ (n : Nat) (Mc Mr : gM) (fuc fur gn : Nat), wsum (wt Mc c) 48 ≤ n → n < fuc → n < fur → gn + n < 48 → CI N g T c x Mc Mr → (∀ o, o < 48 → nI o = bu → cMay Mc c be o = false) → mo.toInt + wsum (fun o => if cMay Mc c be o then 0 else wt Mc c o) 48 ≤ 24 → ∃ Mc' Mr', f_X1_makeRoom_L79 N c mo be fuc (nI (24 - wsum (wt Mc c) 48)) (nI gn) Mc = some (1, Mc') ∧ f_X11_makeRoom_L75 (nI c) bu be fur (mo + nI (wsum (wt Mc c) 48)) Mr = some (1, Mr') ∧ CI N g T c x Mc' Mr' ∧ cf (fC c) Mc Mc' ∧ cf (fR c) Mr Mr' ∧ rmK N c be Mc Mc' ∧ rmS c be Mc Mc' ∧ mo.toInt + wsum (wt Mc' c) 48 ≤ 24 := by
  intro n
  induction n with
  | zero =>
    intro Mc Mr fuc fur gn hn h1 h2 h3 h hb hs
    have hS : wsum (wt Mc c) 48 = 0 := by omega
    obtain ⟨fuc, rfl⟩ : ∃ q, fuc = q + 1 := ⟨fuc - 1, by omega⟩
    obtain ⟨fur, rfl⟩ : ∃ q, fur = q + 1 := ⟨fur - 1, by omega⟩
    refine ⟨Mc, Mr, ?_, ?_, h, cf.rf _ _, cf.rf _ _, fun o _ _ => ⟨fun _ _ => rfl, fun _ _ => rfl, rfl, rfl⟩, fun _ _ _ => rfl, by omega⟩
    · simp only [f_X1_makeRoom_L79]
      rw [if_neg (ge_48 (by omega)), if_pos (by rw [Int32.le_iff_toInt_le, nI_toInt (by omega)]; omega)]
    · simp only [f_X11_makeRoom_L75]
      rw [if_pos (by rw [Int32.le_iff_toInt_le, adI (by omega) (by omega) (by omega), i24]; omega)]
  | succ n ih =>
    intro Mc Mr fuc fur gn hn h1 h2 h3 h hb hs
    obtain ⟨fuc, rfl⟩ : ∃ q, fuc = q + 1 := ⟨fuc - 1, by omega⟩
    obtain ⟨fur, rfl⟩ : ∃ q, fur = q + 1 := ⟨fur - 1, by omega⟩
    obtain ⟨R, I, U, O, W⟩ := id h
    have hg := I.1.1
    have hS24 : wsum (wt Mc c) 48 ≤ 24 := I.2.2.2.2.2.1 c hc
    by_cases hex : mo.toInt + wsum (wt Mc c) 48 ≤ 24
    · refine ⟨Mc, Mr, ?_, ?_, h, cf.rf _ _, cf.rf _ _, fun o _ _ => ⟨fun _ _ => rfl, fun _ _ => rfl, rfl, rfl⟩, fun _ _ _ => rfl, hex⟩
      · simp only [f_X1_makeRoom_L79]
        rw [if_neg (ge_48 (by omega)), if_pos (by rw [Int32.le_iff_toInt_le, nI_toInt (by omega)]; omega)]
      · simp only [f_X11_makeRoom_L75]
        rw [if_pos (by rw [Int32.le_iff_toInt_le, adI (by omega) (by omega) (by omega), i24]; omega)]
    · -- someone may go
      have h13 : Mc (1, 0, 0) 3 = nI g := R.ct.1
      have hgm : ∀ j, g + 1 ≤ j → j < 48 → cMay Mc c be j = false := fun j a b => by
        cases hq : cMay Mc c be j
        · rfl
        · have := may_held hq
          have k := I.2.2.2.2.1 c hc j b
          rcases k.1 with x | x
          · exact absurd x this
          · have := k.2.2.2.1 x; omega
      have hbst : bst (rMay Mr c bu be) (rBef Mr c) 0 48 none = bst (cMay Mc c be) (cBef Mc c) 0 (g + 1) none := by
        rw [← bst_cut (g + 1) 0 (47 - g) none (fun j a b => hgm j (by omega) (by omega)), show g + 1 + (47 - g) = 48 by omega]
        refine bst_congr 48 0 none (fun j _ hj => may_eq hc (by omega) R (I.2.2.2.2.1 c hc j (by omega)) W (fun y => by subst y; exact hxb (by omega)) (hb j (by omega))) (fun b hb' => by cases hb') (fun i j _ hi _ hj mi mj => ?_)
        rw [may_eq hc (by omega) R (I.2.2.2.2.1 c hc i (by omega)) W (fun y => by subst y; exact hxb (by omega)) (hb i (by omega))] at mi
        rw [may_eq hc (by omega) R (I.2.2.2.2.1 c hc j (by omega)) W (fun y => by subst y; exact hxb (by omega)) (hb j (by omega))] at mj
        have uu := O c hc
        rw [if_pos rfl] at uu
        have nx : ∀ k, k < 48 → cMay Mc c be k = true → k ≠ x := fun k hk hm y => by
          subst y
          rw [hb k hk (hxb hk)] at hm
          cases hm
        exact bef_eq hc (by omega) (by omega) R uu (nx j (by omega) mj) (nx i (by omega) mi) ((I.2.2.2.2.1 c hc j (by omega)).1.resolve_left (may_held mj)) ((I.2.2.2.2.1 c hc i (by omega)).1.resolve_left (may_held mi))
      cases hbe : bst (cMay Mc c be) (cBef Mc c) 0 (g + 1) none with
      | none =>
        exfalso
        obtain ⟨-, hno⟩ := bst_none (g + 1) 0 none hbe
        have : wsum (fun o => if cMay Mc c be o then 0 else wt Mc c o) 48 = wsum (wt Mc c) 48 := wsum_congr 48 (fun k hk => by
          have : cMay Mc c be k = false := by
            rcases Nat.lt_or_ge k (g + 1) with x | x
            · exact hno k (by omega) (by omega)
            · exact hgm k x hk
          rw [this]; rfl)
        omega
      | some b =>
        have hbm : cMay Mc c be b = true ∧ b < 48 := bst_ok (P := fun j => cMay Mc c be j = true ∧ j < 48) (g + 1) 0 none (fun j _ hj hm => ⟨hm, by omega⟩) (fun b hb' => by cases hb') b hbe
        obtain ⟨hbm, hb48⟩ := hbm
        have hz := (I.2.2.2.2.1 c hc b hb48).2.2.2.2.2.2.2.1
        have hwb := wt_pos (may_held hbm)
        have hsum : wsum (wt (gset (cDp N g Mc c b) (9, 0, 0) 6 (cDp N g Mc c b (9, 0, 0) 6 + 1)) c) 48 + wt Mc c b = wsum (wt Mc c) 48 := wsum_out 48 hb48 (by rw [step_wt b hb48, if_pos rfl]) (fun k hk hne => by rw [step_wt k hk, if_neg hne])
        have hsn : wsum (fun o => if cMay (gset (cDp N g Mc c b) (9, 0, 0) 6 (cDp N g Mc c b (9, 0, 0) 6 + 1)) c be o then 0 else wt (gset (cDp N g Mc c b) (9, 0, 0) 6 (cDp N g Mc c b (9, 0, 0) 6 + 1)) c o) 48 = wsum (fun o => if cMay Mc c be o then 0 else wt Mc c o) 48 := wsum_congr 48 (fun k hk => by
          try dsimp only
          rw [step_may k, step_wt k hk]
          by_cases e : k = b
          · subst e; rw [if_pos rfl, if_pos rfl, hbm]; rfl
          · rw [if_neg e, if_neg e])
        have h' := room_step hN hc hb48 h hbm
        obtain ⟨Mc', Mr', k1, k2, k3, k4, k5, k6, k7, k8⟩ := ih _ _ fuc fur (gn + 1) (by omega) (by omega) (by omega) (by omega) h' (fun o ho e => by
          rw [step_may o]
          by_cases eo : o = b
          · rw [if_pos eo]
          · rw [if_neg eo]; exact hb o ho e) (by rw [hsn]; exact hs)
        have fc := cDp_fr (N := N) (g := g) (c := c) (o := b) (M := Mc)
        have fr := rFg_fr (c := c) (o := b) (M := Mr) hg
        have fc1 : cf (fC c) Mc (gset (cDp N g Mc c b) (9, 0, 0) 6 (cDp N g Mc c b (9, 0, 0) 6 + 1)) := (fc.mo (fun j q => by unfold fC; omega)).tr (cf.st (Or.inr (Or.inr ⟨rfl, rfl⟩)))
        have fr1 : cf (fR c) Mr (gset (rFg g Mr c b) m_o 50 (rFg g Mr c b m_o 50 + 1)) := (fr.mo (fun j q => by unfold fR; omega)).tr (cf.st (Or.inr ⟨rfl, rfl⟩))
        refine ⟨Mc', Mr', ?_, ?_, k3, fc1.tr k4, fr1.tr k5, fun o ho hm => ?_, fun x hx hp => ?_, k8⟩
        · simp only [f_X1_makeRoom_L79]
          rw [if_neg (ge_48 (by omega)), if_neg (by rw [Int32.le_iff_toInt_le, nI_toInt (by omega)]; omega), c_nextToGo h13 hg, o1_s, hbe, show enc (some b) = nI b from rfl, if_neg (by rw [nI_m1 (by omega)]; exact fun h => h), c_weightOf hb48 hz, o1_s, lt_d, nI_add, c_drop1 hN h13 hg hb48, o1_s, rd_l.1, wr_l.1, lt_d, nI_1, show 24 - wsum (wt Mc c) 48 + wt Mc c b = 24 - wsum (wt (gset (cDp N g Mc c b) (9, 0, 0) 6 (cDp N g Mc c b (9, 0, 0) 6 + 1)) c) 48 by omega]
          exact k1
        · simp only [f_X11_makeRoom_L75, jn_d]
          rw [if_neg (by rw [Int32.le_iff_toInt_le, adI (by omega) (by omega) (by omega), i24]; omega), r_best hc, hbst, hbe]
          simp only [enc]
          rw [r_weightKept hc hb48 R hz, o1_s, lt_d, r_forget R.ct.2.1 hg hc hb48, o1_s, lt_d, lt_d]
          have e : mo + nI (wsum (wt Mc c) 48) - nI (wt Mc c b) = mo + nI (wsum (wt (gset (cDp N g Mc c b) (9, 0, 0) 6 (cDp N g Mc c b (9, 0, 0) 6 + 1)) c) 48) := by
            rw [← hsum, ← nI_add, ← Int32.add_assoc, Int32.add_sub_cancel]
          rw [e]
          exact k2
        · have hob : o ≠ b := fun e => by rw [e, hbm] at hm; cases hm
          obtain ⟨q1, q2, q3, q4⟩ := k6 o ho (by rw [step_may o, if_neg hob]; exact hm)
          refine ⟨fun t ht => ?_, fun k hk => ?_, ?_, ?_⟩
          · rw [q1 t ht, gset_r, if_neg (by intro x; have := congrArg Prod.fst x.1; dsimp only at this; omega), cDp_h t o ht, if_neg hob]
          · rw [q2 k hk, gset_r, if_neg (by simp), cDp_55 o k hk, if_neg hob]
          · rw [q3, gset_r, if_neg (by simp), cDp_3 32 o (by omega), if_neg hob]
          · rw [q4, gset_r, if_neg (by simp), cDp_3 33 o (by omega), if_neg hob]
        · have e2 : ∀ q, gset (cDp N g Mc c b) (9, 0, 0) 6 (cDp N g Mc c b (9, 0, 0) 6 + 1) (2, 0, 0) q = Mc (2, 0, 0) q := fun q => fc1 _ _ (by unfold fC; dsimp only; omega)
          rw [k7 x hx (fun p hp1 hp2 => by
            rw [e2] at hp2
            rw [step_may p]
            by_cases e : p = b
            · rw [if_pos e]
            · rw [if_neg e]; exact hp p hp1 hp2), gset_r, if_neg (by simp), cDp_56, if_neg (fun y => by
              have := hp b hb48 y.2.2
              rw [hbm] at this
              cases this)]
theorem wsum_split {may : Nat → Bool} {W : Nat → Nat} : ∀ n, wsum (fun o => if may o then W o else 0) n + wsum (fun o => if may o then 0 else W o) n = wsum W n := by
  intro n
  induction n with
  | zero => rfl
  | succ n ih =>
    show wsum _ n + (if may n then W n else 0) + (wsum _ n + (if may n then 0 else W n)) = wsum W n + W n
    cases may n <;> simp <;> omega
theorem room {Mc Mr : gM} (hN : N ≤ 4) (hc : c < 4) (hxb : x < 48 → nI x = bu) (h : CI N g T c x Mc Mr) (hb : ∀ o, o < 48 → nI o = bu → cMay Mc c be o = false) (h1 : -100 ≤ mo.toInt) (h2 : mo.toInt ≤ 100) : ∃ (b : Bool) (Mc' Mr' : gM), f_X1_makeRoom N Mc c mo be = some (zb b, Mc') ∧ f_X11_makeRoom Mr (nI c) mo bu be = some (zb b, Mr') ∧ CI N g T c x Mc' Mr' ∧ cf (fC c) Mc Mc' ∧ cf (fR c) Mr Mr' ∧ rmK N c be Mc Mc' ∧ rmS c be Mc Mc' ∧ (b = false → Mc' = Mc ∧ Mr' = Mr) ∧ b = decide (mo.toInt ≤ 0 ∨ mo.toInt + wsum (fun o => if cMay Mc c be o then 0 else wt Mc c o) 48 ≤ 24) ∧ (b = true → mo.toInt + wsum (wt Mc' c) 48 ≤ 24) := by
  obtain ⟨R, I, U, O, W⟩ := id h
  have hg := I.1.1
  have hS24 : wsum (wt Mc c) 48 ≤ 24 := I.2.2.2.2.2.1 c hc
  have h13 : Mc (1, 0, 0) 3 = nI g := R.ct.1
  have hmay : ∀ o, o < 48 → rMay Mr c bu be o = cMay Mc c be o := fun o ho => may_eq hc ho R (I.2.2.2.2.1 c hc o ho) W (fun y => by subst y; exact hxb ho) (hb o ho)
  have hz : ∀ o, o < 48 → ∃ z, z ≤ 6 ∧ Mc (53, 4 + c, 0) o = nI z := fun o ho => (I.2.2.2.2.1 c hc o ho).2.2.2.2.2.2.2.1
  have hsr : wsum (fun o => if rMay Mr c bu be o then wt Mc c o else 0) 48 = wsum (fun o => if cMay Mc c be o then wt Mc c o else 0) 48 := wsum_congr 48 (fun k hk => by rw [hmay k hk])
  have hspl := wsum_split (may := cMay Mc c be) (W := wt Mc c) 48
  have hr0 : f_X11_makeRoom Mr (nI c) mo bu be = (if (mo + nI (wsum (wt Mc c) 48)) - nI (wsum (fun o => if cMay Mc c be o then wt Mc c o else 0) 48) ≤ (24 : Int32) then f_X11_makeRoom_L75 (nI c) bu be 100 (mo + nI (wsum (wt Mc c) 48)) Mr else some ((0 : Int32), Mr)) := by
    unfold f_X11_makeRoom
    rw [jn_d, r_sum hc (W := wt Mc c) (fun o ho => r_weightKept hc ho R (hz o ho)), hsr]
  have hle : ((mo + nI (wsum (wt Mc c) 48)) - nI (wsum (fun o => if cMay Mc c be o then wt Mc c o else 0) 48) ≤ (24 : Int32)) ↔ mo.toInt + wsum (fun o => if cMay Mc c be o then 0 else wt Mc c o) 48 ≤ 24 := by
    rw [Int32.le_iff_toInt_le, sbI (by rw [adI (by omega) (by omega) (by omega)]; omega) (by rw [adI (by omega) (by omega) (by omega)]; omega) (by omega), adI (by omega) (by omega) (by omega), i24]
    omega
  have hkeep : rmK N c be Mc Mc := fun o _ _ => ⟨fun _ _ => rfl, fun _ _ => rfl, rfl, rfl⟩
  have hkeepS : rmS c be Mc Mc := fun _ _ _ => rfl
  by_cases hpos : 0 < mo.toInt
  · have hgz : ∀ k, g + 1 ≤ k → k < 48 → wt Mc c k = 0 := fun k a b => by
      have q := I.2.2.2.2.1 c hc k b
      unfold wt
      rcases q.1 with x | x
      · rw [if_pos x]
      · have := q.2.2.2.1 x; omega
    have s1 : wsum (wt Mc c) 48 = wsum (wt Mc c) (g + 1) := wsum_cut (g + 1) 48 (by omega) hgz
    have s2 : wsum (fun o => if cMay Mc c be o then 0 else wt Mc c o) 48 = wsum (fun o => if cMay Mc c be o then 0 else wt Mc c o) (g + 1) := wsum_cut (g + 1) 48 (by omega) (fun k a b => by rw [hgz k a b]; cases cMay Mc c be k <;> rfl)
    have hc0 : f_X1_makeRoom N Mc c mo be = (if mo ≤ nI (24 - wsum (fun o => if cMay Mc c be o then 0 else wt Mc c o) 48) then f_X1_makeRoom_L79 N c mo be 100 (nI (24 - wsum (wt Mc c) 48)) (0 : Int32) Mc else some ((0 : Int32), Mc)) := by
      unfold f_X1_makeRoom
      rw [if_pos (by rw [Int32.lt_iff_toInt_lt, i0]; exact hpos), jn_d, c_sum h13 hg (W := wt Mc c) (fun o ho => c_weightOf ho (hz o ho)) (by omega), ← s1, ← s2]
    have hcle : (mo ≤ nI (24 - wsum (fun o => if cMay Mc c be o then 0 else wt Mc c o) 48)) ↔ mo.toInt + wsum (fun o => if cMay Mc c be o then 0 else wt Mc c o) 48 ≤ 24 := by
      rw [Int32.le_iff_toInt_le, nI_toInt (by omega)]
      omega
    by_cases hfit : mo.toInt + wsum (fun o => if cMay Mc c be o then 0 else wt Mc c o) 48 ≤ 24
    · obtain ⟨Mc', Mr', k1, k2, k3, k4, k5, k6, k7, k8⟩ := room_loop hN hc hxb hpos h2 24 Mc Mr 100 100 0 hS24 (by omega) (by omega) (by omega) h hb hfit
      refine ⟨true, Mc', Mr', ?_, ?_, k3, k4, k5, k6, k7, (fun e => absurd e (by decide)), by rw [decide_eq_true (Or.inr hfit)], fun _ => k8⟩
      · rw [hc0, if_pos (hcle.mpr hfit)]; exact k1
      · rw [hr0, if_pos (hle.mpr hfit)]; exact k2
    · refine ⟨false, Mc, Mr, ?_, ?_, h, cf.rf _ _, cf.rf _ _, hkeep, hkeepS, fun _ => ⟨rfl, rfl⟩, by rw [decide_eq_false (by omega)], (fun e => absurd e (by decide))⟩
      · rw [hc0, if_neg (fun x => hfit (hcle.mp x))]; rfl
      · rw [hr0, if_neg (fun x => hfit (hle.mp x))]; rfl
  · refine ⟨true, Mc, Mr, ?_, ?_, h, cf.rf _ _, cf.rf _ _, hkeep, hkeepS, (fun e => absurd e (by decide)), by rw [decide_eq_true (Or.inl (by omega))], fun _ => by omega⟩
    · unfold f_X1_makeRoom
      rw [if_neg (by rw [Int32.lt_iff_toInt_lt, i0]; exact hpos)]; rfl
    · rw [hr0, if_pos (hle.mpr (by omega)), show (100 : Nat) = 99 + 1 from rfl, f_X11_makeRoom_L75, if_pos (by rw [Int32.le_iff_toInt_le, adI (by omega) (by omega) (by omega), i24]; omega)]
      rfl
end RL
