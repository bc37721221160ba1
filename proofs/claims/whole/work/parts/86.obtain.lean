/-! layer 2: an object is got, both in step -/
section OB
variable {N g B c o : Nat} {M Mc Mr : gM} {be : Int32}
theorem c_isAlone {n : Nat} (h0 : M (5, 0, 0) 0 = nI N) (hk : M (30, c, 0) 0 = nI c) (hN : N ≤ 4) (hc : c < 4) (hl : M (40, c, 0) 4 = nI n) (hn : n ≤ 12) : f_X10_isAlone N M c = some (zb (decide (0 < n) || decide (cNr N M c = 0))) := by
  unfold f_X10_isAlone
  simp only [lt_d]
  rw [hl, hk, c_nearClient h0 hN hc]
  by_cases e : 0 < n
  · rw [if_pos (show (0 : Int32) < nI n from nI_lt (a := 0) e (by omega)), decide_eq_true e]; rfl
  · rw [if_neg (show ¬ (0 : Int32) < nI n from nI_nlt (a := 0) (b := n) (by omega) (by omega)), decide_eq_false e, o1_s, Bool.false_or]
    by_cases e2 : cNr N M c = 0
    · rw [if_pos e2, decide_eq_true e2]; rfl
    · rw [if_neg e2, decide_eq_false e2]; rfl
theorem r_isAlone {n : Nat} (h0 : M m_o 0 = nI N) (hN : N ≤ 4) (hc : c < 4) (hl : M m_records c = nI n) (hn : n ≤ 12) : f_X11_isAlone M (nI c) = some (zb (decide (0 < n) || decide (rNr N M c = 0))) := by
  unfold f_X11_isAlone
  rw [r_nearSet h0 hN hc, o1_s]
  by_cases e2 : rNr N M c = 0
  · rw [if_pos e2, decide_eq_true e2, Bool.or_true]; rfl
  · rw [if_neg e2, decide_eq_false e2, Bool.or_false, rd_n hc (by omega), hl]
    by_cases e : 0 < n
    · rw [if_neg (nI_nle e (by omega)), decide_eq_true e]; rfl
    · rw [if_pos (by rw [show n = 0 by omega]; decide), decide_eq_false e]; rfl
def cGd (M : gM) (c o : Nat) (near : Int32) : Bool := nz (M (51, 4 + c, 0) o) && (nz near && decide (near &&& (M (32, c, 0) o ^^^ (-1 : Int32)) = 0))
theorem c_isGood {near : Int32} (ho : o < 48) : f_X1_isGood N M c (nI o) near = some (zb (cGd M c o near)) := by
  unfold f_X1_isGood cGd nz
  rw [rd_n ho (by omega)]
  by_cases h1 : M (51, 4 + c, 0) o = 0
  · rw [if_pos h1, decide_eq_false (fun x => x h1)]; rfl
  · rw [if_neg h1, decide_eq_true h1, Bool.true_and]
    by_cases h2 : near = 0
    · rw [if_pos h2, decide_eq_false (fun x => x h2)]; rfl
    · rw [if_neg h2, decide_eq_true h2, Bool.true_and, rd_n ho (by omega)]
      by_cases h3 : near &&& (M (32, c, 0) o ^^^ (-1 : Int32)) = 0
      · rw [if_pos h3, decide_eq_true h3]; rfl
      · rw [if_neg h3, decide_eq_false h3]; rfl
theorem r_isGood (R : Rel N g Mc Mr) (hN : N ≤ 4) (hc : c < 4) (ho : o < 48) : f_X11_isGood Mr (nI c) (nI o) = some (zb (cGd Mc c o (cNr N Mc c))) := by
  obtain ⟨f1, -, -, -, -, -, f7, -⟩ := R.kl hc ho
  unfold f_X11_isGood cGd nz
  rw [r_nearSet R.n0 hN hc, o1_s, R.nr hN hc]
  simp only [nI_m48, nI_add]
  rw [rd_n (by omega) (by omega), rd_n (by omega) (by omega), ← f1, ← f7]
  by_cases h1 : Mc (51, 4 + c, 0) o = 0
  · rw [if_pos h1, decide_eq_false (fun x => x h1)]; rfl
  · rw [if_neg h1, decide_eq_true h1, Bool.true_and]
    by_cases h2 : cNr N Mc c = 0
    · rw [if_pos h2, decide_eq_false (fun x => x h2)]; rfl
    · rw [if_neg h2, decide_eq_true h2, Bool.true_and]
      by_cases h3 : Mc (32, c, 0) o &&& cNr N Mc c = cNr N Mc c
      · rw [if_pos h3, decide_eq_true (by rw [no_z]; exact h3)]; rfl
      · rw [if_neg h3, decide_eq_false (by rw [no_z]; exact h3)]; rfl
theorem cUs_may {p : Nat} (hn : p ≠ o) : cMay (cUs M c o) c be p = cMay M c be p := by
  have fc := cUs_fr (c := c) (o := o) (M := M)
  unfold cMay
  rw [fc (51, 4 + c, 0) p (by dsimp only; omega), fc (33, c, 0) p (by dsimp only; omega), fc (30, c, 0) 10 (by dsimp only; omega), fc (34, c, 0) p (by dsimp only; omega), fc (31, c, 0) p (by dsimp only; omega)]
/-- what an obtaining leaves behind -/
def obP (N g B c o : Nat) (be : Int32) (Mc Mr : gM) (v : Int64) (Mc' Mr' : gM) : Prop := CI N g (B + 2) c 48 Mc' Mr' ∧ cf (tC c) Mc Mc' ∧ cf (tR c) Mr Mr' ∧ (v = 0 → (Mc' (51, 4 + c, 0) o = 1 → Got N g c o Mc' Mr') ∧ uTop c o Mc' ∧ (Mc' (51, 4 + c, 0) o = 1 ∨ (Mc (40, c, 0) 4 = 0 ∧ 17 < wsum (fun p => if cMay Mc c be p then 0 else if p = o then 0 else wt Mc c p) 48))) ∧ rmK' N c o be Mc Mc' ∧ rmS' c o be Mc Mc' ∧ (∀ p, p < 48 → Mc' (51, 4 + c, 0) p = 1 → p = o ∨ Mc (51, 4 + c, 0) p = 1) ∧ ∀ p, p < 48 → p ≠ o → Mc' (34, c, 0) p = Mc (34, c, 0) p
theorem got_kept (hN : N ≤ 4) (hc : c < 4) (ho : o < 48) (R : Rel N g Mc Mr) (hh : Mc (51, 4 + c, 0) o = 1) {X : gM} (hX : X = rGot g Mr (Mr m_keptValue (48 * c + o)) (fun k => Mr m_keptVector (8 * (48 * c + o) + k)) (fun x => Mr m_keptEntry (48 * c + x)) o) : Got N g c o Mc X := by
  obtain ⟨f1, f2, f3, f4, f5, -⟩ := R.kl hc ho
  have hk : ¬ Mr m_kept (48 * c + o) = 0 := by rw [← f1, hh]; decide
  subst hX
  refine ⟨fun hd => ?_, fun k hk2 => ?_, fun x hx => ?_⟩
  · rw [rGot_v, f2, if_neg (fun x => x.elim hk (fun y => y (by rw [← (R.ct.2.2 o ho).2.2]; exact hd)))]
  · rw [rGot_r (by omega), f4 k hk2, if_neg hk]
  · rw [rGot_e hx, ← (R.ct.2.2 x hx).1, (R.kl hc hx).2.2.2.2.1]
/-- both have it, and use it -/
theorem ob_own (hN : N ≤ 4) (hc : c < 4) (ho : o < 48) (hg : g ≤ 47) (hB : B ≤ 890000) (h : CI N g B c 48 Mc Mr) (hh : Mc (51, 4 + c, 0) o = 1) : ∃ Mr', (∀ {β : Type} (K : gM → Option β), o1 (f_X11_use Mr (nI c) (nI o)) (fun M36 => o1 (f_X11_takeKept M36 (nI c) (nI o)) K) = K Mr') ∧ obP N g B c o be Mc Mr 0 (cUs Mc c o) Mr' := by
  have h1 := use_both hN hc ho (by omega) h
  have fc := cUs_fr (c := c) (o := o) (M := Mc)
  have fr := rUs_fr (c := c) (o := o) (M := Mr)
  have hh' : cUs Mc c o (51, 4 + c, 0) o = 1 := by rw [fc _ _ (by dsimp only; omega)]; exact hh
  refine ⟨_, fun {β} K => by rw [r_use hc ho, o1_s, r_takeKept h1.1.ct.2.1 hg hc ho, o1_s], ci_scr hN h1 rGot_fr, fc.mo ?_, (fr.mo ?_).tr (rGot_fr.mo ?_), fun _ => ⟨fun _ => got_kept hN hc ho h1.1 hh' rfl, top_use hc (by omega) h.2.2.1 h.2.2.2.2, Or.inl hh'⟩, fun p hp hn _ => ⟨fun t ht => fc _ _ (by dsimp only; omega), fun k _ => fc _ _ (by dsimp only; omega), fc _ _ (by dsimp only; omega), fc _ _ (by dsimp only; omega)⟩, fun x hx _ => fc _ _ (by dsimp only; omega), fun p hp hq => Or.inr (by rw [fc _ _ (by dsimp only; omega)] at hq; exact hq), fun p hp hn => fc _ _ (by dsimp only; omega)⟩
  · intro j q; unfold tC; omega
  · intro j q; unfold tR; omega
  · intro j q; unfold tR; omega
theorem obtain9 (hN : N ≤ 4) (hc : c < 4) (hog : o ≤ g) (hB : B ≤ 890000) (h : CI N g B c 48 Mc Mr) : ∃ v Mc' Mr', f_X10_obtain N Mc c (nI o) be = some (v, Mc') ∧ f_X11_get Mr (nI c) (nI o) be = some (v, Mr') ∧ obP N g B c o be Mc Mr v Mc' Mr' := by
  obtain ⟨R, I, U, O, W⟩ := id h
  have hg := I.1.1
  have ho : o < 48 := by omega
  obtain ⟨n, n1, n2, n3, -, -⟩ := I.2.2.2.2.2.2.1 c hc
  have hnr : Mr m_records c = nI n := by rw [← (R.lg hc).1]; exact n2
  have hk0 : Mc (30, c, 0) 0 = nI c := R.1.2.2.1 c hc
  have h50 : Mc (5, 0, 0) 0 = nI N := R.1.2.1
  have hcA := c_isAlone h50 hk0 hN hc n2 n1
  have hrA := r_isAlone R.n0 hN hc hnr n1
  rw [R.nr hN hc] at hrA
  have hkept := (R.kl hc ho).1
  have up2 : CI N g (B + 2) c 48 Mc Mr := ⟨R, I, U.up (by omega), O, W⟩
  have h01 := (I.2.2.2.2.1 c hc o ho).1
  cases hal : (decide (0 < n) || decide (cNr N Mc c = 0)) with
  | true =>
    rw [hal, zb_t] at hcA hrA
    rcases h01 with h0 | h0
    · refine ⟨-2199023255553, Mc, Mr, ?_, ?_, up2, cf.rf _ _, cf.rf _ _, fun e => absurd e (by decide), fun p _ _ _ => ⟨fun _ _ => rfl, fun _ _ => rfl, rfl, rfl⟩, fun _ _ _ => rfl, fun p _ e => Or.inr e, fun _ _ _ => rfl⟩
      · unfold f_X10_obtain f_X1_useOwn
        simp only [lt_d, jn_d]
        rw [hk0, c_nearClient h50 hN hc, o1_s, hcA, o1_s, if_neg (by decide), rd_n ho (by omega), if_pos h0, ob_s]
      · unfold f_X11_get
        simp only [lt_d, jn_d, nI_m48, nI_add]
        rw [hrA, o1_s, if_neg (by decide), rd_n (by omega) (by omega), ← hkept, if_pos h0]
    · obtain ⟨Mr', e1, e2⟩ := ob_own (be := be) hN hc ho hg hB h h0
      refine ⟨0, cUs Mc c o, Mr', ?_, ?_, e2⟩
      · unfold f_X10_obtain f_X1_useOwn
        simp only [lt_d, jn_d]
        rw [hk0, c_nearClient h50 hN hc, o1_s, hcA, o1_s, if_neg (by decide), rd_n ho (by omega), if_neg (by rw [h0]; decide), c_use ho, o1_s, ob_s]
      · unfold f_X11_get
        simp only [lt_d, jn_d, nI_m48, nI_add]
        rw [hrA, o1_s, if_neg (by decide), rd_n (by omega) (by omega), ← hkept, if_neg (by rw [h0]; decide)]
        exact e1 (fun M44 => some ((0 : Int64), M44))
  | false =>
    rw [hal, zb_f] at hcA hrA
    have hn0 : n = 0 := by
      rw [Bool.or_eq_false_iff, decide_eq_false_iff_not] at hal
      omega
    have hlog : Mc (40, c, 0) 4 = 0 := by rw [n2, hn0]; rfl
    cases hgd : cGd Mc c o (cNr N Mc c) with
    | true =>
      have h0 : Mc (51, 4 + c, 0) o = 1 := h01.resolve_left (fun x => by
        unfold cGd nz at hgd
        rw [decide_eq_false (fun y => y x)] at hgd
        exact absurd hgd (by simp))
      obtain ⟨Mr', e1, e2⟩ := ob_own (be := be) hN hc ho hg hB h h0
      refine ⟨0, cUs Mc c o, Mr', ?_, ?_, e2⟩
      · unfold f_X10_obtain f_X1_useOwn
        simp only [lt_d, jn_d]
        rw [hk0, c_nearClient h50 hN hc, o1_s, hcA, o1_s, if_pos rfl, c_isGood ho, o1_s, hgd, zb_t, if_neg (by decide), rd_n ho (by omega), if_neg (by rw [h0]; decide), c_use ho, o1_s, ob_s]
      · unfold f_X11_get
        simp only [lt_d, jn_d, nI_m48, nI_add]
        rw [hrA, o1_s, if_pos rfl, r_isGood R hN hc ho, o1_s, hgd, zb_t, if_neg (by decide)]
        exact e1 (fun M38 => some ((0 : Int64), M38))
    | false =>
      have hrr : ∀ J : Int32 × gM → Option (Int64 × gM), f_X11_get_L80 (nI c) (nI o) be (cNr N Mc c) J 100 (0 : Int32) (0 : Int32) Mr = J (cHo N Mc (cNr N Mc c) o, Mr) := fun J => by rw [r_holders R.n0 hN ho, R.ho hN ho]
      by_cases hh0 : cHo N Mc (cNr N Mc c) o = 0
      · -- nobody near holds it
        refine ⟨-2199023255554, cDp N g Mc c o, rFg g Mr c o, ?_, ?_, ⟨rel_cdrop hN hc ho R I.1, inv_cdrop hN hc ho I (fun i _ hi => by rw [hlog] at hi; exact absurd hi (nI_pos (by omega))), (usd_cdrop U hg).up (by omega), all_cdrop O hg, now_cdrop W hg⟩, (cDp_fr).mo ?_, (rFg_fr hg).mo ?_, fun e => absurd e (by decide), fun p hp hne _ => ⟨fun t ht => by rw [cDp_h t p ht, if_neg hne], fun k hk => by rw [cDp_55 p k hk, if_neg hne], by rw [cDp_3 32 p (by omega), if_neg hne], by rw [cDp_3 33 p (by omega), if_neg hne]⟩, fun x hx hp => ?_, fun p _ e => Or.inr (held_cdrop e).1, fun p _ _ => cDp_fr _ _ (by dsimp only; omega)⟩
        · unfold f_X10_obtain
          simp only [lt_d, jn_d]
          rw [hk0, c_nearClient h50 hN hc, o1_s, hcA, o1_s, if_pos rfl, c_isGood ho, o1_s, hgd, zb_f, if_pos rfl, c_holders hN ho, o1_s, if_pos hh0, c_drop1 hN R.ct.1 hg ho, o1_s]
        · unfold f_X11_get
          simp only [lt_d, jn_d, nI_m48, nI_add]
          rw [hrA, o1_s, if_pos rfl, r_isGood R hN hc ho, o1_s, hgd, zb_f, if_pos rfl, r_nearSet R.n0 hN hc, o1_s, R.nr hN hc, hrr]
          dsimp only
          rw [if_pos hh0, r_forget R.ct.2.1 hg hc ho, o1_s]
        · intro j q; unfold tC fC; omega
        · intro j q; unfold tR fR; omega
        · rw [cDp_56, if_neg (fun y => (hp o ho y.2.2).1 rfl)]
      · have hCb : f_X10_obtain N Mc c (nI o) be = (if fst (gP N (cHo N Mc (cNr N Mc c) o) (fun t => Mc (55, t, o))) N = (-1 : Int32) then some ((-2199023255555 : Int64), Mc) else ix (fst (gP N (cHo N Mc (cNr N Mc c) o) (fun t => Mc (55, t, o))) N) N (fun v20 => o1 (f_X7_isInConflict N Mc v20 (nI o)) (fun v22 => (if v22 = 0 then o1 (f_X1_use N Mc c (nI o)) (fun M25 => ix (fst (gP N (cHo N Mc (cNr N Mc c) o) (fun t => Mc (55, t, o))) N) N (fun v26 => ix (nI o) 48 (fun v27 => o1 (f_X6_holdersOf N M25 (cNr N Mc c) (nI o) (55, v26, v27)) (fun v29 => ix (fst (gP N (cHo N Mc (cNr N Mc c) o) (fun t => Mc (55, t, o))) N) N (fun v30 => o1 (f_X1_takeIn N M25 c v30 (nI o) v29 be) (fun M32 => some ((0 : Int64), M32))))))) else some ((-2199023255556 : Int64), Mc))))) := by
          unfold f_X10_obtain
          simp only [lt_d, jn_d]
          rw [hk0, c_nearClient h50 hN hc, o1_s, hcA, o1_s, if_pos rfl, c_isGood ho, o1_s, hgd, zb_f, if_pos rfl, c_holders hN ho, o1_s, if_neg hh0, c_great hN ho, o1_s]
        have hRb : f_X11_get Mr (nI c) (nI o) be = (if fst (gP N (cHo N Mc (cNr N Mc c) o) (fun t => Mc (55, t, o))) N = (-1 : Int32) then some ((-2199023255555 : Int64), Mr) else rd Mr m_versions 192 (((48 : Int32) * fst (gP N (cHo N Mc (cNr N Mc c) o) (fun t => Mc (55, t, o))) N) + nI o) (fun v16 => (if v16 ≤ 0 then o1 (f_X11_bring Mr (nI c) (nI o) (fst (gP N (cHo N Mc (cNr N Mc c) o) (fun t => Mc (55, t, o))) N) (cHo N Mc (cNr N Mc c) o) be) (fun M19 => some ((0 : Int64), M19)) else some ((-2199023255556 : Int64), Mr)))) := by
          have hgr := r_great (v := cNr N Mc c) R hN ho
          rw [R.ho hN ho] at hgr
          unfold f_X11_get
          simp only [lt_d, jn_d]
          rw [hrA, o1_s, if_pos rfl, r_isGood R hN hc ho, o1_s, hgd, zb_f, if_pos rfl, r_nearSet R.n0 hN hc, o1_s, R.nr hN hc, hrr]
          dsimp only
          rw [if_neg hh0, hgr, o1_s]
        rcases fst_spec (p := gP N (cHo N Mc (cNr N Mc c) o) (fun t => Mc (55, t, o))) (N := N) with ⟨e1, -⟩ | ⟨s, hs, e1, e2⟩
        · refine ⟨-2199023255555, Mc, Mr, by rw [hCb, if_pos e1], by rw [hRb, if_pos e1], up2, cf.rf _ _, cf.rf _ _, fun e => absurd e (by decide), fun p _ _ _ => ⟨fun _ _ => rfl, fun _ _ => rfl, rfl, rfl⟩, fun _ _ _ => rfl, fun p _ e => Or.inr e, fun _ _ _ => rfl⟩
        · have hbs : bt (cHo N Mc (cNr N Mc c) o) s = true := by
            unfold gP at e2
            rw [Bool.and_eq_true] at e2
            exact e2.1
          have hsh : Mc (51, s, 0) o = 1 := (I.2.2.1 s hs o ho).1.resolve_left (bt_cHo hN hbs).2.2
          have hvr := (R.sv hs ho).2.2.2.2.2.2.2.1
          obtain ⟨m, m1, m2, -⟩ := (I.2.2.2.1 s hs o ho).2
          rw [e1] at hCb hRb
          rw [if_neg (by rw [nI_m1 (by omega)]; exact fun x => x), ix_n hs (by omega), c_isInConflict ho m2 m1, o1_s, m2] at hCb
          rw [if_neg (by rw [nI_m1 (by omega)]; exact fun x => x), nI_m48, nI_add, rd_n (by omega) (by omega), ← hvr, m2] at hRb
          by_cases hm0 : m = 0
          · subst hm0
            rw [show nz (nI 0) = false from rfl, zb_f, if_pos rfl, c_use ho, o1_s, ix_n hs (by omega), ix_n ho (by omega), c_holdersOf hN ho (cN55 N s o) ?_, o1_s, ix_n hs (by omega)] at hCb
            · rw [if_pos (by decide)] at hRb
              have fc := cUs_fr (c := c) (o := o) (M := Mc)
              have u1 := use_class hN hc ho (by omega) h
              have ut := top_use (o := o) hc (by omega) U W
              have e51 : ∀ t q, cUs Mc c o (51, t, 0) q = Mc (51, t, 0) q := fun t q => fc _ _ (by dsimp only; omega)
              have e55 : ∀ t q, cUs Mc c o (55, t, o) q = Mc (55, t, o) q := fun t q => fc _ _ (by dsimp only; omega)
              have e60 : ∀ t, cUs Mc c o (60, 48 * t + o, 0) 3 = Mc (60, 48 * t + o, 0) 3 := fun t => fc _ _ (by dsimp only; omega)
              have enr : cNr N (cUs Mc c o) c = cNr N Mc c := cNr.fr hN fc (by dsimp only; omega) (fun q _ => by dsimp only; omega)
              obtain ⟨Mc', Mr', k1, k2, k3, k4, k5, k6, k7, k8, k9, k10, k11⟩ := take_in (be := be) (hl := cHo N Mc (cNr N Mc c) o) (pr := sS (fun s9 => ((bt (cNr N Mc c) s9 && nz (cUs Mc c o (51, s9, 0) o)) && rEq (cUs Mc c o (55, s9, o)) (cUs Mc c o (55, s, o)) 0 (N + 4)) && !nz (cUs Mc c o (60, 48 * s9 + o, 0) 3)) N) hN hc ho hs (by omega) u1 ut (by rw [fc _ _ (by dsimp only; omega)]; exact hlog) (by rw [e51]; exact hsh) (fun t ht hb => by
                obtain ⟨-, b2, b3⟩ := bt_cHo hN hb
                rw [e51, enr]
                exact ⟨(I.2.2.1 t ht o ho).1.resolve_left b3, b2⟩) (sN_congr _ _ _ (fun t _ ht => by
                rw [show bt (cHo N Mc (cNr N Mc c) o) t = (bt (cNr N Mc c) t && nz (Mc (51, t, 0) o)) by
                  unfold cHo
                  rw [bt_sS (by omega) (by omega), decide_eq_true (show t < N by omega), Bool.true_and], e51]
                cases bt (cNr N Mc c) t <;> cases nz (Mc (51, t, 0) o) <;> cases rEq (cUs Mc c o (55, t, o)) (cUs Mc c o (55, s, o)) 0 (N + 4) <;> cases nz (cUs Mc c o (60, 48 * t + o, 0) 3) <;> rfl))
              refine ⟨0, Mc', Mr', by rw [hCb, k1, o1_s], by rw [hRb, k2, o1_s], k3, (fc.mo ?_).tr (k4.mo ?_), k5, fun _ => ⟨k6, k11, k9.imp id (fun q => ⟨hlog, ?_⟩)⟩, fun p hp hn hm => ?_, fun x hx hp => ?_, fun p hp hq => (k10 p hp hq).imp id (fun y => by rw [e51] at y; exact y), fun p hp hn => ?_⟩
              · intro j q; unfold tC; omega
              · intro j q h9; exact h9.elim Or.inl (fun y => Or.inr (Or.inl y))
              · rw [wsum_congr (f' := fun p => if cMay Mc c be p then 0 else if p = o then 0 else wt Mc c p) 48 (fun k hk => ?_)] at q
                · exact q
                · by_cases e : k = o
                  · subst e
                    rw [if_pos rfl, if_pos rfl]
                    cases cMay (cUs Mc c k) c be k <;> cases cMay Mc c be k <;> rfl
                  · rw [cUs_may e]
                    have : wt (cUs Mc c o) c k = wt Mc c k := by
                      unfold wt
                      rw [e51, fc (53, 4 + c, 0) k (by dsimp only; omega), fc (4, 0, 0) k (by dsimp only; omega)]
                    rw [this]
              · obtain ⟨p1, p2, p3, p4⟩ := k7 p hp hn (by rw [cUs_may hn]; exact hm)
                refine ⟨fun t ht => ?_, fun k hk => ?_, ?_, ?_⟩
                · rw [p1 t ht, fc _ _ (by dsimp only; omega)]
                · rw [p2 k hk, fc _ _ (by dsimp only; omega)]
                · rw [p3, fc _ _ (by dsimp only; omega)]
                · rw [p4, fc _ _ (by dsimp only; omega)]
              · rw [k8 x hx (fun p h1 h2 => by
                  rw [fc _ _ (by dsimp only; omega)] at h2
                  obtain ⟨y1, y2⟩ := hp p h1 h2
                  exact ⟨y1, by rw [cUs_may y1]; exact y2⟩), fc _ _ (by dsimp only; omega)]
              · rw [k4 _ _ (by unfold tK fC; dsimp only; omega), fc _ _ (by dsimp only; omega)]
            · intro t ht
              obtain ⟨m9, y1, y2, -⟩ := (I.2.2.2.1 t ht o ho).2
              exact ⟨m9, y1, by rw [cUs_fr _ _ (by dsimp only; omega)]; exact y2⟩
          · rw [show nz (nI m) = true by simp [nz, nI_z (show m < 2 ^ 31 by omega), hm0], zb_t, if_neg (by decide)] at hCb
            rw [if_neg (nI_nle (by omega) (by omega))] at hRb
            exact ⟨-2199023255556, Mc, Mr, hCb, hRb, up2, cf.rf _ _, cf.rf _ _, fun e => absurd e (by decide), fun p _ _ _ => ⟨fun _ _ => rfl, fun _ _ => rfl, rfl, rfl⟩, fun _ _ _ => rfl, fun p _ e => Or.inr e, fun _ _ _ => rfl⟩
end OB
