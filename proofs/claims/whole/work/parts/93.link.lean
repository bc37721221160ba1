/-! layer 2: link -/
def eS (v : Int32) (t : Nat) (a : Int32) : Int32 := if a = 0 then v ||| sB t else v &&& (sB t ^^^ (-1 : Int32))
theorem b_es {v a : Int32} {t i : Nat} (ht : t < 32) (hi : i < 32) : bt (eS v t a) i = if i = t then decide (a = 0) else bt v i := by
  unfold eS
  by_cases e : a = 0
  · rw [if_pos e, b_or, bt_sB ht hi, decide_eq_true e]
    by_cases f : i = t
    · rw [if_pos f, decide_eq_true f, Bool.or_true]
    · rw [if_neg f, decide_eq_false f, Bool.or_false]
  · rw [if_neg e, b_and, bt_no hi, bt_sB ht hi, decide_eq_false e]
    by_cases f : i = t
    · rw [if_pos f, decide_eq_true f]; simp
    · rw [if_neg f, decide_eq_false f]; simp
section LK
variable {N T g c s t : Nat} {M Mc Mr Mc' Mr' : gM} {z : lS} {a1 a2 a3 b : Int32}
theorem c_turnEnd (hs : s < N) (hN : N ≤ 4) : f_X5_turnEnd N M (nI s) (nI t) b = some (gset M (6, 0, 0) s (eS (M (6, 0, 0) s) t b)) := by
  unfold f_X5_turnEnd eS
  simp only [jn_d]
  by_cases e : b = 0
  · rw [if_pos e, if_pos e, rd_n hs (by omega), wr_n hs (by omega)]; rfl
  · rw [if_neg e, if_neg e, rd_n hs (by omega), wr_n hs (by omega)]; rfl
theorem c_turnLink (hs : s < N) (hN : N ≤ 4) (ht : t < 8) (h0 : M (5, 0, 0) 0 = nI N) : f_X5_turnLink N M (nI s) (nI t) b = some ((if zb (bt (M (6, 0, 0) s) t) = b then 1 else 0), if N ≤ t then gset M (6, 0, 0) s (eS (M (6, 0, 0) s) t b) else gset (gset M (6, 0, 0) s (eS (M (6, 0, 0) s) t b)) (6, 0, 0) t (eS (gset M (6, 0, 0) s (eS (M (6, 0, 0) s) t b) (6, 0, 0) t) s b)) := by
  unfold f_X5_turnLink
  rw [rd_n hs (by omega), c_isIn _ (by omega), o1_s, jn_d]
  have h1 : gset M (6, 0, 0) s (eS (M (6, 0, 0) s) t b) (5, 0, 0) 0 = nI N := by rw [gset_r, if_neg (by simp)]; exact h0
  by_cases e : zb (bt (M (6, 0, 0) s) t) = b
  · rw [if_pos e, if_pos e]
    dsimp only
    rw [c_turnEnd hs hN, o1_s, lt_d, h1]
    by_cases f : N ≤ t
    · rw [if_pos (nI_le f (by omega)), if_pos f]; rfl
    · rw [if_neg (nI_ge (by omega) (by omega)), if_neg f, c_turnEnd (by omega) hN, o1_s]; rfl
  · rw [if_neg e, if_neg e]
    dsimp only
    rw [c_turnEnd hs hN, o1_s, lt_d, h1]
    by_cases f : N ≤ t
    · rw [if_pos (nI_le f (by omega)), if_pos f]; rfl
    · rw [if_neg (nI_ge (by omega) (by omega)), if_neg f, c_turnEnd (by omega) hN, o1_s]; rfl
theorem ch_eq {x y b : Int32} {f : Bool} (hb : b = 0 ∨ b = 1) (hy : y = zb (!f)) : (if zb f = b then (1 : Int32) else 0) = (if y = b then 0 else 1) := by
  subst hy
  rcases hb with rfl | rfl <;> cases f <;> rfl
theorem b8 {b : Int32} (hb : b = 0 ∨ b = 1) : decide (b = 0) = !nz b := by rcases hb with rfl | rfl <;> rfl
/-- the link of server s with client c -/
theorem link_client (hN : 1 ≤ N ∧ N ≤ 4) (hs : s < N) (hc : c < 4) (hb : b = 0 ∨ b = 1) (h : St N T Mc Mr) : ∃ v Mc' Mr', f_X10_link N Mc (nI s) (nI (4 + c)) b = some (0, v, Mc') ∧ f_X11_link Mr (nI s) (nI (4 + c)) b = some (v, Mr') ∧ Mr' m_o 66 = nI 0 ∧ St N (T + 1) Mc' Mr' := by
  obtain ⟨g, R, I, U, O⟩ := id h
  obtain ⟨n1, n2, n3⟩ := R.2.2.1
  have hwas : Mr m_reaches (4 * c + s) = zb (!bt (Mc (6, 0, 0) s) (4 + c)) := by
    rw [(n2 s hs).2.2 c hc, Bool.not_not]
    rcases (n3 s hs).2.2 c hc with x | x <;> rw [x] <;> rfl
  have h44 : nI (4 + c) - (4 : Int32) = nI c := (pk_sub (show 4 ≤ 4 + c by omega)).trans (by rw [show 4 + c - 4 = c by omega])
  generalize hR1 : gset (gset Mr m_o 66 0) m_reaches (4 * c + s) b = R1
  have r0 : R1 m_o 0 = nI N := by rw [← hR1, gset_r, if_neg (by simp), gset_r, if_neg (by simp)]; exact R.n0
  have r1 : f_X11_link Mr (nI s) (nI (4 + c)) b = some ((if zb (bt (Mc (6, 0, 0) s) (4 + c)) = b then 1 else 0), rEf N R1) := by
    rw [ch_eq (x := 0) hb hwas]
    unfold f_X11_link
    simp only [r_isServer_ok R.n0 hN.2 hs, o1_s, jn_d, one_0, if_false, lt_d, in_ok (M := Mr) (n := 8) (hi := 7) (show 4 + c < 8 by omega) (by omega) rfl, if_pos (lf_4 (show 4 ≤ 4 + c ∧ 4 + c < 1000000 by omega)), g66, le_00, if_true, h44, nI_m4, nI_add]
    rw [rd_n (by omega) (by omega), wz_n (by omega) (by omega) hb, g66n (by decide), hR1, r_endFar r0 hN.2, o1_s]
    split <;> rfl
  generalize hM1 : gset Mc (6, 0, 0) s (eS (Mc (6, 0, 0) s) (4 + c) b) = M1
  have f1 : cf (fun j q => j.1 = 6) Mc M1 := by rw [← hM1]; exact cf.st rfl
  have hc1 : f_X5_turnLink N Mc (nI s) (nI (4 + c)) b = some ((if zb (bt (Mc (6, 0, 0) s) (4 + c)) = b then 1 else 0), M1) := by
    rw [c_turnLink hs hN.2 (by omega) R.1.2.1, if_pos (show N ≤ 4 + c by omega), hM1]
  generalize hM2 : (if b = 0 then gpu M1 (32, c, 0) 0 48 (fun o => M1 (32, c, 0) o &&& (sB s ^^^ (-1 : Int32))) else M1) = M2
  have c1 : f_X10_link N Mc (nI s) (nI (4 + c)) b = some (0, (if zb (bt (Mc (6, 0, 0) s) (4 + c)) = b then 1 else 0), M2) := by
    unfold f_X10_link
    rw [c_checkServer_ok R.c0 hN.2 hs, o1_s, if_pos rfl]
    simp only [jn_d]
    rw [if_neg (show ¬ nI (4 + c) < (4 : Int32) from nI_nlt (a := 4 + c) (b := 4) (by omega) (by omega)), if_neg (ge_8 (by omega)), if_neg (by decide), if_neg (by rw [neq (by omega) (by omega)]; omega), hc1, ob_s, if_neg (by decide)]
    by_cases e : b = 0
    · rw [if_pos e, h44, ix_n hc (by omega), c_forgetPromisesOf, o1_s, ← hM2, if_pos e]
      split <;> rfl
    · rw [if_neg e, ← hM2, if_neg e]
      split <;> rfl
  refine ⟨_, _, _, c1, r1, ?_, ?_⟩
  · rw [rEf.cf _ _ (by dsimp only; omega), ← hR1, gset_r, if_neg (by simp), g66]; rfl
  have f2 : cf (fun j q => (j.1 = 5 ∧ q = 2) ∨ j.1 = 6 ∨ j.1 = 32) Mc M2 := by
    rw [← hM2]
    by_cases e : b = 0
    · rw [if_pos e]; exact (f1.mo (fun j q => by omega)).tr (cf.pu (fun q _ _ => by dsimp only; omega))
    · rw [if_neg e]; exact f1.mo (fun j q => by omega)
  have e6 : ∀ u, M2 (6, 0, 0) u = if u = s then eS (Mc (6, 0, 0) s) (4 + c) b else Mc (6, 0, 0) u := fun u => by
    have : M2 (6, 0, 0) u = M1 (6, 0, 0) u := by
      rw [← hM2]
      by_cases e : b = 0
      · rw [if_pos e, gpu_ne (by simp)]
      · rw [if_neg e]
    rw [this, ← hM1, gset_r]
    by_cases e : u = s
    · rw [if_pos ⟨rfl, e⟩, if_pos e]
    · rw [if_neg (fun x => e x.2), if_neg e]
  have e5 : M2 (5, 0, 0) 2 = Mc (5, 0, 0) 2 := by
    rw [← hM2]
    by_cases e : b = 0
    · rw [if_pos e, gpu_ne (by simp), f1 _ _ (by dsimp only; omega)]
    · rw [if_neg e, f1 _ _ (by dsimp only; omega)]
  have e32 : ∀ d, ∀ o, o < 48 → M2 (32, d, 0) o = if d = c ∧ b = 0 then Mc (32, d, 0) o &&& (sB s ^^^ (-1 : Int32)) else Mc (32, d, 0) o := fun d o ho => by
    rw [← hM2]
    by_cases e : b = 0
    · rw [if_pos e, gpu_r]
      by_cases f : d = c
      · subst f
        rw [if_pos ⟨rfl, by omega, by omega⟩, if_pos ⟨rfl, e⟩, Nat.sub_zero, f1 _ _ (by dsimp only; omega)]
      · rw [if_neg (fun x => f (congrArg (fun j : gI => j.2.1) x.1)), if_neg (fun x => f x.1), f1 _ _ (by dsimp only; omega)]
    · rw [if_neg e, if_neg (fun x => e x.2), f1 _ _ (by dsimp only; omega)]
  have hrf : cf (fun j q => j.1 = 3 ∨ j.1 = 4 ∨ j.1 = 5 ∨ j.1 = 26 ∨ (j.1 = 0 ∧ q = 66)) Mr (rEf N R1) := by
    rw [← hR1]
    exact ((cf.st (A := fun j q => j.1 = 3 ∨ j.1 = 4 ∨ j.1 = 5 ∨ j.1 = 26 ∨ (j.1 = 0 ∧ q = 66)) (by dsimp only; omega)).tr (cf.st (by dsimp only; omega))).tr (rEf.cf.mo (fun j q => by omega))
  have er5 : ∀ q, rEf N R1 m_reaches q = if q = 4 * c + s then b else Mr m_reaches q := fun q => by
    rw [rEf.cf _ _ (by dsimp only; omega), ← hR1, gset_r]
    by_cases e : q = 4 * c + s
    · rw [if_pos ⟨rfl, e⟩, if_pos e]
    · rw [if_neg (fun x => e x.2), if_neg e, g66n (by decide)]
  have er34 : ∀ t q, t = 3 ∨ t = 4 → rEf N R1 (t, 0, 0) q = Mr (t, 0, 0) q := fun t q ht => by
    rw [rEf.cf _ _ (by dsimp only; omega), ← hR1, gset_r, if_neg (fun x => by have := congrArg Prod.fst x.1; dsimp only at this; omega), g66n (by omega)]
  have b6 : ∀ u i, i < 8 → bt (M2 (6, 0, 0) u) i = if u = s ∧ i = 4 + c then decide (b = 0) else bt (Mc (6, 0, 0) u) i := fun u i hi => by
    rw [e6]
    by_cases e : u = s
    · rw [if_pos e, b_es (by omega) (by omega), e]
      by_cases f : i = 4 + c
      · rw [if_pos f, if_pos ⟨rfl, f⟩]
      · rw [if_neg f, if_neg (fun x => f x.2)]
    · rw [if_neg e, if_neg (fun x => e x.1)]
  have hnet : rNet N M2 (rEf N R1) := by
    refine ⟨?_, fun u hu => ?_, fun u hu => ?_⟩
    · rw [e5, n1]
      exact sN_congr _ _ _ (fun t _ _ => by rw [er34 3 _ (by omega)])
    · obtain ⟨d1, d2, d3⟩ := n2 u hu
      refine ⟨fun t ht hn => ?_, ?_, fun d hd => ?_⟩
      · rw [b6 _ _ (by omega), if_neg (by omega), er34 4 _ (by omega)]; exact d1 t ht hn
      · rw [b6 _ _ (by omega), if_neg (by omega)]; exact d2
      · rw [b6 _ _ (by omega), er5]
        by_cases e : u = s ∧ 4 + d = 4 + c
        · rw [if_pos e, if_pos (by omega), b8 hb]
        · rw [if_neg e, if_neg (by omega)]; exact d3 d hd
    · obtain ⟨d1, d2, d3⟩ := n3 u hu
      refine ⟨by rw [er34 3 _ (by omega)]; exact d1, fun t ht => by rw [er34 4 _ (by omega)]; exact d2 t ht, fun d hd => ?_⟩
      rw [er5]
      by_cases e : 4 * d + u = 4 * c + s
      · rw [if_pos e]; exact hb
      · rw [if_neg e]; exact d3 d hd
  refine net_st hN.2 h f2 hrf hnet (fun d hd o ho => ?_)
  have hpz := (R.kl hd ho).2.2.2.2.2.2.1
  have hnear := (I.2.2.2.2.1 d hd o ho).2.2.2.2.2.2.1
  have hnr9 : rNr N R1 d = cNr N M2 d := by
    rw [← net_nr hN.2 hd hnet]
    exact (rNr.fr hN.2 hd rEf.cf (fun q _ => by dsimp only; omega) (fun q _ => by dsimp only; omega)).symm
  have hrp : rEf N R1 m_promised (48 * d + o) = Mc (32, d, 0) o &&& cNr N M2 d := by
    rw [r_ef_p hd ho, hnr9, ← hR1, gset_r, if_neg (by simp), g66n (by decide), ← hpz]
  have hcn : cNr N M2 d = sS (fun t => bt (Mc (5, 0, 0) 2) t && !(if t = s ∧ d = c then decide (b = 0) else bt (Mc (6, 0, 0) t) (4 + d))) N := by
    unfold cNr
    refine sN_congr _ _ _ (fun t _ ht => ?_)
    rw [e5, b6 _ _ (by omega)]
    by_cases e : t = s ∧ d = c
    · rw [if_pos e, if_pos (by omega)]
    · rw [if_neg e, if_neg (by omega)]
  rw [e32 d o ho, hrp]
  by_cases e : d = c ∧ b = 0
  · obtain ⟨rfl, rfl⟩ := e
    have hx : cNr N M2 d = cNr N Mc d &&& (sB s ^^^ (-1 : Int32)) := by
      rw [hcn]
      unfold cNr
      rw [sS_out (by omega) (by omega)]
      refine sN_congr _ _ _ (fun t _ _ => ?_)
      by_cases e : t = s
      · rw [if_pos ⟨e, rfl⟩, decide_eq_true e]; simp
      · rw [if_neg (fun x => e x.1), decide_eq_false e]; simp
    rw [if_pos ⟨rfl, rfl⟩, hx]
    exact ⟨(and_r hnear).symm, and_rr hnear, fun y => by rw [y, Int32.zero_and]⟩
  · have hx : cNr N Mc d &&& cNr N M2 d = cNr N Mc d := by
      rw [hcn]
      unfold cNr
      refine sS_le (by omega) (fun t _ hf => ?_)
      rw [Bool.and_eq_true] at hf ⊢
      refine ⟨hf.1, ?_⟩
      by_cases e2 : t = s ∧ d = c
      · rw [if_pos e2, decide_eq_false (fun x => e ⟨e2.2, x⟩)]; rfl
      · rw [if_neg e2]; exact hf.2
    have hy := and_le hnear hx
    rw [if_neg e]
    exact ⟨hy.symm, hy, fun y => y⟩
/-- the link of server s with server t -/
theorem link_server (hN : 1 ≤ N ∧ N ≤ 4) (hs : s < N) (ht : t < N) (hst : t ≠ s) (hb : b = 0 ∨ b = 1) (h : St N T Mc Mr) : ∃ v Mc' Mr', f_X10_link N Mc (nI s) (nI t) b = some (0, v, Mc') ∧ f_X11_link Mr (nI s) (nI t) b = some (v, Mr') ∧ Mr' m_o 66 = nI 0 ∧ St N (T + 1) Mc' Mr' := by
  obtain ⟨g, R, I, U, O⟩ := id h
  obtain ⟨n1, n2, n3⟩ := R.2.2.1
  have hwas : Mr m_linked (4 * s + t) = zb (!bt (Mc (6, 0, 0) s) t) := by
    rw [(n2 s hs).1 t ht hst, Bool.not_not]
    rcases (n3 s hs).2.1 t ht with x | x <;> rw [x] <;> rfl
  generalize hR1 : gset (gset (gset Mr m_o 66 0) m_linked (4 * s + t) b) m_linked (4 * t + s) b = R1
  have r0 : R1 m_o 0 = nI N := by rw [← hR1, gset_r, if_neg (by simp), gset_r, if_neg (by simp), gset_r, if_neg (by simp)]; exact R.n0
  have r1 : f_X11_link Mr (nI s) (nI t) b = some ((if zb (bt (Mc (6, 0, 0) s) t) = b then 1 else 0), rEf N R1) := by
    rw [ch_eq (x := 0) hb hwas]
    unfold f_X11_link
    simp only [r_isServer_ok R.n0 hN.2 hs, r_isServer_ok R.n0 hN.2 ht, o1_s, jn_d, one_0, if_false, lt_d, in_ok (M := Mr) (n := 8) (hi := 7) (show t < 8 by omega) (by omega) rfl, if_neg (ge_4 (show t < 4 by omega)), g66, le_00, if_true, if_neg (show ¬ nI t = nI s by rw [neq (by omega) (by omega)]; omega), nI_m4, nI_add]
    rw [rd_n (by omega) (by omega), wz_n (by omega) (by omega) hb, wz_n (by omega) (by omega) hb, g66n (by decide), hR1, r_endFar r0 hN.2, o1_s]
    split <;> rfl
  generalize hM2 : gset (gset Mc (6, 0, 0) s (eS (Mc (6, 0, 0) s) t b)) (6, 0, 0) t (eS (gset Mc (6, 0, 0) s (eS (Mc (6, 0, 0) s) t b) (6, 0, 0) t) s b) = M2
  have f2 : cf (fun j q => (j.1 = 5 ∧ q = 2) ∨ j.1 = 6 ∨ j.1 = 32) Mc M2 := by
    rw [← hM2]
    exact (cf.st (by dsimp only; omega)).tr (cf.st (by dsimp only; omega))
  have c1 : f_X10_link N Mc (nI s) (nI t) b = some (0, (if zb (bt (Mc (6, 0, 0) s) t) = b then 1 else 0), M2) := by
    unfold f_X10_link
    rw [c_checkServer_ok R.c0 hN.2 hs, o1_s, if_pos rfl]
    simp only [jn_d, if_true]
    rw [if_pos (lt_4 (by omega)), c_checkServer_ok R.c0 hN.2 ht, o1_s, if_pos rfl, if_neg (by rw [neq (by omega) (by omega)]; omega), c_turnLink hs hN.2 (by omega) R.1.2.1, if_neg (show ¬ N ≤ t by omega), hM2, ob_s]
    split <;> rfl
  refine ⟨_, _, _, c1, r1, ?_, ?_⟩
  · rw [rEf.cf _ _ (by dsimp only; omega), ← hR1, gset_r, if_neg (by simp), gset_r, if_neg (by simp), g66]; rfl
  have b6 : ∀ u i, i < 8 → bt (M2 (6, 0, 0) u) i = if (u = s ∧ i = t) ∨ (u = t ∧ i = s) then decide (b = 0) else bt (Mc (6, 0, 0) u) i := fun u i hi => by
    rw [← hM2, gset_r, gset_r, gset_r]
    by_cases e1 : u = t
    · rw [if_pos ⟨rfl, e1⟩, b_es (by omega) (by omega), e1, if_neg (show ¬ (((6, 0, 0) : gI) = (6, 0, 0) ∧ t = s) from fun x => hst x.2)]
      by_cases f : i = s
      · rw [if_pos f, if_pos (Or.inr ⟨rfl, f⟩)]
      · rw [if_neg f, if_neg (fun x => x.elim (fun y => hst y.1) (fun y => f y.2))]
    · rw [if_neg (fun x => e1 x.2)]
      by_cases e2 : u = s
      · rw [if_pos ⟨rfl, e2⟩, b_es (by omega) (by omega), e2]
        by_cases f : i = t
        · rw [if_pos f, if_pos (Or.inl ⟨rfl, f⟩)]
        · rw [if_neg f, if_neg (fun x => x.elim (fun y => f y.2) (fun y => hst y.1.symm))]
      · rw [if_neg (fun x => e2 x.2), if_neg (fun x => x.elim (fun y => e2 y.1) (fun y => e1 y.1))]
  have e5 : M2 (5, 0, 0) 2 = Mc (5, 0, 0) 2 := by rw [← hM2, gset_r, if_neg (by simp), gset_r, if_neg (by simp)]
  have e32 : ∀ d o, M2 (32, d, 0) o = Mc (32, d, 0) o := fun d o => by rw [← hM2, gset_r, if_neg (by simp), gset_r, if_neg (by simp)]
  have hrf : cf (fun j q => j.1 = 3 ∨ j.1 = 4 ∨ j.1 = 5 ∨ j.1 = 26 ∨ (j.1 = 0 ∧ q = 66)) Mr (rEf N R1) := by
    rw [← hR1]
    exact (((cf.st (A := fun j q => j.1 = 3 ∨ j.1 = 4 ∨ j.1 = 5 ∨ j.1 = 26 ∨ (j.1 = 0 ∧ q = 66)) (by dsimp only; omega)).tr (cf.st (by dsimp only; omega))).tr (cf.st (by dsimp only; omega))).tr (rEf.cf.mo (fun j q => by omega))
  have er4 : ∀ q, rEf N R1 m_linked q = if q = 4 * t + s then b else if q = 4 * s + t then b else Mr m_linked q := fun q => by
    rw [rEf.cf _ _ (by dsimp only; omega), ← hR1, gset_r]
    by_cases e : q = 4 * t + s
    · rw [if_pos ⟨rfl, e⟩, if_pos e]
    · rw [if_neg (fun x => e x.2), if_neg e, gset_r]
      by_cases e2 : q = 4 * s + t
      · rw [if_pos ⟨rfl, e2⟩, if_pos e2]
      · rw [if_neg (fun x => e2 x.2), if_neg e2, g66n (by decide)]
  have er35 : ∀ t q, t = 3 ∨ t = 5 → rEf N R1 (t, 0, 0) q = Mr (t, 0, 0) q := fun t q ht => by
    rw [rEf.cf _ _ (by dsimp only; omega), ← hR1, gset_r, if_neg (fun x => by have := congrArg Prod.fst x.1; dsimp only at this; omega), gset_r, if_neg (fun x => by have := congrArg Prod.fst x.1; dsimp only at this; omega), g66n (by omega)]
  have hnet : rNet N M2 (rEf N R1) := by
    refine ⟨?_, fun u hu => ?_, fun u hu => ?_⟩
    · rw [e5, n1]
      exact sN_congr _ _ _ (fun t _ _ => by rw [er35 3 _ (by omega)])
    · obtain ⟨d1, d2, d3⟩ := n2 u hu
      refine ⟨fun w hw hn => ?_, ?_, fun d hd => ?_⟩
      · rw [b6 _ _ (by omega), er4]
        by_cases e : (u = s ∧ w = t) ∨ (u = t ∧ w = s)
        · rw [if_pos e, b8 hb]
          rcases e with ⟨rfl, rfl⟩ | ⟨rfl, rfl⟩
          · rw [if_neg (by omega), if_pos rfl]
          · rw [if_pos rfl]
        · rw [if_neg e, if_neg (by omega), if_neg (by omega)]; exact d1 w hw hn
      · rw [b6 _ _ (by omega), if_neg (by omega)]; exact d2
      · rw [b6 _ _ (by omega), if_neg (by omega), er35 5 _ (by omega)]; exact d3 d hd
    · obtain ⟨d1, d2, d3⟩ := n3 u hu
      refine ⟨by rw [er35 3 _ (by omega)]; exact d1, fun w hw => ?_, fun d hd => by rw [er35 5 _ (by omega)]; exact d3 d hd⟩
      rw [er4]
      by_cases e : 4 * u + w = 4 * t + s
      · rw [if_pos e]; exact hb
      · rw [if_neg e]
        by_cases e2 : 4 * u + w = 4 * s + t
        · rw [if_pos e2]; exact hb
        · rw [if_neg e2]; exact d2 w hw
  refine net_st hN.2 h f2 hrf hnet (fun d hd o ho => ?_)
  have hpz := (R.kl hd ho).2.2.2.2.2.2.1
  have hnear := (I.2.2.2.2.1 d hd o ho).2.2.2.2.2.2.1
  have hnr9 : rNr N R1 d = cNr N M2 d := by
    rw [← net_nr hN.2 hd hnet]
    exact (rNr.fr hN.2 hd rEf.cf (fun q _ => by dsimp only; omega) (fun q _ => by dsimp only; omega)).symm
  have hrp : rEf N R1 m_promised (48 * d + o) = Mc (32, d, 0) o &&& cNr N M2 d := by
    rw [r_ef_p hd ho, hnr9, ← hR1, gset_r, if_neg (by simp), gset_r, if_neg (by simp), g66n (by decide), ← hpz]
  have hx : cNr N M2 d = cNr N Mc d := by
    unfold cNr
    refine sN_congr _ _ _ (fun w _ hw => ?_)
    rw [e5, b6 _ _ (by omega), if_neg (by omega)]
  rw [e32 d o, hrp, hx]
  exact ⟨hnear.symm, hnear, fun y => y⟩
theorem st_link (hN : 1 ≤ N ∧ N ≤ 4) (h : St N T z.1 z.2.1) : ∃ z1, s_link N z a1 a2 a3 = some z1 ∧ St N (T + 1) z1.1 z1.2.1 := by
  obtain ⟨g, R, I, U, O⟩ := id h
  have hb01 : (if a3 = 0 then (0 : Int32) else 1) = 0 ∨ (if a3 = 0 then (0 : Int32) else 1) = 1 := by split <;> simp
  -- a call that throws
  have thr : f_X10_link N z.1 a1 a2 (if a3 = 0 then (0 : Int32) else 1) = some (1, 0, z.1) → f_X11_link z.2.1 a1 a2 (if a3 = 0 then (0 : Int32) else 1) = some (0, gset z.2.1 m_o 66 1) → ∃ z1, s_link N z a1 a2 a3 = some z1 ∧ St N (T + 1) z1.1 z1.2.1 := fun c1 r1 => q_link c1 r1 (g66 _ _) (by omega) (fun h => absurd h (by decide)) (h.thr hN.2 1)
  rcases rng a1 N (by omega) with ⟨s, hs, rfl⟩ | bad
  · rcases rng a2 8 (by omega) with ⟨t, ht, rfl⟩ | bad2
    · by_cases e4 : 4 ≤ t
      · obtain ⟨c, rfl⟩ : ∃ c, t = 4 + c := ⟨t - 4, by omega⟩
        obtain ⟨v, Mc', Mr', c1, r1, r2, S⟩ := link_client hN hs (show c < 4 by omega) hb01 h
        exact q_link c1 r1 r2 (by omega) (fun _ => rfl) S
      · by_cases eN : t < N
        · by_cases es : t = s
          · subst es
            refine thr ?_ ?_
            · unfold f_X10_link
              rw [c_checkServer_ok R.c0 hN.2 hs, o1_s, if_pos rfl]
              simp only [jn_d, if_true]
              rw [if_pos (lt_4 (by omega)), c_checkServer_ok R.c0 hN.2 hs, o1_s, if_pos rfl]
            · unfold f_X11_link
              simp only [r_isServer_ok R.n0 hN.2 hs, o1_s, jn_d, one_0, if_false, lt_d, in_ok (M := z.2.1) (n := 8) (hi := 7) (show t < 8 by omega) (by omega) rfl, if_neg (ge_4 (show t < 4 by omega)), g66, le_10, if_true]
          · obtain ⟨v, Mc', Mr', c1, r1, r2, S⟩ := link_server hN hs eN es hb01 h
            exact q_link c1 r1 r2 (by omega) (fun _ => rfl) S
        · have bd : nI t < 0 ∨ nI N ≤ nI t := Or.inr (nI_le (by omega) (by omega))
          refine thr ?_ ?_
          · unfold f_X10_link
            rw [c_checkServer_ok R.c0 hN.2 hs, o1_s, if_pos rfl]
            simp only [jn_d, if_true]
            rw [if_pos (lt_4 (by omega)), c_checkServer_bad R.c0 bd, o1_s, if_neg (by decide)]
          · unfold f_X11_link
            simp only [r_isServer_ok R.n0 hN.2 hs, r_isServer_bad R.n0 hN.1 hN.2 bd, o1_s, jn_d, one_0, if_false, lt_d, in_ok (M := z.2.1) (n := 8) (hi := 7) (show t < 8 by omega) (by omega) rfl, if_neg (ge_4 (show t < 4 by omega)), g66, le_10, if_true]
    · have bd : a2 < 0 ∨ nI N ≤ a2 := bad2.imp id (fun x => Int32.le_trans (nI_le (by omega) (by omega)) x)
      refine thr ?_ ?_
      · unfold f_X10_link
        rw [c_checkServer_ok R.c0 hN.2 hs, o1_s, if_pos rfl]
        simp only [jn_d, if_true]
        by_cases e4 : a2 < 4
        · rw [if_pos e4, c_checkServer_bad R.c0 bd, o1_s, if_neg (by decide)]
        · have h8 : (8 : Int32) ≤ a2 := bad2.resolve_left (fun x => e4 (Int32.lt_trans x (by decide)))
          rw [if_neg e4, if_pos h8, c_checkServer_bad R.c0 bd, o1_s, if_neg (by decide)]
      · unfold f_X11_link
        simp only [r_isServer_ok R.n0 hN.2 hs, in_bad (M := z.2.1) (n := 8) (hi := 7) bad2 (by omega) (by omega) rfl, o1_s, jn_d, one_0, if_false, lt_d, g66, le_10, if_true]
  · refine thr ?_ ?_
    · unfold f_X10_link
      rw [c_checkServer_bad R.c0 bad, o1_s, if_neg (by decide)]
    · unfold f_X11_link
      simp only [r_isServer_bad R.n0 hN.1 hN.2 bad, o1_s, jn_d, if_true, lt_d, g66, le_10, if_false]
end LK
