/-! layer 2: the net changes: server -/
theorem and_r {p a x : Int32} (h : p &&& a = p) : p &&& (a &&& x) = p &&& x := by rw [← Int32.and_assoc, h]
theorem and_rr {p a x : Int32} (h : p &&& a = p) : (p &&& x) &&& (a &&& x) = p &&& x := b_ext fun i hi => by
  have e := congrArg (fun v => bt v i) h
  simp only [b_and] at e ⊢
  cases h1 : bt p i <;> cases h2 : bt a i <;> cases h3 : bt x i <;> simp_all
theorem sS_in {f : Nat → Bool} {N s : Nat} (hN : N ≤ 32) (hs : s < N) : sS f N ||| sB s = sS (fun j => f j || decide (j = s)) N := b_ext fun i hi => by
  rw [b_or, bt_sS hN hi, bt_sS hN hi, bt_sB (by omega) hi]
  by_cases e : i < N
  · rw [decide_eq_true e, Bool.true_and, Bool.true_and]
  · rw [decide_eq_false e, decide_eq_false (show ¬ i = s by omega)]; rfl
theorem sS_le {f f' : Nat → Bool} {N : Nat} (hN : N ≤ 32) (h : ∀ j, j < N → f j = true → f' j = true) : sS f N &&& sS f' N = sS f N := by
  rw [sS_and hN]
  refine sN_congr _ _ _ (fun j _ hj => ?_)
  cases hf : f j
  · rfl
  · rw [h j (by omega) hf]; rfl
section NT
variable {N T g c s : Nat} {Mc Mr Mc' Mr' : gM} {z : lS} {a1 a2 a3 : Int32}
theorem net_st (hN : N ≤ 4) (h : St N T Mc Mr) (hc : cf (fun j q => (j.1 = 5 ∧ q = 2) ∨ j.1 = 6 ∨ j.1 = 32) Mc Mc') (hr : cf (fun j q => j.1 = 3 ∨ j.1 = 4 ∨ j.1 = 5 ∨ j.1 = 26 ∨ (j.1 = 0 ∧ q = 66)) Mr Mr') (n : rNet N Mc' Mr') (hp : ∀ c, c < 4 → ∀ o, o < 48 → Mc' (32, c, 0) o = Mr' m_promised (48 * c + o) ∧ Mc' (32, c, 0) o &&& cNr N Mc' c = Mc' (32, c, 0) o ∧ (Mc (32, c, 0) o = 0 → Mc' (32, c, 0) o = 0)) : St N (T + 1) Mc' Mr' := by
  obtain ⟨g, ⟨co, cat, net, lo, sv, kl, lg, tl⟩, ⟨ca, il, isv, ivr, ikl, iw, ilg, imk⟩, U, O⟩ := h
  refine ⟨g, ⟨co.fr hc hr ?_ ?_, cat.fr hc hr ?_ ?_, n, lo.fr hc hr ?_ ?_, fun s hs o ho => (sv s hs o ho).fr hN hc hr ?_ ?_, fun c h o ho => ?_, fun c h => (lg c h).fr hN hc hr ?_ ?_, tl.fr hc hr ?_ ?_⟩, ⟨ca.fr hc ?_, fun s hs => ?_, fun s hs o ho => (isv s hs o ho).fr ho hc ?_, fun s hs o ho => (ivr s hs o ho).fr hc ?_, fun c h o ho => ?_, fun c h => (iw c h).fr hc ?_, fun c h => (ilg c h).fr ca.1 hc ?_, imk.fr hc ?_⟩, (U.fr hc hr ?_ ?_ ?_ ?_ ?_ ?_).up (by omega), O.fr hc hr ?_ ?_ ?_⟩
  · intro j q; unfold kCo; omega
  · intro j q; unfold lCo; omega
  · intro j q; unfold kCat; omega
  · intro j q; unfold lCat; omega
  · intro s; dsimp only; omega
  · intro s; dsimp only; omega
  · intro j q; unfold kSv; omega
  · intro j q; unfold lSv; omega
  · obtain ⟨f1, f2, f3, f4, f5, f6, f7, f8⟩ := kl c h o ho
    have er : ∀ t q, t = 22 ∨ t = 23 ∨ t = 24 ∨ t = 25 ∨ t = 27 ∨ t = 10 ∨ t = 30 ∨ t = 32 → Mr' (t, 0, 0) q = Mr (t, 0, 0) q := fun t q ht => hr _ _ (by dsimp only; omega)
    have ec : ∀ t a b q, t = 51 ∨ t = 52 ∨ t = 53 ∨ t = 55 ∨ t = 56 ∨ t = 31 ∨ t = 33 → Mc' (t, a, b) q = Mc (t, a, b) q := fun t a b q ht => hc _ _ (by dsimp only; omega)
    unfold rKl
    rw [ec 51 _ _ _ (by omega), ec 52 _ _ _ (by omega), ec 53 _ _ _ (by omega), ec 56 _ _ _ (by omega), ec 31 _ _ _ (by omega), ec 33 _ _ _ (by omega), er 22 _ (by omega), er 10 _ (by omega), er 23 _ (by omega), er 24 _ (by omega), er 30 _ (by omega), er 32 _ (by omega), er 27 _ (by omega)]
    refine ⟨f1, f2, f3, fun k hk => ?_, f5, f6, (hp c h o ho).1, f8⟩
    rw [ec 55 _ _ _ (by omega), er 25 _ (by omega)]
    exact f4 k hk
  · intro j q; unfold kLg; omega
  · intro j q; unfold lLg; omega
  · intro j q; unfold kTl; omega
  · intro j q; unfold lTl; omega
  · intro j q; unfold eCat; omega
  · rw [hc _ _ (by dsimp only; omega)]; exact il s hs
  · intro j q; unfold eSv; omega
  · intro j q; unfold eVr; omega
  · obtain ⟨f1, f2, f3, f4, f5, f6, f7, f8, f9⟩ := ikl c h o ho
    have ec : ∀ t a b q, t = 51 ∨ t = 53 ∨ t = 56 ∨ t = 31 ∨ t = 33 → Mc' (t, a, b) q = Mc (t, a, b) q := fun t a b q ht => hc _ _ (by dsimp only; omega)
    unfold iKl
    rw [ec 51 _ _ _ (by omega), ec 53 _ _ _ (by omega), ec 56 _ _ _ (by omega), ec 31 _ _ _ (by omega), ec 33 _ _ _ (by omega)]
    obtain ⟨-, p2, p3⟩ := hp c h o ho
    exact ⟨f1, f2, f3, f4, f5, fun x => ⟨p3 (f6 x).1, (f6 x).2⟩, p2, f8, f9⟩
  · intro j q; unfold eWt; omega
  · intro j q; unfold eLg; omega
  · intro t c q h1 h2; dsimp only; omega
  · intro c q; dsimp only; omega
  · intro c; dsimp only; omega
  · intro q; dsimp only; omega
  · intro q; dsimp only; omega
  · dsimp only; omega
  · dsimp only; omega
  · intro c q; dsimp only; omega
  · intro c q; dsimp only; omega
  · intro q; dsimp only; omega
theorem net_nr (hN : N ≤ 4) (hc : c < 4) (n : rNet N Mc Mr) : rNr N Mr c = cNr N Mc c := by
  obtain ⟨n1, n2, -⟩ := n
  unfold rNr cNr
  refine sN_congr _ _ _ (fun s _ hs => ?_)
  obtain ⟨-, -, n3⟩ := n2 s (by omega)
  rw [n1, bt_sS (by omega) (by omega), n3 c hc, decide_eq_true (show s < N by omega), Bool.true_and, Bool.not_not]
theorem r_ef_p {o : Nat} (hc : c < 4) (ho : o < 48) : rEf N Mr m_promised (48 * c + o) = Mr m_promised (48 * c + o) &&& rNr N Mr c := by
  unfold rEf
  rw [if_pos ⟨rfl, by omega⟩, show (48 * c + o) / 48 = c by omega]
/-- all four clients forget what server s promised -/
theorem c_forgetAll {J : gM → Option (Nat × Int32 × gM)} {M : gM} {b : Int32} : ∃ M', f_X10_server_L11 N (nI s) b J 100 (0 : Int32) M = J M' ∧ cf (fun j q => j.1 = 32) M M' ∧ ∀ c, c < 4 → ∀ o, o < 48 → M' (32, c, 0) o = M (32, c, 0) o &&& (sB s ^^^ (-1 : Int32)) := by
  have H := loopF (σ := gM) (L := fun n k st => f_X10_server_L11 N (nI s) b J n (nI k) st) (B := 4) (g := fun c st => gpu st (32, c, 0) 0 48 (fun o => st (32, c, 0) o &&& (sB s ^^^ (-1 : Int32)))) (P := fun k st => cf (fun j q => j.1 = 32) M st ∧ ∀ c, c < 4 → ∀ o, o < 48 → st (32, c, 0) o = if c < k then M (32, c, 0) o &&& (sB s ^^^ (-1 : Int32)) else M (32, c, 0) o) (E := J) (fun n k st hk hP => ⟨?_, hP.1.tr (cf.pu (fun _ _ _ => rfl)), fun c hc o ho => ?_⟩) (fun n st _ => ?_) 4 0 100 M (by omega) (by omega) ⟨cf.rf _ _, fun c hc o ho => by rw [if_neg (by omega)]⟩
  · exact ⟨_, H.1, H.2.1, fun c hc o ho => by rw [H.2.2 c hc o ho, if_pos hc]⟩
  · simp only [f_X10_server_L11, lt_d]
    rw [if_neg (ge_4 (by omega)), ix_n hk (by omega), c_forgetPromisesOf, o1_s, nI_1]
  · rw [gpu_r]
    by_cases e : c = k
    · subst e
      rw [if_pos ⟨rfl, by omega, by omega⟩, Nat.sub_zero, hP.2 c hc o ho, if_neg (by omega), if_pos (by omega)]
    · rw [if_neg (fun x => e (congrArg (fun j : gI => j.2.1) x.1)), hP.2 c hc o ho]
      by_cases e2 : c < k
      · rw [if_pos e2, if_pos (by omega)]
      · rw [if_neg e2, if_neg (by omega)]
  · simp only [f_X10_server_L11]
    rw [if_pos (lf_4 (by omega))]
theorem c_turnServer {M : gM} {b : Int32} (hs : s < 32) : f_X5_turnServer N M (nI s) b = some ((if zb (bt (M (5, 0, 0) 2) s) = b then 0 else 1), gset M (5, 0, 0) 2 (if b = 0 then M (5, 0, 0) 2 &&& (sB s ^^^ (-1 : Int32)) else M (5, 0, 0) 2 ||| sB s)) := by
  unfold f_X5_turnServer
  simp only [c_isUp hs, o1_s, jn_d, lt_d]
  by_cases e1 : zb (bt (M (5, 0, 0) 2) s) = b
  · rw [if_pos e1, if_pos e1]
    by_cases e2 : b = 0
    · rw [if_pos e2, if_pos e2]; rfl
    · rw [if_neg e2, if_neg e2]; rfl
  · rw [if_neg e1, if_neg e1]
    by_cases e2 : b = 0
    · rw [if_pos e2, if_pos e2]; rfl
    · rw [if_neg e2, if_neg e2]; rfl
set_option maxHeartbeats 1000000 in
theorem st_server (hN : 1 ≤ N ∧ N ≤ 4) (h : St N T z.1 z.2.1) : ∃ z1, s_server N z a1 a2 = some z1 ∧ St N (T + 1) z1.1 z1.2.1 := by
  obtain ⟨g, R, I, U, O⟩ := id h
  rcases rng a1 N (by omega) with ⟨s, hs, rfl⟩ | bad
  · obtain ⟨n1, n2, n3⟩ := R.2.2.1
    have hup : z.2.1 m_up s = zb (bt (z.1 (5, 0, 0) 2) s) := by
      rw [n1, bt_sS (by omega) (by omega), decide_eq_true hs, Bool.true_and]
      rcases (n3 s hs).1 with x | x <;> rw [x] <;> rfl
    generalize hb : (if a2 = 0 then (0 : Int32) else 1) = b
    have hb01 : b = 0 ∨ b = 1 := by rw [← hb]; split <;> simp
    have hr0 : (gset (gset z.2.1 m_o 66 0) m_up s b) m_o 0 = nI N := by rw [gset_r, if_neg (by simp), gset_r, if_neg (by simp)]; exact R.n0
    have r1 : f_X11_server z.2.1 (nI s) b = some ((if zb (bt (z.1 (5, 0, 0) 2) s) = b then 0 else 1), rEf N (gset (gset z.2.1 m_o 66 0) m_up s b)) := by
      unfold f_X11_server
      simp only [r_isServer_ok R.n0 hN.2 hs, o1_s, jn_d, one_0, if_false, lt_d, g66, le_00, if_true, rd_n (show s < 4 by omega) (show 4 ≤ 16384 by omega), wz_n (show s < 4 by omega) (show 4 ≤ 16384 by omega) hb01, g66n (show (3 : Nat) ≠ 0 by decide), r_endFar hr0 hN.2, hup]
      split <;> rfl
    have hrf : cf (fun j q => j.1 = 3 ∨ j.1 = 4 ∨ j.1 = 5 ∨ j.1 = 26 ∨ (j.1 = 0 ∧ q = 66)) z.2.1 (rEf N (gset (gset z.2.1 m_o 66 0) m_up s b)) := ((cf.st (A := fun j q => j.1 = 3 ∨ j.1 = 4 ∨ j.1 = 5 ∨ j.1 = 26 ∨ (j.1 = 0 ∧ q = 66)) (by dsimp only; omega)).tr (cf.st (by dsimp only; omega))).tr (rEf.cf.mo (fun j q => by omega))
    have h66 : rEf N (gset (gset z.2.1 m_o 66 0) m_up s b) m_o 66 = nI 0 := by
      rw [rEf.cf _ _ (by dsimp only; omega), gset_r, if_neg (by simp), g66]; rfl
    have eup : ∀ t, rEf N (gset (gset z.2.1 m_o 66 0) m_up s b) m_up t = if t = s then b else z.2.1 m_up t := fun t => by
      rw [rEf.cf _ _ (by dsimp only; omega), gset_r]
      by_cases e : t = s
      · rw [if_pos ⟨rfl, e⟩, if_pos e]
      · rw [if_neg (fun x => e x.2), if_neg e, g66n (by decide)]
    have eln : ∀ t q, t = 4 ∨ t = 5 → rEf N (gset (gset z.2.1 m_o 66 0) m_up s b) (t, 0, 0) q = z.2.1 (t, 0, 0) q := fun t q ht => by
      rw [rEf.cf _ _ (by dsimp only; omega), gset_r, if_neg (fun x => by have := congrArg Prod.fst x.1; dsimp only at this; omega), g66n (by omega)]
    -- the class, whichever way: its store behind it
    have fin : ∀ M1 : gM, cf (fun j q => j.1 = 32) z.1 M1 → (∀ c, c < 4 → ∀ o, o < 48 → M1 (32, c, 0) o = (if b = 0 then z.1 (32, c, 0) o &&& (sB s ^^^ (-1 : Int32)) else z.1 (32, c, 0) o)) → St N (T + 1) (gset M1 (5, 0, 0) 2 (if b = 0 then M1 (5, 0, 0) 2 &&& (sB s ^^^ (-1 : Int32)) else M1 (5, 0, 0) 2 ||| sB s)) (rEf N (gset (gset z.2.1 m_o 66 0) m_up s b)) := by
      intro M1 f1 p1
      have e52 : M1 (5, 0, 0) 2 = sS (fun s => nz (z.2.1 m_up s)) N := by rw [f1 _ _ (by dsimp only; omega)]; exact n1
      generalize hM2 : gset M1 (5, 0, 0) 2 (if b = 0 then M1 (5, 0, 0) 2 &&& (sB s ^^^ (-1 : Int32)) else M1 (5, 0, 0) 2 ||| sB s) = M2
      have f2 : cf (fun j q => (j.1 = 5 ∧ q = 2) ∨ j.1 = 6 ∨ j.1 = 32) z.1 M2 := by
        rw [← hM2]
        exact (f1.mo (fun j q => by omega)).tr (cf.st (by dsimp only; omega))
      have e6 : ∀ q, M2 (6, 0, 0) q = z.1 (6, 0, 0) q := fun q => by rw [← hM2, gset_r, if_neg (by simp), f1 _ _ (by dsimp only; omega)]
      have e32 : ∀ c q, M2 (32, c, 0) q = M1 (32, c, 0) q := fun c q => by rw [← hM2, gset_r, if_neg (by simp)]
      have eU : M2 (5, 0, 0) 2 = sS (fun t => if t = s then nz b else nz (z.2.1 m_up t)) N := by
        rw [← hM2, gset_r, if_pos ⟨rfl, rfl⟩, e52]
        rcases hb01 with rfl | rfl
        · rw [if_pos rfl, sS_out (by omega) (by omega)]
          refine sN_congr _ _ _ (fun t _ _ => ?_)
          by_cases e : t = s
          · rw [if_pos e, decide_eq_true e, Bool.not_true, Bool.and_false]; rfl
          · rw [if_neg e, decide_eq_false e, Bool.not_false, Bool.and_true]
        · rw [if_neg (by decide), sS_in (by omega) hs]
          refine sN_congr _ _ _ (fun t _ _ => ?_)
          by_cases e : t = s
          · rw [if_pos e, decide_eq_true e, Bool.or_true]; rfl
          · rw [if_neg e, decide_eq_false e, Bool.or_false]
      have hnet : rNet N M2 (rEf N (gset (gset z.2.1 m_o 66 0) m_up s b)) := by
        refine ⟨?_, fun u hu => ?_, fun u hu => ?_⟩
        · rw [eU]
          refine sN_congr _ _ _ (fun t _ _ => ?_)
          rw [eup]
          by_cases e : t = s
          · rw [if_pos e, if_pos e]
          · rw [if_neg e, if_neg e]
        · obtain ⟨d1, d2, d3⟩ := n2 u hu
          rw [e6]
          exact ⟨fun t ht hn => by rw [eln 4 _ (by omega)]; exact d1 t ht hn, d2, fun c hc => by rw [eln 5 _ (by omega)]; exact d3 c hc⟩
        · obtain ⟨d1, d2, d3⟩ := n3 u hu
          refine ⟨?_, fun t ht => by rw [eln 4 _ (by omega)]; exact d2 t ht, fun c hc => by rw [eln 5 _ (by omega)]; exact d3 c hc⟩
          rw [eup]
          by_cases e : u = s
          · rw [if_pos e]; exact hb01
          · rw [if_neg e]; exact d1
      refine net_st hN.2 h f2 hrf hnet (fun c hc o ho => ?_)
      have hpz := (R.kl hc ho).2.2.2.2.2.2.1
      have hnear := (I.2.2.2.2.1 c hc o ho).2.2.2.2.2.2.1
      have hnr9 : rNr N (gset (gset z.2.1 m_o 66 0) m_up s b) c = cNr N M2 c := by
        rw [← net_nr hN.2 hc hnet]
        exact (rNr.fr hN.2 hc rEf.cf (fun q _ => by dsimp only; omega) (fun q _ => by dsimp only; omega)).symm
      have hrp : rEf N (gset (gset z.2.1 m_o 66 0) m_up s b) m_promised (48 * c + o) = z.1 (32, c, 0) o &&& cNr N M2 c := by
        rw [r_ef_p hc ho, hnr9, gset_r, if_neg (by simp), g66n (by decide), ← hpz]
      have hcn : cNr N M2 c = sS (fun t => (if t = s then nz b else bt (z.1 (5, 0, 0) 2) t) && !bt (z.1 (6, 0, 0) t) (4 + c)) N := by
        unfold cNr
        refine sN_congr _ _ _ (fun t _ ht => ?_)
        rw [eU, e6, bt_sS (by omega) (by omega), decide_eq_true (show t < N by omega), Bool.true_and]
        by_cases e : t = s
        · rw [if_pos e, if_pos e]
        · rw [if_neg e, if_neg e, n1, bt_sS (by omega) (by omega), decide_eq_true (show t < N by omega), Bool.true_and]
      rw [e32, p1 c hc o ho, hrp]
      rcases hb01 with rfl | rfl
      · have hx : cNr N M2 c = cNr N z.1 c &&& (sB s ^^^ (-1 : Int32)) := by
          rw [hcn]
          unfold cNr
          rw [sS_out (by omega) (by omega)]
          refine sN_congr _ _ _ (fun t _ _ => ?_)
          by_cases e : t = s
          · rw [if_pos e, decide_eq_true e, Bool.not_true, Bool.and_false]; rfl
          · rw [if_neg e, decide_eq_false e, Bool.not_false, Bool.and_true]
        rw [if_pos rfl, hx]
        refine ⟨(and_r hnear).symm, and_rr hnear, fun y => by rw [y, Int32.zero_and]⟩
      · have hx : cNr N z.1 c &&& cNr N M2 c = cNr N z.1 c := by
          rw [hcn]
          unfold cNr
          refine sS_le (by omega) (fun t _ hf => ?_)
          rw [Bool.and_eq_true] at hf ⊢
          refine ⟨?_, hf.2⟩
          by_cases e : t = s
          · rw [if_pos e]; rfl
          · rw [if_neg e]; exact hf.1
        have hy := and_le hnear hx
        rw [if_neg (by decide)]
        exact ⟨hy.symm, hy, fun y => y⟩
    rcases hb01 with e | e
    · obtain ⟨M1, l1, l2, l3⟩ := c_forgetAll (N := N) (s := s) (M := z.1) (b := b) (J := fun (M4 : gM) => ob (f_X5_turnServer N M4 (nI s) b) (fun v7 M6 => gz v7 (some (0, v7, M6))))
      have c1 : f_X10_server N z.1 (nI s) b = some (0, (if zb (bt (z.1 (5, 0, 0) 2) s) = b then 0 else 1), gset M1 (5, 0, 0) 2 (if b = 0 then M1 (5, 0, 0) 2 &&& (sB s ^^^ (-1 : Int32)) else M1 (5, 0, 0) 2 ||| sB s)) := by
        unfold f_X10_server
        rw [c_checkServer_ok R.c0 hN.2 hs, o1_s, if_pos rfl, jn_d, if_pos e, l1, c_turnServer (by omega), ob_s, show M1 (5, 0, 0) 2 = z.1 (5, 0, 0) 2 from l2 _ _ (by dsimp only; omega)]
        split <;> rfl
      have fin1 := fin M1 l2 (fun c hc o ho => by rw [l3 c hc o ho, if_pos e])
      subst hb
      exact q_server c1 r1 h66 (by omega) (fun _ => rfl) fin1
    · have c1 : f_X10_server N z.1 (nI s) b = some (0, (if zb (bt (z.1 (5, 0, 0) 2) s) = b then 0 else 1), gset z.1 (5, 0, 0) 2 (if b = 0 then z.1 (5, 0, 0) 2 &&& (sB s ^^^ (-1 : Int32)) else z.1 (5, 0, 0) 2 ||| sB s)) := by
        unfold f_X10_server
        rw [c_checkServer_ok R.c0 hN.2 hs, o1_s, if_pos rfl, jn_d, if_neg (by rw [e]; decide)]
        dsimp only
        rw [c_turnServer (by omega), ob_s]
        split <;> rfl
      have fin1 := fin z.1 (cf.rf _ _) (fun c hc o ho => by rw [if_neg (by rw [e]; decide)])
      subst hb
      exact q_server c1 r1 h66 (by omega) (fun _ => rfl) fin1
  · have c1 : f_X10_server N z.1 a1 (if a2 = 0 then (0 : Int32) else 1) = some (1, 0, z.1) := by
      unfold f_X10_server
      rw [c_checkServer_bad R.c0 bad, o1_s, if_neg (by decide)]
    have r1 : f_X11_server z.2.1 a1 (if a2 = 0 then (0 : Int32) else 1) = some (0, gset z.2.1 m_o 66 1) := by
      unfold f_X11_server
      simp only [r_isServer_bad R.n0 hN.1 hN.2 bad, o1_s, jn_d, if_true, lt_d, g66, le_10, if_false]
    exact q_server c1 r1 (g66 _ _) (by omega) (fun h => absurd h (by decide)) (h.thr hN.2 1)
end NT
