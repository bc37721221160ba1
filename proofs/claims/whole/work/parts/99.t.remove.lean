/-! layer 2: remove -/
theorem wsum_one {o a : Nat} : ∀ n, wsum (fun p => if p = o then a else 0) n ≤ a ∧ (n ≤ o → wsum (fun p => if p = o then a else 0) n = 0) := by
  intro n
  induction n with
  | zero => exact ⟨by show 0 ≤ a; omega, fun _ => rfl⟩
  | succ n ih =>
    show wsum _ n + (if n = o then a else 0) ≤ a ∧ (n + 1 ≤ o → wsum _ n + (if n = o then a else 0) = 0)
    by_cases e : n = o
    · rw [if_pos e, ih.2 (by omega)]
      exact ⟨by omega, fun h => by omega⟩
    · rw [if_neg e]
      exact ⟨by omega, fun h => by rw [ih.2 (by omega)]⟩
theorem cntF_z {p : Nat → Bool} : ∀ (m k : Nat), cntF p k m = 0 ↔ ∀ j, k ≤ j → j < k + m → p j = false := by
  intro m
  induction m with
  | zero => intro k; exact ⟨fun _ j h1 h2 => by omega, fun _ => rfl⟩
  | succ m ih =>
    intro k
    rw [cntF_s]
    constructor
    · intro h j h1 h2
      by_cases e : j = k
      · subst e
        cases hp : p j with
        | false => rfl
        | true => rw [hp] at h; simp at h
      · exact (ih (k + 1)).mp (by omega) j (by omega) (by omega)
    · intro h
      rw [h k (by omega) (by omega), (ih (k + 1)).mpr (fun j h1 h2 => h j (by omega) (by omega))]
      rfl
section RM2
variable {N g B s o c d x z T n t : Nat} {M M' Mc Mr Mc' Mr' Mc1 Mr1 Mr2 : gM} {zz : lS} {v w a1 a2 a3 a4 : Int32}
theorem second_ob (hN : N ≤ 4) (hc : c < 4) (hT : T ≤ 500) (hxg : x ≤ g) (I : Inv N g Mc) (U : Usd (1000 * T) Mc Mr) (e3 : obP N g (1000 * T + 1) c o 10 (cSt Mc c) (rSt Mr) 0 Mc1 Mr1) (hd : Mc (4, 0, 0) o = 1) (hs : cf (fun j q => j.1 = 44) Mr1 Mr2) : ∃ v Mc' Mr', f_X10_obtain N Mc1 c (nI x) (10 : Int32) = some (v, Mc') ∧ f_X11_get Mr2 (nI c) (nI x) (10 : Int32) = some (v, Mr') ∧ obP N g (1000 * T + 3) c x 10 Mc1 Mr2 v Mc' Mr' ∧ (v = 0 → Mc' (51, 4 + c, 0) x = 1 ∧ Got N g c x Mc' Mr') := by
  have h1 : CI N g (1000 * T + 3) c 48 Mc1 Mr2 := e3.1.sv (cf.rf _ _) (hs.mo (fun j q h => by unfold uR; omega)) (e3.1.1.fr hN (cf.rf _ _) (hs.mo (fun j q h => by unfold rsc; omega))) e3.1.2.1
  obtain ⟨v, Mc', Mr', k1, k2, k3⟩ := obtain9 (be := 10) hN hc hxg (by omega) h1
  refine ⟨v, Mc', Mr', k1, k2, k3, fun hv => ?_⟩
  obtain ⟨q1, -, q3⟩ := k3.2.2.2.1 hv
  have hh : Mc' (51, 4 + c, 0) x = 1 := q3.resolve_right (fun y => by
    obtain ⟨y1, y2⟩ := y
    obtain ⟨n, n1, n2, n3, -⟩ := h1.2.1.2.2.2.2.2.2.1 c hc
    have hn0 : n = 0 := (nI_eq (b := 0) (by omega) (by omega)).mp (n2.symm.trans y1)
    obtain ⟨m, m1, m2, m3, -⟩ := I.2.2.2.2.2.2.1 c hc
    have hm0 : m = 0 := by
      rw [e3.2.1 _ _ (by unfold tC fC; dsimp only; omega), cSt_n (by simp), m2] at n2
      have := (neq (show m < 2 ^ 31 by omega) (show n < 2 ^ 31 by omega)).mp n2
      omega
    have hle : wsum (fun p => if cMay Mc1 c 10 p then 0 else if p = x then 0 else wt Mc1 c p) 48 ≤ wsum (fun p => if p = o then 2 else 0) 48 := wsum_le 48 (fun p hp => by
      cases hm : cMay Mc1 c 10 p with
      | true => simp
      | false =>
        simp only [Bool.false_eq_true, if_false]
        by_cases ex : p = x
        · rw [if_pos ex]; omega
        · rw [if_neg ex]
          by_cases eo : p = o
          · subst eo
            rw [if_pos rfl]
            unfold wt
            rw [e3.2.1 (4, 0, 0) p (by unfold tC fC; dsimp only; omega), cSt_n (show ((4, 0, 0) : gI).1 ≠ 30 by decide), if_neg (show ¬ Mc (4, 0, 0) p = 0 by rw [hd]; decide)]
            split <;> omega
          · rw [if_neg eo]
            by_cases hh : Mc1 (51, 4 + c, 0) p = 0
            · unfold wt; rw [if_pos hh]; omega
            · exfalso
              have hh1 : Mc1 (51, 4 + c, 0) p = 1 := (h1.2.1.2.2.2.2.1 c hc p hp).1.resolve_left hh
              have hb : cSt Mc c (51, 4 + c, 0) p = 1 := (e3.2.2.2.2.2.2.1 p hp hh1).resolve_left eo
              have hmay : cMay (cSt Mc c) c 10 p = true := by
                cases hq : cMay (cSt Mc c) c 10 p with
                | true => rfl
                | false =>
                  have w0 := start_may hc hp hT I U (m3 hm0 p hp) hq
                  have := wt_pos (c := c) (o := p) (Mc := cSt Mc c) (by rw [hb]; decide)
                  omega
              unfold cMay at hm hmay
              rw [e3.2.1 (30, c, 0) 10 (by unfold tC fC; dsimp only; omega), e3.2.2.2.2.2.2.2 p hp eo, e3.2.1 (31, c, 0) p (by unfold tC fC; dsimp only; omega), hh1, n3 hn0 p hp] at hm
              rw [hb] at hmay
              simp only [Bool.and_eq_true] at hmay
              obtain ⟨z1, z2, z3, z4⟩ := hmay
              rw [z3, z4] at hm
              exact absurd hm (by decide))
    have := (wsum_one (o := o) (a := 2) 48).1
    omega)
  exact ⟨hh, q1 hh⟩
theorem r_anyThere {v14 : Int32} {J : gM → Option (Int64 × gM)} (h6 : M m_o 6 = nI (g + 1)) (hg : g ≤ 47) : f_X11_remove_L145 a1 a2 a3 v14 J 100 (1 : Int32) M = if aF (fun y => !decide (M m_gotEntry y = 1)) 1 g = true then J M else some ((-2199023255557 : Int64), M) := by
  have H : ∀ m k fu, k + m = g + 1 → m < fu → f_X11_remove_L145 a1 a2 a3 v14 J fu (nI k) M = if aF (fun y => !decide (M m_gotEntry y = 1)) k m = true then J M else some ((-2199023255557 : Int64), M) := by
    intro m
    induction m with
    | zero =>
      intro k fu hk hf
      obtain ⟨fu, rfl⟩ : ∃ q, fu = q + 1 := ⟨fu - 1, by omega⟩
      simp only [f_X11_remove_L145, lt_d, h6]
      rw [if_pos (nI_le (by omega) (by omega))]
      rfl
    | succ m ih =>
      intro k fu hk hf
      obtain ⟨fu, rfl⟩ : ∃ q, fu = q + 1 := ⟨fu - 1, by omega⟩
      simp only [f_X11_remove_L145, lt_d, h6]
      rw [if_neg (nI_ge (by omega) (by omega)), rd_n (by omega) (by omega), show aF (fun y => !decide (M m_gotEntry y = 1)) k (m + 1) = ((!decide (M m_gotEntry k = 1)) && aF (fun y => !decide (M m_gotEntry y = 1)) (k + 1) m) from rfl]
      by_cases e : M m_gotEntry k = 1
      · rw [if_pos e, decide_eq_true e]; rfl
      · rw [if_neg e, decide_eq_false e, nI_1, ih (k + 1) fu (by omega) (by omega), Bool.not_false, Bool.true_and]
  exact H g 1 100 (by omega) (by omega)
theorem there_eq (hxg : x ≤ g) (I : iCat g Mc) (G : Got N g c x Mc Mr) : (aF (fun y => !decide (Mr m_gotEntry y = 1)) 1 g = true) ↔ cntF (kidT Mc (4 + c) x) (x + 1) (g - x) = 0 := by
  have hg := I.1
  rw [aF_iff, cntF_z]
  have hk : ∀ y, 1 ≤ y → y ≤ g → (decide (Mr m_gotEntry y = 1) = kidT Mc (4 + c) x y) := fun y y1 y2 => by
    rw [G.2.2 y (by omega)]
    unfold kidT
    by_cases e : Mc (2, 0, 0) y = nI x
    · rw [if_pos ⟨y1, y2, e⟩]; simp [e]
    · rw [if_neg (fun z => e z.2.2)]; simp [e]
  constructor
  · intro h j h1 h2
    have := h j (by omega) (by omega)
    rw [hk j (by omega) (by omega)] at this
    simpa using this
  · intro h j h1 h2
    rw [hk j (by omega) (by omega)]
    by_cases e : x + 1 ≤ j
    · rw [h j e (by omega)]; rfl
    · unfold kidT
      rw [decide_eq_false (fun z => by have := kid_gt I h1 (by omega) (by omega) z.1; omega)]
      rfl
theorem st_remove (hN : 1 ≤ N ∧ N ≤ 4) (hT : T ≤ 500) (h : St N T zz.1 zz.2.1) : ∃ z1, s_remove N zz a1 a2 a3 = some z1 ∧ St N (T + 1) z1.1 z1.2.1 := by
  obtain ⟨g, R, I, U, O⟩ := id h
  have hg := I.1.1
  rcases rng a1 4 (by omega) with ⟨c, hc, rfl⟩ | bad
  · rcases rng a2 48 (by omega) with ⟨o, ho, rfl⟩ | bad
    · rcases rng a3 48 (by omega) with ⟨x, hx, rfl⟩ | bad
      · have hC : f_X10_remove N zz.1 (nI c) (nI o) (nI x) = ob (f_X10_obtainKind N (cSt zz.1 c) c (nI o) (1 : Int32)) (fun v15 M14 => (if (lg_cmp v15 (0 : Int64)) = 0 then o1 (f_X8_isThereIn N M14 (4 + c) (nI o) (nI x)) (fun v18 => (if v18 = 0 then some (0, (-2199023255552 : Int64), M14) else ob (f_X10_obtain N M14 c (nI x) (10 : Int32)) (fun v22 M21 => (if (lg_cmp v22 (0 : Int64)) = 0 then o1 (f_X8_thereIn N M21 (4 + c) (nI x)) (fun v25 => (if v25 ≤ 0 then o1 (f_X10_isAlone N M21 c) (fun v28 => (if v28 = 0 then ob (f_X10_removeNear N M21 c (nI o) (nI x)) (fun v32 M31 => some (0, v32, M31)) else ob (f_X1_removeAlone N M21 c (nI o) (nI x)) (fun v35 M34 => some (0, v35, M34)))) else some (0, (-2199023255557 : Int64), M21))) else some (0, v22, M21))))) else some (0, v15, M14))) := by
          unfold f_X10_remove gnl
          simp only [c_checkClient_ok hc, o1_s, if_true, c_checkObject_ok ho, c_checkObject_ok hx, c_startCall hc, ob_s, hc]
        have hR : f_X11_remove zz.2.1 (nI c) (nI o) (nI x) = o1 (f_X11_kindOf (gset zz.2.1 m_o 66 0) (nI o) (1 : Int32)) (fun v9 => (if (lg_cmp v9 (0 : Int64)) = 0 then o1 (f_X11_isAlone (rSt zz.2.1) (nI c)) (fun v14 => ob (f_X11_get (rSt zz.2.1) (nI c) (nI o) (10 : Int32)) (fun v17 M16 => (if (lg_cmp v17 (0 : Int64)) = 0 then o1 (f_X11_copyTo M16 m_gotVector (0 : Int32) m_directoryVector (0 : Int32)) (fun M20 => rd M20 m_gotEntry 48 (nI x) (fun v21 => (if v21 = (1 : Int32) then ob (f_X11_get M20 (nI c) (nI x) (10 : Int32)) (fun v25 M24 => (if (lg_cmp v25 (0 : Int64)) = 0 then f_X11_remove_L145 (nI c) (nI o) (nI x) v14 (fun M27 => (if v14 = 0 then rRn M27 c o x else ob (f_X11_removeAlone M27 (nI c) (nI o) (nI x)) (fun v56 M55 => some (v56, M55)))) 100 (1 : Int32) M24 else some (v25, M24))) else some ((-2199023255552 : Int64), M20)))) else some (v17, M16)))) else some (v9, gset zz.2.1 m_o 66 0))) := by
          unfold f_X11_remove rRn
          simp only [r_isClient_ok hc, r_isObject_ok ho, r_isObject_ok hx, o1_s, jn_d, one_0, if_false, lt_d, g66, le_00, if_true]
        have R5 : Rel N g zz.1 (gset zz.2.1 m_o 66 0) := R.fr hN.2 (cf.rf _ _) ((cf.st (A := fun j q => j.1 = 0 ∧ q = 66) ⟨rfl, rfl⟩).mo (fun j q => by unfold rsc; omega))
        have k1 : cSt zz.1 c (1, 0, 0) 3 = nI g := by rw [cSt_n (by decide)]; exact R.ct.1
        have k4 : kdO (cSt zz.1 c) g o 1 = kdO zz.1 g o 1 := by
          unfold kdO
          rw [cSt_n (show ((4, 0, 0) : gI).1 ≠ 30 by decide)]
        rw [r_kindOf R5 hg ho, o1_s] at hR
        unfold f_X10_obtainKind at hC
        rw [c_stop k1 hg ho, o1_s, k4] at hC
        by_cases hk : kdO zz.1 g o 1 = 0
        · obtain ⟨hog, hdir⟩ := kd_0 hk
          obtain ⟨v, Mc', Mr', e1, e2, e3, e4, e5⟩ := first_ob hN.2 hc hT hog R I U O
          obtain ⟨n, al, hn, hl, al1, al2, alc, alr⟩ := alone_eq hN.2 hc R I
          have a2' : f_X11_isAlone (rSt zz.2.1) (nI c) = some (zb al) := by
            refine alr _ ?_ ?_ ?_
            · rw [rSt_n (by simp)]
            · rw [rSt_n (by simp)]
            · exact rNr.fr (A := fun j q => j.1 = 0) hN.2 hc ((cf.st rfl).tr (cf.st rfl)) (fun q _ => by simp) (fun q _ => by simp)
          rw [hk, if_pos (lg_cmp_z 0), e1, ob_s, ob_s] at hC
          rw [hk, if_pos (lg_cmp_z 0), a2', o1_s, e2, ob_s] at hR
          have hS : St N (T + 1) Mc' Mr' := ci_st e3.1 (by omega)
          by_cases hv : v = 0
          · obtain ⟨hh, gt⟩ := e4 hv
            subst hv
            have ht := (e3.2.2.2.1 rfl).2.1
            have lgv : lg_cmp (0 : Int64) 0 = 0 := lg_cmp_z 0
            -- the directory's vector is kept
            have hcp : f_X11_copyTo Mr' m_gotVector (0 : Int32) m_directoryVector (0 : Int32) = some (gpu Mr' m_directoryVector (8 * 0) 8 (fun k => Mr' m_gotVector (8 * 0 + k))) := r_copyTo (i := 0) (j := 0) (by decide) (by decide) (by decide) (by decide)
            have fD : cf (fun j q => j.1 = 44) Mr' (gpu Mr' m_directoryVector (8 * 0) 8 (fun k => Mr' m_gotVector (8 * 0 + k))) := cf.pu (fun _ _ _ => rfl)
            have vD : ∀ k, k < N + 4 → gpu Mr' m_directoryVector (8 * 0) 8 (fun k => Mr' m_gotVector (8 * 0 + k)) m_directoryVector k = Mc' (55, 4 + c, o) k := fun k hk => by
              rw [gpu_r, if_pos ⟨rfl, by omega, by omega⟩, show 8 * 0 + (k - 8 * 0) = k by omega]
              exact gt.2.1 k hk
            obtain ⟨MD, hMD⟩ : ∃ X, X = gpu Mr' m_directoryVector (8 * 0) 8 (fun k => Mr' m_gotVector (8 * 0 + k)) := ⟨_, rfl⟩
            rw [← hMD] at hcp fD vD
            have RD : Rel N g Mc' MD := e3.1.1.fr hN.2 (cf.rf _ _) (fD.mo (fun j q h => by unfold rsc; omega))
            have hSD : St N (T + 1) Mc' MD := ci_st (e3.1.sv (cf.rf _ _) (fD.mo (fun j q h => by unfold uR; omega)) RD e3.1.2.1) (by omega)
            have e5D : MD m_o 66 = 0 := by rw [fD _ _ (by decide)]; exact e5
            have kx := e3.1.2.1.2.2.2.2.1 c hc x hx
            rw [if_pos lgv, c_isThereIn e3.1.1.ct.1 hg hx, o1_s] at hC
            rw [if_pos lgv, hcp, o1_s, rd_n hx (by omega), fD m_gotEntry x (by simp), gt.2.2 x hx] at hR
            by_cases hth : x ≤ g ∧ Mc' (2, 0, 0) x = nI o ∧ Mc' (56, 4 + c, 0) x = 1
            · obtain ⟨hxg, hpx, hsx⟩ := hth
              have hx1 : 1 ≤ x := (kx.2.2.2.2.1 (by rw [hsx]; decide)).1
              have hlt : o < x := kid_gt e3.1.2.1.1 hx1 hxg (by omega) hpx
              rw [decide_eq_true ⟨hxg, hpx, hsx⟩, zb_t, if_neg (by decide)] at hC
              have hg1 : (if 1 ≤ x ∧ x ≤ g ∧ Mc' (2, 0, 0) x = nI o then Mc' (56, 4 + c, 0) x else 0) = (1 : Int32) := by rw [if_pos ⟨hx1, hxg, hpx⟩]; exact hsx
              rw [if_pos hg1] at hR
              obtain ⟨v2, Mc2, Mr2, g1, g2, g3, g4⟩ := second_ob hN.2 hc hT hxg I U e3 hdir fD
              rw [g1, ob_s] at hC
              rw [g2, ob_s] at hR
              have g66' : Mr2 m_o 66 = 0 := by rw [g3.2.2.1 _ _ (by unfold tR fR; dsimp only; omega)]; exact e5D
              have hS2 : St N (T + 1) Mc2 Mr2 := ci_st g3.1 (by omega)
              by_cases hv2 : v2 = 0
              · obtain ⟨hh2, gt2⟩ := g4 hv2
                have lgv2 : lg_cmp v2 0 = 0 := by rw [lg_cmp0]; exact hv2
                have mo := top_may (be := 10) ht
                obtain ⟨ko1, ko2, -, -⟩ := g3.2.2.2.2.1 o ho (by omega) mo
                have hho2 : Mc2 (51, 4 + c, 0) o = 1 := by rw [ko1 51 (Or.inl rfl)]; exact hh
                have hpx2 : Mc2 (2, 0, 0) x = nI o := by rw [g3.2.1 _ _ (by unfold tC fC; dsimp only; omega)]; exact hpx
                have hdv : ∀ k, k < N + 4 → Mr2 m_directoryVector k = Mc2 (55, 4 + c, o) k := fun k hk => by
                  rw [g3.2.2.1 _ _ (by unfold tR fR; dsimp only; omega), ko2 k hk]; exact vD k hk
                have a1' : f_X10_isAlone N Mc2 c = some (zb al) := by
                  refine alc Mc2 ?_ ?_ ?_ ?_
                  · rw [g3.2.1 _ _ (by unfold tC fC; dsimp only; omega), e3.2.1 _ _ (by unfold tC fC; dsimp only; omega), cSt_n (by simp)]
                  · rw [g3.2.1 _ _ (by unfold tC fC; dsimp only; omega), e3.2.1 _ _ (by unfold tC fC; dsimp only; omega), cSt_n (by simp)]
                  · rw [g3.2.1 _ _ (by unfold tC fC; dsimp only; omega), e3.2.1 _ _ (by unfold tC fC; dsimp only; omega), cSt_o (by decide)]
                  · rw [cNr.fr hN.2 g3.2.1 (by unfold tC fC; dsimp only; omega) (fun q _ => by unfold tC fC; dsimp only; omega), cNr.fr hN.2 e3.2.1 (by unfold tC fC; dsimp only; omega) (fun q _ => by unfold tC fC; dsimp only; omega)]
                    exact cNr.fr (A := fun j q => j.1 = 30) hN.2 (cf.st rfl) (by simp) (fun q _ => by simp)
                have hcn := cntF_le (p := kidT Mc2 (4 + c) x) (g - x) (x + 1)
                rw [if_pos lgv2, c_thereIn g3.1.1.ct.1 hg hxg, o1_s] at hC
                rw [if_pos lgv2, r_anyThere g3.1.1.ct.2.1 hg] at hR
                have hte := there_eq hxg g3.1.2.1.1 gt2
                by_cases hz : cntF (kidT Mc2 (4 + c) x) (x + 1) (g - x) = 0
                · rw [if_pos (by rw [hz]; decide), a1', o1_s] at hC
                  rw [if_pos (hte.mpr hz)] at hR
                  cases al with
                  | false =>
                    have hlog : Mc2 (40, c, 0) 4 = 0 := by rw [g3.2.1 _ _ (by unfold tC fC; dsimp only; omega), e3.2.1 _ _ (by unfold tC fC; dsimp only; omega), cSt_n (by simp), hl, (al1 rfl).1]; rfl
                    obtain ⟨v3, Mc3, Mr3, f1, f2, f3, f4⟩ := remove_near hN.2 hc hog hx1 hxg (by omega) g3.1 hho2 hdv gt2 hpx2 hlog
                    rw [zb_f, if_pos rfl, f1, ob_s] at hC
                    rw [zb_f, if_pos rfl, f2] at hR
                    exact q_remove hC hR (f4.trans g66') (by omega) (fun _ => rfl) (ci_st f3 (by omega))
                  | true =>
                    obtain ⟨v3, Mc3, Mr3, f1, f2, f3, f4⟩ := remove_alone hN.2 hc hog hx1 hxg (by omega) g3.1 hho2 hh2 hpx2
                    rw [zb_t, if_neg (by decide), f1, ob_s] at hC
                    rw [zb_t, if_neg (by decide), f2, ob_s] at hR
                    exact q_remove hC hR (f4.trans g66') (by omega) (fun _ => rfl) (ci_st f3 (by omega))
                · rw [if_neg (by rw [Int32.le_iff_toInt_le, nI_toInt (by omega), i0]; omega)] at hC
                  rw [if_neg (fun z => hz (hte.mp z))] at hR
                  exact q_remove hC hR g66' (by omega) (fun _ => rfl) hS2
              · have lgv2 : ¬ lg_cmp v2 0 = 0 := by rw [lg_cmp0]; exact hv2
                rw [if_neg lgv2] at hC hR
                exact q_remove hC hR g66' (by omega) (fun _ => rfl) hS2
            · rw [decide_eq_false hth, zb_f, if_pos rfl] at hC
              have hn1 : ¬ (if 1 ≤ x ∧ x ≤ g ∧ Mc' (2, 0, 0) x = nI o then Mc' (56, 4 + c, 0) x else 0) = (1 : Int32) := fun z => by
                by_cases q : 1 ≤ x ∧ x ≤ g ∧ Mc' (2, 0, 0) x = nI o
                · rw [if_pos q] at z; exact hth ⟨q.2.1, q.2.2, z⟩
                · rw [if_neg q] at z; exact absurd z (by decide)
              rw [if_neg hn1] at hR
              exact q_remove hC hR e5D (by omega) (fun _ => rfl) hSD
          · have lgv : ¬ lg_cmp v 0 = 0 := by rw [lg_cmp0]; exact hv
            rw [if_neg lgv] at hC hR
            exact q_remove hC hR e5 (by omega) (fun _ => rfl) hS
        · rw [if_neg (by rw [lg_cmp0]; exact hk), ob_s, if_neg (by rw [lg_cmp0]; exact hk)] at hC
          rw [if_neg (by rw [lg_cmp0]; exact hk)] at hR
          exact q_remove hC hR (g66 _ _) (by omega) (fun _ => rfl) (st_begun hN.2 hc h)
      · have c1 : f_X10_remove N zz.1 (nI c) (nI o) a3 = some (1, 0, zz.1) := by
          unfold f_X10_remove
          rw [c_checkClient_ok hc, o1_s, if_pos rfl, c_checkObject_ok ho, o1_s, if_pos rfl, c_checkObject_bad bad, o1_s, if_neg (by decide)]
        have r1 : f_X11_remove zz.2.1 (nI c) (nI o) a3 = some (0, gset zz.2.1 m_o 66 1) := by
          unfold f_X11_remove
          simp only [r_isClient_ok hc, r_isObject_ok ho, r_isObject_bad bad, o1_s, jn_d, one_0, if_true, lt_d, g66, le_10, if_false]
        exact q_remove c1 r1 (g66 _ _) (by omega) (fun h => absurd h (by decide)) (h.thr hN.2 1)
    · have c1 : f_X10_remove N zz.1 (nI c) a2 a3 = some (1, 0, zz.1) := by
        unfold f_X10_remove
        rw [c_checkClient_ok hc, o1_s, if_pos rfl, c_checkObject_bad bad, o1_s, if_neg (by decide)]
      have r1 : f_X11_remove zz.2.1 (nI c) a2 a3 = some (0, gset zz.2.1 m_o 66 1) := by
        unfold f_X11_remove
        simp only [r_isClient_ok hc, r_isObject_bad bad, o1_s, jn_d, one_0, if_true, lt_d, g66, le_10, if_false]
      exact q_remove c1 r1 (g66 _ _) (by omega) (fun h => absurd h (by decide)) (h.thr hN.2 1)
  · have c1 : f_X10_remove N zz.1 a1 a2 a3 = some (1, 0, zz.1) := by
      unfold f_X10_remove
      rw [c_checkClient_bad bad, o1_s, if_neg (by decide)]
    have r1 : f_X11_remove zz.2.1 a1 a2 a3 = some (0, gset zz.2.1 m_o 66 1) := by
      unfold f_X11_remove
      simp only [r_isClient_bad bad, o1_s, jn_d, if_true, lt_d, g66, le_10, if_false]
    exact q_remove c1 r1 (g66 _ _) (by omega) (fun h => absurd h (by decide)) (h.thr hN.2 1)
end RM2
