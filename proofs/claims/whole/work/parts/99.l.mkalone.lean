/-! layer 2: a client makes alone; make -/
def rMa (M : gM) (c o : Nat) (a3 a4 : Int32) : Option (Int64 × gM) := f_X11_makeAlone M (nI c) (nI o) a3 a4
section MA
variable {N g B s o c d x z T n t : Nat} {M M' Mc Mr Mc' Mr' : gM} {zz : lS} {v w a1 a2 a3 a4 : Int32}
theorem make_alone (hN : N ≤ 4) (hc : c < 4) (hog : o ≤ g) (hg47 : g < 47) (hB : B ≤ 890000) (h : CI N g B c 48 Mc Mr) (hh : Mc (51, 4 + c, 0) o = 1) (ht : uTop c o Mc) (hd : Mc (4, 0, 0) o = 1) (h4 : a4 = 0 ∨ a4 = 1) : ∃ v Mc' Mr' g', f_X1_makeAlone N Mc c (nI o) a3 a4 = some (v, Mc') ∧ f_X11_makeAlone Mr (nI c) (nI o) a3 a4 = some (v, Mr') ∧ CI N g' (B + 2) c 48 Mc' Mr' ∧ Mr' m_o 66 = Mr m_o 66 := by
  obtain ⟨R, I, U, O, W⟩ := id h
  have ho : o < 48 := by omega
  have hx : g + 1 < 48 := by omega
  obtain ⟨n, hn, hl, hl0, hrec, hord⟩ := I.2.2.2.2.2.2.1 c hc
  have hlr : Mr m_records c = nI n := by rw [← (R.lg hc).1]; exact hl
  have hup : CI N g (B + 2) c 48 Mc Mr := ⟨R, I, U.up (by omega), O, W⟩
  by_cases hf : n = 12
  · refine ⟨-2199023255557, Mc, Mr, g, ?_, ?_, hup, rfl⟩
    · unfold f_X1_makeAlone
      rw [c_full hl hn, hf, if_neg (by decide), o1_s, if_neg (by decide)]
    · unfold f_X11_makeAlone
      rw [rd_n hc (by omega), hlr, hf, if_pos (by decide)]
  · have hn' : n < 12 := by omega
    obtain ⟨mq, mo1, mo2, mo3, mo4⟩ := new_mo h4
    have mo1' : (if a4 = 0 then (1 : Int32) else 2) = nI mq := by
      rw [← mo1]
      rcases h4 with rfl | rfl <;> rfl
    obtain ⟨b, Mc6, Mr6, m1, m2, h6, cc6, cr6, k6, -, hb0, -, hb1⟩ := room (x := 48) (bu := (-1 : Int32)) (be := 10) (mo := nI mq) hN hc (by omega) h (fun p hp e => by
      rw [nI_m1 (by omega)] at e
      exact e.elim) (by omega) (by omega)
    have hC0 : f_X1_makeAlone N Mc c (nI o) a3 a4 = (if zb b = 0 then some ((-2199023255558 : Int64), Mc6) else ob (f_X0_enter N Mc6 (nI o) a3 a4) (fun v12 M11 => (if v12 = (-1 : Int32) then some ((-2199023255557 : Int64), M11) else o1 (f_X8_createCopy N M11 (4 + c) v12) (fun M15 => o1 (f_X8_setThere N M15 (4 + c) v12) (fun M17 => o1 (f_X1_use N M17 c v12) (fun M19 => ix v12 48 (fun v20 => o1 (f_X3_add N M19 c (1 : Int32) v12 (nI o) (55, (4 + c), v20)) (fun M22 => wz M22 (33, c, 0) 48 v12 (1 : Int32) (fun M23 => wz M23 (33, c, 0) 48 (nI o) (1 : Int32) (fun M24 => some (v12.toInt64, M24))))))))))) := by
      unfold f_X1_makeAlone
      rw [c_full hl hn, if_pos hn', o1_s, if_pos rfl, jn_d]
      by_cases e4 : a4 = 0
      · rw [if_pos e4] at mo1' ⊢
        dsimp only
        rw [mo1', m1, ob_s]
      · rw [if_neg e4] at mo1' ⊢
        dsimp only
        rw [mo1', m1, ob_s]
    have hR0 : f_X11_makeAlone Mr (nI c) (nI o) a3 a4 = (if zb b = 0 then some ((-2199023255558 : Int64), Mr6) else ob (f_X11_newObject Mr6 (nI o) a3 a4) (fun v11 M10 => wr M10 m_keptEntry 192 (((48 : Int32) * (nI c)) + v11) (1 : Int32) (fun M12 => o1 (f_X11_keepNew M12 (nI c) v11) (fun M14 => wz M14 m_dirty 192 (((48 : Int32) * (nI c)) + v11) (1 : Int32) (fun M15 => wz M15 m_dirty 192 (((48 : Int32) * (nI c)) + nI o) (1 : Int32) (fun M16 => o1 (f_X11_addRecord M16 (nI c) (1 : Int32) v11 (nI o)) (fun M18 => some (v11.toInt64, M18)))))))) := by
      unfold f_X11_makeAlone
      rw [rd_n hc (by omega), hlr, if_neg (by rw [show (12 : Int32) = nI 12 from rfl, neq (by omega) (by omega)]; omega), jn_d]
      by_cases e4 : a4 = 0
      · rw [if_pos e4] at mo1' ⊢
        dsimp only
        rw [← mo1'] at m2
        rw [m2, ob_s]
      · rw [if_neg e4] at mo1' ⊢
        dsimp only
        rw [← mo1'] at m2
        rw [m2, ob_s]
    have o66 : Mr6 m_o 66 = Mr m_o 66 := cr6 _ _ (by unfold fR; dsimp only; omega)
    cases b with
    | false =>
      refine ⟨-2199023255558, Mc6, Mr6, g, ?_, ?_, ⟨h6.1, h6.2.1, h6.2.2.1.up (by omega), h6.2.2.2⟩, o66⟩
      · rw [hC0, zb_f, if_pos rfl]
      · rw [hR0, zb_f, if_pos rfl]
    | true =>
      rw [zb_t, if_neg (by decide)] at hC0 hR0
      have hbw := hb1 rfl
      rw [mo2] at hbw
      have hd6 : Mc6 (4, 0, 0) o = 1 := by rw [cc6 _ _ (by unfold fC; dsimp only; omega)]; exact hd
      have hh6 : Mc6 (51, 4 + c, 0) o = 1 := by rw [(k6 o ho (top_may ht)).1 51 (Or.inl rfl)]; exact hh
      have hl6 : Mc6 (40, c, 0) 4 = nI n := by rw [cc6 _ _ (by unfold fC; dsimp only; omega)]; exact hl
      obtain ⟨un1, un2⟩ := new_un h6.2.1 hg47
      have h7 := enter_ci (a3 := a3) (a4 := a4) hN hg47 hog hd6 h4 h6
      have fE := cEn_fr (M := Mc6) (g := g) (o := o) (a3 := a3) (a4 := a4)
      have gE := rEn_fr (M := Mr6) (g := g) (o := o) (a3 := a3) (a4 := a4)
      obtain ⟨vE1, vE2, vE3, vE4⟩ := cEn_v (M := Mc6) (g := g) (o := o) (a3 := a3) (a4 := a4)
      rw [c_enter h6.1.ct.1 hg47 h4, ob_s, if_neg (by rw [nI_m1 (by omega)]; exact id), c_createCopy hN hx, o1_s, c_setThere hN hx, o1_s, c_use hx, o1_s, ix_n hx (by omega), cTh_cr, cUs_cr] at hC0
      rw [r_newObject h6.1.ct.2.1 hg47 h4, ob_s, nI_m48, nI_add, wr_n (by omega) (by omega), r_keepNew hc hx, o1_s, nI_add, wz_1 (by omega) (by omega), wz_1 (by omega) (by omega)] at hR0
      obtain ⟨E, hE⟩ : ∃ X, X = cEn Mc6 g o a3 a4 := ⟨_, rfl⟩
      obtain ⟨Er, hEr⟩ : ∃ X, X = rEn Mr6 g o a3 a4 := ⟨_, rfl⟩
      rw [← hE] at h7 fE vE1 vE2 vE3 vE4 hC0
      rw [← hEr] at h7 gE hR0
      have fT := cTh_k (c := c) (x := g + 1) (M := E) hN
      have r8 : Rel N (g + 1) (cTh N E (4 + c) (g + 1)) (gset Er m_keptEntry (48 * c + (g + 1)) 1) := kent hN hc hx h7.1 fT cTh_v.1 ((cf.st (A := fun j q => j = m_keptEntry ∧ q = 48 * c + (g + 1)) ⟨rfl, rfl⟩).mo (fun j q h => Or.inl h)) (by rw [gset_r, if_pos ⟨rfl, rfl⟩])
      have i8 : Inv N (g + 1) (cTh N E (4 + c) (g + 1)) := kent_inv hN hc (by omega) (by omega) h7.2.1 fT cTh_v.1 (Or.inr (Or.inl rfl))
      have fT' : cf (fun j q => (j.1 = 56 ∧ j.2.1 = 4 + c) ∨ j.1 = 58) E (cTh N E (4 + c) (g + 1)) := fT.mo (fun j q h => h.elim (fun h => Or.inl (by rw [h.1]; exact ⟨rfl, rfl⟩)) (fun h => Or.inr h.1))
      have h8 : CI N (g + 1) B c 48 (cTh N E (4 + c) (g + 1)) (gset Er m_keptEntry (48 * c + (g + 1)) 1) := h7.sv (fT'.mo (fun j q z => by unfold uC; omega)) (cf.st (by unfold uR; dsimp only; omega)) r8 i8
      obtain ⟨E1, hE1⟩ : ∃ X, X = cTh N E (4 + c) (g + 1) := ⟨_, rfl⟩
      rw [← hE1] at h8 hC0 fT'
      have hx8 : E1 (51, 4 + c, 0) (g + 1) = 0 := by rw [fT' _ _ (by dsimp only; omega), fE _ _ (by dsimp only; omega)]; exact (un2 c hc).1
      have h9 := new_in hN hc (by omega) hB h8 hx8 (by
        rw [wsum_congr (f' := wt Mc6 c) 48 (fun k hk => ?_), fT' (4, 0, 0) (g + 1) (by dsimp only; omega), vE4, ← mo3]
        · omega
        · unfold wt
          rw [fT' _ _ (by dsimp only; omega), fT' _ _ (by dsimp only; omega), fT' _ _ (by dsimp only; omega), fE (51, 4 + c, 0) k (by dsimp only; omega), fE (53, 4 + c, 0) k (by dsimp only; omega)]
          by_cases e : k = g + 1
          · subst e; rw [if_pos (un2 c hc).1, if_pos (un2 c hc).1]
          · rw [fE (4, 0, 0) k (by dsimp only; omega)])
      have fY : cf (fun j q => (((j.1 = 51 ∨ j.1 = 52 ∨ j.1 = 53) ∧ j.2.1 = 4 + c ∧ q = g + 1) ∨ (j.1 = 55 ∧ j.2.1 = 4 + c ∧ j.2.2 = g + 1)) ∨ ((j.1 = 30 ∧ j.2.1 = c ∧ q = 9) ∨ (j.1 = 34 ∧ j.2.1 = c ∧ q = g + 1))) E1 (cCr N (cUs E1 c (g + 1)) (4 + c) (g + 1)) := (cUs_fr.mo (fun j q h => Or.inr h)).tr (cCr_fr.mo (fun j q h => Or.inl h))
      have uY := cCr_v (N := N) (M := cUs E1 c (g + 1)) (t := 4 + c) (x := g + 1)
      obtain ⟨Y, hY⟩ : ∃ X, X = cCr N (cUs E1 c (g + 1)) (4 + c) (g + 1) := ⟨_, rfl⟩
      obtain ⟨Yr, hYr⟩ : ∃ X, X = rUs (rKn (gset Er m_keptEntry (48 * c + (g + 1)) 1) c (g + 1)) c (g + 1) := ⟨_, rfl⟩
      rw [← hY] at h9 hC0 fY uY
      rw [← hYr] at h9 hR0
      have fAll : cf (fun j q => ((j.1 = 1 ∧ q = 3) ∨ ((j.1 = 2 ∨ j.1 = 3 ∨ j.1 = 4) ∧ q = g + 1)) ∨ ((j.1 = 56 ∧ j.2.1 = 4 + c) ∨ j.1 = 58) ∨ (((j.1 = 51 ∨ j.1 = 52 ∨ j.1 = 53) ∧ j.2.1 = 4 + c ∧ q = g + 1) ∨ (j.1 = 55 ∧ j.2.1 = 4 + c ∧ j.2.2 = g + 1)) ∨ ((j.1 = 30 ∧ j.2.1 = c ∧ q = 9) ∨ (j.1 = 34 ∧ j.2.1 = c ∧ q = g + 1))) Mc6 Y := ((fE.mo (fun j q h => Or.inl h)).tr (fT'.mo (fun j q h => Or.inr (Or.inl h)))).tr (fY.mo (fun j q h => Or.inr (Or.inr h)))
      have hlY : Y (40, c, 0) 4 = nI n := by rw [fAll _ _ (by dsimp only; omega)]; exact hl6
      have hlYr : Yr m_records c = nI n := by rw [← (h9.1.lg hc).1]; exact hlY
      have hhY : Y (51, 4 + c, 0) o = 1 := by rw [fAll _ _ (by dsimp only; omega)]; exact hh6
      have hxY : Y (51, 4 + c, 0) (g + 1) = 1 := uY.1
      have pY : Y (2, 0, 0) (g + 1) = nI o := by rw [fY _ _ (by dsimp only; omega), fT' _ _ (by dsimp only; omega)]; exact vE2
      have unY : ∀ s, s < N → Y (51, s, 0) (g + 1) = 0 ∧ Y (56, s, 0) (g + 1) = 0 := fun s hs => by
        rw [fAll _ _ (by dsimp only; omega), fAll _ _ (by dsimp only; omega)]; exact un1 s hs
      have hob : ∀ d j, d < 4 → j < 12 → nI j < Y (40, d, 0) 4 → ¬ Y (42, d, 0) j = nI (g + 1) := fun d j hd' hj hl' e => by
        rw [fAll _ _ (by dsimp only; omega)] at hl' e
        obtain ⟨n3, a, b, -, f, -⟩ := h6.2.1.2.2.2.2.2.2.1 d hd'
        rw [b, nlt (by omega) (by omega)] at hl'
        obtain ⟨ob, o1, o2, o3, -⟩ := f j hl'
        rw [o3, neq (by omega) (by omega)] at e
        omega
      rw [c_add hN hlY hn' (cN55 _ _ _) rfl, o1_s, wz_1 hx (by omega), wz_1 ho (by omega)] at hC0
      rw [r_addRecord hc hx (n := n) (by rw [gset_r, if_neg (by simp), gset_r, if_neg (by simp)]; exact hlYr) hn', o1_s] at hR0
      have rZ : Rel N (g + 1) (gset (gset (cAdd N Y c n 1 (nI (g + 1)) (nI o) (55, 4 + c, g + 1)) (33, c, 0) (g + 1) 1) (33, c, 0) o 1) (rAd (gset (gset Yr m_dirty (48 * c + (g + 1)) 1) m_dirty (48 * c + o) 1) c n (g + 1) 1 (nI o)) := by
        rw [← cAd_comm (by simp) (by simp), ← cAd_comm (by simp) (by simp)]
        refine ((h9.1.kdir hN hc hx).kdir hN hc ho).add hN hc hx ?_ hn' ?_
        · rw [gset_r, if_neg (by simp), gset_r, if_neg (by simp)]; exact hlY
        · rw [gset_r, if_neg (by simp), gset_r, if_neg (by simp), hxY]; decide
      have fA := cAd_fr (N := N) (M := Y) (c := c) (n := n) (a1 := 1) (a2 := nI (g + 1)) (a3 := nI o) (o := g + 1)
      have fZ : cf (fun j q => (40 ≤ j.1 ∧ j.1 ≤ 45 ∧ j.2.1 = c) ∨ (j.1 = 33 ∧ j.2.1 = c ∧ (q = o ∨ q = g + 1))) Y (gset (gset (cAdd N Y c n 1 (nI (g + 1)) (nI o) (55, 4 + c, g + 1)) (33, c, 0) (g + 1) 1) (33, c, 0) o 1) := ((fA.mo (fun j q h => Or.inl h)).tr (cf.st (Or.inr ⟨rfl, rfl, Or.inr rfl⟩))).tr (cf.st (Or.inr ⟨rfl, rfl, Or.inl rfl⟩))
      have qZ : ∀ t i, t ≠ 33 → gset (gset (cAdd N Y c n 1 (nI (g + 1)) (nI o) (55, 4 + c, g + 1)) (33, c, 0) (g + 1) 1) (33, c, 0) o 1 (t, c, 0) i = cAdd N Y c n 1 (nI (g + 1)) (nI o) (55, 4 + c, g + 1) (t, c, 0) i := fun t i ht => by rw [gset_r, if_neg (fun z => ht (congrArg Prod.fst z.1)), gset_r, if_neg (fun z => ht (congrArg Prod.fst z.1))]
      have vZ : ∀ i, gset (gset (cAdd N Y c n 1 (nI (g + 1)) (nI o) (55, 4 + c, g + 1)) (33, c, 0) (g + 1) 1) (33, c, 0) o 1 (41, c, 0) i = (if i = n then 1 else Y (41, c, 0) i) ∧ gset (gset (cAdd N Y c n 1 (nI (g + 1)) (nI o) (55, 4 + c, g + 1)) (33, c, 0) (g + 1) 1) (33, c, 0) o 1 (42, c, 0) i = (if i = n then nI (g + 1) else Y (42, c, 0) i) ∧ gset (gset (cAdd N Y c n 1 (nI (g + 1)) (nI o) (55, 4 + c, g + 1)) (33, c, 0) (g + 1) 1) (33, c, 0) o 1 (43, c, 0) i = (if i = n then nI o else Y (43, c, 0) i) := fun i => by
        rw [qZ 41 i (by decide), qZ 42 i (by decide), qZ 43 i (by decide)]; exact cAd_v
      have lZ : gset (gset (cAdd N Y c n 1 (nI (g + 1)) (nI o) (55, 4 + c, g + 1)) (33, c, 0) (g + 1) 1) (33, c, 0) o 1 (40, c, 0) 4 = nI (n + 1) := by rw [qZ 40 4 (by decide)]; exact cAd_l
      have dZ1 : gset (gset (cAdd N Y c n 1 (nI (g + 1)) (nI o) (55, 4 + c, g + 1)) (33, c, 0) (g + 1) 1) (33, c, 0) o 1 (33, c, 0) o = 1 := by rw [gset_r, if_pos ⟨rfl, rfl⟩]
      have dZ2 : gset (gset (cAdd N Y c n 1 (nI (g + 1)) (nI o) (55, 4 + c, g + 1)) (33, c, 0) (g + 1) 1) (33, c, 0) o 1 (33, c, 0) (g + 1) = 1 := by rw [gset_r, if_neg (by omega), gset_r, if_pos ⟨rfl, rfl⟩]
      obtain ⟨Z, hZe⟩ : ∃ Z, Z = gset (gset (cAdd N Y c n 1 (nI (g + 1)) (nI o) (55, 4 + c, g + 1)) (33, c, 0) (g + 1) 1) (33, c, 0) o 1 := ⟨_, rfl⟩
      rw [← hZe] at rZ fZ lZ dZ1 dZ2 hC0
      simp only [← hZe] at vZ
      obtain ⟨n2, hn2, hl2, -, hrec2, hord2⟩ := h9.2.1.2.2.2.2.2.2.1 c hc
      have en2 : n2 = n := by rw [hlY, neq (by omega) (by omega)] at hl2; exact hl2.symm
      subst en2
      have eo : ∀ i, i < n2 → Z (41, c, 0) i = Y (41, c, 0) i ∧ Z (42, c, 0) i = Y (42, c, 0) i := fun i hi => ⟨by rw [(vZ i).1, if_neg (by omega)], by rw [(vZ i).2.1, if_neg (by omega)]⟩
      have iZ : Inv N (g + 1) Z := by
        refine h9.2.1.alog hN hc (fZ.mo (fun j q h => by omega)) (fun p hp => ?_) (iLg_add hn' lZ eo (fun i hi => ?_) ?_ hord2 (fun h j hj hk => ?_)) (iMk_add hc hn' h9.2.1.2.2.2.2.2.2.2 hlY lZ eo (fun d hd i => ?_) (fun h d j hd' hj hl' _ => ?_) (fun h => ?_))
        · by_cases e : p = o
          · subst e; exact ⟨Or.inr dZ1, fun q => absurd (hhY.symm.trans q) (by decide)⟩
          · by_cases e2 : p = g + 1
            · subst e2; exact ⟨Or.inr dZ2, fun q => absurd (hxY.symm.trans q) (by decide)⟩
            · rw [fZ _ _ (by dsimp only; omega)]
              have k0 := h9.2.1.2.2.2.2.1 c hc p hp
              exact ⟨k0.2.1, fun q => (k0.2.2.2.2.2.1 q).2⟩
        · refine (hrec2 i hi).to (eo i hi).1 (eo i hi).2 (by rw [(vZ i).2.2, if_neg (by omega)]) (fun ob h1 _ _ h2 h3 => ⟨?_, ?_⟩) (fun ob h1 => ⟨fZ _ _ (by dsimp only; omega), fZ _ _ (by dsimp only; omega)⟩) (fun s ob hs h1 _ _ h2 => ?_)
          · rw [fZ _ _ (by dsimp only; omega)]; exact h2
          · by_cases e : ob = o
            · subst e; exact dZ1
            · by_cases e2 : ob = g + 1
              · subst e2; exact dZ2
              · rw [fZ _ _ (by dsimp only; omega)]; exact h3
          · rw [fZ _ _ (by dsimp only; omega), fZ _ _ (by dsimp only; omega)]; exact h2
        · refine ⟨g + 1, by omega, by omega, by rw [(vZ n2).2.1, if_pos rfl], Or.inr (Or.inl ⟨by rw [(vZ n2).1, if_pos rfl], ?_, fun s hs => ?_⟩)⟩
          · rw [(vZ n2).2.2, if_pos rfl, fZ _ _ (by dsimp only; omega)]; exact pY.symm
          · rw [fZ _ _ (by dsimp only; omega), fZ _ _ (by dsimp only; omega), (unY s hs).1, (unY s hs).2]; decide
        · rw [(vZ n2).2.1, if_pos rfl]
          exact fun e => hob c j hc (by omega) (by rw [hlY]; exact nI_lt hj (by omega)) e.symm
        · exact ⟨fZ _ _ (by dsimp only; omega), fZ _ _ (by dsimp only; omega), fZ _ _ (by dsimp only; omega)⟩
        · rw [(vZ n2).2.1, if_pos rfl]
          exact hob d j hd' hj hl'
        · rw [(vZ n2).1, if_pos rfl] at h; exact absurd h (by decide)
      refine ⟨_, Z, _, g + 1, hC0, hR0, h9.sv (fZ.mo ?_) ((cf.tr (cf.st ?_) (cf.st ?_)).tr ((rAd_fr hn').mo ?_)) rZ iZ, ?_⟩
      · intro j q h; unfold uC; omega
      · unfold uR; dsimp only; omega
      · unfold uR; dsimp only; omega
      · intro j q h; unfold uR; omega
      · rw [rAd_fr hn' _ _ (by dsimp only; omega), gset_r, if_neg (by simp), gset_r, if_neg (by simp), hYr, rUs_fr _ _ (by dsimp only; omega), rKn_fr _ _ (by dsimp only; omega), gset_r, if_neg (by simp), gE _ _ (by dsimp only; omega)]
        exact o66
theorem st_make (hN : 1 ≤ N ∧ N ≤ 4) (hT : T ≤ 500) (h : St N T zz.1 zz.2.1) : ∃ z1, s_make N zz a1 a2 a3 a4 = some z1 ∧ St N (T + 1) z1.1 z1.2.1 := by
  obtain ⟨g, R, I, U, O⟩ := id h
  have hg := I.1.1
  obtain ⟨b, hb⟩ : ∃ b : Int32, b = (if a4 = 0 then (0 : Int32) else 1) := ⟨_, rfl⟩
  have h4 : b = 0 ∨ b = 1 := by
    by_cases e : a4 = 0
    · rw [if_pos e] at hb; exact Or.inl hb
    · rw [if_neg e] at hb; exact Or.inr hb
  rcases rng a1 4 (by omega) with ⟨c, hc, rfl⟩ | bad
  · rcases rng a2 48 (by omega) with ⟨o, ho, rfl⟩ | bad
    · rcases rng a3 16 (by omega) with ⟨z, hz, rfl⟩ | bad
      · have hC : f_X10_make N zz.1 (nI c) (nI o) (nI z) b = ob (f_X10_obtainKind N (cSt zz.1 c) c (nI o) (1 : Int32)) (fun v15 M14 => (if (lg_cmp v15 (0 : Int64)) = 0 then o1 (f_X0_isFull N M14 ) (fun v18 => (if v18 = 0 then o1 (f_X10_isAlone N M14 c) (fun v21 => (if v21 = 0 then ob (f_X10_makeNear N M14 c (nI o) (nI z) b) (fun v25 M24 => some (0, v25, M24)) else ob (f_X1_makeAlone N M14 c (nI o) (nI z) b) (fun v28 M27 => some (0, v28, M27)))) else some (0, (-2199023255557 : Int64), M14))) else some (0, v15, M14))) := by
          unfold f_X10_make gnl
          simp only [c_checkClient_ok hc, o1_s, if_true, c_checkObject_ok ho, c_checkArgument_ok (n := 16) (hi := 15) hz (by omega) rfl, c_startCall hc, ob_s, hc]
        have hR : f_X11_make zz.2.1 (nI c) (nI o) (nI z) b = o1 (f_X11_kindOf (gset zz.2.1 m_o 66 0) (nI o) (1 : Int32)) (fun v9 => (if (lg_cmp v9 (0 : Int64)) = 0 then o1 (f_X11_isAlone (rSt zz.2.1) (nI c)) (fun v14 => ob (f_X11_get (rSt zz.2.1) (nI c) (nI o) (10 : Int32)) (fun v17 M16 => (if (lg_cmp v17 (0 : Int64)) = 0 then (if M16 m_o 6 = (48 : Int32) then some ((-2199023255557 : Int64), M16) else (if v14 = 0 then rMn M16 c o (nI z) b else ob (f_X11_makeAlone M16 (nI c) (nI o) (nI z) b) (fun v50 M49 => some (v50, M49)))) else some (v17, M16)))) else some (v9, gset zz.2.1 m_o 66 0))) := by
          unfold f_X11_make rMn
          simp only [r_isClient_ok hc, r_isObject_ok ho, in_ok (n := 16) (hi := 15) hz (by omega) rfl, o1_s, jn_d, one_0, if_false, lt_d, g66, le_00, if_true]
        have hq := @q_make N (T + 1) zz (nI c) (nI o) (nI z) a4
        rw [← hb] at hq
        have R5 : Rel N g zz.1 (gset zz.2.1 m_o 66 0) := R.fr hN.2 (cf.rf _ _) ((cf.st (A := fun j q => j.1 = 0 ∧ q = 66) ⟨rfl, rfl⟩).mo (fun j q => by unfold rsc; omega))
        have k1 : cSt zz.1 c (1, 0, 0) 3 = nI g := by rw [cSt_n (by decide)]; exact R.ct.1
        have k4 : kdO (cSt zz.1 c) g o 1 = kdO zz.1 g o 1 := by
          unfold kdO
          rw [cSt_n (show ((4, 0, 0) : gI).1 ≠ 30 by decide)]
        rw [r_kindOf R5 hg ho, o1_s] at hR
        unfold f_X10_obtainKind at hC
        rw [c_stop k1 hg ho, o1_s, k4] at hC
        by_cases hk : kdO zz.1 g o 1 = 0
        · obtain ⟨hog, hdir⟩ := kd_0 hk
          obtain ⟨v, Mc', Mr', e1, e2, e3, e4, e5⟩ := first_ob hN.2 hc hT hog R I U O
          obtain ⟨n, al, hn, hl, al1, al2, alc, alr⟩ := alone_eq hN.2 hc R I
          have a1' : f_X10_isAlone N Mc' c = some (zb al) := by
            refine alc Mc' ?_ ?_ ?_ ?_
            · rw [e3.2.1 _ _ (by unfold tC fC; dsimp only; omega), cSt_n (by simp)]
            · rw [e3.2.1 _ _ (by unfold tC fC; dsimp only; omega), cSt_n (by simp)]
            · rw [e3.2.1 _ _ (by unfold tC fC; dsimp only; omega), cSt_o (by decide)]
            · rw [cNr.fr hN.2 e3.2.1 (by unfold tC fC; dsimp only; omega) (fun q _ => by unfold tC fC; dsimp only; omega)]
              exact cNr.fr (A := fun j q => j.1 = 30) hN.2 (cf.st rfl) (by simp) (fun q _ => by simp)
          have a2' : f_X11_isAlone (rSt zz.2.1) (nI c) = some (zb al) := by
            refine alr _ ?_ ?_ ?_
            · rw [rSt_n (by simp)]
            · rw [rSt_n (by simp)]
            · exact rNr.fr (A := fun j q => j.1 = 0) hN.2 hc ((cf.st rfl).tr (cf.st rfl)) (fun q _ => by simp) (fun q _ => by simp)
          rw [hk, if_pos (lg_cmp_z 0), e1, ob_s, ob_s, a1'] at hC
          rw [hk, if_pos (lg_cmp_z 0), a2', o1_s, e2, ob_s] at hR
          have hS : St N (T + 1) Mc' Mr' := ci_st e3.1 (by omega)
          by_cases hv : v = 0
          · obtain ⟨hh, gt⟩ := e4 hv
            have ht := (e3.2.2.2.1 hv).2.1
            have lgv : lg_cmp v 0 = 0 := by rw [lg_cmp0]; exact hv
            have hd' : Mc' (4, 0, 0) o = 1 := by rw [e3.2.1 _ _ (by unfold tC fC; dsimp only; omega), cSt_n (by simp)]; exact hdir
            rw [if_pos lgv, c_isFull0 e3.1.1.ct.1 hg, o1_s] at hC
            rw [if_pos lgv, e3.1.1.ct.2.1] at hR
            by_cases hf : g < 47
            · rw [if_pos hf, if_pos rfl, o1_s] at hC
              rw [if_neg (by rw [show (48 : Int32) = nI 48 from rfl, neq (by omega) (by omega)]; omega)] at hR
              cases al with
              | false =>
                obtain ⟨v2, Mc2, Mr2, f1, f2, f3, f4⟩ := make_near (a3 := nI z) (a4 := b) hN.2 hc hog hf (by omega) e3.1 hh gt hd' h4
                rw [zb_f, if_pos rfl, f1, ob_s] at hC
                rw [zb_f, if_pos rfl, f2] at hR
                exact hq hC hR (f4.trans e5) (by omega) (fun _ => rfl) (ci_st f3 (by omega))
              | true =>
                obtain ⟨v2, Mc2, Mr2, g2, f1, f2, f3, f4⟩ := make_alone (a3 := nI z) (a4 := b) hN.2 hc hog hf (by omega) e3.1 hh ht hd' h4
                rw [zb_t, if_neg (by decide), f1, ob_s] at hC
                rw [zb_t, if_neg (by decide), f2, ob_s] at hR
                exact hq hC hR (f4.trans e5) (by omega) (fun _ => rfl) (ci_st f3 (by omega))
            · rw [if_neg hf, if_neg (by decide)] at hC
              rw [if_pos (by rw [show (48 : Int32) = nI 48 from rfl, neq (by omega) (by omega)]; omega)] at hR
              exact hq hC hR e5 (by omega) (fun _ => rfl) hS
          · have lgv : ¬ lg_cmp v 0 = 0 := by rw [lg_cmp0]; exact hv
            rw [if_neg lgv] at hC hR
            exact hq hC hR e5 (by omega) (fun _ => rfl) hS
        · rw [if_neg (by rw [lg_cmp0]; exact hk), ob_s, if_neg (by rw [lg_cmp0]; exact hk)] at hC
          rw [if_neg (by rw [lg_cmp0]; exact hk)] at hR
          exact hq hC hR (g66 _ _) (by omega) (fun _ => rfl) (st_begun hN.2 hc h)
      · have c1 : f_X10_make N zz.1 (nI c) (nI o) a3 (if a4 = 0 then (0 : Int32) else 1) = some (2, 0, zz.1) := by
          unfold f_X10_make
          rw [c_checkClient_ok hc, o1_s, if_pos rfl, c_checkObject_ok ho, o1_s, if_pos rfl, c_checkArgument_bad (n := 16) (hi := 15) bad (by omega) (by omega) rfl, o1_s, if_neg (by decide)]
        have r1 : f_X11_make zz.2.1 (nI c) (nI o) a3 (if a4 = 0 then (0 : Int32) else 1) = some (0, gset zz.2.1 m_o 66 2) := by
          unfold f_X11_make
          simp only [r_isClient_ok hc, r_isObject_ok ho, in_bad (n := 16) (hi := 15) bad (by omega) (by omega) rfl, o1_s, jn_d, one_0, if_true, lt_d, g66, le_20, if_false]
        exact q_make c1 r1 (g66 _ _) (by omega) (fun h => absurd h (by decide)) (h.thr hN.2 2)
    · have c1 : f_X10_make N zz.1 (nI c) a2 a3 (if a4 = 0 then (0 : Int32) else 1) = some (1, 0, zz.1) := by
        unfold f_X10_make
        rw [c_checkClient_ok hc, o1_s, if_pos rfl, c_checkObject_bad bad, o1_s, if_neg (by decide)]
      have r1 : f_X11_make zz.2.1 (nI c) a2 a3 (if a4 = 0 then (0 : Int32) else 1) = some (0, gset zz.2.1 m_o 66 1) := by
        unfold f_X11_make
        simp only [r_isClient_ok hc, r_isObject_bad bad, o1_s, jn_d, one_0, if_true, lt_d, g66, le_10, if_false]
      exact q_make c1 r1 (g66 _ _) (by omega) (fun h => absurd h (by decide)) (h.thr hN.2 1)
  · have c1 : f_X10_make N zz.1 a1 a2 a3 (if a4 = 0 then (0 : Int32) else 1) = some (1, 0, zz.1) := by
      unfold f_X10_make
      rw [c_checkClient_bad bad, o1_s, if_neg (by decide)]
    have r1 : f_X11_make zz.2.1 a1 a2 a3 (if a4 = 0 then (0 : Int32) else 1) = some (0, gset zz.2.1 m_o 66 1) := by
      unfold f_X11_make
      simp only [r_isClient_bad bad, o1_s, jn_d, if_true, lt_d, g66, le_10, if_false]
    exact q_make c1 r1 (g66 _ _) (by omega) (fun h => absurd h (by decide)) (h.thr hN.2 1)
end MA
