/-! layer 2: giveSeveral and mergeMany in step -/
def kO (y : Nat) (j : gI) (q : Nat) : Prop := ((j.1 = 51 ∨ j.1 = 52 ∨ j.1 = 53 ∨ j.1 = 22) ∧ j.2.1 < 4 ∧ q = y) ∨ (j.1 = 55 ∧ j.2.1 < 4 ∧ j.2.2 = y) ∨ ((j.1 = 60 ∨ j.1 = 61 ∨ j.1 = 62 ∨ j.1 = 64) ∧ j.2.1 < 192 ∧ j.2.1 % 48 = y) ∨ j.1 = 14
def lOj (y : Nat) (j : gI) (q : Nat) : Prop := ((j.1 = 11 ∨ j.1 = 12 ∨ j.1 = 13 ∨ j.1 = 15 ∨ j.1 = 21) ∧ q % 48 = y) ∨ (j.1 = 14 ∧ q / 8 % 48 = y) ∨ ((j.1 = 16 ∨ j.1 = 17) ∧ q / 6 % 48 = y) ∨ (j.1 = 18 ∧ q / 48 % 48 = y) ∨ j.1 = 45 ∨ (j.1 = 0 ∧ q = 55)
section ZK
variable {N g B s o c d x y z T n m t l i j a b : Nat} {A E M M' X Mc Mr Mc' Mr' : gM} {row a3 : gI} {D P : Nat → Bool} {G pd v w nr a1 a2 a4 a5 : Int32} {f : Nat → Int32} {zz : lS}
theorem lO_nz (hy : y < 48) (hD : D y = false) (h : cf (lOj y) M M') : cf (fun j q => ¬ zZ D P j q) M M' := fun j q hn => h j q (fun hl => hn (fun z => by
  unfold lOj at hl
  rcases z with ⟨z, z1, z2⟩ | ⟨z, z1, z2⟩
  · have : q % 48 = y := by rcases z with z | z | z <;> rw [z] at hl <;> dsimp only at hl <;> omega
    rw [this, hD] at z2; exact absurd z2 (by decide)
  · rw [z] at hl; dsimp only at hl; omega))
/-- an object at all servers -/
theorem obj_rel (hN : N ≤ 4) (hy : y < 48) (R : Rel N g Mc Mr) (hc : cf (kO y) Mc Mc') (hr : cf (lOj y) Mr Mr') (sv : ∀ s, s < N → rSv N s y Mc' Mr') : Rel N g Mc' Mr' := by
  refine R.srv hN (hc.mo (fun j q h => ?_)) (hr.mo (fun j q h => ?_)) (fun s hs o ho => ?_)
  · revert h; unfold kO aSv csc; omega
  · revert h; unfold lOj bSv rsc; omega
  · by_cases e : o = y
    · subst e; exact sv s hs
    · refine (R.sv hs ho).fr hN hc hr ?_ ?_
      · intro j q; unfold kSv kO; omega
      · intro j q; unfold lSv lOj; omega
theorem sub6 (h : 6 ≤ n) : nI n - (6 : Int32) = nI (n - 6) := pk_sub h
theorem nle6 (hn : n ≤ 24) : (nI n ≤ (6 : Int32)) = (n ≤ 6) := nle (b := 6) (by omega) (by omega)
theorem ovf (hn : n ≤ 24) : (if (0 : Int32) < nI n - 6 then nI n - 6 else 0) = nI (n - 6) := by
  by_cases h6 : 6 ≤ n
  · rw [sub6 h6]
    by_cases h7 : n = 6
    · subst h7; rfl
    · have hp0 : (0 : Int32) < nI (n - 6) := (nI_lt (by omega) (by omega) : nI 0 < nI (n - 6))
      rw [if_pos hp0]
  · have : n = 0 ∨ n = 1 ∨ n = 2 ∨ n = 3 ∨ n = 4 ∨ n = 5 := by omega
    rcases this with e | e | e | e | e | e <;> subst e <;> decide
theorem r_manyHead (hn : n ≤ 24) : ∃ J0 : gM → Option gM, (∀ Mx : gM, f_X11_mergeMany Mx (nI y) = o1 (f_X11_clearRow Mx m_row (0 : Int32)) (fun M2 => f_X11_mergeMany_L11 (nI y) J0 100 (0 : Int32) M2)) ∧ ∀ Rb Rm Rn : gM, Rb m_o 53 = G → f_X11_mark Rb (nI y) G = some Rm → Rm m_o 53 = G → f_X11_count Rm m_row (0 : Int32) G (nI y) = some Rn → Rn m_o 61 = nI n → J0 Rb = f_X11_mergeMany_L176 (nI y) (nI (min n 6)) (fun M18 => o1 (f_X11_endPromises M18 (nI y) (M18 m_o 53) (-1 : Int32)) (fun M21 => some M21)) 100 (0 : Int32) (gset Rn m_o 46 (Rn m_o 46 + nI (n - 6))) := by
  refine ⟨_, fun Mx => (rfl : f_X11_mergeMany Mx (nI y) = o1 (f_X11_clearRow Mx m_row (0 : Int32)) (fun M2 => jn _ (fun J103 => f_X11_mergeMany_L11 (nI y) J103 100 (0 : Int32) M2))).trans (congrArg (o1 (f_X11_clearRow Mx m_row (0 : Int32))) (funext (fun M2 => jn_d _ _))), fun Rb Rm Rn b53 u1 m53 hcnt n61 => ?_⟩
  · have o61 : ∀ w, gset Rn m_o 46 w m_o 61 = nI n := fun w => by rw [gset_o (by simp)]; exact n61
    show lt (Rb m_o 53) _ = _
    rw [lt_d, b53, u1, o1_s, lt_d, m53, hcnt, o1_s, lt_d, lt_d, n61, jn_d]
    by_cases h6 : n ≤ 6
    · have hle : nI n ≤ (6 : Int32) := by rw [nle6 hn]; exact h6
      have ez : Rn m_o 46 + 0 = Rn m_o 46 + nI (n - 6) := by rw [show n - 6 = 0 by omega]; rfl
      rw [if_pos hle]
      show lt (gset Rn m_o 46 (Rn m_o 46 + 0)) _ = _
      rw [ez, lt_d, lt_d, o61, jn_d, if_pos hle, lt_d]
      show jn _ _ = _
      rw [jn_d, show nI (min n 6) = nI n from by rw [show min n 6 = n by omega]]
      rfl
    · have hle : ¬ nI n ≤ (6 : Int32) := by rw [nle6 hn]; exact h6
      rw [if_neg hle, lt_d, sub6 (by omega)]
      show lt (gset Rn m_o 46 (Rn m_o 46 + nI (n - 6))) _ = _
      rw [lt_d, lt_d, o61, jn_d, if_neg hle]
      show jn _ _ = _
      rw [jn_d, show nI (min n 6) = (6 : Int32) from by rw [show min n 6 = 6 by omega]; rfl]
      rfl
theorem many_step (hN : N ≤ 4) (hyg : y ≤ g) (hD : D y = false) (hP : P y = false) (hGb : ∀ i, N ≤ i → i < 32 → bt G i = false) (h : MM N g G pd D P Mc Mr) (C : Cd N n Mc Mr) (hn1 : 1 ≤ n) (hd : Mc (4, 0, 0) y = 0) (hpar : ∀ s, s < N → bt G s = true → 1 ≤ y → ∀ p, p < 48 → Mc (2, 0, 0) y = nI p → Mc (51, s, 0) p = 1 ∧ ¬ Mc (56, s, 0) y = 0) : ∃ Mc' Mr', f_X4_giveSeveral N Mc (nI y) = some Mc' ∧ f_X11_mergeMany Mr (nI y) = some Mr' ∧ MM N g G pd D P Mc' Mr' ∧ (∀ s, s < N → bt G s = true → Mc' (51, s, 0) y = 1) ∧ cf (oC y) Mc Mc' ∧ cf oQ Mr Mr' ∧ cf (fun j q => ¬ zZ D P j q) Mr Mr' := by
  obtain ⟨R, I, g1, g2, g3⟩ := id h
  have hg := I.1.1
  have hy : y < 48 := by omega
  obtain ⟨c1, c2, c3, c4⟩ := id C
  have n0 : Mr m_o 0 = nI N := by have := R.n0; rw [swp_r (zZ_n (by simp))] at this; exact this
  have n1 : Mr m_o 1 = nI (N + 4) := by have := R.n1; rw [swp_r (zZ_n (by simp))] at this; exact this
  have hdr : Mr m_isDirectory y = 0 := by have := (R.ct.2.2 y hy).2.2; rw [swp_r (zZ_n (by simp))] at this; rw [← this]; exact hd
  obtain ⟨J0, hJ1, hJ2⟩ := r_manyHead (n := n) (y := y) (G := G) c1
  -- the row
  obtain ⟨Ma, hMa⟩ : ∃ X, X = gpu Mc (14, 0, 0) 0 (N + 4) (fun _ => 0) := ⟨_, rfl⟩
  obtain ⟨Ra, hRa⟩ : ∃ X, X = gpu Mr m_row (8 * 0) 8 (fun _ => 0) := ⟨_, rfl⟩
  have fa : cf (fun j q => j.1 = 14) Mc Ma := by rw [hMa]; exact cf.pu (fun _ _ _ => rfl)
  have da : cf (fun j q => j.1 = 45) Mr Ra := by rw [hRa]; exact cf.pu (fun _ _ _ => rfl)
  have sva : ∀ s, s < N → rSv N s y Ma Ra := fun s hs => (live_sv R hs hN hy hD hP).fr hN fa da (fun j q => by unfold kSv; omega) (fun j q => by unfold lSv; omega)
  obtain ⟨Mb, Rb, p1, p2, p3, p4, p5⟩ := raise_all (A := Ma) (E := Ra) (G := G) (J' := J0) hN hy sva (fun s hs => ⟨(I.2.2.2.1 s hs y hy).fr fa (fun j q => by unfold eVr; omega), by rw [fa _ _ (by simp)]; exact (I.2.2.1 s hs y hy).1⟩) (by rw [da _ _ (by simp)]; exact n0) (by rw [da _ _ (by simp)]; exact n1) (by rw [da _ _ (by simp)]; exact g2) (fun k hk => by rw [hRa, hMa, gpu_r, gpu_r, if_pos ⟨rfl, by omega, by omega⟩, if_pos ⟨rfl, by omega, by omega⟩])
  have fb : cf (fun j q => j.1 = 14) Mc Mb := fa.tr p4
  have db : cf (fun j q => j.1 = 45) Mr Rb := da.tr p5
  -- the class
  obtain ⟨Mg, q1, q2, q3⟩ := c_giveL (M := Mb) (y := y) (G := G) (n := n) (J := fun M3 => lt (M3 (13, 0, 0) 6) (fun v4 => o1 (f_X6_countAll N M3 v4 (nI y)) (fun M6 => lt (M6 (13, 0, 0) 6) (fun v7 => o1 (f_X4_noteChange N M6 v7 (nI y)) (fun M9 => rd M9 (9, 0, 0) 8 (2 : Int32) (fun v10 => lt (M9 (60, 192, 0) 3) (fun v11 => wr M9 (9, 0, 0) 8 (2 : Int32) (v10 + (if (0 : Int32) < (v11 - (6 : Int32)) then (v11 - (6 : Int32)) else (0 : Int32))) (fun M12 => some M12)))))))) hN hy (by rw [fb _ _ (by simp)]; exact g1) (by rw [fb _ _ (by simp)]; exact c2) c1
  obtain ⟨Mm, m1, m2, m3⟩ := c_grow (M := Mg) (v := G) (o := y) hN hy
  obtain ⟨Mn, k1, k2, k3⟩ := c_countL (M := Mm) (v := G) (o := y) hN hy
  have fg : cf (kO y) Mc Mn := by
    refine (((fb.mo (fun j q h => ?_)).tr (q2.mo (fun j q h => ?_))).tr (m2.mo (fun j q h => ?_))).tr (k2.mo (fun j q h => ?_))
    · unfold kO; omega
    · obtain ⟨s, hs, _, h⟩ := h; revert h; unfold gC kO; omega
    · unfold kO; omega
    · unfold kO; omega
  have hK : ∀ (j : gI) q, ¬ j.1 = 22 → ¬ (j.1 = 55) → Mn j q = Mg j q := fun j q h h' => by rw [k2 _ _ (fun z => h' z.1), m2 _ _ (fun z => h z.1)]
  -- the reference
  obtain ⟨Rm, u1, u2, u3⟩ := r_mark (M := Rb) (v := G) (o := y) hN hy (by rw [db _ _ (by simp)]; exact n0)
  obtain ⟨Rn, hRn⟩ : ∃ X, X = gpu Rm m_row (8 * 0) N (fun k => if bt G k = true then Rm m_marks (48 * k + y) else Rm m_row (8 * 0 + k)) := ⟨_, rfl⟩
  have dn : cf (fun j q => j.1 = 45) Rm Rn := by rw [hRn]; exact cf.pu (fun _ _ _ => rfl)
  have hcnt : f_X11_count Rm m_row (0 : Int32) G (nI y) = some Rn := by
    rw [hRn]; exact r_count (i := 0) (by rw [u2 _ _ (by simp), db _ _ (by simp)]; exact n0) hN hy (by decide) (by decide) (by decide) (by decide)
  have eRn : ∀ (j : gI) q, ¬ j.1 = 45 → ¬ j.1 = 21 → Rn j q = Mr j q := fun j q a b => by rw [dn _ _ a, u2 _ _ (fun z => b z.1), db _ _ a]
  obtain ⟨ov, hov⟩ : ∃ q, q = n - 6 := ⟨_, rfl⟩
  obtain ⟨Ro, hRo⟩ : ∃ X, X = gset Rn m_o 46 (Mr m_o 46 + nI ov) := ⟨_, rfl⟩
  have dO : cf (fun j q => j.1 = 0 ∧ q = 46) Rn Ro := by rw [hRo]; exact cf.st ⟨rfl, rfl⟩
  obtain ⟨Rp, r1, r2, r3, r4⟩ := r_manyL (M := Ro) (y := y) (G := G) (b := min n 6) (J := fun M18 => o1 (f_X11_endPromises M18 (nI y) (M18 m_o 53) (-1 : Int32)) (fun M21 => some M21)) hN hy (by rw [dO _ _ (by simp), eRn _ _ (by simp) (by simp)]; exact n0) (by rw [dO _ _ (by simp), eRn _ _ (by simp) (by simp)]; exact g2) (by omega)
  -- without the tally
  obtain ⟨Rq, hRq⟩ : ∃ X, X = gset Rp m_o 46 (Mr m_o 46) := ⟨_, rfl⟩
  have dq : cf (fun j q => j.1 = 0 ∧ q = 46) Rp Rq := by rw [hRq]; exact cf.st ⟨rfl, rfl⟩
  have q46 : ∀ k, ¬ gQ G y k m_o 46 := fun k hh => by
    rcases hh with ⟨s, _, _, hh⟩ | hh
    · revert hh; unfold gR; dsimp only; omega
    · exact absurd hh.2 (by decide)
  have e46 : Rp m_o 46 = Mr m_o 46 + nI ov := by rw [r2 _ _ (q46 N), hRo, gset_aa]
  have dl : cf (lOj y) Mr Rq := fun j q hn => by
    by_cases e : j = m_o ∧ q = 46
    · rw [e.1, e.2, hRq, gset_aa]
    · have e' : ¬ (j.1 = 0 ∧ q = 46) ∨ (j.1 = 0 ∧ q = 46) := by omega
      by_cases z : j.1 = 0 ∧ q = 46
      · rw [hRq, gset_o e, r2 _ _ (fun hh => by
          rcases hh with ⟨s, _, _, hh⟩ | hh
          · revert hh; unfold gR; omega
          · omega), hRo, gset_o e, eRn _ _ (by omega) (by omega)]
      · rw [dq _ _ z, r2 _ _ (fun hh => hn (by
          rcases hh with ⟨s, hs, _, hh⟩ | hh
          · revert hh; unfold gR lOj; omega
          · unfold lOj; omega)), dO _ _ z]
        by_cases z2 : j.1 = 45
        · exact absurd (by unfold lOj; omega) hn
        · rw [dn _ _ z2, u2 _ _ (fun hh => hn (by unfold lOj; omega)), db _ _ z2]
  have dz := lO_nz (P := P) hy hD dl
  have svq : ∀ s, s < N → rSv N s y Mn Rq := fun s hs => by
    have sv0 := live_sv R hs hN hy hD hP
    have eb : rB N s y Mn Rq := sv0.b.fr hN fg dl (fun j q => by unfold kO; omega) (fun j q => by unfold lOj; omega)
    have ec : rC s y Mn Rq := by
      have z := sv0.cc
      unfold rC at z ⊢
      rw [k2 _ _ (by dsimp only; omega), m3 s hs, show Rq m_marks (48 * s + y) = Rm m_marks (48 * s + y) from by
        rw [dq _ _ (by simp), r2 _ _ (fun hh => by
          rcases hh with ⟨s, _, _, hh⟩ | hh
          · revert hh; unfold gR; dsimp only; omega
          · exact absurd hh.1 (by decide)), dO _ _ (by simp), dn _ _ (by simp)], u3 s hs, db _ _ (by simp), ← z, q2 _ _ (fun ⟨s', _, _, hh⟩ => by revert hh; unfold gC; dsimp only; omega), fb _ _ (by simp)]
    by_cases hb : bt G s = true
    · obtain ⟨a1, a2, a3, a4, a5, a6⟩ := q3 s hs hb
      obtain ⟨b1, b2, b3, b4, b5, b6⟩ := r4 s hs hb
      have hRo' : ∀ (j : gI) q, 63 ≤ j.1 → Ro j q = Mr j q := fun j q hj => by rw [dO _ _ (by omega), eRn _ _ (by omega) (by omega)]
      have hMb' : ∀ (j : gI) q, j.2.1 = 192 → ¬ j.1 = 14 → Mb j q = Mc j q := fun j q _ hj => fb _ _ hj
      obtain ⟨x1, x2, x3, -⟩ := c4 0 (by omega)
      have hdq : Rq m_isDirectory y = 0 := by rw [dl _ _ (by unfold lOj; dsimp only; omega)]; exact hdr
      refine rSv_of ⟨?_, ?_, ?_, fun k hk => ?_⟩ eb ec ⟨?_, fun i hi hl => ?_⟩
      · rw [hK _ _ (by simp) (by simp), a1, dq _ _ (by simp), b1]
      · rw [hK _ _ (by simp) (by simp), a2, hdq, dq _ _ (by simp), b1, dq _ _ (by simp), b2, if_neg (fun z => z.elim (by decide) (fun z => z rfl)), hMb' _ _ rfl (by simp), hRo' _ _ (by decide)]; exact x1
      · rw [hK _ _ (by simp) (by simp), a3, hdq, dq _ _ (by simp), b1, dq _ _ (by simp), b3, if_neg (fun z => z.elim (by decide) (fun z => z rfl)), hMb' _ _ rfl (by simp), hRo' _ _ (by decide)]; exact x2
      · have hhq : ¬ Rq m_has (48 * s + y) = 0 := by rw [dq _ _ (by simp), b1]; decide
        have hvq : Rq m_vector (8 * (48 * s + y) + k) = gpu Rm m_row (8 * 0) N (fun k => if bt G k = true then Rm m_marks (48 * k + y) else Rm m_row (8 * 0 + k)) m_row k := by rw [dq _ _ (by simp), b4 k (by omega), dO _ _ (by simp), hRn]
        rw [if_neg hhq, hvq, k3 s hs k, gpu_r]
        have em : Mm (55, s, y) k = Mb (14, 0, 0) k := by rw [m2 _ _ (by simp), a4 k hk]
        have er : Rm m_row k = Mb (14, 0, 0) k := by rw [u2 _ _ (by simp)]; exact p3 k hk
        by_cases hkN : k < N
        · rw [if_pos (show m_row = m_row ∧ 8 * 0 ≤ k ∧ k < 8 * 0 + N from ⟨rfl, by omega, by omega⟩)]
          by_cases hbk : bt G k = true
          · rw [if_pos ⟨hb, hkN, hbk⟩, show k - 8 * 0 = k by omega, if_pos hbk, m3 k hkN, u3 k hkN, if_pos hbk, if_pos hbk]
            have := (live_sv R hkN hN hy hD hP).cc
            unfold rC at this
            rw [q2 _ _ (fun ⟨s', _, _, hh⟩ => by revert hh; unfold gC; dsimp only; omega), fb _ _ (by simp), db _ _ (by simp), this]
          · rw [if_neg (fun z => hbk z.2.2), show k - 8 * 0 = k by omega, if_neg hbk, show 8 * 0 + k = k by omega, em, er]
        · rw [if_neg (fun z => hkN z.2.1), if_neg (by omega), em, er]
      · rw [hK _ _ (by simp) (by simp), a5, dq _ _ (by simp), b5]
      · rw [dq _ _ (by simp), b5, nlt (by omega) (by omega)] at hl
        obtain ⟨y1, y2, y3⟩ := a6 i hl
        obtain ⟨w1, w2, w3⟩ := b6 i hl
        obtain ⟨o1', o2', o3', -⟩ := c4 i (by omega)
        refine ⟨?_, ?_, fun k hk => ?_⟩
        · rw [hK _ _ (by simp) (by simp), y1, dq _ _ (by simp), w1, hMb' _ _ rfl (by simp), hRo' _ _ (by decide)]; exact o1'
        · rw [hK _ _ (by simp) (by simp), y2, dq _ _ (by simp), w2, hMb' _ _ rfl (by simp), hRo' _ _ (by decide)]; exact o2'
        · rw [hK _ _ (by simp) (by simp), y3 k hk, dq _ _ (by simp), w3 k (by omega), hMb' _ _ rfl (by simp), hRo' _ _ (by decide)]; exact o3' k hk
    · have fs : cf (fun j q => ¬ (((j.1 = 51 ∨ j.1 = 52 ∨ j.1 = 53) ∧ j.2.1 = s ∧ q = y) ∨ (j.1 = 55 ∧ j.2.1 = s ∧ j.2.2 = y) ∨ ((j.1 = 60 ∨ j.1 = 61 ∨ j.1 = 62 ∨ j.1 = 64) ∧ j.2.1 = 48 * s + y))) Mc Mn := fun j q hnn => by
        have hj := Classical.not_not.mp hnn
        have hgg : ¬ gG G y N j q := fun ⟨s', hs', hb', hh⟩ => by
          unfold gC at hh
          have : s' = s := by omega
          exact hb (by rw [← this]; exact hb')
        have hm : Mm j q = Mc j q := by rw [m2 _ _ (by omega), q2 _ _ hgg, fb _ _ (by omega)]
        by_cases e55 : j.1 = 55
        · have ej : j = (55, s, y) := by
            obtain ⟨j1, j2, j3⟩ := j
            dsimp only at e55 hj
            have : j2 = s ∧ j3 = y := by omega
            rw [e55, this.1, this.2]
          rw [ej, k3 s hs q, if_neg (fun z => hb z.1), ← ej]; exact hm
        · rw [k2 _ _ (fun z => e55 z.1)]; exact hm
      have ds : cf (fun j q => ¬ (((j.1 = 11 ∨ j.1 = 12 ∨ j.1 = 13 ∨ j.1 = 15) ∧ q = 48 * s + y) ∨ (j.1 = 14 ∧ 8 * (48 * s + y) ≤ q ∧ q < 8 * (48 * s + y) + 8) ∨ ((j.1 = 16 ∨ j.1 = 17) ∧ 6 * (48 * s + y) ≤ q ∧ q < 6 * (48 * s + y) + 6) ∨ (j.1 = 18 ∧ 48 * (48 * s + y) ≤ q ∧ q < 48 * (48 * s + y) + 48) ∨ (j.1 = 10 ∧ q = y))) Mr Rq := fun j q hnn => by
        have hj := Classical.not_not.mp hnn
        have hgg : ¬ gQ G y N j q := fun hh => by
          rcases hh with ⟨s', hs', hb', hh⟩ | hh
          · unfold gR at hh
            have : s' = s := by omega
            exact hb (by rw [← this]; exact hb')
          · omega
        rw [dq _ _ (by omega), r2 _ _ hgg, dO _ _ (by omega), dn _ _ (by omega), u2 _ _ (by omega), db _ _ (by omega)]
      exact rSv_of (sv0.a.fr hN fs ds (fun j q => by omega) (fun j q => by omega)) eb ec (sv0.dd.fr hN fs ds (fun j q => by omega) (fun j q => by omega))
  have RN : Rel N g Mn (swp N G D P Rq) := obj_rel hN hy R fg (swp_cf hN dl dz) (fun s hs => sv_live hN hs hy hD hP (svq s hs))
  have IG : JInv N g Mg := obtG_inv hN hyg (I.free0 hN (fb.mo (fun j q h => by unfold iFree csc; omega))) q2 (fun s hs hb => by
    obtain ⟨a1, a2, a3, a4, a5, a6⟩ := q3 s hs hb
    obtain ⟨-, -, -, x4⟩ := c4 0 (by omega)
    have e1 : ∀ (j : gI) q, j.2.1 = 192 → ¬ j.1 = 14 → Mb j q = Mc j q := fun j q _ hj => fb _ _ hj
    refine ⟨a1, by rw [a3, e1 _ _ rfl (by simp)]; exact x4, min n 6, by omega, a5, fun _ => ⟨a1, ?_, ?_, ?_⟩, fun i hi => ?_⟩
    · rw [q2 _ _ (fun ⟨s', _, _, hh⟩ => by revert hh; unfold gC; dsimp only; omega), fb _ _ (by simp)]; exact hd
    · rw [a2, (a6 0 (by omega)).1]
    · rw [a3, (a6 0 (by omega)).2.1]
    · rw [(a6 i hi).2.1, e1 _ _ rfl (by simp)]; exact (c4 i (by omega)).2.2.2) (fun s hs hb y1 p hp e => by
    rw [fb _ _ (by simp)] at e ⊢
    rw [fb _ _ (by simp)]
    exact hpar s hs hb y1 p hp e)
  have IN : JInv N g Mn := (IG.free0 hN (m2.mo (fun j q h => by unfold iFree; omega))).free0 hN (k2.mo (fun j q h => by unfold iFree; omega))
  have q13 : ∀ q, Mg (13, 0, 0) q = Mc (13, 0, 0) q := fun q => by rw [q2 _ _ (fun ⟨s', _, _, hh⟩ => by revert hh; unfold gC; dsimp only; omega), fb _ _ (by simp)]
  have N13 : ∀ q, Mn (13, 0, 0) q = Mc (13, 0, 0) q := fun q => by rw [hK _ _ (by simp) (by simp)]; exact q13 q
  obtain ⟨Mh, t1, t2, t3, t4, t5, t6⟩ := noteG hN hy hD hGb RN IN (by rw [N13]; exact g1)
  have e46q : swp N G D P (rEp Rq y G (-1 : Int32)) m_o 46 = Mr m_o 46 := by
    rw [swp_r (zZ_n (by simp))]
    unfold rEp
    rw [if_neg (fun z => absurd z.1 (by decide)), hRq, gset_aa]
  have hRs : rEp Rp y G (-1 : Int32) = gset (rEp Rq y G (-1 : Int32)) m_o 46 (Mr m_o 46 + nI ov) := by
    rw [← rEp_comm (by decide), hRq, gset_tw, ← e46, gset_self]
  have h9 : Mh (60, 192, 0) 3 = nI n := by
    rw [t6 _ _ (by simp), hK _ _ (by simp) (by simp), q2 _ _ (fun ⟨s', _, _, hh⟩ => by revert hh; unfold gC; dsimp only; omega), fb _ _ (by simp)]; exact c2
  have hov1 : (if (0 : Int32) < nI n - 6 then nI n - 6 else 0) = nI ov := by rw [hov]; exact ovf c1
  have fin9 := t2.ta1 (v := nI ov) (k := 2) hN (by omega) (by omega)
  rw [show (44 + 2 : Nat) = 46 from rfl, e46q, ← swp_st hN (zZ_n (by simp)), ← hRs] at fin9
  have dS : cf (fun j q => j.1 = 26) Rp (rEp Rp y G (-1 : Int32)) := fun j q h => if_neg (fun z => h (by rw [z.1]))
  have f9 : cf (fun j q => j.1 = 9) Mh (gset Mh (9, 0, 0) 2 (Mh (9, 0, 0) 2 + nI ov)) := cf.st rfl
  have e55 : Rp m_o 55 = Mr m_o 55 + nI (cntF (bt G) 0 N) := by rw [r3, dO _ _ (by simp), eRn _ _ (by simp) (by simp)]
  have p53 : Rp m_o 53 = G := by
    rw [r2 _ _ (fun hh => by
      rcases hh with ⟨s', _, _, hh⟩ | hh
      · revert hh; unfold gR; dsimp only; omega
      · exact absurd hh.2 (by decide)), dO _ _ (by simp), eRn _ _ (by simp) (by simp)]; exact g2
  refine ⟨gset Mh (9, 0, 0) 2 (Mh (9, 0, 0) 2 + nI ov), rEp Rp y G (-1 : Int32), ?_, ?_, ⟨fin9, t3.free0 hN (f9.mo (fun j q h => by unfold iFree; omega)), ?_, ?_, ?_⟩, fun s hs hb => ?_, ?_, ?_, ?_⟩
  · unfold f_X4_giveSeveral f_X4_raiseToAll
    rw [c_fill 0 (cN14 _) (by omega), o1_s, ← hMa, lt_d, fa _ _ (by simp), g1, c_holders hN hy, o1_s, p1, o1_s, jn_d]
    refine q1.trans ?_
    unfold f_X6_countAll
    rw [lt_d, q13, g1, m1, o1_s, k1, o1_s, lt_d, N13, g1, t1, o1_s, show rd Mh (9, 0, 0) 8 (2 : Int32) _ = _ from rd_n (k := 2) (by omega) (by omega), lt_d, h9, hov1, show wr Mh (9, 0, 0) 8 (2 : Int32) _ _ = _ from wr_n (k := 2) (by omega) (by omega)]
  · rw [hJ1, show f_X11_clearRow Mr m_row (0 : Int32) = _ from r_clearRow (i := 0) (by decide) (by decide), o1_s, ← hRa]
    refine p2.trans ?_
    have b53 : Rb m_o 53 = G := by rw [db _ _ (by simp)]; exact g2
    have m53 : Rm m_o 53 = G := by rw [u2 _ _ (by simp)]; exact b53
    have n61 : Rn m_o 61 = nI n := by rw [eRn _ _ (by simp) (by simp)]; exact c3
    have n46 : Rn m_o 46 = Mr m_o 46 := eRn _ _ (by simp) (by simp)
    rw [hJ2 Rb Rm Rn b53 u1 m53 hcnt n61, n46, ← hov, ← hRo]
    refine r1.trans ?_
    rw [p53, r_ends hy, o1_s]
  · rw [f9 _ _ (by simp)]; exact t4
  · rw [dS _ _ (by simp)]; exact p53
  · rw [f9 _ _ (by simp), t5, N13, g3, dS _ _ (by simp), e55, Int32.add_assoc, Int32.add_comm pd, ← Int32.add_assoc]
  · rw [f9 _ _ (by simp), t6 _ _ (by simp), hK _ _ (by simp) (by simp)]; exact (q3 s hs hb).1
  · refine ((fg.mo (fun j q h => ?_)).tr (t6.mo (fun j q h => ?_))).tr (f9.mo (fun j q h => ?_))
    · revert h; unfold kO oC; omega
    · unfold oC; rcases h with h | h
      · exact Or.inr (Or.inr (Or.inr (Or.inr (Or.inl h))))
      · exact Or.inr (Or.inr (Or.inr (Or.inl h)))
    · unfold oC; omega
  · refine ((dl.mo (fun j q h => ?_)).tr (fun j q h => (?_ : Rp j q = Rq j q))).tr (dS.mo (fun j q h => ?_))
    · revert h; unfold lOj oQ; omega
    · exact (dq j q (fun z => h (by unfold oQ; omega))).symm
    · unfold oQ; omega
  · refine (dz.tr (fun j q h => (?_ : Rp j q = Rq j q))).tr (fun j q h => ?_)
    · exact (dq j q (fun z => h (zZ_n (by omega)))).symm
    · unfold rEp
      rw [if_neg (fun z => h (fun hz => by
        rcases hz with hz | hz
        · rw [z.2.2.1, hD] at hz; exact absurd hz.2.2 (by decide)
        · rw [z.1] at hz; exact absurd hz.1 (by decide)))]
end ZK
