/-! layer 2: one candidate, given to all -/
def cPn (N : Nat) (M : gM) (s y : Nat) : Bool := nz (M (51, s, 0) y) && (!nz (M (60, 48 * s + y, 0) 3) && (decide (M (61, 192, 0) 0 = M (52, s, 0) y) && (decide (M (62, 192, 0) 0 = M (53, s, 0) y) && rEq (M (64, 192, 0)) (M (55, s, y)) 0 (N + 4))))
def rPn (N : Nat) (M : gM) (a : Nat) : Bool := nz (M m_has a) && (!nz (M m_versions a) && (decide (M m_value a = M m_candidateValue 0) && (decide (M m_size a = M m_candidateSize 0) && rEq (fun k => M m_vector (8 * a + k)) (fun k => M m_candidateVector (8 * 0 + k)) 0 (N + 4))))
def cPl (N : Nat) (M : gM) (s y : Nat) (v w : Int32) (row : gI) : gM := gset (gpu (gset (gset (gset M (51, s, 0) y 1) (52, s, 0) y v) (53, s, 0) y w) (55, s, y) 0 (N + 4) (fun k => M row k)) (60, 48 * s + y, 0) 3 0
def rPl (M : gM) (a : Nat) (v w : Int32) (f : Nat → Int32) : gM := gpu (gset (gset (gset (gset M m_has a 1) m_versions a 0) m_value a v) m_size a w) m_vector (8 * a) 8 f
def fCy (y : Nat) (j : gI) (q : Nat) : Prop := ((j.1 = 51 ∨ j.1 = 52 ∨ j.1 = 53) ∧ j.2.1 < 4 ∧ q = y) ∨ (j.1 = 55 ∧ j.2.1 < 4 ∧ j.2.2 = y) ∨ ((j.1 = 60 ∨ j.1 = 61 ∨ j.1 = 62 ∨ j.1 = 64) ∧ j.2.1 < 192 ∧ j.2.1 % 48 = y) ∨ (j.1 = 32 ∧ q = y) ∨ (j = (13, 0, 0) ∧ q = 7)
def fQy (j : gI) (q : Nat) : Prop := (11 ≤ j.1 ∧ j.1 ≤ 18) ∨ j.1 = 26 ∨ (j.1 = 0 ∧ q = 55)
section ZF
variable {N g B s o c d x y z T n m t l i j a : Nat} {A E M M' X Mc Mr Mc' Mr' : gM} {row a3 : gI} {D P : Nat → Bool} {G pd v w nr a1 a2 a4 a5 : Int32} {f : Nat → Int32} {zz : lS}
theorem c_isPlain (hN : N ≤ 4) (hs : s < 4) (hy : y < 48) (hl : M (60, 192, 0) 3 = nI n) (h1 : 1 ≤ n) (hn : n ≤ 24) (hm : M (60, 48 * s + y, 0) 3 = nI m) (m6 : m ≤ 6) : f_X7_isPlain N M s (nI y) 192 = some (zb (cPn N M s y)) := by
  unfold f_X7_isPlain cPn f_X9_has
  rw [rd_n hy (by omega)]
  by_cases e1 : M (51, s, 0) y = 0
  · rw [if_pos e1, e1]; rfl
  · rw [if_neg e1, c_isInConflict hy hm m6, o1_s, show nz (M (51, s, 0) y) = true from by rw [nz_t]; exact e1, Bool.true_and]
    cases nz (M (60, 48 * s + y, 0) 3) with
    | true => rw [zb_t, if_neg (by decide)]; rfl
    | false =>
      rw [zb_f, if_pos rfl, if_neg (by decide), lt_d, hl, if_neg (by
        intro z
        have z' : nI n ≤ nI 0 := z
        rw [nle (by omega) (by omega)] at z'
        omega), o1_s, if_neg (by decide), rd_n hy (by omega), rd_n hy (by omega), ix_n hy (by omega), show f_X9_isAt N M 192 (0 : Int32) (M (52, s, 0) y) (M (53, s, 0) y) (55, s, y) = _ from c_isAt (i := 0) hN (by rw [cM192]; omega) (by rw [cM192]; omega) (cN55 _ _ _), o1_s]
      cases decide (M (61, 192, 0) 0 = M (52, s, 0) y) && (decide (M (62, 192, 0) 0 = M (53, s, 0) y) && rEq (M (64, 192, 0)) (M (55, s, y)) 0 (N + 4)) <;> rfl
theorem c_setPlain (hN : N ≤ 4) (hy : y < 48) (hr : cN N row = N + 4) (h1 : row.1 ≠ 51) (h2 : row.1 ≠ 52) (h3 : row.1 ≠ 53) : f_X7_setPlain N M s (nI y) v w row = some (cPl N M s y v w row) := by
  unfold f_X7_setPlain cPl f_X9_clear
  rw [wz_n hy (by omega) (Or.inr rfl), c_setFile hy, o1_s, ix_n hy (by omega), c_assign (cN55 _ _ _) hr (by omega), o1_s, ix_n hy (by omega), lt_d, o1_s]
  congr 2
  refine gpu_congr (fun k _ => ?_)
  rw [gset_o (fun z => h3 (by rw [z.1])), gset_o (fun z => h2 (by rw [z.1])), gset_o (fun z => h1 (by rw [z.1]))]
theorem r_one (hN : N ≤ 4) (h0 : M m_o 0 = nI N) (h1 : M m_o 1 = nI (N + 4)) (h53 : M m_o 53 = G) (hs : s < N) (hy : y < 48) (fu : Nat) : f_X11_mergeOne_L2 (nI y) (fu + 1) (nI s) M = if bt G s = true ∧ rPn N M (48 * s + y) = false then o1 (f_X11_endPromises (gset (rPl M (48 * s + y) (M m_candidateValue 0) (M m_candidateSize 0) (fun k => M m_candidateVector (8 * 0 + k))) m_o 55 (M m_o 55 + 1)) (nI y) (sB s) (-1 : Int32)) (fun M29 => f_X11_mergeOne_L2 (nI y) fu (nI (s + 1)) M29) else f_X11_mergeOne_L2 (nI y) fu (nI (s + 1)) M := by
  have give : wz M m_has 192 (nI (48 * s + y)) (1 : Int32) (fun M18 => wr M18 m_versions 192 (nI (48 * s + y)) (0 : Int32) (fun M19 => rd M19 m_candidateValue 24 (0 : Int32) (fun v20 => wr M19 m_value 192 (nI (48 * s + y)) v20 (fun M21 => rd M21 m_candidateSize 24 (0 : Int32) (fun v22 => wr M21 m_size 192 (nI (48 * s + y)) v22 (fun M23 => o1 (f_X11_copyTo M23 m_candidateVector (0 : Int32) m_vector (nI (48 * s + y))) (fun M25 => o1 (f_X11_endPromises (gset M25 m_o 55 (M25 m_o 55 + (1 : Int32))) (nI y) ((1 : Int32) <<< (nI s &&& 31)) (-1 : Int32)) (fun M29 => f_X11_mergeOne_L2 (nI y) fu (nI (s + 1)) M29)))))))) = o1 (f_X11_endPromises (gset (rPl M (48 * s + y) (M m_candidateValue 0) (M m_candidateSize 0) (fun k => M m_candidateVector (8 * 0 + k))) m_o 55 (M m_o 55 + 1)) (nI y) (sB s) (-1 : Int32)) (fun M29 => f_X11_mergeOne_L2 (nI y) fu (nI (s + 1)) M29) := by
    have r0 : ∀ (M : gM) (i : gI) (n : Nat) (K : Int32 → Option gM), 0 < n → n ≤ 16384 → rd M i n (0 : Int32) K = K (M i 0) := fun M i n K a b => rd_n (k := 0) a b
    rw [wz_n (by omega) (by omega) (Or.inr rfl), wr_n (by omega) (by omega), r0 _ _ _ _ (by omega) (by omega), wr_n (by omega) (by omega), r0 _ _ _ _ (by omega) (by omega), wr_n (by omega) (by omega), gset_o (j := m_candidateValue) (by simp), gset_o (j := m_candidateValue) (by simp), gset_o (j := m_candidateSize) (by simp), gset_o (j := m_candidateSize) (by simp), gset_o (j := m_candidateSize) (by simp)]
    obtain ⟨M1, hM1⟩ : ∃ X, X = gset (gset (gset (gset M m_has (48 * s + y) 1) m_versions (48 * s + y) 0) m_value (48 * s + y) (M m_candidateValue 0)) m_size (48 * s + y) (M m_candidateSize 0) := ⟨_, rfl⟩
    have e1 : ∀ (j : gI) q, ¬ (j.1 = 11 ∨ j.1 = 15 ∨ j.1 = 12 ∨ j.1 = 13) → M1 j q = M j q := fun j q h => by
      rw [hM1, gset_o (fun z => h (by rw [z.1]; simp)), gset_o (fun z => h (by rw [z.1]; simp)), gset_o (fun z => h (by rw [z.1]; simp)), gset_o (fun z => h (by rw [z.1]; simp))]
    rw [← hM1, show f_X11_copyTo M1 m_candidateVector (0 : Int32) m_vector (nI (48 * s + y)) = _ from r_copyTo (i := 0) (by decide) (by show _ ≤ 1536; omega) (by decide) (by decide), o1_s, gpu_ne (by decide), e1 m_o 55 (by simp)]
    have : (fun k => M1 m_candidateVector (8 * 0 + k)) = fun k => M m_candidateVector (8 * 0 + k) := by funext k; exact e1 _ _ (by simp)
    rw [this]
    unfold rPl
    rw [← hM1]
    rfl
  simp only [f_X11_mergeOne_L2, lt_d, jn_d, nI_m48, nI_add]
  rw [h0, if_neg (nI_ge hs (by omega)), r_isOf h53 (by omega), o1_s, nI_1]
  have r0 : ∀ (M : gM) (i : gI) (n : Nat) (K : Int32 → Option gM), 0 < n → n ≤ 16384 → rd M i n (0 : Int32) K = K (M i 0) := fun M i n K a b => rd_n (k := 0) a b
  cases hb : bt G s with
  | false => rw [zb_f, if_pos rfl, if_neg (by simp)]
  | true =>
    rw [zb_t, if_neg (by decide), rd_n (by omega) (by omega)]
    simp only [if_true, one_0, if_false]
    rw [give]
    unfold rPn
    by_cases e1 : M m_has (48 * s + y) = 0
    · rw [if_pos e1, if_pos ⟨trivial, by rw [e1]; rfl⟩]
    · rw [if_neg e1, rd_n (by omega) (by omega), show nz (M m_has (48 * s + y)) = true from by rw [nz_t]; exact e1, Bool.true_and]
      by_cases e2 : M m_versions (48 * s + y) = 0
      · rw [if_pos e2, e2, rd_n (by omega) (by omega), r0 _ _ _ _ (by omega) (by omega)]
        by_cases e3 : M m_value (48 * s + y) = M m_candidateValue 0
        · rw [if_pos e3, rd_n (by omega) (by omega), r0 _ _ _ _ (by omega) (by omega), decide_eq_true e3]
          by_cases e4 : M m_size (48 * s + y) = M m_candidateSize 0
          · rw [if_pos e4, decide_eq_true e4, show f_X11_isSame M m_vector (nI (48 * s + y)) m_candidateVector (0 : Int32) = _ from r_isSame (j := 0) h1 (by omega) (by show _ ≤ 1536; omega) (by decide) (by decide) (by decide), o1_s]
            cases rEq (fun k => M m_vector (8 * (48 * s + y) + k)) (fun k => M m_candidateVector (8 * 0 + k)) 0 (N + 4) with
            | true => rw [zb_t, if_neg (by decide), if_neg (by simp [nz])]
            | false => rw [zb_f, if_pos rfl, if_pos ⟨trivial, by simp⟩]
          · rw [if_neg e4, if_pos ⟨trivial, by rw [decide_eq_false e4]; simp⟩]
        · rw [if_neg e3, if_pos ⟨trivial, by rw [decide_eq_false e3]; simp⟩]
      · rw [if_neg e2, if_pos ⟨trivial, by rw [show nz (M m_versions (48 * s + y)) = true from by rw [nz_t]; exact e2]; rfl⟩]
theorem Cd.fr (hc : ∀ j q, cCd j q → Mc' j q = Mc j q) (hr : ∀ j q, rCd j q → Mr' j q = Mr j q) (C : Cd N n Mc Mr) : Cd N n Mc' Mr' := by
  obtain ⟨c1, c2, c3, c4⟩ := C
  refine ⟨c1, by rw [hc _ _ (by unfold cCd; dsimp only; omega)]; exact c2, by rw [hr _ _ (by unfold rCd; dsimp only; omega)]; exact c3, fun i hi => ?_⟩
  obtain ⟨y1, y2, y3, y4⟩ := c4 i hi
  refine ⟨?_, ?_, fun k hk => ?_, ?_⟩
  · rw [hc _ _ (by unfold cCd; dsimp only; omega), hr _ _ (by unfold rCd; dsimp only; omega)]; exact y1
  · rw [hc _ _ (by unfold cCd; dsimp only; omega), hr _ _ (by unfold rCd; dsimp only; omega)]; exact y2
  · rw [hc _ _ (by unfold cCd; dsimp only; omega), hr _ _ (by unfold rCd; dsimp only; omega)]; exact y3 k hk
  · rw [hc _ _ (by unfold cCd; dsimp only; omega)]; exact y4
theorem cPl_fr : cf (gC s y) M (cPl N M s y v w row) := by
  unfold cPl
  refine ((((cf.st ?_).tr (cf.st ?_)).tr (cf.st ?_)).tr (cf.pu (fun _ _ _ => ?_))).tr (cf.st ?_) <;> (unfold gC; dsimp only; omega)
theorem cPl_v (h1 : row.1 ≠ 51) (h2 : row.1 ≠ 52) (h3 : row.1 ≠ 53) : cPl N M s y v w row (51, s, 0) y = 1 ∧ cPl N M s y v w row (52, s, 0) y = v ∧ cPl N M s y v w row (53, s, 0) y = w ∧ (∀ k, k < N + 4 → cPl N M s y v w row (55, s, y) k = M row k) ∧ cPl N M s y v w row (60, 48 * s + y, 0) 3 = 0 := by
  unfold cPl
  refine ⟨?_, ?_, ?_, fun k hk => ?_, gset_aa _ _ _ _⟩
  · rw [gset_o (by simp), gpu_ne (by simp), gset_o (by simp), gset_o (by simp), gset_aa]
  · rw [gset_o (by simp), gpu_ne (by simp), gset_o (by simp), gset_aa]
  · rw [gset_o (by simp), gpu_ne (by simp), gset_aa]
  · rw [gset_o (by simp), gpu_r, if_pos ⟨rfl, by omega, by omega⟩]; rfl
theorem rPl_fr : cf (gR a) M (rPl M a v w f) := by
  unfold rPl
  refine ((((cf.st ?_).tr (cf.st ?_)).tr (cf.st ?_)).tr (cf.st ?_)).tr (cf.pu (fun q _ _ => ?_)) <;> (unfold gR; dsimp only; omega)
theorem rPl_v : rPl M a v w f m_has a = 1 ∧ rPl M a v w f m_versions a = 0 ∧ rPl M a v w f m_value a = v ∧ rPl M a v w f m_size a = w ∧ ∀ k, k < 8 → rPl M a v w f m_vector (8 * a + k) = f k := by
  unfold rPl
  refine ⟨?_, ?_, ?_, ?_, fun k hk => ?_⟩
  · rw [gpu_ne (by decide), gset_o (by simp), gset_o (by simp), gset_o (by simp), gset_aa]
  · rw [gpu_ne (by decide), gset_o (by simp), gset_o (by simp), gset_aa]
  · rw [gpu_ne (by decide), gset_o (by simp), gset_aa]
  · rw [gpu_ne (by decide), gset_aa]
  · rw [gpu_r, if_pos ⟨rfl, by omega, by omega⟩, show 8 * a + k - 8 * a = k by omega]
theorem swp_pl (hN : N ≤ 4) (hy : y < 48) (hD : D y = false) : swp N G D P (rPl M (48 * s + y) v w f) = rPl (swp N G D P M) (48 * s + y) v w f := by
  unfold rPl
  rw [swp_pu hN (fun q _ _ => zZ_n (by simp)), swp_st hN (zZ_n (by simp)), swp_st hN (zZ_n (by simp)), swp_st hN (zZ_y hy hD (by decide)), swp_st hN (zZ_y hy hD (by decide))]
/-- a plain copy is given, both in step -/
theorem plain_step (hN : N ≤ 4) (hs : s < N) (hyg : y ≤ g) (hD : D y = false) (h : MM N g G pd D P Mc Mr) (hd : Mc (4, 0, 0) y = 0) (hpar : 1 ≤ y → ∀ p, p < 48 → Mc (2, 0, 0) y = nI p → Mc (51, s, 0) p = 1 ∧ ¬ Mc (56, s, 0) y = 0) (hz : ∃ z, z ≤ 6 ∧ w = nI z) (hr : row.1 = 64) (hf : ∀ k, k < N + 4 → f k = Mc row k) : MM N g G pd D P (cPl N Mc s y v w row) (rPl Mr (48 * s + y) v w f) := by
  obtain ⟨R, I, g1, g2, g3⟩ := h
  have hg := I.1.1
  have hy : y < 48 := by omega
  have fc := cPl_fr (N := N) (M := Mc) (s := s) (y := y) (v := v) (w := w) (row := row)
  have fr := rPl_fr (M := Mr) (a := 48 * s + y) (v := v) (w := w) (f := f)
  have fr' := rPl_fr (M := swp N G D P Mr) (a := 48 * s + y) (v := v) (w := w) (f := f)
  obtain ⟨u1, u2, u3, u4, u5⟩ := cPl_v (N := N) (M := Mc) (s := s) (y := y) (v := v) (w := w) (row := row) (by rw [hr]; decide) (by rw [hr]; decide) (by rw [hr]; decide)
  obtain ⟨w1, w2, w3, w4, w5⟩ := rPl_v (M := swp N G D P Mr) (a := 48 * s + y) (v := v) (w := w) (f := f)
  have hdr : rPl (swp N G D P Mr) (48 * s + y) v w f m_isDirectory y = 0 := by rw [fr' _ _ (by unfold gR; dsimp only; omega), ← (R.ct.2.2 y hy).2.2]; exact hd
  refine ⟨?_, ?_, ?_, ?_, ?_⟩
  · rw [swp_pl hN hy hD]
    refine obt_rel hN hs hy R fc fr' ⟨by rw [u1, w1], ?_, ?_, fun k hk => ?_⟩ ⟨by rw [u5, w2], fun i hi hl => ?_⟩
    · rw [u2, w3, w1, hdr, if_neg (fun z => z.elim (by decide) (fun z => z rfl))]
    · rw [u3, w4, w1, hdr, if_neg (fun z => z.elim (by decide) (fun z => z rfl))]
    · rw [u4 k hk, w1, if_neg (by decide), w5 k (by omega), hf k hk]
    · rw [w2] at hl; exact absurd hl (nI_pos (by omega))
  · refine obt_inv hN hs hyg I fc u1 hpar ⟨by rw [u3]; exact hz, 0, by omega, u5, fun h => absurd rfl h, fun i hi => by omega⟩
  · rw [fc _ _ (by unfold gC; dsimp only; omega)]; exact g1
  · rw [fr _ _ (by unfold gR; dsimp only; omega)]; exact g2
  · rw [fc _ _ (by unfold gC; dsimp only; omega), fr _ _ (by unfold gR; dsimp only; omega)]; exact g3
theorem gR_z (hy : y < 48) (hD : D y = false) : ∀ j q, gR (48 * s + y) j q → ∀ M : gM, j = (j.1, 0, 0) → ¬ zZ D P j q := fun j q h M e z => by
  unfold gR at h
  rcases z with ⟨z | z | z, z1, z2⟩ | ⟨z, z1, z2⟩
  · rw [z] at h; dsimp only at h
    rw [show q = 48 * s + y by omega, show (48 * s + y) % 48 = y by omega, hD] at z2; exact absurd z2 (by decide)
  · rw [z] at h; dsimp only at h
    rw [show q = 48 * s + y by omega, show (48 * s + y) % 48 = y by omega, hD] at z2; exact absurd z2 (by decide)
  · rw [z] at h; dsimp only at h; omega
  · rw [z] at h; dsimp only at h; omega
theorem gR_nz (hy : y < 48) (hD : D y = false) (h : cf (gR (48 * s + y)) M M') : cf (fun j q => ¬ zZ D P j q) M M' := fun j q hn => h j q (fun hg => hn (fun z => by
  unfold gR at hg
  rcases z with ⟨z | z | z, z1, z2⟩ | ⟨z, z1, z2⟩
  · rw [z] at hg; dsimp only at hg
    rw [show q = 48 * s + y by omega, show (48 * s + y) % 48 = y by omega, hD] at z2; exact absurd z2 (by decide)
  · rw [z] at hg; dsimp only at hg
    rw [show q = 48 * s + y by omega, show (48 * s + y) % 48 = y by omega, hD] at z2; exact absurd z2 (by decide)
  · rw [z] at hg; dsimp only at hg; omega
  · rw [z] at hg; dsimp only at hg; omega))
theorem one_step (hN : N ≤ 4) (hyg : y ≤ g) (hD : D y = false) (hP : P y = false) (h : MM N g G pd D P Mc Mr) (C : Cd N n Mc Mr) (hn1 : 1 ≤ n) (hd : Mc (4, 0, 0) y = 0) (hpar : ∀ s, s < N → bt G s = true → 1 ≤ y → ∀ p, p < 48 → Mc (2, 0, 0) y = nI p → p ≠ y ∧ Mc (51, s, 0) p = 1 ∧ ¬ Mc (56, s, 0) y = 0) : ∃ Mc' Mr', f_X4_giveOne N Mc (nI y) = some Mc' ∧ f_X11_mergeOne Mr (nI y) = some Mr' ∧ MM N g G pd D P Mc' Mr' ∧ (∀ s, s < N → bt G s = true → Mc' (51, s, 0) y = 1) ∧ cf (fCy y) Mc Mc' ∧ cf fQy Mr Mr' ∧ cf (fun j q => ¬ zZ D P j q) Mr Mr' := by
  have hy : y < 48 := by have := h.2.1.1.1; omega
  obtain ⟨Mc', Mr', q1, q2, q3, q4, q5, q6, q7⟩ := loop2 (fun u k M => f_X4_giveOne_L2 N (nI y) u (nI k) M) (fun u k M => f_X11_mergeOne_L2 (nI y) u (nI k) M) N some some (fun k Mc1 Mr1 => MM N g G pd D P Mc1 Mr1 ∧ (∀ s, s < k → bt G s = true → Mc1 (51, s, 0) y = 1) ∧ cf (fCy y) Mc Mc1 ∧ cf fQy Mr Mr1 ∧ cf (fun j q => ¬ zZ D P j q) Mr Mr1) (by omega) (fun u u' k Mc1 Mr1 hk ⟨h1, p1, fc, fr, fz⟩ => by
    obtain ⟨R, I, g1, g2, g3⟩ := id h1
    have C1 : Cd N n Mc1 Mr1 := C.fr (fun j q hj => fc _ _ (by revert hj; unfold cCd fCy; rintro hj (z | z | z | z | ⟨z, -⟩) <;> first | omega | (rw [z] at hj; dsimp only at hj; omega))) (fun j q hj => fr _ _ (by revert hj; unfold rCd fQy; omega))
    obtain ⟨c1, c2, c3, c4⟩ := id C1
    obtain ⟨x1, x2, x3, x4⟩ := c4 0 (by omega)
    obtain ⟨-, m, m6, hm, -, -⟩ := I.2.2.2.1 k hk y hy
    have sv := live_sv R hk hN hy hD hP
    have n0 : Mr1 m_o 0 = nI N := by have := R.n0; rw [swp_r (zZ_n (by simp))] at this; exact this
    have n1 : Mr1 m_o 1 = nI (N + 4) := by have := R.n1; rw [swp_r (zZ_n (by simp))] at this; exact this
    have hd1 : Mc1 (4, 0, 0) y = 0 := by rw [fc _ _ (by unfold fCy; simp)]; exact hd
    have hdr : Mr1 m_isDirectory y = 0 := by have := (R.ct.2.2 y hy).2.2; rw [swp_r (zZ_n (by simp))] at this; rw [← this]; exact hd1
    have heq : rPn N Mr1 (48 * k + y) = cPn N Mc1 k y := by
      unfold rPn cPn
      rw [sv.a.1, sv.dd.1]
      by_cases e : Mr1 m_has (48 * k + y) = 0
      · rw [e]; rfl
      · rw [sv.a.2.1, sv.a.2.2.1, if_neg (fun z => z.elim e (fun z => z hdr)), if_neg (fun z => z.elim e (fun z => z hdr)), x1, x2, rEq_sym, rEq_congr (fun k hk => (x3 k hk).symm) (fun q hq => show Mr1 m_vector (8 * (48 * k + y) + q) = Mc1 (55, k, y) q from by rw [sv.a.2.2.2 q hq, if_neg e])]
        congr 3
        · exact decide_eq_decide.mpr ⟨Eq.symm, Eq.symm⟩
        · congr 1
          exact decide_eq_decide.mpr ⟨Eq.symm, Eq.symm⟩
    have hC : f_X4_giveOne_L2 N (nI y) (u + 1) (nI k) Mc1 = if bt G k = true ∧ cPn N Mc1 k y = false then o1 (f_X4_noteChange N (cPl N Mc1 k y (Mc1 (61, 192, 0) 0) (Mc1 (62, 192, 0) 0) (64, 192, 0)) (sB k) (nI y)) (fun M22 => f_X4_giveOne_L2 N (nI y) u (nI (k + 1)) M22) else f_X4_giveOne_L2 N (nI y) u (nI (k + 1)) Mc1 := by
      simp only [f_X4_giveOne_L2, lt_d, jn_d]
      rw [if_neg (nI_ge hk (by omega)), g1, c_isIn _ (by omega), o1_s, nI_1]
      cases hb : bt G k with
      | false => rw [zb_f, if_pos rfl, if_neg (by simp)]
      | true =>
        rw [zb_t, if_neg (by decide), ix_n hk (by omega), c_isPlain hN (by omega) hy c2 hn1 c1 hm m6, o1_s]
        cases cPn N Mc1 k y with
        | true => rw [zb_t, if_neg (by decide), if_neg (by simp)]
        | false =>
          have r0 : ∀ (M : gM) (i : gI) (n : Nat) (K : Int32 → Option gM), 0 < n → n ≤ 16384 → rd M i n (0 : Int32) K = K (M i 0) := fun M i n K a b => rd_n (k := 0) a b
          have i0 : ∀ (n : Nat) (K : Nat → Option gM), 0 < n → n ≤ 16384 → ix (0 : Int32) n K = K 0 := fun n K a b => ix_n (k := 0) a b
          rw [zb_f, if_pos rfl, if_pos ⟨rfl, rfl⟩, ix_n hk (by omega), cM192, r0 _ _ _ _ (by omega) (by omega), r0 _ _ _ _ (by omega) (by omega), i0 _ _ (by omega) (by omega), c_setPlain hN hy (cN64 _ _ _) (by simp) (by simp) (by simp), o1_s]
          rfl
    rw [hC, r_one hN n0 n1 g2 hk hy u', heq]
    by_cases hg : bt G k = true ∧ cPn N Mc1 k y = false
    · rw [if_pos hg, if_pos hg]
      have h2 := plain_step (v := Mc1 (61, 192, 0) 0) (w := Mc1 (62, 192, 0) 0) (row := (64, 192, 0)) (f := fun q => Mr1 m_candidateVector (8 * 0 + q)) hN hk hyg hD h1 hd1 (fun y1 p hp e => by
        rw [fc _ _ (by unfold fCy; simp)] at e
        obtain ⟨z1, z2, z3⟩ := hpar k hk hg.1 y1 p hp e
        rw [fc _ _ (by unfold fCy; simp [z1]), fc _ _ (by unfold fCy; simp)]
        exact ⟨z2, z3⟩) x4 rfl (fun q hq => (x3 q hq).symm)
      rw [x1, x2] at h2 ⊢
      obtain ⟨Mc2, Mr2, r1, r2, r3, r4, r5, r6⟩ := note1 hN hk hy hD h2
      have e55 : rPl Mr1 (48 * k + y) (Mr1 m_candidateValue 0) (Mr1 m_candidateSize 0) (fun q => Mr1 m_candidateVector (8 * 0 + q)) m_o 55 = Mr1 m_o 55 := rPl_fr _ _ (by unfold gR; dsimp only; omega)
      rw [e55] at r2
      have fC2 := cPl_fr (N := N) (M := Mc1) (s := k) (y := y) (v := Mr1 m_candidateValue 0) (w := Mr1 m_candidateSize 0) (row := (64, 192, 0))
      have fR2 := rPl_fr (M := Mr1) (a := 48 * k + y) (v := Mr1 m_candidateValue 0) (w := Mr1 m_candidateSize 0) (f := fun q => Mr1 m_candidateVector (8 * 0 + q))
      have held : ∀ s, (s = k ∨ Mc1 (51, s, 0) y = 1) → Mc2 (51, s, 0) y = 1 := fun s hs => by
        rw [r4 _ _ (by simp)]
        by_cases e : s = k
        · subst e; exact (cPl_v (by simp) (by simp) (by simp)).1
        · rw [fC2 _ _ (by unfold gC; simp [e])]; exact hs.resolve_left e
      refine ⟨Mc2, Mr2, by rw [r1, o1_s], by rw [r2, o1_s], r3, fun s hs hb => held s (by
        by_cases e : s = k
        · exact Or.inl e
        · exact Or.inr (p1 s (by omega) hb)), (fc.tr (fC2.mo (fun j q h => ?_))).tr (r4.mo (fun j q h => ?_)), (fr.tr (fR2.mo (fun j q h => ?_))).tr (r5.mo (fun j q h => ?_)), (fz.tr (gR_nz hy hD fR2)).tr r6⟩
      · revert h; unfold gC fCy; omega
      · unfold fCy; rcases h with h | h
        · exact Or.inr (Or.inr (Or.inr (Or.inr h)))
        · exact Or.inr (Or.inr (Or.inr (Or.inl h)))
      · revert h; unfold gR fQy; omega
      · revert h; unfold fQy; omega
    · rw [if_neg hg, if_neg hg]
      refine ⟨Mc1, Mr1, rfl, rfl, h1, fun s hs hb => ?_, fc, fr, fz⟩
      by_cases e : s = k
      · subst e
        have : cPn N Mc1 s y = true := by
          cases hc : cPn N Mc1 s y with
          | true => rfl
          | false => exact absurd ⟨hb, hc⟩ hg
        unfold cPn at this
        rw [Bool.and_eq_true, nz_t] at this
        exact (I.2.2.1 s hk y hy).1.resolve_left this.1
      · exact p1 s (by omega) hb) (fun u Mc1 Mr1 _ => by
    simp only [f_X4_giveOne_L2]
    rw [if_pos (nI_le (by omega) (by omega))]) (fun u Mc1 Mr1 ⟨h1, _⟩ => by
    have n0 : Mr1 m_o 0 = nI N := by have := h1.1.n0; rw [swp_r (zZ_n (by simp))] at this; exact this
    simp only [f_X11_mergeOne_L2, lt_d]
    rw [n0, if_pos (nI_le (by omega) (by omega))]) (st := Mc) (st' := Mr) ⟨h, fun s hs => by omega, cf.rf _ _, cf.rf _ _, cf.rf _ _⟩
  exact ⟨Mc', Mr', q1, q2, q3, q4, q5, q6, q7⟩
end ZF
