/-! layer 2: a row over all that is held -/
section ZG
variable {N g B s o c d x y z T n m t l i j a : Nat} {A E M M' X Mc Mr Mc' Mr' : gM} {row a3 : gI} {D P : Nat → Bool} {G pd v w nr a1 a2 a4 a5 : Int32} {f : Nat → Int32} {zz : lS}
def rw14 (N : Nat) (Mc Mr : gM) : Prop := ∀ k, k < N + 4 → Mr m_row k = Mc (14, 0, 0) k
theorem raise1 (hN : N ≤ 4) (h : rw14 N Mc Mr) (n1 : Mr m_o 1 = nI (N + 4)) (hr : cN N row = N + 4) (hi : 8 * i + 8 ≤ mN a3) (m3 : mN a3 ≤ 16384) (hv : ∀ k, k < N + 4 → Mr a3 (8 * i + k) = Mc row k) : ∃ Mc' Mr', f_X10_raise N Mc (14, 0, 0) row = some Mc' ∧ f_X11_raise Mr a3 (nI i) m_row (0 : Int32) = some Mr' ∧ rw14 N Mc' Mr' ∧ cf (fun j q => j.1 = 14) Mc Mc' ∧ cf (fun j q => j.1 = 45) Mr Mr' := by
  have hrr : f_X11_raise Mr a3 (nI i) m_row (0 : Int32) = some (gpu Mr m_row (8 * 0) (N + 4) (fun k => mx (Mr a3 (8 * i + k)) (Mr m_row (8 * 0 + k)))) := r_raise (j := 0) n1 (by omega) (by decide) hi (by decide) m3 (by decide)
  refine ⟨_, _, c_raise (cN14 _) hr (by omega), hrr, fun k hk => ?_, cf.pu (fun _ _ _ => rfl), cf.pu (fun _ _ _ => rfl)⟩
  rw [show gpu Mc (14, 0, 0) 0 (N + 4) (fun k => if Mc (14, 0, 0) k < Mc row k then Mc row k else Mc (14, 0, 0) k) (14, 0, 0) k = (if Mc (14, 0, 0) k < Mc row k then Mc row k else Mc (14, 0, 0) k) from by rw [gpu_r, if_pos ⟨rfl, by omega, by omega⟩]; rfl, gpu_r, if_pos ⟨rfl, by omega, by omega⟩, show k - 8 * 0 = k by omega, mx_eq, show 8 * 0 + k = k by omega, hv k hk, h k hk]
theorem raise_in {J J' J3 : gM → Option gM} (hN : N ≤ 4) (hs : s < N) (hy : y < 48) (hS : rSv N s y A E) (n1 : E m_o 1 = nI (N + 4)) (hm : A (60, 48 * s + y, 0) 3 = nI m) (hm6 : m ≤ 6) (h : rw14 N Mc Mr) (fc : cf (fun j q => j.1 = 14) A Mc) (fr : cf (fun j q => j.1 = 45) E Mr) : ∃ Mc' Mr', f_X4_raiseToAll_L80 N (nI y) v (nI s) s y J 100 (0 : Int32) Mc = J Mc' ∧ f_X11_mergeMany_L60 (nI y) (nI s) (nI (48 * s + y)) J' J3 100 (0 : Int32) Mr = J' Mr' ∧ rw14 N Mc' Mr' ∧ cf (fun j q => j.1 = 14) A Mc' ∧ cf (fun j q => j.1 = 45) E Mr' := by
  have hc6 : cMost (48 * s + y) = 6 := cMost_lt (by omega)
  have hmr : E m_versions (48 * s + y) = nI m := by rw [← hS.dd.1]; exact hm
  obtain ⟨Mc', Mr', q1, q2, q3, q4, q5⟩ := loop2 (fun u k M => f_X4_raiseToAll_L80 N (nI y) v (nI s) s y J u (nI k) M) (fun u k M => f_X11_mergeMany_L60 (nI y) (nI s) (nI (48 * s + y)) J' J3 u (nI k) M) m J J' (fun k Mc Mr => rw14 N Mc Mr ∧ cf (fun j q => j.1 = 14) A Mc ∧ cf (fun j q => j.1 = 45) E Mr) (by omega) (fun u u' k Mc Mr hk ⟨h, fc, fr⟩ => by
    obtain ⟨-, -, v3⟩ := hS.dd.2 k (by omega) (by rw [hmr]; exact nI_lt hk (by omega))
    obtain ⟨Mc2, Mr2, p1, p2, p3, p4, p5⟩ := raise1 (row := (64, 48 * s + y, k)) (a3 := m_versionVector) (i := 6 * (48 * s + y) + k) hN h (by rw [fr _ _ (by simp)]; exact n1) (cN64 _ _ _) (by show _ ≤ 9216; omega) (by decide) (fun q hq => by rw [fr _ _ (by simp), fc _ _ (by simp)]; exact (v3 q hq).symm)
    refine ⟨Mc2, Mr2, ?_, ?_, p3, fc.tr p4, fr.tr p5⟩
    · simp only [f_X4_raiseToAll_L80, lt_d]
      rw [fc _ _ (by simp), hm, if_neg (nI_ge hk (by omega)), hc6, ix_n (by omega) (by omega), p1, o1_s, nI_1]
    · simp only [f_X11_mergeMany_L60, lt_d]
      rw [rd_n (by omega) (by omega), fr _ _ (by simp), hmr, if_neg (nI_ge hk (by omega)), nI_m6, nI_add, p2, o1_s, nI_1]) (fun u Mc Mr ⟨h, fc, fr⟩ => by
    simp only [f_X4_raiseToAll_L80, lt_d]
    rw [fc _ _ (by simp), hm, if_pos (nI_le (by omega) (by omega))]) (fun u Mc Mr ⟨h, fc, fr⟩ => by
    simp only [f_X11_mergeMany_L60, lt_d]
    rw [rd_n (by omega) (by omega), fr _ _ (by simp), hmr, if_pos (nI_le (by omega) (by omega))]) (st := Mc) (st' := Mr) ⟨h, fc, fr⟩
  exact ⟨Mc', Mr', q1, q2, q3, q4, q5⟩
/-- files: the copies and their versions -/
theorem raise_all {J' : gM → Option gM} (hN : N ≤ 4) (hy : y < 48) (hS : ∀ s, s < N → rSv N s y A E) (I : ∀ s, s < N → iVr s y A ∧ (A (51, s, 0) y = 0 ∨ A (51, s, 0) y = 1)) (n0 : E m_o 0 = nI N) (n1 : E m_o 1 = nI (N + 4)) (h53 : E m_o 53 = G) (h : rw14 N A E) : ∃ Mc' Mr', f_X4_raiseToAll_L23 N (nI y) (cHo N A G y) 100 (0 : Int32) A = some Mc' ∧ f_X11_mergeMany_L11 (nI y) J' 100 (0 : Int32) E = J' Mr' ∧ rw14 N Mc' Mr' ∧ cf (fun j q => j.1 = 14) A Mc' ∧ cf (fun j q => j.1 = 45) E Mr' := by
  obtain ⟨Mc', Mr', q1, q2, q3, q4, q5⟩ := loop2 (fun u k M => f_X4_raiseToAll_L23 N (nI y) (cHo N A G y) u (nI k) M) (fun u k M => f_X11_mergeMany_L11 (nI y) J' u (nI k) M) N some J' (fun k Mc Mr => rw14 N Mc Mr ∧ cf (fun j q => j.1 = 14) A Mc ∧ cf (fun j q => j.1 = 45) E Mr) (by omega) (fun u u' k Mc Mr hk ⟨h, fc, fr⟩ => by
    have hSk := hS k hk
    obtain ⟨⟨-, m, m6, hm, -, -⟩, h01⟩ := I k hk
    have w0 : Mr m_o 0 = nI N := by rw [fr _ _ (by simp)]; exact n0
    have w53 : Mr m_o 53 = G := by rw [fr _ _ (by simp)]; exact h53
    have wh : Mr m_has (48 * k + y) = A (51, k, 0) y := by rw [fr _ _ (by simp)]; exact hSk.a.1.symm
    have hbh : bt (cHo N A G y) k = (bt G k && nz (A (51, k, 0) y)) := by
      unfold cHo
      rw [bt_sS (by omega) (by omega), decide_eq_true hk, Bool.true_and]
    by_cases hin : bt G k = true ∧ A (51, k, 0) y = 1
    · have hhE : ¬ E m_has (48 * k + y) = 0 := by rw [← hSk.a.1, hin.2]; decide
      obtain ⟨Mc2, Mr2, p1, p2, p3, p4, p5⟩ := raise1 (row := (55, k, y)) (a3 := m_vector) (i := 48 * k + y) hN h (by rw [fr _ _ (by simp)]; exact n1) (cN55 _ _ _) (by show _ ≤ 1536; omega) (by decide) (fun q hq => by
        rw [fr _ _ (by simp), fc _ _ (by simp)]
        have := hSk.a.2.2.2 q hq
        rw [if_neg hhE] at this
        exact this.symm)
      obtain ⟨Mc3, Mr3, r1, r2, r3, r4, r5⟩ := raise_in (v := cHo N A G y) (J := fun M12 => f_X4_raiseToAll_L23 N (nI y) (cHo N A G y) u (nI (k + 1)) M12) (J' := fun M67 => f_X11_mergeMany_L11 (nI y) J' u' (nI (k + 1)) M67) (J3 := J') hN hk hy hSk n1 hm m6 p3 (fc.tr p4) (fr.tr p5)
      refine ⟨Mc3, Mr3, ?_, ?_, r3, r4, r5⟩
      · simp only [f_X4_raiseToAll_L23, lt_d, jn_d]
        rw [if_neg (nI_ge hk (by omega)), c_isIn _ (by omega), o1_s, hbh, hin.1, hin.2, show zb (true && nz 1) = 1 from by decide, if_neg (by decide), ix_n hk (by omega), ix_n hy (by omega), p1, o1_s, ix_n hk (by omega), ix_n hy (by omega), nI_1]
        exact r1
      · simp only [f_X11_mergeMany_L11, lt_d, jn_d, nI_m48, nI_add]
        rw [w0, if_neg (nI_ge hk (by omega)), r_isOf w53 (by omega), o1_s, hin.1, zb_t, if_neg (by decide), rd_n (by omega) (by omega), wh, hin.2, if_neg (by decide), p2, o1_s, nI_1]
        exact r2
    · refine ⟨Mc, Mr, ?_, ?_, h, fc, fr⟩
      · simp only [f_X4_raiseToAll_L23, lt_d, jn_d]
        rw [if_neg (nI_ge hk (by omega)), c_isIn _ (by omega), o1_s, hbh, show (bt G k && nz (A (51, k, 0) y)) = false from by
          cases hb : bt G k with
          | false => rfl
          | true =>
            rw [Bool.true_and, nz_f]
            exact h01.resolve_right (fun z => hin ⟨hb, z⟩), zb_f, if_pos rfl, nI_1]
      · simp only [f_X11_mergeMany_L11, lt_d, jn_d, nI_m48, nI_add]
        rw [w0, if_neg (nI_ge hk (by omega)), r_isOf w53 (by omega), o1_s, nI_1]
        cases hb : bt G k with
        | false => rw [zb_f, if_pos rfl]
        | true =>
          have h0 : Mr m_has (48 * k + y) = 0 := by rw [wh]; exact h01.resolve_right (fun z => hin ⟨hb, z⟩)
          rw [zb_t, if_neg (by decide), rd_n (by omega) (by omega), if_pos h0]) (fun u Mc Mr _ => by
    simp only [f_X4_raiseToAll_L23]
    rw [if_pos (nI_le (by omega) (by omega))]) (fun u Mc Mr ⟨_, _, fr⟩ => by
    simp only [f_X11_mergeMany_L11, lt_d]
    rw [fr _ _ (by simp), n0, if_pos (nI_le (by omega) (by omega))]) (st := A) (st' := E) ⟨h, cf.rf _ _, cf.rf _ _⟩
  exact ⟨Mc', Mr', q1, q2, q3, q4, q5⟩
/-- directories -/
theorem raise_dir {J' : gM → Option gM} (hN : N ≤ 4) (hy : y < 48) (hS : ∀ s, s < N → A (51, s, 0) y = E m_has (48 * s + y) ∧ (¬ A (51, s, 0) y = 0 → ∀ k, k < N + 4 → A (55, s, y) k = E m_vector (8 * (48 * s + y) + k))) (I : ∀ s, s < N → A (60, 48 * s + y, 0) 3 = 0 ∧ (A (51, s, 0) y = 0 ∨ A (51, s, 0) y = 1)) (n0 : E m_o 0 = nI N) (n1 : E m_o 1 = nI (N + 4)) (h53 : E m_o 53 = G) (h : rw14 N A E) : ∃ Mc' Mr', f_X4_raiseToAll_L23 N (nI y) (cHo N A G y) 100 (0 : Int32) A = some Mc' ∧ f_X11_mergeDirectory_L75 (nI y) J' 100 (0 : Int32) E = J' Mr' ∧ rw14 N Mc' Mr' ∧ cf (fun j q => j.1 = 14) A Mc' ∧ cf (fun j q => j.1 = 45) E Mr' := by
  have L80 : ∀ (s : Nat) (Mc : gM) (J : gM → Option gM), Mc (60, 48 * s + y, 0) 3 = 0 → f_X4_raiseToAll_L80 N (nI y) (cHo N A G y) (nI s) s y J 100 (0 : Int32) Mc = J Mc := fun s Mc J h => by
    have H : ∀ fu, f_X4_raiseToAll_L80 N (nI y) (cHo N A G y) (nI s) s y J (fu + 1) (0 : Int32) Mc = J Mc := fun fu => by
      simp only [f_X4_raiseToAll_L80, lt_d]
      rw [h, if_pos (by decide)]
    exact H 99
  obtain ⟨Mc', Mr', q1, q2, q3, q4, q5⟩ := loop2 (fun u k M => f_X4_raiseToAll_L23 N (nI y) (cHo N A G y) u (nI k) M) (fun u k M => f_X11_mergeDirectory_L75 (nI y) J' u (nI k) M) N some J' (fun k Mc Mr => rw14 N Mc Mr ∧ cf (fun j q => j.1 = 14) A Mc ∧ cf (fun j q => j.1 = 45) E Mr) (by omega) (fun u u' k Mc Mr hk ⟨h, fc, fr⟩ => by
    obtain ⟨sk1, sk2⟩ := hS k hk
    obtain ⟨hm, h01⟩ := I k hk
    have w0 : Mr m_o 0 = nI N := by rw [fr _ _ (by simp)]; exact n0
    have w53 : Mr m_o 53 = G := by rw [fr _ _ (by simp)]; exact h53
    have wh : Mr m_has (48 * k + y) = A (51, k, 0) y := by rw [fr _ _ (by simp)]; exact sk1.symm
    have hbh : bt (cHo N A G y) k = (bt G k && nz (A (51, k, 0) y)) := by
      unfold cHo
      rw [bt_sS (by omega) (by omega), decide_eq_true hk, Bool.true_and]
    by_cases hin : bt G k = true ∧ A (51, k, 0) y = 1
    · obtain ⟨Mc2, Mr2, p1, p2, p3, p4, p5⟩ := raise1 (row := (55, k, y)) (a3 := m_vector) (i := 48 * k + y) hN h (by rw [fr _ _ (by simp)]; exact n1) (cN55 _ _ _) (by show _ ≤ 1536; omega) (by decide) (fun q hq => by
        rw [fr _ _ (by simp), fc _ _ (by simp)]
        exact (sk2 (by rw [hin.2]; decide) q hq).symm)
      refine ⟨Mc2, Mr2, ?_, ?_, p3, fc.tr p4, fr.tr p5⟩
      · simp only [f_X4_raiseToAll_L23, lt_d, jn_d]
        rw [if_neg (nI_ge hk (by omega)), c_isIn _ (by omega), o1_s, hbh, hin.1, hin.2, show zb (true && nz 1) = 1 from by decide, if_neg (by decide), ix_n hk (by omega), ix_n hy (by omega), p1, o1_s, ix_n hk (by omega), ix_n hy (by omega), nI_1]
        exact L80 k Mc2 _ (by rw [p4 _ _ (by simp), fc _ _ (by simp)]; exact hm)
      · simp only [f_X11_mergeDirectory_L75, lt_d, jn_d, nI_m48, nI_add]
        rw [w0, if_neg (nI_ge hk (by omega)), r_isOf w53 (by omega), o1_s, hin.1, zb_t, if_neg (by decide), rd_n (by omega) (by omega), wh, hin.2, if_neg (by decide), p2, o1_s, nI_1]
    · refine ⟨Mc, Mr, ?_, ?_, h, fc, fr⟩
      · simp only [f_X4_raiseToAll_L23, lt_d, jn_d]
        rw [if_neg (nI_ge hk (by omega)), c_isIn _ (by omega), o1_s, hbh, show (bt G k && nz (A (51, k, 0) y)) = false from by
          cases hb : bt G k with
          | false => rfl
          | true =>
            rw [Bool.true_and, nz_f]
            exact h01.resolve_right (fun z => hin ⟨hb, z⟩), zb_f, if_pos rfl, nI_1]
      · simp only [f_X11_mergeDirectory_L75, lt_d, jn_d, nI_m48, nI_add]
        rw [w0, if_neg (nI_ge hk (by omega)), r_isOf w53 (by omega), o1_s, nI_1]
        cases hb : bt G k with
        | false => rw [zb_f, if_pos rfl]
        | true =>
          have h0 : Mr m_has (48 * k + y) = 0 := by rw [wh]; exact h01.resolve_right (fun z => hin ⟨hb, z⟩)
          rw [zb_t, if_neg (by decide), rd_n (by omega) (by omega), if_pos h0]) (fun u Mc Mr _ => by
    simp only [f_X4_raiseToAll_L23]
    rw [if_pos (nI_le (by omega) (by omega))]) (fun u Mc Mr ⟨_, _, fr⟩ => by
    simp only [f_X11_mergeDirectory_L75, lt_d]
    rw [fr _ _ (by simp), n0, if_pos (nI_le (by omega) (by omega))]) (st := A) (st' := E) ⟨h, cf.rf _ _, cf.rf _ _⟩
  exact ⟨Mc', Mr', q1, q2, q3, q4, q5⟩
end ZG
