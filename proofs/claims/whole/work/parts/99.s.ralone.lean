/-! layer 2: a client removes alone -/
section RL2
variable {N g B s o c d x z T n n' t i : Nat} {M M' Mc Mr Mc' Mr' : gM} {row : gI} {v w a1 a2 a3 a4 : Int32}
theorem rFg_dir {k : Nat} (h : k ≠ 48 * c + x) : rFg g (gset M m_dirty k v) c x = gset (rFg g M c x) m_dirty k v := by
  funext j q
  have ep : ∀ q, gset M m_dirty k v m_parent q = M m_parent q := fun q => by rw [gset_r, if_neg (by simp)]
  rw [gset_r]
  unfold rFg
  rw [ep, gset_r]
  by_cases e : j = m_dirty ∧ q = k
  · obtain ⟨rfl, rfl⟩ := e
    rw [if_neg (fun z => h z.2), if_neg (by simp), if_pos ⟨rfl, rfl⟩, if_pos ⟨rfl, rfl⟩]
  · rw [if_neg e, if_neg e]
/-- what is dirty is no more, once the log is empty -/
theorem c_clr (hl : M (40, c, 0) 4 = nI n) (hn : n ≤ 12) : f_X1_undoMake_L33 N c 100 (0 : Int32) M = some (if n = 0 then gpu M (33, c, 0) 0 48 (fun _ => 0) else M) := by
  by_cases h0 : n = 0
  · rw [if_pos h0]
    subst h0
    refine rowloop (E := some) (L := fun f k M => f_X1_undoMake_L33 N c f (nI k) M) (row := (33, c, 0)) (base := 0) (B := 48) (h := fun _ _ => 0) (P := fun M => M (40, c, 0) 4 = 0) (by decide) (fun f k M hk hP => ⟨?_, ?_⟩) (fun f M hP => ?_) (fun _ _ _ _ _ _ _ _ => rfl) hl
    · simp only [f_X1_undoMake_L33, lt_d, hP, Nat.zero_add]
      rw [if_neg (ge_48 hk), if_true, wz_0 hk (by omega), nI_1]
    · rw [gset_r, if_neg (by simp)]; exact hP
    · simp only [f_X1_undoMake_L33]
      rw [if_pos (lf_48 (by omega))]
  · rw [if_neg h0]
    rw [show (100 : Nat) = 99 + 1 from rfl, f_X1_undoMake_L33, if_neg (by decide), lt_d, hl, if_neg (by rw [nI_z (by omega)]; exact h0)]
theorem r_clr (hc : c < 4) (hl : M m_records c = nI n) (hn : n ≤ 12) : f_X11_removeAlone_L59 (nI c) 100 (0 : Int32) M = some (0, if n = 0 then gpu M m_dirty (48 * c) 48 (fun _ => 0) else M) := by
  by_cases h0 : n = 0
  · rw [if_pos h0]
    subst h0
    refine rowloop (E := fun M => some (0, M)) (L := fun f k M => f_X11_removeAlone_L59 (nI c) f (nI k) M) (row := m_dirty) (base := 48 * c) (B := 48) (h := fun _ _ => 0) (P := fun M => M m_records c = 0) (by decide) (fun f k M hk hP => ⟨?_, ?_⟩) (fun f M hP => ?_) (fun _ _ _ _ _ _ _ _ => rfl) hl
    · simp only [f_X11_removeAlone_L59, lt_d, nI_m48, nI_add]
      rw [if_neg (ge_48 hk), rd_n hc (by omega), hP, if_pos rfl, wz_0 (by omega) (by omega), nI_1]
    · rw [gset_r, if_neg (by simp)]; exact hP
    · simp only [f_X11_removeAlone_L59]
      rw [if_pos (lf_48 (by omega))]
  · rw [if_neg h0]
    rw [show (100 : Nat) = 99 + 1 from rfl, f_X11_removeAlone_L59, if_neg (by decide), rd_n hc (by omega), hl, if_neg (by rw [nI_z (by omega)]; exact h0)]
theorem clr_rel (hN : N ≤ 4) (hc : c < 4) (R : Rel N g Mc Mr) : Rel N g (gpu Mc (33, c, 0) 0 48 (fun _ => 0)) (gpu Mr m_dirty (48 * c) 48 (fun _ => 0)) := by
  have hm : cf (fun j q => j.1 = 33 ∧ j.2.1 = c) Mc (gpu Mc (33, c, 0) 0 48 (fun _ => 0)) := cf.pu (fun _ _ _ => ⟨rfl, rfl⟩)
  have hr : cf (fun j q => j.1 = 27 ∧ 48 * c ≤ q ∧ q < 48 * c + 48) Mr (gpu Mr m_dirty (48 * c) 48 (fun _ => 0)) := cf.pu (fun _ a b => ⟨rfl, a, b⟩)
  refine R.cli hN (hm.mo (fun j q h => by unfold aKl; omega)) (hr.mo (fun j q h => by unfold bKl; omega)) (fun d hd p hp => ?_)
  have h := R.kl hd hp
  by_cases e : d = c
  · subst e
    obtain ⟨f1, f2, f3, f4, f5, f6, f7, f8⟩ := h
    have e1 : ∀ (j : gI) q, j.1 ≠ 33 → gpu Mc (33, d, 0) 0 48 (fun _ => 0) j q = Mc j q := fun j q h => hm _ _ (fun z => h z.1)
    have e2 : ∀ (j : gI) q, j.1 ≠ 27 → gpu Mr m_dirty (48 * d) 48 (fun _ => 0) j q = Mr j q := fun j q h => hr _ _ (fun z => h z.1)
    refine ⟨?_, ?_, ?_, fun k hk => ?_, ?_, ?_, ?_, ?_⟩
    · rw [e1 _ _ (by simp), e2 _ _ (by simp)]; exact f1
    · rw [e1 _ _ (by simp), e2 _ _ (by simp), e2 _ _ (by simp), e2 _ _ (by simp)]; exact f2
    · rw [e1 _ _ (by simp), e2 _ _ (by simp), e2 _ _ (by simp), e2 _ _ (by simp)]; exact f3
    · rw [e1 _ _ (by simp), e2 _ _ (by simp), e2 _ _ (by simp)]; exact f4 k hk
    · rw [e1 _ _ (by simp), e2 _ _ (by simp)]; exact f5
    · rw [e1 _ _ (by simp), e2 _ _ (by simp)]; exact f6
    · rw [e1 _ _ (by simp), e2 _ _ (by simp)]; exact f7
    · rw [gpu_r, if_pos ⟨rfl, by omega, by omega⟩, gpu_r, if_pos ⟨rfl, by omega, by omega⟩]
  · refine h.fr hN hm hr ?_ ?_
    · intro j q; unfold kKl; omega
    · intro j q; unfold lKl; omega
def cFe (N : Nat) (M : gM) (t x : Nat) : gM := gpu (gset M (56, t, 0) x 0) (58, t, x) 0 (N + 4) (fun _ => 0)
theorem c_forgetEntry (hN : N ≤ 4) (hx : x < 48) : f_X8_forgetEntry N M t (nI x) = some (cFe N M t x) := by
  unfold f_X8_forgetEntry cFe
  rw [wr_n hx (by omega), ix_n hx (by omega), c_fill (0 : Int32) (cN58 _ _ _) (by omega), o1_s]
theorem cFe_k : cf (fun j q => (j = (56, 4 + c, 0) ∧ q = x) ∨ (j.1 = 58 ∧ 4 ≤ j.2.1)) M (cFe N M (4 + c) x) := by
  unfold cFe
  exact (cf.st (Or.inl ⟨rfl, rfl⟩)).tr (cf.pu (fun _ _ _ => Or.inr ⟨rfl, by dsimp only; omega⟩))
theorem cFe_v : cFe N M t x (56, t, 0) x = 0 := by
  unfold cFe
  simp [gset_r, gpu_r]
/-- both take out what was made and what was written, each in its order -/
theorem undo_logs (hN : N ≤ 4) (hc : c < 4) (R : Rel N g Mc Mr) (I : Inv N g Mc) {m : Nat} (hl : Mc (40, c, 0) 4 = nI n) (hn : n ≤ 12) (hm : m < n) (hfm : fst (fun i => decide (Mc (41, c, 0) i = 1 ∧ Mc (42, c, 0) i = nI x)) n = nI m) (hkm : Mc (41, c, 0) m = 1 ∧ Mc (42, c, 0) m = nI x) : ∃ (Mc' Mr' : gM) (n2 : Nat) (ph : Nat → Nat) (w : Int32), o1 (f_X3_takeOut N Mc c (1 : Int32) (nI x)) (fun M2 => f_X3_takeOut N M2 c (0 : Int32) (nI x)) = some Mc' ∧ f_X11_recordOf Mr (nI c) (0 : Int32) (nI x) = some w ∧ o1 (f_X11_takeOut Mr (nI c) w) (fun M21 => f_X11_takeOut M21 (nI c) (nI m)) = some Mr' ∧ Rel N g Mc' Mr' ∧ cf (fun j q => 40 ≤ j.1 ∧ j.1 ≤ 45 ∧ j.2.1 = c) Mc Mc' ∧ cf (lgR c) Mr Mr' ∧ n2 < n ∧ Mc' (40, c, 0) 4 = nI n2 ∧ (∀ k, k < n2 → ph k < n) ∧ (∀ i j, i < j → ph i < ph j) ∧ (∀ k, k < n2 → Mc' (41, c, 0) k = Mc (41, c, 0) (ph k) ∧ Mc' (42, c, 0) k = Mc (42, c, 0) (ph k) ∧ Mc' (43, c, 0) k = Mc (43, c, 0) (ph k)) ∧ ∀ k, k < n2 → Mc (41, c, 0) (ph k) = 0 → ¬ Mc (42, c, 0) (ph k) = nI x := by
  obtain ⟨n0, hn0, hl0, -, hrec, hord⟩ := I.2.2.2.2.2.2.1 c hc
  have en : n0 = n := by rw [hl, neq (by omega) (by omega)] at hl0; exact hl0.symm
  subst en
  have hlr : Mr m_records c = nI n0 := by rw [← (R.lg hc).1]; exact hl
  obtain ⟨Mc1, k1, t1⟩ := c_take hN hl hn hm hfm
  have hrw := rec_eq (a1 := 0) (a2 := nI x) hc R hl hn
  rcases fst_spec (N := n0) (p := fun i => decide (Mc (41, c, 0) i = 0 ∧ Mc (42, c, 0) i = nI x)) with ⟨ef, hno⟩ | ⟨w, hw, ef, hpw⟩
  · -- nothing was written
    have hno' : ∀ k, k < n0 → ¬ (Mc (41, c, 0) k = 0 ∧ Mc (42, c, 0) k = nI x) := fun k hk => of_decide_eq_false (hno k hk)
    have hf1 : fst (fun i => decide (Mc1 (41, c, 0) i = 0 ∧ Mc1 (42, c, 0) i = nI x)) (n0 - 1) = -1 := by
      rcases fst_spec (N := n0 - 1) (p := fun i => decide (Mc1 (41, c, 0) i = 0 ∧ Mc1 (42, c, 0) i = nI x)) with ⟨e, -⟩ | ⟨q, hq, -, hpq⟩
      · exact e
      · have hpq := of_decide_eq_true hpq
        rw [(t1.2.2 q (by omega)).1, (t1.2.2 q (by omega)).2.1] at hpq
        exact absurd hpq (hno' _ (sk_lt (by omega)))
    rw [ef] at hrw
    obtain ⟨Mr2, y1, y2⟩ := r_take hc hlr hn hm
    refine ⟨Mc1, Mr2, n0 - 1, sk m, -1, ?_, hrw, ?_, tk_rel hN hc hn hm R hl t1 y2, t1.1, y2.1, by omega, t1.2.1, fun k hk => sk_lt (by omega), fun i j h => sk_mono h, fun k hk => ?_, fun k hk e1 e2 => hno' _ (sk_lt (by omega)) ⟨e1, e2⟩⟩
    · rw [k1, o1_s]; exact c_take_no t1.2.1 (by omega) hf1
    · rw [show f_X11_takeOut Mr (nI c) (-1 : Int32) = some Mr from by unfold f_X11_takeOut; rw [if_pos rfl], o1_s]; exact y1
    · exact ⟨(t1.2.2 k (by omega)).1, (t1.2.2 k (by omega)).2.1, (t1.2.2 k (by omega)).2.2.1⟩
  · have hpw := of_decide_eq_true hpw
    have hmw : m < w := hord m w hm hw hkm.1 hpw.1 (by rw [hkm.2, hpw.2])
    have huniq : ∀ k, k < n0 → Mc (41, c, 0) k = 0 → Mc (42, c, 0) k = nI x → k = w := fun k hk e1 e2 => (I.2.2.2.2.2.2.2 c c k w hc hc (by rw [hl]; exact nI_lt hk (by omega)) (by rw [hl]; exact nI_lt hw (by omega)) (by omega) (by omega) (by rw [e1, hpw.1]) (Or.inr ⟨rfl, e1⟩) (by rw [e2, hpw.2])).2
    have hskw : sk m (w - 1) = w := by unfold sk; rw [if_neg (by omega)]; omega
    have hf1 : fst (fun i => decide (Mc1 (41, c, 0) i = 0 ∧ Mc1 (42, c, 0) i = nI x)) (n0 - 1) = nI (w - 1) := by
      rcases fst_spec (N := n0 - 1) (p := fun i => decide (Mc1 (41, c, 0) i = 0 ∧ Mc1 (42, c, 0) i = nI x)) with ⟨-, e⟩ | ⟨q, hq, e, hpq⟩
      · have := of_decide_eq_false (e (w - 1) (by omega))
        rw [(t1.2.2 (w - 1) (by omega)).1, (t1.2.2 (w - 1) (by omega)).2.1, hskw] at this
        exact absurd hpw this
      · have hpq := of_decide_eq_true hpq
        rw [(t1.2.2 q (by omega)).1, (t1.2.2 q (by omega)).2.1] at hpq
        have h1 := huniq _ (sk_lt (by omega)) hpq.1 hpq.2
        rw [← hskw] at h1
        rw [e, sk_inj h1]
    rw [ef] at hrw
    obtain ⟨Mc2, k2, t2⟩ := c_take hN t1.2.1 (by omega) (show w - 1 < n0 - 1 by omega) hf1
    obtain ⟨Ma, y1, y2⟩ := r_take hc hlr hn hw
    obtain ⟨Mb, y3, y4⟩ := r_take hc y2.2.1 (by omega) (show m < n0 - 1 by omega)
    have hskr : ∀ k, k + 1 < n0 - 1 → sk w (sk m k) = sk m (sk (w - 1) k) := fun k _ => (sk_sk hmw).symm
    have hmb : Mb m_records c = nI (n0 - 2) := by rw [y4.2.1]; congr 1
    have R3 : Rel N g Mc2 Mb := by
      refine R.lone hN hc (t1.1.tr t2.1) ((y2.1.tr y4.1).mo (fun j q h => h)) ⟨by rw [t2.2.1, y4.2.1], ?_, fun k hk hl' => ?_⟩
      · rw [(t1.1.tr t2.1) _ _ (by dsimp only; omega), (y2.1.tr y4.1) _ _ (by unfold lgR; dsimp only; omega)]; exact (R.lg hc).2.1
      · rw [hmb, nlt (by omega) (by omega)] at hl'
        have h1 := sk_lt (i := w - 1) (show k + 1 < n0 - 1 by omega)
        have h2 := sk_lt (i := m) (show k + 1 < n0 - 1 by omega)
        have h3 := sk_lt (i := m) (show sk (w - 1) k + 1 < n0 by omega)
        obtain ⟨a1, a2, a3, a4⟩ := t2.2.2 k (by omega)
        obtain ⟨b1, b2, b3, b4⟩ := t1.2.2 (sk (w - 1) k) (by omega)
        obtain ⟨d1, d2, d3, d4⟩ := y4.2.2 k (by omega)
        obtain ⟨e1, e2, e3, e4⟩ := y2.2.2 (sk m k) (by omega)
        rw [hskr k (by omega)] at e1 e2 e3 e4
        obtain ⟨z1, z2, z3, z4⟩ := (R.lg hc).2.2 (sk m (sk (w - 1) k)) (by omega) (by rw [hlr]; exact nI_lt h3 (by omega))
        exact ⟨by rw [a1, b1, d1, e1]; exact z1, by rw [a2, b2, d2, e2]; exact z2, by rw [a3, b3, d3, e3]; exact z3, fun q hq => by rw [a4 q hq, b4 q hq, d4 q (by omega), e4 q (by omega)]; exact z4 q hq⟩
    refine ⟨Mc2, Mb, n0 - 2, fun k => sk m (sk (w - 1) k), nI w, ?_, hrw, ?_, R3, t1.1.tr t2.1, y2.1.tr y4.1, by omega, by rw [t2.2.1]; congr 1, fun k hk => sk_lt (by have := sk_lt (i := w - 1) (show k + 1 < n0 - 1 by omega); omega), fun i j h => sk_mono (sk_mono h), fun k hk => ?_, fun k hk e1 e2 => ?_⟩
    · rw [k1, o1_s]; exact k2
    · rw [y1, o1_s]; exact y3
    · have h1 := sk_lt (i := w - 1) (show k + 1 < n0 - 1 by omega)
      obtain ⟨a1, a2, a3, -⟩ := t2.2.2 k (by omega)
      obtain ⟨b1, b2, b3, -⟩ := t1.2.2 (sk (w - 1) k) (by omega)
      exact ⟨a1.trans b1, a2.trans b2, a3.trans b3⟩
    · have h1 := huniq _ (sk_lt (by have := sk_lt (i := w - 1) (show k + 1 < n0 - 1 by omega); omega)) e1 e2
      exact sk_ne (sk_inj (h1.trans hskw.symm))
theorem iLg.oth (hg : g ≤ 47) (h : iLg N g d M) (hd : d ≠ c) (hN : N ≤ 4) (hc : cf (fun j q => (40 ≤ j.1 ∧ j.1 ≤ 45 ∧ j.2.1 = c) ∨ (51 ≤ j.1 ∧ j.1 ≤ 58 ∧ j.2.1 = 4 + c) ∨ (j.1 = 58 ∧ 4 ≤ j.2.1) ∨ ((j.1 = 32 ∨ j.1 = 33) ∧ j.2.1 = c)) M M') : iLg N g d M' := by
  refine h.fr hg hc ?_
  intro j q; unfold eLg; omega
theorem remove_alone (hN : N ≤ 4) (hc : c < 4) (hog : o ≤ g) (hx1 : 1 ≤ x) (hxg : x ≤ g) (hox : o ≠ x) (h : CI N g B c 48 Mc Mr) (hho : Mc (51, 4 + c, 0) o = 1) (hhx : Mc (51, 4 + c, 0) x = 1) (hp : Mc (2, 0, 0) x = nI o) : ∃ v Mc' Mr', f_X1_removeAlone N Mc c (nI o) (nI x) = some (v, Mc') ∧ f_X11_removeAlone Mr (nI c) (nI o) (nI x) = some (v, Mr') ∧ CI N g B c 48 Mc' Mr' ∧ Mr' m_o 66 = Mr m_o 66 := by
  obtain ⟨R, I, U, O, W⟩ := id h
  have hg := I.1.1
  have ho : o < 48 := by omega
  have hx : x < 48 := by omega
  obtain ⟨n, hn, hl, hl0, hrec, hord⟩ := I.2.2.2.2.2.2.1 c hc
  have hlr : Mr m_records c = nI n := by rw [← (R.lg hc).1]; exact hl
  have hci := c_indexOf (N := N) (a1 := 1) (a2 := nI x) hl hn
  have hri := rec_eq (a1 := 1) (a2 := nI x) hc R hl hn
  have hci0 := c_indexOf (N := N) (a1 := 0) (a2 := nI x) hl hn
  have hri0 := rec_eq (a1 := 0) (a2 := nI x) hc R hl hn
  rcases fst_spec (N := n) (p := fun i => decide (Mc (41, c, 0) i = 1 ∧ Mc (42, c, 0) i = nI x)) with ⟨ef, hno⟩ | ⟨m, hm, ef, hpm⟩
  · -- servers may know it
    rw [ef] at hci hri
    have K : ∃ (Mc1 Mr1 : gM) (n1 : Nat) (ph : Nat → Nat) (w : Int32), f_X3_takeOut N Mc c (0 : Int32) (nI x) = some Mc1 ∧ f_X11_recordOf Mr (nI c) (0 : Int32) (nI x) = some w ∧ f_X3_indexOf N Mc c (0 : Int32) (nI x) = some w ∧ f_X11_takeOut Mr (nI c) w = some Mr1 ∧ Rel N g Mc1 Mr1 ∧ cf (fun j q => 40 ≤ j.1 ∧ j.1 ≤ 45 ∧ j.2.1 = c) Mc Mc1 ∧ cf (lgR c) Mr Mr1 ∧ n1 ≤ n ∧ (¬ w = -1 → n1 < n) ∧ Mc1 (40, c, 0) 4 = nI n1 ∧ (∀ k, k < n1 → ph k < n) ∧ (∀ i j, i < j → ph i < ph j) ∧ (∀ k, k < n1 → Mc1 (41, c, 0) k = Mc (41, c, 0) (ph k) ∧ Mc1 (42, c, 0) k = Mc (42, c, 0) (ph k) ∧ Mc1 (43, c, 0) k = Mc (43, c, 0) (ph k)) ∧ ∀ k, k < n1 → Mc (41, c, 0) (ph k) = 0 → ¬ Mc (42, c, 0) (ph k) = nI x := by
      rcases fst_spec (N := n) (p := fun i => decide (Mc (41, c, 0) i = 0 ∧ Mc (42, c, 0) i = nI x)) with ⟨ef0, hno0⟩ | ⟨w, hw, ef0, hpw⟩
      · rw [ef0] at hci0 hri0
        refine ⟨Mc, Mr, n, id, -1, c_take_no hl hn ef0, hri0, hci0, ?_, R, cf.rf _ _, cf.rf _ _, by omega, fun z => absurd rfl z, hl, fun k hk => hk, fun i j h => h, fun k hk => ⟨rfl, rfl, rfl⟩, fun k hk e1 e2 => of_decide_eq_false (hno0 k hk) ⟨e1, e2⟩⟩
        unfold f_X11_takeOut
        rw [if_pos rfl]
      · have hpw := of_decide_eq_true hpw
        rw [ef0] at hci0 hri0
        obtain ⟨Mc1, k1, t1⟩ := c_take hN hl hn hw ef0
        obtain ⟨Mr1, k2, u1⟩ := r_take hc hlr hn hw
        refine ⟨Mc1, Mr1, n - 1, sk w, nI w, k1, hri0, hci0, k2, tk_rel hN hc hn hw R hl t1 u1, t1.1, u1.1, by omega, fun _ => by omega, t1.2.1, fun k hk => sk_lt (by omega), fun i j h => sk_mono h, fun k hk => ⟨(t1.2.2 k (by omega)).1, (t1.2.2 k (by omega)).2.1, (t1.2.2 k (by omega)).2.2.1⟩, fun k hk e1 e2 => ?_⟩
        exact sk_ne (I.2.2.2.2.2.2.2 c c (sk w k) w hc hc (by rw [hl]; exact nI_lt (sk_lt (by omega)) (by omega)) (by rw [hl]; exact nI_lt hw (by omega)) (by have := sk_lt (i := w) (show k + 1 < n by omega); omega) (by omega) (by rw [e1, hpw.1]) (Or.inr ⟨rfl, e1⟩) (by rw [e2, hpw.2])).2
    obtain ⟨Mc1, Mr1, n1, ph, w, k1, k2, k3, k4, R1, f1, f2, hn1, hnw, l1, ph1, ph2, vals, nox⟩ := K
    by_cases hfull : n = 12 ∧ w = -1
    · refine ⟨-2199023255557, Mc, Mr, ?_, ?_, h, rfl⟩
      · unfold f_X1_removeAlone
        rw [hci, o1_s, if_pos rfl, c_full hl hn, hfull.1, if_neg (by decide), o1_s, jn_d, if_neg (by decide), k3, o1_s, if_pos hfull.2]
      · unfold f_X11_removeAlone
        rw [hri, o1_s, k2, o1_s, if_pos rfl, rd_n hc (by omega), hlr, hfull.1, jn_d, if_pos (by decide), if_pos hfull.2]
    · have hn12 : n1 < 12 := by
        by_cases e : w = -1
        · have : ¬ n = 12 := fun z => hfull ⟨z, e⟩
          omega
        · have := hnw e; omega
      have l1r : Mr1 m_records c = nI n1 := by rw [← (R1.lg hc).1]; exact l1
      have hx1' : ¬ Mc1 (51, 4 + c, 0) x = 0 := by rw [f1 _ _ (by dsimp only; omega), hhx]; decide
      have rA := R1.add (a1 := 2) (a3 := nI o) hN hc hx l1 hn12 hx1'
      have fA := cAd_fr (N := N) (M := Mc1) (c := c) (n := n1) (a1 := 2) (a2 := nI x) (a3 := nI o) (o := x)
      have gA := rAd_fr (M := Mr1) (c := c) (o := x) (a1 := 2) (a3 := nI o) hn12
      have lA : cAdd N Mc1 c n1 2 (nI x) (nI o) (55, 4 + c, x) (40, c, 0) 4 = nI (n1 + 1) := cAd_l
      have vA : ∀ i, _ := fun i => cAd_v (N := N) (M := Mc1) (c := c) (n := n1) (a1 := 2) (a2 := nI x) (a3 := nI o) (o := x) (i := i)
      obtain ⟨A, hA⟩ : ∃ A, A = cAdd N Mc1 c n1 2 (nI x) (nI o) (55, 4 + c, x) := ⟨_, rfl⟩
      obtain ⟨Ar, hAr⟩ : ∃ A, A = rAd Mr1 c n1 x 2 (nI o) := ⟨_, rfl⟩
      rw [← hA] at rA fA lA
      simp only [← hA] at vA
      rw [← hAr] at rA gA
      have f2' : cf (fun j q => 40 ≤ j.1 ∧ j.1 ≤ 45 ∧ j.2.1 = c) Mc A := f1.tr fA
      have hoA : A (51, 4 + c, 0) o = 1 := by rw [f2' _ _ (by dsimp only; omega)]; exact hho
      have fG := cGn_k (N := N) (c := c) (x := x) (M := A) (row := (55, 4 + c, x))
      have hGv : cGn N A (4 + c) x (55, 4 + c, x) (56, 4 + c, 0) x = 2 := cGn_v.1
      obtain ⟨Y, hY⟩ : ∃ Y, Y = gpu (gset Ar m_keptEntry (48 * c + x) 2) m_keptGone (8 * (48 * c + x)) 8 (fun k => gset Ar m_keptEntry (48 * c + x) 2 m_keptVector (8 * (48 * c + x) + k)) := ⟨_, rfl⟩
      have fYr : cf (fun j q => (j = m_keptEntry ∧ q = 48 * c + x) ∨ j.1 = 31) Ar Y := by rw [hY]; exact (cf.st (Or.inl ⟨rfl, rfl⟩)).tr (cf.pu (fun _ _ _ => Or.inr rfl))
      have rG : Rel N g (cGn N A (4 + c) x (55, 4 + c, x)) Y := kent hN hc hx rA fG hGv fYr (by rw [hY, gpu_ne (by decide), gset_r, if_pos ⟨rfl, rfl⟩])
      have jG : JInv N g (cGn N A (4 + c) x (55, 4 + c, x)) := kent_invJ hN hc hx1 hxg (I.j.lgs hN (f2'.mo (fun j q h => ⟨h.1, h.2.1⟩))) fG hGv (Or.inr (Or.inr rfl))
      obtain ⟨X, hX⟩ : ∃ X, X = cGn N A (4 + c) x (55, 4 + c, x) := ⟨_, rfl⟩
      rw [← hX] at rG jG fG hGv
      have f3 : cf (fun j q => (40 ≤ j.1 ∧ j.1 ≤ 45 ∧ j.2.1 = c) ∨ (j.1 = 56 ∧ j.2.1 = 4 + c) ∨ (j.1 = 58 ∧ 4 ≤ j.2.1)) Mc X := (f2'.mo (fun j q h => Or.inl h)).tr (fG.mo (fun j q h => h.elim (fun h => Or.inr (Or.inl (by rw [h.1]; exact ⟨rfl, rfl⟩))) (fun h => Or.inr (Or.inr h))))
      have fY : cf (fun j q => lgR c j q ∨ j.1 = 30 ∨ j.1 = 31) Mr Y := ((f2.mo (fun j q h => Or.inl h)).tr (gA.mo (fun j q h => Or.inl h))).tr (fYr.mo (fun j q h => h.elim (fun h => Or.inr (Or.inl (by rw [h.1]))) (fun h => Or.inr (Or.inr h))))
      have h13 : X (1, 0, 0) 3 = nI g := rG.ct.1
      have r3 := rel_cdrop hN hc hx rG jG.1
      have j3 := inv_cdropJ (o := x) hN hc hx jG
      have U2 : Usd B X Y := U.fr f3 fY (fun c q => by dsimp only; omega) (fun c => by dsimp only; omega) (fun q => by unfold lgR; dsimp only; omega) (fun q => by unfold lgR; dsimp only; omega) (by unfold lgR; dsimp only; omega) (by unfold lgR; dsimp only; omega)
      have O2 : uAll c 48 X Y := O.fr f3 fY (fun c q => by dsimp only; omega) (fun c q => by dsimp only; omega) (fun q => by unfold lgR; dsimp only; omega)
      have W2 : uNow c 48 X Y := W.fr f3 fY (fun q => by dsimp only; omega) (by dsimp only; omega) (by dsimp only; omega) (fun q => by unfold lgR; dsimp only; omega) (by unfold lgR; dsimp only; omega) (fun q _ _ e => by rw [f3 _ _ (by dsimp only; omega)] at e; exact e)
      have U3 := usd_cdrop (N := N) (c := c) (o := x) U2 hg
      have O3 := all_cdrop (N := N) (o := x) O2 hg
      have W3 := now_cdrop (N := N) (o := x) W2 hg
      have fd := cDp_fr (N := N) (g := g) (c := c) (o := x) (M := X)
      have hoD : cDp N g X c x (51, 4 + c, 0) o = 1 := by rw [cDp_h 51 o (Or.inl rfl), if_neg hox, f3 _ _ (by dsimp only; omega)]; exact hho
      have rF := r3.kdir (v := 1) hN hc ho
      have fF : cf (fun j q => j = (33, c, 0) ∧ q = o) (cDp N g X c x) (gset (cDp N g X c x) (33, c, 0) o 1) := cf.st ⟨rfl, rfl⟩
      have jF : JInv N g (gset (cDp N g X c x) (33, c, 0) o 1) := by
        refine j3.dirt hN hc (fF.mo (fun j q h => by rw [h.1]; exact ⟨rfl, rfl⟩)) (fun p hp => ?_)
        rw [gset_r]
        by_cases e : p = o
        · subst e; rw [if_pos ⟨rfl, rfl⟩]; exact ⟨Or.inr rfl, fun z => absurd (hoD.symm.trans z) (by decide)⟩
        · rw [if_neg (fun z => e z.2)]
          have k0 := j3.2.2.2.2.1 c hc p hp
          exact ⟨k0.2.1, fun z => (k0.2.2.2.2.2.1 z).2⟩
      have fAll : cf (fun j q => (40 ≤ j.1 ∧ j.1 ≤ 45 ∧ j.2.1 = c) ∨ (51 ≤ j.1 ∧ j.1 ≤ 58 ∧ j.2.1 = 4 + c) ∨ (j.1 = 58 ∧ 4 ≤ j.2.1) ∨ ((j.1 = 32 ∨ j.1 = 33) ∧ j.2.1 = c)) Mc (gset (cDp N g X c x) (33, c, 0) o 1) := ((f3.mo (fun j q h => by omega)).tr (fd.mo (fun j q h => by omega))).tr (cf.st (by simp))
      have q4 : ∀ t i, 40 ≤ t → t ≤ 43 → gset (cDp N g X c x) (33, c, 0) o 1 (t, c, 0) i = A (t, c, 0) i := fun t i h1 h2 => by
        rw [fF _ _ (fun z => by have := congrArg Prod.fst z.1; dsimp only at this; omega), fd _ _ (by dsimp only; omega), fG _ _ (by rintro (z | z); have := congrArg Prod.fst z.1; dsimp only at this; omega; dsimp only at z; omega)]
      obtain ⟨F, hF⟩ : ∃ F, F = gset (cDp N g X c x) (33, c, 0) o 1 := ⟨_, rfl⟩
      have hFk : ∀ ob, ob ≠ x → Mc (51, 4 + c, 0) ob = 1 → Mc (33, c, 0) ob = 1 → F (51, 4 + c, 0) ob = 1 ∧ F (33, c, 0) ob = 1 := fun ob h1 h2 h3 => by
        rw [hF]
        refine ⟨?_, ?_⟩
        · rw [gset_r, if_neg (by simp), cDp_h 51 ob (Or.inl rfl), if_neg h1, f3 _ _ (by dsimp only; omega)]; exact h2
        · rw [gset_r]
          by_cases e : ob = o
          · rw [if_pos ⟨rfl, e⟩]
          · rw [if_neg (fun z => e z.2), cDp_3 33 ob (Or.inr rfl), if_neg h1, f3 _ _ (by dsimp only; omega)]; exact h3
      rw [← hF] at rF fF jF fAll
      simp only [← hF] at q4
      have lF : F (40, c, 0) 4 = nI (n1 + 1) := by rw [q4 40 4 (by omega) (by omega)]; exact lA
      have eo : ∀ i, i < n1 → F (41, c, 0) i = Mc1 (41, c, 0) i ∧ F (42, c, 0) i = Mc1 (42, c, 0) i := fun i hi => by
        rw [q4 41 i (by omega) (by omega), q4 42 i (by omega) (by omega), (vA i).1, (vA i).2.1, if_neg (by omega), if_neg (by omega)]
        exact ⟨rfl, rfl⟩
      have kn : F (41, c, 0) n1 = 2 := by rw [q4 41 n1 (by omega) (by omega), (vA n1).1, if_pos rfl]
      have phi : ∀ i j, i < n1 → j < n1 → ph i = ph j → i = j := fun i j _ _ e => by
        rcases Nat.lt_trichotomy i j with y | y | y
        · have := ph2 i j y; omega
        · exact y
        · have := ph2 j i y; omega
      have mk1 : iMk Mc1 := iMk_edit hc hn (by omega) I.2.2.2.2.2.2.2 hl l1 ph1 phi (fun i hi => ⟨(vals i hi).1, (vals i hi).2.1⟩) (fun d hd i => ⟨f1 _ _ (by dsimp only; omega), f1 _ _ (by dsimp only; omega), f1 _ _ (by dsimp only; omega)⟩)
      have iF : Inv N g F := by
        refine jF.up (fun d hd => ?_) (iMk_add hc hn12 mk1 l1 lF eo (fun d hd i => ⟨?_, ?_, ?_⟩) (fun e => absurd (kn.symm.trans e) (by decide)) (fun e => absurd (kn.symm.trans e) (by decide)))
        · by_cases ed : d = c
          · subst ed
            refine iLg_add hn12 lF eo (fun k hk => ?_) ?_ (fun i j hi hj x1 x2 x3 => ?_) (fun e => absurd (kn.symm.trans e) (by decide))
            · have e43 : F (43, d, 0) k = Mc (43, d, 0) (ph k) := by rw [q4 43 k (by omega) (by omega), (vA k).2.2, if_neg (by omega)]; exact (vals k hk).2.2
              refine (hrec (ph k) (ph1 k hk)).to2 ((eo k hk).1.trans (vals k hk).1) ((eo k hk).2.trans (vals k hk).2.1) e43 (fun ob h1 e1 e2 h3 h4 => ?_) (fun ob h1 => ⟨fAll _ _ (by dsimp only; omega), fAll _ _ (by dsimp only; omega)⟩) (fun s ob hs h1 => ⟨fAll _ _ (by dsimp only; omega), fAll _ _ (by dsimp only; omega)⟩)
              refine hFk ob (fun e => ?_) h3 h4
              subst e
              exact nox k hk e1 e2
            · refine ⟨x, hx1, hxg, by rw [q4 42 n1 (by omega) (by omega), (vA n1).2.1, if_pos rfl], Or.inr (Or.inr ⟨kn, ?_⟩)⟩
              rw [q4 43 n1 (by omega) (by omega), (vA n1).2.2, if_pos rfl, fAll _ _ (by dsimp only; omega)]
              exact hp.symm
            · rw [(vals i hi).1] at x1
              rw [(vals j hj).1] at x2
              rw [(vals i hi).2.1, (vals j hj).2.1] at x3
              have := hord _ _ (ph1 i hi) (ph1 j hj) x1 x2 x3
              rcases Nat.lt_trichotomy i j with y | y | y
              · exact y
              · subst y; omega
              · have := ph2 j i y; omega
          · exact (I.2.2.2.2.2.2.1 d hd).oth hg ed hN fAll
        · rw [fAll _ _ (by dsimp only; omega), f1 _ _ (by dsimp only; omega)]
        · rw [fAll _ _ (by dsimp only; omega), f1 _ _ (by dsimp only; omega)]
        · rw [fAll _ _ (by dsimp only; omega), f1 _ _ (by dsimp only; omega)]
      have hev : f_X1_removeAlone N Mc c (nI o) (nI x) = some (0, F) := by
        have tail : o1 (f_X3_takeOut N Mc c (0 : Int32) (nI x)) (fun M8 => ix (nI x) 48 (fun v9 => o1 (f_X3_add N M8 c (2 : Int32) (nI x) (nI o) (55, (4 + c), v9)) (fun M11 => o1 (f_X1_dropRemoved N M11 c (nI o) (nI x)) (fun M13 => wz M13 (33, c, 0) 48 (nI o) (1 : Int32) (fun M14 => some ((0 : Int64), M14)))))) = some (0, F) := by
          rw [k1, o1_s, ix_n hx (by omega), c_add hN l1 hn12 (cN55 _ _ _) rfl, o1_s, ← hA]
          unfold f_X1_dropRemoved
          rw [rd_n ho (by omega), hoA, jn_d, if_neg (by decide), ix_n hx (by omega), c_setGone hN hx (cN55 _ _ _) (by simp), o1_s, ← hX]
          dsimp only
          rw [c_drop1 hN h13 hg hx, o1_s, o1_s, wz_1 ho (by omega), hF]
        unfold f_X1_removeAlone
        rw [hci, o1_s, if_pos rfl, c_full hl hn, o1_s, jn_d]
        by_cases e12 : n < 12
        · rw [if_pos e12, if_pos rfl]; exact tail
        · rw [if_neg e12, if_neg (by decide), k3, o1_s, if_neg (fun z => hfull ⟨by omega, z⟩)]; exact tail
      have hevr : f_X11_removeAlone Mr (nI c) (nI o) (nI x) = some (0, gset (rFg g Y c x) m_dirty (48 * c + o) 1) := by
        have tail : o1 (f_X11_takeOut Mr (nI c) w) (fun M9 => o1 (f_X11_addRecord M9 (nI c) (2 : Int32) (nI x) (nI o)) (fun M11 => wr M11 m_keptEntry 192 (((48 : Int32) * nI c) + nI x) (2 : Int32) (fun M12 => o1 (f_X11_copyTo M12 m_keptVector (((48 : Int32) * nI c) + nI x) m_keptGone (((48 : Int32) * nI c) + nI x)) (fun M14 => wz M14 m_dirty 192 (((48 : Int32) * nI c) + nI o) (1 : Int32) (fun M15 => o1 (f_X11_forget M15 (nI c) (nI x)) (fun M17 => some ((0 : Int64), M17))))))) = some (0, gset (rFg g Y c x) m_dirty (48 * c + o) 1) := by
          rw [k4, o1_s, r_addRecord hc hx l1r hn12, o1_s, ← hAr, nI_m48, nI_add, nI_add, wr_n (by omega) (by omega), r_copyTo (by show _ ≤ 1536; omega) (by show _ ≤ 1536; omega) (by decide) (by decide), o1_s, ← hY, wz_1 (by omega) (by omega), r_forget (g := g) (by rw [gset_r, if_neg (by simp)]; exact rG.ct.2.1) hg hc hx, o1_s, rFg_dir (by omega)]
        unfold f_X11_removeAlone
        rw [hri, o1_s, k2, o1_s, if_pos rfl, rd_n hc (by omega), hlr, jn_d]
        by_cases e12 : n = 12
        · rw [if_pos (by rw [e12]; rfl), if_neg (fun z => hfull ⟨e12, z⟩)]; exact tail
        · rw [if_neg (by rw [show (12 : Int32) = nI 12 from rfl, neq (by omega) (by omega)]; exact e12)]; exact tail
      refine ⟨0, F, _, hev, hevr, ⟨rF, iF, U3.fr (A := fun j q => j.1 = 33) (B := fun j q => j.1 = 27) (fF.mo (fun j q h => by rw [h.1])) (cf.st rfl) (fun c q => by simp) (fun c => by simp) (fun q => by simp) (fun q => by simp) (by simp) (by simp), O3.fr (A := fun j q => j.1 = 33) (B := fun j q => j.1 = 27) (fF.mo (fun j q h => by rw [h.1])) (cf.st rfl) (fun c q => by simp) (fun c q => by simp) (fun q => by simp), W3.fr (A := fun j q => j.1 = 33) (B := fun j q => j.1 = 27) (fF.mo (fun j q h => by rw [h.1])) (cf.st rfl) (fun q => by simp) (by simp) (by simp) (fun q => by simp) (by simp) (fun q _ _ e => by rw [fF _ _ (by simp)] at e; exact e)⟩, ?_⟩
      rw [gset_r, if_neg (by simp), rFg_fr hg _ _ (by dsimp only; omega)]
      exact fY _ _ (by unfold lgR; dsimp only; omega)
  · -- it was made alone
    rw [ef] at hci hri
    have hm1 : ¬ nI m = (-1 : Int32) := by rw [nI_m1 (by omega)]; exact id
    obtain ⟨Mc1, Mr1, n2, ph, w, k1, k2, k3, R1, f1, f2, hn2, l1, ph1, ph2, vals, nox⟩ := undo_logs hN hc R I hl hn hm ef (of_decide_eq_true hpm)
    have l1r : Mr1 m_records c = nI n2 := by rw [← (R1.lg hc).1]; exact l1
    have r2 : Rel N g (cFe N Mc1 (4 + c) x) (gset Mr1 m_keptEntry (48 * c + x) 0) := kent hN hc hx R1 cFe_k cFe_v ((cf.st (A := fun j q => j = m_keptEntry ∧ q = 48 * c + x) ⟨rfl, rfl⟩).mo (fun j q h => Or.inl h)) (by rw [gset_r, if_pos ⟨rfl, rfl⟩])
    have j2 : JInv N g (cFe N Mc1 (4 + c) x) := kent_invJ hN hc hx1 hxg (I.j.lgs hN (f1.mo (fun j q h => ⟨h.1, h.2.1⟩))) cFe_k cFe_v (Or.inl rfl)
    have f3 : cf (fun j q => (40 ≤ j.1 ∧ j.1 ≤ 45 ∧ j.2.1 = c) ∨ (j.1 = 56 ∧ j.2.1 = 4 + c) ∨ (j.1 = 58 ∧ 4 ≤ j.2.1)) Mc (cFe N Mc1 (4 + c) x) := (f1.mo (fun j q h => Or.inl h)).tr (cFe_k.mo (fun j q h => h.elim (fun h => Or.inr (Or.inl (by rw [h.1]; exact ⟨rfl, rfl⟩))) (fun h => Or.inr (Or.inr h))))
    have h2 : CI N g B c 48 Mc Mr := h
    obtain ⟨X, hX⟩ : ∃ X, X = cFe N Mc1 (4 + c) x := ⟨_, rfl⟩
    obtain ⟨Y, hY⟩ : ∃ Y, Y = gset Mr1 m_keptEntry (48 * c + x) 0 := ⟨_, rfl⟩
    have fY : cf (fun j q => lgR c j q ∨ j.1 = 30) Mr Y := by rw [hY]; exact (f2.mo (fun j q h => Or.inl h)).tr (cf.st (Or.inr rfl))
    rw [← hX] at r2 j2 f3
    rw [← hY] at r2
    have h13 : X (1, 0, 0) 3 = nI g := r2.ct.1
    have r3 := rel_cdrop hN hc hx r2 j2.1
    have j3 := inv_cdropJ (o := x) hN hc hx j2
    have U2 : Usd B X Y := U.fr f3 fY (fun c q => by dsimp only; omega) (fun c => by dsimp only; omega) (fun q => by unfold lgR; dsimp only; omega) (fun q => by unfold lgR; dsimp only; omega) (by unfold lgR; dsimp only; omega) (by unfold lgR; dsimp only; omega)
    have O2 : uAll c 48 X Y := O.fr f3 fY (fun c q => by dsimp only; omega) (fun c q => by dsimp only; omega) (fun q => by unfold lgR; dsimp only; omega)
    have W2 : uNow c 48 X Y := W.fr f3 fY (fun q => by dsimp only; omega) (by dsimp only; omega) (by dsimp only; omega) (fun q => by unfold lgR; dsimp only; omega) (by unfold lgR; dsimp only; omega) (fun q _ _ e => by rw [f3 _ _ (by dsimp only; omega)] at e; exact e)
    have U3 := usd_cdrop (N := N) (c := c) (o := x) U2 hg
    have O3 := all_cdrop (N := N) (o := x) O2 hg
    have W3 := now_cdrop (N := N) (o := x) W2 hg
    have fd := cDp_fr (N := N) (g := g) (c := c) (o := x) (M := X)
    have l3 : cDp N g X c x (40, c, 0) 4 = nI n2 := by rw [fd _ _ (by dsimp only; omega), hX, cFe_k _ _ (by simp)]; exact l1
    have l3r : rFg g Y c x m_records c = nI n2 := by rw [← (r3.lg hc).1]; exact l3
    have vals3 : ∀ k, k < n2 → cDp N g X c x (41, c, 0) k = Mc (41, c, 0) (ph k) ∧ cDp N g X c x (42, c, 0) k = Mc (42, c, 0) (ph k) ∧ cDp N g X c x (43, c, 0) k = Mc (43, c, 0) (ph k) := fun k hk => by
      rw [fd _ _ (by dsimp only; omega), fd _ _ (by dsimp only; omega), fd _ _ (by dsimp only; omega), hX, cFe_k _ _ (by simp), cFe_k _ _ (by simp), cFe_k _ _ (by simp)]; exact vals k hk
    have hev : f_X1_undoMake N Mc c (nI x) = some (if n2 = 0 then gpu (cDp N g X c x) (33, c, 0) 0 48 (fun _ => 0) else cDp N g X c x) := by
      unfold f_X1_undoMake
      have e1 : o1 (f_X3_takeOut N Mc c (1 : Int32) (nI x)) (fun M2 => o1 (f_X3_takeOut N M2 c (0 : Int32) (nI x)) (fun M4 => o1 (f_X8_forgetEntry N M4 (4 + c) (nI x)) (fun M6 => o1 (f_X1_drop N M6 c (nI x)) (fun M8 => f_X1_undoMake_L33 N c 100 (0 : Int32) M8)))) = o1 (o1 (f_X3_takeOut N Mc c (1 : Int32) (nI x)) (fun M2 => f_X3_takeOut N M2 c (0 : Int32) (nI x))) (fun M4 => o1 (f_X8_forgetEntry N M4 (4 + c) (nI x)) (fun M6 => o1 (f_X1_drop N M6 c (nI x)) (fun M8 => f_X1_undoMake_L33 N c 100 (0 : Int32) M8))) := by
        cases f_X3_takeOut N Mc c (1 : Int32) (nI x) <;> rfl
      rw [e1, k1, o1_s, c_forgetEntry hN hx, o1_s, ← hX, c_drop1 hN h13 hg hx, o1_s, c_clr l3 (by omega)]
    have hevr : f_X11_removeAlone Mr (nI c) (nI o) (nI x) = some (0, if n2 = 0 then gpu (rFg g Y c x) m_dirty (48 * c) 48 (fun _ => 0) else rFg g Y c x) := by
      unfold f_X11_removeAlone
      rw [hri, o1_s, k2, o1_s, if_neg hm1]
      have e1 : o1 (f_X11_takeOut Mr (nI c) w) (fun M21 => o1 (f_X11_takeOut M21 (nI c) (nI m)) (fun M23 => wr M23 m_keptEntry 192 (((48 : Int32) * (nI c)) + (nI x)) (0 : Int32) (fun M24 => o1 (f_X11_forget M24 (nI c) (nI x)) (fun M26 => f_X11_removeAlone_L59 (nI c) 100 (0 : Int32) M26)))) = o1 (o1 (f_X11_takeOut Mr (nI c) w) (fun M21 => f_X11_takeOut M21 (nI c) (nI m))) (fun M23 => wr M23 m_keptEntry 192 (((48 : Int32) * (nI c)) + (nI x)) (0 : Int32) (fun M24 => o1 (f_X11_forget M24 (nI c) (nI x)) (fun M26 => f_X11_removeAlone_L59 (nI c) 100 (0 : Int32) M26))) := by
        cases f_X11_takeOut Mr (nI c) w <;> rfl
      rw [e1, k3, o1_s, nI_m48, nI_add, wr_n (by omega) (by omega), ← hY, r_forget r2.ct.2.1 hg hc hx, o1_s, r_clr hc l3r (by omega)]
    have fAll : cf (fun j q => (40 ≤ j.1 ∧ j.1 ≤ 45 ∧ j.2.1 = c) ∨ (51 ≤ j.1 ∧ j.1 ≤ 58 ∧ j.2.1 = 4 + c) ∨ (j.1 = 58 ∧ 4 ≤ j.2.1) ∨ ((j.1 = 32 ∨ j.1 = 33) ∧ j.2.1 = c)) Mc (if n2 = 0 then gpu (cDp N g X c x) (33, c, 0) 0 48 (fun _ => 0) else cDp N g X c x) := by
      have q1 : cf (fun j q => (40 ≤ j.1 ∧ j.1 ≤ 45 ∧ j.2.1 = c) ∨ (51 ≤ j.1 ∧ j.1 ≤ 58 ∧ j.2.1 = 4 + c) ∨ (j.1 = 58 ∧ 4 ≤ j.2.1) ∨ ((j.1 = 32 ∨ j.1 = 33) ∧ j.2.1 = c)) Mc (cDp N g X c x) := (f3.mo (fun j q h => by omega)).tr (fd.mo (fun j q h => by omega))
      by_cases e : n2 = 0
      · rw [if_pos e]; exact q1.tr (cf.pu (fun _ _ _ => Or.inr (Or.inr (Or.inr ⟨Or.inr rfl, rfl⟩))))
      · rw [if_neg e]; exact q1
    have gAll : cf (fun j q => lgR c j q ∨ j.1 = 30 ∨ j.1 = 22 ∨ j.1 = 27 ∨ j.1 = 26) Mr (if n2 = 0 then gpu (rFg g Y c x) m_dirty (48 * c) 48 (fun _ => 0) else rFg g Y c x) := by
      have q1 : cf (fun j q => lgR c j q ∨ j.1 = 30 ∨ j.1 = 22 ∨ j.1 = 27 ∨ j.1 = 26) Mr (rFg g Y c x) := (fY.mo (fun j q h => h.elim Or.inl (fun h => Or.inr (Or.inl h)))).tr ((rFg_fr hg).mo (fun j q h => by omega))
      by_cases e : n2 = 0
      · rw [if_pos e]; exact q1.tr (cf.pu (fun _ _ _ => by simp))
      · rw [if_neg e]; exact q1
    -- the last state: its invariants
    have lF : (if n2 = 0 then gpu (cDp N g X c x) (33, c, 0) 0 48 (fun _ => 0) else cDp N g X c x) (40, c, 0) 4 = nI n2 := by
      by_cases e : n2 = 0
      · rw [if_pos e, gpu_ne (by simp)]; exact l3
      · rw [if_neg e]; exact l3
    have vF : ∀ k, k < n2 → (if n2 = 0 then gpu (cDp N g X c x) (33, c, 0) 0 48 (fun _ => 0) else cDp N g X c x) (41, c, 0) k = Mc (41, c, 0) (ph k) ∧ (if n2 = 0 then gpu (cDp N g X c x) (33, c, 0) 0 48 (fun _ => 0) else cDp N g X c x) (42, c, 0) k = Mc (42, c, 0) (ph k) ∧ (if n2 = 0 then gpu (cDp N g X c x) (33, c, 0) 0 48 (fun _ => 0) else cDp N g X c x) (43, c, 0) k = Mc (43, c, 0) (ph k) := fun k hk => by
      rw [if_neg (show ¬ n2 = 0 by omega)]; exact vals3 k hk
    have hF0 : n2 = 0 → ∀ p, p < 48 → (if n2 = 0 then gpu (cDp N g X c x) (33, c, 0) 0 48 (fun _ => 0) else cDp N g X c x) (33, c, 0) p = 0 := fun e p hp => by
      rw [if_pos e, gpu_r, if_pos ⟨rfl, by omega, by omega⟩]
    have hFd : ¬ n2 = 0 → ∀ ob, ob ≤ g → ob ≠ x → Mc (51, 4 + c, 0) ob = 1 → Mc (33, c, 0) ob = 1 → (if n2 = 0 then gpu (cDp N g X c x) (33, c, 0) 0 48 (fun _ => 0) else cDp N g X c x) (51, 4 + c, 0) ob = 1 ∧ (if n2 = 0 then gpu (cDp N g X c x) (33, c, 0) 0 48 (fun _ => 0) else cDp N g X c x) (33, c, 0) ob = 1 := fun e ob h1 h2 h3 h4 => by
      rw [if_neg e, cDp_h 51 ob (Or.inl rfl), cDp_3 33 ob (Or.inr rfl), if_neg h2, if_neg h2, f3 _ _ (by dsimp only; omega), f3 _ _ (by dsimp only; omega)]; exact ⟨h3, h4⟩
    have jF : JInv N g (if n2 = 0 then gpu (cDp N g X c x) (33, c, 0) 0 48 (fun _ => 0) else cDp N g X c x) := by
      by_cases e : n2 = 0
      · rw [if_pos e]
        refine j3.dirt hN hc (cf.pu (fun _ _ _ => ⟨rfl, rfl⟩)) (fun p hp => ?_)
        rw [gpu_r, if_pos ⟨rfl, by omega, by omega⟩]
        exact ⟨Or.inl rfl, fun _ => rfl⟩
      · rw [if_neg e]; exact j3
    have rF : Rel N g (if n2 = 0 then gpu (cDp N g X c x) (33, c, 0) 0 48 (fun _ => 0) else cDp N g X c x) (if n2 = 0 then gpu (rFg g Y c x) m_dirty (48 * c) 48 (fun _ => 0) else rFg g Y c x) := by
      by_cases e : n2 = 0
      · rw [if_pos e, if_pos e]; exact clr_rel hN hc r3
      · rw [if_neg e, if_neg e]; exact r3
    obtain ⟨F, hF⟩ : ∃ F, F = (if n2 = 0 then gpu (cDp N g X c x) (33, c, 0) 0 48 (fun _ => 0) else cDp N g X c x) := ⟨_, rfl⟩
    obtain ⟨Fr, hFr⟩ : ∃ F, F = (if n2 = 0 then gpu (rFg g Y c x) m_dirty (48 * c) 48 (fun _ => 0) else rFg g Y c x) := ⟨_, rfl⟩
    have U4 : Usd B F Fr := by
      rw [hF, hFr]
      by_cases e : n2 = 0
      · rw [if_pos e, if_pos e]; exact U3.fr (A := fun j q => j.1 = 33) (B := fun j q => j.1 = 27) (cf.pu (fun _ _ _ => rfl)) (cf.pu (fun _ _ _ => rfl)) (fun c q => by simp) (fun c => by simp) (fun q => by simp) (fun q => by simp) (by simp) (by simp)
      · rw [if_neg e, if_neg e]; exact U3
    have O4 : uAll c 48 F Fr := by
      rw [hF, hFr]
      by_cases e : n2 = 0
      · rw [if_pos e, if_pos e]; exact O3.fr (A := fun j q => j.1 = 33) (B := fun j q => j.1 = 27) (cf.pu (fun _ _ _ => rfl)) (cf.pu (fun _ _ _ => rfl)) (fun c q => by simp) (fun c q => by simp) (fun q => by simp)
      · rw [if_neg e, if_neg e]; exact O3
    have W4 : uNow c 48 F Fr := by
      rw [hF, hFr]
      by_cases e : n2 = 0
      · rw [if_pos e, if_pos e]; exact W3.fr (A := fun j q => j.1 = 33) (B := fun j q => j.1 = 27) (cf.pu (fun _ _ _ => rfl)) (cf.pu (fun _ _ _ => rfl)) (fun q => by simp) (by simp) (by simp) (fun q => by simp) (by simp) (fun q _ _ e => by rw [gpu_ne (by simp)] at e; exact e)
      · rw [if_neg e, if_neg e]; exact W3
    rw [← hF] at hev fAll lF hF0 hFd jF rF
    simp only [← hF] at vF
    rw [← hFr] at hevr gAll rF
    have iF : Inv N g F := by
      refine jF.up (fun d hd => ?_) (iMk_edit hc hn (by omega) I.2.2.2.2.2.2.2 hl lF ph1 (fun i j _ _ e => ?_) (fun i hi => ⟨(vF i hi).1, (vF i hi).2.1⟩) (fun d hd i => ⟨fAll _ _ (by dsimp only; omega), fAll _ _ (by dsimp only; omega), fAll _ _ (by dsimp only; omega)⟩))
      · by_cases ed : d = c
        · subst ed
          refine ⟨n2, by omega, lF, hF0, fun k hk => ?_, fun i j hi hj x1 x2 x3 => ?_⟩
          · refine (hrec (ph k) (ph1 k hk)).to2 (vF k hk).1 (vF k hk).2.1 (vF k hk).2.2 (fun ob h1 e1 e2 h3 h4 => ?_) (fun ob h1 => ⟨fAll _ _ (by dsimp only; omega), fAll _ _ (by dsimp only; omega)⟩) (fun s ob hs h1 => ⟨fAll _ _ (by dsimp only; omega), fAll _ _ (by dsimp only; omega)⟩)
            refine hFd (by omega) ob h1 (fun e => ?_) h3 h4
            subst e
            exact nox k hk e1 e2
          · rw [(vF i hi).1] at x1
            rw [(vF j hj).1] at x2
            rw [(vF i hi).2.1, (vF j hj).2.1] at x3
            have := hord _ _ (ph1 i hi) (ph1 j hj) x1 x2 x3
            rcases Nat.lt_trichotomy i j with y | y | y
            · exact y
            · subst y; omega
            · have := ph2 j i y; omega
        · exact (I.2.2.2.2.2.2.1 d hd).oth hg ed hN fAll
      · rcases Nat.lt_trichotomy i j with y | y | y
        · have := ph2 i j y; omega
        · exact y
        · have := ph2 j i y; omega
    refine ⟨0, F, Fr, ?_, hevr, ⟨rF, iF, U4, O4, W4⟩, gAll _ _ (by unfold lgR; dsimp only; omega)⟩
    unfold f_X1_removeAlone
    rw [hci, o1_s, if_neg hm1, hev, o1_s]
end RL2
