/-! layer 2: walk -/
section WK
variable {N g B s o c d x z T n t : Nat} {M M' Mc Mr Mc' Mr' : gM} {zz : lS} {v w a1 a2 a3 a4 : Int32}
def wR (c : Nat) (j : gI) (q : Nat) : Prop := tR c j q ∨ (j.1 = 0 ∧ q = 42)
theorem walk_in {p : Nat} {J70 J76 : gM → Option (Nat × Int64 × gM)} {J113 J119 : gM → Option (Int64 × gM)} (hN : N ≤ 4) (hc : c < 4) (hg : g ≤ 47) (hB : B ≤ 800000) (h : CI N g B c 48 Mc Mr) : ∃ Mc' Mr', f_X10_walk_L32 N a1 c (nI p) J70 J76 100 (0 : Int32) Mc = J70 Mc' ∧ f_X11_walk_L56 (nI c) (nI p) J113 J119 100 (0 : Int32) Mr = J113 Mr' ∧ CI N g (B + 96) c 48 Mc' Mr' ∧ cf (tC c) Mc Mc' ∧ cf (wR c) Mr Mr' := by
  obtain ⟨Mc', Mr', k1, k2, k3, k4, k5⟩ := loop2 (fun n k M => f_X10_walk_L32 N a1 c (nI p) J70 J76 n (nI k) M) (fun n k M => f_X11_walk_L56 (nI c) (nI p) J113 J119 n (nI k) M) (g + 1) J70 J113 (fun k M1 M2 => CI N g (B + 2 * k) c 48 M1 M2 ∧ cf (tC c) Mc M1 ∧ cf (wR c) Mr M2) (by omega) (fun n n' k M1 M2 hk ⟨ci, c1, c2⟩ => by
    obtain ⟨R, I, U, O, W⟩ := id ci
    have hp := (R.kl hc (show k < 48 by omega)).2.2.2.2.2.1
    by_cases e : M1 (31, c, 0) k = nI p
    · obtain ⟨v, Mc2, Mr2, e1, e2, e3⟩ := obtain9 (be := nI p) (o := k) hN hc (by omega) (by omega) ci
      have fs : cf (fun j q => (j.1 = 0 ∧ q = 42) ∨ j.1 = 41 ∨ j.1 = 42) Mr2 (gset Mr2 m_o 42 (if lg_cmp v 0 = 0 then Mr2 m_o 42 else 0)) := cf.st (Or.inl ⟨rfl, rfl⟩)
      refine ⟨Mc2, gset Mr2 m_o 42 (if lg_cmp v 0 = 0 then Mr2 m_o 42 else 0), ?_, ?_, ci_scr hN e3.1 fs, c1.tr e3.2.1, (c2.tr (e3.2.2.1.mo (fun j q h => Or.inl h))).tr (cf.st (Or.inr ⟨rfl, rfl⟩))⟩
      · simp only [f_X10_walk_L32, lt_d, jn_d, R.ct.1]
        rw [if_neg (nI_nlt (by omega) (by omega)), rd_n (by omega) (by omega), if_pos e, e1, ob_s, nI_1]
      · simp only [f_X11_walk_L56, lt_d, jn_d, R.ct.2.1, nI_m48, nI_add]
        rw [if_neg (nI_ge (by omega) (by omega)), rd_n (by omega) (by omega), ← hp, if_pos e, e2, ob_s, nI_1]
        by_cases el : lg_cmp v 0 = 0
        · rw [if_pos el, if_pos el]
        · rw [if_neg el, if_neg el]
    · refine ⟨M1, M2, ?_, ?_, ⟨R, I, U.up (by omega), O, W⟩, c1, c2⟩
      · simp only [f_X10_walk_L32, lt_d, jn_d, R.ct.1]
        rw [if_neg (nI_nlt (by omega) (by omega)), rd_n (by omega) (by omega), if_neg e, nI_1]
      · simp only [f_X11_walk_L56, lt_d, jn_d, R.ct.2.1, nI_m48, nI_add]
        rw [if_neg (nI_ge (by omega) (by omega)), rd_n (by omega) (by omega), ← hp, if_neg e, nI_1]) (fun n M1 M2 ⟨ci, _⟩ => by
    simp only [f_X10_walk_L32, lt_d, ci.1.ct.1]
    rw [if_pos (nI_lt (by omega) (by omega))]) (fun n M1 M2 ⟨ci, _⟩ => by
    simp only [f_X11_walk_L56, lt_d, ci.1.ct.2.1]
    rw [if_pos (nI_le (by omega) (by omega))]) (st := Mc) (st' := Mr) ⟨h, cf.rf _ _, cf.rf _ _⟩
  exact ⟨Mc', Mr', k1, k2, ⟨k3.1, k3.2.1, k3.2.2.1.up (by omega), k3.2.2.2⟩, k4, k5⟩
theorem walk_out {J76 : gM → Option (Nat × Int64 × gM)} {J119 : gM → Option (Int64 × gM)} (hN : N ≤ 4) (hc : c < 4) (hg : g ≤ 47) : ∀ (p fu fu' B : Nat) (Mc Mr : gM), p ≤ 9 → p < fu → p < fu' → B + 96 * p ≤ 800000 → CI N g B c 48 Mc Mr → ∃ Mc' Mr', f_X10_walk_L25 N a1 c J76 fu (nI p) Mc = J76 Mc' ∧ f_X11_walk_L50 (nI c) J119 fu' (nI p) Mr = J119 Mr' ∧ CI N g (B + 96 * p) c 48 Mc' Mr' ∧ cf (tC c) Mc Mc' ∧ cf (wR c) Mr Mr' := by
  intro p
  induction p with
  | zero =>
    intro fu fu' B Mc Mr _ h1 h2 hB h
    obtain ⟨fu, rfl⟩ : ∃ q, fu = q + 1 := ⟨fu - 1, by omega⟩
    obtain ⟨fu', rfl⟩ : ∃ q, fu' = q + 1 := ⟨fu' - 1, by omega⟩
    refine ⟨Mc, Mr, ?_, ?_, h, cf.rf _ _, cf.rf _ _⟩
    · simp only [f_X10_walk_L25]
      rw [if_pos (by decide)]
    · simp only [f_X11_walk_L50]
      rw [if_pos (by decide)]
  | succ p ih =>
    intro fu fu' B Mc Mr hp h1 h2 hB h
    obtain ⟨fu, rfl⟩ : ∃ q, fu = q + 1 := ⟨fu - 1, by omega⟩
    obtain ⟨fu', rfl⟩ : ∃ q, fu' = q + 1 := ⟨fu' - 1, by omega⟩
    have e1 : nI (p + 1) + (-1 : Int32) = nI p := by
      rw [← Int32.sub_eq_add_neg]
      exact nI_s1 (by omega)
    obtain ⟨M1, M2, k1, k2, k3, k4, k5⟩ := walk_in (p := p + 1) (a1 := a1) (J70 := fun M32 => f_X10_walk_L25 N a1 c J76 fu (nI p) M32) (J76 := J76) (J113 := fun M33 => f_X11_walk_L50 (nI c) J119 fu' (nI p) M33) (J119 := J119) hN hc hg (by omega) h
    obtain ⟨M3, M4, q1, q2, q3, q4, q5⟩ := ih fu fu' (B + 96) M1 M2 (by omega) (by omega) (by omega) (by omega) k3
    refine ⟨M3, M4, ?_, ?_, by rw [show B + 96 * (p + 1) = B + 96 + 96 * p by omega]; exact q3, k4.tr q4, k5.tr q5⟩
    · simp only [f_X10_walk_L25, lt_d, jn_d, e1]
      rw [if_neg (nI_nle (by omega) (by omega)), k1, q1]
    · simp only [f_X11_walk_L50, lt_d, jn_d, e1]
      rw [if_neg (nI_nle (by omega) (by omega)), k2, q2]
theorem walk_cnt (hN : N ≤ 4) (hc : c < 4) (hg : g ≤ 47) (R : Rel N g Mc Mr) : ∃ n : Int32, f_X10_walk_L91 N c (cNr N Mc c) 100 (0 : Int32) (0 : Int32) Mc = some (0, n.toInt64, Mc) ∧ f_X11_walk_L123 (nI c) 100 (0 : Int32) (0 : Int32) Mr = some (n.toInt64, Mr) := by
  obtain ⟨x1, x2, k1, k2, k3⟩ := loop2 (fun f k (st : Int32) => f_X10_walk_L91 N c (cNr N Mc c) f st (nI k) Mc) (fun f k (st : Int32) => f_X11_walk_L123 (nI c) f st (nI k) Mr) (g + 1) (fun st => some (0, st.toInt64, Mc)) (fun st => some (st.toInt64, Mr)) (fun k x1 x2 => x1 = x2) (by omega) (fun f f' k x1 x2 hk e => by
    subst e
    have ho : k < 48 := by omega
    have hp := (R.kl hc ho).2.2.2.2.2.1
    have hcg := c_isGood (N := N) (M := Mc) (c := c) (near := cNr N Mc c) ho
    have hrg := r_isGood R hN hc ho
    by_cases e1 : Mc (31, c, 0) k ≤ 0
    · refine ⟨x1, x1, ?_, ?_, rfl⟩
      · simp only [f_X10_walk_L91, lt_d, jn_d, R.ct.1]
        rw [if_neg (nI_nlt (by omega) (by omega)), rd_n ho (by omega), if_pos e1, nI_1]
      · simp only [f_X11_walk_L123, lt_d, jn_d, R.ct.2.1, nI_m48, nI_add]
        rw [if_neg (nI_ge (by omega) (by omega)), rd_n (by omega) (by omega), ← hp, if_pos e1, nI_1]
    · cases hb : cGd Mc c k (cNr N Mc c) with
      | false =>
        rw [hb, zb_f] at hcg hrg
        refine ⟨x1, x1, ?_, ?_, rfl⟩
        · simp only [f_X10_walk_L91, lt_d, jn_d, R.ct.1]
          rw [if_neg (nI_nlt (by omega) (by omega)), rd_n ho (by omega), if_neg e1, hcg, o1_s, if_pos rfl, nI_1]
        · simp only [f_X11_walk_L123, lt_d, jn_d, R.ct.2.1, nI_m48, nI_add]
          rw [if_neg (nI_ge (by omega) (by omega)), rd_n (by omega) (by omega), ← hp, if_neg e1, hrg, o1_s, if_pos rfl, nI_1]
      | true =>
        rw [hb, zb_t] at hcg hrg
        refine ⟨x1 + 1, x1 + 1, ?_, ?_, rfl⟩
        · simp only [f_X10_walk_L91, lt_d, jn_d, R.ct.1]
          rw [if_neg (nI_nlt (by omega) (by omega)), rd_n ho (by omega), if_neg e1, hcg, o1_s, if_neg (by decide), nI_1]
        · simp only [f_X11_walk_L123, lt_d, jn_d, R.ct.2.1, nI_m48, nI_add]
          rw [if_neg (nI_ge (by omega) (by omega)), rd_n (by omega) (by omega), ← hp, if_neg e1, hrg, o1_s, if_neg (by decide), nI_1]) (fun f x1 x2 _ => by
    simp only [f_X10_walk_L91, lt_d, R.ct.1]
    rw [if_pos (nI_lt (by omega) (by omega))]) (fun f x1 x2 _ => by
    simp only [f_X11_walk_L123, lt_d, R.ct.2.1]
    rw [if_pos (nI_le (by omega) (by omega))]) (st := (0 : Int32)) (st' := (0 : Int32)) rfl
  subst k3
  exact ⟨x1, k1, k2⟩
theorem st_walk (hN : 1 ≤ N ∧ N ≤ 4) (hT : T ≤ 500) (h : St N T zz.1 zz.2.1) : ∃ z1, s_walk N zz a1 = some z1 ∧ St N (T + 1) z1.1 z1.2.1 := by
  obtain ⟨g, R, I, U, O⟩ := id h
  have hg := I.1.1
  rcases rng a1 4 (by omega) with ⟨c, hc, rfl⟩ | bad
  · have R5 : Rel N g zz.1 (gset zz.2.1 m_o 66 0) := R.fr hN.2 (cf.rf _ _) ((cf.st (A := fun j q => j.1 = 0 ∧ q = 66) ⟨rfl, rfl⟩).mo (fun j q => by unfold rsc; omega))
    obtain ⟨n, al, hn, hl, al1, al2, alc, alr⟩ := alone_eq hN.2 hc R5 I
    have a1' : f_X10_isAlone N (cSt zz.1 c) c = some (zb al) := by
      refine alc _ ?_ ?_ ?_ ?_
      · rw [cSt_n (by simp)]
      · rw [cSt_n (by simp)]
      · rw [cSt_o (by decide)]
      · exact cNr.fr (A := fun j q => j.1 = 30) hN.2 (cf.st rfl) (by simp) (fun q _ => by simp)
    have a2' : f_X11_isAlone (gset zz.2.1 m_o 66 0) (nI c) = some (zb al) := alr _ rfl rfl rfl
    cases al with
    | true =>
      have c1 : f_X10_walk N zz.1 (nI c) = some (0, -2199023255560, cSt zz.1 c) := by
        unfold f_X10_walk gnl
        rw [c_checkClient_ok hc, o1_s, if_pos rfl, c_startCall hc, ob_s, if_pos hc, a1', o1_s, zb_t, if_neg (by decide)]
      have r1 : f_X11_walk zz.2.1 (nI c) = some (-2199023255560, gset zz.2.1 m_o 66 0) := by
        unfold f_X11_walk
        rw [r_isClient_ok hc, o1_s]
        simp only [jn_d, one_0, if_false, lt_d, g66, le_00, if_true]
        rw [a2', o1_s, zb_t, if_neg (by decide)]
      exact q_walk c1 r1 (g66 _ _) (by omega) (fun _ => rfl) (st_begun hN.2 hc h)
    | false =>
      have hci := start_ci hN.2 hc hT R I U O
      obtain ⟨Mc', Mr', k1, k2, k3, k4, k5⟩ := walk_out (a1 := nI c) (J76 := fun M10 => o1 (f_X5_nearClient N M10 (nI c)) (fun v12 => f_X10_walk_L91 N c v12 100 (0 : Int32) (0 : Int32) M10)) (J119 := fun M13 => f_X11_walk_L123 (nI c) 100 (0 : Int32) (0 : Int32) M13) hN.2 hc hg 9 100 100 (1000 * T + 1) (cSt zz.1 c) (rSt zz.2.1) (by omega) (by omega) (by omega) (by omega) hci
      obtain ⟨m, q1, q2⟩ := walk_cnt hN.2 hc hg k3.1
      have c1 : f_X10_walk N zz.1 (nI c) = some (0, m.toInt64, Mc') := by
        unfold f_X10_walk gnl
        rw [c_checkClient_ok hc, o1_s, if_pos rfl, c_startCall hc, ob_s, if_pos hc, a1', o1_s, zb_f, if_pos rfl, jn_d]
        refine k1.trans ?_
        rw [c_nearClient k3.1.1.2.1 hN.2 hc, o1_s, q1]
      have r1 : f_X11_walk zz.2.1 (nI c) = some (m.toInt64, Mr') := by
        unfold f_X11_walk
        rw [r_isClient_ok hc, o1_s]
        simp only [jn_d, one_0, if_false, lt_d, g66, le_00, if_true]
        rw [a2', o1_s, zb_f, if_pos rfl]
        exact k2.trans q2
      refine q_walk c1 r1 ?_ (by omega) (fun _ => rfl) (ci_st k3 (by omega))
      rw [k5 _ _ (by unfold wR tR fR; dsimp only; omega)]
      show gset (gset zz.2.1 m_o 66 0) m_o 33 (gset zz.2.1 m_o 66 0 m_o 33 + 1) m_o 66 = nI 0
      rw [gset_r, if_neg (by simp), g66]
      rfl
  · have c1 : f_X10_walk N zz.1 a1 = some (1, 0, zz.1) := by
      unfold f_X10_walk
      rw [c_checkClient_bad bad, o1_s, if_neg (by decide)]
    have r1 : f_X11_walk zz.2.1 a1 = some (0, gset zz.2.1 m_o 66 1) := by
      unfold f_X11_walk
      simp only [r_isClient_bad bad, o1_s, jn_d, if_true, lt_d, g66, le_10, if_false]
    exact q_walk c1 r1 (g66 _ _) (by omega) (fun h => absurd h (by decide)) (h.thr hN.2 1)
end WK
