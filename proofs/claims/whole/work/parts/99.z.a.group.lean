/-! layer 2: servers that meet; what is doomed -/
def cGr (M : gM) (a : Nat) : Int32 := M (5, 0, 0) 2 &&& (M (6, 0, 0) a ^^^ (-1 : Int32))
/-- the reference's memory with the doomed swept -/
def swp (N : Nat) (G : Int32) (D P : Nat → Bool) (M : gM) : gM := fun j q => if (j = m_has ∨ j = m_versions) ∧ q < 192 ∧ bt G (q / 48) = true ∧ D (q % 48) = true then 0 else if j = m_entry ∧ q < 192 ∧ bt G (q / 48) = true ∧ P (q % 48) = true then 0 else if j = m_promised ∧ q < 192 ∧ D (q % 48) = true then M j q &&& (rHo N M G (q % 48) ^^^ (-1 : Int32)) else M j q
def zZ (D P : Nat → Bool) (j : gI) (q : Nat) : Prop := ((j = m_has ∨ j = m_versions ∨ j = m_promised) ∧ q < 192 ∧ D (q % 48) = true) ∨ (j = m_entry ∧ q < 192 ∧ P (q % 48) = true)
section ZA
variable {N g B s o c d x z T n t l i a : Nat} {A E M M' X Mc Mr Mc' Mr' : gM} {row : gI} {D P : Nat → Bool} {G v w nr a1 a2 a3 a4 a5 : Int32} {zz : lS}
theorem b_no {i : Nat} (hi : i < 32) : bt (v ^^^ (-1 : Int32)) i = !bt v i := by
  rw [b_xor, show bt (-1 : Int32) i = true from by revert i; decide]
  cases bt v i <;> rfl
theorem swp_r {j : gI} {q : Nat} (h : ¬ zZ D P j q) : swp N G D P M j q = M j q := by
  unfold swp
  rw [if_neg (fun z => h (Or.inl ⟨z.1.elim Or.inl (fun z => Or.inr (Or.inl z)), z.2.1, z.2.2.2⟩)), if_neg (fun z => h (Or.inr ⟨z.1, z.2.1, z.2.2.2⟩)), if_neg (fun z => h (Or.inl ⟨Or.inr (Or.inr z.1), z.2.1, z.2.2⟩))]
theorem swp_of (hN : N ≤ 4) (h : ∀ j q, zZ D P j q → M' j q = M j q) (h2 : ∀ j q, ¬ zZ D P j q → X j q = M' j q) (h3 : ∀ j q, zZ D P j q → X j q = swp N G D P M j q) : swp N G D P M' = X := by
  funext j q
  by_cases hz : zZ D P j q
  · rw [h3 j q hz]
    have e0 : M' j q = M j q := h j q hz
    have e1 : D (q % 48) = true → rHo N M' G (q % 48) = rHo N M G (q % 48) := fun hD => sN_congr _ _ _ (fun s _ hs => by
      rw [h m_has (48 * s + q % 48) (Or.inl ⟨Or.inl rfl, by omega, by rw [show (48 * s + q % 48) % 48 = q % 48 by omega]; exact hD⟩)])
    unfold swp
    rw [e0]
    by_cases c1 : j = m_promised ∧ q < 192 ∧ D (q % 48) = true
    · rw [e1 c1.2.2]
    · simp only [if_neg c1]
  · rw [swp_r hz, h2 j q hz]
theorem swp_st (hN : N ≤ 4) {i : gI} {k : Nat} (h : ¬ zZ D P i k) : swp N G D P (gset M i k v) = gset (swp N G D P M) i k v := by
  refine swp_of (M := M) hN (fun j q hz => gset_o (fun e => h (by rw [← e.1, ← e.2]; exact hz))) (fun j q hz => ?_) (fun j q hz => gset_o (fun e => h (by rw [← e.1, ← e.2]; exact hz)))
  rw [gset_r, gset_r, swp_r hz]
theorem swp_pu (hN : N ≤ 4) {i : gI} {k n : Nat} {f : Nat → Int32} (h : ∀ q, k ≤ q → q < k + n → ¬ zZ D P i q) : swp N G D P (gpu M i k n f) = gpu (swp N G D P M) i k n f := by
  refine swp_of (M := M) hN (fun j q hz => ?_) (fun j q hz => ?_) (fun j q hz => ?_)
  · rw [gpu_r, if_neg (fun e => h q e.2.1 e.2.2 (by rw [← e.1]; exact hz))]
  · rw [gpu_r, gpu_r, swp_r hz]
  · rw [gpu_r, if_neg (fun e => h q e.2.1 e.2.2 (by rw [← e.1]; exact hz))]
theorem swp_ep (hN : N ≤ 4) (hx : x < 48) (hD : D x = false) : swp N G D P (rEp M x v a3) = rEp (swp N G D P M) x v a3 := by
  have hc : ∀ j q, zZ D P j q → ¬ (j = m_promised ∧ q < 192 ∧ q % 48 = x) := fun j q hz e => by
    rcases hz with hz | hz
    · rw [e.2.2, hD] at hz; exact absurd hz.2.2 (by decide)
    · rw [hz.1] at e; exact absurd e.1 (by decide)
  refine swp_of (M := M) hN (fun j q hz => ?_) (fun j q hz => ?_) (fun j q hz => ?_)
  · unfold rEp; rw [if_neg (fun e => hc j q hz ⟨e.1, e.2.1, e.2.2.1⟩)]
  · unfold rEp; rw [swp_r hz]
  · unfold rEp; rw [if_neg (fun e => hc j q hz ⟨e.1, e.2.1, e.2.2.1⟩)]
theorem swp_0 : swp N G (fun _ => false) (fun _ => false) M = M := by
  funext j q
  exact swp_r (fun z => by
    rcases z with z | z
    · exact absurd z.2.2 Bool.false_ne_true
    · exact absurd z.2.2 Bool.false_ne_true)
theorem gr_b (R : Rel N g Mc Mr) (hN : N ≤ 4) (ha : a < N) (hu : bt (Mc (5, 0, 0) 2) a = true) (ht : t < 32) : bt (cGr Mc a) t = (decide (t < N) && (decide (t = a) || (nz (Mr m_up t) && nz (Mr m_linked (4 * a + t))))) := by
  obtain ⟨n1, n2, -⟩ := R.2.2.1
  unfold cGr
  rw [b_and, b_no ht, n1, bt_sS (by omega) ht]
  rw [n1, bt_sS (by omega) (by omega)] at hu
  by_cases hN' : t < N
  · obtain ⟨k1, k2, -⟩ := n2 a ha
    rw [decide_eq_true hN', Bool.true_and, Bool.true_and]
    by_cases e : t = a
    · subst e
      rw [k2, decide_eq_true rfl]
      rw [decide_eq_true hN', Bool.true_and] at hu
      rw [hu]; rfl
    · rw [decide_eq_false e, k1 t hN' e, Bool.not_not]; simp
  · rw [decide_eq_false hN']; rfl
theorem c_nearServer (hN : N ≤ 4) (ha : a < N) (hu : bt (M (5, 0, 0) 2) a = true) : f_X5_nearServer N M (nI a) = some (cGr M a) := by
  unfold f_X5_nearServer
  rw [c_isUp (by omega), o1_s, hu, zb_t, if_neg (by decide), lt_d, rd_n ha (by omega)]
  rfl
theorem r_group {J : gM → Option (Int64 × gM)} (hN : N ≤ 4) (ha : a < N) (hu : bt (Mc (5, 0, 0) 2) a = true) (R : Rel N g Mc Mr) : f_X11_meet_L46 (nI a) J 100 (0 : Int32) (gset Mr m_o 53 0) = J (gset Mr m_o 53 (cGr Mc a)) := by
  obtain ⟨M', h1, h2⟩ := loopP (fun n k M => f_X11_meet_L46 (nI a) J n (nI k) M) N J (fun k M1 => M1 = gset Mr m_o 53 (sN (fun s => decide (s = a) || (nz (Mr m_up s) && nz (Mr m_linked (4 * a + s)))) 0 k 0)) (by omega) (fun n k M1 hk p1 => by
    refine ⟨_, ?_, rfl⟩
    subst p1
    obtain ⟨V, hV⟩ : ∃ V, V = sN (fun s => decide (s = a) || (nz (Mr m_up s) && nz (Mr m_linked (4 * a + s)))) 0 k 0 := ⟨_, rfl⟩
    rw [sN_snoc, ← hV, show 0 + k = k by omega]
    simp only [f_X11_meet_L46, lt_d, jn_d]
    rw [gset_o (j := m_o) (q := 0) (by simp), R.n0, if_neg (nI_ge (by omega) (by omega)), nI_m4, nI_add, nI_1]
    by_cases e : k = a
    · subst e
      rw [if_pos rfl, gset_aa, gset_tw, decide_eq_true rfl, Bool.true_or, if_pos rfl]
      rfl
    · rw [if_neg (by rw [neq (by omega) (by omega)]; exact e), decide_eq_false e, Bool.false_or, rd_n (by omega) (by omega), gset_o (j := m_up) (by simp)]
      by_cases e1 : Mr m_up k = 0
      · rw [if_pos e1, e1, if_neg (by simp [nz]), gset_aa, gset_tw]
      · rw [if_neg e1, rd_n (by omega) (by omega), gset_o (j := m_linked) (by simp)]
        by_cases e2 : Mr m_linked (4 * a + k) = 0
        · rw [if_pos e2, e2, if_neg (by simp [nz]), gset_aa, gset_tw]
        · rw [if_neg e2, if_pos (by rw [Bool.and_eq_true, nz_t, nz_t]; exact ⟨e1, e2⟩), gset_aa, gset_tw]
          rfl) (fun n M1 p1 => by
    subst p1
    simp only [f_X11_meet_L46, lt_d]
    rw [gset_o (by simp), R.n0, if_pos (nI_le (by omega) (by omega))]) (st := gset Mr m_o 53 0) rfl
  refine h1.trans ?_
  rw [h2]
  congr 2
  refine b_ext (fun i hi => ?_)
  rw [gr_b R hN ha hu hi]
  exact bt_sS (by omega) hi
theorem r_isOf {G : Int32} (h : M m_o 53 = G) (hs : s < 32) : f_X11_isOf M (nI s) = some (zb (bt G s)) := by
  unfold f_X11_isOf
  rw [lt_d, h]
  cases hb : bt G s with
  | true => rw [if_pos (by rw [bt_1 hs]; exact hb)]; rfl
  | false => rw [if_neg (by rw [bt_1 hs, hb]; decide)]; rfl
theorem r_swept0 {J : gM → Option (Int64 × gM)} : f_X11_meet_L124 J 100 (0 : Int32) M = J (gpu M m_swept 0 48 (fun _ => 0)) := by
  obtain ⟨M', h1, h2⟩ := loopP (fun n k M => f_X11_meet_L124 J n (nI k) M) 48 J (fun k M1 => M1 = gpu M m_swept 0 k (fun _ => 0)) (by omega) (fun n k M1 hk p1 => by
    refine ⟨_, ?_, rfl⟩
    subst p1
    simp only [f_X11_meet_L124, lt_d]
    rw [if_neg (ge_48 hk), wz_n hk (by omega) (Or.inl rfl), nI_1]
    congr 1
    funext j q
    rw [gset_r, gpu_r, gpu_r]
    by_cases e : j = m_swept
    · subst e
      by_cases e1 : q = k
      · rw [if_pos ⟨rfl, e1⟩, if_pos ⟨rfl, by omega, by omega⟩]
      · rw [if_neg (fun z => e1 z.2)]
        by_cases e2 : q < k
        · rw [if_pos ⟨rfl, by omega, by omega⟩, if_pos ⟨rfl, by omega, by omega⟩]
        · rw [if_neg (by omega), if_neg (by omega)]
    · rw [if_neg (fun z => e z.1), if_neg (fun z => e z.1), if_neg (fun z => e z.1)]) (fun n M1 p1 => by
    subst p1
    simp only [f_X11_meet_L124]
    rw [if_pos (show (48 : Int32) ≤ nI 48 by decide)]) (st := M) (by funext j q; rw [gpu_r, if_neg (by omega)])
  rw [← h2]
  exact h1
end ZA
