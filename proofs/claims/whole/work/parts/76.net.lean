/-! layer 2: who is near; link, server -/
theorem sN_t {f : Nat → Bool} {k m : Nat} {v : Int32} (h : f k = true) : sN f k (m + 1) v = sN f (k + 1) m (v ||| sB k) := by
  show sN f (k + 1) m (if f k then v ||| sB k else v) = _
  rw [h]; rfl
theorem sN_f {f : Nat → Bool} {k m : Nat} {v : Int32} (h : f k = false) : sN f k (m + 1) v = sN f (k + 1) m v := by
  show sN f (k + 1) m (if f k then v ||| sB k else v) = _
  rw [h]; rfl
section NE
variable {N : Nat} {M : gM} {c : Nat}
theorem c_isUp {k : Nat} (hk : k < 32) : f_X5_isUp N M (nI k) = some (zb (bt (M (5, 0, 0) 2) k)) := by
  unfold f_X5_isUp
  rw [lt_d, c_isIn _ hk, o1_s, gz_b]
theorem c_nearClient (h0 : M (5, 0, 0) 0 = nI N) (hN : N ≤ 4) (hc : c < 4) : f_X5_nearClient N M (nI c) = some (cNr N M c) := by
  have H : ∀ m k fu v, k + m = N → m < fu → f_X5_nearClient_L4 N M (nI c) fu v (nI k) = some (sN (fun s => bt (M (5, 0, 0) 2) s && !bt (M (6, 0, 0) s) (4 + c)) k m v) := by
    intro m
    induction m with
    | zero =>
      intro k fu v hk hf
      obtain ⟨fu, rfl⟩ : ∃ q, fu = q + 1 := ⟨fu - 1, by omega⟩
      simp only [f_X5_nearClient_L4, lt_d, h0]
      rw [if_pos (nI_le (by omega) (by omega))]
      rfl
    | succ m ih =>
      intro k fu v hk hf
      obtain ⟨fu, rfl⟩ : ∃ q, fu = q + 1 := ⟨fu - 1, by omega⟩
      simp only [f_X5_nearClient_L4, lt_d, h0, jn_d]
      rw [if_neg (nI_ge (by omega) (by omega)), c_isUp (by omega), o1_s]
      cases hu : bt (M (5, 0, 0) 2) k with
      | false =>
        rw [zb_f, if_pos rfl, nI_1, ih (k + 1) fu v (by omega) (by omega), sN_f (by simp [hu])]
      | true =>
        rw [zb_t, if_neg (by decide), rd_n (by omega) (by omega), nI_a4, c_isIn _ (by omega), o1_s]
        cases hb : bt (M (6, 0, 0) k) (4 + c) with
        | true => rw [zb_t, if_neg (by decide), nI_1, ih (k + 1) fu v (by omega) (by omega), sN_f (by simp [hb])]
        | false =>
          rw [zb_f, if_pos rfl, nI_1, ih (k + 1) fu _ (by omega) (by omega), sN_t (by simp [hu, hb])]
          rfl
  exact H N 0 100 0 (by omega) (by omega)
def rNr (N : Nat) (M : gM) (c : Nat) : Int32 := sS (fun s => nz (M m_up s) && nz (M m_reaches (4 * c + s))) N
theorem r_isNear {s : Nat} (hs : s < 4) (hc : c < 4) : f_X11_isNear M (nI c) (nI s) = some (zb (nz (M m_up s) && nz (M m_reaches (4 * c + s)))) := by
  unfold f_X11_isNear
  rw [rd_n hs (by omega), nI_m4, nI_add]
  by_cases h1 : M m_up s = 0
  · rw [if_pos h1, show nz (M m_up s) = false by simp [nz, h1]]; rfl
  · rw [if_neg h1, rd_n (by omega) (by omega), show nz (M m_up s) = true by simp [nz, h1]]
    by_cases h2 : M m_reaches (4 * c + s) = 0
    · rw [if_pos h2, show nz (M m_reaches (4 * c + s)) = false by simp [nz, h2]]; rfl
    · rw [if_neg h2, show nz (M m_reaches (4 * c + s)) = true by simp [nz, h2]]; rfl
theorem r_nearSet (h0 : M m_o 0 = nI N) (hN : N ≤ 4) (hc : c < 4) : f_X11_nearSet M (nI c) = some (rNr N M c) := by
  have H : ∀ m k fu v, k + m = N → m < fu → f_X11_nearSet_L4 M (nI c) fu v (nI k) = some (sN (fun s => nz (M m_up s) && nz (M m_reaches (4 * c + s))) k m v) := by
    intro m
    induction m with
    | zero =>
      intro k fu v hk hf
      obtain ⟨fu, rfl⟩ : ∃ q, fu = q + 1 := ⟨fu - 1, by omega⟩
      simp only [f_X11_nearSet_L4, lt_d, h0]
      rw [if_pos (nI_le (by omega) (by omega))]
      rfl
    | succ m ih =>
      intro k fu v hk hf
      obtain ⟨fu, rfl⟩ : ∃ q, fu = q + 1 := ⟨fu - 1, by omega⟩
      simp only [f_X11_nearSet_L4, lt_d, h0, jn_d]
      rw [if_neg (nI_ge (by omega) (by omega)), r_isNear (by omega) hc, o1_s]
      cases hu : (nz (M m_up k) && nz (M m_reaches (4 * c + k))) with
      | false => rw [zb_f, if_pos rfl, nI_1, ih (k + 1) fu v (by omega) (by omega), sN_f hu]
      | true =>
        rw [zb_t, if_neg (by decide), nI_1, ih (k + 1) fu _ (by omega) (by omega), sN_t hu]
        rfl
  exact H N 0 100 0 (by omega) (by omega)
theorem Rel.nr {g : Nat} {Mc Mr : gM} (R : Rel N g Mc Mr) (hN : N ≤ 4) (hc : c < 4) : rNr N Mr c = cNr N Mc c := by
  obtain ⟨n1, n2, -⟩ := R.2.2.1
  unfold rNr cNr
  refine sN_congr _ _ _ (fun s _ hs => ?_)
  obtain ⟨-, -, n3⟩ := n2 s (by omega)
  rw [n1, bt_sS (by omega) (by omega), n3 c hc, decide_eq_true (show s < N by omega), Bool.true_and, Bool.not_not]
theorem rNr.fr {A : gI → Nat → Prop} {M' : gM} (hN : N ≤ 4) (hc : c < 4) (hr : cf A M M') (h1 : ∀ q, q < 4 → ¬ A m_up q) (h2 : ∀ q, q < 16 → ¬ A m_reaches q) : rNr N M' c = rNr N M c := by
  unfold rNr
  exact sN_congr _ _ _ (fun s _ hs => by rw [hr _ _ (h1 s (by omega)), hr _ _ (h2 _ (by omega))])
/-- endFar: every promise is within who is near -/
def rEf (N : Nat) (M : gM) : gM := fun j q => if j = m_promised ∧ q < 192 then M j q &&& rNr N M (q / 48) else M j q
theorem rEf.cf : cf (fun j q => j.1 = 26) M (rEf N M) := fun j q h => if_neg fun e => h (by rw [e.1])
theorem r_endFar (h0 : M m_o 0 = nI N) (hN : N ≤ 4) : f_X11_endFar M = some (rEf N M) := by
  have P0 : ∀ k st, (st = fun j q => if j = m_promised ∧ q < 48 * k then M j q &&& rNr N M (q / 48) else M j q) → cf (fun j q => j.1 = 26) M st := fun k st e j q h => by
    rw [e]; exact if_neg fun x => h (by rw [x.1])
  have H := loopF (σ := gM) (L := fun n k st => f_X11_endFar_L2 n (nI k) st) (B := 4) (g := fun c st => gpu st m_promised (48 * c) 48 (fun o => st m_promised (48 * c + o) &&& rNr N M c)) (P := fun k st => st = fun j q => if j = m_promised ∧ q < 48 * k then M j q &&& rNr N M (q / 48) else M j q) (E := some) (fun n k st hk hP => ⟨?_, ?_⟩) (fun n st hP => ?_) 4 0 100 M (by omega) (by omega) (by funext j q; rw [if_neg (by omega)])
  · have e := H.2
    refine H.1.trans (congrArg some (e.trans ?_))
    rfl
  · have hcf := P0 k st hP
    have h1 : st m_o 0 = nI N := by rw [hcf _ _ (by decide)]; exact h0
    have h2 : rNr N st k = rNr N M k := rNr.fr hN hk hcf (fun q _ => by decide) (fun q _ => by decide)
    simp only [f_X11_endFar_L2, jn_d]
    rw [if_neg (ge_4 (by omega)), r_nearSet h1 hN hk, o1_s, h2]
    refine rowloop (E := fun M7 => lt (nI k + 1) (fun x8 => f_X11_endFar_L2 n x8 M7)) (L := fun n9 k9 M9 => f_X11_endFar_L15 (nI k) (rNr N M k) (fun M7 => lt (nI k + 1) (fun x8 => f_X11_endFar_L2 n x8 M7)) n9 (nI k9) M9) (row := m_promised) (base := 48 * k) (B := 48) (h := fun M9 o => M9 m_promised (48 * k + o) &&& rNr N M k) (P := fun _ => True) (by decide) (fun n9 k9 M9 h9 _ => ⟨?_, trivial⟩) (fun n9 M9 _ => ?_) (fun M9 k9 q9 v9 _ a b e => ?_) trivial |>.trans ?_
    · simp only [f_X11_endFar_L15, lt_d, nI_m48, nI_add]
      rw [if_neg (ge_48 (by omega)), rd_n (by omega) (by omega), wr_n (by omega) (by omega)]
      simp only [nI_1]
    · simp only [f_X11_endFar_L15]
      rw [if_pos (lf_48 (by omega))]
    · try dsimp only
      rw [gset_r, if_neg (by omega)]
    · rw [lt_d, nI_1]
  · subst hP
    funext j q
    rw [gpu_r]
    dsimp only
    by_cases e : j = m_promised ∧ 48 * k ≤ q ∧ q < 48 * k + 48
    · rw [if_pos e, if_neg (fun x => by have := x.2; omega), if_pos ⟨e.1, by omega⟩, show 48 * k + (q - 48 * k) = q by omega, show q / 48 = k by omega, e.1]
    · rw [if_neg e]
      by_cases e2 : j = m_promised ∧ q < 48 * k
      · rw [if_pos e2, if_pos ⟨e2.1, by omega⟩]
      · rw [if_neg e2, if_neg (fun x => by
          rcases Nat.lt_or_ge q (48 * k) with y | y
          · exact e2 ⟨x.1, y⟩
          · exact e ⟨x.1, y, by omega⟩)]
  · simp only [f_X11_endFar_L2]
    rw [if_pos (lf_4 (by omega))]
/-- forgetPromisesOf -/
theorem c_forgetPromisesOf {s : Nat} : f_X1_forgetPromisesOf N M c (nI s) = some (gpu M (32, c, 0) 0 48 (fun o => M (32, c, 0) o &&& (sB s ^^^ (-1 : Int32)))) := by
  refine rowloop (E := some) (L := fun n k M => f_X1_forgetPromisesOf_L2 N c (nI s) n (nI k) M) (row := (32, c, 0)) (base := 0) (B := 48) (h := fun M o => M (32, c, 0) o &&& (sB s ^^^ (-1 : Int32))) (P := fun _ => True) (by decide) (fun n k M hk _ => ⟨?_, trivial⟩) (fun n M _ => ?_) (fun M k q v _ a b e => ?_) trivial
  · simp only [f_X1_forgetPromisesOf_L2, lt_d, Nat.zero_add]
    rw [if_neg (ge_48 (by omega)), rd_n (by omega) (by omega), wr_n (by omega) (by omega), nI_1]
    rfl
  · simp only [f_X1_forgetPromisesOf_L2]
    rw [if_pos (lf_48 (by omega))]
  · try dsimp only
    rw [gset_r, if_neg (by omega)]
end NE
