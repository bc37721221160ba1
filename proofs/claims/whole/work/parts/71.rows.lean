/-- the least of a set -/
def lsF (f : Nat → Bool) : Nat → Nat → Nat
  | k, 0 => k
  | k, m + 1 => if f k then k else lsF f (k + 1) m
theorem lsF_congr {f g : Nat → Bool} : ∀ (m k : Nat), (∀ j, k ≤ j → j < k + m → f j = g j) → lsF f k m = lsF g k m := by
  intro m
  induction m with
  | zero => intro k _; rfl
  | succ m ih =>
    intro k h
    show (if f k then k else lsF f (k + 1) m) = (if g k then k else lsF g (k + 1) m)
    rw [h k (by omega) (by omega), ih (k + 1) (fun j h1 h2 => h j (by omega) (by omega))]
theorem lsF_spec {f : Nat → Bool} : ∀ (m k : Nat), (k ≤ lsF f k m ∧ lsF f k m ≤ k + m) ∧ (lsF f k m < k + m → f (lsF f k m) = true) ∧ ∀ j, k ≤ j → j < lsF f k m → f j = false := by
  intro m
  induction m with
  | zero => intro k; exact ⟨⟨Nat.le_refl _, Nat.le_refl _⟩, fun h => absurd h (by show ¬ k < k + 0; omega), fun j h1 h2 => absurd h2 (by show ¬ j < k; omega)⟩
  | succ m ih =>
    intro k
    have e : lsF f k (m + 1) = if f k then k else lsF f (k + 1) m := rfl
    cases hk : f k with
    | true =>
      rw [e, if_pos hk]
      exact ⟨⟨Nat.le_refl _, by omega⟩, fun _ => hk, fun j h1 h2 => absurd h2 (by show ¬ j < k; omega)⟩
    | false =>
      rw [e, if_neg (by rw [hk]; decide)]
      obtain ⟨⟨a, b⟩, c, d⟩ := ih (k + 1)
      refine ⟨⟨by show k ≤ lsF f (k + 1) m; omega, by show lsF f (k + 1) m ≤ _; omega⟩, fun h => c (by have : lsF f (k + 1) m < k + (m + 1) := h; omega), fun j h1 h2 => ?_⟩
      by_cases ej : j = k
      · rw [ej]; exact hk
      · exact d j (by omega) h2
/-! rows: the reference -/
section RR
variable {M : gM} {a1 a3 : gI} {i j n : Nat}
theorem r_isSame (hc : M m_o 1 = nI n) (hn : n ≤ 8) (h1 : 8 * i + 8 ≤ mN a1) (h2 : 8 * j + 8 ≤ mN a3) (m1 : mN a1 ≤ 16384) (m3 : mN a3 ≤ 16384) : f_X11_isSame M a1 (nI i) a3 (nI j) = some (zb (rEq (fun k => M a1 (8 * i + k)) (fun k => M a3 (8 * j + k)) 0 n)) := by
  have H : ∀ m k fu, k + m = n → m < fu → f_X11_isSame_L3 M a1 (nI i) a3 (nI j) fu (nI k) = some (zb (rEq (fun k => M a1 (8 * i + k)) (fun k => M a3 (8 * j + k)) k m)) := by
    intro m
    induction m with
    | zero =>
      intro k fu hk hf
      obtain ⟨fu, rfl⟩ : ∃ q, fu = q + 1 := ⟨fu - 1, by omega⟩
      simp only [f_X11_isSame_L3, lt_d, hc]
      rw [if_pos (nI_le (by omega) (by omega))]
      rfl
    | succ m ih =>
      intro k fu hk hf
      obtain ⟨fu, rfl⟩ : ∃ q, fu = q + 1 := ⟨fu - 1, by omega⟩
      simp only [f_X11_isSame_L3, lt_d, hc, nI_m8, nI_add]
      rw [if_neg (nI_ge (by omega) (by omega)), rd_n (by omega) m1, rd_n (by omega) m3]
      by_cases e : M a1 (8 * i + k) = M a3 (8 * j + k)
      · rw [if_pos e, nI_1, ih (k + 1) fu (by omega) (by omega)]
        simp only [rEq, e, decide_true, Bool.true_and]
      · rw [if_neg e]
        simp only [rEq, e, decide_false, Bool.false_and]
        rfl
  exact H n 0 100 (by omega) (by omega)
theorem r_isAtMost (hc : M m_o 1 = nI n) (hn : n ≤ 8) (h1 : 8 * i + 8 ≤ mN a1) (h2 : 8 * j + 8 ≤ mN a3) (m1 : mN a1 ≤ 16384) (m3 : mN a3 ≤ 16384) : f_X11_isAtMost M a1 (nI i) a3 (nI j) = some (zb (rLe (fun k => M a1 (8 * i + k)) (fun k => M a3 (8 * j + k)) 0 n)) := by
  have H : ∀ m k fu, k + m = n → m < fu → f_X11_isAtMost_L3 M a1 (nI i) a3 (nI j) fu (nI k) = some (zb (rLe (fun k => M a1 (8 * i + k)) (fun k => M a3 (8 * j + k)) k m)) := by
    intro m
    induction m with
    | zero =>
      intro k fu hk hf
      obtain ⟨fu, rfl⟩ : ∃ q, fu = q + 1 := ⟨fu - 1, by omega⟩
      simp only [f_X11_isAtMost_L3, lt_d, hc]
      rw [if_pos (nI_le (by omega) (by omega))]
      rfl
    | succ m ih =>
      intro k fu hk hf
      obtain ⟨fu, rfl⟩ : ∃ q, fu = q + 1 := ⟨fu - 1, by omega⟩
      simp only [f_X11_isAtMost_L3, lt_d, hc, nI_m8, nI_add]
      rw [if_neg (nI_ge (by omega) (by omega)), rd_n (by omega) m1, rd_n (by omega) m3]
      by_cases e : M a1 (8 * i + k) ≤ M a3 (8 * j + k)
      · rw [if_pos e, nI_1, ih (k + 1) fu (by omega) (by omega)]
        simp only [rLe, e, decide_true, Bool.true_and]
      · rw [if_neg e]
        simp only [rLe, e, decide_false, Bool.false_and]
        rfl
  exact H n 0 100 (by omega) (by omega)
theorem r_copyTo (h1 : 8 * i + 8 ≤ mN a1) (h2 : 8 * j + 8 ≤ mN a3) (m1 : mN a1 ≤ 16384) (m3 : mN a3 ≤ 16384) : f_X11_copyTo M a1 (nI i) a3 (nI j) = some (gpu M a3 (8 * j) 8 (fun k => M a1 (8 * i + k))) := by
  refine rowloop (E := some) (L := fun n k M => f_X11_copyTo_L3 a1 (nI i) a3 (nI j) n (nI k) M) (row := a3) (base := 8 * j) (B := 8) (h := fun M k => M a1 (8 * i + k)) (P := fun _ => True) (by decide) (fun n k M hk _ => ⟨?_, trivial⟩) (fun n M _ => ?_) (fun M k q v _ hk hq hne => ?_) trivial
  · simp only [f_X11_copyTo_L3, lt_d, nI_m8, nI_add]
    rw [if_neg (ge_8 (by omega)), rd_n (by omega) m1, wr_n (by omega) m3, nI_1]
  · simp only [f_X11_copyTo_L3]
    rw [if_pos (lf_8 (by omega))]
  · rw [gset_r]
    by_cases e : a1 = a3 ∧ 8 * i + q = 8 * j + k
    · omega
    · rw [if_neg e]
theorem r_clearRow (h1 : 8 * i + 8 ≤ mN a1) (m1 : mN a1 ≤ 16384) : f_X11_clearRow M a1 (nI i) = some (gpu M a1 (8 * i) 8 (fun _ => 0)) := by
  refine rowloop (E := some) (L := fun n k M => f_X11_clearRow_L2 a1 (nI i) n (nI k) M) (row := a1) (base := 8 * i) (B := 8) (h := fun M k => 0) (P := fun _ => True) (by decide) (fun n k M hk _ => ⟨?_, trivial⟩) (fun n M _ => ?_) (fun M k q v _ hk hq hne => rfl) trivial
  · simp only [f_X11_clearRow_L2, lt_d, nI_m8, nI_add]
    rw [if_neg (ge_8 (by omega)), wr_n (by omega) m1, nI_1]
  · simp only [f_X11_clearRow_L2]
    rw [if_pos (lf_8 (by omega))]
def mx (a b : Int32) : Int32 := if a ≤ b then b else a
theorem r_raise (hc : M m_o 1 = nI n) (hn : n ≤ 8) (ho : a3 ≠ m_o) (h1 : 8 * i + 8 ≤ mN a1) (h2 : 8 * j + 8 ≤ mN a3) (m1 : mN a1 ≤ 16384) (m3 : mN a3 ≤ 16384) : f_X11_raise M a1 (nI i) a3 (nI j) = some (gpu M a3 (8 * j) n (fun k => mx (M a1 (8 * i + k)) (M a3 (8 * j + k)))) := by
  refine rowloop (E := some) (L := fun n k M => f_X11_raise_L3 a1 (nI i) a3 (nI j) n (nI k) M) (row := a3) (base := 8 * j) (B := n) (h := fun M k => mx (M a1 (8 * i + k)) (M a3 (8 * j + k))) (P := fun M => M m_o 1 = nI n) (by omega) (fun fu k M hk hP => ⟨?_, ?_⟩) (fun fu M hP => ?_) (fun M k q v _ hk hq hne => ?_) hc
  · simp only [f_X11_raise_L3, lt_d, jn_d, nI_m8, nI_add, hP]
    rw [if_neg (nI_ge (by omega) (by omega)), rd_n (by omega) m1, rd_n (by omega) m3]
    unfold mx
    by_cases e : M a1 (8 * i + k) ≤ M a3 (8 * j + k)
    · rw [if_pos e, if_pos e, rd_n (by omega) m3, wr_n (by omega) m3, nI_1]
    · rw [if_neg e, if_neg e, rd_n (by omega) m1, wr_n (by omega) m3, nI_1]
  · rw [gset_r, if_neg (fun z => ho z.1.symm)]; exact hP
  · simp only [f_X11_raise_L3, lt_d, hP]
    rw [if_pos (nI_le (by omega) (by omega))]
  · try dsimp only
    rw [gset_r, gset_r, if_neg (by omega), if_neg (by omega)]
end RR
/-! rows: the class -/
section RC
variable {M : gM} {a0 a1 : gI} {N w : Nat}
theorem c_isSame (h0 : cN N a0 = w) (h1 : cN N a1 = w) (hw : w ≤ 90) : f_X10_isSame N M a0 a1 = some (zb (rEq (M a0) (M a1) 0 w)) := by
  have H : ∀ m k fu, k + m = w → m < fu → f_X10_isSame_L2 N M a0 a1 fu (nI k) = some (zb (rEq (M a0) (M a1) k m)) := by
    intro m
    induction m with
    | zero =>
      intro k fu hk hf
      obtain ⟨fu, rfl⟩ : ∃ q, fu = q + 1 := ⟨fu - 1, by omega⟩
      simp only [f_X10_isSame_L2, h0]
      rw [if_pos (nI_le (by omega) (by omega))]
      rfl
    | succ m ih =>
      intro k fu hk hf
      obtain ⟨fu, rfl⟩ : ∃ q, fu = q + 1 := ⟨fu - 1, by omega⟩
      simp only [f_X10_isSame_L2, lt_d, h0, h1]
      rw [if_neg (nI_ge (by omega) (by omega)), if_neg (nI_ge (by omega) (by omega)), rd_n (by omega) (by omega), rd_n (by omega) (by omega)]
      by_cases e : M a0 k = M a1 k
      · rw [if_pos e, nI_1, ih (k + 1) fu (by omega) (by omega)]
        simp only [rEq, e, decide_true, Bool.true_and]
      · rw [if_neg e]
        simp only [rEq, e, decide_false, Bool.false_and]
        rfl
  exact H w 0 100 (by omega) (by omega)
theorem c_isAtMost (h0 : cN N a0 = w) (h1 : cN N a1 = w) (hw : w ≤ 90) : f_X10_isAtMost N M a0 a1 = some (zb (rLe (M a0) (M a1) 0 w)) := by
  have H : ∀ m k fu, k + m = w → m < fu → f_X10_isAtMost_L2 N M a0 a1 fu (nI k) = some (zb (rLe (M a0) (M a1) k m)) := by
    intro m
    induction m with
    | zero =>
      intro k fu hk hf
      obtain ⟨fu, rfl⟩ : ∃ q, fu = q + 1 := ⟨fu - 1, by omega⟩
      simp only [f_X10_isAtMost_L2, h0]
      rw [if_pos (nI_le (by omega) (by omega))]
      rfl
    | succ m ih =>
      intro k fu hk hf
      obtain ⟨fu, rfl⟩ : ∃ q, fu = q + 1 := ⟨fu - 1, by omega⟩
      simp only [f_X10_isAtMost_L2, lt_d, h0, h1]
      rw [if_neg (nI_ge (by omega) (by omega)), if_neg (nI_ge (by omega) (by omega)), rd_n (by omega) (by omega), rd_n (by omega) (by omega)]
      by_cases e : M a0 k ≤ M a1 k
      · rw [if_pos e, nI_1, ih (k + 1) fu (by omega) (by omega)]
        simp only [rLe, e, decide_true, Bool.true_and]
      · rw [if_neg e]
        simp only [rLe, e, decide_false, Bool.false_and]
        rfl
  exact H w 0 100 (by omega) (by omega)
theorem c_assign (h0 : cN N a0 = w) (h1 : cN N a1 = w) (hw : w ≤ 90) : f_X10_assign N M a0 a1 = some (gpu M a0 0 w (M a1)) := by
  refine rowloop (E := some) (L := fun n k M => f_X10_assign_L2 N a0 a1 n (nI k) M) (row := a0) (base := 0) (B := w) (h := fun M k => M a1 k) (P := fun _ => True) (by omega) (fun n k M hk _ => ⟨?_, trivial⟩) (fun n M _ => ?_) (fun M k q v _ hk hq hne => ?_) trivial
  · simp only [f_X10_assign_L2, lt_d, h0, h1, Nat.zero_add]
    rw [if_neg (nI_ge (by omega) (by omega)), if_neg (nI_ge (by omega) (by omega)), rd_n (by omega) (by omega), wr_n (by omega) (by omega), nI_1]
  · simp only [f_X10_assign_L2, h0]
    rw [if_pos (nI_le (by omega) (by omega))]
  · try dsimp only
    rw [gset_r, if_neg (by omega)]
theorem c_raise (h0 : cN N a0 = w) (h1 : cN N a1 = w) (hw : w ≤ 90) : f_X10_raise N M a0 a1 = some (gpu M a0 0 w (fun k => if M a0 k < M a1 k then M a1 k else M a0 k)) := by
  refine rowloop (E := some) (L := fun n k M => f_X10_raise_L2 N a0 a1 n (nI k) M) (row := a0) (base := 0) (B := w) (h := fun M k => if M a0 k < M a1 k then M a1 k else M a0 k) (P := fun _ => True) (by omega) (fun n k M hk _ => ⟨?_, trivial⟩) (fun n M _ => ?_) (fun M k q v _ hk hq hne => ?_) trivial
  · simp only [f_X10_raise_L2, lt_d, h0, h1, Nat.zero_add]
    rw [if_neg (nI_ge (by omega) (by omega)), if_neg (nI_ge (by omega) (by omega)), rd_n (by omega) (by omega), rd_n (by omega) (by omega), wr_n (by omega) (by omega), nI_1]
  · simp only [f_X10_raise_L2, h0]
    rw [if_pos (nI_le (by omega) (by omega))]
  · have e1 : ∀ x, gset M a0 (0 + k) v x q = M x q := fun x => by rw [gset_r, if_neg (by omega)]
    simp only [e1]
theorem c_fill (v : Int32) (h0 : cN N a0 = w) (hw : w ≤ 90) : f_J7_fill_53178 N M a0 v = some (gpu M a0 0 w (fun _ => v)) := by
  unfold f_J7_fill_53178
  rw [lt_d, h0]
  refine rowloop (E := some) (L := fun n k M => f_J7_fill_53178_L5 N a0 v (nI w) n (nI k) M) (row := a0) (base := 0) (B := w) (h := fun M k => v) (P := fun _ => True) (by omega) (fun n k M hk _ => ⟨?_, trivial⟩) (fun n M _ => ?_) (fun M k q v _ hk hq hne => rfl) trivial
  · simp only [f_J7_fill_53178_L5, lt_d, h0, Nat.zero_add]
    rw [if_neg (nI_ge (by omega) (by omega)), wr_n (by omega) (by omega), nI_1]
  · simp only [f_J7_fill_53178_L5]
    rw [if_pos (nI_le (by omega) (by omega))]
theorem c_isIn (v : Int32) {s : Nat} (hs : s < 32) : f_X10_isIn N M v (nI s) = some (zb (bt v s)) := by
  unfold f_X10_isIn
  rw [bt_sh hs]
  cases bt v s <;> rfl
end RC
theorem mx_eq (a b : Int32) : mx a b = if b < a then a else b := by
  unfold mx
  by_cases h : a ≤ b
  · rw [if_pos h, if_neg (Int32.not_lt.mpr h)]
  · rw [if_neg h, if_pos (Int32.not_le.mp h)]
