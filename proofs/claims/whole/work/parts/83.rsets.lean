/-! layer 2: the reference's sets, and that they are the class's -/
section RS
variable {N o c g : Nat} {M Mc Mr : gM} {v : Int32}
def rHo (N : Nat) (M : gM) (v : Int32) (o : Nat) : Int32 := sS (fun s => bt v s && nz (M m_has (48 * s + o))) N
theorem r_holders {a1 a3 : Int32} {J : Int32 × gM → Option (Int64 × gM)} (h0 : M m_o 0 = nI N) (hN : N ≤ 4) (ho : o < 48) : f_X11_get_L80 a1 (nI o) a3 v J 100 (0 : Int32) (0 : Int32) M = J (rHo N M v o, M) := by
  have H : ∀ m k fu w, k + m = N → m < fu → f_X11_get_L80 a1 (nI o) a3 v J fu w (nI k) M = J (sN (fun s => bt v s && nz (M m_has (48 * s + o))) k m w, M) := by
    intro m
    induction m with
    | zero =>
      intro k fu w hk hf
      obtain ⟨fu, rfl⟩ : ∃ q, fu = q + 1 := ⟨fu - 1, by omega⟩
      simp only [f_X11_get_L80, lt_d, h0]
      rw [if_pos (nI_le (by omega) (by omega))]
      rfl
    | succ m ih =>
      intro k fu w hk hf
      obtain ⟨fu, rfl⟩ : ∃ q, fu = q + 1 := ⟨fu - 1, by omega⟩
      simp only [f_X11_get_L80, lt_d, jn_d, h0, nI_m48, nI_add, bt_1 (show k < 32 by omega)]
      rw [if_neg (nI_ge (by omega) (by omega))]
      cases hb : bt v k with
      | false => rw [if_neg (by decide), nI_1, ih (k + 1) fu w (by omega) (by omega), sN_f (by simp [hb])]
      | true =>
        rw [if_pos rfl, rd_n (by omega) (by omega)]
        by_cases hh : M m_has (48 * k + o) = 0
        · rw [if_pos hh, nI_1, ih (k + 1) fu w (by omega) (by omega), sN_f (by simp [nz, hh])]
        · rw [if_neg hh, nI_1, ih (k + 1) fu _ (by omega) (by omega), sN_t (by simp [nz, hh, hb])]
          rfl
  exact H N 0 100 0 (by omega) (by omega)
theorem r_greatest (h0 : M m_o 0 = nI N) (h1 : M m_o 1 = nI (N + 4)) (hN : N ≤ 4) (ho : o < 48) : f_X11_greatest M v (nI o) = some (fst (fun s => bt v s && aF (fun t => !bt v t || rLe (fun k => M m_vector (8 * (48 * t + o) + k)) (fun k => M m_vector (8 * (48 * s + o) + k)) 0 (N + 4)) 0 N) N) := by
  have H1 : ∀ (s : Nat) (J : Int32 → Option Int32), s < N → ∀ m k fu (b : Bool), k + m = N → m < fu → f_X11_greatest_L29 M v (nI o) (nI s) J fu (zb b) (nI k) = J (zb (b && aF (fun t => !bt v t || rLe (fun k => M m_vector (8 * (48 * t + o) + k)) (fun k => M m_vector (8 * (48 * s + o) + k)) 0 (N + 4)) k m)) := by
    intro s J hs m
    induction m with
    | zero =>
      intro k fu b hk hf
      obtain ⟨fu, rfl⟩ : ∃ q, fu = q + 1 := ⟨fu - 1, by omega⟩
      simp only [f_X11_greatest_L29, lt_d, h0]
      rw [if_pos (nI_le (by omega) (by omega)), show (b && aF (fun t => !bt v t || rLe (fun k => M m_vector (8 * (48 * t + o) + k)) (fun k => M m_vector (8 * (48 * s + o) + k)) 0 (N + 4)) k 0) = b from Bool.and_true b]
    | succ m ih =>
      intro k fu b hk hf
      obtain ⟨fu, rfl⟩ : ∃ q, fu = q + 1 := ⟨fu - 1, by omega⟩
      simp only [f_X11_greatest_L29, lt_d, jn_d, h0, nI_m48, nI_add, bt_0 (show k < 32 by omega), zb_z]
      rw [if_neg (nI_ge (by omega) (by omega))]
      have e : ∀ q : Bool, (!bt v k || rLe (fun j => M m_vector (8 * (48 * k + o) + j)) (fun j => M m_vector (8 * (48 * s + o) + j)) 0 (N + 4)) = q → aF (fun t => !bt v t || rLe (fun k => M m_vector (8 * (48 * t + o) + k)) (fun k => M m_vector (8 * (48 * s + o) + k)) 0 (N + 4)) k (m + 1) = (q && aF (fun t => !bt v t || rLe (fun k => M m_vector (8 * (48 * t + o) + k)) (fun k => M m_vector (8 * (48 * s + o) + k)) 0 (N + 4)) (k + 1) m) := fun q hq => by rw [← hq]; rfl
      cases b with
      | false => rw [if_pos rfl]; rfl
      | true =>
        rw [if_neg (by decide)]
        cases hb : bt v k with
        | false =>
          rw [if_pos rfl, nI_1, show (1 : Int32) = zb true from rfl, ih (k + 1) fu true (by omega) (by omega), e true (by rw [hb]; rfl)]
          rfl
        | true =>
          rw [if_neg (by decide), r_isAtMost h1 (by omega) (by show 8 * (48 * k + o) + 8 ≤ 1536; omega) (by show 8 * (48 * s + o) + 8 ≤ 1536; omega) (by decide) (by decide), o1_s]
          cases hq : rLe (fun j => M m_vector (8 * (48 * k + o) + j)) (fun j => M m_vector (8 * (48 * s + o) + j)) 0 (N + 4) with
          | false =>
            rw [zb_f, if_pos rfl, nI_1, show (0 : Int32) = zb false from rfl, ih (k + 1) fu false (by omega) (by omega), e false (by rw [hb, hq]; rfl)]
            rfl
          | true =>
            rw [zb_t, if_neg (by decide), nI_1, show (1 : Int32) = zb true from rfl, ih (k + 1) fu true (by omega) (by omega), e true (by rw [hb, hq]; rfl)]
            rfl
  have H : ∀ m k fu, k + m = N → m < fu → f_X11_greatest_L2 M v (nI o) fu (nI k) = some (if lsF (fun s => bt v s && aF (fun t => !bt v t || rLe (fun k => M m_vector (8 * (48 * t + o) + k)) (fun k => M m_vector (8 * (48 * s + o) + k)) 0 (N + 4)) 0 N) k m < N then nI (lsF (fun s => bt v s && aF (fun t => !bt v t || rLe (fun k => M m_vector (8 * (48 * t + o) + k)) (fun k => M m_vector (8 * (48 * s + o) + k)) 0 (N + 4)) 0 N) k m) else -1) := by
    intro m
    induction m with
    | zero =>
      intro k fu hk hf
      obtain ⟨fu, rfl⟩ : ∃ q, fu = q + 1 := ⟨fu - 1, by omega⟩
      simp only [f_X11_greatest_L2, lt_d, h0]
      rw [if_pos (nI_le (by omega) (by omega)), if_neg (by show ¬ k < N; omega)]
    | succ m ih =>
      intro k fu hk hf
      obtain ⟨fu, rfl⟩ : ∃ q, fu = q + 1 := ⟨fu - 1, by omega⟩
      simp only [f_X11_greatest_L2, lt_d, jn_d, h0, bt_1 (show k < 32 by omega)]
      rw [if_neg (nI_ge (by omega) (by omega))]
      have e : ∀ b : Bool, (bt v k && aF (fun t => !bt v t || rLe (fun j => M m_vector (8 * (48 * t + o) + j)) (fun j => M m_vector (8 * (48 * k + o) + j)) 0 (N + 4)) 0 N) = b → lsF (fun s => bt v s && aF (fun t => !bt v t || rLe (fun k => M m_vector (8 * (48 * t + o) + k)) (fun k => M m_vector (8 * (48 * s + o) + k)) 0 (N + 4)) 0 N) k (m + 1) = if b then k else lsF (fun s => bt v s && aF (fun t => !bt v t || rLe (fun k => M m_vector (8 * (48 * t + o) + k)) (fun k => M m_vector (8 * (48 * s + o) + k)) 0 (N + 4)) 0 N) (k + 1) m := fun b hb => by
        rw [← hb]; rfl
      have hk1 : ∀ (b : Bool) (J : Int32 → Option Int32), f_X11_greatest_L29 M v (nI o) (nI k) J 100 (zb b) (0 : Int32) = J (zb (b && aF (fun t => !bt v t || rLe (fun j => M m_vector (8 * (48 * t + o) + j)) (fun j => M m_vector (8 * (48 * k + o) + j)) 0 (N + 4)) 0 N)) := fun b J => H1 k J (by omega) N 0 100 b (by omega) (by omega)
      cases hb : bt v k with
      | false =>
        rw [if_neg (by decide), show (0 : Int32) = zb false from rfl, show f_X11_greatest_L29 M v (nI o) (nI k) (fun b7 => if b7 = zb false then f_X11_greatest_L2 M v (nI o) fu (nI k + 1) else some (nI k)) 100 (zb false) (zb false) = _ from hk1 false _, Bool.false_and, if_pos rfl, nI_1, ih (k + 1) fu (by omega) (by omega), e false (by rw [hb]; rfl)]
        rfl
      | true =>
        rw [if_pos rfl, show f_X11_greatest_L29 M v (nI o) (nI k) (fun b7 => if b7 = 0 then f_X11_greatest_L2 M v (nI o) fu (nI k + 1) else some (nI k)) 100 1 0 = _ from hk1 true _, Bool.true_and]
        cases hq : aF (fun t => !bt v t || rLe (fun j => M m_vector (8 * (48 * t + o) + j)) (fun j => M m_vector (8 * (48 * k + o) + j)) 0 (N + 4)) 0 N with
        | false => rw [zb_f, if_pos rfl, nI_1, ih (k + 1) fu (by omega) (by omega), e false (by rw [hb, hq]; rfl)]; rfl
        | true => rw [zb_t, if_neg (by decide), e true (by rw [hb, hq]; rfl), if_pos rfl, if_pos (by omega)]
  exact H N 0 100 (by omega) (by omega)
theorem Rel.ho (R : Rel N g Mc Mr) (hN : N ≤ 4) (ho : o < 48) : rHo N Mr v o = cHo N Mc v o := by
  unfold rHo cHo
  exact sN_congr _ _ _ (fun s _ hs => by rw [(R.sv (show s < N by omega) ho).1])
/-- the row of a copy that is held -/
theorem Rel.row (R : Rel N g Mc Mr) {s : Nat} (hs : s < N) (ho : o < 48) (hh : ¬ Mc (51, s, 0) o = 0) {k : Nat} (hk : k < N + 4) : Mc (55, s, o) k = Mr m_vector (8 * (48 * s + o) + k) := by
  obtain ⟨f1, -, -, f4, -⟩ := R.sv hs ho
  rw [f4 k hk, if_neg (by rw [← f1]; exact hh)]
theorem bt_cHo {s : Nat} (hN : N ≤ 4) (h : bt (cHo N M v o) s = true) : s < N ∧ bt v s = true ∧ ¬ M (51, s, 0) o = 0 := by
  rcases Nat.lt_or_ge s 32 with hs | hs
  · unfold cHo at h
    rw [bt_sS (by omega) hs] at h
    simp only [Bool.and_eq_true, decide_eq_true_eq, nz_t] at h
    exact ⟨h.1, h.2.1, h.2.2⟩
  · rw [b_big hs] at h; cases h
theorem fst_congr {p q : Nat → Bool} (h : ∀ s, s < N → p s = q s) : fst p N = fst q N := by
  have e : lsF p 0 N = lsF q 0 N := lsF_congr N 0 (fun j _ hj => h j (by omega))
  unfold fst
  rw [e]
def gP (N : Nat) (w : Int32) (row : Nat → Nat → Int32) (s : Nat) : Bool := bt w s && aF (fun t => !bt w t || rLe (row t) (row s) 0 (N + 4)) 0 N
theorem gP_congr {w : Int32} {r1 r2 : Nat → Nat → Int32} (h : ∀ s, bt w s = true → ∀ k, k < N + 4 → r1 s k = r2 s k) (s : Nat) : gP N w r1 s = gP N w r2 s := by
  unfold gP
  cases hb : bt w s with
  | false => rw [Bool.false_and, Bool.false_and]
  | true =>
    rw [Bool.true_and, Bool.true_and]
    refine aF_congr N 0 (fun t _ _ => ?_)
    cases hb2 : bt w t with
    | false => rw [Bool.not_false, Bool.true_or, Bool.true_or]
    | true =>
      rw [Bool.not_true, Bool.false_or, Bool.false_or]
      exact rLe_congr (h t hb2) (h s hb)
theorem r_great (R : Rel N g Mc Mr) (hN : N ≤ 4) (ho : o < 48) : f_X11_greatest Mr (rHo N Mr v o) (nI o) = some (fst (gP N (cHo N Mc v o) (fun t => Mc (55, t, o))) N) := by
  rw [R.ho hN ho]
  have h := r_greatest (v := cHo N Mc v o) R.n0 R.n1 hN ho
  rw [h]
  congr 1
  exact fst_congr (fun s hs => gP_congr (r1 := fun t k => Mr m_vector (8 * (48 * t + o) + k)) (r2 := fun t => Mc (55, t, o)) (fun s hb k hk => by
    obtain ⟨hs, -, hh⟩ := bt_cHo hN hb
    exact (R.row hs ho hh hk).symm) s)
theorem c_great (hN : N ≤ 4) (ho : o < 48) : f_X6_leastGreatest N M v (nI o) = some (fst (gP N (cHo N M v o) (fun t => M (55, t, o))) N) := c_leastGreatest hN ho
/-- the index that is found, or none -/
theorem fst_spec {p : Nat → Bool} : (fst p N = -1 ∧ ∀ s, s < N → p s = false) ∨ ∃ s, s < N ∧ fst p N = nI s ∧ p s = true := by
  obtain ⟨⟨-, h1⟩, h2, h3⟩ := lsF_spec (f := p) N 0
  unfold fst
  by_cases e : lsF p 0 N < N
  · rw [if_pos e]
    exact Or.inr ⟨_, e, rfl, h2 (by omega)⟩
  · rw [if_neg e]
    exact Or.inl ⟨rfl, fun s hs => h3 s (by omega) (by omega)⟩
end RS
