/-! layer 2: an entry's state joined over a group -/
def jS (M : gM) (G : Int32) (x : Nat) : Nat → Int32
  | 0 => 0
  | n + 1 => if bt G n = true then (if jS M G x n < M (56, n, 0) x then M (56, n, 0) x else jS M G x n) else jS M G x n
def jR (M : gM) (G : Int32) (x k : Nat) : Nat → Int32
  | 0 => 0
  | n + 1 => if bt G n = true then (if jR M G x k n < M (58, n, x) k then M (58, n, x) k else jR M G x k n) else jR M G x k n
section ZN
variable {N g B s o c d x y z T n m t l i j a b : Nat} {A E M M' X Mc Mr Mc' Mr' : gM} {row a3 : gI} {D P : Nat → Bool} {G pd v w nr a1 a2 a4 a5 : Int32} {f : Nat → Int32} {zz : lS}
theorem gpu_2 {i : gI} {b n : Nat} {f h : Nat → Int32} : gpu (gpu M i b n f) i b n h = gpu M i b n h := by
  funext j q
  rw [gpu_r, gpu_r, gpu_r]
  by_cases e : j = i ∧ b ≤ q ∧ q < b + n
  · rw [if_pos e, if_pos e]
  · rw [if_neg e, if_neg e, if_neg e]
theorem jS_v : ∀ n, (∀ s, s < n → bt G s = true → M (56, s, 0) x = 0 ∨ M (56, s, 0) x = 1 ∨ M (56, s, 0) x = 2) → (jS M G x n = 0 ∨ jS M G x n = 1 ∨ jS M G x n = 2) ∧ (∀ s, s < n → bt G s = true → ¬ M (56, s, 0) x = 0 → ¬ jS M G x n = 0) ∧ (∀ s, s < n → bt G s = true → M (56, s, 0) x = 2 → jS M G x n = 2) ∧ (jS M G x n = 1 → ∃ s, s < n ∧ bt G s = true ∧ M (56, s, 0) x = 1) ∧ (jS M G x n = 2 → ∃ s, s < n ∧ bt G s = true ∧ M (56, s, 0) x = 2) := by
  intro n
  induction n with
  | zero => exact fun _ => ⟨Or.inl rfl, fun s hs => absurd hs (by omega), fun s hs => absurd hs (by omega), fun h => absurd h (show ¬ (0 : Int32) = 1 by decide), fun h => absurd h (show ¬ (0 : Int32) = 2 by decide)⟩
  | succ n ih =>
    intro h
    obtain ⟨i1, i2, i3, i4, i5⟩ := ih (fun s hs => h s (by omega))
    have e : jS M G x (n + 1) = if bt G n = true then (if jS M G x n < M (56, n, 0) x then M (56, n, 0) x else jS M G x n) else jS M G x n := rfl
    by_cases hb : bt G n = true
    · rw [if_pos hb] at e
      have hv := h n (by omega) hb
      have key : ∀ u v : Int32, (u = 0 ∨ u = 1 ∨ u = 2) → (v = 0 ∨ v = 1 ∨ v = 2) → ((if u < v then v else u) = 0 ∨ (if u < v then v else u) = 1 ∨ (if u < v then v else u) = 2) ∧ (¬ u = 0 → ¬ (if u < v then v else u) = 0) ∧ (¬ v = 0 → ¬ (if u < v then v else u) = 0) ∧ (u = 2 → (if u < v then v else u) = 2) ∧ (v = 2 → (if u < v then v else u) = 2) ∧ ((if u < v then v else u) = u ∨ (if u < v then v else u) = v) := fun u v hu hv => by
        rcases hu with rfl | rfl | rfl <;> rcases hv with rfl | rfl | rfl <;> decide
      obtain ⟨k1, k2, k3, k4, k5, k6⟩ := key _ _ i1 hv
      rw [e]
      refine ⟨k1, fun s hs hbs => ?_, fun s hs hbs => ?_, fun h1 => ?_, fun h1 => ?_⟩
      · by_cases es : s = n
        · subst es; exact k3
        · exact fun z => k2 (i2 s (by omega) hbs z)
      · by_cases es : s = n
        · subst es; exact k5
        · exact fun z => k4 (i3 s (by omega) hbs z)
      · rcases k6 with k6 | k6
        · obtain ⟨s, a, b, c⟩ := i4 (by rw [← k6]; exact h1)
          exact ⟨s, by omega, b, c⟩
        · exact ⟨n, by omega, hb, by rw [← k6]; exact h1⟩
      · rcases k6 with k6 | k6
        · obtain ⟨s, a, b, c⟩ := i5 (by rw [← k6]; exact h1)
          exact ⟨s, by omega, b, c⟩
        · exact ⟨n, by omega, hb, by rw [← k6]; exact h1⟩
    · rw [if_neg hb] at e
      rw [e]
      have ne : ∀ s, bt G s = true → s < n + 1 → s < n := fun s hbs hs => by
        have : s ≠ n := fun z => hb (by rw [← z]; exact hbs)
        omega
      refine ⟨i1, fun s hs hbs => i2 s (ne s hbs hs) hbs, fun s hs hbs => i3 s (ne s hbs hs) hbs, fun h1 => ?_, fun h1 => ?_⟩
      · obtain ⟨s, a, b, c⟩ := i4 h1
        exact ⟨s, by omega, b, c⟩
      · obtain ⟨s, a, b, c⟩ := i5 h1
        exact ⟨s, by omega, b, c⟩
theorem jR_0 {k : Nat} : ∀ n, (∀ s, s < n → bt G s = true → M (58, s, x) k = 0) → jR M G x k n = 0 := by
  intro n
  induction n with
  | zero => exact fun _ => rfl
  | succ n ih =>
    intro h
    have e : jR M G x k (n + 1) = if bt G n = true then (if jR M G x k n < M (58, n, x) k then M (58, n, x) k else jR M G x k n) else jR M G x k n := rfl
    rw [e, ih (fun s hs => h s (by omega))]
    by_cases hb : bt G n = true
    · rw [if_pos hb, h n (by omega) hb]; rfl
    · rw [if_neg hb]
theorem jR_nn {k : Nat} : ∀ n, (0 : Int32) ≤ jR M G x k n := by
  intro n
  induction n with
  | zero => exact Int32.le_refl 0
  | succ n ih =>
    have e : jR M G x k (n + 1) = if bt G n = true then (if jR M G x k n < M (58, n, x) k then M (58, n, x) k else jR M G x k n) else jR M G x k n := rfl
    rw [e]
    split
    · split
      · rename_i h; exact Int32.le_trans ih (Int32.le_of_lt h)
      · exact ih
    · exact ih
theorem jS_congr : ∀ n, (∀ s, s < n → bt G s = true → M' (56, s, 0) x = M (56, s, 0) x) → jS M' G x n = jS M G x n := by
  intro n
  induction n with
  | zero => exact fun _ => rfl
  | succ n ih =>
    intro h
    have i := ih (fun s hs => h s (by omega))
    unfold jS
    rw [i]
    by_cases hb : bt G n = true
    · rw [if_pos hb, if_pos hb, h n (by omega) hb]
    · rw [if_neg hb, if_neg hb]
theorem c_joinL (hN : N ≤ 4) (hx : x < 48) (hG : A (13, 0, 0) 6 = G) : f_X4_joinedState_L12 N (nI x) 100 (0 : Int32) (0 : Int32) (gpu A (14, 0, 0) 0 (N + 4) (fun _ => 0)) = some (jS A G x N, gpu A (14, 0, 0) 0 (N + 4) (fun k => jR A G x k N)) := by
  have H : ∀ m s fu, s + m = N → m < fu → f_X4_joinedState_L12 N (nI x) fu (jS A G x s) (nI s) (gpu A (14, 0, 0) 0 (N + 4) (fun k => jR A G x k s)) = some (jS A G x N, gpu A (14, 0, 0) 0 (N + 4) (fun k => jR A G x k N)) := by
    intro m
    induction m with
    | zero =>
      intro s fu hs hf
      obtain ⟨fu, rfl⟩ : ∃ q, fu = q + 1 := ⟨fu - 1, by omega⟩
      have : s = N := by omega
      subst this
      simp only [f_X4_joinedState_L12]
      rw [if_pos (nI_le (by omega) (by omega))]
    | succ m ih =>
      intro s fu hs hf
      obtain ⟨fu, rfl⟩ : ∃ q, fu = q + 1 := ⟨fu - 1, by omega⟩
      have ih' := ih (s + 1) fu (by omega) (by omega)
      have e1 : jS A G x (s + 1) = if bt G s = true then (if jS A G x s < A (56, s, 0) x then A (56, s, 0) x else jS A G x s) else jS A G x s := rfl
      have e2 : (fun k => jR A G x k (s + 1)) = fun k => if bt G s = true then (if jR A G x k s < A (58, s, x) k then A (58, s, x) k else jR A G x k s) else jR A G x k s := rfl
      obtain ⟨X, hX⟩ : ∃ X, X = gpu A (14, 0, 0) 0 (N + 4) (fun k => jR A G x k s) := ⟨_, rfl⟩
      have fX : ∀ (j : gI) q, ¬ j = (14, 0, 0) → X j q = A j q := fun j q hj => by rw [hX]; exact gpu_ne hj
      rw [← hX]
      simp only [f_X4_joinedState_L12, lt_d, jn_d]
      rw [if_neg (nI_ge (by omega) (by omega)), fX (13, 0, 0) 6 (by simp), hG, c_isIn _ (by omega), o1_s]
      by_cases hb : bt G s = true
      · rw [if_pos hb] at e1
        rw [hb, zb_t, if_neg (by decide), ix_n (by omega) (by omega), rd_n hx (by omega), ix_n (n := N) (by omega) (by omega), ix_n (n := 48) hx (by omega), c_raise (cN14 _) (show cN N (58, s, x) = N + 4 from rfl) (by omega), o1_s, nI_1, fX (56, s, 0) x (by simp), ← e1]
        refine Eq.trans ?_ ih'
        refine congrArg _ ?_
        rw [e2, hX, gpu_2]
        refine gpu_congr fun k hk => ?_
        rw [if_pos hb, gpu_ne (x := (58, s, x)) (by simp), show gpu A (14, 0, 0) 0 (N + 4) (fun k => jR A G x k s) (14, 0, 0) k = jR A G x k s from by rw [gpu_r, if_pos ⟨rfl, by omega, by omega⟩]; rfl]
      · rw [if_neg hb] at e1
        rw [Bool.not_eq_true] at hb
        rw [hb, zb_f, if_pos rfl, nI_1, hX]
        rw [e1, e2] at ih'
        simp only [hb, Bool.false_eq_true, if_false] at ih'
        exact ih'
  exact H N 0 100 (by omega) (by omega)
theorem c_joined (hN : N ≤ 4) (hx : x < 48) (hG : A (13, 0, 0) 6 = G) : f_X4_joinedState N A (nI x) = some (jS A G x N, gpu A (14, 0, 0) 0 (N + 4) (fun k => jR A G x k N)) := by
  unfold f_X4_joinedState
  rw [c_fill 0 (cN14 _) (by omega), o1_s]
  exact c_joinL hN hx hG
end ZN
