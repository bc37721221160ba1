/-! layer 2: what is inside; what can go -/
def gd (N : Nat) (M : gM) (G : Int32) (g z : Nat) : Bool := aF (fun w => !insI M z w || okB N M G w) z (g + 1 - z)
section ZXC
variable {N g B s o c d x y z T n m t l i j a b p : Nat} {A E M M' X Mc Mr Mc' Mr' : gM} {row a3 : gI} {D P : Nat → Bool} {G pd v nr a1 a2 a4 a5 : Int32} {f r : Nat → Int32} {zz : lS}
theorem ins_ge {w : Nat} (h : insI M x w = true) : x ≤ w := by
  refine Nat.not_lt.mp (fun z => ?_)
  rw [insI_lt z] at h; exact absurd h (by decide)
theorem ins_child (hpa : ∀ z, 1 ≤ z → z ≤ g → ∃ p, p < z ∧ M (2, 0, 0) z = nI p) (hg : g ≤ 47) (hxc : x < c) (hc : M (2, 0, 0) c = nI x) : ∀ k w, w < k → w ≤ g → insI M c w = true → insI M x w = true := by
  intro k
  induction k with
  | zero => intro w hw; omega
  | succ k ih =>
    intro w hw hwg h
    have hge := ins_ge h
    obtain ⟨p, p1, p2⟩ := hpa w (by omega) hwg
    by_cases e : w = c
    · subst e
      have : p = x := by rw [hc, neq (by omega) (by omega)] at p2; exact p2.symm
      subst this
      rw [insI_gt hxc p1 (by omega) p2]; exact insI_o
    · rw [insI_gt (show c < w by omega) p1 (by omega) p2] at h
      rw [insI_gt (show x < w by omega) p1 (by omega) p2]
      exact ih p (by omega) (by omega) h
theorem ins_up (hpa : ∀ z, 1 ≤ z → z ≤ g → ∃ p, p < z ∧ M (2, 0, 0) z = nI p) (hg : g ≤ 47) : ∀ k w, w < k → w ≤ g → x < w → insI M x w = true → ∃ c, x < c ∧ c ≤ w ∧ M (2, 0, 0) c = nI x ∧ insI M c w = true := by
  intro k
  induction k with
  | zero => intro w hw; omega
  | succ k ih =>
    intro w hw hwg hxw h
    obtain ⟨p, p1, p2⟩ := hpa w (by omega) hwg
    rw [insI_gt hxw p1 (by omega) p2] at h
    by_cases e : p = x
    · subst e
      exact ⟨w, hxw, by omega, p2, insI_o⟩
    · have hge := ins_ge h
      obtain ⟨c, c1, c2, c3, c4⟩ := ih p (by omega) (by omega) (by omega) h
      exact ⟨c, c1, by omega, c3, by rw [insI_gt (show c < w by omega) p1 (by omega) p2]; exact c4⟩
theorem gd_iff (hzg : z ≤ g) : gd N M G g z = true ↔ ∀ w, z ≤ w → w ≤ g → insI M z w = true → okB N M G w = true := by
  unfold gd
  rw [aF_iff]
  refine ⟨fun h w h1 h2 h3 => ?_, fun h w h1 h2 => ?_⟩
  · have := h w h1 (by omega)
    rw [h3] at this
    exact this
  · cases hi : insI M z w with
    | false => rfl
    | true => rw [h w h1 (by omega) hi]; rfl
theorem gd_2 (hpa : ∀ z, 1 ≤ z → z ≤ g → ∃ p, p < z ∧ M (2, 0, 0) z = nI p) (hg : g ≤ 47) (hxg : x ≤ g) (h2 : jS M G x N = 2) : gd N M G g x = (knJ N M G x && aF (fun c => !decide (1 ≤ c ∧ c ≤ g ∧ M (2, 0, 0) c = nI x) || gd N M G g c) (x + 1) (g - x)) := by
  have eo : okB N M G x = knJ N M G x := by
    unfold okB
    rw [decide_eq_true h2, decide_eq_false (show ¬ jS M G x N = 1 by rw [h2]; decide)]; simp
  refine Bool.eq_iff_iff.mpr ?_
  rw [gd_iff hxg, Bool.and_eq_true, aF_iff]
  refine ⟨fun h => ⟨by rw [← eo]; exact h x (by omega) hxg insI_o, fun c c1 c2 => ?_⟩, fun ⟨h1, h3⟩ w w1 w2 w3 => ?_⟩
  · by_cases hc : 1 ≤ c ∧ c ≤ g ∧ M (2, 0, 0) c = nI x
    · rw [decide_eq_true hc]
      show gd N M G g c = true
      rw [gd_iff (by omega)]
      exact fun w w1 w2 w3 => h w (by omega) w2 (ins_child hpa hg (by omega) hc.2.2 (w + 1) w (by omega) w2 w3)
    · rw [decide_eq_false hc]; rfl
  · by_cases e : w = x
    · subst e; rw [eo]; exact h1
    · obtain ⟨c, c1, c2, c3, c4⟩ := ins_up hpa hg (w + 1) w (by omega) w2 (by omega) w3
      have := h3 c (by omega) (by omega)
      rw [decide_eq_true ⟨by omega, by omega, c3⟩] at this
      have this : gd N M G g c = true := this
      rw [gd_iff (by omega)] at this
      exact this w c2 w2 c4
theorem gd_1 (hxg : x ≤ g) (h1 : jS M G x N = 1) : gd N M G g x = false := by
  refine Bool.eq_false_iff.mpr (fun h => ?_)
  rw [gd_iff hxg] at h
  have := h x (by omega) hxg insI_o
  unfold okB at this
  rw [decide_eq_true h1] at this
  exact absurd this (by simp)
theorem gd_0 (I : JInv N g M) (hx1 : 1 ≤ x) (hxg : x ≤ g) (h0 : jS M G x N = 0) : gd N M G g x = true := by
  have hg := I.1.1
  rw [gd_iff hxg]
  have r0 : ∀ w, w ≤ g → (jS M G w N = 0 ↔ ∀ s, s < N → bt G s = true → M (56, s, 0) w = 0) := fun w hw => by
    obtain ⟨v1, v2, v3, v4, v5⟩ := jS_v (M := M) (G := G) (x := w) N (fun s hs _ => (I.2.2.1 s hs w (by omega)).2.1)
    refine ⟨fun h s hs hb => Classical.not_not.mp (fun z => v2 s hs hb z h), fun h => ?_⟩
    rcases v1 with v1 | v1 | v1
    · exact v1
    · obtain ⟨s, a, b, c⟩ := v4 v1
      rw [h s a b] at c; exact absurd c (by decide)
    · obtain ⟨s, a, b, c⟩ := v5 v1
      rw [h s a b] at c; exact absurd c (by decide)
  have un : ∀ w, 1 ≤ w → w ≤ g → ∀ s, s < N → M (56, s, 0) w = 0 → M (51, s, 0) w = 0 := fun w w1 w2 s hs e => by
    obtain ⟨p, p1, p2, -⟩ := I.1.2.2.2 w w1 w2
    rcases (I.2.2.1 s hs w (by omega)).1 with z | z
    · exact z
    · exact absurd e (((I.2.2.1 s hs w (by omega)).2.2.2.2 p (by omega) w1 p2).1 z).2
  have key : ∀ k w, w < k → w ≤ g → insI M x w = true → ∀ s, s < N → bt G s = true → M (56, s, 0) w = 0 := by
    intro k
    induction k with
    | zero => intro w hw; omega
    | succ k ih =>
      intro w hw hwg h s hs hb
      have hge := ins_ge h
      by_cases e : w = x
      · subst e; exact (r0 w hwg).mp h0 s hs hb
      · obtain ⟨p, p1, p2, -⟩ := I.1.2.2.2 w (by omega) hwg
        rw [insI_gt (by omega) p1 (by omega) p2] at h
        have hge2 := ins_ge h
        have e51 := un p (by omega) (by omega) s hs (ih p (by omega) (by omega) h s hs hb)
        refine Classical.not_not.mp (fun z => ?_)
        have := ((I.2.2.1 s hs w (by omega)).2.2.2.2 p (by omega) (by omega) p2).2 z
        rw [e51] at this; exact absurd this (by decide)
  intro w w1 w2 w3
  have : jS M G w N = 0 := (r0 w w2).mpr (key (w + 1) w (by omega) w2 w3)
  unfold okB
  rw [this]; rfl
/-- the reference's look at a live entry, in the class's words -/
theorem look_eq (hN : N ≤ 4) (hx : x < 48) (hB : ∀ s, s < N → rB N s x Mc Mr) (hP : ∀ s, s < N → Mc (51, s, 0) p = Mr m_has (48 * s + p)) (h56 : ∀ s, s < N → ¬ Mc (56, s, 0) x = 0 → Mc (51, s, 0) p = 1) : ∀ n, n ≤ N → (tGo Mr G x p n = true ↔ ∃ s, s < n ∧ bt G s = true ∧ Mc (56, s, 0) x = 2) ∧ (tTh Mr G x p n = true ↔ ∃ s, s < n ∧ bt G s = true ∧ Mc (56, s, 0) x = 1) ∧ ∀ k, k < N + 4 → tRw Mr G x p k n = jR Mc G x k n := by
  intro n
  induction n with
  | zero => exact fun _ => ⟨⟨fun h => absurd h Bool.false_ne_true, fun ⟨s, hs, _⟩ => by omega⟩, ⟨fun h => absurd h Bool.false_ne_true, fun ⟨s, hs, _⟩ => by omega⟩, fun _ _ => rfl⟩
  | succ n ih =>
    intro hn
    obtain ⟨i1, i2, i3⟩ := ih (by omega)
    obtain ⟨b1, b2⟩ := hB n (by omega)
    have hk : ¬ Mc (56, n, 0) x = 0 → rKno Mr G p n = bt G n := fun hz => by
      unfold rKno
      rw [← hP n (by omega), h56 n (by omega) hz]
      simp [nz]
    have eT : tTh Mr G x p (n + 1) = (tTh Mr G x p n || (rKno Mr G p n && decide (Mr m_entry (48 * n + x) = 1))) := rfl
    have eG : tGo Mr G x p (n + 1) = (tGo Mr G x p n || (rKno Mr G p n && decide (Mr m_entry (48 * n + x) = 2))) := rfl
    have eR : ∀ k, tRw Mr G x p k (n + 1) = if rKno Mr G p n = true ∧ Mr m_entry (48 * n + x) = 2 then (if tRw Mr G x p k n < Mr m_gone (8 * (48 * n + x) + k) then Mr m_gone (8 * (48 * n + x) + k) else tRw Mr G x p k n) else tRw Mr G x p k n := fun _ => rfl
    have step : ∀ v : Int32, ¬ v = 0 → ((rKno Mr G p n && decide (Mr m_entry (48 * n + x) = v)) = true ↔ bt G n = true ∧ Mc (56, n, 0) x = v) := fun v hv => by
      rw [Bool.and_eq_true, decide_eq_true_eq, ← b1]
      refine ⟨fun ⟨a, b⟩ => ⟨?_, b⟩, fun ⟨a, b⟩ => ⟨?_, b⟩⟩
      · rw [← hk (by rw [b]; exact hv)]; exact a
      · rw [hk (by rw [b]; exact hv)]; exact a
    have ex : ∀ v : Int32, ((∃ s, s < n + 1 ∧ bt G s = true ∧ Mc (56, s, 0) x = v) ↔ (∃ s, s < n ∧ bt G s = true ∧ Mc (56, s, 0) x = v) ∨ (bt G n = true ∧ Mc (56, n, 0) x = v)) := fun v => by
      refine ⟨fun ⟨s, a, b, c⟩ => ?_, fun h => ?_⟩
      · by_cases e : s = n
        · subst e; exact Or.inr ⟨b, c⟩
        · exact Or.inl ⟨s, by omega, b, c⟩
      · rcases h with ⟨s, a, b, c⟩ | ⟨b, c⟩
        · exact ⟨s, by omega, b, c⟩
        · exact ⟨n, by omega, b, c⟩
    refine ⟨?_, ?_, fun k hk' => ?_⟩
    · rw [eG, Bool.or_eq_true, i1, step 2 (by decide), ex]
    · rw [eT, Bool.or_eq_true, i2, step 1 (by decide), ex]
    · rw [eR k, i3 k hk']
      by_cases h2 : Mc (56, n, 0) x = 2
      · rw [hk (by rw [h2]; decide), ← b1]
        have e58 : Mc (58, n, x) k = Mr m_gone (8 * (48 * n + x) + k) := by rw [b2 k hk', if_pos (by rw [← b1]; exact h2)]
        have ej : jR Mc G x k (n + 1) = if bt G n = true then (if jR Mc G x k n < Mc (58, n, x) k then Mc (58, n, x) k else jR Mc G x k n) else jR Mc G x k n := rfl
        rw [ej, e58]
        by_cases hb : bt G n = true
        · rw [if_pos ⟨hb, h2⟩, if_pos hb]
        · rw [if_neg (fun z => hb z.1), if_neg hb]
      · rw [if_neg (fun z => h2 (by rw [b1]; exact z.2)), jR_skip (fun _ => by rw [b2 k hk', if_neg (by rw [← b1]; exact h2)])]
theorem am_eq (hN : N ≤ 4) (hx : x < 48) (hS : ∀ s, s < N → rSv N s x Mc Mr) (hv : ∀ s, s < N → ∃ n, n ≤ 6 ∧ Mc (60, 48 * s + x, 0) 3 = nI n) (hM : ∀ (j : gI) q, (11 ≤ j.1 ∧ j.1 ≤ 18) → M j q = Mr j q) (hr : ∀ k, k < N + 4 → M m_mergedGone (8 * x + k) = jR Mc G x k N) : rAm N M G x = knJ N Mc G x := by
  unfold rAm knJ kn
  refine aF_congr N 0 (fun s _ hs => ?_)
  have sv := hS s (by omega)
  obtain ⟨n, n6, hn⟩ := hv s (by omega)
  have e1 : bt (cHo N Mc G x) s = (bt G s && nz (Mr m_has (48 * s + x))) := by
    unfold cHo
    rw [bt_sS (by omega) (by omega), decide_eq_true (show s < N by omega), Bool.true_and, sv.1]
  rw [e1, hM m_has _ (by simp)]
  cases hb : bt G s && nz (Mr m_has (48 * s + x)) with
  | false => rw [Bool.not_false, Bool.true_or, Bool.true_or]
  | true =>
    rw [Bool.and_eq_true] at hb
    have hh := (nz_t _).mp hb.2
    have ev : M m_versions (48 * s + x) = nI n := by rw [hM _ _ (by simp), ← sv.dd.1]; exact hn
    have er : rLe (fun k => M m_vector (8 * (48 * s + x) + k)) (fun k => M m_mergedGone (8 * x + k)) 0 (N + 4) = rLe (Mc (55, s, x)) (fun k => jR Mc G x k N) 0 (N + 4) := rLe_congr (fun k hk => by
      have := sv.a.2.2.2 k hk
      rw [if_neg hh] at this
      rw [this, hM _ _ (by simp)]) hr
    have ea : aF (fun i => rLe (fun k => M m_versionVector (8 * (6 * (48 * s + x) + i) + k)) (fun k => M m_mergedGone (8 * x + k)) 0 (N + 4)) 0 n = aF (fun i => rLe (Mc (64, 48 * s + x, i)) (fun k => jR Mc G x k N) 0 (N + 4)) 0 n := aF_congr n 0 (fun i _ hi => by
      obtain ⟨-, -, d3⟩ := sv.dd.2 i (by omega) (by rw [← sv.dd.1, hn]; exact nI_lt (by omega) (by omega))
      exact rLe_congr (fun k hk => by rw [d3 k hk, hM _ _ (by simp)]) hr)
    rw [ev, hn, nI_clamp (by omega), er, ea]
end ZXC
