/-! layer 2: what the reference foresees (2) -/
section ZXB
variable {N g B s o c d x y z T n m t l i j a b p : Nat} {A E M M' X Mc Mr Mc' Mr' : gM} {row a3 : gI} {D P : Nat → Bool} {G pd v w nr a1 a2 a4 a5 : Int32} {f r : Nat → Int32} {zz : lS}
theorem r_amL69 {J : Int32 → Option Int32} (h1 : M m_o 1 = nI (N + 4)) (hN : N ≤ 4) (hx : x < 48) (ha : a < 192) (hv : M m_versions a = nI n) (hn : n ≤ 6) : ∀ b : Bool, f_X11_areAtMost_L69 M (nI x) a2 (nI a) J 100 (zb b) (0 : Int32) = J (zb (b && aF (fun i => rLe (fun k => M m_versionVector (8 * (6 * a + i) + k)) (fun k => M m_mergedGone (8 * x + k)) 0 (N + 4)) 0 n)) := by
  have H : ∀ m k fu (b : Bool), k + m = n → m < fu → f_X11_areAtMost_L69 M (nI x) a2 (nI a) J fu (zb b) (nI k) = J (zb (b && aF (fun i => rLe (fun k => M m_versionVector (8 * (6 * a + i) + k)) (fun k => M m_mergedGone (8 * x + k)) 0 (N + 4)) k m)) := by
    intro m
    induction m with
    | zero =>
      intro k fu b hk hf
      obtain ⟨fu, rfl⟩ : ∃ q, fu = q + 1 := ⟨fu - 1, by omega⟩
      simp only [f_X11_areAtMost_L69]
      rw [rd_n ha (by omega), hv, if_pos (nI_le (by omega) (by omega))]
      rw [show aF (fun i => rLe (fun k => M m_versionVector (8 * (6 * a + i) + k)) (fun k => M m_mergedGone (8 * x + k)) 0 (N + 4)) k 0 = true from rfl, Bool.and_true]
    | succ m ih =>
      intro k fu b hk hf
      obtain ⟨fu, rfl⟩ : ∃ q, fu = q + 1 := ⟨fu - 1, by omega⟩
      have i0 := ih (k + 1) fu false (by omega) (by omega)
      have i1 := ih (k + 1) fu true (by omega) (by omega)
      rw [zb_f] at i0
      rw [zb_t] at i1
      simp only [f_X11_areAtMost_L69, lt_d, jn_d]
      rw [rd_n ha (by omega), hv, if_neg (nI_ge (by omega) (by omega)), aF_s, nI_1, nI_m6, nI_add]
      cases b with
      | false => rw [zb_f, if_pos rfl, i0]; rfl
      | true =>
        rw [zb_t, if_neg (by decide), r_isAtMost h1 (by omega) (show _ ≤ 9216 by omega) (show _ ≤ 384 by omega) (by decide) (by decide), o1_s]
        cases rLe (fun q => M m_versionVector (8 * (6 * a + k) + q)) (fun q => M m_mergedGone (8 * x + q)) 0 (N + 4) with
        | true => rw [zb_t, if_neg (by decide), i1]; rfl
        | false => rw [zb_f, if_pos rfl, i0]; rfl
  intro b
  exact H n 0 100 b (by omega) (by omega)
theorem r_areAtMost (h0 : M m_o 0 = nI N) (h1 : M m_o 1 = nI (N + 4)) (hN : N ≤ 4) (hx : x < 48) (h53 : M m_o 53 = G) (hv : ∀ s, s < N → bt G s = true → ∃ n, n ≤ 6 ∧ M m_versions (48 * s + x) = nI n) : f_X11_areAtMost M (nI x) = some (zb (rAm N M G x)) := by
  have H : ∀ m k fu (b : Bool), k + m = N → m < fu → f_X11_areAtMost_L4 M (nI x) fu (zb b) (nI k) = some (zb (b && aF (fun s => !(bt G s && nz (M m_has (48 * s + x))) || (rLe (fun k => M m_vector (8 * (48 * s + x) + k)) (fun k => M m_mergedGone (8 * x + k)) 0 (N + 4) && aF (fun i => rLe (fun k => M m_versionVector (8 * (6 * (48 * s + x) + i) + k)) (fun k => M m_mergedGone (8 * x + k)) 0 (N + 4)) 0 (M m_versions (48 * s + x)).toNatClampNeg)) k m)) := by
    intro m
    induction m with
    | zero =>
      intro k fu b hk hf
      obtain ⟨fu, rfl⟩ : ∃ q, fu = q + 1 := ⟨fu - 1, by omega⟩
      simp only [f_X11_areAtMost_L4, lt_d]
      rw [h0, if_pos (nI_le (by omega) (by omega)), gz_b]
      simp [aF]
    | succ m ih =>
      intro k fu b hk hf
      obtain ⟨fu, rfl⟩ : ∃ q, fu = q + 1 := ⟨fu - 1, by omega⟩
      have ihb : ∀ b, _ := fun b => ih (k + 1) fu b (by omega) (by omega)
      have i0 := ihb false
      have i1 := ihb true
      rw [zb_f] at i0
      rw [zb_t] at i1
      simp only [f_X11_areAtMost_L4, lt_d, jn_d]
      rw [h0, if_neg (nI_ge (by omega) (by omega)), r_isOf h53 (by omega), o1_s, aF_s, nI_1, nI_m48, nI_add]
      cases hb : bt G k with
      | false => rw [zb_f, if_pos rfl, ihb]; rfl
      | true =>
        obtain ⟨n, n6, hn⟩ := hv k (by omega) hb
        rw [zb_t, if_neg (by decide), rd_n (by omega) (by omega)]
        by_cases hh : M m_has (48 * k + x) = 0
        · rw [if_pos hh, ihb, hh]; rfl
        · rw [if_neg hh, show nz (M m_has (48 * k + x)) = true from (nz_t _).mpr hh, hn, nI_clamp (by omega)]
          have L0 := r_amL69 (J := fun b11 => f_X11_areAtMost_L4 M (nI x) fu b11 (nI (k + 1))) (a2 := nI k) h1 hN hx (show 48 * k + x < 192 by omega) hn n6 false
          have L1 := r_amL69 (J := fun b11 => f_X11_areAtMost_L4 M (nI x) fu b11 (nI (k + 1))) (a2 := nI k) h1 hN hx (show 48 * k + x < 192 by omega) hn n6 true
          rw [zb_f] at L0
          rw [zb_t] at L1
          cases b with
          | false =>
            rw [zb_f, if_pos rfl]
            refine L0.trans ?_
            rw [Bool.false_and, zb_f, i0]; rfl
          | true =>
            rw [zb_t, if_neg (by decide), r_isAtMost h1 (by omega) (show _ ≤ 1536 by omega) (show _ ≤ 384 by omega) (by decide) (by decide), o1_s]
            cases rLe (fun q => M m_vector (8 * (48 * k + x) + q)) (fun q => M m_mergedGone (8 * x + q)) 0 (N + 4) with
            | false =>
              rw [zb_f, if_pos rfl]
              refine L0.trans ?_
              rw [Bool.false_and, zb_f, i0]; rfl
            | true =>
              rw [zb_t, if_neg (by decide)]
              refine L1.trans ?_
              rw [ihb]; simp
  have := H N 0 100 true (by omega) (by omega)
  rw [zb_t, Bool.true_and] at this
  exact this
theorem r_children (h6 : M m_o 6 = nI (g + 1)) (hg : g ≤ 47) (hxg : x ≤ g) : f_X11_childrenCanGo M (nI x) = some (zb (aF (fun c => !decide (1 ≤ c ∧ c ≤ g ∧ M m_parent c = nI x) || rGoes M c) (x + 1) (g - x))) := by
  have H : ∀ m k fu (b : Bool), k + m = g + 1 → m < fu → f_X11_childrenCanGo_L6 M (nI x) fu (zb b) (nI k) = some (zb (b && aF (fun c => !decide (1 ≤ c ∧ c ≤ g ∧ M m_parent c = nI x) || rGoes M c) k m)) := by
    intro m
    induction m with
    | zero =>
      intro k fu b hk hf
      obtain ⟨fu, rfl⟩ : ∃ q, fu = q + 1 := ⟨fu - 1, by omega⟩
      simp only [f_X11_childrenCanGo_L6, lt_d]
      rw [h6, if_pos (nI_le (by omega) (by omega)), gz_b]
      simp [aF]
    | succ m ih =>
      intro k fu b hk hf
      obtain ⟨fu, rfl⟩ : ∃ q, fu = q + 1 := ⟨fu - 1, by omega⟩
      have ihb : ∀ b, _ := fun b => ih (k + 1) fu b (by omega) (by omega)
      have i0 := ihb false
      have i1 := ihb true
      rw [zb_f] at i0
      rw [zb_t] at i1
      simp only [f_X11_childrenCanGo_L6, lt_d, jn_d]
      rw [h6, if_neg (nI_ge (by omega) (by omega)), r_isChild h6 hg (by omega), o1_s, aF_s, nI_1]
      cases hc : decide (1 ≤ k ∧ k ≤ g ∧ M m_parent k = nI x) with
      | false => rw [zb_f, if_pos rfl, ihb]; rfl
      | true =>
        rw [zb_t, if_neg (by decide)]
        cases b with
        | false => rw [zb_f, if_pos rfl, i0]; rfl
        | true =>
          rw [zb_t, if_neg (by decide), rd_n (by omega) (by omega)]
          have er : rGoes M k = if M m_someGone k = 0 then decide (M m_someThere k = 0) else !decide (M m_canGo k = 0) := rfl
          rw [er]
          by_cases e1 : M m_someGone k = 0
          · rw [if_pos e1, if_pos e1, rd_n (by omega) (by omega)]
            by_cases e2 : M m_someThere k = 0
            · rw [if_pos e2, decide_eq_true e2, i1]; rfl
            · rw [if_neg e2, decide_eq_false e2, i0]; rfl
          · rw [if_neg e1, if_neg e1, rd_n (by omega) (by omega)]
            by_cases e2 : M m_canGo k = 0
            · rw [if_pos e2, decide_eq_true e2, i0]; rfl
            · rw [if_neg e2, decide_eq_false e2, i1]; rfl
  have := H (g - x) (x + 1) 100 true (by omega) (by omega)
  rw [zb_t, Bool.true_and] at this
  unfold f_X11_childrenCanGo
  rw [lt_d, nI_1]
  exact this
end ZXB
