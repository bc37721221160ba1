/-! layer 2: every server of a group has just the candidates for versions -/
def rCv (N n : Nat) (M : gM) (a : Nat) : Nat → Nat → Bool := aF (fun i => decide (M m_versionValue (6 * a + i) = M m_candidateValue i) && (decide (M m_versionSize (6 * a + i) = M m_candidateSize i) && rEq (fun k => M m_versionVector (8 * (6 * a + i) + k)) (fun k => M m_candidateVector (8 * i + k)) 0 (N + 4)))
def rJv (N n : Nat) (G : Int32) (M : gM) (l y s : Nat) : Bool := !bt G s || (nz (M m_has (48 * s + y)) && (decide (M m_versions (48 * s + y) = nI n) && (rEq (fun k => M m_vector (8 * (48 * s + y) + k)) (fun k => M m_vector (8 * (48 * l + y) + k)) 0 (N + 4) && rCv N n M (48 * s + y) 0 n)))
section ZL
variable {N g B s o c d x y z T n m t l i j a b : Nat} {A E M M' X Mc Mr Mc' Mr' : gM} {row a3 : gI} {D P : Nat → Bool} {G pd v w nr a1 a2 a4 a5 : Int32} {f : Nat → Int32} {zz : lS}
theorem r_cv {J : Int32 → Option Int32} (hN : N ≤ 4) (h1 : M m_o 1 = nI (N + 4)) (h61 : M m_o 61 = nI n) (hn : n ≤ 24) (ha : a < 192) (h6 : n ≤ 6) : f_X11_areVersions_L100 M a1 a2 a4 (nI a) J 100 (1 : Int32) (0 : Int32) = J (zb (rCv N n M a 0 n)) := by
  have H : ∀ m k fu, k + m = n → m < fu → f_X11_areVersions_L100 M a1 a2 a4 (nI a) J fu (1 : Int32) (nI k) = J (zb (rCv N n M a k m)) := by
    intro m
    induction m with
    | zero =>
      intro k fu hk hf
      obtain ⟨fu, rfl⟩ : ∃ q, fu = q + 1 := ⟨fu - 1, by omega⟩
      simp only [f_X11_areVersions_L100, lt_d, one_0, if_false, h61]
      rw [if_pos (nI_le (by omega) (by omega))]
      rfl
    | succ m ih =>
      intro k fu hk hf
      obtain ⟨fu, rfl⟩ : ∃ q, fu = q + 1 := ⟨fu - 1, by omega⟩
      have ih' := ih (k + 1) fu (by omega) (by omega)
      have z0 : ∀ k', f_X11_areVersions_L100 M a1 a2 a4 (nI a) J fu (0 : Int32) k' = J 0 ∨ fu = 0 := fun k' => by
        cases fu with
        | zero => exact Or.inr rfl
        | succ fu => exact Or.inl (by simp only [f_X11_areVersions_L100]; rw [if_pos trivial])
      have z0' : f_X11_areVersions_L100 M a1 a2 a4 (nI a) J fu (0 : Int32) (nI (k + 1)) = J 0 := (z0 _).resolve_right (by omega)
      simp only [f_X11_areVersions_L100, lt_d, one_0, if_false, h61, jn_d, nI_m6, nI_add]
      rw [if_neg (nI_ge (by omega) (by omega)), rd_n (by omega) (by omega), rd_n (by omega) (by omega), nI_1, z0', ih', show rCv N n M a k (m + 1) = _ from aF_s k m]
      unfold rCv
      by_cases e1 : M m_versionValue (6 * a + k) = M m_candidateValue k
      · rw [if_pos e1, rd_n (by omega) (by omega), rd_n (by omega) (by omega), decide_eq_true e1, Bool.true_and]
        by_cases e2 : M m_versionSize (6 * a + k) = M m_candidateSize k
        · rw [if_pos e2, r_isSame h1 (by omega) (by show _ ≤ 9216; omega) (by show _ ≤ 192; omega) (by decide) (by decide), o1_s, decide_eq_true e2, Bool.true_and]
          cases rEq (fun q => M m_versionVector (8 * (6 * a + k) + q)) (fun q => M m_candidateVector (8 * k + q)) 0 (N + 4) with
          | true => rw [zb_t, if_neg (by decide), Bool.true_and]
          | false => rw [zb_f, if_pos rfl, Bool.false_and]; rfl
        · rw [if_neg e2, decide_eq_false e2]; rfl
      · rw [if_neg e1, decide_eq_false e1]; rfl
  exact H n 0 100 (by omega) (by omega)
theorem r_cv0 {J : Int32 → Option Int32} : f_X11_areVersions_L100 M a1 a2 a4 a5 J 100 (0 : Int32) (0 : Int32) = J 0 := by
  have H : ∀ fu, f_X11_areVersions_L100 M a1 a2 a4 a5 J (fu + 1) (0 : Int32) (0 : Int32) = J 0 := fun fu => by
    simp only [f_X11_areVersions_L100]
    rw [if_pos trivial]
  exact H 99
theorem r_areVersions (hN : N ≤ 4) (h0 : M m_o 0 = nI N) (h1 : M m_o 1 = nI (N + 4)) (h61 : M m_o 61 = nI n) (hn : n ≤ 24) (h53 : M m_o 53 = G) (hy : y < 48) (hs : s < N) (hb : bt G s = true) (hv : ∀ t, t < N → ∃ m, m ≤ 6 ∧ M m_versions (48 * t + y) = nI m) : f_X11_areVersions M (nI y) = some (zb (aF (rJv N n G M (lst N G) y) 0 N)) := by
  have hl := (lst_in hs hb).1
  have H : ∀ m k fu (b : Bool), k + m = N → m < fu → f_X11_areVersions_L18 M (nI y) (nI (48 * lst N G + y)) fu (zb b) (nI k) = some (zb (b && aF (rJv N n G M (lst N G) y) k m)) := by
    intro m
    induction m with
    | zero =>
      intro k fu b hk hf
      obtain ⟨fu, rfl⟩ : ∃ q, fu = q + 1 := ⟨fu - 1, by omega⟩
      simp only [f_X11_areVersions_L18, lt_d, h0]
      rw [if_pos (nI_le (by omega) (by omega)), gz_b, show aF (rJv N n G M (lst N G) y) k 0 = true from rfl, Bool.and_true]
    | succ m ih =>
      intro k fu b hk hf
      obtain ⟨fu, rfl⟩ : ∃ q, fu = q + 1 := ⟨fu - 1, by omega⟩
      have ihb := ih (k + 1) fu b (by omega) (by omega)
      have ih0 := ih (k + 1) fu false (by omega) (by omega)
      have ih1 : ∀ c : Bool, _ := fun c => ih (k + 1) fu c (by omega) (by omega)
      rw [zb_f] at ih0
      simp only [f_X11_areVersions_L18, lt_d, h0, jn_d, nI_m48, nI_add]
      rw [if_neg (nI_ge (by omega) (by omega)), r_isOf h53 (by omega), o1_s, aF_s, nI_1]
      unfold rJv at ihb ih0 ih1 ⊢
      cases hbk : bt G k with
      | false => rw [zb_f, if_pos rfl, ihb]; rfl
      | true =>
        rw [zb_t, if_neg (by decide)]
        cases b with
        | false => rw [zb_f, if_pos rfl, r_cv0, ih0]; rfl
        | true =>
          rw [zb_t, if_neg (by decide), rd_n (by omega) (by omega)]
          by_cases e1 : M m_has (48 * k + y) = 0
          · rw [if_pos e1, r_cv0, ih0, e1]; rfl
          · rw [if_neg e1, rd_n (by omega) (by omega), h61, show nz (M m_has (48 * k + y)) = true from by rw [nz_t]; exact e1]
            by_cases e2 : M m_versions (48 * k + y) = nI n
            · have h6 : n ≤ 6 := by
                obtain ⟨q, q6, hq⟩ := hv k (by omega)
                rw [e2, neq (by omega) (by omega)] at hq
                omega
              rw [if_pos e2, r_isSame h1 (by omega) (by show _ ≤ 1536; omega) (by show _ ≤ 1536; omega) (by decide) (by decide), o1_s, decide_eq_true e2]
              cases rEq (fun q => M m_vector (8 * (48 * k + y) + q)) (fun q => M m_vector (8 * (48 * lst N G + y) + q)) 0 (N + 4) with
              | false => rw [zb_f, if_pos rfl, r_cv0, ih0]; rfl
              | true =>
                rw [zb_t, if_neg (by decide), r_cv hN h1 h61 hn (by omega) h6, ih1]
                simp
            · rw [if_neg e2, r_cv0, ih0, decide_eq_false e2]; rfl
  have := H N 0 100 true (by omega) (by omega)
  unfold f_X11_areVersions
  rw [lt_d, h53, r_leastOf hN hs hb, o1_s, nI_m48, nI_add, lt_d]
  rw [zb_t, Bool.true_and] at this
  exact this
end ZL
