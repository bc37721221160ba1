section TD
variable {N g B s o c d x z T n t : Nat} {M M' Mc Mr Mc' Mr' : gM} {zz : lS} {v w a1 a2 a3 a4 : Int32}
theorem rEq_sym {f h : Nat → Int32} {n : Nat} : rEq f h 0 n = rEq h f 0 n := by
  rw [Bool.eq_iff_iff, rEq_iff, rEq_iff]
  exact ⟨fun q j a b => (q j a b).symm, fun q j a b => (q j a b).symm⟩
theorem rEq_t {f h : Nat → Int32} {n : Nat} (e : ∀ k, k < n → f k = h k) : rEq f h 0 n = true := by
  rw [rEq_iff]
  exact fun j _ b => e j (by omega)
theorem aF_t {p : Nat → Bool} {k m : Nat} (e : ∀ j, k ≤ j → j < k + m → p j = true) : aF p k m = true := (aF_iff m k).mpr e
/-- the entries of a directory at two servers -/
theorem kids_al (hN : N ≤ 4) (hs : s < N) (ht : t < N) (hog : o ≤ g) (R : Rel N g Mc Mr) (I : iCat g Mc) : aF (fun p => !decide (1 ≤ p ∧ p ≤ g ∧ Mr m_parent p = nI o) || (decide (Mr m_entry (48 * t + p) = Mr m_entry (48 * s + p)) && (!decide (Mr m_entry (48 * t + p) = 2) || rEq (fun k => Mr m_gone (8 * (48 * t + p) + k)) (fun k => Mr m_gone (8 * (48 * s + p) + k)) 0 (N + 4)))) 1 g = aF (fun p => !decide (Mc (2, 0, 0) p = nI o) || (decide (Mc (56, s, 0) p = Mc (56, t, 0) p) && rEq (Mc (58, s, p)) (Mc (58, t, p)) 0 (N + 4))) (o + 1) (g - o) := by
  have hg := I.1
  have hk : ∀ p, 1 ≤ p → p ≤ g → (!decide (1 ≤ p ∧ p ≤ g ∧ Mr m_parent p = nI o) || (decide (Mr m_entry (48 * t + p) = Mr m_entry (48 * s + p)) && (!decide (Mr m_entry (48 * t + p) = 2) || rEq (fun k => Mr m_gone (8 * (48 * t + p) + k)) (fun k => Mr m_gone (8 * (48 * s + p) + k)) 0 (N + 4)))) = (!decide (Mc (2, 0, 0) p = nI o) || (decide (Mc (56, s, 0) p = Mc (56, t, 0) p) && rEq (Mc (58, s, p)) (Mc (58, t, p)) 0 (N + 4))) := fun p p1 p2 => by
    have hp : p < 48 := by omega
    have b1 := (R.sv hs hp).b
    have b2 := (R.sv ht hp).b
    rw [(R.ct.2.2 p hp).1, b1.1, b2.1]
    by_cases e : Mr m_parent p = nI o
    · rw [decide_eq_true e, decide_eq_true ⟨p1, p2, e⟩]
      by_cases e2 : Mr m_entry (48 * s + p) = Mr m_entry (48 * t + p)
      · rw [decide_eq_true e2, decide_eq_true e2.symm]
        by_cases e3 : Mr m_entry (48 * t + p) = 2
        · rw [decide_eq_true e3, rEq_sym, rEq_congr (f' := Mc (58, s, p)) (g' := Mc (58, t, p)) (fun k hk => by rw [b1.2 k hk, if_pos (e2.trans e3)]) (fun k hk => by rw [b2.2 k hk, if_pos e3])]
          rfl
        · rw [decide_eq_false e3, rEq_t (f := Mc (58, s, p)) (h := Mc (58, t, p)) (fun k hk => by rw [b1.2 k hk, if_neg (fun z => e3 (e2.symm.trans z)), b2.2 k hk, if_neg e3])]
          rfl
      · rw [decide_eq_false e2, decide_eq_false (fun z => e2 z.symm)]
        rfl
    · rw [decide_eq_false e, decide_eq_false (fun z => e z.2.2)]
      rfl
  rw [Bool.eq_iff_iff, aF_iff, aF_iff]
  constructor
  · intro h p h1 h2
    rw [← hk p (by omega) (by omega)]
    exact h p (by omega) (by omega)
  · intro h p h1 h2
    rw [hk p h1 (by omega)]
    by_cases e : o + 1 ≤ p
    · exact h p e (by omega)
    · rw [decide_eq_false (fun z => by have := kid_gt I h1 (by omega) (by omega) z; omega)]
      rfl
theorem dir_eq (hN : N ≤ 4) (hs : s < N) (ht : t < N) (hog : o ≤ g) (R : Rel N g Mc Mr) (I : JInv N g Mc) (h1 : Mc (51, s, 0) o = 1) (h2 : Mc (51, t, 0) o = 1) (hd : Mc (4, 0, 0) o = 1) : cSl N g Mc s t o = rLk N g Mr t s o := by
  have hg := I.1.1
  have ho : o < 48 := by omega
  have a1 := (R.sv hs ho).a
  have a2 := (R.sv ht ho).a
  have hdr : ¬ Mr m_isDirectory o = 0 := by rw [← (R.ct.2.2 o ho).2.2, hd]; decide
  obtain ⟨-, n0, n1, n2, n3, -⟩ := I.2.2.2.1 s hs o ho
  obtain ⟨-, m0, m1, m2, m3, -⟩ := I.2.2.2.1 t ht o ho
  have n00 : n0 = 0 := by
    rcases Nat.eq_zero_or_pos n0 with e | e
    · exact e
    · have := (n3 (by omega)).2.1; rw [hd] at this; exact absurd this (by decide)
  have m00 : m0 = 0 := by
    rcases Nat.eq_zero_or_pos m0 with e | e
    · exact e
    · have := (m3 (by omega)).2.1; rw [hd] at this; exact absurd this (by decide)
  subst n00 m00
  unfold cSl rLk cCl
  rw [h1, h2, a1.2.1, a2.2.1, if_pos (Or.inr hdr), if_pos (Or.inr hdr), a1.2.2.1, a2.2.2.1, if_pos (Or.inr hdr), if_pos (Or.inr hdr), n2, m2, ← a1.1, ← a2.1, h1, h2, kids_al hN hs ht hog R I.1, rEq_sym (f := fun k => Mr m_vector (8 * (48 * t + o) + k)), rEq_congr (f := fun k => Mr m_vector (8 * (48 * s + o) + k)) (f' := Mc (55, s, o)) (g' := Mc (55, t, o)) (fun k hk => (R.row hs ho (by rw [h1]; decide) hk).symm) (fun k hk => (R.row ht ho (by rw [h2]; decide) hk).symm)]
  simp [nz, cVl, nI_clamp, aF]
/-- the versions of a file at two servers -/
def rVl (N : Nat) (M : gM) (a b : Nat) : Nat → Nat → Bool := aF (fun i => decide (M m_versionValue (6 * a + i) = M m_versionValue (6 * b + i)) && (decide (M m_versionSize (6 * a + i) = M m_versionSize (6 * b + i)) && rEq (fun k => M m_versionVector (8 * (6 * a + i) + k)) (fun k => M m_versionVector (8 * (6 * b + i) + k)) 0 (N + 4)))
def rAk (N g : Nat) (M : gM) (s t o n : Nat) : Bool := if M m_has (48 * s + o) = 0 ∨ M m_has (48 * t + o) = 0 then decide (M m_has (48 * s + o) = M m_has (48 * t + o)) else if M m_isDirectory o = 0 then (decide (M m_value (48 * s + o) = M m_value (48 * t + o)) && (decide (M m_size (48 * s + o) = M m_size (48 * t + o)) && (decide (M m_versions (48 * s + o) = M m_versions (48 * t + o)) && rEq (fun k => M m_vector (8 * (48 * s + o) + k)) (fun k => M m_vector (8 * (48 * t + o) + k)) 0 (N + 4)))) && rVl N M (48 * s + o) (48 * t + o) 0 n else rLk N g M s t o
theorem r_isAlike (hN : N ≤ 4) (h1 : M m_o 1 = nI (N + 4)) (h6 : M m_o 6 = nI (g + 1)) (hg : g ≤ 47) (hs : s < 4) (ht : t < 4) (ho : o < 48) (hn : M m_versions (48 * s + o) = nI n) (n6 : n ≤ 6) : f_X11_isAlike M (nI s) (nI t) (nI o) = some (zb (rAk N g M s t o n)) := by
  have H : ∀ J36 m k fu b, k + m = n → m < fu → f_X11_isAlike_L156 M (nI (48 * s + o)) (nI (48 * t + o)) J36 fu (zb b) (nI k) = some (zb (b && rVl N M (48 * s + o) (48 * t + o) k m)) := by
    intro J36 m
    induction m with
    | zero =>
      intro k fu b hk hf
      obtain ⟨fu, rfl⟩ : ∃ q, fu = q + 1 := ⟨fu - 1, by omega⟩
      simp only [f_X11_isAlike_L156]
      rw [rd_n (by omega) (by omega), hn, if_pos (nI_le (by omega) (by omega)), gz_b]
      cases b <;> rfl
    | succ m ih =>
      intro k fu b hk hf
      obtain ⟨fu, rfl⟩ : ∃ q, fu = q + 1 := ⟨fu - 1, by omega⟩
      simp only [f_X11_isAlike_L156, lt_d, jn_d, nI_m6, nI_add]
      rw [rd_n (by omega) (by omega), hn, if_neg (nI_ge (by omega) (by omega)), show rVl N M (48 * s + o) (48 * t + o) k (m + 1) = ((decide (M m_versionValue (6 * (48 * s + o) + k) = M m_versionValue (6 * (48 * t + o) + k)) && (decide (M m_versionSize (6 * (48 * s + o) + k) = M m_versionSize (6 * (48 * t + o) + k)) && rEq (fun q => M m_versionVector (8 * (6 * (48 * s + o) + k) + q)) (fun q => M m_versionVector (8 * (6 * (48 * t + o) + k) + q)) 0 (N + 4))) && rVl N M (48 * s + o) (48 * t + o) (k + 1) m) from rfl]
      cases b with
      | false => rw [zb_f, if_pos rfl]; rfl
      | true =>
        have ih0 : f_X11_isAlike_L156 M (nI (48 * s + o)) (nI (48 * t + o)) J36 fu (0 : Int32) (nI (k + 1)) = some 0 := ih (k + 1) fu false (by omega) (by omega)
        have ih1 := ih (k + 1) fu true (by omega) (by omega)
        rw [zb_t] at ih1
        rw [zb_t, if_neg (by decide), rd_n (by omega) (by omega), rd_n (by omega) (by omega)]
        by_cases e1 : M m_versionValue (6 * (48 * s + o) + k) = M m_versionValue (6 * (48 * t + o) + k)
        · rw [if_pos e1, rd_n (by omega) (by omega), rd_n (by omega) (by omega), decide_eq_true e1]
          by_cases e2 : M m_versionSize (6 * (48 * s + o) + k) = M m_versionSize (6 * (48 * t + o) + k)
          · rw [if_pos e2, r_isSame h1 (by omega) (by show _ ≤ 9216; omega) (by show _ ≤ 9216; omega) (by decide) (by decide), o1_s, decide_eq_true e2]
            cases rEq (fun q => M m_versionVector (8 * (6 * (48 * s + o) + k) + q)) (fun q => M m_versionVector (8 * (6 * (48 * t + o) + k) + q)) 0 (N + 4) with
            | false => rw [zb_f, if_pos rfl, nI_1, ih0]; rfl
            | true => rw [zb_t, if_neg (by decide), nI_1, ih1]; rfl
          · rw [if_neg e2, nI_1, ih0, decide_eq_false e2]; rfl
        · rw [if_neg e1, nI_1, ih0, decide_eq_false e1]; rfl
  have H0 : ∀ J36, f_X11_isAlike_L156 M (nI (48 * s + o)) (nI (48 * t + o)) J36 100 (0 : Int32) (0 : Int32) = some 0 := fun J36 => H J36 n 0 100 false (by omega) (by omega)
  have H1 : ∀ J36, f_X11_isAlike_L156 M (nI (48 * s + o)) (nI (48 * t + o)) J36 100 (1 : Int32) (0 : Int32) = some (zb (rVl N M (48 * s + o) (48 * t + o) 0 n)) := fun J36 => H J36 n 0 100 true (by omega) (by omega)
  unfold f_X11_isAlike rAk
  simp only [lt_d, jn_d, nI_m48, nI_add]
  rw [rd_n (by omega) (by omega)]
  by_cases e1 : M m_has (48 * s + o) = 0
  · rw [if_pos e1, rd_n (by omega) (by omega), rd_n (by omega) (by omega), if_pos (Or.inl e1)]
    by_cases e : M m_has (48 * s + o) = M m_has (48 * t + o)
    · rw [if_pos e, decide_eq_true e]; rfl
    · rw [if_neg e, decide_eq_false e]; rfl
  · rw [if_neg e1, rd_n (by omega) (by omega)]
    by_cases e2 : M m_has (48 * t + o) = 0
    · rw [if_pos e2, rd_n (by omega) (by omega), rd_n (by omega) (by omega), if_pos (Or.inr e2)]
      by_cases e : M m_has (48 * s + o) = M m_has (48 * t + o)
      · rw [if_pos e, decide_eq_true e]; rfl
      · rw [if_neg e, decide_eq_false e]; rfl
    · have hnn : ¬ (M m_has (48 * s + o) = 0 ∨ M m_has (48 * t + o) = 0) := fun z => z.elim e1 e2
      rw [if_neg e2, rd_n ho (by omega), if_neg hnn]
      by_cases e3 : M m_isDirectory o = 0
      · rw [if_pos e3, if_pos e3, rd_n (by omega) (by omega), rd_n (by omega) (by omega)]
        by_cases e4 : M m_value (48 * s + o) = M m_value (48 * t + o)
        · rw [if_pos e4, rd_n (by omega) (by omega), rd_n (by omega) (by omega), decide_eq_true e4]
          by_cases e5 : M m_size (48 * s + o) = M m_size (48 * t + o)
          · rw [if_pos e5, rd_n (by omega) (by omega), rd_n (by omega) (by omega), decide_eq_true e5]
            by_cases e6 : M m_versions (48 * s + o) = M m_versions (48 * t + o)
            · rw [if_pos e6, r_isSame h1 (by omega) (by show _ ≤ 1536; omega) (by show _ ≤ 1536; omega) (by decide) (by decide), o1_s, decide_eq_true e6]
              cases rEq (fun k => M m_vector (8 * (48 * s + o) + k)) (fun k => M m_vector (8 * (48 * t + o) + k)) 0 (N + 4) with
              | false => rw [zb_f, if_pos rfl, H0]; rfl
              | true => rw [zb_t, if_neg (by decide), H1]; rfl
            · rw [if_neg e6, H0, decide_eq_false e6]; rfl
          · rw [if_neg e5, H0, decide_eq_false e5]; rfl
        · rw [if_neg e4, H0, decide_eq_false e4]; rfl
      · rw [if_neg e3, if_neg e3, r_isLike hN h1 h6 hg hs ht ho, o1_s, gz_b]
theorem ali_eq (hN : N ≤ 4) (hs : s < N) (ht : t < N) (hog : o ≤ g) (R : Rel N g Mc Mr) (I : JInv N g Mc) (hn : Mc (60, 48 * t + o, 0) 3 = nI n) (n6 : n ≤ 6) : cSl N g Mc s t o = rAk N g Mr t s o n := by
  have hg := I.1.1
  have ho : o < 48 := by omega
  have a1 := (R.sv hs ho).a
  have a2 := (R.sv ht ho).a
  obtain ⟨-, n0, n1, n2, n3, -⟩ := I.2.2.2.1 s hs o ho
  obtain ⟨-, m0, m1, m2, m3, -⟩ := I.2.2.2.1 t ht o ho
  have em : m0 = n := by rw [hn, neq (by omega) (by omega)] at m2; exact m2.symm
  subst em
  have kd := I.2.2.1 s hs o ho
  have kt := I.2.2.1 t ht o ho
  by_cases h1 : Mc (51, s, 0) o = 0
  · by_cases h2 : Mc (51, t, 0) o = 0
    · -- neither holds it
      have n00 : n0 = 0 := by
        rcases Nat.eq_zero_or_pos n0 with e | e
        · exact e
        · have := (n3 (by omega)).1; rw [h1] at this; exact absurd this (by decide)
      have m00 : m0 = 0 := by
        rcases Nat.eq_zero_or_pos m0 with e | e
        · exact e
        · have := (m3 (by omega)).1; rw [h2] at this; exact absurd this (by decide)
      subst n00 m00
      have r1 : Mr m_has (48 * s + o) = 0 := by rw [← a1.1]; exact h1
      have r2 : Mr m_has (48 * t + o) = 0 := by rw [← a2.1]; exact h2
      unfold rAk cSl cCl
      rw [if_pos (Or.inl r2), r1, r2, h1, h2, a1.2.1, a2.2.1, if_pos (Or.inl r1), if_pos (Or.inl r2), a1.2.2.1, a2.2.2.1, if_pos (Or.inl r1), if_pos (Or.inl r2), n2, m2, rEq_t (f := Mc (55, s, o)) (h := Mc (55, t, o)) (fun k hk => by rw [a1.2.2.2 k hk, a2.2.2.2 k hk, if_pos r1, if_pos r2]), aF_t (p := fun p => !decide (Mc (2, 0, 0) p = nI o) || (decide (Mc (56, s, 0) p = Mc (56, t, 0) p) && rEq (Mc (58, s, p)) (Mc (58, t, p)) 0 (N + 4))) (fun p p1 p2 => ?_)]
      · simp [cVl, nI_clamp, aF]
      · by_cases e : Mc (2, 0, 0) p = nI o
        · have hp : p < 48 := by omega
          have z1 : Mc (56, s, 0) p = 0 := by
            by_cases q : Mc (56, s, 0) p = 0
            · exact q
            · have := ((I.2.2.1 s hs p hp).2.2.2.2 o ho (by omega) e).2 q; rw [h1] at this; exact absurd this (by decide)
          have z2 : Mc (56, t, 0) p = 0 := by
            by_cases q : Mc (56, t, 0) p = 0
            · exact q
            · have := ((I.2.2.1 t ht p hp).2.2.2.2 o ho (by omega) e).2 q; rw [h2] at this; exact absurd this (by decide)
          have b1 := (R.sv hs hp).b
          have b2 := (R.sv ht hp).b
          rw [z1, z2, rEq_t (f := Mc (58, s, p)) (h := Mc (58, t, p)) (fun k hk => by rw [b1.2 k hk, b2.2 k hk, ← b1.1, ← b2.1, z1, z2, if_neg (by decide), if_neg (by decide)])]
          simp
        · rw [decide_eq_false e]; rfl
    · have r2 : ¬ Mr m_has (48 * t + o) = Mr m_has (48 * s + o) := by rw [← a2.1, ← a1.1, h1]; exact h2
      unfold rAk cSl cCl
      rw [if_pos (Or.inr (by rw [← a1.1]; exact h1)), decide_eq_false r2, decide_eq_false (show ¬ Mc (51, s, 0) o = Mc (51, t, 0) o by rw [h1]; exact fun z => h2 z.symm)]
      rfl
  · by_cases h2 : Mc (51, t, 0) o = 0
    · have r2 : ¬ Mr m_has (48 * t + o) = Mr m_has (48 * s + o) := by rw [← a2.1, ← a1.1, h2]; exact fun z => h1 z.symm
      unfold rAk cSl cCl
      rw [if_pos (Or.inl (by rw [← a2.1]; exact h2)), decide_eq_false r2, decide_eq_false (show ¬ Mc (51, s, 0) o = Mc (51, t, 0) o by rw [h2]; exact h1)]
      rfl
    · have h1' : Mc (51, s, 0) o = 1 := kd.1.resolve_left h1
      have h2' : Mc (51, t, 0) o = 1 := kt.1.resolve_left h2
      have r1 : ¬ Mr m_has (48 * s + o) = 0 := by rw [← a1.1]; exact h1
      have r2 : ¬ Mr m_has (48 * t + o) = 0 := by rw [← a2.1]; exact h2
      have hdd := (R.ct.2.2 o ho).2.2
      rcases I.1.2.2.1 o ho with hf | hf
      · -- a file
        have hfr : Mr m_isDirectory o = 0 := by rw [← hdd]; exact hf
        unfold rAk
        rw [if_neg (fun z => z.elim r2 r1), if_pos hfr]
        unfold cSl cCl
        have d1 := (R.sv hs ho).dd
        have d2 := (R.sv ht ho).dd
        rw [h1', h2', a1.2.1, a2.2.1, if_neg (fun z => z.elim r1 (fun z => z hfr)), if_neg (fun z => z.elim r2 (fun z => z hfr)), a1.2.2.1, a2.2.2.1, if_neg (fun z => z.elim r1 (fun z => z hfr)), if_neg (fun z => z.elim r2 (fun z => z hfr)), aF_t (p := fun p => !decide (Mc (2, 0, 0) p = nI o) || (decide (Mc (56, s, 0) p = Mc (56, t, 0) p) && rEq (Mc (58, s, p)) (Mc (58, t, p)) 0 (N + 4))) (fun p p1 p2 => by
          obtain ⟨q, q1, q2, q3⟩ := I.1.2.2.2 p (by omega) (by omega)
          rw [decide_eq_false (fun z => by
            rw [q2, neq (by omega) (by omega)] at z
            subst z
            rw [hf] at q3; exact absurd q3 (by decide))]
          rfl), rEq_sym (f := fun k => Mr m_vector (8 * (48 * t + o) + k)), rEq_congr (f := fun k => Mr m_vector (8 * (48 * s + o) + k)) (f' := Mc (55, s, o)) (g' := Mc (55, t, o)) (fun k hk => (R.row hs ho h1 hk).symm) (fun k hk => (R.row ht ho h2 hk).symm), d1.1, d2.1]
        have hmv : Mr m_versions (48 * t + o) = nI m0 := by rw [← d2.1]; exact m2
        have hnv : Mr m_versions (48 * s + o) = nI n0 := by rw [← d1.1]; exact n2
        rw [hmv, hnv, nI_clamp (by omega)]
        by_cases en : n0 = m0
        · subst en
          have ev : cVl N Mc (48 * s + o) (48 * t + o) 0 n0 = rVl N Mr (48 * t + o) (48 * s + o) 0 n0 := aF_congr n0 0 (fun i _ hi => by
            obtain ⟨x1, x2, x3⟩ := d1.2 i (by omega) (by rw [hnv]; exact nI_lt (by omega) (by omega))
            obtain ⟨y1, y2, y3⟩ := d2.2 i (by omega) (by rw [hmv]; exact nI_lt (by omega) (by omega))
            rw [x1, x2, y1, y2, rEq_sym (f := Mc (64, 48 * s + o, i)), rEq_congr (f' := fun k => Mr m_versionVector (8 * (6 * (48 * t + o) + i) + k)) (g' := fun k => Mr m_versionVector (8 * (6 * (48 * s + o) + i) + k)) y3 x3]
            congr 1
            · exact decide_eq_decide.mpr ⟨Eq.symm, Eq.symm⟩
            · congr 1
              exact decide_eq_decide.mpr ⟨Eq.symm, Eq.symm⟩)
          rw [ev, show decide (Mr m_value (48 * s + o) = Mr m_value (48 * t + o)) = decide (Mr m_value (48 * t + o) = Mr m_value (48 * s + o)) from decide_eq_decide.mpr ⟨Eq.symm, Eq.symm⟩, show decide (Mr m_size (48 * s + o) = Mr m_size (48 * t + o)) = decide (Mr m_size (48 * t + o) = Mr m_size (48 * s + o)) from decide_eq_decide.mpr ⟨Eq.symm, Eq.symm⟩]
          cases decide (Mr m_value (48 * t + o) = Mr m_value (48 * s + o)) <;> cases decide (Mr m_size (48 * t + o) = Mr m_size (48 * s + o)) <;> cases rEq (Mc (55, s, o)) (Mc (55, t, o)) 0 (N + 4) <;> simp
        · rw [decide_eq_false (show ¬ nI n0 = nI m0 by rw [neq (by omega) (by omega)]; exact en), decide_eq_false (show ¬ nI m0 = nI n0 by rw [neq (by omega) (by omega)]; exact fun z => en z.symm)]
          simp
      · unfold rAk
        rw [if_neg (fun z => z.elim r2 r1), if_neg (by rw [← hdd, hf]; decide)]
        exact dir_eq hN hs ht hog R I h1' h2' hf
theorem lsF_snoc {f : Nat → Bool} {k : Nat} : lsF f 0 (k + 1) = if lsF f 0 k < k then lsF f 0 k else if f k then k else k + 1 := by
  obtain ⟨⟨-, b1⟩, c1, d1⟩ := lsF_spec (f := f) k 0
  obtain ⟨⟨-, b2⟩, c2, d2⟩ := lsF_spec (f := f) (k + 1) 0
  have tri : ∀ a, a < k + 1 → f a = true → (∀ j, j < a → f j = false) → lsF f 0 (k + 1) = a := fun a h1 h2 h3 => by
    rcases Nat.lt_trichotomy (lsF f 0 (k + 1)) a with h | h | h
    · have := c2 (by omega); rw [h3 _ h] at this; exact absurd this (by decide)
    · exact h
    · have := d2 a (by omega) h; rw [h2] at this; exact absurd this (by decide)
  by_cases e : lsF f 0 k < k
  · rw [if_pos e]
    exact tri _ (by omega) (c1 (by omega)) (fun j hj => d1 j (by omega) hj)
  · rw [if_neg e]
    have hno : ∀ j, j < k → f j = false := fun j hj => d1 j (by omega) (by omega)
    by_cases e2 : f k = true
    · rw [if_pos e2]; exact tri k (by omega) e2 hno
    · rw [if_neg e2]
      rcases Nat.lt_or_ge (lsF f 0 (k + 1)) (k + 1) with h | h
      · have h1 := c2 (by omega)
        rcases Nat.lt_or_ge (lsF f 0 (k + 1)) k with h' | h'
        · rw [hno _ h'] at h1; exact absurd h1 (by decide)
        · rw [show lsF f 0 (k + 1) = k by omega] at h1; exact absurd h1 e2
      · omega
theorem r_firstUp {J : Int32 → Option Int32} : ∀ (k fu : Nat) (b : Int32), k ≤ 4 → k < fu → f_X11_areAlike_L9 M J fu b (nI k - 1) = J (if lsF (fun s => nz (M m_up s)) 0 k < k then nI (lsF (fun s => nz (M m_up s)) 0 k) else b) := by
  intro k
  induction k with
  | zero =>
    intro fu b _ hf
    obtain ⟨fu, rfl⟩ : ∃ q, fu = q + 1 := ⟨fu - 1, by omega⟩
    simp only [f_X11_areAlike_L9]
    rw [if_pos (by decide), if_neg (by omega)]
  | succ k ih =>
    intro fu b hk hf
    obtain ⟨fu, rfl⟩ : ∃ q, fu = q + 1 := ⟨fu - 1, by omega⟩
    have e0 : nI (k + 1) - (1 : Int32) = nI k := nI_s1 (by omega)
    have e1 : nI k + (-1 : Int32) = nI k - 1 := by rw [Int32.sub_eq_add_neg]
    simp only [f_X11_areAlike_L9, lt_d, jn_d, e0, e1]
    rw [if_neg (nI_pos (by omega)), rd_n (by omega) (by omega), lsF_snoc]
    by_cases e : M m_up k = 0
    · rw [if_pos e, ih fu b (by omega) (by omega)]
      by_cases h : lsF (fun s => nz (M m_up s)) 0 k < k
      · rw [if_pos h, if_pos h, if_pos (by omega)]
      · rw [if_neg h, if_neg h, if_neg (show ¬ nz (M m_up k) = true by rw [e]; decide), if_neg (by omega)]
    · rw [if_neg e, ih fu _ (by omega) (by omega)]
      by_cases h : lsF (fun s => nz (M m_up s)) 0 k < k
      · rw [if_pos h, if_pos h, if_pos (by omega)]
      · rw [if_neg h, if_neg h, if_pos (show nz (M m_up k) = true by unfold nz; rw [decide_eq_true e]), if_pos (by omega)]
theorem r_areAlike {f : Nat} (hN : 1 ≤ N ∧ N ≤ 4) (h0 : M m_o 0 = nI N) (h1 : M m_o 1 = nI (N + 4)) (h6 : M m_o 6 = nI (g + 1)) (hg : g ≤ 47) (hf : f = lsF (fun s => nz (M m_up s)) 0 N) (hv : ∀ o, o < 48 → f < N → ∃ n, n ≤ 6 ∧ M m_versions (48 * f + o) = nI n) : f_X11_areAlike M = some (zb (aF (fun s => !nz (M m_up s) || aF (fun o => rAk N g M f s o (M m_versions (48 * f + o)).toNatClampNeg) 0 (g + 1)) 0 N)) := by
  have hfin : ∀ s, s < N → nz (M m_up s) = true → f < N := fun s hs hu => by
    obtain ⟨⟨-, b1⟩, c1, d1⟩ := lsF_spec (f := fun s => nz (M m_up s)) N 0
    rcases Nat.lt_or_ge s (lsF (fun s => nz (M m_up s)) 0 N) with h | h
    · rw [d1 s (by omega) h] at hu; exact absurd hu (by decide)
    · rw [hf]; omega
  obtain ⟨b3, hb3⟩ : ∃ b3 : Int32, b3 = (if f < N then nI f else -1) := ⟨_, rfl⟩
  have inner : ∀ J s m k fu b, s < N → k + m = g + 1 → m < fu → f_X11_areAlike_L49 M b3 (nI s) J fu (zb b) (nI k) = J (zb (b && (!nz (M m_up s) || aF (fun o => rAk N g M f s o (M m_versions (48 * f + o)).toNatClampNeg) k m))) := by
    intro J s m
    induction m with
    | zero =>
      intro k fu b hs hk hfu
      obtain ⟨fu, rfl⟩ : ∃ q, fu = q + 1 := ⟨fu - 1, by omega⟩
      simp only [f_X11_areAlike_L49, lt_d, h6]
      rw [if_pos (nI_le (by omega) (by omega)), show aF (fun o => rAk N g M f s o (M m_versions (48 * f + o)).toNatClampNeg) k 0 = true from rfl, Bool.or_true, Bool.and_true]
    | succ m ih =>
      intro k fu b hs hk hfu
      obtain ⟨fu, rfl⟩ : ∃ q, fu = q + 1 := ⟨fu - 1, by omega⟩
      simp only [f_X11_areAlike_L49, lt_d, h6]
      rw [if_neg (nI_ge (by omega) (by omega)), rd_n (by omega) (by omega)]
      by_cases e : M m_up s = 0
      · rw [if_pos e, show nz (M m_up s) = false by rw [e]; rfl]
        simp
      · have hu : nz (M m_up s) = true := by unfold nz; rw [decide_eq_true e]
        have hfN := hfin s hs hu
        obtain ⟨n, n6, hn⟩ := hv k (by omega) hfN
        rw [if_neg e, hu, Bool.not_true, Bool.false_or, aF_s]
        cases b with
        | false => rw [zb_f, if_pos rfl]; rfl
        | true =>
          rw [zb_t, if_neg (by decide), hb3, if_pos hfN, r_isAlike hN.2 h1 h6 hg (by omega) (by omega) (by omega) hn n6, o1_s, nI_1, hn, nI_clamp (by omega)]
          rw [hb3, if_pos hfN] at ih
          rw [ih (k + 1) fu _ hs (by omega) (by omega), hu, Bool.not_true, Bool.false_or, Bool.true_and]
  have outer : ∀ m k fu b, k + m = N → m < fu → f_X11_areAlike_L38 M b3 fu (zb b) (nI k) = some (zb (b && aF (fun s => !nz (M m_up s) || aF (fun o => rAk N g M f s o (M m_versions (48 * f + o)).toNatClampNeg) 0 (g + 1)) k m)) := by
    intro m
    induction m with
    | zero =>
      intro k fu b hk hfu
      obtain ⟨fu, rfl⟩ : ∃ q, fu = q + 1 := ⟨fu - 1, by omega⟩
      simp only [f_X11_areAlike_L38, lt_d, h0]
      rw [if_pos (nI_le (by omega) (by omega)), gz_b]
      cases b <;> rfl
    | succ m ih =>
      intro k fu b hk hfu
      obtain ⟨fu, rfl⟩ : ∃ q, fu = q + 1 := ⟨fu - 1, by omega⟩
      simp only [f_X11_areAlike_L38, lt_d, jn_d, h0]
      rw [if_neg (nI_ge (by omega) (by omega)), show f_X11_areAlike_L49 M b3 (nI k) (fun b11 => f_X11_areAlike_L38 M b3 fu b11 (nI k + 1)) 100 (zb b) (0 : Int32) = _ from inner _ k (g + 1) 0 100 b (by omega) (by omega) (by omega), nI_1, ih (k + 1) fu _ (by omega) (by omega), Bool.and_assoc]
      rfl
  unfold f_X11_areAlike
  simp only [lt_d, jn_d, h0]
  rw [r_firstUp N 100 (-1) hN.2 (by omega), ← hf, ← hb3]
  exact outer N 0 100 true (by omega) (by omega)
theorem told7 (hN : 1 ≤ N ∧ N ≤ 4) (R : Rel N g Mc Mr) (I : Inv N g Mc) : ∃ b : Bool, f_X6_allAlike N Mc (Mc (5, 0, 0) 2) = some (zb b) ∧ f_X11_areAlike Mr = some (zb b) := by
  have hg := I.1.1
  have hup : ∀ s, s < N → bt (Mc (5, 0, 0) 2) s = nz (Mr m_up s) := fun s hs => by
    rw [R.2.2.1.1, bt_sS (by omega) (by omega), decide_eq_true hs, Bool.true_and]
  have hls : lsF (bt (Mc (5, 0, 0) 2)) 0 N = lsF (fun s => nz (Mr m_up s)) 0 N := lsF_congr N 0 (fun j _ hj => hup j (by omega))
  refine ⟨_, c_allAlike hN R.ct.1 hg (fun s hs o ho => by obtain ⟨-, n, n1, n2, -⟩ := I.2.2.2.1 s hs o ho; exact ⟨n, n1, n2⟩), ?_⟩
  rw [r_areAlike (f := lsF (fun s => nz (Mr m_up s)) 0 N) hN R.n0 R.n1 R.ct.2.1 hg rfl (fun o ho hf => by
    obtain ⟨-, n, n1, n2, -⟩ := I.2.2.2.1 _ hf o ho
    exact ⟨n, n1, by rw [← (R.sv hf ho).dd.1]; exact n2⟩)]
  congr 2
  rw [Bool.eq_iff_iff, aF_iff, aF_iff]
  have key : ∀ s o, s < N → o ≤ g → nz (Mr m_up s) = true → cSl N g Mc s (lst N (Mc (5, 0, 0) 2)) o = rAk N g Mr (lsF (fun s => nz (Mr m_up s)) 0 N) s o (Mr m_versions (48 * lsF (fun s => nz (Mr m_up s)) 0 N + o)).toNatClampNeg := fun s o hs ho hu => by
    have hb : bt (Mc (5, 0, 0) 2) s = true := by rw [hup s hs]; exact hu
    obtain ⟨l1, l2, l3⟩ := lst_in hs hb
    have el : lst N (Mc (5, 0, 0) 2) = lsF (fun s => nz (Mr m_up s)) 0 N := by
      have : lsF (bt (Mc (5, 0, 0) 2)) 0 N < N := by
        obtain ⟨⟨-, b1⟩, c1, d1⟩ := lsF_spec (f := bt (Mc (5, 0, 0) 2)) N 0
        rcases Nat.lt_or_ge s (lsF (bt (Mc (5, 0, 0) 2)) 0 N) with h | h
        · rw [d1 s (by omega) h] at hb; exact absurd hb (by decide)
        · omega
      unfold lst
      rw [if_pos this, hls]
    rw [← el]
    obtain ⟨-, n, n1, n2, -⟩ := I.2.2.2.1 _ l1 o (by omega)
    rw [← (R.sv l1 (show o < 48 by omega)).dd.1, n2, nI_clamp (by omega)]
    exact ali_eq hN.2 hs l1 ho R I.j n2 n1
  constructor
  · intro h o h1 h2
    rw [aF_iff]
    intro s s1 s2
    rw [hup s (by omega)]
    cases hu : nz (Mr m_up s) with
    | false => rfl
    | true =>
      have := h s (by omega) (by omega)
      rw [hu, Bool.not_true, Bool.false_or, aF_iff] at this
      rw [Bool.not_true, Bool.false_or, key s o (by omega) (by omega) hu]
      exact this o (by omega) (by omega)
  · intro h s s1 s2
    cases hu : nz (Mr m_up s) with
    | false => rfl
    | true =>
      rw [Bool.not_true, Bool.false_or, aF_iff]
      intro o o1 o2
      have := h o (by omega) (by omega)
      rw [aF_iff] at this
      have := this s (by omega) (by omega)
      rw [hup s (by omega), hu, Bool.not_true, Bool.false_or, key s o (by omega) (by omega) hu] at this
      exact this
theorem st_told (hN : 1 ≤ N ∧ N ≤ 4) (h : St N T zz.1 zz.2.1) : ∃ z1, s_told N zz a1 = some z1 ∧ St N (T + 1) z1.1 z1.2.1 := by
  obtain ⟨g, R, I, U, O⟩ := id h
  have hg := I.1.1
  have hS := h.thr (k := 1) hN.2 0
  rcases rng a1 8 (by omega) with ⟨k, hk, rfl⟩ | bad
  · obtain ⟨b, b1, b2⟩ := told7 hN (R.fr hN.2 (cf.rf _ _) ((cf.st (A := fun j q => j.1 = 0 ∧ q = 66) ⟨rfl, rfl⟩).mo (fun j q => by unfold rsc; omega)) : Rel N g zz.1 (gset zz.2.1 m_o 66 0)) I
    have hin := in_ok (M := zz.2.1) (n := 8) (hi := 7) hk (by omega) rfl
    have hck := c_checkWhat_ok (N := N) (M := zz.1) (n := 8) (hi := 7) hk (by omega) rfl
    have tl := R.2.2.2.2.2.2.2
    have tr : ∀ q, q ≠ 66 → gset zz.2.1 m_o 66 0 m_o q = zz.2.1 m_o q := fun q hq => by rw [gset_r, if_neg (fun z => hq z.2)]
    have c7 : k ≠ 0 → k ≠ 7 → f_X10_told N zz.1 (nI k) = some (0, zz.1 (9, 0, 0) k, zz.1) := fun k0 k7 => by
      unfold f_X10_told
      rw [hck, o1_s, if_pos rfl, if_neg (by rw [nI_z (by omega)]; exact k0), if_neg (by rw [show (7 : Int32) = nI 7 from rfl, neq (by omega) (by omega)]; exact k7), rd_n (by omega) (by omega)]
    rcases (show k = 0 ∨ k = 7 ∨ k = 1 ∨ k = 2 ∨ k = 3 ∨ k = 4 ∨ k = 5 ∨ k = 6 by omega) with rfl | rfl | rfl | rfl | rfl | rfl | rfl | rfl
    · have c1 : f_X10_told N zz.1 (nI 0) = some (0, nI g, zz.1) := by
        unfold f_X10_told
        rw [hck, o1_s, if_pos rfl, if_pos (by decide), lt_d, R.ct.1]
      have r1 : f_X11_told zz.2.1 (nI 0) = some (nI g, gset zz.2.1 m_o 66 0) := by
        unfold f_X11_told
        rw [hin, o1_s]
        simp only [jn_d, one_0, if_false, lt_d, g66, le_00, if_true]
        rw [if_neg (by decide), if_pos (by decide), tr 6 (by decide), R.ct.2.1, nI_s1 (by omega)]
        rfl
      exact q_told c1 r1 (g66 _ _) (by omega) (fun _ => rfl) hS
    · have c1 : f_X10_told N zz.1 (nI 7) = some (0, zb b, zz.1) := by
        unfold f_X10_told
        rw [hck, o1_s, if_pos rfl, if_neg (by decide), if_pos (by decide), lt_d, b1, o1_s]
        cases b <;> rfl
      have r1 : f_X11_told zz.2.1 (nI 7) = some (zb b, gset zz.2.1 m_o 66 0) := by
        unfold f_X11_told
        rw [hin, o1_s]
        simp only [jn_d, one_0, if_false, lt_d, g66, le_00, if_true]
        rw [if_pos (by decide), b2, o1_s]
        cases b <;> rfl
      exact q_told c1 r1 (g66 _ _) (by omega) (fun _ => rfl) hS
    · have r1 : f_X11_told zz.2.1 (nI 1) = some (zz.2.1 m_o 45, gset zz.2.1 m_o 66 0) := by
        unfold f_X11_told
        rw [hin, o1_s]
        simp only [jn_d, one_0, if_false, lt_d, g66, le_00, if_true]
        rw [if_neg (by decide), if_neg (by decide), if_pos (by decide), tr 45 (by decide)]
      exact q_told (c7 (by decide) (by decide)) r1 (g66 _ _) (by omega) (fun _ => tl 1 (by decide) (by decide)) hS
    · have r1 : f_X11_told zz.2.1 (nI 2) = some (zz.2.1 m_o 46, gset zz.2.1 m_o 66 0) := by
        unfold f_X11_told
        rw [hin, o1_s]
        simp only [jn_d, one_0, if_false, lt_d, g66, le_00, if_true]
        rw [if_neg (by decide), if_neg (by decide), if_neg (by decide), if_pos (by decide), tr 46 (by decide)]
      exact q_told (c7 (by decide) (by decide)) r1 (g66 _ _) (by omega) (fun _ => tl 2 (by decide) (by decide)) hS
    · have r1 : f_X11_told zz.2.1 (nI 3) = some (zz.2.1 m_o 47, gset zz.2.1 m_o 66 0) := by
        unfold f_X11_told
        rw [hin, o1_s]
        simp only [jn_d, one_0, if_false, lt_d, g66, le_00, if_true]
        rw [if_neg (by decide), if_neg (by decide), if_neg (by decide), if_neg (by decide), if_pos (by decide), tr 47 (by decide)]
      exact q_told (c7 (by decide) (by decide)) r1 (g66 _ _) (by omega) (fun _ => tl 3 (by decide) (by decide)) hS
    · have r1 : f_X11_told zz.2.1 (nI 4) = some (zz.2.1 m_o 48, gset zz.2.1 m_o 66 0) := by
        unfold f_X11_told
        rw [hin, o1_s]
        simp only [jn_d, one_0, if_false, lt_d, g66, le_00, if_true]
        rw [if_neg (by decide), if_neg (by decide), if_neg (by decide), if_neg (by decide), if_neg (by decide), if_pos (by decide), tr 48 (by decide)]
      exact q_told (c7 (by decide) (by decide)) r1 (g66 _ _) (by omega) (fun _ => tl 4 (by decide) (by decide)) hS
    · have r1 : f_X11_told zz.2.1 (nI 5) = some (zz.2.1 m_o 49, gset zz.2.1 m_o 66 0) := by
        unfold f_X11_told
        rw [hin, o1_s]
        simp only [jn_d, one_0, if_false, lt_d, g66, le_00, if_true]
        rw [if_neg (by decide), if_neg (by decide), if_neg (by decide), if_neg (by decide), if_neg (by decide), if_neg (by decide), if_pos (by decide), tr 49 (by decide)]
      exact q_told (c7 (by decide) (by decide)) r1 (g66 _ _) (by omega) (fun _ => tl 5 (by decide) (by decide)) hS
    · have r1 : f_X11_told zz.2.1 (nI 6) = some (zz.2.1 m_o 50, gset zz.2.1 m_o 66 0) := by
        unfold f_X11_told
        rw [hin, o1_s]
        simp only [jn_d, one_0, if_false, lt_d, g66, le_00, if_true]
        rw [if_neg (by decide), if_neg (by decide), if_neg (by decide), if_neg (by decide), if_neg (by decide), if_neg (by decide), if_neg (by decide), if_pos (by decide), tr 50 (by decide)]
      exact q_told (c7 (by decide) (by decide)) r1 (g66 _ _) (by omega) (fun _ => tl 6 (by decide) (by decide)) hS
  · have c1 : f_X10_told N zz.1 a1 = some (1, 0, zz.1) := by
      unfold f_X10_told
      rw [c_checkWhat_bad (n := 8) (hi := 7) bad (by omega) (by omega) rfl, o1_s, if_neg (by decide)]
    have r1 : f_X11_told zz.2.1 a1 = some (0, gset zz.2.1 m_o 66 1) := by
      unfold f_X11_told
      rw [in_bad (n := 8) (hi := 7) bad (by omega) (by omega) rfl, o1_s]
      simp only [jn_d, if_true, lt_d, g66, le_10, if_false]
    exact q_told c1 r1 (g66 _ _) (by omega) (fun h => absurd h (by decide)) (h.thr hN.2 1)
end TD
