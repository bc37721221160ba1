/-! layer 2: joinDirectory and mergeDirectory in step -/
section ZT
variable {N g B s o c d x y z T n m t l i j a b : Nat} {A E M M' X Mc Mr Mc' Mr' : gM} {row a3 : gI} {D P : Nat → Bool} {G pd v w nr a1 a2 a4 a5 : Int32} {f : Nat → Int32} {zz : lS}
theorem c_dirHead : ∃ J3 J2 : gM → Option gM, (∀ M, f_X4_joinDirectory N M (nI y) = o1 (f_X4_allHold N M (nI y)) (fun v2 => jn J3 (fun J24 => if v2 = 0 then J24 M else lt (M (13, 0, 0) 6) (fun v43 => o1 (f_X6_areAlike N M v43 (nI y)) (fun v45 => if v45 = 0 then J24 M else some M))))) ∧ (∀ M, J3 M = f_X4_joinDirectory_L28 N (nI y) J2 100 (nI y + (1 : Int32)) M) ∧ ∀ M5 M7 : gM, f_X4_raiseToAll N M5 (nI y) = some M7 → J2 M5 = f_X4_joinDirectory_L70 N (nI y) (fun M8 => lt (M8 (13, 0, 0) 6) (fun v9 => o1 (f_X6_countAll N M8 v9 (nI y)) (fun M11 => lt (M11 (13, 0, 0) 6) (fun v12 => o1 (f_X4_noteChange N M11 v12 (nI y)) (fun M14 => some M14))))) 100 (0 : Int32) M7 := by
  refine ⟨_, fun M5 => o1 (f_X4_raiseToAll N M5 (nI y)) (fun M7 => jn (fun M8 => lt (M8 (13, 0, 0) 6) (fun v9 => o1 (f_X6_countAll N M8 v9 (nI y)) (fun M11 => lt (M11 (13, 0, 0) 6) (fun v12 => o1 (f_X4_noteChange N M11 v12 (nI y)) (fun M14 => some M14))))) (fun J132 => f_X4_joinDirectory_L70 N (nI y) J132 100 (0 : Int32) M7)), fun M => rfl, fun M => ?_, fun M5 M7 h => ?_⟩
  · show lt _ (fun x4 => jn _ (fun J63 => f_X4_joinDirectory_L28 N (nI y) J63 100 x4 M)) = _
    rw [lt_d, jn_d]
  · show o1 (f_X4_raiseToAll N M5 (nI y)) (fun M7 => jn _ (fun J132 => f_X4_joinDirectory_L70 N (nI y) J132 100 (0 : Int32) M7)) = _
    rw [h, o1_s, jn_d]
theorem L28_bind {J : gM → Option gM} : ∀ (fu : Nat) (x : Int32) (M : gM), f_X4_joinDirectory_L28 N a1 J fu x M = o1 (f_X4_joinDirectory_L28 N a1 some fu x M) J := by
  intro fu
  induction fu with
  | zero => intro x M; rfl
  | succ fu ih =>
    intro x M
    simp only [f_X4_joinDirectory_L28, lt_d, jn_d]
    split
    · rfl
    · unfold rd
      split
      · dsimp only
        split
        · cases f_X4_joinEntry N M x with
          | none => rfl
          | some M2 => exact ih _ _
        · exact ih _ _
      · rfl
/-- what a directory's join changes in the class -/
def qC (M : gM) (g y : Nat) (j : gI) (q : Nat) : Prop := j.1 = 14 ∨ (j.1 = 22 ∧ q = y) ∨ (j = (13, 0, 0) ∧ q = 7) ∨ (j.1 = 32 ∧ q = y) ∨ (j.2.1 < 4 ∧ ((j.1 = 51 ∧ q = y) ∨ (j.1 = 55 ∧ j.2.2 = y) ∨ (j.1 = 56 ∧ ch M g y q) ∨ (j.1 = 58 ∧ ch M g y j.2.2)))
def qR (j : gI) (q : Nat) : Prop := j.1 = 11 ∨ j.1 = 14 ∨ j.1 = 19 ∨ j.1 = 20 ∨ j.1 = 21 ∨ j.1 = 26 ∨ j.1 = 45 ∨ j.1 = 59 ∨ (j.1 = 0 ∧ q = 55)
theorem dir_step (hN : 1 ≤ N ∧ N ≤ 4) (hyg : y ≤ g) (hD : D y = false) (hP : P y = false) (hGb : ∀ i, N ≤ i → i < 32 → bt G i = false) (hs : s < N) (hb : bt G s = true) (h : MM N g G pd D P Mc Mr) (hd : Mc (4, 0, 0) y = 1) (hpar : ∀ s, s < N → bt G s = true → 1 ≤ y → ∀ p, p < 48 → Mc (2, 0, 0) y = nI p → Mc (51, s, 0) p = 1 ∧ ¬ Mc (56, s, 0) y = 0) (hkD : ∀ x, ch Mc g y x → D x = false ∧ P x = false) : ∃ Mc' Mr', f_X4_joinDirectory N Mc (nI y) = some Mc' ∧ f_X11_mergeDirectory Mr (nI y) = some Mr' ∧ MM N g G pd D P Mc' Mr' ∧ (∀ s, s < N → bt G s = true → Mc' (51, s, 0) y = 1) ∧ (∀ x, ch Mc g y x → ∀ s t, s < N → t < N → bt G s = true → bt G t = true → Mc' (56, s, 0) x = Mc' (56, t, 0) x) ∧ (∀ x s, s < N → ch Mc g y x → Mc' (56, s, 0) x = 1 → ∃ t, t < N ∧ Mc (56, t, 0) x = 1) ∧ cf (qC Mc g y) Mc Mc' ∧ cf qR Mr Mr' ∧ cf (fun j q => ¬ zZ D P j q) Mr Mr' := by
  obtain ⟨hN1, hN⟩ := hN
  obtain ⟨R, I, g1, g2, g3⟩ := id h
  have hg := I.1.1
  have hy : y < 48 := by omega
  have hS : ∀ s, s < N → rSv N s y Mc Mr := fun s hs => live_sv R hs hN hy hD hP
  have hp1 : ∀ x, 1 ≤ x → x ≤ g → ∃ p, p < x ∧ Mc (2, 0, 0) x = nI p := fun x x1 x2 => by
    obtain ⟨p, p1, p2, -⟩ := I.1.2.2.2 x x1 x2
    exact ⟨p, p1, p2⟩
  have hk1 : ∀ p, 1 ≤ p → p ≤ g → Mc (2, 0, 0) p = nI y → ch Mc g y p := fun p p1 p2 e => ⟨by
    obtain ⟨q, q1, q2⟩ := hp1 p p1 p2
    rw [e, neq (by omega) (by omega)] at q2
    omega, p2, e⟩
  have n0 : Mr m_o 0 = nI N := by have := R.n0; rw [swp_r (zZ_n (by simp))] at this; exact this
  have n1 : Mr m_o 1 = nI (N + 4) := by have := R.n1; rw [swp_r (zZ_n (by simp))] at this; exact this
  have n6 : Mr m_o 6 = nI (g + 1) := by have := R.ct.2.1; rw [swp_r (zZ_n (by simp))] at this; exact this
  have hpa : ∀ x, x < 48 → Mr m_parent x = Mc (2, 0, 0) x := fun x hx => by have := (R.ct.2.2 x hx).1; rw [swp_r (zZ_n (by simp))] at this; exact this.symm
  have hdr : ¬ Mr m_isDirectory y = 0 := by have := (R.ct.2.2 y hy).2.2; rw [swp_r (zZ_n (by simp))] at this; rw [← this, hd]; decide
  have hv0 : ∀ s, s < N → Mc (60, 48 * s + y, 0) 3 = 0 := fun s hs => by
    obtain ⟨-, n, k2, k3, k4, -⟩ := I.2.2.2.1 s hs y hy
    have : n = 0 := by
      rcases Nat.eq_zero_or_pos n with e | e
      · exact e
      · have := (k4 (by omega)).2.1; rw [hd] at this; exact absurd this (by decide)
    rw [k3, this]; rfl
  obtain ⟨l1, l2, l3⟩ := lst_in hs hb
  obtain ⟨J1, hJ1, hJ1'⟩ := r_dirHead (y := y) (G := G)
  obtain ⟨J3, J2, hJ3, hJ2, hJ2'⟩ := c_dirHead (N := N) (y := y)
  have test := dir_test hN hyg hD hGb hs hb R I hd (fun p p1 p2 e => (hkD p (hk1 p p1 p2 e)).2)
  have hal : f_X6_areAlike N Mc G (nI y) = some (zb (aF (fun s => !bt G s || cSl N g Mc s (lst N G) y) 0 N)) := c_areAlike ⟨hN1, hN⟩ R.ct.1 hg hyg (fun s hs => by
      obtain ⟨-, m, m6, hm, -⟩ := I.2.2.2.1 s hs y hy
      exact ⟨m, m6, hm⟩)
  have hCl : f_X4_joinDirectory N Mc (nI y) = if zb (decide (cHo N Mc G y = G)) = 0 then f_X4_joinDirectory_L28 N (nI y) J2 100 (nI y + (1 : Int32)) Mc else if zb (aF (fun s => !bt G s || cSl N g Mc s (lst N G) y) 0 N) = 0 then f_X4_joinDirectory_L28 N (nI y) J2 100 (nI y + (1 : Int32)) Mc else some Mc := by
    rw [hJ3, c_allHold hN hy g1, o1_s, jn_d, hJ2, lt_d, g1, hal, o1_s]
  have hRf : f_X11_mergeDirectory Mr (nI y) = if zb (decide (cHo N Mc G y = G) && aF (fun s => !bt G s || cSl N g Mc s (lst N G) y) 0 N) = 0 then o1 (f_X11_clearRow Mr m_row (0 : Int32)) (fun M8 => f_X11_mergeDirectory_L75 (nI y) J1 100 (0 : Int32) M8) else some Mr := by
    rw [hJ1, lt_d, g2, r_leastOf hN hs hb, o1_s, r_dirL13 hN n0 n1 n6 hg g2 (by omega) hy, ← test]
  rw [hCl, hRf]
  cases b1 : decide (cHo N Mc G y = G) && aF (fun s => !bt G s || cSl N g Mc s (lst N G) y) 0 N with
  | true =>
    rw [Bool.and_eq_true] at b1
    rw [b1.1, b1.2, zb_t, if_neg (by decide), if_neg (by decide), if_neg (by decide)]
    have hc := b1.1
    rw [decide_eq_true_eq, ho_all hN hGb] at hc
    refine ⟨Mc, Mr, rfl, rfl, h, fun t ht hbt => (I.2.2.1 t ht y hy).1.resolve_left (hc t ht hbt), fun x hx s t hs ht hbs hbt => ?_, fun x s hs _ e => ⟨s, hs, e⟩, cf.rf _ _, cf.rf _ _, cf.rf _ _⟩
    have key : ∀ t, t < N → bt G t = true → Mc (56, t, 0) x = Mc (56, lst N G, 0) x := fun t ht hbt => by
      have k := (aF_iff _ _).mp b1.2 t (by omega) (by omega)
      rw [hbt] at k
      have k : cSl N g Mc t (lst N G) y = true := k
      unfold cSl cCl at k
      simp only [Bool.and_eq_true] at k
      have k5 := (aF_iff _ _).mp k.1.2.2.2.2 x (by have := hx.1; omega) (by have := hx.1; have := hx.2.1; omega)
      rw [decide_eq_true hx.2.2] at k5
      simp only [Bool.not_true, Bool.false_or, Bool.and_eq_true, decide_eq_true_eq] at k5
      exact k5.1
    rw [key s hs hbs, key t ht hbt]
  | false =>
    have hcl : (if zb (decide (cHo N Mc G y = G)) = 0 then f_X4_joinDirectory_L28 N (nI y) J2 100 (nI y + (1 : Int32)) Mc else if zb (aF (fun s => !bt G s || cSl N g Mc s (lst N G) y) 0 N) = 0 then f_X4_joinDirectory_L28 N (nI y) J2 100 (nI y + (1 : Int32)) Mc else some Mc) = f_X4_joinDirectory_L28 N (nI y) J2 100 (nI (y + 1)) Mc := by
      rw [nI_1]
      cases b2 : decide (cHo N Mc G y = G) with
      | false => rw [zb_f, if_pos rfl]
      | true =>
        rw [b2, Bool.true_and] at b1
        rw [b1, zb_t, if_neg (by decide), zb_f, if_pos rfl]
    rw [hcl, zb_f, if_pos rfl]
    -- the reference: row, marks
    obtain ⟨E0, hE0⟩ : ∃ X, X = gpu Mr m_row (8 * 0) 8 (fun _ => 0) := ⟨_, rfl⟩
    have d0 : cf (fun j q => j.1 = 45) Mr E0 := by rw [hE0]; exact cf.pu (fun _ _ _ => rfl)
    rw [show f_X11_clearRow Mr m_row (0 : Int32) = _ from r_clearRow (i := 0) (by decide) (by decide), o1_s, ← hE0]
    have hcs : ∀ x, ch Mc g y x → x < 48 := fun x hx => by have := hx.2.1; omega
    have hBx : ∀ x, ch Mc g y x → ∀ s, s < N → rSv N s x Mc Mr := fun x hx s hs => live_sv R hs hN (hcs x hx) (hkD x hx).1 (hkD x hx).2
    have hun : ∀ x, ch Mc g y x → ∀ s, s < N → Mc (51, s, 0) y = 0 → Mc (56, s, 0) x = 0 := fun x hx s hs h0 => by
      have i5 := (I.2.2.1 s hs x (hcs x hx)).2.2.2.2 y hy (by have := hx.1; omega) hx.2.2
      refine Classical.not_not.mp (fun z => ?_)
      rw [h0] at i5
      exact absurd (i5.2 z) (by decide)
    have h012 : ∀ x, ch Mc g y x → ∀ s, s < N → Mc (56, s, 0) x = 0 ∨ Mc (56, s, 0) x = 1 ∨ Mc (56, s, 0) x = 2 := fun x hx s hs => (I.2.2.1 s hs x (hcs x hx)).2.1
    obtain ⟨A1, -, e1, -, -, -, f1, -⟩ := ent_loop (A := Mc) (E := Mr) (G := G) (J := some) (J' := some) hN hyg hg R.ct.1 n6 (fun x _ hx => hpa x (by omega)) hp1 (fun x hx s hs => (hBx x hx s hs).b) (fun s hs => (hS s hs).1) hun h012 g1 n0 n1 g2
    rw [L28_bind, e1, o1_s]
    -- raise
    obtain ⟨A1f, hA1f⟩ : ∃ X, X = gpu A1 (14, 0, 0) 0 (N + 4) (fun _ => 0) := ⟨_, rfl⟩
    have f1f : cf (fun j q => j.1 = 14) A1 A1f := by rw [hA1f]; exact cf.pu (fun _ _ _ => rfl)
    have o1f : ∀ (j : gI) q, ¬ (j.1 = 14 ∨ j.1 = 56 ∨ j.1 = 58) → A1f j q = Mc j q := fun j q hj => by rw [f1f _ _ (fun z => hj (Or.inl z))]; exact fE_o f1 hj
    obtain ⟨A2, E1, p1, p2, p3, p4, p5⟩ := raise_dir (A := A1f) (E := E0) (G := G) (J' := J1) hN hy (fun s hs => by
      rw [o1f _ _ (by simp), d0 _ _ (by simp)]
      refine ⟨(hS s hs).1, fun h0 k hk => ?_⟩
      rw [o1f _ _ (by simp), d0 _ _ (by simp), (hS s hs).a.2.2.2 k hk, if_neg (by rw [← (hS s hs).1]; exact h0)]) (fun s hs => by
      rw [o1f _ _ (by simp), o1f _ _ (by simp)]
      exact ⟨hv0 s hs, (I.2.2.1 s hs y hy).1⟩) (by rw [d0 _ _ (by simp)]; exact n0) (by rw [d0 _ _ (by simp)]; exact n1) (by rw [d0 _ _ (by simp)]; exact g2) (fun k hk => by rw [hE0, hA1f, gpu_r, gpu_r, if_pos ⟨rfl, by omega, by omega⟩, if_pos ⟨rfl, by omega, by omega⟩])
    have d1 : cf (fun j q => j.1 = 45) Mr E1 := d0.tr p5
    have hra : f_X4_raiseToAll N A1 (nI y) = some A2 := by
      unfold f_X4_raiseToAll
      rw [c_fill 0 (cN14 _) (by omega), o1_s, ← hA1f, lt_d, o1f _ _ (by simp), g1, c_holders hN hy, o1_s, p1]
    rw [hJ2' A1 A2 hra, p2]
    -- the reference: marks, count
    obtain ⟨E2, u1, u2, u3⟩ := r_mark (M := E1) (v := G) (o := y) hN hy (by rw [d1 _ _ (by simp)]; exact n0)
    obtain ⟨E3, hE3⟩ : ∃ X, X = gpu E2 m_row (8 * 0) N (fun k => if bt G k = true then E2 m_marks (48 * k + y) else E2 m_row (8 * 0 + k)) := ⟨_, rfl⟩
    have d3 : cf (fun j q => j.1 = 45) E2 E3 := by rw [hE3]; exact cf.pu (fun _ _ _ => rfl)
    have hcnt : f_X11_count E2 m_row (0 : Int32) G (nI y) = some E3 := by
      rw [hE3]; exact r_count (i := 0) (by rw [u2 _ _ (by simp), d1 _ _ (by simp)]; exact n0) hN hy (by decide) (by decide) (by decide) (by decide)
    have e3 : ∀ (j : gI) q, ¬ (j.1 = 45 ∨ j.1 = 21) → E3 j q = Mr j q := fun j q hj => by rw [d3 _ _ (by omega), u2 _ _ (by omega), d1 _ _ (by omega)]
    rw [hJ1' E1 E2 E3 (by rw [d1 _ _ (by simp)]; exact g2) u1 (by rw [u2 _ _ (by simp), d1 _ _ (by simp)]; exact g2) hcnt]
    -- the entries
    obtain ⟨A1b, E4, q1, q2, q3, q4, f1b, q6⟩ := ent_loop (A := Mc) (E := E3) (G := G) (J := some) (J' := fun M16 => f_X11_mergeDirectory_L195 (nI y) (fun M17 => lt (M17 m_o 53) (fun v18 => o1 (f_X11_endPromises M17 (nI y) v18 (-1 : Int32)) (fun M20 => some M20))) 100 (0 : Int32) M16) hN hyg hg R.ct.1 (by rw [e3 _ _ (by simp)]; exact n6) (fun x _ hx => by rw [e3 _ _ (by simp)]; exact hpa x (by omega)) hp1 (fun x hx s hs => (hBx x hx s hs).b.same rfl (fun _ _ => rfl) (e3 _ _ (by simp)) (fun _ _ => e3 _ _ (by simp))) (fun s hs => by rw [e3 _ _ (by simp)]; exact (hS s hs).1) hun h012 g1 (by rw [e3 _ _ (by simp)]; exact n0) (by rw [e3 _ _ (by simp)]; exact n1) (by rw [e3 _ _ (by simp)]; exact g2)
    have eA : A1b = A1 := by rw [e1] at q1; exact (Option.some.inj q1).symm
    subst eA
    rw [q2]
    have e4 : ∀ (j : gI) q, ¬ (j.1 = 45 ∨ j.1 = 21 ∨ j.1 = 59 ∨ j.1 = 19 ∨ j.1 = 20) → E4 j q = Mr j q := fun j q hj => by rw [dE_o q6 (by omega), e3 _ _ (by omega)]
    -- the copies
    obtain ⟨A3, r1, r2, r3⟩ := c_dirL (M := A2) (y := y) (G := G) (J := fun M8 => lt (M8 (13, 0, 0) 6) (fun v9 => o1 (f_X6_countAll N M8 v9 (nI y)) (fun M11 => lt (M11 (13, 0, 0) 6) (fun v12 => o1 (f_X4_noteChange N M11 v12 (nI y)) (fun M14 => some M14))))) hN hy (by rw [p4 _ _ (by simp), o1f _ _ (by simp)]; exact g1)
    obtain ⟨E5, w1, w2, w3, w4⟩ := r_dirL (M := E4) (y := y) (G := G) (J := fun M17 => lt (M17 m_o 53) (fun v18 => o1 (f_X11_endPromises M17 (nI y) v18 (-1 : Int32)) (fun M20 => some M20))) hN hy (by rw [e4 _ _ (by simp)]; exact n0) (by rw [e4 _ _ (by simp)]; exact g2)
    obtain ⟨A4, m1, m2, m3⟩ := c_grow (M := A3) (v := G) (o := y) hN hy
    obtain ⟨A5, k1, k2, k3⟩ := c_countL (M := A4) (v := G) (o := y) hN hy
    -- cells of the class
    have cO : ∀ (j : gI) q, ¬ (j.1 = 14 ∨ j.1 = 22 ∨ j.1 = 51 ∨ j.1 = 55 ∨ j.1 = 56 ∨ j.1 = 58) → A5 j q = Mc j q := fun j q hj => by
      rw [k2 _ _ (by omega), m2 _ _ (by omega), r2 _ _ (fun z => by have := hC_t z; omega), p4 _ _ (by omega), o1f _ _ (by omega)]
    have cE : ∀ (j : gI) q, (j.1 = 56 ∨ j.1 = 58) → A5 j q = A1b j q := fun j q hj => by
      rw [k2 _ _ (by omega), m2 _ _ (by omega), r2 _ _ (fun z => by have := hC_t z; omega), p4 _ _ (by omega), f1f _ _ (by omega)]
    have c56 : ∀ (j : gI) q, j.1 = 56 → ¬ (j.2.1 < N ∧ bt G j.2.1 = true ∧ ch Mc g y q) → A5 j q = Mc j q := fun j q hj hh => by
      rw [cE _ _ (Or.inl hj)]
      by_cases hb' : j.2.1 < N ∧ bt G j.2.1 = true
      · exact fE_56 f1 hj (fun z => hh ⟨hb'.1, hb'.2, z⟩)
      · exact fE_s f1 (by omega) hb'
    have c58 : ∀ (j : gI) q, j.1 = 58 → ¬ (j.2.1 < N ∧ bt G j.2.1 = true ∧ ch Mc g y j.2.2) → A5 j q = Mc j q := fun j q hj hh => by
      rw [cE _ _ (Or.inr hj)]
      by_cases hb' : j.2.1 < N ∧ bt G j.2.1 = true
      · exact fE_58 f1 hj (fun z => hh ⟨hb'.1, hb'.2, z⟩)
      · exact fE_s f1 (by omega) hb'
    have c51 : ∀ (j : gI) q, j.1 = 51 → ¬ (j.2.1 < N ∧ bt G j.2.1 = true ∧ q = y) → A5 j q = Mc j q := fun j q hj hh => by
      rw [k2 _ _ (by omega), m2 _ _ (by omega), r2 _ _ (fun ⟨t, ht, hbt, z⟩ => by
        rcases z with z | z
        · rw [z.1] at hh; exact hh ⟨ht, hbt, z.2⟩
        · rw [z] at hj; exact absurd hj (by simp)), p4 _ _ (by omega), o1f _ _ (by omega)]
    have c55 : ∀ (j : gI) q, j.1 = 55 → ¬ (j.2.1 < N ∧ bt G j.2.1 = true ∧ j.2.2 = y) → A5 j q = Mc j q := fun j q hj hh => by
      have e45 : A4 j q = Mc j q := by
        rw [m2 _ _ (by omega), r2 _ _ (fun ⟨t, ht, hbt, z⟩ => by
          rcases z with z | z
          · rw [z.1] at hj; exact absurd hj (by simp)
          · rw [z] at hh; exact hh ⟨ht, hbt, rfl⟩), p4 _ _ (by omega), o1f _ _ (by omega)]
      by_cases hz : j.2.1 < N ∧ j.2.2 = y
      · have ej : j = (55, j.2.1, y) := by
          obtain ⟨j1, j2, j3⟩ := j
          dsimp only at hj hz ⊢
          rw [hj, hz.2]
        rw [ej] at e45 ⊢
        rw [k3 _ hz.1 q, if_neg (fun z => hh ⟨hz.1, z.1, hz.2⟩)]; exact e45
      · rw [k2 _ _ (by omega)]; exact e45
    have c22 : ∀ (j : gI) q, j.1 = 22 → q ≠ y → A5 j q = Mc j q := fun j q hj hq => by
      rw [k2 _ _ (by omega), m2 _ _ (by omega), r2 _ _ (fun z => by have := hC_t z; omega), p4 _ _ (by omega), o1f _ _ (by omega)]
    -- cells of the reference
    have rO : ∀ (j : gI) q, ¬ (j.1 = 45 ∨ j.1 = 21 ∨ j.1 = 59 ∨ j.1 = 19 ∨ j.1 = 20 ∨ j.1 = 11 ∨ j.1 = 14 ∨ (j.1 = 0 ∧ q = 55)) → E5 j q = Mr j q := fun j q hj => by
      rw [w2 _ _ (fun z => by have := hR_t z; omega), e4 _ _ (by omega)]
    have r11 : ∀ (j : gI) q, (j.1 = 11 ∨ j.1 = 14) → (∀ t, t < N → bt G t = true → ¬ ((j.1 = 11 ∧ q = 48 * t + y) ∨ (j.1 = 14 ∧ 8 * (48 * t + y) ≤ q ∧ q < 8 * (48 * t + y) + 8))) → E5 j q = Mr j q := fun j q hj hh => by
      rw [w2 _ _ (fun z => by
        rcases z with ⟨t, ht, hbt, z⟩ | z
        · refine hh t ht hbt ?_
          rcases z with z | z
          · rw [z.1]; exact Or.inl ⟨rfl, z.2⟩
          · rw [z.1]; exact Or.inr ⟨rfl, z.2⟩
        · rw [z.1] at hj; exact absurd hj (by decide)), e4 _ _ (by omega)]
    have r19 : ∀ (j : gI) q, (j.1 = 19 ∨ j.1 = 20) → (∀ x t, ch Mc g y x → t < N → bt G t = true → ¬ ((j.1 = 19 ∧ q = 48 * t + x) ∨ (j.1 = 20 ∧ 8 * (48 * t + x) ≤ q ∧ q < 8 * (48 * t + x) + 8))) → E5 j q = Mr j q := fun j q hj hh => by
      rw [w2 _ _ (fun z => by have := hR_t z; omega), dE_e hg q6 (by omega) hh, e3 _ _ (by omega)]
    have r21 : ∀ (j : gI) q, j.1 = 21 → q % 48 ≠ y → E5 j q = Mr j q := fun j q hj hq => by
      rw [w2 _ _ (fun z => by have := hR_t z; omega), dE_o q6 (by omega), d3 _ _ (by omega), u2 _ _ (by omega), d1 _ _ (by omega)]
    have nch : ¬ ch Mc g y y := fun z => absurd z.1 (by omega)
    have a51 : ∀ s, s < N → bt G s = true → A5 (51, s, 0) y = 1 := fun s hs hbs => by
      rw [k2 _ _ (by simp), m2 _ _ (by simp)]; exact (r3 s hs hbs).1
    have a22 : ∀ s, s < N → A5 (22, s, 0) y = if bt G s = true then Mc (22, s, 0) y + 1 else Mc (22, s, 0) y := fun s hs => by
      have e : A3 (22, s, 0) y = Mc (22, s, 0) y := by rw [r2 _ _ (fun z => by have := hC_t z; simp at this), p4 _ _ (by simp), o1f _ _ (by simp)]
      rw [k2 _ _ (by simp), m3 s hs, e]
    have b21 : ∀ s, s < N → E5 m_marks (48 * s + y) = if bt G s = true then Mr m_marks (48 * s + y) + 1 else Mr m_marks (48 * s + y) := fun s hs => by
      rw [w2 _ _ (fun z => by have := hR_t z; simp at this), dE_o q6 (by simp), d3 _ _ (by simp), u3 s hs, d1 _ _ (by simp)]
    have hC' : ∀ s, s < N → rC s y A5 E5 := fun s hs => by
      unfold rC
      rw [a22 s hs, b21 s hs, show Mc (22, s, 0) y = Mr m_marks (48 * s + y) from (hS s hs).cc]
    have hD' : ∀ s o, s < N → rSv N s o Mc Mr → rD N s o A5 E5 := fun s o hs h0 => h0.dd.fr hN (A := fun j q => ¬ A5 j q = Mc j q) (B := fun j q => ¬ E5 j q = Mr j q) (fun j q h => Classical.not_not.mp h) (fun j q h => Classical.not_not.mp h) (fun j q h z => z (cO _ _ (by omega))) (fun j q h z => z (rO _ _ (by omega)))
    have hB' : ∀ s, s < N → rB N s y A5 E5 := fun s hs => (hS s hs).b.same (c56 _ _ rfl (fun z => nch z.2.2)) (fun k hk => c58 _ _ rfl (fun z => nch z.2.2)) (r19 _ _ (Or.inl rfl) (fun x t hx ht hbt z => by
        have := hx.1; have := hcs x hx; dsimp only at z; omega)) (fun k hk => r19 _ _ (Or.inr rfl) (fun x t hx ht hbt z => by
        have := hx.1; have := hcs x hx; dsimp only at z; omega))
    have hA' : ∀ s, s < N → rA N s y A5 E5 := fun s hs => by
      have sv0 := (hS s hs).a
      by_cases hbs : bt G s = true
      · have hdE : ¬ E5 m_isDirectory y = 0 := by rw [rO _ _ (by simp)]; exact hdr
        have hhE : ¬ E5 m_has (48 * s + y) = 0 := by rw [(w4 s hs hbs).1]; decide
        refine ⟨by rw [a51 s hs hbs, (w4 s hs hbs).1], ?_, ?_, fun k hk => ?_⟩
        · rw [if_pos (Or.inr hdE), cO _ _ (by simp), sv0.2.1, if_pos (Or.inr hdr)]
        · rw [if_pos (Or.inr hdE), cO _ _ (by simp), sv0.2.2.1, if_pos (Or.inr hdr)]
        · have er : E2 m_row k = A2 (14, 0, 0) k := by rw [u2 _ _ (by simp)]; exact p3 k hk
          have ea : A4 (55, s, y) k = A2 (14, 0, 0) k := by rw [m2 _ _ (by simp)]; exact (r3 s hs hbs).2 k hk
          have em : ∀ t, t < N → bt G t = true → A4 (22, t, 0) y = E2 m_marks (48 * t + y) := fun t ht hbt => by
            have z1 := a22 t ht
            have z2 := b21 t ht
            rw [k2 _ _ (by simp)] at z1
            rw [w2 _ _ (fun z => by have := hR_t z; simp at this), dE_o q6 (by simp), d3 _ _ (by simp)] at z2
            rw [z1, z2, show Mc (22, t, 0) y = Mr m_marks (48 * t + y) from (hS t ht).cc]
          rw [if_neg hhE, (w4 s hs hbs).2 k (by omega), dE_o q6 (by simp), hE3, k3 s hs k, gpu_r]
          by_cases hkN : k < N
          · rw [if_pos (show m_row = m_row ∧ 8 * 0 ≤ k ∧ k < 8 * 0 + N from ⟨rfl, by omega, by omega⟩)]
            by_cases hbk : bt G k = true
            · rw [if_pos ⟨hbs, hkN, hbk⟩, show k - 8 * 0 = k by omega, if_pos hbk]; exact em k hkN hbk
            · rw [if_neg (fun z => hbk z.2.2), show k - 8 * 0 = k by omega, if_neg hbk, show 8 * 0 + k = k by omega, ea, er]
          · rw [if_neg (fun z => hkN z.2.1), if_neg (by omega), ea, er]
      · refine sv0.fr hN (A := fun j q => ¬ A5 j q = Mc j q) (B := fun j q => ¬ E5 j q = Mr j q) (fun j q h => Classical.not_not.mp h) (fun j q h => Classical.not_not.mp h) (fun j q hh z => z ?_) (fun j q hh z => z ?_)
        · rcases hh with ⟨a, b, c⟩ | ⟨a, b, c⟩
          · by_cases e : j.1 = 51
            · exact c51 _ _ e (fun z => hbs (by rw [← b]; exact z.2.1))
            · exact cO _ _ (by omega)
          · exact c55 _ _ a (fun z => hbs (by rw [← b]; exact z.2.1))
        · have ne : ∀ t, t < N → bt G t = true → t ≠ s := fun t ht hbt e => hbs (by rw [← e]; exact hbt)
          by_cases e : j.1 = 11 ∨ j.1 = 14
          · exact r11 _ _ e (fun t ht hbt z => by have := ne t ht hbt; omega)
          · exact rO _ _ (by omega)
    have hyA : ∀ s, s < N → rSv N s y A5 E5 := fun s hs => rSv_of (hA' s hs) (hB' s hs) (hC' s hs) (hD' s y hs (hS s hs))
    have hxA : ∀ x, ch Mc g y x → ∀ s, s < N → rSv N s x A5 E5 := fun x hx s hs => by
      have sv0 := hBx x hx s hs
      have hx1 := hx.1
      have hx4 := hcs x hx
      refine rSv_of (sv0.a.fr hN (A := fun j q => ¬ A5 j q = Mc j q) (B := fun j q => ¬ E5 j q = Mr j q) (fun j q h => Classical.not_not.mp h) (fun j q h => Classical.not_not.mp h) (fun j q hh z => z ?_) (fun j q hh z => z ?_)) ((q3 x hx s hs).same (cE _ _ (Or.inl rfl)) (fun k hk => cE _ _ (Or.inr rfl)) (w2 _ _ (fun z => by have := hR_t z; simp at this)) (fun k hk => w2 _ _ (fun z => by have := hR_t z; simp at this))) ?_ (hD' s x hs sv0)
      · rcases hh with ⟨a, b, c⟩ | ⟨a, b, c⟩
        · by_cases e : j.1 = 51
          · exact c51 _ _ e (fun z => by have := z.2.2; omega)
          · exact cO _ _ (by omega)
        · exact c55 _ _ a (fun z => by have := z.2.2; omega)
      · by_cases e : j.1 = 11 ∨ j.1 = 14
        · exact r11 _ _ e (fun t ht hbt z => by omega)
        · exact rO _ _ (by omega)
      · have z := sv0.cc
        unfold rC at z ⊢
        rw [c22 _ _ rfl (by omega), r21 _ _ rfl (by omega)]; exact z
    have fA : cf (fun j q => aSv j q ∨ csc j q) Mc A5 := fun j q hn => by
      by_cases t51 : j.1 = 51
      · exact c51 _ _ t51 (fun z => hn (Or.inl (Or.inl ⟨by omega, by have := z.1; omega⟩)))
      · by_cases t55 : j.1 = 55
        · exact c55 _ _ t55 (fun z => hn (Or.inl (Or.inl ⟨by omega, by have := z.1; omega⟩)))
        · by_cases t56 : j.1 = 56
          · exact c56 _ _ t56 (fun z => hn (Or.inl (Or.inl ⟨by omega, by have := z.1; omega⟩)))
          · by_cases t58 : j.1 = 58
            · exact c58 _ _ t58 (fun z => hn (Or.inl (Or.inl ⟨by omega, by have := z.1; omega⟩)))
            · exact cO _ _ (by revert hn; unfold aSv csc; omega)
    have dz : cf (fun j q => ¬ zZ D P j q) Mr E5 := fun j q hz => by
      rcases Classical.not_not.mp hz with ⟨z, z1, z2⟩ | ⟨z, z1, z2⟩
      · rcases z with z | z | z
        · rw [z]
          refine r11 _ _ (Or.inl rfl) (fun t ht hbt hh => ?_)
          have : q % 48 = y := by dsimp only at hh; omega
          rw [this, hD] at z2; exact absurd z2 (by decide)
        · rw [z]; exact rO _ _ (by simp)
        · rw [z]; exact rO _ _ (by simp)
      · rw [z]
        refine r19 _ _ (Or.inl rfl) (fun x t hx ht hbt hh => ?_)
        have hx4 := hcs x hx
        have : q % 48 = x := by dsimp only at hh; omega
        rw [this, (hkD x hx).2] at z2; exact absurd z2 (by decide)
    have RN : Rel N g A5 (swp N G D P E5) := dir_rel hN R hD hP hy hg hkD hyA hxA (fun s hs o ho hoy hnc j q hh => by
        rcases hh with ⟨a, b, c⟩ | ⟨a, b, c⟩ | ⟨a, b⟩
        · by_cases t51 : j.1 = 51
          · exact c51 _ _ t51 (fun z => by have := z.2.2; omega)
          · by_cases t56 : j.1 = 56
            · exact c56 _ _ t56 (fun z => hnc (by rw [← c]; exact z.2.2))
            · by_cases t22 : j.1 = 22
              · exact c22 _ _ t22 (by omega)
              · exact cO _ _ (by omega)
        · by_cases t55 : j.1 = 55
          · exact c55 _ _ t55 (fun z => by have := z.2.2; omega)
          · exact c58 _ _ (by omega) (fun z => hnc (by rw [← c]; exact z.2.2))
        · exact cO _ _ (by omega)) (fun s hs o ho hoy hnc j q hh => by
        have nx : ∀ x, ch Mc g y x → x ≠ o ∧ x < 48 := fun x hx => ⟨fun e => hnc (by rw [← e]; exact hx), hcs x hx⟩
        unfold lSv at hh
        by_cases t11 : j.1 = 11 ∨ j.1 = 14
        · exact r11 _ _ t11 (fun t ht hbt z => by omega)
        · by_cases t19 : j.1 = 19 ∨ j.1 = 20
          · exact r19 _ _ t19 (fun x t hx ht hbt z => by have := nx x hx; omega)
          · by_cases t21 : j.1 = 21
            · exact r21 _ _ t21 (by omega)
            · exact rO _ _ (by omega)) fA (fun j q hn => rO _ _ (fun hj => hn (by unfold bSv rsc; omega))) dz
    have IN : JInv N g A5 := dir_inv (G := G) (y := y) hN hyg I (fun j q hn => by
        by_cases t51 : j.1 = 51
        · exact c51 _ _ t51 (fun z => hn (Or.inr ⟨Or.inl t51, by have := z.1; omega⟩))
        · by_cases t56 : j.1 = 56
          · exact c56 _ _ t56 (fun z => hn (Or.inr ⟨Or.inr t56, by have := z.1; omega⟩))
          · exact cO _ _ (by revert hn; unfold iFree csc; omega)) (fun s hs q hq => c51 _ _ rfl (fun z => hq ⟨z.2.1, z.2.2⟩)) a51 (fun s hs x hx => c56 _ _ rfl (fun z => hx ⟨z.2.1, z.2.2⟩)) (fun s hs hbs x hx => by rw [cE _ _ (Or.inl rfl)]; exact q4 x hx s hs hbs) hd hpar
    obtain ⟨A6, t1, t2, t3, t4, t5, t6⟩ := noteG hN hy hD hGb RN IN (by rw [cO _ _ (by simp)]; exact g1)
    have dS : cf (fun j q => j.1 = 26) E5 (rEp E5 y G (-1 : Int32)) := fun j q h => if_neg (fun z => h (by rw [z.1]))
    have g13 : A3 (13, 0, 0) 6 = G := by rw [r2 _ _ (fun z => by have := hC_t z; simp at this), p4 _ _ (by simp), o1f _ _ (by simp)]; exact g1
    have p53 : E5 m_o 53 = G := by rw [rO _ _ (by simp)]; exact g2
    have x56 : ∀ x s, s < N → A6 (56, s, 0) x = A5 (56, s, 0) x := fun x s hs => t6 _ _ (by simp)
    refine ⟨A6, rEp E5 y G (-1 : Int32), ?_, ?_, ⟨t2, t3, t4, ?_, ?_⟩, fun s hs hbs => ?_, fun x hx s t hs ht hbs hbt => ?_, fun x s hs hx e => ?_, ?_, ?_, ?_⟩
    · refine r1.trans ?_
      unfold f_X6_countAll
      rw [lt_d, g13, m1, o1_s, k1, o1_s, lt_d, cO _ _ (by simp), g1, t1, o1_s]
    · refine w1.trans ?_
      rw [lt_d, p53, r_ends hy, o1_s]
    · rw [dS _ _ (by simp)]; exact p53
    · rw [t5, cO _ _ (by simp), g3, dS _ _ (by simp), w3, e4 _ _ (by simp), Int32.add_assoc, Int32.add_comm pd, ← Int32.add_assoc]
    · rw [t6 _ _ (by simp)]; exact a51 s hs hbs
    · rw [x56 x s hs, x56 x t ht, cE _ _ (Or.inl rfl), cE _ _ (Or.inl rfl), q4 x hx s hs hbs, q4 x hx t ht hbt]
    · rw [x56 x s hs] at e
      by_cases hbs : bt G s = true
      · rw [cE _ _ (Or.inl rfl), q4 x hx s hs hbs] at e
        obtain ⟨t, z1, -, z3⟩ := (jS_v (M := Mc) (G := G) (x := x) N (fun t ht _ => h012 x hx t ht)).2.2.2.1 e
        exact ⟨t, z1, z3⟩
      · rw [c56 _ _ rfl (fun z => hbs z.2.1)] at e
        exact ⟨s, hs, e⟩
    · intro j q hn
      rw [t6 _ _ (fun z => hn (by
        rcases z with z | z
        · exact Or.inr (Or.inr (Or.inl z))
        · exact Or.inr (Or.inr (Or.inr (Or.inl z)))))]
      by_cases t51 : j.1 = 51
      · exact c51 _ _ t51 (fun z => hn (Or.inr (Or.inr (Or.inr (Or.inr ⟨by have := z.1; omega, Or.inl ⟨t51, z.2.2⟩⟩)))))
      · by_cases t55 : j.1 = 55
        · exact c55 _ _ t55 (fun z => hn (Or.inr (Or.inr (Or.inr (Or.inr ⟨by have := z.1; omega, Or.inr (Or.inl ⟨t55, z.2.2⟩)⟩)))))
        · by_cases t56 : j.1 = 56
          · exact c56 _ _ t56 (fun z => hn (Or.inr (Or.inr (Or.inr (Or.inr ⟨by have := z.1; omega, Or.inr (Or.inr (Or.inl ⟨t56, z.2.2⟩))⟩)))))
          · by_cases t58 : j.1 = 58
            · exact c58 _ _ t58 (fun z => hn (Or.inr (Or.inr (Or.inr (Or.inr ⟨by have := z.1; omega, Or.inr (Or.inr (Or.inr ⟨t58, z.2.2⟩))⟩)))))
            · by_cases t22 : j.1 = 22
              · exact c22 _ _ t22 (fun z => hn (Or.inr (Or.inl ⟨t22, z⟩)))
              · exact cO _ _ (fun z => by
                  have : j.1 = 14 := by omega
                  exact hn (Or.inl this))
    · intro j q hn
      rw [dS _ _ (fun z => hn (by unfold qR; omega))]
      exact rO _ _ (fun hj => hn (by unfold qR; omega))
    · refine dz.tr (fun j q h => ?_)
      unfold rEp
      rw [if_neg (fun z => h (fun hz => by
        rcases hz with hz | hz
        · rw [z.2.2.1, hD] at hz; exact absurd hz.2.2 (by decide)
        · rw [z.1] at hz; exact absurd hz.1 (by decide)))]
end ZT
