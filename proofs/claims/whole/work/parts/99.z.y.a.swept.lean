/-! layer 2: an object swept at the servers of a group -/
/-- x is swept at the servers of H below k; promises of it are kept to v's outside -/
def SW (k g : Nat) (H v : Int32) (x : Nat) (M M1 : gM) : Prop := (∀ (j : gI) q, (j = m_has ∨ j = m_versions) → q < 192 → M1 j q = if q / 48 < k ∧ bt H (q / 48) = true ∧ q % 48 = x then 0 else M j q) ∧ (∀ q, q < 192 → M1 m_entry q = if q / 48 < k ∧ bt H (q / 48) = true ∧ 1 ≤ q % 48 ∧ q % 48 ≤ g ∧ M m_parent (q % 48) = nI x then 0 else M m_entry q) ∧ (∀ q, q < 192 → M1 m_promised q = if q % 48 = x then M m_promised q &&& (v ^^^ (-1 : Int32)) else M m_promised q) ∧ ∀ (j : gI) q, ¬ ((j = m_has ∨ j = m_versions ∨ j = m_entry ∨ j = m_promised) ∧ q < 192) → M1 j q = M j q
section ZYA
variable {N g B s o c d x y z T n m t l i j a b p k : Nat} {A E M M1 M' X Mc Mr Mc' Mr' : gM} {row a3 : gI} {D P : Nat → Bool} {G H pd v w nr a1 a2 a4 a5 : Int32} {f r : Nat → Int32} {zz : lS}
theorem and_0 {p : Int32} : p &&& ((0 : Int32) ^^^ (-1 : Int32)) = p := b_ext fun i hi => by
  rw [b_and, b_no hi, show bt (0 : Int32) i = false from by revert i; decide]; simp
theorem and_or {p : Int32} : (p &&& (v ^^^ (-1 : Int32))) &&& (w ^^^ (-1 : Int32)) = p &&& ((v ||| w) ^^^ (-1 : Int32)) := b_ext fun i hi => by
  rw [b_and, b_and, b_and, b_no hi, b_no hi, b_no hi, b_or]
  cases bt p i <;> cases bt v i <;> cases bt w i <;> rfl
theorem SW.rf : SW 0 g H 0 x M M := ⟨fun j q _ _ => by rw [if_neg (fun z => absurd z.1 (by omega))], fun q _ => by rw [if_neg (fun z => absurd z.1 (by omega))], fun q _ => by
  by_cases e : q % 48 = x
  · rw [if_pos e, and_0]
  · rw [if_neg e], fun _ _ _ => rfl⟩
theorem SW.no (h : SW k g H v x M M1) (hb : ¬ bt H k = true) : SW (k + 1) g H v x M M1 := by
  obtain ⟨h1, h2, h3, h4⟩ := h
  have e : ∀ q, (q / 48 < k + 1 ∧ bt H (q / 48) = true) ↔ (q / 48 < k ∧ bt H (q / 48) = true) := fun q => by
    refine ⟨fun ⟨a, b⟩ => ⟨?_, b⟩, fun ⟨a, b⟩ => ⟨by omega, b⟩⟩
    have : q / 48 ≠ k := fun z => hb (by rw [← z]; exact b)
    omega
  refine ⟨fun j q hj hq => ?_, fun q hq => ?_, h3, h4⟩
  · rw [h1 j q hj hq]
    by_cases z : q / 48 < k ∧ bt H (q / 48) = true ∧ q % 48 = x
    · rw [if_pos z, if_pos ⟨by omega, z.2⟩]
    · rw [if_neg z, if_neg (fun y => z ⟨((e q).mp ⟨y.1, y.2.1⟩).1, y.2⟩)]
  · rw [h2 q hq]
    by_cases z : q / 48 < k ∧ bt H (q / 48) = true ∧ 1 ≤ q % 48 ∧ q % 48 ≤ g ∧ M m_parent (q % 48) = nI x
    · rw [if_pos z, if_pos ⟨by omega, z.2⟩]
    · rw [if_neg z, if_neg (fun y => z ⟨((e q).mp ⟨y.1, y.2.1⟩).1, y.2⟩)]
theorem SW.dr (hg : g ≤ 47) (hk : k < 4) (hx : x < 48) (h : SW k g H v x M M1) (hb : bt H k = true) : SW (k + 1) g H v x M (rSd g M1 k x) := by
  obtain ⟨h1, h2, h3, h4⟩ := h
  have hp : ∀ q, M1 m_parent q = M m_parent q := fun q => h4 _ _ (fun z => absurd z.1 (by decide))
  refine ⟨fun j q hj hq => ?_, fun q hq => ?_, fun q hq => ?_, fun j q hj => ?_⟩
  · by_cases e : q / 48 = k
    · have eq : q = 48 * k + q % 48 := by omega
      have := rSd_k (g := g) (M := M1) (s := k) (p := q % 48) hj hx (by omega)
      rw [← eq] at this
      rw [this]
      by_cases z : q % 48 = x
      · rw [if_pos z, if_pos ⟨by omega, by rw [e]; exact hb, z⟩]
      · rw [if_neg z, if_neg (fun y => z y.2.2), h1 j q hj hq, if_neg (fun y => z y.2.2)]
    · rw [rSd_fr hg _ _ (by rcases hj with hj | hj <;> rw [hj] <;> dsimp only <;> omega), h1 j q hj hq]
      by_cases z : q / 48 < k ∧ bt H (q / 48) = true ∧ q % 48 = x
      · rw [if_pos z, if_pos ⟨by omega, z.2⟩]
      · rw [if_neg z, if_neg (fun y => z ⟨by omega, y.2⟩)]
  · by_cases e : q / 48 = k
    · have eq : q = 48 * k + q % 48 := by omega
      have := rSd_e (g := g) (M := M1) (s := k) (x := x) (p := q % 48) (by omega)
      rw [← eq, hp] at this
      rw [this]
      by_cases z : 1 ≤ q % 48 ∧ q % 48 ≤ g ∧ M m_parent (q % 48) = nI x
      · rw [if_pos z, if_pos ⟨by omega, by rw [e]; exact hb, z⟩]
      · rw [if_neg z, if_neg (fun y => z y.2.2), h2 q hq, if_neg (fun y => z y.2.2)]
    · rw [rSd_fr hg _ _ (by dsimp only; omega), h2 q hq]
      by_cases z : q / 48 < k ∧ bt H (q / 48) = true ∧ 1 ≤ q % 48 ∧ q % 48 ≤ g ∧ M m_parent (q % 48) = nI x
      · rw [if_pos z, if_pos ⟨by omega, z.2⟩]
      · rw [if_neg z, if_neg (fun y => z ⟨by omega, y.2⟩)]
  · rw [rSd_fr hg _ _ (by dsimp only; omega)]; exact h3 q hq
  · unfold rSd
    rw [if_neg (fun z => hj ⟨by
      rcases z.1 with z | z
      · exact Or.inl z
      · exact Or.inr (Or.inl z), by omega⟩), if_neg (fun z => hj ⟨Or.inr (Or.inr (Or.inl z.1)), by omega⟩)]
    exact h4 j q hj
theorem SW.ep (h : SW k g H v x M M1) : SW k g H (v ||| w) x M (rEp M1 x w (-1 : Int32)) := by
  obtain ⟨h1, h2, h3, h4⟩ := h
  have e : ∀ (j : gI) q, ¬ (j = m_promised ∧ q < 192 ∧ q % 48 = x) → rEp M1 x w (-1 : Int32) j q = M1 j q := fun j q hn => by
    unfold rEp
    rw [if_neg (fun z => hn ⟨z.1, z.2.1, z.2.2.1⟩)]
  refine ⟨fun j q hj hq => ?_, fun q hq => ?_, fun q hq => ?_, fun j q hj => ?_⟩
  · rw [e _ _ (fun z => by rcases hj with hj | hj <;> (rw [hj] at z; exact absurd z.1 (by decide)))]; exact h1 j q hj hq
  · rw [e _ _ (fun z => absurd z.1 (by decide))]; exact h2 q hq
  · by_cases z : q % 48 = x
    · unfold rEp
      rw [if_pos ⟨rfl, hq, z, by rw [nI_m1 (by omega)]; exact id⟩, h3 q hq, if_pos z, if_pos z, and_or]
    · rw [e _ _ (fun y => z y.2.2), h3 q hq, if_neg z, if_neg z]
  · rw [e _ _ (fun z => hj ⟨Or.inr (Or.inr (Or.inr z.1)), z.2.1⟩)]; exact h4 j q hj
theorem SW.mo (h : SW k g H v x (gset M m_o 55 a1) M1) : SW k g H v x (gset M m_o 55 a2) (gset M1 m_o 55 a2) := by
  obtain ⟨h1, h2, h3, h4⟩ := h
  refine ⟨fun j q hj hq => ?_, fun q hq => ?_, fun q hq => ?_, fun j q hj => ?_⟩
  · have ne : j ≠ m_o := by rcases hj with hj | hj <;> (rw [hj]; decide)
    rw [gset_o (fun z => ne z.1), h1 j q hj hq, gset_o (fun z => ne z.1), gset_o (fun z => ne z.1)]
  · rw [gset_o (by simp), h2 q hq, gset_o (by simp), gset_o (by simp), gset_o (by simp), gset_o (by simp)]
  · rw [gset_o (by simp), h3 q hq, gset_o (by simp), gset_o (by simp)]
  · by_cases e : j = m_o ∧ q = 55
    · rw [e.1, e.2, gset_aa, gset_aa]
    · rw [gset_o e, h4 j q hj, gset_o e, gset_o e]
theorem swp_has {j : gI} {q : Nat} (hj : j = m_has ∨ j = m_versions) (hq : q < 192) : swp N G D P M j q = if bt G (q / 48) = true ∧ D (q % 48) = true then 0 else M j q := by
  unfold swp
  by_cases e : bt G (q / 48) = true ∧ D (q % 48) = true
  · rw [if_pos ⟨hj, hq, e.1, e.2⟩, if_pos e]
  · rw [if_neg (fun z => e z.2.2), if_neg e, if_neg (fun z => by rcases hj with hj | hj <;> (rw [hj] at z; exact absurd z.1 (by decide))), if_neg (fun z => by rcases hj with hj | hj <;> (rw [hj] at z; exact absurd z.1 (by decide)))]
theorem swp_ent {q : Nat} (hq : q < 192) : swp N G D P M m_entry q = if bt G (q / 48) = true ∧ P (q % 48) = true then 0 else M m_entry q := by
  unfold swp
  rw [if_neg (fun z => absurd z.1 (by decide))]
  by_cases e : bt G (q / 48) = true ∧ P (q % 48) = true
  · rw [if_pos ⟨rfl, hq, e.1, e.2⟩, if_pos e]
  · rw [if_neg (fun z => e z.2.2), if_neg e, if_neg (fun z => absurd z.1 (by decide))]
theorem swp_pro {q : Nat} (hq : q < 192) : swp N G D P M m_promised q = if D (q % 48) = true then M m_promised q &&& (rHo N M G (q % 48) ^^^ (-1 : Int32)) else M m_promised q := by
  unfold swp
  rw [if_neg (fun z => absurd z.1 (by decide)), if_neg (fun z => absurd z.1 (by decide))]
  by_cases e : D (q % 48) = true
  · rw [if_pos ⟨rfl, hq, e⟩, if_pos e]
  · rw [if_neg (fun z => e z.2.2), if_neg e]
theorem swp_oth {j : gI} {q : Nat} (hj : ¬ ((j = m_has ∨ j = m_versions ∨ j = m_entry ∨ j = m_promised) ∧ q < 192)) : swp N G D P M j q = M j q := swp_r (fun z => hj (by
  rcases z with ⟨z | z | z, z1, -⟩ | ⟨z, z1, -⟩
  · exact ⟨Or.inl z, z1⟩
  · exact ⟨Or.inr (Or.inl z), z1⟩
  · exact ⟨Or.inr (Or.inr (Or.inr z)), z1⟩
  · exact ⟨Or.inr (Or.inr (Or.inl z)), z1⟩))
/-- whose parent is doomed -/
def pO (par : Nat → Nat) (g : Nat) (D : Nat → Bool) (z : Nat) : Bool := decide (1 ≤ z ∧ z ≤ g) && D (par z)
def dA (D : Nat → Bool) (x z : Nat) : Bool := D z || decide (z = x)
def dR (D : Nat → Bool) (x z : Nat) : Bool := D z && !decide (z = x)
theorem rHo_b (hN : N ≤ 4) (hs : s < 32) : bt (rHo N M G x) s = (decide (s < N) && (bt G s && nz (M m_has (48 * s + x)))) := by
  unfold rHo; rw [bt_sS (by omega) hs]
/-- the doomed x is swept -/
theorem swp_sweep {par : Nat → Nat} (hN : N ≤ 4) (hg : g ≤ 47) (hx : x < 48) (hGb : ∀ i, N ≤ i → i < 32 → bt G i = false) (hD : D x = true) (hpar : ∀ z, 1 ≤ z → z ≤ g → M m_parent z = nI (par z) ∧ par z < 48) (hz : ∀ s, s < N → bt G s = true → M m_has (48 * s + x) = 0 → M m_versions (48 * s + x) = 0 ∧ ∀ z, 1 ≤ z → z ≤ g → par z = x → M m_entry (48 * s + z) = 0) (h : SW N g (rHo N M G x) (rHo N M G x) x (gset M m_o 55 w) M1) : swp N G (dR D x) (pO par g (dR D x)) M1 = gset (swp N G D (pO par g D) M) m_o 55 w := by
  obtain ⟨h1, h2, h3, h4⟩ := h
  have bG : ∀ s, s < 4 → bt G s = true → s < N := fun s hs hb => Nat.not_le.mp (fun z => by rw [hGb s z (by omega)] at hb; exact absurd hb (by decide))
  have hH : ∀ s, s < 4 → (s < N ∧ bt (rHo N M G x) s = true ↔ bt G s = true ∧ ¬ M m_has (48 * s + x) = 0) := fun s hs => by
    rw [rHo_b hN (by omega)]
    refine ⟨fun ⟨a, b⟩ => ?_, fun ⟨a, b⟩ => ⟨bG s hs a, ?_⟩⟩
    · rw [Bool.and_eq_true, Bool.and_eq_true] at b
      exact ⟨b.2.1, (nz_t _).mp b.2.2⟩
    · rw [decide_eq_true (bG s hs a), a, (nz_t _).mpr b]; rfl
  funext j q
  by_cases hj : (j = m_has ∨ j = m_versions ∨ j = m_entry ∨ j = m_promised) ∧ q < 192
  · obtain ⟨hj, hq⟩ := hj
    have ne : j ≠ m_o := by rcases hj with hj | hj | hj | hj <;> (rw [hj]; decide)
    rw [gset_o (fun z => ne z.1)]
    have eq : q = 48 * (q / 48) + q % 48 := by omega
    have hs4 : q / 48 < 4 := by omega
    have hz48 : q % 48 < 48 := by omega
    have kk : (j = m_has ∨ j = m_versions) → swp N G (dR D x) (pO par g (dR D x)) M1 j q = swp N G D (pO par g D) M j q := fun hj => by
      have hne : ¬ (j = m_o ∧ q = 55) := fun z => ne z.1
      rw [swp_has hj hq, swp_has hj hq, h1 j q hj hq, gset_o hne]
      unfold dR
      by_cases ez : q % 48 = x
      · rw [ez, hD, decide_eq_true rfl, if_neg (c := bt G (q / 48) = true ∧ (true && !true) = true) (fun z => absurd z.2 (by decide))]
        by_cases hb : bt G (q / 48) = true
        · rw [if_pos (c := bt G (q / 48) = true ∧ true = true) ⟨hb, rfl⟩]
          by_cases h0 : M m_has (48 * (q / 48) + x) = 0
          · rw [if_neg (c := q / 48 < N ∧ bt (rHo N M G x) (q / 48) = true ∧ x = x) (fun z => ((hH _ hs4).mp ⟨z.1, z.2.1⟩).2 h0)]
            rcases hj with hj | hj
            · rw [hj, eq, ez]; exact h0
            · rw [hj, eq, ez]; exact (hz _ (bG _ hs4 hb) hb h0).1
          · have := (hH _ hs4).mpr ⟨hb, h0⟩
            rw [if_pos (c := q / 48 < N ∧ bt (rHo N M G x) (q / 48) = true ∧ x = x) ⟨this.1, this.2, rfl⟩]
        · rw [if_neg (c := bt G (q / 48) = true ∧ true = true) (fun z => hb z.1), if_neg (c := q / 48 < N ∧ bt (rHo N M G x) (q / 48) = true ∧ x = x) (fun z => hb ((hH _ hs4).mp ⟨z.1, z.2.1⟩).1)]
      · rw [decide_eq_false ez, Bool.not_false, Bool.and_true, if_neg (c := q / 48 < N ∧ bt (rHo N M G x) (q / 48) = true ∧ q % 48 = x) (fun z => ez z.2.2)]
    rcases hj with hj | hj | hj | hj
    · exact kk (Or.inl hj)
    · exact kk (Or.inr hj)
    · rw [hj, swp_ent hq, swp_ent hq, h2 q hq, gset_o (by simp), gset_o (by simp)]
      unfold pO dR
      by_cases hr : 1 ≤ q % 48 ∧ q % 48 ≤ g
      · obtain ⟨p1, p2⟩ := hpar _ hr.1 hr.2
        rw [decide_eq_true hr, Bool.true_and, Bool.true_and, p1]
        by_cases ez : par (q % 48) = x
        · rw [ez, hD, decide_eq_true rfl, if_neg (c := bt G (q / 48) = true ∧ (true && !true) = true) (fun z => absurd z.2 (by decide))]
          by_cases hb : bt G (q / 48) = true
          · rw [if_pos (c := bt G (q / 48) = true ∧ true = true) ⟨hb, rfl⟩]
            by_cases h0 : M m_has (48 * (q / 48) + x) = 0
            · rw [if_neg (c := q / 48 < N ∧ bt (rHo N M G x) (q / 48) = true ∧ 1 ≤ q % 48 ∧ q % 48 ≤ g ∧ nI x = nI x) (fun z => ((hH _ hs4).mp ⟨z.1, z.2.1⟩).2 h0)]
              have := (hz _ (bG _ hs4 hb) hb h0).2 _ hr.1 hr.2 ez
              rw [← eq] at this; exact this
            · have := (hH _ hs4).mpr ⟨hb, h0⟩
              rw [if_pos (c := q / 48 < N ∧ bt (rHo N M G x) (q / 48) = true ∧ 1 ≤ q % 48 ∧ q % 48 ≤ g ∧ nI x = nI x) ⟨this.1, this.2, hr.1, hr.2, rfl⟩]
          · rw [if_neg (c := bt G (q / 48) = true ∧ true = true) (fun z => hb z.1), if_neg (c := q / 48 < N ∧ bt (rHo N M G x) (q / 48) = true ∧ 1 ≤ q % 48 ∧ q % 48 ≤ g ∧ nI x = nI x) (fun z => hb ((hH _ hs4).mp ⟨z.1, z.2.1⟩).1)]
        · have ez' : ¬ nI (par (q % 48)) = nI x := by rw [neq (by omega) (by omega)]; exact ez
          rw [decide_eq_false ez, Bool.not_false, Bool.and_true, if_neg (c := q / 48 < N ∧ bt (rHo N M G x) (q / 48) = true ∧ 1 ≤ q % 48 ∧ q % 48 ≤ g ∧ nI (par (q % 48)) = nI x) (fun z => ez' z.2.2.2.2)]
      · rw [decide_eq_false hr, Bool.false_and, Bool.false_and, if_neg (c := q / 48 < N ∧ bt (rHo N M G x) (q / 48) = true ∧ 1 ≤ q % 48 ∧ q % 48 ≤ g ∧ M m_parent (q % 48) = nI x) (fun z => hr ⟨z.2.2.1, z.2.2.2.1⟩)]
    · rw [hj, swp_pro hq, swp_pro hq, h3 q hq, gset_o (by simp)]
      unfold dR
      by_cases ez : q % 48 = x
      · rw [ez, hD, decide_eq_true rfl, if_pos rfl, if_pos rfl, if_neg (by decide)]
      · have eh : rHo N M1 G (q % 48) = rHo N M G (q % 48) := sN_congr _ _ _ (fun s _ hs => by
          rw [h1 m_has (48 * s + q % 48) (Or.inl rfl) (by omega), if_neg (fun z => ez (by have := z.2.2; omega)), gset_o (by simp)])
        rw [decide_eq_false ez, Bool.not_false, Bool.and_true, if_neg ez, eh]
  · rw [swp_oth hj, h4 j q hj]
    by_cases e : j = m_o ∧ q = 55
    · rw [e.1, e.2, gset_aa, gset_aa]
    · rw [gset_o e, gset_o e, swp_oth hj]
end ZYA
