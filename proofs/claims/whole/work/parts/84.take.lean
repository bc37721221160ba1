/-! layer 2: what a client takes -/
theorem sN_snoc {f : Nat → Bool} : ∀ (k j : Nat) (v : Int32), sN f j (k + 1) v = if f (j + k) then sN f j k v ||| sB (j + k) else sN f j k v := by
  intro k
  induction k with
  | zero => intro j v; rfl
  | succ k ih =>
    intro j v
    show sN f (j + 1) (k + 1) (if f j then v ||| sB j else v) = _
    rw [ih (j + 1), show j + 1 + k = j + (k + 1) by omega]
    rfl
section TK
variable {N g c o s : Nat} {M Mc Mr : gM}
/-- what was got of an object: scratch of the reference -/
def rGot (g : Nat) (M : gM) (val : Int32) (row : Nat → Int32) (st : Nat → Int32) (o : Nat) : gM := gpu (gpu (gset M m_o 42 val) m_gotVector 0 8 row) m_gotEntry 0 48 (fun x => if 1 ≤ x ∧ x ≤ g ∧ M m_parent x = nI o then st x else 0)
theorem rGot_fr {val : Int32} {row st : Nat → Int32} : cf (fun j q => (j.1 = 0 ∧ q = 42) ∨ j.1 = 41 ∨ j.1 = 42) M (rGot g M val row st o) := ((cf.st (Or.inl ⟨rfl, rfl⟩)).tr (cf.pu (fun _ _ _ => Or.inr (Or.inl rfl)))).tr (cf.pu (fun _ _ _ => Or.inr (Or.inr rfl)))
theorem rGot_v {val : Int32} {row st : Nat → Int32} : rGot g M val row st o m_o 42 = val := by
  unfold rGot
  rw [gpu_r, if_neg (by simp), gpu_r, if_neg (by simp), gset_r, if_pos ⟨rfl, rfl⟩]
theorem rGot_r {val : Int32} {row st : Nat → Int32} {k : Nat} (hk : k < 8) : rGot g M val row st o m_gotVector k = row k := by
  unfold rGot
  rw [gpu_r, if_neg (by simp), gpu_r, if_pos ⟨rfl, by omega, by omega⟩, Nat.sub_zero]
theorem rGot_e {val : Int32} {row st : Nat → Int32} {x : Nat} (hx : x < 48) : rGot g M val row st o m_gotEntry x = if 1 ≤ x ∧ x ≤ g ∧ M m_parent x = nI o then st x else 0 := by
  unfold rGot
  rw [gpu_r, if_pos ⟨rfl, by omega, by omega⟩, Nat.sub_zero]
theorem r_takeKept (h6 : M m_o 6 = nI (g + 1)) (hg : g ≤ 47) (hc : c < 4) (ho : o < 48) : f_X11_takeKept M (nI c) (nI o) = some (rGot g M (M m_keptValue (48 * c + o)) (fun k => M m_keptVector (8 * (48 * c + o) + k)) (fun x => M m_keptEntry (48 * c + x)) o) := by
  unfold f_X11_takeKept
  simp only [lt_d, nI_m48, nI_add]
  rw [rd_n (by omega) (by omega), show (0 : Int32) = nI 0 from rfl, r_copyTo (by show 8 * (48 * c + o) + 8 ≤ 1536; omega) (by decide) (by decide) (by decide), o1_s]
  have e1 : ∀ k, gset M m_o 42 (M m_keptValue (48 * c + o)) m_keptVector (8 * (48 * c + o) + k) = M m_keptVector (8 * (48 * c + o) + k) := fun k => by rw [gset_r, if_neg (by simp)]
  simp only [e1]
  generalize hM5 : gpu (gset M m_o 42 (M m_keptValue (48 * c + o))) m_gotVector (8 * 0) 8 (fun k => M m_keptVector (8 * (48 * c + o) + k)) = M5
  have f5 : cf (fun j q => (j.1 = 0 ∧ q = 42) ∨ j.1 = 41) M M5 := by
    rw [← hM5]
    exact (cf.st (Or.inl ⟨rfl, rfl⟩)).tr (cf.pu (fun _ _ _ => Or.inr rfl))
  refine (rowloop (E := some) (L := fun n k M => f_X11_takeKept_L34 (nI c) (nI o) n (nI k) M) (row := m_gotEntry) (base := 0) (B := 48) (h := fun M x => if 1 ≤ x ∧ x ≤ g ∧ M m_parent x = nI o then M m_keptEntry (48 * c + x) else 0) (P := fun M => M m_o 6 = nI (g + 1)) (by decide) (fun n k M hk hP => ⟨?_, ?_⟩) (fun n M _ => ?_) (fun M k q v _ a b e => ?_) (by rw [f5 _ _ (by dsimp only; omega)]; exact h6)).trans ?_
  · simp only [f_X11_takeKept_L34, lt_d, jn_d, nI_m48, nI_add, Nat.zero_add]
    rw [if_neg (ge_48 (by omega)), r_isChild hP hg hk, o1_s]
    by_cases hq : 1 ≤ k ∧ k ≤ g ∧ M m_parent k = nI o
    · rw [decide_eq_true hq, zb_t, if_neg (by decide), rd_n (by omega) (by omega), wr_n (by omega) (by omega), if_pos hq, nI_1]
    · rw [decide_eq_false hq, zb_f, if_pos rfl, wr_n (by omega) (by omega), if_neg hq, nI_1]
  · rw [gset_r, if_neg (by simp)]; exact hP
  · simp only [f_X11_takeKept_L34]
    rw [if_pos (lf_48 (by omega))]
  · have z1 : gset M m_gotEntry (0 + k) v m_parent q = M m_parent q := by rw [gset_r, if_neg (by simp)]
    have z2 : gset M m_gotEntry (0 + k) v m_keptEntry (48 * c + q) = M m_keptEntry (48 * c + q) := by rw [gset_r, if_neg (by simp)]
    simp only [z1, z2]
  · congr 1
    unfold rGot
    rw [hM5]
    refine gpu_congr (fun x _ => ?_)
    rw [f5 m_parent x (by dsimp only; omega), f5 m_keptEntry _ (by dsimp only; omega)]
/-- a copy is taken from server s's tree -/
theorem c_takeFrom (hN : N ≤ 4) (h1 : M (1, 0, 0) 3 = nI g) (hg : g ≤ 47) (ho : o < 48) (hs : s < 4) : ∃ M', f_X8_takeFrom N M (4 + c) s (nI o) = some M' ∧ cf (fun j q => ((j.1 = 51 ∨ j.1 = 52 ∨ j.1 = 53) ∧ j.2.1 = 4 + c ∧ q = o) ∨ (j.1 = 55 ∧ j.2.1 = 4 + c ∧ j.2.2 = o) ∨ ((j.1 = 56 ∨ j.1 = 58) ∧ j.2.1 = 4 + c)) M M' ∧ M' (51, 4 + c, 0) o = 1 ∧ M' (52, 4 + c, 0) o = M (52, s, 0) o ∧ M' (53, 4 + c, 0) o = M (53, s, 0) o ∧ (∀ k, k < N + 4 → M' (55, 4 + c, o) k = M (55, s, o) k) ∧ ∀ q, q < 48 → M' (56, 4 + c, 0) q = if o < q ∧ q ≤ g ∧ M (2, 0, 0) q = nI o then M (56, s, 0) q else M (56, 4 + c, 0) q := by
  have f1 : cf (fun j q => ((j.1 = 51 ∨ j.1 = 52 ∨ j.1 = 53) ∧ j.2.1 = 4 + c ∧ q = o) ∨ (j.1 = 55 ∧ j.2.1 = 4 + c ∧ j.2.2 = o)) M (gpu (gset (gset (gset M (51, 4 + c, 0) o 1) (52, 4 + c, 0) o (M (52, s, 0) o)) (53, 4 + c, 0) o (M (53, s, 0) o)) (55, 4 + c, o) 0 (N + 4) (M (55, s, o))) := (((cf.st (by dsimp only; omega)).tr (cf.st (by dsimp only; omega))).tr (cf.st (by dsimp only; omega))).tr (cf.pu (fun _ _ _ => by dsimp only; omega))
  have hbeg : f_X8_takeFrom N M (4 + c) s (nI o) = f_X8_takeFrom_L43 N (4 + c) s (nI o) 100 (nI (o + 1)) (gpu (gset (gset (gset M (51, 4 + c, 0) o 1) (52, 4 + c, 0) o (M (52, s, 0) o)) (53, 4 + c, 0) o (M (53, s, 0) o)) (55, 4 + c, o) 0 (N + 4) (M (55, s, o))) := by
    unfold f_X8_takeFrom
    have z1 : gset M (51, 4 + c, 0) o 1 (52, s, 0) o = M (52, s, 0) o := by rw [gset_r, if_neg (by simp)]
    have z2 : gset M (51, 4 + c, 0) o 1 (53, s, 0) o = M (53, s, 0) o := by rw [gset_r, if_neg (by simp)]
    have z3 : gset (gset (gset M (51, 4 + c, 0) o 1) (52, 4 + c, 0) o (M (52, s, 0) o)) (53, 4 + c, 0) o (M (53, s, 0) o) (55, s, o) = M (55, s, o) := by
      funext q
      rw [gset_r, if_neg (by simp), gset_r, if_neg (by simp), gset_r, if_neg (by simp)]
    rw [wz_1 ho (by omega), rd_n ho (by omega), rd_n ho (by omega), c_setFile ho, o1_s, ix_n ho (by omega), ix_n ho (by omega), c_assign (cN55 N (4 + c) o) (cN55 N s o) (by omega), o1_s, lt_d, nI_1, z1, z2, z3]
  rw [hbeg]
  have v1 : ∀ t x, t = 51 ∨ t = 52 ∨ t = 53 → (gpu (gset (gset (gset M (51, 4 + c, 0) o 1) (52, 4 + c, 0) o (M (52, s, 0) o)) (53, 4 + c, 0) o (M (53, s, 0) o)) (55, 4 + c, o) 0 (N + 4) (M (55, s, o))) (t, 4 + c, 0) o = x → x = (if t = 51 then 1 else if t = 52 then M (52, s, 0) o else M (53, s, 0) o) := by
    intro t x ht hx
    rw [← hx]
    rcases ht with rfl | rfl | rfl
    · rw [gpu_r, if_neg (by simp), gset_r, if_neg (by simp), gset_r, if_neg (by simp), gset_r, if_pos ⟨rfl, rfl⟩]; rfl
    · rw [gpu_r, if_neg (by simp), gset_r, if_neg (by simp), gset_r, if_pos ⟨rfl, rfl⟩]; rfl
    · rw [gpu_r, if_neg (by simp), gset_r, if_pos ⟨rfl, rfl⟩]; rfl
  have v5 : ∀ k, k < N + 4 → (gpu (gset (gset (gset M (51, 4 + c, 0) o 1) (52, 4 + c, 0) o (M (52, s, 0) o)) (53, 4 + c, 0) o (M (53, s, 0) o)) (55, 4 + c, o) 0 (N + 4) (M (55, s, o))) (55, 4 + c, o) k = M (55, s, o) k := fun k hk => by
    rw [gpu_r, if_pos ⟨rfl, by omega, by omega⟩, Nat.sub_zero]
  have b51 := v1 51 _ (by omega) rfl
  have b52 := v1 52 _ (by omega) rfl
  have b53 := v1 53 _ (by omega) rfl
  generalize gpu (gset (gset (gset M (51, 4 + c, 0) o 1) (52, 4 + c, 0) o (M (52, s, 0) o)) (53, 4 + c, 0) o (M (53, s, 0) o)) (55, 4 + c, o) 0 (N + 4) (M (55, s, o)) = M9 at f1 v5 b51 b52 b53
  clear v1 hbeg
  have H : ∀ m k fu st, o + 1 ≤ k → k + m = 49 → m < fu → cf (fun j q => (j.1 = 56 ∨ j.1 = 58) ∧ j.2.1 = 4 + c) M9 st → (∀ q, q < 48 → st (56, 4 + c, 0) q = if o < q ∧ q < k ∧ q ≤ g ∧ M (2, 0, 0) q = nI o then M (56, s, 0) q else M (56, 4 + c, 0) q) → ∃ M', f_X8_takeFrom_L43 N (4 + c) s (nI o) fu (nI k) st = some M' ∧ cf (fun j q => (j.1 = 56 ∨ j.1 = 58) ∧ j.2.1 = 4 + c) M9 M' ∧ ∀ q, q < 48 → M' (56, 4 + c, 0) q = if o < q ∧ q ≤ g ∧ M (2, 0, 0) q = nI o then M (56, s, 0) q else M (56, 4 + c, 0) q := by
    intro m
    induction m with
    | zero =>
      intro k fu st h0 hk hf hcf hst
      obtain ⟨fu, rfl⟩ : ∃ q, fu = q + 1 := ⟨fu - 1, by omega⟩
      refine ⟨st, ?_, hcf, fun q hq => ?_⟩
      · simp only [f_X8_takeFrom_L43, lt_d]
        rw [hcf _ _ (by dsimp only; omega), f1 _ _ (by dsimp only; omega), h1, if_pos (nI_lt (by omega) (by omega))]
      · rw [hst q hq]
        exact ite1 ⟨fun x => ⟨x.1, by omega, x.2.1, x.2.2⟩, fun x => ⟨x.1, x.2.2.1, x.2.2.2⟩⟩
    | succ m ih =>
      intro k fu st h0 hk hf hcf hst
      obtain ⟨fu, rfl⟩ : ∃ q, fu = q + 1 := ⟨fu - 1, by omega⟩
      simp only [f_X8_takeFrom_L43, lt_d, jn_d]
      rw [hcf (1, 0, 0) _ (by dsimp only; omega), f1 (1, 0, 0) _ (by dsimp only; omega), h1]
      by_cases hgk : g < k
      · rw [if_pos (nI_lt hgk (by omega))]
        refine ⟨st, rfl, hcf, fun q hq => ?_⟩
        rw [hst q hq]
        exact ite1 ⟨fun x => ⟨x.1, by omega, x.2.1, x.2.2⟩, fun x => ⟨x.1, x.2.2.1, x.2.2.2⟩⟩
      · rw [if_neg (nI_nlt (by omega) (by omega)), rd_n (by omega) (by omega), hcf (2, 0, 0) _ (by dsimp only; omega), f1 (2, 0, 0) _ (by dsimp only; omega)]
        by_cases hp : M (2, 0, 0) k = nI o
        · rw [if_pos hp, rd_n (by omega) (by omega), wr_n (by omega) (by omega), ix_n (by omega) (by omega), ix_n (by omega) (by omega), c_assign (cN58 N (4 + c) k) (cN58 N s k) (by omega), o1_s, nI_1]
          refine ih (k + 1) fu _ (by omega) (by omega) (by omega) ((hcf.tr (cf.st (by dsimp only; omega))).tr (cf.pu (fun _ _ _ => by dsimp only; omega))) (fun q hq => ?_)
          rw [gpu_r, if_neg (by simp), gset_r]
          by_cases e : q = k
          · rw [if_pos ⟨rfl, e⟩, if_pos ⟨by omega, by omega, by omega, by rw [e]; exact hp⟩, hcf (56, s, 0) k (by dsimp only; omega), f1 (56, s, 0) k (by dsimp only; omega), e]
          · rw [if_neg (fun x => e x.2), hst q hq]
            exact ite1 ⟨fun x => ⟨x.1, by omega, x.2.2⟩, fun x => ⟨x.1, by omega, x.2.2⟩⟩
        · rw [if_neg hp, nI_1]
          refine ih (k + 1) fu _ (by omega) (by omega) (by omega) hcf (fun q hq => ?_)
          rw [hst q hq]
          exact ite1 ⟨fun x => ⟨x.1, by
            have : q ≠ k := fun y => hp (y ▸ x.2.2.2)
            omega, x.2.2⟩, fun x => ⟨x.1, by omega, x.2.2⟩⟩
  obtain ⟨M', k1, k2, k3⟩ := H (48 - o) (o + 1) 100 M9 (by omega) (by omega) (by omega) (cf.rf _ _) (fun q hq => by rw [if_neg (by omega)]; exact f1 _ _ (by dsimp only; omega))
  refine ⟨M', k1, (f1.mo (fun j q => by omega)).tr (k2.mo (fun j q => by omega)), ?_, ?_, ?_, fun k hk => ?_, k3⟩
  · rw [k2 _ _ (by dsimp only; omega)]; exact b51
  · rw [k2 _ _ (by dsimp only; omega)]; exact b52
  · rw [k2 _ _ (by dsimp only; omega)]; exact b53
  · rw [k2 _ _ (by dsimp only; omega)]; exact v5 k hk
theorem r_br45 {hl be x1 x2 : Int32} {J : gM → Option gM} (h6 : M m_o 6 = nI (g + 1)) (hg : g ≤ 47) (hs : s < 4) : f_X11_bring_L45 (nI c) (nI o) (nI s) hl be x1 x2 J 100 (0 : Int32) M = J (gpu M m_gotEntry 0 48 (fun x => if 1 ≤ x ∧ x ≤ g ∧ M m_parent x = nI o then M m_entry (48 * s + x) else 0)) := by
  refine rowloop (E := J) (L := fun n k M => f_X11_bring_L45 (nI c) (nI o) (nI s) hl be x1 x2 J n (nI k) M) (row := m_gotEntry) (base := 0) (B := 48) (h := fun M x => if 1 ≤ x ∧ x ≤ g ∧ M m_parent x = nI o then M m_entry (48 * s + x) else 0) (P := fun M => M m_o 6 = nI (g + 1)) (by decide) (fun n k M hk hP => ⟨?_, ?_⟩) (fun n M _ => ?_) (fun M k q v _ a b e => ?_) h6
  · simp only [f_X11_bring_L45, lt_d, jn_d, nI_m48, nI_add, Nat.zero_add]
    rw [if_neg (ge_48 (by omega)), r_isChild hP hg hk, o1_s]
    by_cases hq : 1 ≤ k ∧ k ≤ g ∧ M m_parent k = nI o
    · rw [decide_eq_true hq, zb_t, if_neg (by decide), rd_n (by omega) (by omega), wr_n (by omega) (by omega), if_pos hq, nI_1]
    · rw [decide_eq_false hq, zb_f, if_pos rfl, wr_n (by omega) (by omega), if_neg hq, nI_1]
  · rw [gset_r, if_neg (by simp)]; exact hP
  · simp only [f_X11_bring_L45]
    rw [if_pos (lf_48 (by omega))]
  · have z1 : gset M m_gotEntry (0 + k) v m_parent q = M m_parent q := by rw [gset_r, if_neg (by simp)]
    have z2 : gset M m_gotEntry (0 + k) v m_entry (48 * s + q) = M m_entry (48 * s + q) := by rw [gset_r, if_neg (by simp)]
    simp only [z1, z2]
theorem r_br201 {hl x1 x2 : Int32} {J : gM → Option gM} (h6 : M m_o 6 = nI (g + 1)) (hg : g ≤ 47) (hc : c < 4) (hs : s < 4) : ∃ M', f_X11_bring_L201 (nI c) (nI o) (nI s) hl x1 x2 J 100 (1 : Int32) M = J M' ∧ cf (fun j q => (j.1 = 30 ∧ 48 * c ≤ q ∧ q < 48 * c + 48) ∨ j.1 = 31) M M' ∧ ∀ x, x < 48 → M' m_keptEntry (48 * c + x) = if 1 ≤ x ∧ x ≤ g ∧ M m_parent x = nI o then M m_entry (48 * s + x) else M m_keptEntry (48 * c + x) := by
  have H : ∀ m k fu st, 1 ≤ k → k + m = g + 1 → m < fu → cf (fun j q => (j.1 = 30 ∧ 48 * c ≤ q ∧ q < 48 * c + 48) ∨ j.1 = 31) M st → (∀ x, x < 48 → st m_keptEntry (48 * c + x) = if 1 ≤ x ∧ x < k ∧ M m_parent x = nI o then M m_entry (48 * s + x) else M m_keptEntry (48 * c + x)) → ∃ M', f_X11_bring_L201 (nI c) (nI o) (nI s) hl x1 x2 J fu (nI k) st = J M' ∧ cf (fun j q => (j.1 = 30 ∧ 48 * c ≤ q ∧ q < 48 * c + 48) ∨ j.1 = 31) M M' ∧ ∀ x, x < 48 → M' m_keptEntry (48 * c + x) = if 1 ≤ x ∧ x ≤ g ∧ M m_parent x = nI o then M m_entry (48 * s + x) else M m_keptEntry (48 * c + x) := by
    intro m
    induction m with
    | zero =>
      intro k fu st h0 hk hf hcf hst
      obtain ⟨fu, rfl⟩ : ∃ q, fu = q + 1 := ⟨fu - 1, by omega⟩
      refine ⟨st, ?_, hcf, fun x hx => ?_⟩
      · simp only [f_X11_bring_L201, lt_d]
        rw [hcf m_o 6 (by dsimp only; omega), h6, if_pos (nI_le (by omega) (by omega))]
      · rw [hst x hx]
        exact ite1 ⟨fun x => ⟨x.1, by omega, x.2.2⟩, fun x => ⟨x.1, by omega, x.2.2⟩⟩
    | succ m ih =>
      intro k fu st h0 hk hf hcf hst
      obtain ⟨fu, rfl⟩ : ∃ q, fu = q + 1 := ⟨fu - 1, by omega⟩
      have e6 : st m_o 6 = nI (g + 1) := by rw [hcf m_o 6 (by dsimp only; omega)]; exact h6
      simp only [f_X11_bring_L201, lt_d, jn_d, nI_m48, nI_add]
      rw [e6, if_neg (nI_ge (by omega) (by omega)), r_isChild e6 hg (by omega), o1_s, hcf m_parent k (by dsimp only; omega)]
      by_cases hp : M m_parent k = nI o
      · rw [decide_eq_true ⟨by omega, by omega, hp⟩, zb_t, if_neg (by decide), rd_n (by omega) (by omega), wr_n (by omega) (by omega), r_copyTo (by show 8 * (48 * s + k) + 8 ≤ 1536; omega) (by show 8 * (48 * c + k) + 8 ≤ 1536; omega) (by decide) (by decide), o1_s, nI_1]
        refine ih (k + 1) fu _ (by omega) (by omega) (by omega) ((hcf.tr (cf.st (by dsimp only; omega))).tr (cf.pu (fun _ _ _ => by dsimp only; omega))) (fun x hx => ?_)
        rw [gpu_r, if_neg (by simp), gset_r]
        by_cases e : x = k
        · rw [if_pos ⟨rfl, by omega⟩, if_pos ⟨by omega, by omega, by rw [e]; exact hp⟩, hcf m_entry _ (by dsimp only; omega), e]
        · rw [if_neg (fun x => e (by omega)), hst x hx]
          exact ite1 ⟨fun x => ⟨x.1, by omega, x.2.2⟩, fun x => ⟨x.1, by omega, x.2.2⟩⟩
      · rw [decide_eq_false (fun x => hp x.2.2), zb_f, if_pos rfl, nI_1]
        refine ih (k + 1) fu _ (by omega) (by omega) (by omega) hcf (fun x hx => ?_)
        rw [hst x hx]
        exact ite1 ⟨fun y => ⟨y.1, by
          have : x ≠ k := fun z => hp (z ▸ y.2.2)
          omega, y.2.2⟩, fun y => ⟨y.1, by omega, y.2.2⟩⟩
  exact H g 1 100 M (by omega) (by omega) (by omega) (cf.rf _ _) (fun x hx => by rw [if_neg (by omega)])
theorem r_br287 {hl : Int32} {J : gM → Option gM} (h0 : M m_o 0 = nI N) (h1 : M m_o 1 = nI (N + 4)) (hN : N ≤ 4) (hc : c < 4) (ho : o < 48) (hs : s < 4) (hp : M m_promised (48 * c + o) = 0) : ∃ M', f_X11_bring_L287 (nI c) (nI o) hl (nI (48 * c + o)) (nI (48 * s + o)) J 100 (0 : Int32) M = J M' ∧ cf (fun j q => j.1 = 26 ∧ q = 48 * c + o) M M' ∧ M' m_promised (48 * c + o) = sS (fun t => bt hl t && (!nz (M m_versions (48 * t + o)) && rEq (fun k => M m_vector (8 * (48 * t + o) + k)) (fun k => M m_vector (8 * (48 * s + o) + k)) 0 (N + 4))) N := by
  have H : ∀ m k fu st, k + m = N → m < fu → cf (fun j q => j.1 = 26 ∧ q = 48 * c + o) M st → st m_promised (48 * c + o) = sN (fun t => bt hl t && (!nz (M m_versions (48 * t + o)) && rEq (fun k => M m_vector (8 * (48 * t + o) + k)) (fun k => M m_vector (8 * (48 * s + o) + k)) 0 (N + 4))) 0 k 0 → ∃ M', f_X11_bring_L287 (nI c) (nI o) hl (nI (48 * c + o)) (nI (48 * s + o)) J fu (nI k) st = J M' ∧ cf (fun j q => j.1 = 26 ∧ q = 48 * c + o) M M' ∧ M' m_promised (48 * c + o) = sS (fun t => bt hl t && (!nz (M m_versions (48 * t + o)) && rEq (fun k => M m_vector (8 * (48 * t + o) + k)) (fun k => M m_vector (8 * (48 * s + o) + k)) 0 (N + 4))) N := by
    intro m
    induction m with
    | zero =>
      intro k fu st hk hf hcf hst
      obtain ⟨fu, rfl⟩ : ∃ q, fu = q + 1 := ⟨fu - 1, by omega⟩
      refine ⟨st, ?_, hcf, by rw [hst, show k = N by omega]⟩
      simp only [f_X11_bring_L287, lt_d]
      rw [hcf m_o 0 (by dsimp only; omega), h0, if_pos (nI_le (by omega) (by omega))]
    | succ m ih =>
      intro k fu st hk hf hcf hst
      obtain ⟨fu, rfl⟩ : ∃ q, fu = q + 1 := ⟨fu - 1, by omega⟩
      have e1 : st m_o 1 = nI (N + 4) := by rw [hcf m_o 1 (by dsimp only; omega)]; exact h1
      have ev : ∀ q, st m_versions q = M m_versions q := fun q => hcf _ _ (by dsimp only; omega)
      have ew : ∀ q, st m_vector q = M m_vector q := fun q => hcf _ _ (by dsimp only; omega)
      have hsn := sN_snoc (f := fun t => bt hl t && (!nz (M m_versions (48 * t + o)) && rEq (fun k => M m_vector (8 * (48 * t + o) + k)) (fun k => M m_vector (8 * (48 * s + o) + k)) 0 (N + 4))) k 0 0
      rw [Nat.zero_add] at hsn
      simp only [f_X11_bring_L287, lt_d, jn_d, nI_m48, nI_add, bt_1 (show k < 32 by omega)]
      rw [hcf m_o 0 (by dsimp only; omega), h0, if_neg (nI_ge (by omega) (by omega))]
      -- not in the set: it stays
      have stay : (bt hl k && (!nz (M m_versions (48 * k + o)) && rEq (fun j => M m_vector (8 * (48 * k + o) + j)) (fun j => M m_vector (8 * (48 * s + o) + j)) 0 (N + 4))) = false → ∃ M', f_X11_bring_L287 (nI c) (nI o) hl (nI (48 * c + o)) (nI (48 * s + o)) J fu (nI k + 1) (gset st m_promised (48 * c + o) (st m_promised (48 * c + o))) = J M' ∧ cf (fun j q => j.1 = 26 ∧ q = 48 * c + o) M M' ∧ M' m_promised (48 * c + o) = sS (fun t => bt hl t && (!nz (M m_versions (48 * t + o)) && rEq (fun k => M m_vector (8 * (48 * t + o) + k)) (fun k => M m_vector (8 * (48 * s + o) + k)) 0 (N + 4))) N := fun hf0 => by
        rw [nI_1]
        refine ih (k + 1) fu _ (by omega) (by omega) (hcf.tr (cf.st ⟨rfl, rfl⟩)) ?_
        rw [gset_r, if_pos ⟨rfl, rfl⟩, hst, hsn, if_neg (by rw [hf0]; decide)]
      have come : (bt hl k && (!nz (M m_versions (48 * k + o)) && rEq (fun j => M m_vector (8 * (48 * k + o) + j)) (fun j => M m_vector (8 * (48 * s + o) + j)) 0 (N + 4))) = true → ∃ M', f_X11_bring_L287 (nI c) (nI o) hl (nI (48 * c + o)) (nI (48 * s + o)) J fu (nI k + 1) (gset st m_promised (48 * c + o) (st m_promised (48 * c + o) ||| ((1 : Int32) <<< (nI k &&& 31)))) = J M' ∧ cf (fun j q => j.1 = 26 ∧ q = 48 * c + o) M M' ∧ M' m_promised (48 * c + o) = sS (fun t => bt hl t && (!nz (M m_versions (48 * t + o)) && rEq (fun k => M m_vector (8 * (48 * t + o) + k)) (fun k => M m_vector (8 * (48 * s + o) + k)) 0 (N + 4))) N := fun hf0 => by
        rw [nI_1]
        refine ih (k + 1) fu _ (by omega) (by omega) (hcf.tr (cf.st ⟨rfl, rfl⟩)) ?_
        rw [gset_r, if_pos ⟨rfl, rfl⟩, hst, hsn, if_pos hf0]
        rfl
      cases hb : bt hl k with
      | false =>
        rw [if_neg (by decide), if_pos trivial, rd_n (by omega) (by omega), wr_n (by omega) (by omega)]
        exact stay (by rw [hb]; rfl)
      | true =>
        rw [if_pos rfl, rd_n (by omega) (by omega), ev]
        by_cases hv : M m_versions (48 * k + o) = 0
        · rw [if_pos hv, r_isSame e1 (by omega) (by show 8 * (48 * k + o) + 8 ≤ 1536; omega) (by show 8 * (48 * s + o) + 8 ≤ 1536; omega) (by decide) (by decide), o1_s]
          simp only [ew]
          cases hq : rEq (fun j => M m_vector (8 * (48 * k + o) + j)) (fun j => M m_vector (8 * (48 * s + o) + j)) 0 (N + 4) with
          | false =>
            rw [zb_f, if_pos rfl, if_pos trivial, rd_n (by omega) (by omega), wr_n (by omega) (by omega)]
            exact stay (by rw [hb, hq]; simp)
          | true =>
            rw [zb_t, if_neg (by decide), if_neg (by decide), rd_n (by omega) (by omega), wr_n (by omega) (by omega)]
            exact come (by rw [hb, hq]; simp [nz, hv])
        · rw [if_neg hv, if_pos trivial, rd_n (by omega) (by omega), wr_n (by omega) (by omega)]
          exact stay (by rw [hb]; simp [nz, hv])
  exact H N 0 100 M (by omega) (by omega) (cf.rf _ _) hp
end TK
