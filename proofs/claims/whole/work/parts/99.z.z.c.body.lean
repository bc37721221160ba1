/-! layer 2: an object of a meeting -/
def rJo (M6 : gM) (k : Nat) : Option gM := rd M6 m_isDirectory 48 (nI k) (fun v7 => if v7 = 0 then o1 (f_X11_mergeFile M6 (nI k)) (fun M10 => some M10) else o1 (f_X11_mergeDirectory M6 (nI k)) (fun M12 => some M12))
def rSwp (M : gM) (k : Nat) : Option gM := wz M m_swept 48 (nI k) (1 : Int32) (fun M31 => o1 (f_X11_sweep M31 (nI k)) (fun M33 => some M33))
def rFo (M5 : gM) (k : Nat) : Option gM := o1 (f_X11_foresee M5 (nI k)) (fun M15 => rd M15 m_canGo 48 (nI k) (fun v16 => if v16 = 0 then o1 (f_X11_again M15 (nI k)) (fun M19 => rJo M19 k) else rSwp M15 k))
def rStan (M1 : gM) (k : Nat) : Option gM := o1 (f_X11_standing M1 (nI k)) (fun v3 => if v3 = 0 then some M1 else if v3 = (2 : Int32) then o1 (f_X11_someHas M1 (nI k)) (fun v25 => if v25 = 0 then some M1 else rFo M1 k) else rJo M1 k)
def cJo {β : Type} (N : Nat) (M : gM) (k : Nat) (K : gM → Option β) : Option β := rd M (4, 0, 0) 48 (nI k) (fun v12 => if v12 = 0 then o1 (f_X4_joinFile N M (nI k)) (fun M15 => K M15) else o1 (f_X4_joinDirectory N M (nI k)) (fun M17 => K M17))
section ZZC
variable {N g B s o c d x y z T n m t l i j a b p k u : Nat} {A E M M1 M0 R0 M' X Y Mc Mr Mc' Mr' : gM} {row a3 : gI} {D P : Nat → Bool} {G H pd v w nr a1 a2 a4 a5 : Int32} {f r : Nat → Int32} {zz : lS} {par : Nat → Nat}
theorem r_meetAt : f_X11_meetAt M (nI k) = if nI k ≤ 0 then rStan M k else rd M m_parent 48 (nI k) (fun v28 => rd M m_swept 48 v28 (fun v29 => if v29 = 0 then rStan M k else rSwp M k)) := by
  have e : ∀ M1 : gM, (o1 (f_X11_standing M1 (nI k)) (fun v3 => (if v3 = 0 then some M1 else jn (fun (M5 : gM) => jn (fun (M6 : gM) => rd M6 m_isDirectory 48 (nI k) (fun v7 => (if v7 = 0 then o1 (f_X11_mergeFile M6 (nI k)) (fun M10 => some M10) else o1 (f_X11_mergeDirectory M6 (nI k)) (fun M12 => some M12)))) (fun J92 => (if v3 = (2 : Int32) then o1 (f_X11_foresee M5 (nI k)) (fun M15 => rd M15 m_canGo 48 (nI k) (fun v16 => (if v16 = 0 then o1 (f_X11_again M15 (nI k)) (fun M19 => J92 M19) else wz M15 m_swept 48 (nI k) (1 : Int32) (fun M20 => o1 (f_X11_sweep M20 (nI k)) (fun M22 => some M22))))) else J92 M5))) (fun J55 => (if v3 = (2 : Int32) then o1 (f_X11_someHas M1 (nI k)) (fun v25 => (if v25 = 0 then some M1 else J55 M1)) else J55 M1)))) : Option gM) = rStan M1 k := fun M1 => by
    unfold rStan rFo rJo rSwp
    refine congrArg _ (funext fun v3 => ?_)
    by_cases h0 : v3 = 0
    · rw [if_pos h0, if_pos h0]
    · rw [if_neg h0, if_neg h0, jn_d]
      by_cases h2 : v3 = (2 : Int32)
      · rw [if_pos h2, if_pos h2]
        refine congrArg _ (funext fun v25 => ?_)
        by_cases h3 : v25 = 0
        · rw [if_pos h3, if_pos h3]
        · rw [if_neg h3, if_neg h3]
          dsimp only
          rw [jn_d, if_pos h2]
      · rw [if_neg h2, if_neg h2]
        dsimp only
        rw [jn_d, if_neg h2]
  unfold f_X11_meetAt
  rw [jn_d]
  by_cases h0 : nI k ≤ (0 : Int32)
  · rw [if_pos h0, if_pos h0]; exact e M
  · rw [if_neg h0, if_neg h0]
    refine congrArg _ (funext fun v28 => congrArg _ (funext fun v29 => ?_))
    by_cases h1 : v29 = 0
    · rw [if_pos h1, if_pos h1]; exact e M
    · rw [if_neg h1, if_neg h1]; rfl
theorem c_holdAt (hg : g ≤ 47) (hkg : k ≤ g) (h3 : M (1, 0, 0) 3 = nI g) : f_X4_hold_L12 N (u + 1) (nI k) M = if nI k = 0 then cJo N M k (fun M9 => f_X4_hold_L12 N u (nI (k + 1)) M9) else ob (f_X4_isToStay N M (nI k)) (fun v21 M20 => if v21 = 0 then f_X4_hold_L12 N u (nI (k + 1)) M20 else cJo N M20 k (fun M9 => f_X4_hold_L12 N u (nI (k + 1)) M9)) := by
  rw [f_X4_hold_L12, lt_d, h3, if_neg (show ¬ nI g < nI k by rw [nlt (by omega) (by omega)]; omega), jn_d, jn_d]
  unfold cJo
  simp only [lt_d, nI_1]
theorem c_stay (hN : N ≤ 4) (hk : k < 48) (hs : s < N) (hb : bt G s = true) (hG : M (13, 0, 0) 6 = G) : f_X4_isToStay N M (nI k) = if M (56, lst N G, 0) k = 1 then some ((1 : Int32), M) else if cHo N M G k = 0 then some ((0 : Int32), M) else if M (56, lst N G, 0) k = 2 then ob (f_X4_canBeDropped N M (nI k)) (fun v14 M13 => if v14 = 0 then o1 (f_X4_bringBack N M13 (nI k)) (fun M17 => some ((1 : Int32), M17)) else o1 (f_X4_dropInside N M13) (fun M19 => some ((0 : Int32), M19))) else some ((1 : Int32), M) := by
  obtain ⟨l1, l2, l3⟩ := lst_in hs hb
  unfold f_X4_isToStay
  rw [lt_d, hG, c_leastOf hN, o1_s, ix_n l1 (by omega), rd_n hk (by omega)]
  by_cases h1 : M (56, lst N G, 0) k = 1
  · rw [if_pos h1, if_pos h1]
  · rw [if_neg h1, if_neg h1, lt_d, c_holders hN hk, o1_s]
theorem ho_0 (hN : N ≤ 4) : (cHo N M G k = 0) = ∀ s, s < N → bt G s = true → M (51, s, 0) k = 0 := by
  unfold cHo
  rw [sS_z (by omega)]
  refine propext ⟨fun h s hs hb => ?_, fun h s hs => ?_⟩
  · have := h s hs
    rw [hb, Bool.true_and] at this
    exact Classical.not_not.mp (fun z => by rw [(nz_t _).mpr z] at this; exact absurd this (by decide))
  · cases hb : bt G s with
    | false => rfl
    | true => rw [h s hs hb]; rfl
theorem insI_congr (h : ∀ z, M' (2, 0, 0) z = M (2, 0, 0) z) : ∀ n x, x < n → insI M' o x = insI M o x := by
  intro n
  induction n with
  | zero => intro x hx; omega
  | succ n ih =>
    intro x hx
    rw [insI, insI.eq_1 M, h x]
    by_cases e : x = o
    · rw [if_pos e, if_pos e]
    · rw [if_neg e, if_neg e]
      by_cases e2 : x < o
      · rw [if_pos e2, if_pos e2]
      · rw [if_neg e2, if_neg e2]
        by_cases e3 : (M (2, 0, 0) x).toNatClampNeg < x
        · rw [dif_pos e3, dif_pos e3]; exact ih _ (by omega)
        · rw [dif_neg e3, dif_neg e3]
theorem ins_live (hg : g ≤ 47) (hpar : ∀ z, 1 ≤ z → z ≤ g → Mc (2, 0, 0) z = nI (par z) ∧ par z < z) (hk1 : 1 ≤ k) (hkg : k ≤ g) (hDk : D k = false) (hS : sK N g G par k D Mc Mr) : ∀ n z, z < n → z ≤ g → insI Mc k z = true → D z = false := by
  intro n
  induction n with
  | zero => intro z hz; omega
  | succ n ih =>
    intro z hz hzg hi
    have hge := ins_ge hi
    by_cases e : z = k
    · subst e; exact hDk
    · obtain ⟨p1, p2⟩ := hpar z (by omega) hzg
      rw [insI_gt (by omega) p2 (by omega) p1] at hi
      have hge2 := ins_ge hi
      have hp := ih (par z) (by omega) (by omega) hi
      refine Bool.eq_false_iff.mpr (fun w => ?_)
      rcases (hS.2.2.1 z (by omega) (by omega) hzg).mp w with w | w
      · rw [hp] at w; exact absurd w (by decide)
      · omega
theorem none_LI (hN : N ≤ 4) (hkg : k ≤ g) (hpar : ∀ z, 1 ≤ z → z ≤ g → Mc (2, 0, 0) z = nI (par z) ∧ par z < z) (hDk : D k = false) (hM : MM N g G (pds N G D Mr) D (pO par g D) Mc Mr) (hI : dI N g G par D Mr) (hS : sK N g G par k D Mc Mr) (hA : aG N g G par k M0 Mc) (f0 : cf uQq R0 Mr) (h0 : ∀ s, s < N → bt G s = true → Mc (51, s, 0) k = 0) : LI N g G par (k + 1) M0 R0 Mc Mr := by
  have I := hM.2.1
  have hg := I.1.1
  refine LI_next hN hg hkg (fun z z1 z2 => (hpar z z1 z2).2) hDk hM hI hS hA (fun _ _ _ _ => rfl) (Or.inr h0) (fun x x1 x2 x3 s t hs ht hbs hbt => ?_) (fun _ _ _ h => h) (cf.rf _ _) f0 (cf.rf _ _) (fun _ => rfl) (cf.rf _ _)
  by_cases e : par x = k
  · have z0 : ∀ s, s < N → bt G s = true → Mc (56, s, 0) x = 0 := fun s hs hb => Classical.not_not.mp (fun z => by
      have := ((I.2.2.1 s hs x (by omega)).2.2.2.2 k (by omega) x1 (by rw [(hpar x x1 x2).1, e])).2 z
      rw [h0 s hs hb] at this; exact absurd this (by decide))
    rw [z0 s hs hbs, z0 t ht hbt]
  · exact hA.2.1 x x1 x2 (by omega) s t hs ht hbs hbt
end ZZC
