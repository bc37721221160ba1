/-! layer 2: the reference makes room without looking at vectors and promises -/
def pX (A1 A2 M1 M2 : gM) : Prop := (∀ j : gI, j ≠ m_keptVector → j ≠ m_promised → M1 j = M2 j) ∧ M1 m_keptVector = A1 m_keptVector ∧ M2 m_keptVector = A2 m_keptVector ∧ ∀ q, (M1 m_promised q = A1 m_promised q ∧ M2 m_promised q = A2 m_promised q) ∨ (M1 m_promised q = 0 ∧ M2 m_promised q = 0)
def oR {α β : Type} (P : α → β → Prop) (x : Option α) (y : Option β) : Prop := match x, y with
  | none, none => True
  | some a, some b => P a b
  | _, _ => False
section SH
variable {α β γ δ : Type} {P : β → γ → Prop} {Q : α → δ → Prop} {A1 A2 M1 M2 : gM} {i : gI} {n k : Nat} {v x a1 a2 a3 a4 : Int32}
theorem oR_o1 {x y : Option α} (h : x = y) {k : α → Option β} {k' : α → Option γ} (hk : ∀ a, oR P (k a) (k' a)) : oR P (o1 x k) (o1 y k') := by
  subst h
  cases x
  · exact trivial
  · exact hk _
theorem oR_oR {x : Option α} {y : Option δ} (h : oR Q x y) {k : α → Option β} {k' : δ → Option γ} (hk : ∀ a b, Q a b → oR P (k a) (k' b)) : oR P (o1 x k) (o1 y k') := by
  cases x <;> cases y
  · exact trivial
  · exact False.elim h
  · exact False.elim h
  · exact hk _ _ h
theorem oR_if {p : Prop} {_ : Decidable p} {x x' : Option β} {y y' : Option γ} (h : oR P x y) (h' : oR P x' y') : oR P (if p then x else x') (if p then y else y') := by
  by_cases e : p
  · rw [if_pos e, if_pos e]; exact h
  · rw [if_neg e, if_neg e]; exact h'
theorem pX.st (h : pX A1 A2 M1 M2) (n1 : i ≠ m_keptVector) (n2 : i ≠ m_promised) : pX A1 A2 (gset M1 i k v) (gset M2 i k v) := by
  obtain ⟨h1, h2, h3, h4⟩ := h
  have e : ∀ (M : gM) (j : gI), j ≠ i → gset M i k v j = M j := fun M j hj => by funext q; rw [gset_r, if_neg (fun z => hj z.1)]
  refine ⟨fun j a b => ?_, ?_, ?_, fun q => ?_⟩
  · funext q; rw [gset_r, gset_r, h1 j a b]
  · rw [e _ _ n1.symm]; exact h2
  · rw [e _ _ n1.symm]; exact h3
  · rw [e _ _ n2.symm, e _ _ n2.symm]; exact h4 q
theorem pX.p0 (h : pX A1 A2 M1 M2) : pX A1 A2 (gset M1 m_promised k 0) (gset M2 m_promised k 0) := by
  obtain ⟨h1, h2, h3, h4⟩ := h
  have e : ∀ (M : gM) (j : gI), j ≠ m_promised → gset M m_promised k 0 j = M j := fun M j hj => by funext q; rw [gset_r, if_neg (fun z => hj z.1)]
  refine ⟨fun j a b => ?_, ?_, ?_, fun q => ?_⟩
  · rw [e _ _ b, e _ _ b]; exact h1 j a b
  · rw [e _ _ (by decide)]; exact h2
  · rw [e _ _ (by decide)]; exact h3
  · rw [gset_r, gset_r]
    by_cases z : q = k
    · rw [if_pos ⟨rfl, z⟩, if_pos ⟨rfl, z⟩]; exact Or.inr ⟨rfl, rfl⟩
    · rw [if_neg (fun y => z y.2), if_neg (fun y => z y.2)]; exact h4 q
theorem oR_wr (h : pX A1 A2 M1 M2) (n1 : i ≠ m_keptVector) (n2 : i ≠ m_promised) {K : gM → Option β} {K' : gM → Option γ} (hk : ∀ M1' M2', pX A1 A2 M1' M2' → oR P (K M1') (K' M2')) : oR P (wr M1 i n x v K) (wr M2 i n x v K') := by
  unfold wr
  cases gin x n
  · exact trivial
  · exact hk _ _ (h.st n1 n2)
theorem oR_wz (h : pX A1 A2 M1 M2) (n1 : i ≠ m_keptVector) (n2 : i ≠ m_promised) {K : gM → Option β} {K' : gM → Option γ} (hk : ∀ M1' M2', pX A1 A2 M1' M2' → oR P (K M1') (K' M2')) : oR P (wz M1 i n x v K) (wz M2 i n x v K') := by
  unfold wz
  cases gin x n
  · exact trivial
  · exact hk _ _ (h.st n1 n2)
theorem oR_w0 (h : pX A1 A2 M1 M2) {K : gM → Option β} {K' : gM → Option γ} (hk : ∀ M1' M2', pX A1 A2 M1' M2' → oR P (K M1') (K' M2')) : oR P (wr M1 m_promised n x 0 K) (wr M2 m_promised n x 0 K') := by
  unfold wr
  cases gin x n
  · exact trivial
  · exact hk _ _ h.p0
theorem pX_may (h : pX A1 A2 M1 M2) : f_X11_mayGo M1 a1 a2 a3 a4 = f_X11_mayGo M2 a1 a2 a3 a4 := by
  unfold f_X11_mayGo rd
  simp only [h.1 m_kept (by decide) (by decide), h.1 m_dirty (by decide) (by decide), h.1 m_usedBy (by decide) (by decide), h.1 m_o (by decide) (by decide), h.1 m_priorities (by decide) (by decide)]
theorem pX_bef (h : pX A1 A2 M1 M2) : f_X11_goesBefore M1 a1 a2 = f_X11_goesBefore M2 a1 a2 := by
  unfold f_X11_goesBefore rd
  simp only [h.1 m_usedAt (by decide) (by decide), h.1 m_priorities (by decide) (by decide)]
theorem pX_wt (h : pX A1 A2 M1 M2) : f_X11_weightKept M1 a1 a2 = f_X11_weightKept M2 a1 a2 := by
  unfold f_X11_weightKept f_X11_weight rd
  simp only [h.1 m_kept (by decide) (by decide), h.1 m_keptSize (by decide) (by decide), h.1 m_isDirectory (by decide) (by decide)]
theorem pX_chi (h : pX A1 A2 M1 M2) : f_X11_isChild M1 a1 a2 = f_X11_isChild M2 a1 a2 := by
  unfold f_X11_isChild rd
  simp only [h.1 m_o (by decide) (by decide), h.1 m_parent (by decide) (by decide)]
theorem pX_fg1 : ∀ (f : Nat) (x : Int32) (M1 M2 : gM), pX A1 A2 M1 M2 → oR (pX A1 A2) (f_X11_forget_L38 a1 a2 f x M1) (f_X11_forget_L38 a1 a2 f x M2) := by
  intro f
  induction f with
  | zero => intro x M1 M2 _; exact trivial
  | succ f ih =>
    intro x M1 M2 h
    simp only [f_X11_forget_L38, lt_d, jn_d, h.1 m_o (by decide) (by decide)]
    refine oR_if h (oR_o1 (pX_chi h) (fun v => oR_if (ih _ _ _ h) (oR_wr h (by decide) (by decide) (fun _ _ h' => ih _ _ _ h'))))
theorem pX_fg (h : pX A1 A2 M1 M2) : oR (pX A1 A2) (f_X11_forget M1 a1 a2) (f_X11_forget M2 a1 a2) := by
  unfold f_X11_forget
  exact oR_wz h (by decide) (by decide) (fun _ _ h => oR_wz h (by decide) (by decide) (fun _ _ h => oR_w0 h (fun _ _ h => pX_fg1 _ _ _ _ h)))
def pX2 (A1 A2 : gM) (p q : Int32 × gM) : Prop := p.1 = q.1 ∧ pX A1 A2 p.2 q.2
theorem pX_best {x5 : Int32} {J1 J2 : Int32 × gM → Option (Int32 × gM)} (hJ : ∀ b M1 M2, pX A1 A2 M1 M2 → oR (pX2 A1 A2) (J1 (b, M1)) (J2 (b, M2))) : ∀ (f : Nat) (b x : Int32) (M1 M2 : gM), pX A1 A2 M1 M2 → oR (pX2 A1 A2) (f_X11_makeRoom_L88 a1 a3 a4 x5 J1 f b x M1) (f_X11_makeRoom_L88 a1 a3 a4 x5 J2 f b x M2) := by
  intro f
  induction f with
  | zero => intro b x M1 M2 _; exact trivial
  | succ f ih =>
    intro b x M1 M2 h
    simp only [f_X11_makeRoom_L88, lt_d, jn_d]
    exact oR_if (hJ _ _ _ h) (oR_o1 (pX_may h) (fun v => oR_if (ih _ _ _ _ h) (oR_if (ih _ _ _ _ h) (oR_o1 (pX_bef h) (fun w => oR_if (ih _ _ _ _ h) (ih _ _ _ _ h))))))
theorem pX_75 : ∀ (f : Nat) (x : Int32) (M1 M2 : gM), pX A1 A2 M1 M2 → oR (pX2 A1 A2) (f_X11_makeRoom_L75 a1 a3 a4 f x M1) (f_X11_makeRoom_L75 a1 a3 a4 f x M2) := by
  intro f
  induction f with
  | zero => intro x M1 M2 _; exact trivial
  | succ f ih =>
    intro x M1 M2 h
    simp only [f_X11_makeRoom_L75, lt_d, jn_d]
    refine oR_if ⟨rfl, h⟩ (pX_best (fun b N1 N2 h => ?_) _ _ _ _ _ h)
    refine oR_o1 (pX_wt h) (fun v => oR_oR (pX_fg h) (fun K1 K2 h' => ?_))
    rw [h'.1 m_o (by decide) (by decide)]
    exact ih _ _ _ (h'.st (by decide) (by decide))
theorem pX_9 {J1 J2 : Int32 × Int32 × gM → Option (Int32 × gM)} (hJ : ∀ b d M1 M2, pX A1 A2 M1 M2 → oR (pX2 A1 A2) (J1 (b, d, M1)) (J2 (b, d, M2))) : ∀ (f : Nat) (b d x : Int32) (M1 M2 : gM), pX A1 A2 M1 M2 → oR (pX2 A1 A2) (f_X11_makeRoom_L9 a1 a3 a4 J1 f b d x M1) (f_X11_makeRoom_L9 a1 a3 a4 J2 f b d x M2) := by
  intro f
  induction f with
  | zero => intro b d x M1 M2 _; exact trivial
  | succ f ih =>
    intro b d x M1 M2 h
    simp only [f_X11_makeRoom_L9, lt_d, jn_d]
    exact oR_if (hJ _ _ _ _ h) (oR_o1 (pX_wt h) (fun v => oR_o1 (pX_may h) (fun w => oR_if (ih _ _ _ _ _ h) (oR_o1 (pX_wt h) (fun u => ih _ _ _ _ _ h)))))
theorem room_sh (h : pX A1 A2 M1 M2) : oR (pX2 A1 A2) (f_X11_makeRoom M1 a1 a2 a3 a4) (f_X11_makeRoom M2 a1 a2 a3 a4) := by
  unfold f_X11_makeRoom
  simp only [jn_d]
  refine pX_9 (fun b d N1 N2 h => ?_) _ _ _ _ _ _ h
  exact oR_if (P := pX2 A1 A2) (x := f_X11_makeRoom_L75 a1 a3 a4 100 b N1) (y := f_X11_makeRoom_L75 a1 a3 a4 100 b N2) (x' := some (0, N1)) (y' := some (0, N2)) (pX_75 _ _ _ _ h) ⟨rfl, h⟩
theorem room_shd {b : Int32} {M2' : gM} (h : pX M1 M2 M1 M2) (e : f_X11_makeRoom M2 a1 a2 a3 a4 = some (b, M2')) : ∃ M1', f_X11_makeRoom M1 a1 a2 a3 a4 = some (b, M1') ∧ pX M1 M2 M1' M2' := by
  have H := room_sh (a1 := a1) (a2 := a2) (a3 := a3) (a4 := a4) h
  rw [e] at H
  cases z : f_X11_makeRoom M1 a1 a2 a3 a4 with
  | none => rw [z] at H; exact H.elim
  | some q =>
    rw [z] at H
    exact ⟨q.2, by rw [show b = q.1 from H.1.symm], H.2⟩
theorem pX_rf {A1 A2 : gM} (h : ∀ j : gI, j ≠ m_keptVector → j ≠ m_promised → A1 j = A2 j) : pX A1 A2 A1 A2 := ⟨h, rfl, rfl, fun _ => Or.inl ⟨rfl, rfl⟩⟩
end SH
