/-! layer 2: a new object comes into its maker's cache -/
def rKn (M : gM) (c x : Nat) : gM := gset (gpu (gset (gset (gset (gset M m_kept (48 * c + x) 1) m_dirty (48 * c + x) 0) m_keptValue (48 * c + x) 0) m_keptSize (48 * c + x) 0) m_keptVector (8 * (48 * c + x)) 8 (fun _ => 0)) m_promised (48 * c + x) 0
section NI
variable {N g B s o c d x z T n t : Nat} {M M' Mc Mr Mc' Mr' : gM} {A : gI → Nat → Prop} {v w a1 a2 a3 a4 : Int32}
theorem r_keepNew (hc : c < 4) (hx : x < 48) : f_X11_keepNew M (nI c) (nI x) = some (rUs (rKn M c x) c x) := by
  unfold f_X11_keepNew rKn
  simp only [lt_d, nI_m48, nI_add]
  rw [wz_1 (by omega) (by omega), wz_0 (by omega) (by omega), wr_n (by omega) (by omega), wr_n (by omega) (by omega), r_clearRow (by show _ ≤ 1536; omega) (by decide), o1_s, wr_n (by omega) (by omega), r_use hc hx, o1_s]
theorem rKn_fr : cf (fun j q => ((j.1 = 22 ∨ j.1 = 27 ∨ j.1 = 23 ∨ j.1 = 24 ∨ j.1 = 26) ∧ q = 48 * c + x) ∨ (j.1 = 25 ∧ 8 * (48 * c + x) ≤ q ∧ q < 8 * (48 * c + x) + 8)) M (rKn M c x) := by
  unfold rKn
  exact (((((cf.st (by simp)).tr (cf.st (by simp))).tr (cf.st (by simp))).tr (cf.st (by simp))).tr (cf.pu (fun q a b => Or.inr ⟨rfl, a, b⟩))).tr (cf.st (by simp))
theorem rKn_v : rKn M c x m_kept (48 * c + x) = 1 ∧ rKn M c x m_dirty (48 * c + x) = 0 ∧ rKn M c x m_keptValue (48 * c + x) = 0 ∧ rKn M c x m_keptSize (48 * c + x) = 0 ∧ rKn M c x m_promised (48 * c + x) = 0 ∧ ∀ k, k < 8 → rKn M c x m_keptVector (8 * (48 * c + x) + k) = 0 := by
  unfold rKn
  refine ⟨by simp [gset_r, gpu_r], by simp [gset_r, gpu_r], by simp [gset_r, gpu_r], by simp [gset_r, gpu_r], by simp [gset_r, gpu_r], fun k hk => ?_⟩
  rw [gset_r, if_neg (by simp), gpu_r, if_pos ⟨rfl, by omega, by omega⟩]
theorem uTop.fr2 (hc : cf A M M') (h1 : ∀ q, ¬ A (30, c, 0) q) (h2 : ∀ q, ¬ A (34, c, 0) q) (h : uTop c o M) : uTop c o M' := by
  obtain ⟨w, u, k1, k2, k3, k4, k5, k6⟩ := h
  refine ⟨w, u, k1, k2, ?_, ?_, ?_, fun p hp hn => ?_⟩
  · rw [hc _ _ (h1 _)]; exact k3
  · rw [hc _ _ (h1 _)]; exact k4
  · rw [hc _ _ (h2 _)]; exact k5
  · rw [hc _ _ (h2 _)]; exact k6 p hp hn
theorem new_in (hN : N ≤ 4) (hc : c < 4) (hxg : x ≤ g) (hB : B ≤ 890000) (h : CI N g B c 48 Mc Mr) (h0 : Mc (51, 4 + c, 0) x = 0) (hw : wsum (wt Mc c) 48 + (if Mc (4, 0, 0) x = 0 then 1 else 2) ≤ 24) : CI N g (B + 2) c 48 (cCr N (cUs Mc c x) (4 + c) x) (rUs (rKn Mr c x) c x) := by
  have hx : x < 48 := by have := h.2.1.1.1; omega
  have ht : uTop c x (cUs Mc c x) := top_use hc (by omega) h.2.2.1 h.2.2.2.2
  obtain ⟨R, I, U, O, W⟩ := use_class hN hc hx (by omega) h
  have us := cUs_fr (c := c) (o := x) (M := Mc)
  have hg := I.1.1
  obtain ⟨X, hX⟩ : ∃ X, X = cUs Mc c x := ⟨_, rfl⟩
  have h0X : X (51, 4 + c, 0) x = 0 := by rw [hX, us _ _ (by dsimp only; omega)]; exact h0
  have hwX : wsum (wt X c) 48 + (if X (4, 0, 0) x = 0 then 1 else 2) ≤ 24 := by
    rw [wsum_congr (f' := wt Mc c) 48 (fun k hk => wt.fr hk us (fun j q => by unfold eWt; omega) |> fun e => by rw [hX]; exact e), hX, us (4, 0, 0) x (by dsimp only; omega)]
    exact hw
  rw [← hX] at R I U O W ht ⊢
  have fc := cCr_fr (N := N) (M := X) (t := 4 + c) (x := x)
  have fr := rKn_fr (M := Mr) (c := c) (x := x)
  obtain ⟨u1, u2, u3, u4⟩ := cCr_v (N := N) (M := X) (t := 4 + c) (x := x)
  obtain ⟨w1, w2, w3, w4, w5, w6⟩ := rKn_v (M := Mr) (c := c) (x := x)
  have k0 := I.2.2.2.2.1 c hc x hx
  have hpz := k0.2.2.2.2.2.1 h0X
  have R' : Rel N g (cCr N X (4 + c) x) (rKn Mr c x) := by
    refine R.kmix hN hc hx (fc.mo ?_) (fr.mo ?_) ?_
    · intro j q; unfold kKl; omega
    · intro j q; unfold lKl; omega
    · obtain ⟨f1, f2, f3, f4, f5, f6, f7, f8⟩ := R.kl hc hx
      refine ⟨by rw [u1, w1], by rw [u2, w3]; split <;> rfl, by rw [u3, w4]; split <;> rfl, fun k hk => by rw [u4 k hk, w6 k (by omega)]; split <;> rfl, ?_, ?_, ?_, ?_⟩
      · rw [fc _ _ (by dsimp only; omega), fr _ _ (by dsimp only; omega)]; exact f5
      · rw [fc _ _ (by dsimp only; omega), fr _ _ (by dsimp only; omega)]; exact f6
      · rw [fc _ _ (by dsimp only; omega), w5]; exact hpz.1
      · rw [fc _ _ (by dsimp only; omega), w2]; exact hpz.2
  have I' : Inv N g (cCr N X (4 + c) x) := by
    have nr : ∀ c', cNr N (cCr N X (4 + c) x) c' = cNr N X c' := fun c' => cNr.fr hN fc (by dsimp only; omega) (fun q _ => by dsimp only; omega)
    refine I.cli hN (fc.mo ?_) (fun c' h' p hp => ?_) (fun c' h' => ?_) (fun c' h' => ?_)
    · intro j q; unfold aKl; omega
    · by_cases q : c' = c ∧ p = x
      · obtain ⟨rfl, rfl⟩ := q
        unfold iKl at k0 ⊢
        rw [nr, u1, u3, fc _ _ (by dsimp only; omega), fc _ _ (by dsimp only; omega), fc _ _ (by dsimp only; omega), fc _ _ (by dsimp only; omega)]
        obtain ⟨i1, i2, i3, i4, i5, i6, i7, i8, i9⟩ := k0
        exact ⟨Or.inr rfl, i2, i3, fun _ => hxg, i5, fun z => absurd z (by decide), i7, ⟨0, by omega, rfl⟩, i9⟩
      · refine (I.2.2.2.2.1 c' h' p hp).fr hN fc ?_
        intro j q; unfold eKl; omega
    · by_cases q : c' = c
      · subst q
        have hs : wsum (wt (cCr N X (4 + c') x) c') 48 + wt X c' x = wsum (wt X c') 48 + wt (cCr N X (4 + c') x) c' x := wsum_put 48 hx (fun k hk hne => by
          unfold wt
          rw [fc (51, 4 + c', 0) k (by dsimp only; omega), fc (4, 0, 0) k (by dsimp only; omega), fc (53, 4 + c', 0) k (by dsimp only; omega)])
        have e1 : wt X c' x = 0 := by unfold wt; rw [if_pos h0X]
        have e2 : wt (cCr N X (4 + c') x) c' x = if X (4, 0, 0) x = 0 then 1 else 2 := by
          unfold wt
          rw [u1, if_neg (by decide), fc (4, 0, 0) x (by dsimp only; omega), u3]
          rfl
        unfold iWt
        omega
      · refine (I.2.2.2.2.2.1 c' h').fr fc ?_
        intro j q; unfold eWt; omega
    · obtain ⟨n, a, b, d', f, k⟩ := I.2.2.2.2.2.2.1 c' h'
      refine ⟨n, a, by rw [fc _ _ (by dsimp only; omega)]; exact b, fun h0 o ho => by rw [fc _ _ (by dsimp only; omega)]; exact d' h0 o ho, fun i hi => ?_, fun i j hi hj x1 x2 x3 => ?_⟩
      · refine (f i hi).to (fc _ _ (by dsimp only; omega)) (fc _ _ (by dsimp only; omega)) (fc _ _ (by dsimp only; omega)) (fun ob h1 _ _ h2 h3 => ⟨?_, ?_⟩) (fun ob h1 => ⟨fc _ _ (by dsimp only; omega), fc _ _ (by dsimp only; omega)⟩) (fun s ob hs h1 k1 k2 h2 => ?_)
        · by_cases e : c' = c ∧ ob = x
          · obtain ⟨rfl, rfl⟩ := e; exact u1
          · rw [fc _ _ (by dsimp only; omega)]; exact h2
        · rw [fc _ _ (by dsimp only; omega)]; exact h3
        · rw [fc _ _ (by dsimp only; omega), fc _ _ (by dsimp only; omega)]; exact h2
      · rw [fc _ _ (by dsimp only; omega)] at x1 x2
        rw [fc _ _ (by dsimp only; omega), fc _ _ (by dsimp only; omega)] at x3
        exact k i j hi hj x1 x2 x3
  refine use_ref hN hc hx (by omega) ⟨R', I', U.fr fc fr ?_ ?_ ?_ ?_ ?_ ?_, fun d hd => (O d hd).fr (fun q _ => fc _ _ (by dsimp only; omega)) (fun q hq hne e => ?_) (fun q _ => fr _ _ (by dsimp only; omega)), W.fr fc fr ?_ ?_ ?_ ?_ ?_ (fun q hq hne e => ?_)⟩ (ht.fr2 fc (fun q => by dsimp only; omega) (fun q => by dsimp only; omega))
  · intro c q; dsimp only; omega
  · intro c; dsimp only; omega
  · intro q; dsimp only; omega
  · intro q; dsimp only; omega
  · dsimp only; omega
  · dsimp only; omega
  · by_cases y : d = c ∧ q = x
    · rw [if_pos y.1] at hne; exact absurd y.2 hne
    · rw [fc _ _ (by dsimp only; omega)] at e; exact e
  · intro q; dsimp only; omega
  · dsimp only; omega
  · dsimp only; omega
  · intro q; dsimp only; omega
  · dsimp only; omega
  · rw [fc _ _ (by dsimp only; omega)] at e; exact e
/-- an entry that is there comes into a cache's directory -/
theorem kent {e : Int32} (hN : N ≤ 4) (hc : c < 4) (hx : x < 48) (R : Rel N g Mc Mr) (hm : cf (fun j q => (j = (56, 4 + c, 0) ∧ q = x) ∨ (j.1 = 58 ∧ 4 ≤ j.2.1)) Mc Mc') (hv : Mc' (56, 4 + c, 0) x = e) (hr : cf (fun j q => (j = m_keptEntry ∧ q = 48 * c + x) ∨ j.1 = 31) Mr Mr') (hu : Mr' m_keptEntry (48 * c + x) = e) : Rel N g Mc' Mr' := by
  refine R.kmix hN hc hx (hm.mo ?_) (hr.mo ?_) ?_
  · rintro j q (⟨rfl, rfl⟩ | h)
    · unfold kKl; dsimp only; omega
    · unfold csc; omega
  · rintro j q (⟨rfl, rfl⟩ | h)
    · unfold lKl; dsimp only; omega
    · unfold rsc; omega
  · obtain ⟨f1, f2, f3, f4, f5, f6, f7, f8⟩ := R.kl hc hx
    have e1 : ∀ (j : gI) q, j.1 ≠ 56 → j.1 ≠ 58 → Mc' j q = Mc j q := fun j q h1 h2 => hm _ _ (fun z => z.elim (fun z => h1 (by rw [z.1])) (fun z => h2 z.1))
    have e2 : ∀ (j : gI) q, j.1 ≠ 30 → j.1 ≠ 31 → Mr' j q = Mr j q := fun j q h1 h2 => hr _ _ (fun z => z.elim (fun z => h1 (by rw [z.1])) (fun z => h2 z))
    refine ⟨?_, ?_, ?_, fun k hk => ?_, ?_, ?_, ?_, ?_⟩
    · rw [e1 _ _ (by simp) (by simp), e2 _ _ (by simp) (by simp)]; exact f1
    · rw [e1 _ _ (by simp) (by simp), e2 _ _ (by simp) (by simp), e2 _ _ (by simp) (by simp), e2 _ _ (by simp) (by simp)]; exact f2
    · rw [e1 _ _ (by simp) (by simp), e2 _ _ (by simp) (by simp), e2 _ _ (by simp) (by simp), e2 _ _ (by simp) (by simp)]; exact f3
    · rw [e1 _ _ (by simp) (by simp), e2 _ _ (by simp) (by simp), e2 _ _ (by simp) (by simp)]; exact f4 k hk
    · rw [hv, hu]
    · rw [e1 _ _ (by simp) (by simp), e2 _ _ (by simp) (by simp)]; exact f6
    · rw [e1 _ _ (by simp) (by simp), e2 _ _ (by simp) (by simp)]; exact f7
    · rw [e1 _ _ (by simp) (by simp), e2 _ _ (by simp) (by simp)]; exact f8
theorem kent_inv {e : Int32} (hN : N ≤ 4) (hc : c < 4) (hx1 : 1 ≤ x) (hxg : x ≤ g) (I : Inv N g M) (hm : cf (fun j q => (j = (56, 4 + c, 0) ∧ q = x) ∨ (j.1 = 58 ∧ 4 ≤ j.2.1)) M M') (hv : M' (56, 4 + c, 0) x = e) (he : e = 0 ∨ e = 1 ∨ e = 2) : Inv N g M' := by
  have hg := I.1.1
  have hm' : cf (fun j q => (j.1 = 56 ∧ j.2.1 = 4 + c ∧ q = x) ∨ (j.1 = 58 ∧ 4 ≤ j.2.1)) M M' := hm.mo (fun j q h => h.elim (fun h => Or.inl (by rw [h.1]; exact ⟨rfl, rfl, h.2⟩)) Or.inr)
  refine I.cli hN (hm'.mo ?_) (fun c' h' p hp => ?_) (fun c' h' => (I.2.2.2.2.2.1 c' h').fr hm' ?_) (fun c' h' => (I.2.2.2.2.2.2.1 c' h').fr hg hm' ?_)
  · intro j q; unfold aKl; omega
  · by_cases q : c' = c ∧ p = x
    · obtain ⟨rfl, rfl⟩ := q
      have i0 := I.2.2.2.2.1 c' h' p hp
      unfold iKl at i0 ⊢
      rw [cNr.fr hN hm' (by dsimp only; omega) (fun q _ => by dsimp only; omega), hv, hm' _ _ (by dsimp only; omega), hm' _ _ (by dsimp only; omega), hm' _ _ (by dsimp only; omega), hm' _ _ (by dsimp only; omega), hm' _ _ (by dsimp only; omega)]
      obtain ⟨i1, i2, i3, i4, i5, i6⟩ := i0
      exact ⟨i1, i2, he, i4, fun _ => ⟨hx1, hxg⟩, i6⟩
    · refine (I.2.2.2.2.1 c' h' p hp).fr hN hm' ?_
      intro j q; unfold eKl; omega
  · intro j q; unfold eWt; omega
  · intro j q; unfold eLg; omega
theorem cTh_k (hN : N ≤ 4) : cf (fun j q => (j = (56, 4 + c, 0) ∧ q = x) ∨ (j.1 = 58 ∧ 4 ≤ j.2.1)) M (cTh N M (4 + c) x) := by
  unfold cTh
  exact (cf.st (Or.inl ⟨rfl, rfl⟩)).tr (cf.pu (fun _ _ _ => Or.inr ⟨rfl, by dsimp only; omega⟩))
theorem rFl_v0 {q : Nat} (h : M m_kept (48 * c + o) = 0) : rFl N M c o m_keptVector q = M m_keptVector q := by
  unfold rFl rEp
  rw [if_neg (by simp), if_pos h]
theorem rFl_comm {i : gI} {k : Nat} (h1 : i ≠ m_keptVector) (h2 : i ≠ m_promised) (h3 : i ≠ m_kept) (h4 : i ≠ m_o) (h5 : i ≠ m_marks) : rFl N (gset M i k v) c o = gset (rFl N M c o) i k v := by
  have e : ∀ j : gI, j ≠ i → gset M i k v j = M j := fun j hj => by funext q; rw [gset_r, if_neg (fun z => hj z.1)]
  funext j q
  rw [gset_r]
  by_cases j26 : j = m_promised
  · subst j26
    rw [if_neg (fun z => h2 z.1.symm)]
    by_cases y : q = 48 * c + o
    · subst y
      rw [rFl_q, rFl_q, e _ h3.symm, e _ h2.symm, e _ h4.symm]
    · rw [rFl_p y, rFl_p y, e _ h2.symm, e _ h4.symm]
  · by_cases j25 : j = m_keptVector
    · subst j25
      rw [if_neg (fun z => h1 z.1.symm)]
      by_cases hk : M m_kept (48 * c + o) = 0
      · have hk' : gset M i k v m_kept (48 * c + o) = 0 := by rw [e _ h3.symm]; exact hk
        rw [rFl_v0 hk', rFl_v0 hk, e _ h1.symm]
      · rw [rFl_v (by rw [e _ h3.symm]; exact hk), rFl_v hk, e _ h4.symm, e _ h5.symm, e _ h1.symm]
    · rw [rFl_nf j25 j26, rFl_nf j25 j26, gset_r]
theorem cUs_comm {i : gI} {k : Nat} (h1 : i.1 ≠ 30) (h2 : i.1 ≠ 34) : cUs (gset M i k v) c x = gset (cUs M c x) i k v := by
  unfold cUs
  have n1 : i ≠ (30, c, 0) := fun z => h1 (by rw [z])
  have n2 : i ≠ (34, c, 0) := fun z => h2 (by rw [z])
  rw [show gset M i k v (30, c, 0) 9 = M (30, c, 0) 9 from by rw [gset_r, if_neg (fun z => n1 z.1.symm)], gset_comm n1, gset_comm n2]
theorem cUs_gpu {r : gI} {b m : Nat} {f : Nat → Int32} (h1 : r.1 ≠ 30) (h2 : r.1 ≠ 34) : cUs (gpu M r b m f) c x = gpu (cUs M c x) r b m f := by
  unfold cUs
  have n1 : (30, c, 0) ≠ r := fun z => h1 (by rw [← z])
  have n2 : (34, c, 0) ≠ r := fun z => h2 (by rw [← z])
  rw [gpu_ne n1, gset_gpu n1, gset_gpu n2]
theorem cUs_cr : cUs (cCr N M t x) c x = cCr N (cUs M c x) t x := by
  unfold cCr
  rw [cUs_gpu (by simp) (by simp), cUs_comm (by simp) (by simp), cUs_comm (by simp) (by simp), cUs_comm (by simp) (by simp)]
theorem cUs_th : cUs (cTh N M t x) c x = cTh N (cUs M c x) t x := by
  unfold cTh
  rw [cUs_gpu (by simp) (by simp), cUs_comm (by simp) (by simp)]
theorem gpu_comm {i r : gI} {b m b' m' : Nat} {f f' : Nat → Int32} (h : i ≠ r) : gpu (gpu M i b m f) r b' m' f' = gpu (gpu M r b' m' f') i b m f := by
  funext j q
  simp only [gpu_r]
  by_cases e : j = r ∧ b' ≤ q ∧ q < b' + m'
  · rw [if_pos e, if_neg (fun z => h (z.1.symm.trans e.1)), if_pos e]
  · rw [if_neg e, if_neg e]
theorem cTh_cr : cTh N (cCr N M t x) t x = cCr N (cTh N M t x) t x := by
  unfold cTh cCr
  rw [gset_gpu (by simp), gpu_comm (by simp), gset_comm (i := (53, t, 0)) (i' := (56, t, 0)) (by simp), gset_comm (i := (52, t, 0)) (i' := (56, t, 0)) (by simp), gset_comm (i := (51, t, 0)) (i' := (56, t, 0)) (by simp), gset_gpu (by simp), gset_gpu (by simp), gset_gpu (by simp)]
end NI
