theorem dL_law_0 : decode cL_law 0 = .ok (.new 8, 3) := by decide +kernel
theorem dL_law_3 : decode cL_law 3 = .ok (.dup, 1) := by decide +kernel
theorem dL_law_4 : decode cL_law 4 = .ok (.aload_n 0, 1) := by decide +kernel
theorem dL_law_5 : decode cL_law 5 = .ok (.iconst 0, 1) := by decide +kernel
theorem dL_law_6 : decode cL_law 6 = .ok (.invokestatic 83, 3) := by decide +kernel
theorem dL_law_9 : decode cL_law 9 = .ok (.invokespecial 89, 3) := by decide +kernel
theorem dL_law_12 : decode cL_law 12 = .ok (.astore_n 1, 1) := by decide +kernel
theorem dL_law_13 : decode cL_law 13 = .ok (.new 92, 3) := by decide +kernel
theorem dL_law_16 : decode cL_law 16 = .ok (.dup, 1) := by decide +kernel
theorem dL_law_17 : decode cL_law 17 = .ok (.aload_n 0, 1) := by decide +kernel
theorem dL_law_18 : decode cL_law 18 = .ok (.iconst 0, 1) := by decide +kernel
theorem dL_law_19 : decode cL_law 19 = .ok (.invokestatic 83, 3) := by decide +kernel
theorem dL_law_22 : decode cL_law 22 = .ok (.invokespecial 94, 3) := by decide +kernel
theorem dL_law_25 : decode cL_law 25 = .ok (.astore_n 2, 1) := by decide +kernel
theorem dL_law_26 : decode cL_law 26 = .ok (.iconst 1, 1) := by decide +kernel
theorem dL_law_27 : decode cL_law 27 = .ok (.newarray .long, 2) := by decide +kernel
theorem dL_law_29 : decode cL_law 29 = .ok (.astore_n 3, 1) := by decide +kernel
theorem dL_law_30 : decode cL_law 30 = .ok (.iconst 1, 1) := by decide +kernel
theorem dL_law_31 : decode cL_law 31 = .ok (.istore 4, 2) := by decide +kernel
theorem dL_law_33 : decode cL_law 33 = .ok (.iload 4, 2) := by decide +kernel
theorem dL_law_35 : decode cL_law 35 = .ok (.aload_n 0, 1) := by decide +kernel
theorem dL_law_36 : decode cL_law 36 = .ok (.arraylength, 1) := by decide +kernel
theorem dL_law_37 : decode cL_law 37 = .ok (.iconst 5, 1) := by decide +kernel
theorem dL_law_38 : decode cL_law 38 = .ok (.isub, 1) := by decide +kernel
theorem dL_law_39 : decode cL_law 39 = .ok (.if_icmp .gt 1681, 3) := by decide +kernel
theorem dL_law_42 : decode cL_law 42 = .ok (.aload_n 0, 1) := by decide +kernel
theorem dL_law_43 : decode cL_law 43 = .ok (.iload 4, 2) := by decide +kernel
theorem dL_law_45 : decode cL_law 45 = .ok (.iaload, 1) := by decide +kernel
theorem dL_law_46 : decode cL_law 46 = .ok (.bipush 31, 2) := by decide +kernel
theorem dL_law_48 : decode cL_law 48 = .ok (.iand, 1) := by decide +kernel
theorem dL_law_49 : decode cL_law 49 = .ok (.tableswitch 1665 0 19 #[95, 198, 289, 352, 432, 511, 578, 669, 776, 855, 910, 965, 1020, 1099, 1178, 1269, 1360, 1451, 1530, 1609], 95) := by decide +kernel
theorem dL_law_1714 : decode cL_law 1714 = .ok (.iinc 4 5, 3) := by decide +kernel
theorem dL_law_1717 : decode cL_law 1717 = .ok (.goto (-1684), 3) := by decide +kernel
theorem dL_law_1720 : decode cL_law 1720 = .ok (.iconst 1, 1) := by decide +kernel
theorem dL_law_1721 : decode cL_law 1721 = .ok (.ireturn, 1) := by decide +kernel
/-! the law: one step, all steps -/
def lCase (N : Nat) (xs : Nat → Int32) (i : Nat) (z : lS) : Nat → Option lS
  | 0 => s_link N z (xs (i + 1)) (xs (i + 2)) (xs (i + 3))
  | 1 => s_server N z (xs (i + 1)) (xs (i + 2))
  | 2 => s_lose N z (xs (i + 1))
  | 3 => s_priority N z (xs (i + 1)) (xs (i + 2)) (xs (i + 3))
  | 4 => s_find N z (xs (i + 1)) (xs (i + 2)) (xs (i + 3))
  | 5 => s_read N z (xs (i + 1)) (xs (i + 2))
  | 6 => s_write N z (xs (i + 1)) (xs (i + 2)) (xs (i + 3)) (xs (i + 4))
  | 7 => s_make N z (xs (i + 1)) (xs (i + 2)) (xs (i + 3)) (xs (i + 4))
  | 8 => s_remove N z (xs (i + 1)) (xs (i + 2)) (xs (i + 3))
  | 9 => s_handIn N z (xs (i + 1))
  | 10 => s_walk N z (xs (i + 1))
  | 11 => s_meet N z (xs (i + 1))
  | 12 => s_repair N z (xs (i + 1)) (xs (i + 2)) (xs (i + 3))
  | 13 => s_copy N z (xs (i + 1)) (xs (i + 2)) (xs (i + 3))
  | 14 => s_vector N z (xs (i + 1)) (xs (i + 2)) (xs (i + 3)) (xs (i + 4))
  | 15 => s_version N z (xs (i + 1)) (xs (i + 2)) (xs (i + 3)) (xs (i + 4))
  | 16 => s_entry N z (xs (i + 1)) (xs (i + 2)) (xs (i + 3)) (xs (i + 4))
  | 17 => s_cached N z (xs (i + 1)) (xs (i + 2)) (xs (i + 3))
  | 18 => s_record N z (xs (i + 1)) (xs (i + 2)) (xs (i + 3))
  | 19 => s_told N z (xs (i + 1))
  | _ => some z
def lStep (N : Nat) (xs : Nat → Int32) (i : Nat) (z : lS) : Option lS := if (xs i &&& 31).toInt < 0 ∨ 19 < (xs i &&& 31).toInt then some z else lCase N xs i z ((xs i &&& 31).toInt - 0).toNat
def lRun (N : Nat) (xs : Nat → Int32) (L : Nat) : Nat → Nat → lS → Option Unit
  | 0, _, _ => none
  | n + 1, i, z => if i + 5 ≤ L then o1 (lStep N xs i z) (fun z1 => lRun N xs L n (i + 5) z1) else some ()
def lN0 (x : Int32) : Nat := if x < 1 then 1 else if 4 < x then 4 else x.toNatClampNeg
theorem lN0_ok (x : Int32) : 1 ≤ lN0 x ∧ lN0 x ≤ 4 := by
  unfold lN0
  split
  · omega
  · split
    · omega
    · rename_i h1 h2
      rw [Int32.lt_iff_toInt_lt] at h1 h2
      have e1 : (1 : Int32).toInt = 1 := by decide
      have e4 : (4 : Int32).toInt = 4 := by decide
      rw [Int32.toNatClampNeg]
      omega
theorem lN0_nI {x : Int32} (h1 : ¬ x < 1) (h2 : ¬ 4 < x) : x = nI x.toNatClampNeg := by
  apply Int32.toInt_inj.mp
  rw [Int32.lt_iff_toInt_lt] at h1 h2
  have e1 : (1 : Int32).toInt = 1 := by decide
  have e4 : (4 : Int32).toInt = 4 := by decide
  rw [nI_toInt (by rw [Int32.toNatClampNeg]; omega), Int32.toNatClampNeg]
  omega
theorem lN0_m (x : Int32) : (if x < (1 : Int32) then (1 : Int32) else if (4 : Int32) < x then (4 : Int32) else x) = nI (lN0 x) := by
  unfold lN0
  by_cases h1 : x < 1
  · rw [if_pos h1, if_pos h1]; rfl
  · rw [if_neg h1, if_neg h1]
    by_cases h2 : 4 < x
    · rw [if_pos h2, if_pos h2]; rfl
    · rw [if_neg h2, if_neg h2]; exact lN0_nI h1 h2
theorem lN0_c (x : Int32) : (if (1 : Int32) < (if x < (4 : Int32) then x else (4 : Int32)) then (if x < (4 : Int32) then x else (4 : Int32)) else (1 : Int32)) = nI (lN0 x) := by
  rw [← lN0_m]
  have e1 : (1 : Int32).toInt = 1 := by decide
  have e4 : (4 : Int32).toInt = 4 := by decide
  by_cases h4 : x < 4
  · rw [if_pos h4]
    rw [Int32.lt_iff_toInt_lt] at h4
    by_cases h1 : 1 < x
    · rw [if_pos h1]
      rw [Int32.lt_iff_toInt_lt] at h1
      rw [if_neg (by rw [Int32.lt_iff_toInt_lt]; omega), if_neg (by rw [Int32.lt_iff_toInt_lt]; omega)]
    · rw [if_neg h1]
      rw [Int32.lt_iff_toInt_lt] at h1
      by_cases h0 : x < 1
      · rw [if_pos h0]
      · rw [if_neg h0]
        rw [Int32.lt_iff_toInt_lt] at h0
        rw [if_neg (by rw [Int32.lt_iff_toInt_lt]; omega)]
        exact Int32.toInt_inj.mp (by omega)
  · rw [if_neg h4, if_pos (by decide)]
    rw [Int32.lt_iff_toInt_lt] at h4
    rw [if_neg (by rw [Int32.lt_iff_toInt_lt]; omega)]
    by_cases h5 : 4 < x
    · rw [if_pos h5]
    · rw [if_neg h5]
      rw [Int32.lt_iff_toInt_lt] at h5
      exact Int32.toInt_inj.mp (by omega)
theorem va_X.heap {b L : Nat} {xs : Nat → Int32} {U : State} {H H1 : Heap} (h : va_X b L xs U H) (e : H1[b]? = H[b]?) : va_X b L xs U H1 := by
  obtain ⟨scr, h1, h2⟩ := h
  exact ⟨scr, e.trans h1, h2⟩
theorem l_cond {L i : Nat} (hL : L ≤ 321) (hi : i ≤ 1000) : (nI L - 5 < nI i) ↔ ¬ i + 5 ≤ L := by
  rw [show (5 : Int32) = nI 5 from rfl, Int32.lt_iff_toInt_lt, pk_sub_toInt (by omega) (by omega), nI_toInt (by omega)]
  omega
theorem aIn_X10 : ∀ w ∈ wsX100, w ∈ aBig := fun w h => a_l (List.mem_append_right _ (t_c (by
  unfold cBig
  simp only [List.mem_append, h, or_true])))
theorem aIn_X11 : ∀ w ∈ wsX110, w ∈ aBig := fun w h => a_m (List.mem_append_right _ h)
theorem a_c {w : Cond} (h : w ∈ cBig) : w ∈ aBig := a_l (List.mem_append_right _ (t_c h))
theorem aGc {b : Cond} (hb : b ∈ cBig) : GoodIn aBig (b :: cBig) := fun w hw => (List.mem_cons.mp hw).elim (fun e => e ▸ ⟨a_c hb, cBig_ok b hb⟩) (fun h => ⟨a_c h, cBig_ok w h⟩)
theorem aGm {b : Cond} (hb : b ∈ aBig) : GoodIn aBig (b :: mBig) := fun w hw => (List.mem_cons.mp hw).elim (fun e => e ▸ ⟨hb, aBig_ok b hb⟩) (fun h => ⟨a_m h, mBig_ok w h⟩)
set_option maxHeartbeats 4000000 in
set_option maxRecDepth 100000 in
theorem law_step {p : Program} {l : Launch} {e : Env} {s : State} {m : MethodId} {below : List Frame} {meth : Method} {c : Code} {H : Heap} {locs : List Loc} {cells slots : Nat} {Q : State → Prop} {N b L i : Nat} {ls : Array Slot} {D : va_G} {dA : Nat → ClassId} {tx : Nat → Nat} {cL : ClassId} {z z1 : lS} {xs : Nat → Int32} (F : lF l s N D dA tx cL) (S : CallFix p m c cL_law 8 s #[.ref b] aBig RL) (hX : va_X b L xs s s.heap) (hbl : b < s.heap.size) (hL : L ≤ 321) (hi : i + 5 ≤ L) (Z : lH N D dA cL s z H locs) (hl : lv_has ls 8 (lLs N s b i)) (hf : cells + 3 ≤ 600128 ∧ slots + 18 ≤ 7301064) (h : lStep N xs i z = some z1) (kk : lKK p l e s m below meth c b N D dA cL Q i z1 cells slots) : W p l e room_1 s m #[.ref b] below meth c H locs cells slots Q (F0 m 49 ls [.int (xs i &&& 31)]) := by
  obtain ⟨hx, hb, -, hown, hts⟩ := id S
  unfold lStep at h
  by_cases ho : (xs i &&& 31).toInt < 0 ∨ 19 < (xs i &&& 31).toInt
  · have h := Option.some.inj (if_t ho h)
    subst h
    refine lv_tableOut (tgt := 1714) hx hb dL_law_49 ho (by decide) ?_
    exact kk H locs ls _ _ (by omega) (by omega) Z hl
  · have h := if_f ho h
    have n1 : ¬ (xs i &&& 31).toInt < 0 := fun q => ho (Or.inl q)
    have n2 : ¬ 19 < (xs i &&& 31).toInt := fun q => ho (Or.inr q)
    have hk : (xs i &&& 31).toInt = 0 ∨ (xs i &&& 31).toInt = 1 ∨ (xs i &&& 31).toInt = 2 ∨ (xs i &&& 31).toInt = 3 ∨ (xs i &&& 31).toInt = 4 ∨ (xs i &&& 31).toInt = 5 ∨ (xs i &&& 31).toInt = 6 ∨ (xs i &&& 31).toInt = 7 ∨ (xs i &&& 31).toInt = 8 ∨ (xs i &&& 31).toInt = 9 ∨ (xs i &&& 31).toInt = 10 ∨ (xs i &&& 31).toInt = 11 ∨ (xs i &&& 31).toInt = 12 ∨ (xs i &&& 31).toInt = 13 ∨ (xs i &&& 31).toInt = 14 ∨ (xs i &&& 31).toInt = 15 ∨ (xs i &&& 31).toInt = 16 ∨ (xs i &&& 31).toInt = 17 ∨ (xs i &&& 31).toInt = 18 ∨ (xs i &&& 31).toInt = 19 := by omega
    clear ho
    rcases hk with hk | hk | hk | hk | hk | hk | hk | hk | hk | hk | hk | hk | hk | hk | hk | hk | hk | hk | hk | hk
    · rw [hk] at h
      refine lv_tableIn (off := 95) (tgt := 144) hx hb dL_law_49 n1 n2 (by rw [hk]; rfl) (by decide) ?_
      exact law_link F S hX hbl hL hi Z hl hf h kk
    · rw [hk] at h
      refine lv_tableIn (off := 198) (tgt := 247) hx hb dL_law_49 n1 n2 (by rw [hk]; rfl) (by decide) ?_
      exact law_server F S hX hbl hL hi Z hl hf h kk
    · rw [hk] at h
      refine lv_tableIn (off := 289) (tgt := 338) hx hb dL_law_49 n1 n2 (by rw [hk]; rfl) (by decide) ?_
      exact law_lose F S hX hbl hL hi Z hl hf h kk
    · rw [hk] at h
      refine lv_tableIn (off := 352) (tgt := 401) hx hb dL_law_49 n1 n2 (by rw [hk]; rfl) (by decide) ?_
      exact law_priority F S hX hbl hL hi Z hl hf h kk
    · rw [hk] at h
      refine lv_tableIn (off := 432) (tgt := 481) hx hb dL_law_49 n1 n2 (by rw [hk]; rfl) (by decide) ?_
      exact law_find F S hX hbl hL hi Z hl hf h kk
    · rw [hk] at h
      refine lv_tableIn (off := 511) (tgt := 560) hx hb dL_law_49 n1 n2 (by rw [hk]; rfl) (by decide) ?_
      exact law_read F S hX hbl hL hi Z hl hf h kk
    · rw [hk] at h
      refine lv_tableIn (off := 578) (tgt := 627) hx hb dL_law_49 n1 n2 (by rw [hk]; rfl) (by decide) ?_
      exact law_write F S hX hbl hL hi Z hl hf h kk
    · rw [hk] at h
      refine lv_tableIn (off := 669) (tgt := 718) hx hb dL_law_49 n1 n2 (by rw [hk]; rfl) (by decide) ?_
      exact law_make F S hX hbl hL hi Z hl hf h kk
    · rw [hk] at h
      refine lv_tableIn (off := 776) (tgt := 825) hx hb dL_law_49 n1 n2 (by rw [hk]; rfl) (by decide) ?_
      exact law_remove F S hX hbl hL hi Z hl hf h kk
    · rw [hk] at h
      refine lv_tableIn (off := 855) (tgt := 904) hx hb dL_law_49 n1 n2 (by rw [hk]; rfl) (by decide) ?_
      exact law_handIn F S hX hbl hL hi Z hl hf h kk
    · rw [hk] at h
      refine lv_tableIn (off := 910) (tgt := 959) hx hb dL_law_49 n1 n2 (by rw [hk]; rfl) (by decide) ?_
      exact law_walk F S hX hbl hL hi Z hl hf h kk
    · rw [hk] at h
      refine lv_tableIn (off := 965) (tgt := 1014) hx hb dL_law_49 n1 n2 (by rw [hk]; rfl) (by decide) ?_
      exact law_meet F S hX hbl hL hi Z hl hf h kk
    · rw [hk] at h
      refine lv_tableIn (off := 1020) (tgt := 1069) hx hb dL_law_49 n1 n2 (by rw [hk]; rfl) (by decide) ?_
      exact law_repair F S hX hbl hL hi Z hl hf h kk
    · rw [hk] at h
      refine lv_tableIn (off := 1099) (tgt := 1148) hx hb dL_law_49 n1 n2 (by rw [hk]; rfl) (by decide) ?_
      exact law_copy F S hX hbl hL hi Z hl hf h kk
    · rw [hk] at h
      refine lv_tableIn (off := 1178) (tgt := 1227) hx hb dL_law_49 n1 n2 (by rw [hk]; rfl) (by decide) ?_
      exact law_vector F S hX hbl hL hi Z hl hf h kk
    · rw [hk] at h
      refine lv_tableIn (off := 1269) (tgt := 1318) hx hb dL_law_49 n1 n2 (by rw [hk]; rfl) (by decide) ?_
      exact law_version F S hX hbl hL hi Z hl hf h kk
    · rw [hk] at h
      refine lv_tableIn (off := 1360) (tgt := 1409) hx hb dL_law_49 n1 n2 (by rw [hk]; rfl) (by decide) ?_
      exact law_entry F S hX hbl hL hi Z hl hf h kk
    · rw [hk] at h
      refine lv_tableIn (off := 1451) (tgt := 1500) hx hb dL_law_49 n1 n2 (by rw [hk]; rfl) (by decide) ?_
      exact law_cached F S hX hbl hL hi Z hl hf h kk
    · rw [hk] at h
      refine lv_tableIn (off := 1530) (tgt := 1579) hx hb dL_law_49 n1 n2 (by rw [hk]; rfl) (by decide) ?_
      exact law_record F S hX hbl hL hi Z hl hf h kk
    · rw [hk] at h
      refine lv_tableIn (off := 1609) (tgt := 1658) hx hb dL_law_49 n1 n2 (by rw [hk]; rfl) (by decide) ?_
      exact law_told F S hX hbl hL hi Z hl hf h kk
set_option maxHeartbeats 4000000 in
set_option maxRecDepth 100000 in
theorem law_loop {p : Program} {l : Launch} {e : Env} {s : State} {m : MethodId} {below : List Frame} {meth : Method} {c : Code} {N b L : Nat} {D : va_G} {dA : Nat → ClassId} {tx : Nat → Nat} {cL : ClassId} {xs : Nat → Int32} (F : lF l s N D dA tx cL) (S : CallFix p m c cL_law 8 s #[.ref b] aBig RL) (hX : va_X b L xs s s.heap) (hbl : b < s.heap.size) (hL : L ≤ 321) (hr : meth.sig.returnType = ret) (hlocks : meth.locks = false) : ∀ (n i : Nat) (z : lS) (H : Heap) (locs : List Loc) (ls : Array Slot) (cells slots : Nat), i ≤ 1000 → lRun N xs L n i z = some () → cells + 3 * n ≤ 600128 → slots + 18 * n ≤ 7301064 → lH N D dA cL s z H locs → lv_has ls 8 (lLs N s b i) → W p l e room_1 s m #[.ref b] below meth c H locs cells slots (lw_Z below #[Value.ref b] s) (F0 m 33 ls []) := by
  obtain ⟨hx, hb, -, hown, hts⟩ := id S
  intro n
  induction n with
  | zero => intro i z H locs ls cells slots _ h; cases h
  | succ n ih =>
    intro i z H locs ls cells slots hi h hc hs Z hl
    refine lv_iload hx hb dL_law_33 (lv_at hl 4 rfl) ?_
    refine lv_aload_n hx hb dL_law_35 rfl (lv_at hl 0 rfl) ?_
    refine va_slen hx hb hX hbl (Nat.not_le.mpr hbl) Z.2.2.2.1 dL_law_36 ?_
    refine lv_iconst (v := (5 : Int32)) hx hb dL_law_37 (by decide) ?_
    refine lv_isub hx hb dL_law_38 ?_
    refine lv_icmp_gt (tgt := 1720) hx hb dL_law_39 (by decide) (fun c1 => ?_) (fun c1 => ?_)
    · refine va_forget (fun q hq => Z.2.2.2.1.2.2 q hq) ?_
      refine W.widen (k := 600128) (n := 7301064) (by omega) (by omega) ?_
      refine lv_iconst (v := (1 : Int32)) hx hb dL_law_1720 (by decide) ?_
      exact lw_ret hx hb hr hlocks dL_law_1721
    · have hi5 : i + 5 ≤ L := by
        rcases Nat.lt_or_ge L (i + 5) with q | q
        · exact absurd ((l_cond hL hi).mpr (by omega)) c1
        · exact q
      have h := if_t hi5 h
      obtain ⟨z1, h1, h2⟩ := o1_e h
      refine lv_aload_n hx hb dL_law_42 rfl (lv_at hl 0 rfl) ?_
      refine lv_iload hx hb dL_law_43 (lv_at hl 4 rfl) ?_
      refine a_sld hX hbl Z hx hb (k := i) (by omega) hL rfl dL_law_45 ?_
      refine lv_bipush (v := (31 : Int32)) hx hb dL_law_46 (by decide) ?_
      refine lv_iand hx hb dL_law_48 ?_
      refine law_step F S hX hbl hL hi5 Z hl ⟨by omega, by omega⟩ h1 (fun H locs ls c1 s1 q1 q2 Z hl => ?_)
      refine lv_iinc (k := 4) (lv' := (4, .int (nI (i + 5))) :: [(0, .ref b), (1, .ref (cAd N s.heap.size (0, 0, 0))), (2, .ref (mAd (lQm N s) m_o)), (3, .ref (lQo N s))]) hx hb dL_law_1714 hl rfl (nI_add i 5) (by decide) rfl (fun ls hl => ?_)
      refine lv_goto (tgt := 33) hx hb dL_law_1717 (by decide) ?_
      refine ih (i + 5) z1 H locs ls c1 s1 (by omega) h2 (by omega) (by omega) Z (lv_sbs hl (fun q hq => ?_))
      simp only [lLs, List.mem_cons, List.not_mem_nil, or_false] at hq ⊢
      rcases hq with rfl | rfl | rfl | rfl | rfl <;> simp
set_option maxHeartbeats 8000000 in
set_option maxRecDepth 100000 in
theorem whole_run {p : Program} {e : Env} {s : State} {m : MethodId} {below : List Frame} {meth : Method} {c : Code} (l : Launch) (hst : l.stackTraces = false) {b L : Nat} {xs : Nat → Int32} (hL : L ≤ 321) (C0 : lw_At p s m meth c b L xs) (hrun : lRun (lN0 (lCell L xs)) xs L 66 1 (cM0 (lN0 (lCell L xs)), mM0 (lN0 (lCell L xs)), 0) = some ()) : W p l e room_1 s m #[Value.ref b] below meth c s.heap [] 0 0 (lw_Z below #[Value.ref b] s) (entryFrame m ([Value.ref b] : List Value).toArray 8) := by
  obtain ⟨hx, hb, hr, hml, hown, hts0, hX, hbl, hlocks, hgv⟩ := C0
  have S : CallFix p m c cL_law 8 s #[.ref b] aBig RL := ⟨hx, hb, hml, hown, fun w h => hts0 w (aBig_tb w h)⟩
  obtain ⟨D, dA, tx, hK, hAO, hNw, hT, hNc⟩ := law_known hts0 hgv
  clear hts0 hgv
  have hts := S.2.2.2.2
  have hN := lN0_ok (lCell L xs)
  have hc1 := lN0_c (lCell L xs)
  have hm1 := lN0_m (lCell L xs)
  generalize hNe : lN0 (lCell L xs) = N at hrun hN hc1 hm1
  clear hNe
  have hS : va_S (lReg0 s) s.heap s.heap [] := va_S.rf
  have hl := lv_entry ([.ref b]) (n := 8) (Nat.le_of_ble_eq_true rfl)
  rw [lg_entry_eq]
  generalize (lg_sl ([.ref b]) ++ List.replicate (8 - (lg_sl ([.ref b])).length) Slot.unset).toArray = ls at hl ⊢
  have hl : lv_has ls 8 [(0, .ref b)] := hl
  refine k_new (ci := 10) (C := RX10) (T := TX10) S hK hS rfl aIn_X10 tyX10 tyX10_ok (hts (.classLink RL 8 RX10) (aB 0 rfl)) (hts (.instantiable RX10 9) (aB 110 rfl)) (hts (.initialized RX10) (aB 112 rfl)) (by decide) (by decide) dL_law_0 (fun H1 hO hz o1 hS => ?_)
  refine lv_dup hx hb dL_law_3 rfl ?_
  refine lv_aload_n hx hb dL_law_4 rfl (lv_at hl 0 rfl) ?_
  refine lv_iconst (v := (0 : Int32)) hx hb dL_law_5 (by decide) ?_
  refine va_calli (va_runS (As := [.ref b, .int 0]) (rest := [.ref s.heap.size, .ref s.heap.size]) S (c_cell l H1.size b L xs hL) (va_cwS 2 hts (aGS (bs := []) (fun w h => absurd h List.not_mem_nil) (aB 2 rfl) (aB 68 rfl) (aB 115 rfl) (aB 69 rfl)) rfl rfl rfl (by decide +kernel) ⟨Nat.le_of_ble_eq_true rfl, Nat.le_of_ble_eq_true rfl⟩) ⟨cePc.blind, fun U hU hWm => ⟨rfl, by rw [hU], va_X.moved hWm.alike (by rw [hU]; exact hX.heap (o1 b hbl)), by rw [hU]; omega⟩⟩ rfl rfl hl.1 rfl (lv_room (m := m) (pc := 6) (ls := ls) (rest := [.int 0, .ref b, .ref s.heap.size, .ref s.heap.size]) (Nat.le_of_ble_eq_true rfl)) dL_law_6 ⟨by decide, by decide⟩) hS (fun q _ h => False.elim h) (fun q h => False.elim h) (fun r u t H2 locs ht hvm hp hB hz2 hk hS => ?_)
  subst hp
  rw [ht] at hB
  replace hO := hO.kept (hk _ (by omega) (fun h => h))
  have ho2 : ∀ q : Nat, q < s.heap.size → H2[q]? = s.heap[q]? := fun q h => (hk q (by omega) (fun h => h)).trans (o1 q h)
  replace hz : H2.size = s.heap.size + 1 := by omega
  clear hB hk o1 ht hvm hz2 t u
  refine k_callP (q := s.heap.size) (N := N) (A := cAd N s.heap.size) (a := s.heap.size) (sz := s.heap.size + 1) (As := [.int (lCell L xs)]) (rest := [.ref s.heap.size]) S hK hAO hNw (fun i hi => False.elim hi) hS hz hO (k_X10 l N hN.1 hN.2 D dA s.heap.size _ hc1) (cwI 1 hts (aGc (cB 566 rfl)) rfl rfl rfl (hts (.initialized RX10) (aB 112 rfl)) (hts (.methodLink RL 89 yX10_init) (aB 3 rfl)) (hts (.instanceMethod yX10_init) (aB 116 rfl)) rfl (by decide +kernel) ⟨Nat.le_of_ble_eq_true rfl, Nat.le_of_ble_eq_true rfl⟩) (fun x h => h.elim (fun h => Nat.le_of_eq h.symm) (fun h => Nat.le_trans (Nat.le_succ _) h)) rfl hl.1 rfl (Nat.le_of_ble_eq_true rfl) dL_law_9 ⟨by decide, by decide⟩ (fun H3 locs3 hz3 hB hk hS => ?_)
  have ho3 : ∀ q : Nat, q < s.heap.size → H3[q]? = s.heap[q]? := fun q h => (hk q (by omega) (by omega)).trans (ho2 q h)
  replace hz3 : H3.size = lQm N s := by unfold lQm; omega
  clear hO hk ho2 hz
  refine lv_astore_n (lv' := [(1, .ref s.heap.size), (0, .ref b)]) hx hb dL_law_12 rfl hl (by decide) rfl (fun ls hl => ?_)
  refine k_new (ci := 11) (C := RX11) (T := TX11) S hK hS rfl aIn_X11 tyX11 tyX11_ok (hts (.classLink RL 92 RX11) (aB 1 rfl)) (hts (.instantiable RX11 67) (aB 111 rfl)) (hts (.initialized RX11) (aB 113 rfl)) (by decide) (by decide) dL_law_13 (fun H4 hO hz4 o4 hS => ?_)
  have hW : gW D (cLay N) dA (cLive N) (cAd N s.heap.size) (cM0 N) H4 := fun i hi => (hB i hi).to rfl (o4 _ (by have := cAd_ge (q := s.heap.size) hN.2 hi; unfold lQm at hz3; omega))
  have ho4 : ∀ q : Nat, q < s.heap.size → H4[q]? = s.heap[q]? := fun q h => (o4 q (by unfold lQm at hz3; omega)).trans (ho3 q h)
  rw [hz3] at hO hz4 ⊢
  clear hB ho3 o4
  refine lv_dup hx hb dL_law_16 rfl ?_
  refine lv_aload_n hx hb dL_law_17 rfl (lv_at hl 1 rfl) ?_
  refine lv_iconst (v := (0 : Int32)) hx hb dL_law_18 (by decide) ?_
  refine va_calli (va_runS (As := [.ref b, .int 0]) (rest := [.ref (lQm N s), .ref (lQm N s)]) S (c_cell l H4.size b L xs hL) (va_cwS 2 hts (aGS (bs := []) (fun w h => absurd h List.not_mem_nil) (aB 2 rfl) (aB 68 rfl) (aB 115 rfl) (aB 69 rfl)) rfl rfl rfl (by decide +kernel) ⟨Nat.le_of_ble_eq_true rfl, Nat.le_of_ble_eq_true rfl⟩) ⟨cePc.blind, fun U hU hWm => ⟨rfl, by rw [hU], va_X.moved hWm.alike (by rw [hU]; exact hX.heap (ho4 b hbl)), by rw [hU]; unfold lQm at hz4; omega⟩⟩ rfl rfl hl.1 rfl (lv_room (m := m) (pc := 19) (ls := ls) (rest := [.int 0, .ref b, .ref (lQm N s), .ref (lQm N s)]) (Nat.le_of_ble_eq_true rfl)) dL_law_19 ⟨by decide, by decide⟩) hS (fun q _ h => False.elim h) (fun q h => False.elim h) (fun r u t H5 locs5 ht hvm hp hB hz5 hk hS => ?_)
  subst hp
  rw [ht] at hB
  replace hO := hO.kept (hk _ (by omega) (fun h => h))
  replace hW : gW D (cLay N) dA (cLive N) (cAd N s.heap.size) (cM0 N) H5 := fun i hi => (hW i hi).to rfl (hk _ (by have := cAd_ge (q := s.heap.size) hN.2 hi; unfold lQm at hz4; omega) (fun h => h))
  have ho5 : ∀ q : Nat, q < s.heap.size → H5[q]? = s.heap[q]? := fun q h => (hk q (by unfold lQm at hz4; omega) (fun h => h)).trans (ho4 q h)
  replace hz5 : H5.size = lQm N s + 1 := by omega
  clear hB hk ht hvm hz4 t u ho4
  refine va_callv (va_runI (As := [.int (lCell L xs)]) (rest := [.ref (lQm N s)]) (b := lQm N s) S (k_X11 l N hN.1 hN.2 D dA (lQm N s) _ hm1) (cwI 1 hts (aGm (aB 118 rfl)) rfl rfl rfl (hts (.initialized RX11) (aB 113 rfl)) (hts (.methodLink RL 94 yX11_init) (aB 4 rfl)) (hts (.instanceMethod yX11_init) (aB 117 rfl)) rfl (by decide +kernel) ⟨Nat.le_of_ble_eq_true rfl, Nat.le_of_ble_eq_true rfl⟩) ⟨kPc.blind, fun U hU hWm => ⟨rfl, by rw [hU]; exact hz5, by rw [hU]; exact hO, va_K.moved hWm.alike hK, kAO.moved hWm.alike hAO⟩⟩ rfl rfl hl.1 rfl (lv_room (m := m) (pc := 22) (ls := ls) (rest := [.int (lCell L xs), .ref (lQm N s), .ref (lQm N s)]) (Nat.le_of_ble_eq_true rfl)) dL_law_22 ⟨by decide, by decide⟩) hS (fun x _ h => h.elim (fun h => by rw [h]; show s.heap.size ≤ lQm N s; unfold lQm; omega) (fun h => Nat.le_trans (by unfold lQm; omega) h)) (fun x h => h.elim (fun h => by rw [h]; show s.heap.size ≤ lQm N s; unfold lQm; omega) (fun h => Nat.le_trans (by unfold lQm; omega) h)) (fun u t H6 locs6 ht hvm hw hB hz6 hk hS => ?_)
  rw [ht] at hB
  obtain ⟨hB1, hB2⟩ := hB
  replace hW : gW D (cLay N) dA (cLive N) (cAd N s.heap.size) (cM0 N) H6 := fun i hi => (hW i hi).to rfl (hk _ (by have := cAd_ge (q := s.heap.size) hN.2 hi; unfold lQm at hz5; omega) (fun h => by
    have := cAd_ge (q := s.heap.size) hN.2 hi
    unfold lQm at h
    rcases h with h | h <;> omega))
  clear hO hk ht hvm hw hz6 hz5 ho5 t u
  refine lv_astore_n (lv' := [(2, .ref (lQm N s)), (1, .ref s.heap.size), (0, .ref b)]) hx hb dL_law_25 rfl hl (by decide) rfl (fun ls hl => ?_)
  refine lv_iconst (v := (1 : Int32)) hx hb dL_law_26 (by decide) ?_
  refine va_newaK (atype := .long) (N := 1) (h := lQo N s) hx hb (hts (.arrayClass .long) (aB 114 rfl)) rfl dL_law_27 rfl (by decide) (by decide) (by decide) (by decide) (by decide) (by rw [hB1]; unfold lQo lQm; omega) (fun H7 cL e7 z7 o7 hAr _ => ?_)
  replace hW : gW D (cLay N) dA (cLive N) (cAd N s.heap.size) (cM0 N) H7 := fun i hi => (hW i hi).to rfl (o7 _ (by have := cAd_ge (q := s.heap.size) hN.2 hi; unfold lQo; omega))
  have hV : gW D mLay dA mLive (mAd (lQm N s)) (mM0 N) H7 := fun i hi => (hB2 i hi).to rfl (o7 _ (by have := mAd_ge (q := lQm N s) hi; unfold lQm at this; unfold lQo lQm; omega))
  replace hS : va_S (lReg0 s) s.heap H7 locs6 := ⟨by rw [z7]; unfold lQo; omega, fun q h1 h2 => (o7 q (by unfold lQo; omega)).trans (hS.2.1 q h1 h2), hS.2.2⟩
  clear o7 hB2
  refine lv_astore_n (lv' := [(3, .ref (lQo N s)), (2, .ref (lQm N s)), (1, .ref s.heap.size), (0, .ref b)]) hx hb dL_law_29 rfl hl (by decide) rfl (fun ls hl => ?_)
  refine lv_iconst (v := (1 : Int32)) hx hb dL_law_30 (by decide) ?_
  refine lv_istore (lv' := [(4, .int 1), (3, .ref (lQo N s)), (2, .ref (lQm N s)), (1, .ref s.heap.size), (0, .ref b)]) hx hb dL_law_31 hl (by decide) rfl (fun ls hl => ?_)
  refine law_loop (N := N) (D := D) (dA := dA) (tx := tx) (cL := cL) ⟨hst, hN, hK, hNw, hT, hAr, hNc⟩ S hX hbl hL hr hlocks 66 1 (cM0 N, mM0 N, 0) H7 locs6 ls _ _ (by decide) hrun (by decide) (by decide) ⟨hW, hV, e7, hS, by rw [z7]; unfold lQo; omega⟩ (lv_sbs hl (fun q hq => ?_))
  have e1 : cAd N s.heap.size (0, 0, 0) = s.heap.size := rfl
  have e2 : mAd (lQm N s) m_o = lQm N s := rfl
  simp only [lLs, e1, e2, List.mem_cons, List.not_mem_nil, or_false] at hq ⊢
  rcases hq with rfl | rfl | rfl | rfl | rfl
  · simp
  · simp
  · simp
  · simp
  · left
    rfl
