
/-! the law's cases: one call on both sides, and the comparison -/
def lEnd (r : Int32 × Int64 × gM) (v : Int64) (t : Int32) (Mr : gM) : Option lS := if t = r.1 then (if r.1 = 0 then (if r.2.1 = v then some (r.2.2, Mr, r.2.1) else none) else some (r.2.2, Mr, r.2.1)) else none
abbrev lLs (N : Nat) (s : State) (b : Nat) (i : Nat) : List (Nat × Value) := [(0, .ref b), (1, .ref (cAd N s.heap.size (0, 0, 0))), (2, .ref (mAd (lQm N s) m_o)), (3, .ref (lQo N s)), (4, .int (nI i))]
theorem lv_sbs {ls : Array Slot} {nL : Nat} {l l' : List (Nat × Value)} (h : lv_has ls nL l) (h' : ∀ q ∈ l', q ∈ l) : lv_has ls nL l' := ⟨h.1, h.2.1, fun q hq => h.2.2 q (h' q hq)⟩
section LA
variable {p : Program} {l : Launch} {e : Env} {s : State} {m : MethodId} {below : List Frame} {meth : Method} {c : Code} {H : Heap} {locs : List Loc} {cells slots : Nat} {Q : State → Prop} {args : Array Value} {R : Room}
variable {pc N : Nat} {ls : Array Slot} {rest : List Value}
variable {D : va_G} {dA : Nat → ClassId} {tx : Nat → Nat} {cL : ClassId} {z : lS}
theorem a_arg {b L : Nat} {xs : Nat → Int32} (hX : va_X b L xs s s.heap) (hbl : b < s.heap.size) (Z : lH N D dA cL s z H locs) (hx : p.tables.exec = Jvm.exec) (hb : c.code = cL_law) {i : Nat} (j : Nat) {jj : Int} (hL : L ≤ 321) (hk : i + j < L) (hj : Int32.ofInt jj = nI j) (l0 : ls[0]? = some (.val (.ref b))) (l4 : ls[4]? = some (.val (.int (nI i))))
    (d0 : decode cL_law pc = .ok (.aload_n 0, 1)) (d1 : decode cL_law (pc + 1) = .ok (.iload 4, 2)) (d2 : decode cL_law (pc + 3) = .ok (.iconst jj, 1)) (d3 : decode cL_law (pc + 4) = .ok (.iadd, 1)) (d4 : decode cL_law (pc + 5) = .ok (.iaload, 1))
    (kk : W p l e R s m args below meth c H locs cells slots Q (F0 m (pc + 6) ls (.int (xs (i + j)) :: rest))) : W p l e R s m args below meth c H locs cells slots Q (F0 m pc ls rest) := by
  refine lv_aload_n hx hb d0 rfl l0 ?_
  refine lv_iload hx hb d1 l4 ?_
  refine lv_iconst hx hb d2 hj ?_
  refine lv_iadd hx hb d3 ?_
  exact a_sld hX hbl Z hx hb hk hL (nI_add i j) d4 kk
theorem a_bool (hx : p.tables.exec = Jvm.exec) (hb : c.code = cL_law) {x : Int32} (t1 t2 : Nat) (d0 : decode cL_law pc = .ok (.ifCond .eq 7, 3)) (d1 : decode cL_law (pc + 3) = .ok (.iconst 1, 1)) (d2 : decode cL_law (pc + 4) = .ok (.goto 4, 3)) (d3 : decode cL_law t1 = .ok (.iconst 0, 1)) (e1 : pc + 7 = t1) (e2 : pc + 8 = t2)
    (kk : W p l e R s m args below meth c H locs cells slots Q (F0 m t2 ls (.int (if x = 0 then (0 : Int32) else 1) :: rest))) : W p l e R s m args below meth c H locs cells slots Q (F0 m pc ls (.int x :: rest)) := by
  refine lv_if_eq (tgt := t1) hx hb d0 (by omega) (fun h => ?_) (fun h => ?_)
  · rw [if_pos h] at kk
    refine lv_iconst (v := (0 : Int32)) hx hb d3 (by decide) ?_
    rw [show t1 + 1 = t2 by omega]
    exact kk
  · rw [if_neg h] at kk
    refine lv_iconst (v := (1 : Int32)) hx hb d1 (by decide) ?_
    exact lv_goto (tgt := t2) hx hb d2 (by omega) kk
theorem a_lbool (hx : p.tables.exec = Jvm.exec) (hb : c.code = cL_law) {x : Int32} (t1 t2 : Nat) (d0 : decode cL_law pc = .ok (.ifCond .eq 7, 3)) (d1 : decode cL_law (pc + 3) = .ok (.lconst 1, 1)) (d2 : decode cL_law (pc + 4) = .ok (.goto 4, 3)) (d3 : decode cL_law t1 = .ok (.lconst 0, 1)) (e1 : pc + 7 = t1) (e2 : pc + 8 = t2)
    (kk : W p l e R s m args below meth c H locs cells slots Q (F0 m t2 ls (.long (if x = 0 then (0 : Int64) else 1) :: rest))) : W p l e R s m args below meth c H locs cells slots Q (F0 m pc ls (.int x :: rest)) := by
  refine lv_if_eq (tgt := t1) hx hb d0 (by omega) (fun h => ?_) (fun h => ?_)
  · rw [if_pos h] at kk
    refine lv_lconst (v := (0 : Int64)) hx hb d3 (by decide) ?_
    rw [show t1 + 1 = t2 by omega]
    exact kk
  · rw [if_neg h] at kk
    refine lv_lconst (v := (1 : Int64)) hx hb d1 (by decide) ?_
    exact lv_goto (tgt := t2) hx hb d2 (by omega) kk
end LA
def lKK (p : Program) (l : Launch) (e : Env) (s : State) (m : MethodId) (below : List Frame) (meth : Method) (c : Code) (b N : Nat) (D : va_G) (dA : Nat → ClassId) (cL : ClassId) (Q : State → Prop) (i : Nat) (z : lS) (cells slots : Nat) : Prop := ∀ (H : Heap) (locs : List Loc) (ls : Array Slot) (c1 s1 : Nat), c1 ≤ cells + 3 → s1 ≤ slots + 18 → lH N D dA cL s z H locs → lv_has ls 8 (lLs N s b i) → W p l e room_1 s m #[.ref b] below meth c H locs c1 s1 Q (F0 m 1714 ls [])
def s_link (N : Nat) (z : lS) (a1 : Int32) (a2 : Int32) (a3 : Int32) : Option lS :=
  o1 (f_L_link N z.1 z.2.2 a1 a2 (if a3 = 0 then (0 : Int32) else 1)) fun r => ob (f_X11_link z.2.1 a1 a2 (if a3 = 0 then (0 : Int32) else 1)) fun v Mr => o1 (f_X11_thrown Mr) fun t => lEnd r (if v = 0 then (0 : Int64) else 1) t Mr
def s_server (N : Nat) (z : lS) (a1 : Int32) (a2 : Int32) : Option lS :=
  o1 (f_L_server N z.1 z.2.2 a1 (if a2 = 0 then (0 : Int32) else 1)) fun r => ob (f_X11_server z.2.1 a1 (if a2 = 0 then (0 : Int32) else 1)) fun v Mr => o1 (f_X11_thrown Mr) fun t => lEnd r (if v = 0 then (0 : Int64) else 1) t Mr
def s_lose (N : Nat) (z : lS) (a1 : Int32) : Option lS :=
  o1 (f_L_lose N z.1 z.2.2 a1) fun r => ob (f_X11_lose z.2.1 a1) fun v Mr => o1 (f_X11_thrown Mr) fun t => lEnd r (if v = 0 then (0 : Int64) else 1) t Mr
def s_priority (N : Nat) (z : lS) (a1 : Int32) (a2 : Int32) (a3 : Int32) : Option lS :=
  o1 (f_L_priority N z.1 z.2.2 a1 a2 a3) fun r => ob (f_X11_priority z.2.1 a1 a2 a3) fun v Mr => o1 (f_X11_thrown Mr) fun t => lEnd r v.toInt64 t Mr
def s_find (N : Nat) (z : lS) (a1 : Int32) (a2 : Int32) (a3 : Int32) : Option lS :=
  o1 (f_L_find N z.1 z.2.2 a1 a2 a3) fun r => ob (f_X11_find z.2.1 a1 a2 a3) fun v Mr => o1 (f_X11_thrown Mr) fun t => lEnd r v t Mr
def s_read (N : Nat) (z : lS) (a1 : Int32) (a2 : Int32) : Option lS :=
  o1 (f_L_read N z.1 z.2.2 a1 a2) fun r => ob (f_X11_read z.2.1 a1 a2) fun v Mr => o1 (f_X11_thrown Mr) fun t => lEnd r v t Mr
def s_write (N : Nat) (z : lS) (a1 : Int32) (a2 : Int32) (a3 : Int32) (a4 : Int32) : Option lS :=
  o1 (f_L_write N z.1 z.2.2 a1 a2 a3 a4) fun r => ob (f_X11_write z.2.1 a1 a2 a3 a4) fun v Mr => o1 (f_X11_thrown Mr) fun t => lEnd r v t Mr
def s_make (N : Nat) (z : lS) (a1 : Int32) (a2 : Int32) (a3 : Int32) (a4 : Int32) : Option lS :=
  o1 (f_L_make N z.1 z.2.2 a1 a2 a3 (if a4 = 0 then (0 : Int32) else 1)) fun r => ob (f_X11_make z.2.1 a1 a2 a3 (if a4 = 0 then (0 : Int32) else 1)) fun v Mr => o1 (f_X11_thrown Mr) fun t => lEnd r v t Mr
def s_remove (N : Nat) (z : lS) (a1 : Int32) (a2 : Int32) (a3 : Int32) : Option lS :=
  o1 (f_L_remove N z.1 z.2.2 a1 a2 a3) fun r => ob (f_X11_remove z.2.1 a1 a2 a3) fun v Mr => o1 (f_X11_thrown Mr) fun t => lEnd r v t Mr
def s_handIn (N : Nat) (z : lS) (a1 : Int32) : Option lS :=
  o1 (f_L_handIn N z.1 z.2.2 a1) fun r => ob (f_X11_handIn z.2.1 a1) fun v Mr => o1 (f_X11_thrown Mr) fun t => lEnd r v t Mr
def s_walk (N : Nat) (z : lS) (a1 : Int32) : Option lS :=
  o1 (f_L_walk N z.1 z.2.2 a1) fun r => ob (f_X11_walk z.2.1 a1) fun v Mr => o1 (f_X11_thrown Mr) fun t => lEnd r v t Mr
def s_meet (N : Nat) (z : lS) (a1 : Int32) : Option lS :=
  o1 (f_L_meet N z.1 z.2.2 a1) fun r => ob (f_X11_meet z.2.1 a1) fun v Mr => o1 (f_X11_thrown Mr) fun t => lEnd r v t Mr
def s_repair (N : Nat) (z : lS) (a1 : Int32) (a2 : Int32) (a3 : Int32) : Option lS :=
  o1 (f_L_repair N z.1 z.2.2 a1 a2 a3) fun r => ob (f_X11_repair z.2.1 a1 a2 a3) fun v Mr => o1 (f_X11_thrown Mr) fun t => lEnd r v t Mr
def s_copy (N : Nat) (z : lS) (a1 : Int32) (a2 : Int32) (a3 : Int32) : Option lS :=
  o1 (f_L_copy N z.1 z.2.2 a1 a2 a3) fun r => ob (f_X11_copy z.2.1 a1 a2 a3) fun v Mr => o1 (f_X11_thrown Mr) fun t => lEnd r v t Mr
def s_vector (N : Nat) (z : lS) (a1 : Int32) (a2 : Int32) (a3 : Int32) (a4 : Int32) : Option lS :=
  o1 (f_L_vector N z.1 z.2.2 a1 a2 a3 a4) fun r => ob (f_X11_vector z.2.1 a1 a2 a3 a4) fun v Mr => o1 (f_X11_thrown Mr) fun t => lEnd r v t Mr
def s_version (N : Nat) (z : lS) (a1 : Int32) (a2 : Int32) (a3 : Int32) (a4 : Int32) : Option lS :=
  o1 (f_L_version N z.1 z.2.2 a1 a2 a3 a4) fun r => ob (f_X11_version z.2.1 a1 a2 a3 a4) fun v Mr => o1 (f_X11_thrown Mr) fun t => lEnd r v t Mr
def s_entry (N : Nat) (z : lS) (a1 : Int32) (a2 : Int32) (a3 : Int32) (a4 : Int32) : Option lS :=
  o1 (f_L_entry N z.1 z.2.2 a1 a2 a3 a4) fun r => ob (f_X11_entry z.2.1 a1 a2 a3 a4) fun v Mr => o1 (f_X11_thrown Mr) fun t => lEnd r v t Mr
def s_cached (N : Nat) (z : lS) (a1 : Int32) (a2 : Int32) (a3 : Int32) : Option lS :=
  o1 (f_L_cached N z.1 z.2.2 a1 a2 a3) fun r => ob (f_X11_cached z.2.1 a1 a2 a3) fun v Mr => o1 (f_X11_thrown Mr) fun t => lEnd r v t Mr
def s_record (N : Nat) (z : lS) (a1 : Int32) (a2 : Int32) (a3 : Int32) : Option lS :=
  o1 (f_L_record N z.1 z.2.2 a1 a2 a3) fun r => ob (f_X11_record z.2.1 a1 a2 a3) fun v Mr => o1 (f_X11_thrown Mr) fun t => lEnd r v t Mr
def s_told (N : Nat) (z : lS) (a1 : Int32) : Option lS :=
  o1 (f_L_told N z.1 z.2.2 a1) fun r => ob (f_X11_told z.2.1 a1) fun v Mr => o1 (f_X11_thrown Mr) fun t => lEnd r v.toInt64 t Mr
set_option maxHeartbeats 4000000 in
set_option maxRecDepth 100000 in
theorem law_link {p : Program} {l : Launch} {e : Env} {s : State} {m : MethodId} {below : List Frame} {meth : Method} {c : Code} {H : Heap} {locs : List Loc} {cells slots : Nat} {Q : State → Prop} {N b L i : Nat} {ls : Array Slot} {D : va_G} {dA : Nat → ClassId} {tx : Nat → Nat} {cL : ClassId} {z z1 : lS} {xs : Nat → Int32} (F : lF l s N D dA tx cL) (S : CallFix p m c cL_law 8 s #[.ref b] aBig RL) (hX : va_X b L xs s s.heap) (hbl : b < s.heap.size) (hL : L ≤ 321) (hi : i + 5 ≤ L) (Z : lH N D dA cL s z H locs) (hl : lv_has ls 8 (lLs N s b i)) (hf : cells + 3 ≤ 600128 ∧ slots + 18 ≤ 7301064) (h : s_link N z (xs (i + 1)) (xs (i + 2)) (xs (i + 3)) = some z1) (kk : lKK p l e s m below meth c b N D dA cL Q i z1 cells slots) : W p l e room_1 s m #[.ref b] below meth c H locs cells slots Q (F0 m 144 ls []) := by
  obtain ⟨hx, hb, -, hown, hts⟩ := id S
  have hst := F.1
  have hN := F.2.1
  unfold s_link at h
  obtain ⟨r, h1, h⟩ := o1_e h
  obtain ⟨v, Mr, h2, h⟩ := ob_e h
  obtain ⟨t, h3, h⟩ := o1_e h
  refine lv_aload_n hx hb dL_law_144 rfl (lv_at hl 1 rfl) ?_
  refine a_arg hX hbl Z hx hb 1 hL (by omega) (by decide) (lv_at hl 0 rfl) (lv_at hl 4 rfl) dL_law_145 dL_law_146 dL_law_148 dL_law_149 dL_law_150 ?_
  refine a_arg hX hbl Z hx hb 2 hL (by omega) (by decide) (lv_at hl 0 rfl) (lv_at hl 4 rfl) dL_law_151 dL_law_152 dL_law_154 dL_law_155 dL_law_156 ?_
  refine a_arg hX hbl Z hx hb 3 hL (by omega) (by decide) (lv_at hl 0 rfl) (lv_at hl 4 rfl) dL_law_157 dL_law_158 dL_law_160 dL_law_161 dL_law_162 ?_
  refine a_bool hx hb 170 171 dL_law_163 dL_law_166 dL_law_167 dL_law_170 rfl rfl ?_
  refine lv_aload_n hx hb dL_law_171 rfl (lv_at hl 3 rfl) ?_
  refine a_wrap (As := [.ref (cAd N s.heap.size (0, 0, 0)), .int (xs (i + 1)), .int (xs (i + 2)), .int (if xs (i + 3) = 0 then (0 : Int32) else 1), .ref (lQo N s)]) (rest := []) F Z S (t_L_link l hst N D dA _ (cJ hN.1 hN.2) tx _ cL _ (l_qo F Z.2.2.2.2) z.2.2 h1) (vx_cwSW 5 hts (aGS (bs := lBig) (fun w h => a_l h) (aB 5 rfl) (aB 70 rfl) (aB 115 rfl) (aB 71 rfl)) rfl rfl rfl (by decide +kernel) ⟨Nat.le_of_ble_eq_true rfl, Nat.le_of_ble_eq_true rfl⟩) rfl hl.1 rfl (Nat.le_of_ble_eq_true rfl) dL_law_172 ⟨by show cells + 3 ≤ 600128; omega, by show slots + 18 ≤ 7301064; omega⟩ (fun H locs Z => ?_)
  refine lv_istore (lv' := (5, .int r.1) :: lLs N s b i) hx hb dL_law_175 hl (by decide) rfl (fun ls hl => ?_)
  refine lv_aload_n hx hb dL_law_177 rfl (lv_at hl 3 rfl) ?_
  refine a_arg hX hbl Z hx hb 1 hL (by omega) (by decide) (lv_at hl 1 rfl) (lv_at hl 5 rfl) dL_law_178 dL_law_179 dL_law_181 dL_law_182 dL_law_183 ?_
  refine a_arg hX hbl Z hx hb 2 hL (by omega) (by decide) (lv_at hl 1 rfl) (lv_at hl 5 rfl) dL_law_184 dL_law_185 dL_law_187 dL_law_188 dL_law_189 ?_
  refine a_arg hX hbl Z hx hb 3 hL (by omega) (by decide) (lv_at hl 1 rfl) (lv_at hl 5 rfl) dL_law_190 dL_law_191 dL_law_193 dL_law_194 dL_law_195 ?_
  refine a_bool hx hb 203 204 dL_law_196 dL_law_199 dL_law_200 dL_law_203 rfl rfl ?_
  refine a_refI (As := [.int (xs (i + 1)), .int (xs (i + 2)), .int (if xs (i + 3) = 0 then (0 : Int32) else 1)]) (rest := []) (cells := cells + 3) (slots := slots + 18) F Z S (t_X11_link l D dA _ (mJ _) h2) (cwV 3 hts (aGV (aB 8 rfl) (aB 119 rfl) (aB 120 rfl) (aB 113 rfl) (aB 121 rfl)) rfl rfl rfl (by decide +kernel) ⟨Nat.le_of_ble_eq_true rfl, Nat.le_of_ble_eq_true rfl⟩) rfl hl.1 rfl (Nat.le_of_ble_eq_true rfl) dL_law_204 ⟨by show cells + 3 ≤ 600128; omega, by show slots + 18 ≤ 7301064; omega⟩ (fun H locs Z => ?_)
  refine lv_istore (lv' := (6, .int v) :: (5, .int r.1) :: lLs N s b i) hx hb dL_law_207 hl (by decide) rfl (fun ls hl => ?_)
  refine lv_aload_n hx hb dL_law_209 rfl (lv_at hl 4 rfl) ?_
  refine a_refI (As := []) (rest := []) (cells := cells + 3) (slots := slots + 18) F Z S (t_X11_thrown l D dA _ (mJ _) h3) (cwV 0 hts (aGV (aB 9 rfl) (aB 135 rfl) (aB 136 rfl) (aB 113 rfl) (aB 137 rfl)) rfl rfl rfl (by decide +kernel) ⟨Nat.le_of_ble_eq_true rfl, Nat.le_of_ble_eq_true rfl⟩) rfl hl.1 rfl (Nat.le_of_ble_eq_true rfl) dL_law_210 ⟨by show cells + 3 ≤ 600128; omega, by show slots + 18 ≤ 7301064; omega⟩ (fun H locs Z => ?_)
  refine lv_iload hx hb dL_law_213 (lv_at hl 1 rfl) ?_
  unfold lEnd at h
  refine lv_icmp_eq (tgt := 220) hx hb dL_law_215 (by decide) (fun c1 => ?_) (fun c1 => absurd (if_f c1 h) (by simp))
  have h := if_t c1 h
  have hl0 : lv_has ls 8 (lLs N s b i) := lv_sbs hl (fun q hq => List.mem_cons_of_mem _ (List.mem_cons_of_mem _ hq))
  refine lv_iload hx hb dL_law_220 (lv_at hl 1 rfl) ?_
  refine lv_if_ne (tgt := 244) hx hb dL_law_222 (by decide) (fun c2 => ?_) (fun c2 => ?_)
  · have h := Option.some.inj (if_f c2 h)
    subst h
    refine lv_goto (tgt := 1714) hx hb dL_law_244 (by decide) ?_
    exact kk H locs ls _ _ (by omega) (by omega) Z hl0
  · have h := if_t c2 h
    refine lv_aload_n hx hb dL_law_225 rfl (lv_at hl 5 rfl) ?_
    refine lv_iconst (v := (0 : Int32)) hx hb dL_law_226 (by decide) ?_
    refine a_lald F Z hx hb dL_law_227 ?_
    refine lv_iload hx hb dL_law_228 (lv_at hl 0 rfl) ?_
    refine a_lbool hx hb 237 238 dL_law_230 dL_law_233 dL_law_234 dL_law_237 rfl rfl ?_
    by_cases c3 : r.2.1 = (if v = 0 then (0 : Int64) else 1)
    · have h := Option.some.inj (if_t c3 h)
      subst h
      refine W.lcmp hx hb dL_law_238 ?_
      refine lv_if_eq (tgt := 244) hx hb dL_law_239 (by decide) (fun c4 => ?_) (fun c4 => absurd (by show lg_cmp r.2.1 (if v = 0 then (0 : Int64) else 1) = 0; rw [← c3]; exact lg_cmp_z _) c4)
      refine lv_goto (tgt := 1714) hx hb dL_law_244 (by decide) ?_
      exact kk H locs ls _ _ (by omega) (by omega) Z hl0
    · exact absurd (if_f c3 h) (by simp)
set_option maxHeartbeats 4000000 in
set_option maxRecDepth 100000 in
theorem law_server {p : Program} {l : Launch} {e : Env} {s : State} {m : MethodId} {below : List Frame} {meth : Method} {c : Code} {H : Heap} {locs : List Loc} {cells slots : Nat} {Q : State → Prop} {N b L i : Nat} {ls : Array Slot} {D : va_G} {dA : Nat → ClassId} {tx : Nat → Nat} {cL : ClassId} {z z1 : lS} {xs : Nat → Int32} (F : lF l s N D dA tx cL) (S : CallFix p m c cL_law 8 s #[.ref b] aBig RL) (hX : va_X b L xs s s.heap) (hbl : b < s.heap.size) (hL : L ≤ 321) (hi : i + 5 ≤ L) (Z : lH N D dA cL s z H locs) (hl : lv_has ls 8 (lLs N s b i)) (hf : cells + 3 ≤ 600128 ∧ slots + 18 ≤ 7301064) (h : s_server N z (xs (i + 1)) (xs (i + 2)) = some z1) (kk : lKK p l e s m below meth c b N D dA cL Q i z1 cells slots) : W p l e room_1 s m #[.ref b] below meth c H locs cells slots Q (F0 m 247 ls []) := by
  obtain ⟨hx, hb, -, hown, hts⟩ := id S
  have hst := F.1
  have hN := F.2.1
  unfold s_server at h
  obtain ⟨r, h1, h⟩ := o1_e h
  obtain ⟨v, Mr, h2, h⟩ := ob_e h
  obtain ⟨t, h3, h⟩ := o1_e h
  refine lv_aload_n hx hb dL_law_247 rfl (lv_at hl 1 rfl) ?_
  refine a_arg hX hbl Z hx hb 1 hL (by omega) (by decide) (lv_at hl 0 rfl) (lv_at hl 4 rfl) dL_law_248 dL_law_249 dL_law_251 dL_law_252 dL_law_253 ?_
  refine a_arg hX hbl Z hx hb 2 hL (by omega) (by decide) (lv_at hl 0 rfl) (lv_at hl 4 rfl) dL_law_254 dL_law_255 dL_law_257 dL_law_258 dL_law_259 ?_
  refine a_bool hx hb 267 268 dL_law_260 dL_law_263 dL_law_264 dL_law_267 rfl rfl ?_
  refine lv_aload_n hx hb dL_law_268 rfl (lv_at hl 3 rfl) ?_
  refine a_wrap (As := [.ref (cAd N s.heap.size (0, 0, 0)), .int (xs (i + 1)), .int (if xs (i + 2) = 0 then (0 : Int32) else 1), .ref (lQo N s)]) (rest := []) F Z S (t_L_server l hst N D dA _ (cJ hN.1 hN.2) tx _ cL _ (l_qo F Z.2.2.2.2) z.2.2 h1) (vx_cwSW 4 hts (aGS (bs := lBig) (fun w h => a_l h) (aB 10 rfl) (aB 72 rfl) (aB 115 rfl) (aB 73 rfl)) rfl rfl rfl (by decide +kernel) ⟨Nat.le_of_ble_eq_true rfl, Nat.le_of_ble_eq_true rfl⟩) rfl hl.1 rfl (Nat.le_of_ble_eq_true rfl) dL_law_269 ⟨by show cells + 1 ≤ 600128; omega, by show slots + 6 ≤ 7301064; omega⟩ (fun H locs Z => ?_)
  refine lv_istore (lv' := (5, .int r.1) :: lLs N s b i) hx hb dL_law_272 hl (by decide) rfl (fun ls hl => ?_)
  refine lv_aload_n hx hb dL_law_274 rfl (lv_at hl 3 rfl) ?_
  refine a_arg hX hbl Z hx hb 1 hL (by omega) (by decide) (lv_at hl 1 rfl) (lv_at hl 5 rfl) dL_law_275 dL_law_276 dL_law_278 dL_law_279 dL_law_280 ?_
  refine a_arg hX hbl Z hx hb 2 hL (by omega) (by decide) (lv_at hl 1 rfl) (lv_at hl 5 rfl) dL_law_281 dL_law_282 dL_law_284 dL_law_285 dL_law_286 ?_
  refine a_bool hx hb 294 295 dL_law_287 dL_law_290 dL_law_291 dL_law_294 rfl rfl ?_
  refine a_refI (As := [.int (xs (i + 1)), .int (if xs (i + 2) = 0 then (0 : Int32) else 1)]) (rest := []) (cells := cells + 1) (slots := slots + 6) F Z S (t_X11_server l D dA _ (mJ _) h2) (cwV 2 hts (aGV (aB 12 rfl) (aB 138 rfl) (aB 139 rfl) (aB 113 rfl) (aB 140 rfl)) rfl rfl rfl (by decide +kernel) ⟨Nat.le_of_ble_eq_true rfl, Nat.le_of_ble_eq_true rfl⟩) rfl hl.1 rfl (Nat.le_of_ble_eq_true rfl) dL_law_295 ⟨by show cells + 1 ≤ 600128; omega, by show slots + 6 ≤ 7301064; omega⟩ (fun H locs Z => ?_)
  refine lv_istore (lv' := (6, .int v) :: (5, .int r.1) :: lLs N s b i) hx hb dL_law_298 hl (by decide) rfl (fun ls hl => ?_)
  refine lv_aload_n hx hb dL_law_300 rfl (lv_at hl 4 rfl) ?_
  refine a_refI (As := []) (rest := []) (cells := cells + 1) (slots := slots + 6) F Z S (t_X11_thrown l D dA _ (mJ _) h3) (cwV 0 hts (aGV (aB 9 rfl) (aB 135 rfl) (aB 136 rfl) (aB 113 rfl) (aB 137 rfl)) rfl rfl rfl (by decide +kernel) ⟨Nat.le_of_ble_eq_true rfl, Nat.le_of_ble_eq_true rfl⟩) rfl hl.1 rfl (Nat.le_of_ble_eq_true rfl) dL_law_301 ⟨by show cells + 1 ≤ 600128; omega, by show slots + 6 ≤ 7301064; omega⟩ (fun H locs Z => ?_)
  refine lv_iload hx hb dL_law_304 (lv_at hl 1 rfl) ?_
  unfold lEnd at h
  refine lv_icmp_eq (tgt := 311) hx hb dL_law_306 (by decide) (fun c1 => ?_) (fun c1 => absurd (if_f c1 h) (by simp))
  have h := if_t c1 h
  have hl0 : lv_has ls 8 (lLs N s b i) := lv_sbs hl (fun q hq => List.mem_cons_of_mem _ (List.mem_cons_of_mem _ hq))
  refine lv_iload hx hb dL_law_311 (lv_at hl 1 rfl) ?_
  refine lv_if_ne (tgt := 335) hx hb dL_law_313 (by decide) (fun c2 => ?_) (fun c2 => ?_)
  · have h := Option.some.inj (if_f c2 h)
    subst h
    refine lv_goto (tgt := 1714) hx hb dL_law_335 (by decide) ?_
    exact kk H locs ls _ _ (by omega) (by omega) Z hl0
  · have h := if_t c2 h
    refine lv_aload_n hx hb dL_law_316 rfl (lv_at hl 5 rfl) ?_
    refine lv_iconst (v := (0 : Int32)) hx hb dL_law_317 (by decide) ?_
    refine a_lald F Z hx hb dL_law_318 ?_
    refine lv_iload hx hb dL_law_319 (lv_at hl 0 rfl) ?_
    refine a_lbool hx hb 328 329 dL_law_321 dL_law_324 dL_law_325 dL_law_328 rfl rfl ?_
    by_cases c3 : r.2.1 = (if v = 0 then (0 : Int64) else 1)
    · have h := Option.some.inj (if_t c3 h)
      subst h
      refine W.lcmp hx hb dL_law_329 ?_
      refine lv_if_eq (tgt := 335) hx hb dL_law_330 (by decide) (fun c4 => ?_) (fun c4 => absurd (by show lg_cmp r.2.1 (if v = 0 then (0 : Int64) else 1) = 0; rw [← c3]; exact lg_cmp_z _) c4)
      refine lv_goto (tgt := 1714) hx hb dL_law_335 (by decide) ?_
      exact kk H locs ls _ _ (by omega) (by omega) Z hl0
    · exact absurd (if_f c3 h) (by simp)
set_option maxHeartbeats 4000000 in
set_option maxRecDepth 100000 in
theorem law_lose {p : Program} {l : Launch} {e : Env} {s : State} {m : MethodId} {below : List Frame} {meth : Method} {c : Code} {H : Heap} {locs : List Loc} {cells slots : Nat} {Q : State → Prop} {N b L i : Nat} {ls : Array Slot} {D : va_G} {dA : Nat → ClassId} {tx : Nat → Nat} {cL : ClassId} {z z1 : lS} {xs : Nat → Int32} (F : lF l s N D dA tx cL) (S : CallFix p m c cL_law 8 s #[.ref b] aBig RL) (hX : va_X b L xs s s.heap) (hbl : b < s.heap.size) (hL : L ≤ 321) (hi : i + 5 ≤ L) (Z : lH N D dA cL s z H locs) (hl : lv_has ls 8 (lLs N s b i)) (hf : cells + 3 ≤ 600128 ∧ slots + 18 ≤ 7301064) (h : s_lose N z (xs (i + 1)) = some z1) (kk : lKK p l e s m below meth c b N D dA cL Q i z1 cells slots) : W p l e room_1 s m #[.ref b] below meth c H locs cells slots Q (F0 m 338 ls []) := by
  obtain ⟨hx, hb, -, hown, hts⟩ := id S
  have hst := F.1
  have hN := F.2.1
  unfold s_lose at h
  obtain ⟨r, h1, h⟩ := o1_e h
  obtain ⟨v, Mr, h2, h⟩ := ob_e h
  obtain ⟨t, h3, h⟩ := o1_e h
  refine lv_aload_n hx hb dL_law_338 rfl (lv_at hl 1 rfl) ?_
  refine a_arg hX hbl Z hx hb 1 hL (by omega) (by decide) (lv_at hl 0 rfl) (lv_at hl 4 rfl) dL_law_339 dL_law_340 dL_law_342 dL_law_343 dL_law_344 ?_
  refine lv_aload_n hx hb dL_law_345 rfl (lv_at hl 3 rfl) ?_
  refine a_wrap (As := [.ref (cAd N s.heap.size (0, 0, 0)), .int (xs (i + 1)), .ref (lQo N s)]) (rest := []) F Z S (t_L_lose l hst N D dA _ (cJ hN.1 hN.2) tx _ cL _ (l_qo F Z.2.2.2.2) z.2.2 h1) (vx_cwSW 3 hts (aGS (bs := lBig) (fun w h => a_l h) (aB 13 rfl) (aB 74 rfl) (aB 115 rfl) (aB 75 rfl)) rfl rfl rfl (by decide +kernel) ⟨Nat.le_of_ble_eq_true rfl, Nat.le_of_ble_eq_true rfl⟩) rfl hl.1 rfl (Nat.le_of_ble_eq_true rfl) dL_law_346 ⟨by show cells + 1 ≤ 600128; omega, by show slots + 6 ≤ 7301064; omega⟩ (fun H locs Z => ?_)
  refine lv_istore (lv' := (5, .int r.1) :: lLs N s b i) hx hb dL_law_349 hl (by decide) rfl (fun ls hl => ?_)
  refine lv_aload_n hx hb dL_law_351 rfl (lv_at hl 3 rfl) ?_
  refine a_arg hX hbl Z hx hb 1 hL (by omega) (by decide) (lv_at hl 1 rfl) (lv_at hl 5 rfl) dL_law_352 dL_law_353 dL_law_355 dL_law_356 dL_law_357 ?_
  refine a_refI (As := [.int (xs (i + 1))]) (rest := []) (cells := cells + 1) (slots := slots + 6) F Z S (t_X11_lose l D dA _ (mJ _) h2) (cwV 1 hts (aGV (aB 15 rfl) (aB 141 rfl) (aB 142 rfl) (aB 113 rfl) (aB 143 rfl)) rfl rfl rfl (by decide +kernel) ⟨Nat.le_of_ble_eq_true rfl, Nat.le_of_ble_eq_true rfl⟩) rfl hl.1 rfl (Nat.le_of_ble_eq_true rfl) dL_law_358 ⟨by show cells + 1 ≤ 600128; omega, by show slots + 6 ≤ 7301064; omega⟩ (fun H locs Z => ?_)
  refine lv_istore (lv' := (6, .int v) :: (5, .int r.1) :: lLs N s b i) hx hb dL_law_361 hl (by decide) rfl (fun ls hl => ?_)
  refine lv_aload_n hx hb dL_law_363 rfl (lv_at hl 4 rfl) ?_
  refine a_refI (As := []) (rest := []) (cells := cells + 1) (slots := slots + 6) F Z S (t_X11_thrown l D dA _ (mJ _) h3) (cwV 0 hts (aGV (aB 9 rfl) (aB 135 rfl) (aB 136 rfl) (aB 113 rfl) (aB 137 rfl)) rfl rfl rfl (by decide +kernel) ⟨Nat.le_of_ble_eq_true rfl, Nat.le_of_ble_eq_true rfl⟩) rfl hl.1 rfl (Nat.le_of_ble_eq_true rfl) dL_law_364 ⟨by show cells + 1 ≤ 600128; omega, by show slots + 6 ≤ 7301064; omega⟩ (fun H locs Z => ?_)
  refine lv_iload hx hb dL_law_367 (lv_at hl 1 rfl) ?_
  unfold lEnd at h
  refine lv_icmp_eq (tgt := 374) hx hb dL_law_369 (by decide) (fun c1 => ?_) (fun c1 => absurd (if_f c1 h) (by simp))
  have h := if_t c1 h
  have hl0 : lv_has ls 8 (lLs N s b i) := lv_sbs hl (fun q hq => List.mem_cons_of_mem _ (List.mem_cons_of_mem _ hq))
  refine lv_iload hx hb dL_law_374 (lv_at hl 1 rfl) ?_
  refine lv_if_ne (tgt := 398) hx hb dL_law_376 (by decide) (fun c2 => ?_) (fun c2 => ?_)
  · have h := Option.some.inj (if_f c2 h)
    subst h
    refine lv_goto (tgt := 1714) hx hb dL_law_398 (by decide) ?_
    exact kk H locs ls _ _ (by omega) (by omega) Z hl0
  · have h := if_t c2 h
    refine lv_aload_n hx hb dL_law_379 rfl (lv_at hl 5 rfl) ?_
    refine lv_iconst (v := (0 : Int32)) hx hb dL_law_380 (by decide) ?_
    refine a_lald F Z hx hb dL_law_381 ?_
    refine lv_iload hx hb dL_law_382 (lv_at hl 0 rfl) ?_
    refine a_lbool hx hb 391 392 dL_law_384 dL_law_387 dL_law_388 dL_law_391 rfl rfl ?_
    by_cases c3 : r.2.1 = (if v = 0 then (0 : Int64) else 1)
    · have h := Option.some.inj (if_t c3 h)
      subst h
      refine W.lcmp hx hb dL_law_392 ?_
      refine lv_if_eq (tgt := 398) hx hb dL_law_393 (by decide) (fun c4 => ?_) (fun c4 => absurd (by show lg_cmp r.2.1 (if v = 0 then (0 : Int64) else 1) = 0; rw [← c3]; exact lg_cmp_z _) c4)
      refine lv_goto (tgt := 1714) hx hb dL_law_398 (by decide) ?_
      exact kk H locs ls _ _ (by omega) (by omega) Z hl0
    · exact absurd (if_f c3 h) (by simp)
set_option maxHeartbeats 4000000 in
set_option maxRecDepth 100000 in
theorem law_priority {p : Program} {l : Launch} {e : Env} {s : State} {m : MethodId} {below : List Frame} {meth : Method} {c : Code} {H : Heap} {locs : List Loc} {cells slots : Nat} {Q : State → Prop} {N b L i : Nat} {ls : Array Slot} {D : va_G} {dA : Nat → ClassId} {tx : Nat → Nat} {cL : ClassId} {z z1 : lS} {xs : Nat → Int32} (F : lF l s N D dA tx cL) (S : CallFix p m c cL_law 8 s #[.ref b] aBig RL) (hX : va_X b L xs s s.heap) (hbl : b < s.heap.size) (hL : L ≤ 321) (hi : i + 5 ≤ L) (Z : lH N D dA cL s z H locs) (hl : lv_has ls 8 (lLs N s b i)) (hf : cells + 3 ≤ 600128 ∧ slots + 18 ≤ 7301064) (h : s_priority N z (xs (i + 1)) (xs (i + 2)) (xs (i + 3)) = some z1) (kk : lKK p l e s m below meth c b N D dA cL Q i z1 cells slots) : W p l e room_1 s m #[.ref b] below meth c H locs cells slots Q (F0 m 401 ls []) := by
  obtain ⟨hx, hb, -, hown, hts⟩ := id S
  have hst := F.1
  have hN := F.2.1
  unfold s_priority at h
  obtain ⟨r, h1, h⟩ := o1_e h
  obtain ⟨v, Mr, h2, h⟩ := ob_e h
  obtain ⟨t, h3, h⟩ := o1_e h
  refine lv_aload_n hx hb dL_law_401 rfl (lv_at hl 1 rfl) ?_
  refine a_arg hX hbl Z hx hb 1 hL (by omega) (by decide) (lv_at hl 0 rfl) (lv_at hl 4 rfl) dL_law_402 dL_law_403 dL_law_405 dL_law_406 dL_law_407 ?_
  refine a_arg hX hbl Z hx hb 2 hL (by omega) (by decide) (lv_at hl 0 rfl) (lv_at hl 4 rfl) dL_law_408 dL_law_409 dL_law_411 dL_law_412 dL_law_413 ?_
  refine a_arg hX hbl Z hx hb 3 hL (by omega) (by decide) (lv_at hl 0 rfl) (lv_at hl 4 rfl) dL_law_414 dL_law_415 dL_law_417 dL_law_418 dL_law_419 ?_
  refine lv_aload_n hx hb dL_law_420 rfl (lv_at hl 3 rfl) ?_
  refine a_wrap (As := [.ref (cAd N s.heap.size (0, 0, 0)), .int (xs (i + 1)), .int (xs (i + 2)), .int (xs (i + 3)), .ref (lQo N s)]) (rest := []) F Z S (t_L_priority l hst N D dA _ (cJ hN.1 hN.2) tx _ cL _ (l_qo F Z.2.2.2.2) z.2.2 h1) (vx_cwSW 5 hts (aGS (bs := lBig) (fun w h => a_l h) (aB 16 rfl) (aB 76 rfl) (aB 115 rfl) (aB 77 rfl)) rfl rfl rfl (by decide +kernel) ⟨Nat.le_of_ble_eq_true rfl, Nat.le_of_ble_eq_true rfl⟩) rfl hl.1 rfl (Nat.le_of_ble_eq_true rfl) dL_law_421 ⟨by show cells + 3 ≤ 600128; omega, by show slots + 18 ≤ 7301064; omega⟩ (fun H locs Z => ?_)
  refine lv_istore (lv' := (5, .int r.1) :: lLs N s b i) hx hb dL_law_424 hl (by decide) rfl (fun ls hl => ?_)
  refine lv_aload_n hx hb dL_law_426 rfl (lv_at hl 3 rfl) ?_
  refine a_arg hX hbl Z hx hb 1 hL (by omega) (by decide) (lv_at hl 1 rfl) (lv_at hl 5 rfl) dL_law_427 dL_law_428 dL_law_430 dL_law_431 dL_law_432 ?_
  refine a_arg hX hbl Z hx hb 2 hL (by omega) (by decide) (lv_at hl 1 rfl) (lv_at hl 5 rfl) dL_law_433 dL_law_434 dL_law_436 dL_law_437 dL_law_438 ?_
  refine a_arg hX hbl Z hx hb 3 hL (by omega) (by decide) (lv_at hl 1 rfl) (lv_at hl 5 rfl) dL_law_439 dL_law_440 dL_law_442 dL_law_443 dL_law_444 ?_
  refine a_refI (As := [.int (xs (i + 1)), .int (xs (i + 2)), .int (xs (i + 3))]) (rest := []) (cells := cells + 3) (slots := slots + 18) F Z S (t_X11_priority l D dA _ (mJ _) h2) (cwV 3 hts (aGV (aB 19 rfl) (aB 144 rfl) (aB 145 rfl) (aB 113 rfl) (aB 146 rfl)) rfl rfl rfl (by decide +kernel) ⟨Nat.le_of_ble_eq_true rfl, Nat.le_of_ble_eq_true rfl⟩) rfl hl.1 rfl (Nat.le_of_ble_eq_true rfl) dL_law_445 ⟨by show cells + 3 ≤ 600128; omega, by show slots + 18 ≤ 7301064; omega⟩ (fun H locs Z => ?_)
  refine lv_istore (lv' := (6, .int v) :: (5, .int r.1) :: lLs N s b i) hx hb dL_law_448 hl (by decide) rfl (fun ls hl => ?_)
  refine lv_aload_n hx hb dL_law_450 rfl (lv_at hl 4 rfl) ?_
  refine a_refI (As := []) (rest := []) (cells := cells + 3) (slots := slots + 18) F Z S (t_X11_thrown l D dA _ (mJ _) h3) (cwV 0 hts (aGV (aB 9 rfl) (aB 135 rfl) (aB 136 rfl) (aB 113 rfl) (aB 137 rfl)) rfl rfl rfl (by decide +kernel) ⟨Nat.le_of_ble_eq_true rfl, Nat.le_of_ble_eq_true rfl⟩) rfl hl.1 rfl (Nat.le_of_ble_eq_true rfl) dL_law_451 ⟨by show cells + 3 ≤ 600128; omega, by show slots + 18 ≤ 7301064; omega⟩ (fun H locs Z => ?_)
  refine lv_iload hx hb dL_law_454 (lv_at hl 1 rfl) ?_
  unfold lEnd at h
  refine lv_icmp_eq (tgt := 461) hx hb dL_law_456 (by decide) (fun c1 => ?_) (fun c1 => absurd (if_f c1 h) (by simp))
  have h := if_t c1 h
  have hl0 : lv_has ls 8 (lLs N s b i) := lv_sbs hl (fun q hq => List.mem_cons_of_mem _ (List.mem_cons_of_mem _ hq))
  refine lv_iload hx hb dL_law_461 (lv_at hl 1 rfl) ?_
  refine lv_if_ne (tgt := 478) hx hb dL_law_463 (by decide) (fun c2 => ?_) (fun c2 => ?_)
  · have h := Option.some.inj (if_f c2 h)
    subst h
    refine lv_goto (tgt := 1714) hx hb dL_law_478 (by decide) ?_
    exact kk H locs ls _ _ (by omega) (by omega) Z hl0
  · have h := if_t c2 h
    refine lv_aload_n hx hb dL_law_466 rfl (lv_at hl 5 rfl) ?_
    refine lv_iconst (v := (0 : Int32)) hx hb dL_law_467 (by decide) ?_
    refine a_lald F Z hx hb dL_law_468 ?_
    refine lv_iload hx hb dL_law_469 (lv_at hl 0 rfl) ?_
    refine lv_i2l hx hb dL_law_471 rfl ?_
    by_cases c3 : r.2.1 = v.toInt64
    · have h := Option.some.inj (if_t c3 h)
      subst h
      refine W.lcmp hx hb dL_law_472 ?_
      refine lv_if_eq (tgt := 478) hx hb dL_law_473 (by decide) (fun c4 => ?_) (fun c4 => absurd (by show lg_cmp r.2.1 v.toInt64 = 0; rw [← c3]; exact lg_cmp_z _) c4)
      refine lv_goto (tgt := 1714) hx hb dL_law_478 (by decide) ?_
      exact kk H locs ls _ _ (by omega) (by omega) Z hl0
    · exact absurd (if_f c3 h) (by simp)
set_option maxHeartbeats 4000000 in
set_option maxRecDepth 100000 in
theorem law_find {p : Program} {l : Launch} {e : Env} {s : State} {m : MethodId} {below : List Frame} {meth : Method} {c : Code} {H : Heap} {locs : List Loc} {cells slots : Nat} {Q : State → Prop} {N b L i : Nat} {ls : Array Slot} {D : va_G} {dA : Nat → ClassId} {tx : Nat → Nat} {cL : ClassId} {z z1 : lS} {xs : Nat → Int32} (F : lF l s N D dA tx cL) (S : CallFix p m c cL_law 8 s #[.ref b] aBig RL) (hX : va_X b L xs s s.heap) (hbl : b < s.heap.size) (hL : L ≤ 321) (hi : i + 5 ≤ L) (Z : lH N D dA cL s z H locs) (hl : lv_has ls 8 (lLs N s b i)) (hf : cells + 3 ≤ 600128 ∧ slots + 18 ≤ 7301064) (h : s_find N z (xs (i + 1)) (xs (i + 2)) (xs (i + 3)) = some z1) (kk : lKK p l e s m below meth c b N D dA cL Q i z1 cells slots) : W p l e room_1 s m #[.ref b] below meth c H locs cells slots Q (F0 m 481 ls []) := by
  obtain ⟨hx, hb, -, hown, hts⟩ := id S
  have hst := F.1
  have hN := F.2.1
  unfold s_find at h
  obtain ⟨r, h1, h⟩ := o1_e h
  obtain ⟨v, Mr, h2, h⟩ := ob_e h
  obtain ⟨t, h3, h⟩ := o1_e h
  refine lv_aload_n hx hb dL_law_481 rfl (lv_at hl 1 rfl) ?_
  refine a_arg hX hbl Z hx hb 1 hL (by omega) (by decide) (lv_at hl 0 rfl) (lv_at hl 4 rfl) dL_law_482 dL_law_483 dL_law_485 dL_law_486 dL_law_487 ?_
  refine a_arg hX hbl Z hx hb 2 hL (by omega) (by decide) (lv_at hl 0 rfl) (lv_at hl 4 rfl) dL_law_488 dL_law_489 dL_law_491 dL_law_492 dL_law_493 ?_
  refine a_arg hX hbl Z hx hb 3 hL (by omega) (by decide) (lv_at hl 0 rfl) (lv_at hl 4 rfl) dL_law_494 dL_law_495 dL_law_497 dL_law_498 dL_law_499 ?_
  refine lv_aload_n hx hb dL_law_500 rfl (lv_at hl 3 rfl) ?_
  refine a_wrap (As := [.ref (cAd N s.heap.size (0, 0, 0)), .int (xs (i + 1)), .int (xs (i + 2)), .int (xs (i + 3)), .ref (lQo N s)]) (rest := []) F Z S (t_L_find l hst N D dA _ (cJ hN.1 hN.2) tx _ cL _ (l_qo F Z.2.2.2.2) z.2.2 h1) (vx_cwSW 5 hts (aGS (bs := lBig) (fun w h => a_l h) (aB 20 rfl) (aB 78 rfl) (aB 115 rfl) (aB 79 rfl)) rfl rfl rfl (by decide +kernel) ⟨Nat.le_of_ble_eq_true rfl, Nat.le_of_ble_eq_true rfl⟩) rfl hl.1 rfl (Nat.le_of_ble_eq_true rfl) dL_law_501 ⟨by show cells + 3 ≤ 600128; omega, by show slots + 18 ≤ 7301064; omega⟩ (fun H locs Z => ?_)
  refine lv_istore (lv' := (5, .int r.1) :: lLs N s b i) hx hb dL_law_504 hl (by decide) rfl (fun ls hl => ?_)
  refine lv_aload_n hx hb dL_law_506 rfl (lv_at hl 3 rfl) ?_
  refine a_arg hX hbl Z hx hb 1 hL (by omega) (by decide) (lv_at hl 1 rfl) (lv_at hl 5 rfl) dL_law_507 dL_law_508 dL_law_510 dL_law_511 dL_law_512 ?_
  refine a_arg hX hbl Z hx hb 2 hL (by omega) (by decide) (lv_at hl 1 rfl) (lv_at hl 5 rfl) dL_law_513 dL_law_514 dL_law_516 dL_law_517 dL_law_518 ?_
  refine a_arg hX hbl Z hx hb 3 hL (by omega) (by decide) (lv_at hl 1 rfl) (lv_at hl 5 rfl) dL_law_519 dL_law_520 dL_law_522 dL_law_523 dL_law_524 ?_
  refine a_refL (As := [.int (xs (i + 1)), .int (xs (i + 2)), .int (xs (i + 3))]) (rest := []) (cells := cells + 3) (slots := slots + 18) F Z S (t_X11_find l D dA _ (mJ _) h2) (cwV 3 hts (aGV (aB 22 rfl) (aB 149 rfl) (aB 150 rfl) (aB 113 rfl) (aB 151 rfl)) rfl rfl rfl (by decide +kernel) ⟨Nat.le_of_ble_eq_true rfl, Nat.le_of_ble_eq_true rfl⟩) rfl hl.1 rfl (Nat.le_of_ble_eq_true rfl) dL_law_525 ⟨by show cells + 3 ≤ 600128; omega, by show slots + 18 ≤ 7301064; omega⟩ (fun H locs Z => ?_)
  refine lv_lstore (lv' := (6, .long v) :: (5, .int r.1) :: lLs N s b i) hx hb dL_law_528 hl (by decide) rfl (fun ls hl => ?_)
  refine lv_aload_n hx hb dL_law_530 rfl (lv_at hl 4 rfl) ?_
  refine a_refI (As := []) (rest := []) (cells := cells + 3) (slots := slots + 18) F Z S (t_X11_thrown l D dA _ (mJ _) h3) (cwV 0 hts (aGV (aB 9 rfl) (aB 135 rfl) (aB 136 rfl) (aB 113 rfl) (aB 137 rfl)) rfl rfl rfl (by decide +kernel) ⟨Nat.le_of_ble_eq_true rfl, Nat.le_of_ble_eq_true rfl⟩) rfl hl.1 rfl (Nat.le_of_ble_eq_true rfl) dL_law_531 ⟨by show cells + 3 ≤ 600128; omega, by show slots + 18 ≤ 7301064; omega⟩ (fun H locs Z => ?_)
  refine lv_iload hx hb dL_law_534 (lv_at hl 1 rfl) ?_
  unfold lEnd at h
  refine lv_icmp_eq (tgt := 541) hx hb dL_law_536 (by decide) (fun c1 => ?_) (fun c1 => absurd (if_f c1 h) (by simp))
  have h := if_t c1 h
  have hl0 : lv_has ls 8 (lLs N s b i) := lv_sbs hl (fun q hq => List.mem_cons_of_mem _ (List.mem_cons_of_mem _ hq))
  refine lv_iload hx hb dL_law_541 (lv_at hl 1 rfl) ?_
  refine lv_if_ne (tgt := 557) hx hb dL_law_543 (by decide) (fun c2 => ?_) (fun c2 => ?_)
  · have h := Option.some.inj (if_f c2 h)
    subst h
    refine lv_goto (tgt := 1714) hx hb dL_law_557 (by decide) ?_
    exact kk H locs ls _ _ (by omega) (by omega) Z hl0
  · have h := if_t c2 h
    refine lv_aload_n hx hb dL_law_546 rfl (lv_at hl 5 rfl) ?_
    refine lv_iconst (v := (0 : Int32)) hx hb dL_law_547 (by decide) ?_
    refine a_lald F Z hx hb dL_law_548 ?_
    refine lv_lload hx hb dL_law_549 (lv_at hl 0 rfl) ?_
    by_cases c3 : r.2.1 = v
    · have h := Option.some.inj (if_t c3 h)
      subst h
      refine W.lcmp hx hb dL_law_551 ?_
      refine lv_if_eq (tgt := 557) hx hb dL_law_552 (by decide) (fun c4 => ?_) (fun c4 => absurd (by show lg_cmp r.2.1 v = 0; rw [← c3]; exact lg_cmp_z _) c4)
      refine lv_goto (tgt := 1714) hx hb dL_law_557 (by decide) ?_
      exact kk H locs ls _ _ (by omega) (by omega) Z hl0
    · exact absurd (if_f c3 h) (by simp)
set_option maxHeartbeats 4000000 in
set_option maxRecDepth 100000 in
theorem law_read {p : Program} {l : Launch} {e : Env} {s : State} {m : MethodId} {below : List Frame} {meth : Method} {c : Code} {H : Heap} {locs : List Loc} {cells slots : Nat} {Q : State → Prop} {N b L i : Nat} {ls : Array Slot} {D : va_G} {dA : Nat → ClassId} {tx : Nat → Nat} {cL : ClassId} {z z1 : lS} {xs : Nat → Int32} (F : lF l s N D dA tx cL) (S : CallFix p m c cL_law 8 s #[.ref b] aBig RL) (hX : va_X b L xs s s.heap) (hbl : b < s.heap.size) (hL : L ≤ 321) (hi : i + 5 ≤ L) (Z : lH N D dA cL s z H locs) (hl : lv_has ls 8 (lLs N s b i)) (hf : cells + 3 ≤ 600128 ∧ slots + 18 ≤ 7301064) (h : s_read N z (xs (i + 1)) (xs (i + 2)) = some z1) (kk : lKK p l e s m below meth c b N D dA cL Q i z1 cells slots) : W p l e room_1 s m #[.ref b] below meth c H locs cells slots Q (F0 m 560 ls []) := by
  obtain ⟨hx, hb, -, hown, hts⟩ := id S
  have hst := F.1
  have hN := F.2.1
  unfold s_read at h
  obtain ⟨r, h1, h⟩ := o1_e h
  obtain ⟨v, Mr, h2, h⟩ := ob_e h
  obtain ⟨t, h3, h⟩ := o1_e h
  refine lv_aload_n hx hb dL_law_560 rfl (lv_at hl 1 rfl) ?_
  refine a_arg hX hbl Z hx hb 1 hL (by omega) (by decide) (lv_at hl 0 rfl) (lv_at hl 4 rfl) dL_law_561 dL_law_562 dL_law_564 dL_law_565 dL_law_566 ?_
  refine a_arg hX hbl Z hx hb 2 hL (by omega) (by decide) (lv_at hl 0 rfl) (lv_at hl 4 rfl) dL_law_567 dL_law_568 dL_law_570 dL_law_571 dL_law_572 ?_
  refine lv_aload_n hx hb dL_law_573 rfl (lv_at hl 3 rfl) ?_
  refine a_wrap (As := [.ref (cAd N s.heap.size (0, 0, 0)), .int (xs (i + 1)), .int (xs (i + 2)), .ref (lQo N s)]) (rest := []) F Z S (t_L_read l hst N D dA _ (cJ hN.1 hN.2) tx _ cL _ (l_qo F Z.2.2.2.2) z.2.2 h1) (vx_cwSW 4 hts (aGS (bs := lBig) (fun w h => a_l h) (aB 23 rfl) (aB 80 rfl) (aB 115 rfl) (aB 81 rfl)) rfl rfl rfl (by decide +kernel) ⟨Nat.le_of_ble_eq_true rfl, Nat.le_of_ble_eq_true rfl⟩) rfl hl.1 rfl (Nat.le_of_ble_eq_true rfl) dL_law_574 ⟨by show cells + 2 ≤ 600128; omega, by show slots + 12 ≤ 7301064; omega⟩ (fun H locs Z => ?_)
  refine lv_istore (lv' := (5, .int r.1) :: lLs N s b i) hx hb dL_law_577 hl (by decide) rfl (fun ls hl => ?_)
  refine lv_aload_n hx hb dL_law_579 rfl (lv_at hl 3 rfl) ?_
  refine a_arg hX hbl Z hx hb 1 hL (by omega) (by decide) (lv_at hl 1 rfl) (lv_at hl 5 rfl) dL_law_580 dL_law_581 dL_law_583 dL_law_584 dL_law_585 ?_
  refine a_arg hX hbl Z hx hb 2 hL (by omega) (by decide) (lv_at hl 1 rfl) (lv_at hl 5 rfl) dL_law_586 dL_law_587 dL_law_589 dL_law_590 dL_law_591 ?_
  refine a_refL (As := [.int (xs (i + 1)), .int (xs (i + 2))]) (rest := []) (cells := cells + 2) (slots := slots + 12) F Z S (t_X11_read l D dA _ (mJ _) h2) (cwV 2 hts (aGV (aB 25 rfl) (aB 206 rfl) (aB 207 rfl) (aB 113 rfl) (aB 208 rfl)) rfl rfl rfl (by decide +kernel) ⟨Nat.le_of_ble_eq_true rfl, Nat.le_of_ble_eq_true rfl⟩) rfl hl.1 rfl (Nat.le_of_ble_eq_true rfl) dL_law_592 ⟨by show cells + 2 ≤ 600128; omega, by show slots + 12 ≤ 7301064; omega⟩ (fun H locs Z => ?_)
  refine lv_lstore (lv' := (6, .long v) :: (5, .int r.1) :: lLs N s b i) hx hb dL_law_595 hl (by decide) rfl (fun ls hl => ?_)
  refine lv_aload_n hx hb dL_law_597 rfl (lv_at hl 4 rfl) ?_
  refine a_refI (As := []) (rest := []) (cells := cells + 2) (slots := slots + 12) F Z S (t_X11_thrown l D dA _ (mJ _) h3) (cwV 0 hts (aGV (aB 9 rfl) (aB 135 rfl) (aB 136 rfl) (aB 113 rfl) (aB 137 rfl)) rfl rfl rfl (by decide +kernel) ⟨Nat.le_of_ble_eq_true rfl, Nat.le_of_ble_eq_true rfl⟩) rfl hl.1 rfl (Nat.le_of_ble_eq_true rfl) dL_law_598 ⟨by show cells + 2 ≤ 600128; omega, by show slots + 12 ≤ 7301064; omega⟩ (fun H locs Z => ?_)
  refine lv_iload hx hb dL_law_601 (lv_at hl 1 rfl) ?_
  unfold lEnd at h
  refine lv_icmp_eq (tgt := 608) hx hb dL_law_603 (by decide) (fun c1 => ?_) (fun c1 => absurd (if_f c1 h) (by simp))
  have h := if_t c1 h
  have hl0 : lv_has ls 8 (lLs N s b i) := lv_sbs hl (fun q hq => List.mem_cons_of_mem _ (List.mem_cons_of_mem _ hq))
  refine lv_iload hx hb dL_law_608 (lv_at hl 1 rfl) ?_
  refine lv_if_ne (tgt := 624) hx hb dL_law_610 (by decide) (fun c2 => ?_) (fun c2 => ?_)
  · have h := Option.some.inj (if_f c2 h)
    subst h
    refine lv_goto (tgt := 1714) hx hb dL_law_624 (by decide) ?_
    exact kk H locs ls _ _ (by omega) (by omega) Z hl0
  · have h := if_t c2 h
    refine lv_aload_n hx hb dL_law_613 rfl (lv_at hl 5 rfl) ?_
    refine lv_iconst (v := (0 : Int32)) hx hb dL_law_614 (by decide) ?_
    refine a_lald F Z hx hb dL_law_615 ?_
    refine lv_lload hx hb dL_law_616 (lv_at hl 0 rfl) ?_
    by_cases c3 : r.2.1 = v
    · have h := Option.some.inj (if_t c3 h)
      subst h
      refine W.lcmp hx hb dL_law_618 ?_
      refine lv_if_eq (tgt := 624) hx hb dL_law_619 (by decide) (fun c4 => ?_) (fun c4 => absurd (by show lg_cmp r.2.1 v = 0; rw [← c3]; exact lg_cmp_z _) c4)
      refine lv_goto (tgt := 1714) hx hb dL_law_624 (by decide) ?_
      exact kk H locs ls _ _ (by omega) (by omega) Z hl0
    · exact absurd (if_f c3 h) (by simp)
set_option maxHeartbeats 4000000 in
set_option maxRecDepth 100000 in
theorem law_write {p : Program} {l : Launch} {e : Env} {s : State} {m : MethodId} {below : List Frame} {meth : Method} {c : Code} {H : Heap} {locs : List Loc} {cells slots : Nat} {Q : State → Prop} {N b L i : Nat} {ls : Array Slot} {D : va_G} {dA : Nat → ClassId} {tx : Nat → Nat} {cL : ClassId} {z z1 : lS} {xs : Nat → Int32} (F : lF l s N D dA tx cL) (S : CallFix p m c cL_law 8 s #[.ref b] aBig RL) (hX : va_X b L xs s s.heap) (hbl : b < s.heap.size) (hL : L ≤ 321) (hi : i + 5 ≤ L) (Z : lH N D dA cL s z H locs) (hl : lv_has ls 8 (lLs N s b i)) (hf : cells + 3 ≤ 600128 ∧ slots + 18 ≤ 7301064) (h : s_write N z (xs (i + 1)) (xs (i + 2)) (xs (i + 3)) (xs (i + 4)) = some z1) (kk : lKK p l e s m below meth c b N D dA cL Q i z1 cells slots) : W p l e room_1 s m #[.ref b] below meth c H locs cells slots Q (F0 m 627 ls []) := by
  obtain ⟨hx, hb, -, hown, hts⟩ := id S
  have hst := F.1
  have hN := F.2.1
  unfold s_write at h
  obtain ⟨r, h1, h⟩ := o1_e h
  obtain ⟨v, Mr, h2, h⟩ := ob_e h
  obtain ⟨t, h3, h⟩ := o1_e h
  refine lv_aload_n hx hb dL_law_627 rfl (lv_at hl 1 rfl) ?_
  refine a_arg hX hbl Z hx hb 1 hL (by omega) (by decide) (lv_at hl 0 rfl) (lv_at hl 4 rfl) dL_law_628 dL_law_629 dL_law_631 dL_law_632 dL_law_633 ?_
  refine a_arg hX hbl Z hx hb 2 hL (by omega) (by decide) (lv_at hl 0 rfl) (lv_at hl 4 rfl) dL_law_634 dL_law_635 dL_law_637 dL_law_638 dL_law_639 ?_
  refine a_arg hX hbl Z hx hb 3 hL (by omega) (by decide) (lv_at hl 0 rfl) (lv_at hl 4 rfl) dL_law_640 dL_law_641 dL_law_643 dL_law_644 dL_law_645 ?_
  refine a_arg hX hbl Z hx hb 4 hL (by omega) (by decide) (lv_at hl 0 rfl) (lv_at hl 4 rfl) dL_law_646 dL_law_647 dL_law_649 dL_law_650 dL_law_651 ?_
  refine lv_aload_n hx hb dL_law_652 rfl (lv_at hl 3 rfl) ?_
  refine a_wrap (As := [.ref (cAd N s.heap.size (0, 0, 0)), .int (xs (i + 1)), .int (xs (i + 2)), .int (xs (i + 3)), .int (xs (i + 4)), .ref (lQo N s)]) (rest := []) F Z S (t_L_write l hst N D dA _ (cJ hN.1 hN.2) tx _ cL _ (l_qo F Z.2.2.2.2) z.2.2 h1) (vx_cwSW 6 hts (aGS (bs := lBig) (fun w h => a_l h) (aB 26 rfl) (aB 82 rfl) (aB 115 rfl) (aB 83 rfl)) rfl rfl rfl (by decide +kernel) ⟨Nat.le_of_ble_eq_true rfl, Nat.le_of_ble_eq_true rfl⟩) rfl hl.1 rfl (Nat.le_of_ble_eq_true rfl) dL_law_653 ⟨by show cells + 3 ≤ 600128; omega, by show slots + 18 ≤ 7301064; omega⟩ (fun H locs Z => ?_)
  refine lv_istore (lv' := (5, .int r.1) :: lLs N s b i) hx hb dL_law_656 hl (by decide) rfl (fun ls hl => ?_)
  refine lv_aload_n hx hb dL_law_658 rfl (lv_at hl 3 rfl) ?_
  refine a_arg hX hbl Z hx hb 1 hL (by omega) (by decide) (lv_at hl 1 rfl) (lv_at hl 5 rfl) dL_law_659 dL_law_660 dL_law_662 dL_law_663 dL_law_664 ?_
  refine a_arg hX hbl Z hx hb 2 hL (by omega) (by decide) (lv_at hl 1 rfl) (lv_at hl 5 rfl) dL_law_665 dL_law_666 dL_law_668 dL_law_669 dL_law_670 ?_
  refine a_arg hX hbl Z hx hb 3 hL (by omega) (by decide) (lv_at hl 1 rfl) (lv_at hl 5 rfl) dL_law_671 dL_law_672 dL_law_674 dL_law_675 dL_law_676 ?_
  refine a_arg hX hbl Z hx hb 4 hL (by omega) (by decide) (lv_at hl 1 rfl) (lv_at hl 5 rfl) dL_law_677 dL_law_678 dL_law_680 dL_law_681 dL_law_682 ?_
  refine a_refL (As := [.int (xs (i + 1)), .int (xs (i + 2)), .int (xs (i + 3)), .int (xs (i + 4))]) (rest := []) (cells := cells + 3) (slots := slots + 18) F Z S (t_X11_write l D dA _ (mJ _) h2) (cwV 4 hts (aGV (aB 28 rfl) (aB 209 rfl) (aB 210 rfl) (aB 113 rfl) (aB 211 rfl)) rfl rfl rfl (by decide +kernel) ⟨Nat.le_of_ble_eq_true rfl, Nat.le_of_ble_eq_true rfl⟩) rfl hl.1 rfl (Nat.le_of_ble_eq_true rfl) dL_law_683 ⟨by show cells + 3 ≤ 600128; omega, by show slots + 18 ≤ 7301064; omega⟩ (fun H locs Z => ?_)
  refine lv_lstore (lv' := (6, .long v) :: (5, .int r.1) :: lLs N s b i) hx hb dL_law_686 hl (by decide) rfl (fun ls hl => ?_)
  refine lv_aload_n hx hb dL_law_688 rfl (lv_at hl 4 rfl) ?_
  refine a_refI (As := []) (rest := []) (cells := cells + 3) (slots := slots + 18) F Z S (t_X11_thrown l D dA _ (mJ _) h3) (cwV 0 hts (aGV (aB 9 rfl) (aB 135 rfl) (aB 136 rfl) (aB 113 rfl) (aB 137 rfl)) rfl rfl rfl (by decide +kernel) ⟨Nat.le_of_ble_eq_true rfl, Nat.le_of_ble_eq_true rfl⟩) rfl hl.1 rfl (Nat.le_of_ble_eq_true rfl) dL_law_689 ⟨by show cells + 3 ≤ 600128; omega, by show slots + 18 ≤ 7301064; omega⟩ (fun H locs Z => ?_)
  refine lv_iload hx hb dL_law_692 (lv_at hl 1 rfl) ?_
  unfold lEnd at h
  refine lv_icmp_eq (tgt := 699) hx hb dL_law_694 (by decide) (fun c1 => ?_) (fun c1 => absurd (if_f c1 h) (by simp))
  have h := if_t c1 h
  have hl0 : lv_has ls 8 (lLs N s b i) := lv_sbs hl (fun q hq => List.mem_cons_of_mem _ (List.mem_cons_of_mem _ hq))
  refine lv_iload hx hb dL_law_699 (lv_at hl 1 rfl) ?_
  refine lv_if_ne (tgt := 715) hx hb dL_law_701 (by decide) (fun c2 => ?_) (fun c2 => ?_)
  · have h := Option.some.inj (if_f c2 h)
    subst h
    refine lv_goto (tgt := 1714) hx hb dL_law_715 (by decide) ?_
    exact kk H locs ls _ _ (by omega) (by omega) Z hl0
  · have h := if_t c2 h
    refine lv_aload_n hx hb dL_law_704 rfl (lv_at hl 5 rfl) ?_
    refine lv_iconst (v := (0 : Int32)) hx hb dL_law_705 (by decide) ?_
    refine a_lald F Z hx hb dL_law_706 ?_
    refine lv_lload hx hb dL_law_707 (lv_at hl 0 rfl) ?_
    by_cases c3 : r.2.1 = v
    · have h := Option.some.inj (if_t c3 h)
      subst h
      refine W.lcmp hx hb dL_law_709 ?_
      refine lv_if_eq (tgt := 715) hx hb dL_law_710 (by decide) (fun c4 => ?_) (fun c4 => absurd (by show lg_cmp r.2.1 v = 0; rw [← c3]; exact lg_cmp_z _) c4)
      refine lv_goto (tgt := 1714) hx hb dL_law_715 (by decide) ?_
      exact kk H locs ls _ _ (by omega) (by omega) Z hl0
    · exact absurd (if_f c3 h) (by simp)
set_option maxHeartbeats 4000000 in
set_option maxRecDepth 100000 in
theorem law_make {p : Program} {l : Launch} {e : Env} {s : State} {m : MethodId} {below : List Frame} {meth : Method} {c : Code} {H : Heap} {locs : List Loc} {cells slots : Nat} {Q : State → Prop} {N b L i : Nat} {ls : Array Slot} {D : va_G} {dA : Nat → ClassId} {tx : Nat → Nat} {cL : ClassId} {z z1 : lS} {xs : Nat → Int32} (F : lF l s N D dA tx cL) (S : CallFix p m c cL_law 8 s #[.ref b] aBig RL) (hX : va_X b L xs s s.heap) (hbl : b < s.heap.size) (hL : L ≤ 321) (hi : i + 5 ≤ L) (Z : lH N D dA cL s z H locs) (hl : lv_has ls 8 (lLs N s b i)) (hf : cells + 3 ≤ 600128 ∧ slots + 18 ≤ 7301064) (h : s_make N z (xs (i + 1)) (xs (i + 2)) (xs (i + 3)) (xs (i + 4)) = some z1) (kk : lKK p l e s m below meth c b N D dA cL Q i z1 cells slots) : W p l e room_1 s m #[.ref b] below meth c H locs cells slots Q (F0 m 718 ls []) := by
  obtain ⟨hx, hb, -, hown, hts⟩ := id S
  have hst := F.1
  have hN := F.2.1
  unfold s_make at h
  obtain ⟨r, h1, h⟩ := o1_e h
  obtain ⟨v, Mr, h2, h⟩ := ob_e h
  obtain ⟨t, h3, h⟩ := o1_e h
  refine lv_aload_n hx hb dL_law_718 rfl (lv_at hl 1 rfl) ?_
  refine a_arg hX hbl Z hx hb 1 hL (by omega) (by decide) (lv_at hl 0 rfl) (lv_at hl 4 rfl) dL_law_719 dL_law_720 dL_law_722 dL_law_723 dL_law_724 ?_
  refine a_arg hX hbl Z hx hb 2 hL (by omega) (by decide) (lv_at hl 0 rfl) (lv_at hl 4 rfl) dL_law_725 dL_law_726 dL_law_728 dL_law_729 dL_law_730 ?_
  refine a_arg hX hbl Z hx hb 3 hL (by omega) (by decide) (lv_at hl 0 rfl) (lv_at hl 4 rfl) dL_law_731 dL_law_732 dL_law_734 dL_law_735 dL_law_736 ?_
  refine a_arg hX hbl Z hx hb 4 hL (by omega) (by decide) (lv_at hl 0 rfl) (lv_at hl 4 rfl) dL_law_737 dL_law_738 dL_law_740 dL_law_741 dL_law_742 ?_
  refine a_bool hx hb 750 751 dL_law_743 dL_law_746 dL_law_747 dL_law_750 rfl rfl ?_
  refine lv_aload_n hx hb dL_law_751 rfl (lv_at hl 3 rfl) ?_
  refine a_wrap (As := [.ref (cAd N s.heap.size (0, 0, 0)), .int (xs (i + 1)), .int (xs (i + 2)), .int (xs (i + 3)), .int (if xs (i + 4) = 0 then (0 : Int32) else 1), .ref (lQo N s)]) (rest := []) F Z S (t_L_make l hst N D dA _ (cJ hN.1 hN.2) tx _ cL _ (l_qo F Z.2.2.2.2) z.2.2 h1) (vx_cwSW 6 hts (aGS (bs := lBig) (fun w h => a_l h) (aB 29 rfl) (aB 84 rfl) (aB 115 rfl) (aB 85 rfl)) rfl rfl rfl (by decide +kernel) ⟨Nat.le_of_ble_eq_true rfl, Nat.le_of_ble_eq_true rfl⟩) rfl hl.1 rfl (Nat.le_of_ble_eq_true rfl) dL_law_752 ⟨by show cells + 3 ≤ 600128; omega, by show slots + 18 ≤ 7301064; omega⟩ (fun H locs Z => ?_)
  refine lv_istore (lv' := (5, .int r.1) :: lLs N s b i) hx hb dL_law_755 hl (by decide) rfl (fun ls hl => ?_)
  refine lv_aload_n hx hb dL_law_757 rfl (lv_at hl 3 rfl) ?_
  refine a_arg hX hbl Z hx hb 1 hL (by omega) (by decide) (lv_at hl 1 rfl) (lv_at hl 5 rfl) dL_law_758 dL_law_759 dL_law_761 dL_law_762 dL_law_763 ?_
  refine a_arg hX hbl Z hx hb 2 hL (by omega) (by decide) (lv_at hl 1 rfl) (lv_at hl 5 rfl) dL_law_764 dL_law_765 dL_law_767 dL_law_768 dL_law_769 ?_
  refine a_arg hX hbl Z hx hb 3 hL (by omega) (by decide) (lv_at hl 1 rfl) (lv_at hl 5 rfl) dL_law_770 dL_law_771 dL_law_773 dL_law_774 dL_law_775 ?_
  refine a_arg hX hbl Z hx hb 4 hL (by omega) (by decide) (lv_at hl 1 rfl) (lv_at hl 5 rfl) dL_law_776 dL_law_777 dL_law_779 dL_law_780 dL_law_781 ?_
  refine a_bool hx hb 789 790 dL_law_782 dL_law_785 dL_law_786 dL_law_789 rfl rfl ?_
  refine a_refL (As := [.int (xs (i + 1)), .int (xs (i + 2)), .int (xs (i + 3)), .int (if xs (i + 4) = 0 then (0 : Int32) else 1)]) (rest := []) (cells := cells + 3) (slots := slots + 18) F Z S (t_X11_make l D dA _ (mJ _) h2) (cwV 4 hts (aGV (aB 31 rfl) (aB 243 rfl) (aB 244 rfl) (aB 113 rfl) (aB 245 rfl)) rfl rfl rfl (by decide +kernel) ⟨Nat.le_of_ble_eq_true rfl, Nat.le_of_ble_eq_true rfl⟩) rfl hl.1 rfl (Nat.le_of_ble_eq_true rfl) dL_law_790 ⟨by show cells + 3 ≤ 600128; omega, by show slots + 18 ≤ 7301064; omega⟩ (fun H locs Z => ?_)
  refine lv_lstore (lv' := (6, .long v) :: (5, .int r.1) :: lLs N s b i) hx hb dL_law_793 hl (by decide) rfl (fun ls hl => ?_)
  refine lv_aload_n hx hb dL_law_795 rfl (lv_at hl 4 rfl) ?_
  refine a_refI (As := []) (rest := []) (cells := cells + 3) (slots := slots + 18) F Z S (t_X11_thrown l D dA _ (mJ _) h3) (cwV 0 hts (aGV (aB 9 rfl) (aB 135 rfl) (aB 136 rfl) (aB 113 rfl) (aB 137 rfl)) rfl rfl rfl (by decide +kernel) ⟨Nat.le_of_ble_eq_true rfl, Nat.le_of_ble_eq_true rfl⟩) rfl hl.1 rfl (Nat.le_of_ble_eq_true rfl) dL_law_796 ⟨by show cells + 3 ≤ 600128; omega, by show slots + 18 ≤ 7301064; omega⟩ (fun H locs Z => ?_)
  refine lv_iload hx hb dL_law_799 (lv_at hl 1 rfl) ?_
  unfold lEnd at h
  refine lv_icmp_eq (tgt := 806) hx hb dL_law_801 (by decide) (fun c1 => ?_) (fun c1 => absurd (if_f c1 h) (by simp))
  have h := if_t c1 h
  have hl0 : lv_has ls 8 (lLs N s b i) := lv_sbs hl (fun q hq => List.mem_cons_of_mem _ (List.mem_cons_of_mem _ hq))
  refine lv_iload hx hb dL_law_806 (lv_at hl 1 rfl) ?_
  refine lv_if_ne (tgt := 822) hx hb dL_law_808 (by decide) (fun c2 => ?_) (fun c2 => ?_)
  · have h := Option.some.inj (if_f c2 h)
    subst h
    refine lv_goto (tgt := 1714) hx hb dL_law_822 (by decide) ?_
    exact kk H locs ls _ _ (by omega) (by omega) Z hl0
  · have h := if_t c2 h
    refine lv_aload_n hx hb dL_law_811 rfl (lv_at hl 5 rfl) ?_
    refine lv_iconst (v := (0 : Int32)) hx hb dL_law_812 (by decide) ?_
    refine a_lald F Z hx hb dL_law_813 ?_
    refine lv_lload hx hb dL_law_814 (lv_at hl 0 rfl) ?_
    by_cases c3 : r.2.1 = v
    · have h := Option.some.inj (if_t c3 h)
      subst h
      refine W.lcmp hx hb dL_law_816 ?_
      refine lv_if_eq (tgt := 822) hx hb dL_law_817 (by decide) (fun c4 => ?_) (fun c4 => absurd (by show lg_cmp r.2.1 v = 0; rw [← c3]; exact lg_cmp_z _) c4)
      refine lv_goto (tgt := 1714) hx hb dL_law_822 (by decide) ?_
      exact kk H locs ls _ _ (by omega) (by omega) Z hl0
    · exact absurd (if_f c3 h) (by simp)
set_option maxHeartbeats 4000000 in
set_option maxRecDepth 100000 in
theorem law_remove {p : Program} {l : Launch} {e : Env} {s : State} {m : MethodId} {below : List Frame} {meth : Method} {c : Code} {H : Heap} {locs : List Loc} {cells slots : Nat} {Q : State → Prop} {N b L i : Nat} {ls : Array Slot} {D : va_G} {dA : Nat → ClassId} {tx : Nat → Nat} {cL : ClassId} {z z1 : lS} {xs : Nat → Int32} (F : lF l s N D dA tx cL) (S : CallFix p m c cL_law 8 s #[.ref b] aBig RL) (hX : va_X b L xs s s.heap) (hbl : b < s.heap.size) (hL : L ≤ 321) (hi : i + 5 ≤ L) (Z : lH N D dA cL s z H locs) (hl : lv_has ls 8 (lLs N s b i)) (hf : cells + 3 ≤ 600128 ∧ slots + 18 ≤ 7301064) (h : s_remove N z (xs (i + 1)) (xs (i + 2)) (xs (i + 3)) = some z1) (kk : lKK p l e s m below meth c b N D dA cL Q i z1 cells slots) : W p l e room_1 s m #[.ref b] below meth c H locs cells slots Q (F0 m 825 ls []) := by
  obtain ⟨hx, hb, -, hown, hts⟩ := id S
  have hst := F.1
  have hN := F.2.1
  unfold s_remove at h
  obtain ⟨r, h1, h⟩ := o1_e h
  obtain ⟨v, Mr, h2, h⟩ := ob_e h
  obtain ⟨t, h3, h⟩ := o1_e h
  refine lv_aload_n hx hb dL_law_825 rfl (lv_at hl 1 rfl) ?_
  refine a_arg hX hbl Z hx hb 1 hL (by omega) (by decide) (lv_at hl 0 rfl) (lv_at hl 4 rfl) dL_law_826 dL_law_827 dL_law_829 dL_law_830 dL_law_831 ?_
  refine a_arg hX hbl Z hx hb 2 hL (by omega) (by decide) (lv_at hl 0 rfl) (lv_at hl 4 rfl) dL_law_832 dL_law_833 dL_law_835 dL_law_836 dL_law_837 ?_
  refine a_arg hX hbl Z hx hb 3 hL (by omega) (by decide) (lv_at hl 0 rfl) (lv_at hl 4 rfl) dL_law_838 dL_law_839 dL_law_841 dL_law_842 dL_law_843 ?_
  refine lv_aload_n hx hb dL_law_844 rfl (lv_at hl 3 rfl) ?_
  refine a_wrap (As := [.ref (cAd N s.heap.size (0, 0, 0)), .int (xs (i + 1)), .int (xs (i + 2)), .int (xs (i + 3)), .ref (lQo N s)]) (rest := []) F Z S (t_L_remove l hst N D dA _ (cJ hN.1 hN.2) tx _ cL _ (l_qo F Z.2.2.2.2) z.2.2 h1) (vx_cwSW 5 hts (aGS (bs := lBig) (fun w h => a_l h) (aB 32 rfl) (aB 86 rfl) (aB 115 rfl) (aB 87 rfl)) rfl rfl rfl (by decide +kernel) ⟨Nat.le_of_ble_eq_true rfl, Nat.le_of_ble_eq_true rfl⟩) rfl hl.1 rfl (Nat.le_of_ble_eq_true rfl) dL_law_845 ⟨by show cells + 3 ≤ 600128; omega, by show slots + 18 ≤ 7301064; omega⟩ (fun H locs Z => ?_)
  refine lv_istore (lv' := (5, .int r.1) :: lLs N s b i) hx hb dL_law_848 hl (by decide) rfl (fun ls hl => ?_)
  refine lv_aload_n hx hb dL_law_850 rfl (lv_at hl 3 rfl) ?_
  refine a_arg hX hbl Z hx hb 1 hL (by omega) (by decide) (lv_at hl 1 rfl) (lv_at hl 5 rfl) dL_law_851 dL_law_852 dL_law_854 dL_law_855 dL_law_856 ?_
  refine a_arg hX hbl Z hx hb 2 hL (by omega) (by decide) (lv_at hl 1 rfl) (lv_at hl 5 rfl) dL_law_857 dL_law_858 dL_law_860 dL_law_861 dL_law_862 ?_
  refine a_arg hX hbl Z hx hb 3 hL (by omega) (by decide) (lv_at hl 1 rfl) (lv_at hl 5 rfl) dL_law_863 dL_law_864 dL_law_866 dL_law_867 dL_law_868 ?_
  refine a_refL (As := [.int (xs (i + 1)), .int (xs (i + 2)), .int (xs (i + 3))]) (rest := []) (cells := cells + 3) (slots := slots + 18) F Z S (t_X11_remove l D dA _ (mJ _) h2) (cwV 3 hts (aGV (aB 34 rfl) (aB 264 rfl) (aB 265 rfl) (aB 113 rfl) (aB 266 rfl)) rfl rfl rfl (by decide +kernel) ⟨Nat.le_of_ble_eq_true rfl, Nat.le_of_ble_eq_true rfl⟩) rfl hl.1 rfl (Nat.le_of_ble_eq_true rfl) dL_law_869 ⟨by show cells + 3 ≤ 600128; omega, by show slots + 18 ≤ 7301064; omega⟩ (fun H locs Z => ?_)
  refine lv_lstore (lv' := (6, .long v) :: (5, .int r.1) :: lLs N s b i) hx hb dL_law_872 hl (by decide) rfl (fun ls hl => ?_)
  refine lv_aload_n hx hb dL_law_874 rfl (lv_at hl 4 rfl) ?_
  refine a_refI (As := []) (rest := []) (cells := cells + 3) (slots := slots + 18) F Z S (t_X11_thrown l D dA _ (mJ _) h3) (cwV 0 hts (aGV (aB 9 rfl) (aB 135 rfl) (aB 136 rfl) (aB 113 rfl) (aB 137 rfl)) rfl rfl rfl (by decide +kernel) ⟨Nat.le_of_ble_eq_true rfl, Nat.le_of_ble_eq_true rfl⟩) rfl hl.1 rfl (Nat.le_of_ble_eq_true rfl) dL_law_875 ⟨by show cells + 3 ≤ 600128; omega, by show slots + 18 ≤ 7301064; omega⟩ (fun H locs Z => ?_)
  refine lv_iload hx hb dL_law_878 (lv_at hl 1 rfl) ?_
  unfold lEnd at h
  refine lv_icmp_eq (tgt := 885) hx hb dL_law_880 (by decide) (fun c1 => ?_) (fun c1 => absurd (if_f c1 h) (by simp))
  have h := if_t c1 h
  have hl0 : lv_has ls 8 (lLs N s b i) := lv_sbs hl (fun q hq => List.mem_cons_of_mem _ (List.mem_cons_of_mem _ hq))
  refine lv_iload hx hb dL_law_885 (lv_at hl 1 rfl) ?_
  refine lv_if_ne (tgt := 901) hx hb dL_law_887 (by decide) (fun c2 => ?_) (fun c2 => ?_)
  · have h := Option.some.inj (if_f c2 h)
    subst h
    refine lv_goto (tgt := 1714) hx hb dL_law_901 (by decide) ?_
    exact kk H locs ls _ _ (by omega) (by omega) Z hl0
  · have h := if_t c2 h
    refine lv_aload_n hx hb dL_law_890 rfl (lv_at hl 5 rfl) ?_
    refine lv_iconst (v := (0 : Int32)) hx hb dL_law_891 (by decide) ?_
    refine a_lald F Z hx hb dL_law_892 ?_
    refine lv_lload hx hb dL_law_893 (lv_at hl 0 rfl) ?_
    by_cases c3 : r.2.1 = v
    · have h := Option.some.inj (if_t c3 h)
      subst h
      refine W.lcmp hx hb dL_law_895 ?_
      refine lv_if_eq (tgt := 901) hx hb dL_law_896 (by decide) (fun c4 => ?_) (fun c4 => absurd (by show lg_cmp r.2.1 v = 0; rw [← c3]; exact lg_cmp_z _) c4)
      refine lv_goto (tgt := 1714) hx hb dL_law_901 (by decide) ?_
      exact kk H locs ls _ _ (by omega) (by omega) Z hl0
    · exact absurd (if_f c3 h) (by simp)
set_option maxHeartbeats 4000000 in
set_option maxRecDepth 100000 in
theorem law_handIn {p : Program} {l : Launch} {e : Env} {s : State} {m : MethodId} {below : List Frame} {meth : Method} {c : Code} {H : Heap} {locs : List Loc} {cells slots : Nat} {Q : State → Prop} {N b L i : Nat} {ls : Array Slot} {D : va_G} {dA : Nat → ClassId} {tx : Nat → Nat} {cL : ClassId} {z z1 : lS} {xs : Nat → Int32} (F : lF l s N D dA tx cL) (S : CallFix p m c cL_law 8 s #[.ref b] aBig RL) (hX : va_X b L xs s s.heap) (hbl : b < s.heap.size) (hL : L ≤ 321) (hi : i + 5 ≤ L) (Z : lH N D dA cL s z H locs) (hl : lv_has ls 8 (lLs N s b i)) (hf : cells + 3 ≤ 600128 ∧ slots + 18 ≤ 7301064) (h : s_handIn N z (xs (i + 1)) = some z1) (kk : lKK p l e s m below meth c b N D dA cL Q i z1 cells slots) : W p l e room_1 s m #[.ref b] below meth c H locs cells slots Q (F0 m 904 ls []) := by
  obtain ⟨hx, hb, -, hown, hts⟩ := id S
  have hst := F.1
  have hN := F.2.1
  unfold s_handIn at h
  obtain ⟨r, h1, h⟩ := o1_e h
  obtain ⟨v, Mr, h2, h⟩ := ob_e h
  obtain ⟨t, h3, h⟩ := o1_e h
  refine lv_aload_n hx hb dL_law_904 rfl (lv_at hl 1 rfl) ?_
  refine a_arg hX hbl Z hx hb 1 hL (by omega) (by decide) (lv_at hl 0 rfl) (lv_at hl 4 rfl) dL_law_905 dL_law_906 dL_law_908 dL_law_909 dL_law_910 ?_
  refine lv_aload_n hx hb dL_law_911 rfl (lv_at hl 3 rfl) ?_
  refine a_wrap (As := [.ref (cAd N s.heap.size (0, 0, 0)), .int (xs (i + 1)), .ref (lQo N s)]) (rest := []) F Z S (t_L_handIn l hst N D dA _ (cJ hN.1 hN.2) tx _ cL _ (l_qo F Z.2.2.2.2) z.2.2 h1) (vx_cwSW 3 hts (aGS (bs := lBig) (fun w h => a_l h) (aB 35 rfl) (aB 88 rfl) (aB 115 rfl) (aB 89 rfl)) rfl rfl rfl (by decide +kernel) ⟨Nat.le_of_ble_eq_true rfl, Nat.le_of_ble_eq_true rfl⟩) rfl hl.1 rfl (Nat.le_of_ble_eq_true rfl) dL_law_912 ⟨by show cells + 1 ≤ 600128; omega, by show slots + 6 ≤ 7301064; omega⟩ (fun H locs Z => ?_)
  refine lv_istore (lv' := (5, .int r.1) :: lLs N s b i) hx hb dL_law_915 hl (by decide) rfl (fun ls hl => ?_)
  refine lv_aload_n hx hb dL_law_917 rfl (lv_at hl 3 rfl) ?_
  refine a_arg hX hbl Z hx hb 1 hL (by omega) (by decide) (lv_at hl 1 rfl) (lv_at hl 5 rfl) dL_law_918 dL_law_919 dL_law_921 dL_law_922 dL_law_923 ?_
  refine a_refL (As := [.int (xs (i + 1))]) (rest := []) (cells := cells + 1) (slots := slots + 6) F Z S (t_X11_handIn l D dA _ (mJ _) h2) (cwV 1 hts (aGV (aB 37 rfl) (aB 279 rfl) (aB 280 rfl) (aB 113 rfl) (aB 281 rfl)) rfl rfl rfl (by decide +kernel) ⟨Nat.le_of_ble_eq_true rfl, Nat.le_of_ble_eq_true rfl⟩) rfl hl.1 rfl (Nat.le_of_ble_eq_true rfl) dL_law_924 ⟨by show cells + 1 ≤ 600128; omega, by show slots + 6 ≤ 7301064; omega⟩ (fun H locs Z => ?_)
  refine lv_lstore (lv' := (6, .long v) :: (5, .int r.1) :: lLs N s b i) hx hb dL_law_927 hl (by decide) rfl (fun ls hl => ?_)
  refine lv_aload_n hx hb dL_law_929 rfl (lv_at hl 4 rfl) ?_
  refine a_refI (As := []) (rest := []) (cells := cells + 1) (slots := slots + 6) F Z S (t_X11_thrown l D dA _ (mJ _) h3) (cwV 0 hts (aGV (aB 9 rfl) (aB 135 rfl) (aB 136 rfl) (aB 113 rfl) (aB 137 rfl)) rfl rfl rfl (by decide +kernel) ⟨Nat.le_of_ble_eq_true rfl, Nat.le_of_ble_eq_true rfl⟩) rfl hl.1 rfl (Nat.le_of_ble_eq_true rfl) dL_law_930 ⟨by show cells + 1 ≤ 600128; omega, by show slots + 6 ≤ 7301064; omega⟩ (fun H locs Z => ?_)
  refine lv_iload hx hb dL_law_933 (lv_at hl 1 rfl) ?_
  unfold lEnd at h
  refine lv_icmp_eq (tgt := 940) hx hb dL_law_935 (by decide) (fun c1 => ?_) (fun c1 => absurd (if_f c1 h) (by simp))
  have h := if_t c1 h
  have hl0 : lv_has ls 8 (lLs N s b i) := lv_sbs hl (fun q hq => List.mem_cons_of_mem _ (List.mem_cons_of_mem _ hq))
  refine lv_iload hx hb dL_law_940 (lv_at hl 1 rfl) ?_
  refine lv_if_ne (tgt := 956) hx hb dL_law_942 (by decide) (fun c2 => ?_) (fun c2 => ?_)
  · have h := Option.some.inj (if_f c2 h)
    subst h
    refine lv_goto (tgt := 1714) hx hb dL_law_956 (by decide) ?_
    exact kk H locs ls _ _ (by omega) (by omega) Z hl0
  · have h := if_t c2 h
    refine lv_aload_n hx hb dL_law_945 rfl (lv_at hl 5 rfl) ?_
    refine lv_iconst (v := (0 : Int32)) hx hb dL_law_946 (by decide) ?_
    refine a_lald F Z hx hb dL_law_947 ?_
    refine lv_lload hx hb dL_law_948 (lv_at hl 0 rfl) ?_
    by_cases c3 : r.2.1 = v
    · have h := Option.some.inj (if_t c3 h)
      subst h
      refine W.lcmp hx hb dL_law_950 ?_
      refine lv_if_eq (tgt := 956) hx hb dL_law_951 (by decide) (fun c4 => ?_) (fun c4 => absurd (by show lg_cmp r.2.1 v = 0; rw [← c3]; exact lg_cmp_z _) c4)
      refine lv_goto (tgt := 1714) hx hb dL_law_956 (by decide) ?_
      exact kk H locs ls _ _ (by omega) (by omega) Z hl0
    · exact absurd (if_f c3 h) (by simp)
set_option maxHeartbeats 4000000 in
set_option maxRecDepth 100000 in
theorem law_walk {p : Program} {l : Launch} {e : Env} {s : State} {m : MethodId} {below : List Frame} {meth : Method} {c : Code} {H : Heap} {locs : List Loc} {cells slots : Nat} {Q : State → Prop} {N b L i : Nat} {ls : Array Slot} {D : va_G} {dA : Nat → ClassId} {tx : Nat → Nat} {cL : ClassId} {z z1 : lS} {xs : Nat → Int32} (F : lF l s N D dA tx cL) (S : CallFix p m c cL_law 8 s #[.ref b] aBig RL) (hX : va_X b L xs s s.heap) (hbl : b < s.heap.size) (hL : L ≤ 321) (hi : i + 5 ≤ L) (Z : lH N D dA cL s z H locs) (hl : lv_has ls 8 (lLs N s b i)) (hf : cells + 3 ≤ 600128 ∧ slots + 18 ≤ 7301064) (h : s_walk N z (xs (i + 1)) = some z1) (kk : lKK p l e s m below meth c b N D dA cL Q i z1 cells slots) : W p l e room_1 s m #[.ref b] below meth c H locs cells slots Q (F0 m 959 ls []) := by
  obtain ⟨hx, hb, -, hown, hts⟩ := id S
  have hst := F.1
  have hN := F.2.1
  unfold s_walk at h
  obtain ⟨r, h1, h⟩ := o1_e h
  obtain ⟨v, Mr, h2, h⟩ := ob_e h
  obtain ⟨t, h3, h⟩ := o1_e h
  refine lv_aload_n hx hb dL_law_959 rfl (lv_at hl 1 rfl) ?_
  refine a_arg hX hbl Z hx hb 1 hL (by omega) (by decide) (lv_at hl 0 rfl) (lv_at hl 4 rfl) dL_law_960 dL_law_961 dL_law_963 dL_law_964 dL_law_965 ?_
  refine lv_aload_n hx hb dL_law_966 rfl (lv_at hl 3 rfl) ?_
  refine a_wrap (As := [.ref (cAd N s.heap.size (0, 0, 0)), .int (xs (i + 1)), .ref (lQo N s)]) (rest := []) F Z S (t_L_walk l hst N D dA _ (cJ hN.1 hN.2) tx _ cL _ (l_qo F Z.2.2.2.2) z.2.2 h1) (vx_cwSW 3 hts (aGS (bs := lBig) (fun w h => a_l h) (aB 38 rfl) (aB 90 rfl) (aB 115 rfl) (aB 91 rfl)) rfl rfl rfl (by decide +kernel) ⟨Nat.le_of_ble_eq_true rfl, Nat.le_of_ble_eq_true rfl⟩) rfl hl.1 rfl (Nat.le_of_ble_eq_true rfl) dL_law_967 ⟨by show cells + 1 ≤ 600128; omega, by show slots + 6 ≤ 7301064; omega⟩ (fun H locs Z => ?_)
  refine lv_istore (lv' := (5, .int r.1) :: lLs N s b i) hx hb dL_law_970 hl (by decide) rfl (fun ls hl => ?_)
  refine lv_aload_n hx hb dL_law_972 rfl (lv_at hl 3 rfl) ?_
  refine a_arg hX hbl Z hx hb 1 hL (by omega) (by decide) (lv_at hl 1 rfl) (lv_at hl 5 rfl) dL_law_973 dL_law_974 dL_law_976 dL_law_977 dL_law_978 ?_
  refine a_refL (As := [.int (xs (i + 1))]) (rest := []) (cells := cells + 1) (slots := slots + 6) F Z S (t_X11_walk l D dA _ (mJ _) h2) (cwV 1 hts (aGV (aB 40 rfl) (aB 295 rfl) (aB 296 rfl) (aB 113 rfl) (aB 297 rfl)) rfl rfl rfl (by decide +kernel) ⟨Nat.le_of_ble_eq_true rfl, Nat.le_of_ble_eq_true rfl⟩) rfl hl.1 rfl (Nat.le_of_ble_eq_true rfl) dL_law_979 ⟨by show cells + 1 ≤ 600128; omega, by show slots + 6 ≤ 7301064; omega⟩ (fun H locs Z => ?_)
  refine lv_lstore (lv' := (6, .long v) :: (5, .int r.1) :: lLs N s b i) hx hb dL_law_982 hl (by decide) rfl (fun ls hl => ?_)
  refine lv_aload_n hx hb dL_law_984 rfl (lv_at hl 4 rfl) ?_
  refine a_refI (As := []) (rest := []) (cells := cells + 1) (slots := slots + 6) F Z S (t_X11_thrown l D dA _ (mJ _) h3) (cwV 0 hts (aGV (aB 9 rfl) (aB 135 rfl) (aB 136 rfl) (aB 113 rfl) (aB 137 rfl)) rfl rfl rfl (by decide +kernel) ⟨Nat.le_of_ble_eq_true rfl, Nat.le_of_ble_eq_true rfl⟩) rfl hl.1 rfl (Nat.le_of_ble_eq_true rfl) dL_law_985 ⟨by show cells + 1 ≤ 600128; omega, by show slots + 6 ≤ 7301064; omega⟩ (fun H locs Z => ?_)
  refine lv_iload hx hb dL_law_988 (lv_at hl 1 rfl) ?_
  unfold lEnd at h
  refine lv_icmp_eq (tgt := 995) hx hb dL_law_990 (by decide) (fun c1 => ?_) (fun c1 => absurd (if_f c1 h) (by simp))
  have h := if_t c1 h
  have hl0 : lv_has ls 8 (lLs N s b i) := lv_sbs hl (fun q hq => List.mem_cons_of_mem _ (List.mem_cons_of_mem _ hq))
  refine lv_iload hx hb dL_law_995 (lv_at hl 1 rfl) ?_
  refine lv_if_ne (tgt := 1011) hx hb dL_law_997 (by decide) (fun c2 => ?_) (fun c2 => ?_)
  · have h := Option.some.inj (if_f c2 h)
    subst h
    refine lv_goto (tgt := 1714) hx hb dL_law_1011 (by decide) ?_
    exact kk H locs ls _ _ (by omega) (by omega) Z hl0
  · have h := if_t c2 h
    refine lv_aload_n hx hb dL_law_1000 rfl (lv_at hl 5 rfl) ?_
    refine lv_iconst (v := (0 : Int32)) hx hb dL_law_1001 (by decide) ?_
    refine a_lald F Z hx hb dL_law_1002 ?_
    refine lv_lload hx hb dL_law_1003 (lv_at hl 0 rfl) ?_
    by_cases c3 : r.2.1 = v
    · have h := Option.some.inj (if_t c3 h)
      subst h
      refine W.lcmp hx hb dL_law_1005 ?_
      refine lv_if_eq (tgt := 1011) hx hb dL_law_1006 (by decide) (fun c4 => ?_) (fun c4 => absurd (by show lg_cmp r.2.1 v = 0; rw [← c3]; exact lg_cmp_z _) c4)
      refine lv_goto (tgt := 1714) hx hb dL_law_1011 (by decide) ?_
      exact kk H locs ls _ _ (by omega) (by omega) Z hl0
    · exact absurd (if_f c3 h) (by simp)
set_option maxHeartbeats 4000000 in
set_option maxRecDepth 100000 in
theorem law_meet {p : Program} {l : Launch} {e : Env} {s : State} {m : MethodId} {below : List Frame} {meth : Method} {c : Code} {H : Heap} {locs : List Loc} {cells slots : Nat} {Q : State → Prop} {N b L i : Nat} {ls : Array Slot} {D : va_G} {dA : Nat → ClassId} {tx : Nat → Nat} {cL : ClassId} {z z1 : lS} {xs : Nat → Int32} (F : lF l s N D dA tx cL) (S : CallFix p m c cL_law 8 s #[.ref b] aBig RL) (hX : va_X b L xs s s.heap) (hbl : b < s.heap.size) (hL : L ≤ 321) (hi : i + 5 ≤ L) (Z : lH N D dA cL s z H locs) (hl : lv_has ls 8 (lLs N s b i)) (hf : cells + 3 ≤ 600128 ∧ slots + 18 ≤ 7301064) (h : s_meet N z (xs (i + 1)) = some z1) (kk : lKK p l e s m below meth c b N D dA cL Q i z1 cells slots) : W p l e room_1 s m #[.ref b] below meth c H locs cells slots Q (F0 m 1014 ls []) := by
  obtain ⟨hx, hb, -, hown, hts⟩ := id S
  have hst := F.1
  have hN := F.2.1
  unfold s_meet at h
  obtain ⟨r, h1, h⟩ := o1_e h
  obtain ⟨v, Mr, h2, h⟩ := ob_e h
  obtain ⟨t, h3, h⟩ := o1_e h
  refine lv_aload_n hx hb dL_law_1014 rfl (lv_at hl 1 rfl) ?_
  refine a_arg hX hbl Z hx hb 1 hL (by omega) (by decide) (lv_at hl 0 rfl) (lv_at hl 4 rfl) dL_law_1015 dL_law_1016 dL_law_1018 dL_law_1019 dL_law_1020 ?_
  refine lv_aload_n hx hb dL_law_1021 rfl (lv_at hl 3 rfl) ?_
  refine a_wrap (As := [.ref (cAd N s.heap.size (0, 0, 0)), .int (xs (i + 1)), .ref (lQo N s)]) (rest := []) F Z S (t_L_meet l hst N D dA _ (cJ hN.1 hN.2) tx _ cL _ (l_qo F Z.2.2.2.2) z.2.2 h1) (vx_cwSW 3 hts (aGS (bs := lBig) (fun w h => a_l h) (aB 41 rfl) (aB 92 rfl) (aB 115 rfl) (aB 93 rfl)) rfl rfl rfl (by decide +kernel) ⟨Nat.le_of_ble_eq_true rfl, Nat.le_of_ble_eq_true rfl⟩) rfl hl.1 rfl (Nat.le_of_ble_eq_true rfl) dL_law_1022 ⟨by show cells + 1 ≤ 600128; omega, by show slots + 6 ≤ 7301064; omega⟩ (fun H locs Z => ?_)
  refine lv_istore (lv' := (5, .int r.1) :: lLs N s b i) hx hb dL_law_1025 hl (by decide) rfl (fun ls hl => ?_)
  refine lv_aload_n hx hb dL_law_1027 rfl (lv_at hl 3 rfl) ?_
  refine a_arg hX hbl Z hx hb 1 hL (by omega) (by decide) (lv_at hl 1 rfl) (lv_at hl 5 rfl) dL_law_1028 dL_law_1029 dL_law_1031 dL_law_1032 dL_law_1033 ?_
  refine a_refL (As := [.int (xs (i + 1))]) (rest := []) (cells := cells + 1) (slots := slots + 6) F Z S (t_X11_meet l D dA _ (mJ _) h2) (cwV 1 hts (aGV (aB 43 rfl) (aB 298 rfl) (aB 299 rfl) (aB 113 rfl) (aB 300 rfl)) rfl rfl rfl (by decide +kernel) ⟨Nat.le_of_ble_eq_true rfl, Nat.le_of_ble_eq_true rfl⟩) rfl hl.1 rfl (Nat.le_of_ble_eq_true rfl) dL_law_1034 ⟨by show cells + 1 ≤ 600128; omega, by show slots + 6 ≤ 7301064; omega⟩ (fun H locs Z => ?_)
  refine lv_lstore (lv' := (6, .long v) :: (5, .int r.1) :: lLs N s b i) hx hb dL_law_1037 hl (by decide) rfl (fun ls hl => ?_)
  refine lv_aload_n hx hb dL_law_1039 rfl (lv_at hl 4 rfl) ?_
  refine a_refI (As := []) (rest := []) (cells := cells + 1) (slots := slots + 6) F Z S (t_X11_thrown l D dA _ (mJ _) h3) (cwV 0 hts (aGV (aB 9 rfl) (aB 135 rfl) (aB 136 rfl) (aB 113 rfl) (aB 137 rfl)) rfl rfl rfl (by decide +kernel) ⟨Nat.le_of_ble_eq_true rfl, Nat.le_of_ble_eq_true rfl⟩) rfl hl.1 rfl (Nat.le_of_ble_eq_true rfl) dL_law_1040 ⟨by show cells + 1 ≤ 600128; omega, by show slots + 6 ≤ 7301064; omega⟩ (fun H locs Z => ?_)
  refine lv_iload hx hb dL_law_1043 (lv_at hl 1 rfl) ?_
  unfold lEnd at h
  refine lv_icmp_eq (tgt := 1050) hx hb dL_law_1045 (by decide) (fun c1 => ?_) (fun c1 => absurd (if_f c1 h) (by simp))
  have h := if_t c1 h
  have hl0 : lv_has ls 8 (lLs N s b i) := lv_sbs hl (fun q hq => List.mem_cons_of_mem _ (List.mem_cons_of_mem _ hq))
  refine lv_iload hx hb dL_law_1050 (lv_at hl 1 rfl) ?_
  refine lv_if_ne (tgt := 1066) hx hb dL_law_1052 (by decide) (fun c2 => ?_) (fun c2 => ?_)
  · have h := Option.some.inj (if_f c2 h)
    subst h
    refine lv_goto (tgt := 1714) hx hb dL_law_1066 (by decide) ?_
    exact kk H locs ls _ _ (by omega) (by omega) Z hl0
  · have h := if_t c2 h
    refine lv_aload_n hx hb dL_law_1055 rfl (lv_at hl 5 rfl) ?_
    refine lv_iconst (v := (0 : Int32)) hx hb dL_law_1056 (by decide) ?_
    refine a_lald F Z hx hb dL_law_1057 ?_
    refine lv_lload hx hb dL_law_1058 (lv_at hl 0 rfl) ?_
    by_cases c3 : r.2.1 = v
    · have h := Option.some.inj (if_t c3 h)
      subst h
      refine W.lcmp hx hb dL_law_1060 ?_
      refine lv_if_eq (tgt := 1066) hx hb dL_law_1061 (by decide) (fun c4 => ?_) (fun c4 => absurd (by show lg_cmp r.2.1 v = 0; rw [← c3]; exact lg_cmp_z _) c4)
      refine lv_goto (tgt := 1714) hx hb dL_law_1066 (by decide) ?_
      exact kk H locs ls _ _ (by omega) (by omega) Z hl0
    · exact absurd (if_f c3 h) (by simp)
set_option maxHeartbeats 4000000 in
set_option maxRecDepth 100000 in
theorem law_repair {p : Program} {l : Launch} {e : Env} {s : State} {m : MethodId} {below : List Frame} {meth : Method} {c : Code} {H : Heap} {locs : List Loc} {cells slots : Nat} {Q : State → Prop} {N b L i : Nat} {ls : Array Slot} {D : va_G} {dA : Nat → ClassId} {tx : Nat → Nat} {cL : ClassId} {z z1 : lS} {xs : Nat → Int32} (F : lF l s N D dA tx cL) (S : CallFix p m c cL_law 8 s #[.ref b] aBig RL) (hX : va_X b L xs s s.heap) (hbl : b < s.heap.size) (hL : L ≤ 321) (hi : i + 5 ≤ L) (Z : lH N D dA cL s z H locs) (hl : lv_has ls 8 (lLs N s b i)) (hf : cells + 3 ≤ 600128 ∧ slots + 18 ≤ 7301064) (h : s_repair N z (xs (i + 1)) (xs (i + 2)) (xs (i + 3)) = some z1) (kk : lKK p l e s m below meth c b N D dA cL Q i z1 cells slots) : W p l e room_1 s m #[.ref b] below meth c H locs cells slots Q (F0 m 1069 ls []) := by
  obtain ⟨hx, hb, -, hown, hts⟩ := id S
  have hst := F.1
  have hN := F.2.1
  unfold s_repair at h
  obtain ⟨r, h1, h⟩ := o1_e h
  obtain ⟨v, Mr, h2, h⟩ := ob_e h
  obtain ⟨t, h3, h⟩ := o1_e h
  refine lv_aload_n hx hb dL_law_1069 rfl (lv_at hl 1 rfl) ?_
  refine a_arg hX hbl Z hx hb 1 hL (by omega) (by decide) (lv_at hl 0 rfl) (lv_at hl 4 rfl) dL_law_1070 dL_law_1071 dL_law_1073 dL_law_1074 dL_law_1075 ?_
  refine a_arg hX hbl Z hx hb 2 hL (by omega) (by decide) (lv_at hl 0 rfl) (lv_at hl 4 rfl) dL_law_1076 dL_law_1077 dL_law_1079 dL_law_1080 dL_law_1081 ?_
  refine a_arg hX hbl Z hx hb 3 hL (by omega) (by decide) (lv_at hl 0 rfl) (lv_at hl 4 rfl) dL_law_1082 dL_law_1083 dL_law_1085 dL_law_1086 dL_law_1087 ?_
  refine lv_aload_n hx hb dL_law_1088 rfl (lv_at hl 3 rfl) ?_
  refine a_wrap (As := [.ref (cAd N s.heap.size (0, 0, 0)), .int (xs (i + 1)), .int (xs (i + 2)), .int (xs (i + 3)), .ref (lQo N s)]) (rest := []) F Z S (t_L_repair l hst N D dA _ (cJ hN.1 hN.2) tx _ cL _ (l_qo F Z.2.2.2.2) z.2.2 h1) (vx_cwSW 5 hts (aGS (bs := lBig) (fun w h => a_l h) (aB 44 rfl) (aB 94 rfl) (aB 115 rfl) (aB 95 rfl)) rfl rfl rfl (by decide +kernel) ⟨Nat.le_of_ble_eq_true rfl, Nat.le_of_ble_eq_true rfl⟩) rfl hl.1 rfl (Nat.le_of_ble_eq_true rfl) dL_law_1089 ⟨by show cells + 2 ≤ 600128; omega, by show slots + 12 ≤ 7301064; omega⟩ (fun H locs Z => ?_)
  refine lv_istore (lv' := (5, .int r.1) :: lLs N s b i) hx hb dL_law_1092 hl (by decide) rfl (fun ls hl => ?_)
  refine lv_aload_n hx hb dL_law_1094 rfl (lv_at hl 3 rfl) ?_
  refine a_arg hX hbl Z hx hb 1 hL (by omega) (by decide) (lv_at hl 1 rfl) (lv_at hl 5 rfl) dL_law_1095 dL_law_1096 dL_law_1098 dL_law_1099 dL_law_1100 ?_
  refine a_arg hX hbl Z hx hb 2 hL (by omega) (by decide) (lv_at hl 1 rfl) (lv_at hl 5 rfl) dL_law_1101 dL_law_1102 dL_law_1104 dL_law_1105 dL_law_1106 ?_
  refine a_arg hX hbl Z hx hb 3 hL (by omega) (by decide) (lv_at hl 1 rfl) (lv_at hl 5 rfl) dL_law_1107 dL_law_1108 dL_law_1110 dL_law_1111 dL_law_1112 ?_
  refine a_refL (As := [.int (xs (i + 1)), .int (xs (i + 2)), .int (xs (i + 3))]) (rest := []) (cells := cells + 2) (slots := slots + 12) F Z S (t_X11_repair l D dA _ (mJ _) h2) (cwV 3 hts (aGV (aB 46 rfl) (aB 355 rfl) (aB 356 rfl) (aB 113 rfl) (aB 357 rfl)) rfl rfl rfl (by decide +kernel) ⟨Nat.le_of_ble_eq_true rfl, Nat.le_of_ble_eq_true rfl⟩) rfl hl.1 rfl (Nat.le_of_ble_eq_true rfl) dL_law_1113 ⟨by show cells + 2 ≤ 600128; omega, by show slots + 12 ≤ 7301064; omega⟩ (fun H locs Z => ?_)
  refine lv_lstore (lv' := (6, .long v) :: (5, .int r.1) :: lLs N s b i) hx hb dL_law_1116 hl (by decide) rfl (fun ls hl => ?_)
  refine lv_aload_n hx hb dL_law_1118 rfl (lv_at hl 4 rfl) ?_
  refine a_refI (As := []) (rest := []) (cells := cells + 2) (slots := slots + 12) F Z S (t_X11_thrown l D dA _ (mJ _) h3) (cwV 0 hts (aGV (aB 9 rfl) (aB 135 rfl) (aB 136 rfl) (aB 113 rfl) (aB 137 rfl)) rfl rfl rfl (by decide +kernel) ⟨Nat.le_of_ble_eq_true rfl, Nat.le_of_ble_eq_true rfl⟩) rfl hl.1 rfl (Nat.le_of_ble_eq_true rfl) dL_law_1119 ⟨by show cells + 2 ≤ 600128; omega, by show slots + 12 ≤ 7301064; omega⟩ (fun H locs Z => ?_)
  refine lv_iload hx hb dL_law_1122 (lv_at hl 1 rfl) ?_
  unfold lEnd at h
  refine lv_icmp_eq (tgt := 1129) hx hb dL_law_1124 (by decide) (fun c1 => ?_) (fun c1 => absurd (if_f c1 h) (by simp))
  have h := if_t c1 h
  have hl0 : lv_has ls 8 (lLs N s b i) := lv_sbs hl (fun q hq => List.mem_cons_of_mem _ (List.mem_cons_of_mem _ hq))
  refine lv_iload hx hb dL_law_1129 (lv_at hl 1 rfl) ?_
  refine lv_if_ne (tgt := 1145) hx hb dL_law_1131 (by decide) (fun c2 => ?_) (fun c2 => ?_)
  · have h := Option.some.inj (if_f c2 h)
    subst h
    refine lv_goto (tgt := 1714) hx hb dL_law_1145 (by decide) ?_
    exact kk H locs ls _ _ (by omega) (by omega) Z hl0
  · have h := if_t c2 h
    refine lv_aload_n hx hb dL_law_1134 rfl (lv_at hl 5 rfl) ?_
    refine lv_iconst (v := (0 : Int32)) hx hb dL_law_1135 (by decide) ?_
    refine a_lald F Z hx hb dL_law_1136 ?_
    refine lv_lload hx hb dL_law_1137 (lv_at hl 0 rfl) ?_
    by_cases c3 : r.2.1 = v
    · have h := Option.some.inj (if_t c3 h)
      subst h
      refine W.lcmp hx hb dL_law_1139 ?_
      refine lv_if_eq (tgt := 1145) hx hb dL_law_1140 (by decide) (fun c4 => ?_) (fun c4 => absurd (by show lg_cmp r.2.1 v = 0; rw [← c3]; exact lg_cmp_z _) c4)
      refine lv_goto (tgt := 1714) hx hb dL_law_1145 (by decide) ?_
      exact kk H locs ls _ _ (by omega) (by omega) Z hl0
    · exact absurd (if_f c3 h) (by simp)
set_option maxHeartbeats 4000000 in
set_option maxRecDepth 100000 in
theorem law_copy {p : Program} {l : Launch} {e : Env} {s : State} {m : MethodId} {below : List Frame} {meth : Method} {c : Code} {H : Heap} {locs : List Loc} {cells slots : Nat} {Q : State → Prop} {N b L i : Nat} {ls : Array Slot} {D : va_G} {dA : Nat → ClassId} {tx : Nat → Nat} {cL : ClassId} {z z1 : lS} {xs : Nat → Int32} (F : lF l s N D dA tx cL) (S : CallFix p m c cL_law 8 s #[.ref b] aBig RL) (hX : va_X b L xs s s.heap) (hbl : b < s.heap.size) (hL : L ≤ 321) (hi : i + 5 ≤ L) (Z : lH N D dA cL s z H locs) (hl : lv_has ls 8 (lLs N s b i)) (hf : cells + 3 ≤ 600128 ∧ slots + 18 ≤ 7301064) (h : s_copy N z (xs (i + 1)) (xs (i + 2)) (xs (i + 3)) = some z1) (kk : lKK p l e s m below meth c b N D dA cL Q i z1 cells slots) : W p l e room_1 s m #[.ref b] below meth c H locs cells slots Q (F0 m 1148 ls []) := by
  obtain ⟨hx, hb, -, hown, hts⟩ := id S
  have hst := F.1
  have hN := F.2.1
  unfold s_copy at h
  obtain ⟨r, h1, h⟩ := o1_e h
  obtain ⟨v, Mr, h2, h⟩ := ob_e h
  obtain ⟨t, h3, h⟩ := o1_e h
  refine lv_aload_n hx hb dL_law_1148 rfl (lv_at hl 1 rfl) ?_
  refine a_arg hX hbl Z hx hb 1 hL (by omega) (by decide) (lv_at hl 0 rfl) (lv_at hl 4 rfl) dL_law_1149 dL_law_1150 dL_law_1152 dL_law_1153 dL_law_1154 ?_
  refine a_arg hX hbl Z hx hb 2 hL (by omega) (by decide) (lv_at hl 0 rfl) (lv_at hl 4 rfl) dL_law_1155 dL_law_1156 dL_law_1158 dL_law_1159 dL_law_1160 ?_
  refine a_arg hX hbl Z hx hb 3 hL (by omega) (by decide) (lv_at hl 0 rfl) (lv_at hl 4 rfl) dL_law_1161 dL_law_1162 dL_law_1164 dL_law_1165 dL_law_1166 ?_
  refine lv_aload_n hx hb dL_law_1167 rfl (lv_at hl 3 rfl) ?_
  refine a_wrap (As := [.ref (cAd N s.heap.size (0, 0, 0)), .int (xs (i + 1)), .int (xs (i + 2)), .int (xs (i + 3)), .ref (lQo N s)]) (rest := []) F Z S (t_L_copy l hst N D dA _ (cJ hN.1 hN.2) tx _ cL _ (l_qo F Z.2.2.2.2) z.2.2 h1) (vx_cwSW 5 hts (aGS (bs := lBig) (fun w h => a_l h) (aB 47 rfl) (aB 96 rfl) (aB 115 rfl) (aB 97 rfl)) rfl rfl rfl (by decide +kernel) ⟨Nat.le_of_ble_eq_true rfl, Nat.le_of_ble_eq_true rfl⟩) rfl hl.1 rfl (Nat.le_of_ble_eq_true rfl) dL_law_1168 ⟨by show cells + 3 ≤ 600128; omega, by show slots + 18 ≤ 7301064; omega⟩ (fun H locs Z => ?_)
  refine lv_istore (lv' := (5, .int r.1) :: lLs N s b i) hx hb dL_law_1171 hl (by decide) rfl (fun ls hl => ?_)
  refine lv_aload_n hx hb dL_law_1173 rfl (lv_at hl 3 rfl) ?_
  refine a_arg hX hbl Z hx hb 1 hL (by omega) (by decide) (lv_at hl 1 rfl) (lv_at hl 5 rfl) dL_law_1174 dL_law_1175 dL_law_1177 dL_law_1178 dL_law_1179 ?_
  refine a_arg hX hbl Z hx hb 2 hL (by omega) (by decide) (lv_at hl 1 rfl) (lv_at hl 5 rfl) dL_law_1180 dL_law_1181 dL_law_1183 dL_law_1184 dL_law_1185 ?_
  refine a_arg hX hbl Z hx hb 3 hL (by omega) (by decide) (lv_at hl 1 rfl) (lv_at hl 5 rfl) dL_law_1186 dL_law_1187 dL_law_1189 dL_law_1190 dL_law_1191 ?_
  refine a_refL (As := [.int (xs (i + 1)), .int (xs (i + 2)), .int (xs (i + 3))]) (rest := []) (cells := cells + 3) (slots := slots + 18) F Z S (t_X11_copy l D dA _ (mJ _) h2) (cwV 3 hts (aGV (aB 49 rfl) (aB 358 rfl) (aB 359 rfl) (aB 113 rfl) (aB 360 rfl)) rfl rfl rfl (by decide +kernel) ⟨Nat.le_of_ble_eq_true rfl, Nat.le_of_ble_eq_true rfl⟩) rfl hl.1 rfl (Nat.le_of_ble_eq_true rfl) dL_law_1192 ⟨by show cells + 3 ≤ 600128; omega, by show slots + 18 ≤ 7301064; omega⟩ (fun H locs Z => ?_)
  refine lv_lstore (lv' := (6, .long v) :: (5, .int r.1) :: lLs N s b i) hx hb dL_law_1195 hl (by decide) rfl (fun ls hl => ?_)
  refine lv_aload_n hx hb dL_law_1197 rfl (lv_at hl 4 rfl) ?_
  refine a_refI (As := []) (rest := []) (cells := cells + 3) (slots := slots + 18) F Z S (t_X11_thrown l D dA _ (mJ _) h3) (cwV 0 hts (aGV (aB 9 rfl) (aB 135 rfl) (aB 136 rfl) (aB 113 rfl) (aB 137 rfl)) rfl rfl rfl (by decide +kernel) ⟨Nat.le_of_ble_eq_true rfl, Nat.le_of_ble_eq_true rfl⟩) rfl hl.1 rfl (Nat.le_of_ble_eq_true rfl) dL_law_1198 ⟨by show cells + 3 ≤ 600128; omega, by show slots + 18 ≤ 7301064; omega⟩ (fun H locs Z => ?_)
  refine lv_iload hx hb dL_law_1201 (lv_at hl 1 rfl) ?_
  unfold lEnd at h
  refine lv_icmp_eq (tgt := 1208) hx hb dL_law_1203 (by decide) (fun c1 => ?_) (fun c1 => absurd (if_f c1 h) (by simp))
  have h := if_t c1 h
  have hl0 : lv_has ls 8 (lLs N s b i) := lv_sbs hl (fun q hq => List.mem_cons_of_mem _ (List.mem_cons_of_mem _ hq))
  refine lv_iload hx hb dL_law_1208 (lv_at hl 1 rfl) ?_
  refine lv_if_ne (tgt := 1224) hx hb dL_law_1210 (by decide) (fun c2 => ?_) (fun c2 => ?_)
  · have h := Option.some.inj (if_f c2 h)
    subst h
    refine lv_goto (tgt := 1714) hx hb dL_law_1224 (by decide) ?_
    exact kk H locs ls _ _ (by omega) (by omega) Z hl0
  · have h := if_t c2 h
    refine lv_aload_n hx hb dL_law_1213 rfl (lv_at hl 5 rfl) ?_
    refine lv_iconst (v := (0 : Int32)) hx hb dL_law_1214 (by decide) ?_
    refine a_lald F Z hx hb dL_law_1215 ?_
    refine lv_lload hx hb dL_law_1216 (lv_at hl 0 rfl) ?_
    by_cases c3 : r.2.1 = v
    · have h := Option.some.inj (if_t c3 h)
      subst h
      refine W.lcmp hx hb dL_law_1218 ?_
      refine lv_if_eq (tgt := 1224) hx hb dL_law_1219 (by decide) (fun c4 => ?_) (fun c4 => absurd (by show lg_cmp r.2.1 v = 0; rw [← c3]; exact lg_cmp_z _) c4)
      refine lv_goto (tgt := 1714) hx hb dL_law_1224 (by decide) ?_
      exact kk H locs ls _ _ (by omega) (by omega) Z hl0
    · exact absurd (if_f c3 h) (by simp)
set_option maxHeartbeats 4000000 in
set_option maxRecDepth 100000 in
theorem law_vector {p : Program} {l : Launch} {e : Env} {s : State} {m : MethodId} {below : List Frame} {meth : Method} {c : Code} {H : Heap} {locs : List Loc} {cells slots : Nat} {Q : State → Prop} {N b L i : Nat} {ls : Array Slot} {D : va_G} {dA : Nat → ClassId} {tx : Nat → Nat} {cL : ClassId} {z z1 : lS} {xs : Nat → Int32} (F : lF l s N D dA tx cL) (S : CallFix p m c cL_law 8 s #[.ref b] aBig RL) (hX : va_X b L xs s s.heap) (hbl : b < s.heap.size) (hL : L ≤ 321) (hi : i + 5 ≤ L) (Z : lH N D dA cL s z H locs) (hl : lv_has ls 8 (lLs N s b i)) (hf : cells + 3 ≤ 600128 ∧ slots + 18 ≤ 7301064) (h : s_vector N z (xs (i + 1)) (xs (i + 2)) (xs (i + 3)) (xs (i + 4)) = some z1) (kk : lKK p l e s m below meth c b N D dA cL Q i z1 cells slots) : W p l e room_1 s m #[.ref b] below meth c H locs cells slots Q (F0 m 1227 ls []) := by
  obtain ⟨hx, hb, -, hown, hts⟩ := id S
  have hst := F.1
  have hN := F.2.1
  unfold s_vector at h
  obtain ⟨r, h1, h⟩ := o1_e h
  obtain ⟨v, Mr, h2, h⟩ := ob_e h
  obtain ⟨t, h3, h⟩ := o1_e h
  refine lv_aload_n hx hb dL_law_1227 rfl (lv_at hl 1 rfl) ?_
  refine a_arg hX hbl Z hx hb 1 hL (by omega) (by decide) (lv_at hl 0 rfl) (lv_at hl 4 rfl) dL_law_1228 dL_law_1229 dL_law_1231 dL_law_1232 dL_law_1233 ?_
  refine a_arg hX hbl Z hx hb 2 hL (by omega) (by decide) (lv_at hl 0 rfl) (lv_at hl 4 rfl) dL_law_1234 dL_law_1235 dL_law_1237 dL_law_1238 dL_law_1239 ?_
  refine a_arg hX hbl Z hx hb 3 hL (by omega) (by decide) (lv_at hl 0 rfl) (lv_at hl 4 rfl) dL_law_1240 dL_law_1241 dL_law_1243 dL_law_1244 dL_law_1245 ?_
  refine a_arg hX hbl Z hx hb 4 hL (by omega) (by decide) (lv_at hl 0 rfl) (lv_at hl 4 rfl) dL_law_1246 dL_law_1247 dL_law_1249 dL_law_1250 dL_law_1251 ?_
  refine lv_aload_n hx hb dL_law_1252 rfl (lv_at hl 3 rfl) ?_
  refine a_wrap (As := [.ref (cAd N s.heap.size (0, 0, 0)), .int (xs (i + 1)), .int (xs (i + 2)), .int (xs (i + 3)), .int (xs (i + 4)), .ref (lQo N s)]) (rest := []) F Z S (t_L_vector l hst N D dA _ (cJ hN.1 hN.2) tx _ cL _ (l_qo F Z.2.2.2.2) z.2.2 h1) (vx_cwSW 6 hts (aGS (bs := lBig) (fun w h => a_l h) (aB 50 rfl) (aB 98 rfl) (aB 115 rfl) (aB 99 rfl)) rfl rfl rfl (by decide +kernel) ⟨Nat.le_of_ble_eq_true rfl, Nat.le_of_ble_eq_true rfl⟩) rfl hl.1 rfl (Nat.le_of_ble_eq_true rfl) dL_law_1253 ⟨by show cells + 3 ≤ 600128; omega, by show slots + 18 ≤ 7301064; omega⟩ (fun H locs Z => ?_)
  refine lv_istore (lv' := (5, .int r.1) :: lLs N s b i) hx hb dL_law_1256 hl (by decide) rfl (fun ls hl => ?_)
  refine lv_aload_n hx hb dL_law_1258 rfl (lv_at hl 3 rfl) ?_
  refine a_arg hX hbl Z hx hb 1 hL (by omega) (by decide) (lv_at hl 1 rfl) (lv_at hl 5 rfl) dL_law_1259 dL_law_1260 dL_law_1262 dL_law_1263 dL_law_1264 ?_
  refine a_arg hX hbl Z hx hb 2 hL (by omega) (by decide) (lv_at hl 1 rfl) (lv_at hl 5 rfl) dL_law_1265 dL_law_1266 dL_law_1268 dL_law_1269 dL_law_1270 ?_
  refine a_arg hX hbl Z hx hb 3 hL (by omega) (by decide) (lv_at hl 1 rfl) (lv_at hl 5 rfl) dL_law_1271 dL_law_1272 dL_law_1274 dL_law_1275 dL_law_1276 ?_
  refine a_arg hX hbl Z hx hb 4 hL (by omega) (by decide) (lv_at hl 1 rfl) (lv_at hl 5 rfl) dL_law_1277 dL_law_1278 dL_law_1280 dL_law_1281 dL_law_1282 ?_
  refine a_refL (As := [.int (xs (i + 1)), .int (xs (i + 2)), .int (xs (i + 3)), .int (xs (i + 4))]) (rest := []) (cells := cells + 3) (slots := slots + 18) F Z S (t_X11_vector l D dA _ (mJ _) h2) (cwV 4 hts (aGV (aB 52 rfl) (aB 361 rfl) (aB 362 rfl) (aB 113 rfl) (aB 363 rfl)) rfl rfl rfl (by decide +kernel) ⟨Nat.le_of_ble_eq_true rfl, Nat.le_of_ble_eq_true rfl⟩) rfl hl.1 rfl (Nat.le_of_ble_eq_true rfl) dL_law_1283 ⟨by show cells + 3 ≤ 600128; omega, by show slots + 18 ≤ 7301064; omega⟩ (fun H locs Z => ?_)
  refine lv_lstore (lv' := (6, .long v) :: (5, .int r.1) :: lLs N s b i) hx hb dL_law_1286 hl (by decide) rfl (fun ls hl => ?_)
  refine lv_aload_n hx hb dL_law_1288 rfl (lv_at hl 4 rfl) ?_
  refine a_refI (As := []) (rest := []) (cells := cells + 3) (slots := slots + 18) F Z S (t_X11_thrown l D dA _ (mJ _) h3) (cwV 0 hts (aGV (aB 9 rfl) (aB 135 rfl) (aB 136 rfl) (aB 113 rfl) (aB 137 rfl)) rfl rfl rfl (by decide +kernel) ⟨Nat.le_of_ble_eq_true rfl, Nat.le_of_ble_eq_true rfl⟩) rfl hl.1 rfl (Nat.le_of_ble_eq_true rfl) dL_law_1289 ⟨by show cells + 3 ≤ 600128; omega, by show slots + 18 ≤ 7301064; omega⟩ (fun H locs Z => ?_)
  refine lv_iload hx hb dL_law_1292 (lv_at hl 1 rfl) ?_
  unfold lEnd at h
  refine lv_icmp_eq (tgt := 1299) hx hb dL_law_1294 (by decide) (fun c1 => ?_) (fun c1 => absurd (if_f c1 h) (by simp))
  have h := if_t c1 h
  have hl0 : lv_has ls 8 (lLs N s b i) := lv_sbs hl (fun q hq => List.mem_cons_of_mem _ (List.mem_cons_of_mem _ hq))
  refine lv_iload hx hb dL_law_1299 (lv_at hl 1 rfl) ?_
  refine lv_if_ne (tgt := 1315) hx hb dL_law_1301 (by decide) (fun c2 => ?_) (fun c2 => ?_)
  · have h := Option.some.inj (if_f c2 h)
    subst h
    refine lv_goto (tgt := 1714) hx hb dL_law_1315 (by decide) ?_
    exact kk H locs ls _ _ (by omega) (by omega) Z hl0
  · have h := if_t c2 h
    refine lv_aload_n hx hb dL_law_1304 rfl (lv_at hl 5 rfl) ?_
    refine lv_iconst (v := (0 : Int32)) hx hb dL_law_1305 (by decide) ?_
    refine a_lald F Z hx hb dL_law_1306 ?_
    refine lv_lload hx hb dL_law_1307 (lv_at hl 0 rfl) ?_
    by_cases c3 : r.2.1 = v
    · have h := Option.some.inj (if_t c3 h)
      subst h
      refine W.lcmp hx hb dL_law_1309 ?_
      refine lv_if_eq (tgt := 1315) hx hb dL_law_1310 (by decide) (fun c4 => ?_) (fun c4 => absurd (by show lg_cmp r.2.1 v = 0; rw [← c3]; exact lg_cmp_z _) c4)
      refine lv_goto (tgt := 1714) hx hb dL_law_1315 (by decide) ?_
      exact kk H locs ls _ _ (by omega) (by omega) Z hl0
    · exact absurd (if_f c3 h) (by simp)
set_option maxHeartbeats 4000000 in
set_option maxRecDepth 100000 in
theorem law_version {p : Program} {l : Launch} {e : Env} {s : State} {m : MethodId} {below : List Frame} {meth : Method} {c : Code} {H : Heap} {locs : List Loc} {cells slots : Nat} {Q : State → Prop} {N b L i : Nat} {ls : Array Slot} {D : va_G} {dA : Nat → ClassId} {tx : Nat → Nat} {cL : ClassId} {z z1 : lS} {xs : Nat → Int32} (F : lF l s N D dA tx cL) (S : CallFix p m c cL_law 8 s #[.ref b] aBig RL) (hX : va_X b L xs s s.heap) (hbl : b < s.heap.size) (hL : L ≤ 321) (hi : i + 5 ≤ L) (Z : lH N D dA cL s z H locs) (hl : lv_has ls 8 (lLs N s b i)) (hf : cells + 3 ≤ 600128 ∧ slots + 18 ≤ 7301064) (h : s_version N z (xs (i + 1)) (xs (i + 2)) (xs (i + 3)) (xs (i + 4)) = some z1) (kk : lKK p l e s m below meth c b N D dA cL Q i z1 cells slots) : W p l e room_1 s m #[.ref b] below meth c H locs cells slots Q (F0 m 1318 ls []) := by
  obtain ⟨hx, hb, -, hown, hts⟩ := id S
  have hst := F.1
  have hN := F.2.1
  unfold s_version at h
  obtain ⟨r, h1, h⟩ := o1_e h
  obtain ⟨v, Mr, h2, h⟩ := ob_e h
  obtain ⟨t, h3, h⟩ := o1_e h
  refine lv_aload_n hx hb dL_law_1318 rfl (lv_at hl 1 rfl) ?_
  refine a_arg hX hbl Z hx hb 1 hL (by omega) (by decide) (lv_at hl 0 rfl) (lv_at hl 4 rfl) dL_law_1319 dL_law_1320 dL_law_1322 dL_law_1323 dL_law_1324 ?_
  refine a_arg hX hbl Z hx hb 2 hL (by omega) (by decide) (lv_at hl 0 rfl) (lv_at hl 4 rfl) dL_law_1325 dL_law_1326 dL_law_1328 dL_law_1329 dL_law_1330 ?_
  refine a_arg hX hbl Z hx hb 3 hL (by omega) (by decide) (lv_at hl 0 rfl) (lv_at hl 4 rfl) dL_law_1331 dL_law_1332 dL_law_1334 dL_law_1335 dL_law_1336 ?_
  refine a_arg hX hbl Z hx hb 4 hL (by omega) (by decide) (lv_at hl 0 rfl) (lv_at hl 4 rfl) dL_law_1337 dL_law_1338 dL_law_1340 dL_law_1341 dL_law_1342 ?_
  refine lv_aload_n hx hb dL_law_1343 rfl (lv_at hl 3 rfl) ?_
  refine a_wrap (As := [.ref (cAd N s.heap.size (0, 0, 0)), .int (xs (i + 1)), .int (xs (i + 2)), .int (xs (i + 3)), .int (xs (i + 4)), .ref (lQo N s)]) (rest := []) F Z S (t_L_version l hst N D dA _ (cJ hN.1 hN.2) tx _ cL _ (l_qo F Z.2.2.2.2) z.2.2 h1) (vx_cwSW 6 hts (aGS (bs := lBig) (fun w h => a_l h) (aB 53 rfl) (aB 100 rfl) (aB 115 rfl) (aB 101 rfl)) rfl rfl rfl (by decide +kernel) ⟨Nat.le_of_ble_eq_true rfl, Nat.le_of_ble_eq_true rfl⟩) rfl hl.1 rfl (Nat.le_of_ble_eq_true rfl) dL_law_1344 ⟨by show cells + 3 ≤ 600128; omega, by show slots + 18 ≤ 7301064; omega⟩ (fun H locs Z => ?_)
  refine lv_istore (lv' := (5, .int r.1) :: lLs N s b i) hx hb dL_law_1347 hl (by decide) rfl (fun ls hl => ?_)
  refine lv_aload_n hx hb dL_law_1349 rfl (lv_at hl 3 rfl) ?_
  refine a_arg hX hbl Z hx hb 1 hL (by omega) (by decide) (lv_at hl 1 rfl) (lv_at hl 5 rfl) dL_law_1350 dL_law_1351 dL_law_1353 dL_law_1354 dL_law_1355 ?_
  refine a_arg hX hbl Z hx hb 2 hL (by omega) (by decide) (lv_at hl 1 rfl) (lv_at hl 5 rfl) dL_law_1356 dL_law_1357 dL_law_1359 dL_law_1360 dL_law_1361 ?_
  refine a_arg hX hbl Z hx hb 3 hL (by omega) (by decide) (lv_at hl 1 rfl) (lv_at hl 5 rfl) dL_law_1362 dL_law_1363 dL_law_1365 dL_law_1366 dL_law_1367 ?_
  refine a_arg hX hbl Z hx hb 4 hL (by omega) (by decide) (lv_at hl 1 rfl) (lv_at hl 5 rfl) dL_law_1368 dL_law_1369 dL_law_1371 dL_law_1372 dL_law_1373 ?_
  refine a_refL (As := [.int (xs (i + 1)), .int (xs (i + 2)), .int (xs (i + 3)), .int (xs (i + 4))]) (rest := []) (cells := cells + 3) (slots := slots + 18) F Z S (t_X11_version l D dA _ (mJ _) h2) (cwV 4 hts (aGV (aB 55 rfl) (aB 364 rfl) (aB 365 rfl) (aB 113 rfl) (aB 366 rfl)) rfl rfl rfl (by decide +kernel) ⟨Nat.le_of_ble_eq_true rfl, Nat.le_of_ble_eq_true rfl⟩) rfl hl.1 rfl (Nat.le_of_ble_eq_true rfl) dL_law_1374 ⟨by show cells + 3 ≤ 600128; omega, by show slots + 18 ≤ 7301064; omega⟩ (fun H locs Z => ?_)
  refine lv_lstore (lv' := (6, .long v) :: (5, .int r.1) :: lLs N s b i) hx hb dL_law_1377 hl (by decide) rfl (fun ls hl => ?_)
  refine lv_aload_n hx hb dL_law_1379 rfl (lv_at hl 4 rfl) ?_
  refine a_refI (As := []) (rest := []) (cells := cells + 3) (slots := slots + 18) F Z S (t_X11_thrown l D dA _ (mJ _) h3) (cwV 0 hts (aGV (aB 9 rfl) (aB 135 rfl) (aB 136 rfl) (aB 113 rfl) (aB 137 rfl)) rfl rfl rfl (by decide +kernel) ⟨Nat.le_of_ble_eq_true rfl, Nat.le_of_ble_eq_true rfl⟩) rfl hl.1 rfl (Nat.le_of_ble_eq_true rfl) dL_law_1380 ⟨by show cells + 3 ≤ 600128; omega, by show slots + 18 ≤ 7301064; omega⟩ (fun H locs Z => ?_)
  refine lv_iload hx hb dL_law_1383 (lv_at hl 1 rfl) ?_
  unfold lEnd at h
  refine lv_icmp_eq (tgt := 1390) hx hb dL_law_1385 (by decide) (fun c1 => ?_) (fun c1 => absurd (if_f c1 h) (by simp))
  have h := if_t c1 h
  have hl0 : lv_has ls 8 (lLs N s b i) := lv_sbs hl (fun q hq => List.mem_cons_of_mem _ (List.mem_cons_of_mem _ hq))
  refine lv_iload hx hb dL_law_1390 (lv_at hl 1 rfl) ?_
  refine lv_if_ne (tgt := 1406) hx hb dL_law_1392 (by decide) (fun c2 => ?_) (fun c2 => ?_)
  · have h := Option.some.inj (if_f c2 h)
    subst h
    refine lv_goto (tgt := 1714) hx hb dL_law_1406 (by decide) ?_
    exact kk H locs ls _ _ (by omega) (by omega) Z hl0
  · have h := if_t c2 h
    refine lv_aload_n hx hb dL_law_1395 rfl (lv_at hl 5 rfl) ?_
    refine lv_iconst (v := (0 : Int32)) hx hb dL_law_1396 (by decide) ?_
    refine a_lald F Z hx hb dL_law_1397 ?_
    refine lv_lload hx hb dL_law_1398 (lv_at hl 0 rfl) ?_
    by_cases c3 : r.2.1 = v
    · have h := Option.some.inj (if_t c3 h)
      subst h
      refine W.lcmp hx hb dL_law_1400 ?_
      refine lv_if_eq (tgt := 1406) hx hb dL_law_1401 (by decide) (fun c4 => ?_) (fun c4 => absurd (by show lg_cmp r.2.1 v = 0; rw [← c3]; exact lg_cmp_z _) c4)
      refine lv_goto (tgt := 1714) hx hb dL_law_1406 (by decide) ?_
      exact kk H locs ls _ _ (by omega) (by omega) Z hl0
    · exact absurd (if_f c3 h) (by simp)
set_option maxHeartbeats 4000000 in
set_option maxRecDepth 100000 in
theorem law_entry {p : Program} {l : Launch} {e : Env} {s : State} {m : MethodId} {below : List Frame} {meth : Method} {c : Code} {H : Heap} {locs : List Loc} {cells slots : Nat} {Q : State → Prop} {N b L i : Nat} {ls : Array Slot} {D : va_G} {dA : Nat → ClassId} {tx : Nat → Nat} {cL : ClassId} {z z1 : lS} {xs : Nat → Int32} (F : lF l s N D dA tx cL) (S : CallFix p m c cL_law 8 s #[.ref b] aBig RL) (hX : va_X b L xs s s.heap) (hbl : b < s.heap.size) (hL : L ≤ 321) (hi : i + 5 ≤ L) (Z : lH N D dA cL s z H locs) (hl : lv_has ls 8 (lLs N s b i)) (hf : cells + 3 ≤ 600128 ∧ slots + 18 ≤ 7301064) (h : s_entry N z (xs (i + 1)) (xs (i + 2)) (xs (i + 3)) (xs (i + 4)) = some z1) (kk : lKK p l e s m below meth c b N D dA cL Q i z1 cells slots) : W p l e room_1 s m #[.ref b] below meth c H locs cells slots Q (F0 m 1409 ls []) := by
  obtain ⟨hx, hb, -, hown, hts⟩ := id S
  have hst := F.1
  have hN := F.2.1
  unfold s_entry at h
  obtain ⟨r, h1, h⟩ := o1_e h
  obtain ⟨v, Mr, h2, h⟩ := ob_e h
  obtain ⟨t, h3, h⟩ := o1_e h
  refine lv_aload_n hx hb dL_law_1409 rfl (lv_at hl 1 rfl) ?_
  refine a_arg hX hbl Z hx hb 1 hL (by omega) (by decide) (lv_at hl 0 rfl) (lv_at hl 4 rfl) dL_law_1410 dL_law_1411 dL_law_1413 dL_law_1414 dL_law_1415 ?_
  refine a_arg hX hbl Z hx hb 2 hL (by omega) (by decide) (lv_at hl 0 rfl) (lv_at hl 4 rfl) dL_law_1416 dL_law_1417 dL_law_1419 dL_law_1420 dL_law_1421 ?_
  refine a_arg hX hbl Z hx hb 3 hL (by omega) (by decide) (lv_at hl 0 rfl) (lv_at hl 4 rfl) dL_law_1422 dL_law_1423 dL_law_1425 dL_law_1426 dL_law_1427 ?_
  refine a_arg hX hbl Z hx hb 4 hL (by omega) (by decide) (lv_at hl 0 rfl) (lv_at hl 4 rfl) dL_law_1428 dL_law_1429 dL_law_1431 dL_law_1432 dL_law_1433 ?_
  refine lv_aload_n hx hb dL_law_1434 rfl (lv_at hl 3 rfl) ?_
  refine a_wrap (As := [.ref (cAd N s.heap.size (0, 0, 0)), .int (xs (i + 1)), .int (xs (i + 2)), .int (xs (i + 3)), .int (xs (i + 4)), .ref (lQo N s)]) (rest := []) F Z S (t_L_entry l hst N D dA _ (cJ hN.1 hN.2) tx _ cL _ (l_qo F Z.2.2.2.2) z.2.2 h1) (vx_cwSW 6 hts (aGS (bs := lBig) (fun w h => a_l h) (aB 56 rfl) (aB 102 rfl) (aB 115 rfl) (aB 103 rfl)) rfl rfl rfl (by decide +kernel) ⟨Nat.le_of_ble_eq_true rfl, Nat.le_of_ble_eq_true rfl⟩) rfl hl.1 rfl (Nat.le_of_ble_eq_true rfl) dL_law_1435 ⟨by show cells + 3 ≤ 600128; omega, by show slots + 18 ≤ 7301064; omega⟩ (fun H locs Z => ?_)
  refine lv_istore (lv' := (5, .int r.1) :: lLs N s b i) hx hb dL_law_1438 hl (by decide) rfl (fun ls hl => ?_)
  refine lv_aload_n hx hb dL_law_1440 rfl (lv_at hl 3 rfl) ?_
  refine a_arg hX hbl Z hx hb 1 hL (by omega) (by decide) (lv_at hl 1 rfl) (lv_at hl 5 rfl) dL_law_1441 dL_law_1442 dL_law_1444 dL_law_1445 dL_law_1446 ?_
  refine a_arg hX hbl Z hx hb 2 hL (by omega) (by decide) (lv_at hl 1 rfl) (lv_at hl 5 rfl) dL_law_1447 dL_law_1448 dL_law_1450 dL_law_1451 dL_law_1452 ?_
  refine a_arg hX hbl Z hx hb 3 hL (by omega) (by decide) (lv_at hl 1 rfl) (lv_at hl 5 rfl) dL_law_1453 dL_law_1454 dL_law_1456 dL_law_1457 dL_law_1458 ?_
  refine a_arg hX hbl Z hx hb 4 hL (by omega) (by decide) (lv_at hl 1 rfl) (lv_at hl 5 rfl) dL_law_1459 dL_law_1460 dL_law_1462 dL_law_1463 dL_law_1464 ?_
  refine a_refL (As := [.int (xs (i + 1)), .int (xs (i + 2)), .int (xs (i + 3)), .int (xs (i + 4))]) (rest := []) (cells := cells + 3) (slots := slots + 18) F Z S (t_X11_entry l D dA _ (mJ _) h2) (cwV 4 hts (aGV (aB 58 rfl) (aB 367 rfl) (aB 368 rfl) (aB 113 rfl) (aB 369 rfl)) rfl rfl rfl (by decide +kernel) ⟨Nat.le_of_ble_eq_true rfl, Nat.le_of_ble_eq_true rfl⟩) rfl hl.1 rfl (Nat.le_of_ble_eq_true rfl) dL_law_1465 ⟨by show cells + 3 ≤ 600128; omega, by show slots + 18 ≤ 7301064; omega⟩ (fun H locs Z => ?_)
  refine lv_lstore (lv' := (6, .long v) :: (5, .int r.1) :: lLs N s b i) hx hb dL_law_1468 hl (by decide) rfl (fun ls hl => ?_)
  refine lv_aload_n hx hb dL_law_1470 rfl (lv_at hl 4 rfl) ?_
  refine a_refI (As := []) (rest := []) (cells := cells + 3) (slots := slots + 18) F Z S (t_X11_thrown l D dA _ (mJ _) h3) (cwV 0 hts (aGV (aB 9 rfl) (aB 135 rfl) (aB 136 rfl) (aB 113 rfl) (aB 137 rfl)) rfl rfl rfl (by decide +kernel) ⟨Nat.le_of_ble_eq_true rfl, Nat.le_of_ble_eq_true rfl⟩) rfl hl.1 rfl (Nat.le_of_ble_eq_true rfl) dL_law_1471 ⟨by show cells + 3 ≤ 600128; omega, by show slots + 18 ≤ 7301064; omega⟩ (fun H locs Z => ?_)
  refine lv_iload hx hb dL_law_1474 (lv_at hl 1 rfl) ?_
  unfold lEnd at h
  refine lv_icmp_eq (tgt := 1481) hx hb dL_law_1476 (by decide) (fun c1 => ?_) (fun c1 => absurd (if_f c1 h) (by simp))
  have h := if_t c1 h
  have hl0 : lv_has ls 8 (lLs N s b i) := lv_sbs hl (fun q hq => List.mem_cons_of_mem _ (List.mem_cons_of_mem _ hq))
  refine lv_iload hx hb dL_law_1481 (lv_at hl 1 rfl) ?_
  refine lv_if_ne (tgt := 1497) hx hb dL_law_1483 (by decide) (fun c2 => ?_) (fun c2 => ?_)
  · have h := Option.some.inj (if_f c2 h)
    subst h
    refine lv_goto (tgt := 1714) hx hb dL_law_1497 (by decide) ?_
    exact kk H locs ls _ _ (by omega) (by omega) Z hl0
  · have h := if_t c2 h
    refine lv_aload_n hx hb dL_law_1486 rfl (lv_at hl 5 rfl) ?_
    refine lv_iconst (v := (0 : Int32)) hx hb dL_law_1487 (by decide) ?_
    refine a_lald F Z hx hb dL_law_1488 ?_
    refine lv_lload hx hb dL_law_1489 (lv_at hl 0 rfl) ?_
    by_cases c3 : r.2.1 = v
    · have h := Option.some.inj (if_t c3 h)
      subst h
      refine W.lcmp hx hb dL_law_1491 ?_
      refine lv_if_eq (tgt := 1497) hx hb dL_law_1492 (by decide) (fun c4 => ?_) (fun c4 => absurd (by show lg_cmp r.2.1 v = 0; rw [← c3]; exact lg_cmp_z _) c4)
      refine lv_goto (tgt := 1714) hx hb dL_law_1497 (by decide) ?_
      exact kk H locs ls _ _ (by omega) (by omega) Z hl0
    · exact absurd (if_f c3 h) (by simp)
set_option maxHeartbeats 4000000 in
set_option maxRecDepth 100000 in
theorem law_cached {p : Program} {l : Launch} {e : Env} {s : State} {m : MethodId} {below : List Frame} {meth : Method} {c : Code} {H : Heap} {locs : List Loc} {cells slots : Nat} {Q : State → Prop} {N b L i : Nat} {ls : Array Slot} {D : va_G} {dA : Nat → ClassId} {tx : Nat → Nat} {cL : ClassId} {z z1 : lS} {xs : Nat → Int32} (F : lF l s N D dA tx cL) (S : CallFix p m c cL_law 8 s #[.ref b] aBig RL) (hX : va_X b L xs s s.heap) (hbl : b < s.heap.size) (hL : L ≤ 321) (hi : i + 5 ≤ L) (Z : lH N D dA cL s z H locs) (hl : lv_has ls 8 (lLs N s b i)) (hf : cells + 3 ≤ 600128 ∧ slots + 18 ≤ 7301064) (h : s_cached N z (xs (i + 1)) (xs (i + 2)) (xs (i + 3)) = some z1) (kk : lKK p l e s m below meth c b N D dA cL Q i z1 cells slots) : W p l e room_1 s m #[.ref b] below meth c H locs cells slots Q (F0 m 1500 ls []) := by
  obtain ⟨hx, hb, -, hown, hts⟩ := id S
  have hst := F.1
  have hN := F.2.1
  unfold s_cached at h
  obtain ⟨r, h1, h⟩ := o1_e h
  obtain ⟨v, Mr, h2, h⟩ := ob_e h
  obtain ⟨t, h3, h⟩ := o1_e h
  refine lv_aload_n hx hb dL_law_1500 rfl (lv_at hl 1 rfl) ?_
  refine a_arg hX hbl Z hx hb 1 hL (by omega) (by decide) (lv_at hl 0 rfl) (lv_at hl 4 rfl) dL_law_1501 dL_law_1502 dL_law_1504 dL_law_1505 dL_law_1506 ?_
  refine a_arg hX hbl Z hx hb 2 hL (by omega) (by decide) (lv_at hl 0 rfl) (lv_at hl 4 rfl) dL_law_1507 dL_law_1508 dL_law_1510 dL_law_1511 dL_law_1512 ?_
  refine a_arg hX hbl Z hx hb 3 hL (by omega) (by decide) (lv_at hl 0 rfl) (lv_at hl 4 rfl) dL_law_1513 dL_law_1514 dL_law_1516 dL_law_1517 dL_law_1518 ?_
  refine lv_aload_n hx hb dL_law_1519 rfl (lv_at hl 3 rfl) ?_
  refine a_wrap (As := [.ref (cAd N s.heap.size (0, 0, 0)), .int (xs (i + 1)), .int (xs (i + 2)), .int (xs (i + 3)), .ref (lQo N s)]) (rest := []) F Z S (t_L_cached l hst N D dA _ (cJ hN.1 hN.2) tx _ cL _ (l_qo F Z.2.2.2.2) z.2.2 h1) (vx_cwSW 5 hts (aGS (bs := lBig) (fun w h => a_l h) (aB 59 rfl) (aB 104 rfl) (aB 115 rfl) (aB 105 rfl)) rfl rfl rfl (by decide +kernel) ⟨Nat.le_of_ble_eq_true rfl, Nat.le_of_ble_eq_true rfl⟩) rfl hl.1 rfl (Nat.le_of_ble_eq_true rfl) dL_law_1520 ⟨by show cells + 3 ≤ 600128; omega, by show slots + 18 ≤ 7301064; omega⟩ (fun H locs Z => ?_)
  refine lv_istore (lv' := (5, .int r.1) :: lLs N s b i) hx hb dL_law_1523 hl (by decide) rfl (fun ls hl => ?_)
  refine lv_aload_n hx hb dL_law_1525 rfl (lv_at hl 3 rfl) ?_
  refine a_arg hX hbl Z hx hb 1 hL (by omega) (by decide) (lv_at hl 1 rfl) (lv_at hl 5 rfl) dL_law_1526 dL_law_1527 dL_law_1529 dL_law_1530 dL_law_1531 ?_
  refine a_arg hX hbl Z hx hb 2 hL (by omega) (by decide) (lv_at hl 1 rfl) (lv_at hl 5 rfl) dL_law_1532 dL_law_1533 dL_law_1535 dL_law_1536 dL_law_1537 ?_
  refine a_arg hX hbl Z hx hb 3 hL (by omega) (by decide) (lv_at hl 1 rfl) (lv_at hl 5 rfl) dL_law_1538 dL_law_1539 dL_law_1541 dL_law_1542 dL_law_1543 ?_
  refine a_refL (As := [.int (xs (i + 1)), .int (xs (i + 2)), .int (xs (i + 3))]) (rest := []) (cells := cells + 3) (slots := slots + 18) F Z S (t_X11_cached l D dA _ (mJ _) h2) (cwV 3 hts (aGV (aB 61 rfl) (aB 370 rfl) (aB 371 rfl) (aB 113 rfl) (aB 372 rfl)) rfl rfl rfl (by decide +kernel) ⟨Nat.le_of_ble_eq_true rfl, Nat.le_of_ble_eq_true rfl⟩) rfl hl.1 rfl (Nat.le_of_ble_eq_true rfl) dL_law_1544 ⟨by show cells + 3 ≤ 600128; omega, by show slots + 18 ≤ 7301064; omega⟩ (fun H locs Z => ?_)
  refine lv_lstore (lv' := (6, .long v) :: (5, .int r.1) :: lLs N s b i) hx hb dL_law_1547 hl (by decide) rfl (fun ls hl => ?_)
  refine lv_aload_n hx hb dL_law_1549 rfl (lv_at hl 4 rfl) ?_
  refine a_refI (As := []) (rest := []) (cells := cells + 3) (slots := slots + 18) F Z S (t_X11_thrown l D dA _ (mJ _) h3) (cwV 0 hts (aGV (aB 9 rfl) (aB 135 rfl) (aB 136 rfl) (aB 113 rfl) (aB 137 rfl)) rfl rfl rfl (by decide +kernel) ⟨Nat.le_of_ble_eq_true rfl, Nat.le_of_ble_eq_true rfl⟩) rfl hl.1 rfl (Nat.le_of_ble_eq_true rfl) dL_law_1550 ⟨by show cells + 3 ≤ 600128; omega, by show slots + 18 ≤ 7301064; omega⟩ (fun H locs Z => ?_)
  refine lv_iload hx hb dL_law_1553 (lv_at hl 1 rfl) ?_
  unfold lEnd at h
  refine lv_icmp_eq (tgt := 1560) hx hb dL_law_1555 (by decide) (fun c1 => ?_) (fun c1 => absurd (if_f c1 h) (by simp))
  have h := if_t c1 h
  have hl0 : lv_has ls 8 (lLs N s b i) := lv_sbs hl (fun q hq => List.mem_cons_of_mem _ (List.mem_cons_of_mem _ hq))
  refine lv_iload hx hb dL_law_1560 (lv_at hl 1 rfl) ?_
  refine lv_if_ne (tgt := 1576) hx hb dL_law_1562 (by decide) (fun c2 => ?_) (fun c2 => ?_)
  · have h := Option.some.inj (if_f c2 h)
    subst h
    refine lv_goto (tgt := 1714) hx hb dL_law_1576 (by decide) ?_
    exact kk H locs ls _ _ (by omega) (by omega) Z hl0
  · have h := if_t c2 h
    refine lv_aload_n hx hb dL_law_1565 rfl (lv_at hl 5 rfl) ?_
    refine lv_iconst (v := (0 : Int32)) hx hb dL_law_1566 (by decide) ?_
    refine a_lald F Z hx hb dL_law_1567 ?_
    refine lv_lload hx hb dL_law_1568 (lv_at hl 0 rfl) ?_
    by_cases c3 : r.2.1 = v
    · have h := Option.some.inj (if_t c3 h)
      subst h
      refine W.lcmp hx hb dL_law_1570 ?_
      refine lv_if_eq (tgt := 1576) hx hb dL_law_1571 (by decide) (fun c4 => ?_) (fun c4 => absurd (by show lg_cmp r.2.1 v = 0; rw [← c3]; exact lg_cmp_z _) c4)
      refine lv_goto (tgt := 1714) hx hb dL_law_1576 (by decide) ?_
      exact kk H locs ls _ _ (by omega) (by omega) Z hl0
    · exact absurd (if_f c3 h) (by simp)
set_option maxHeartbeats 4000000 in
set_option maxRecDepth 100000 in
theorem law_record {p : Program} {l : Launch} {e : Env} {s : State} {m : MethodId} {below : List Frame} {meth : Method} {c : Code} {H : Heap} {locs : List Loc} {cells slots : Nat} {Q : State → Prop} {N b L i : Nat} {ls : Array Slot} {D : va_G} {dA : Nat → ClassId} {tx : Nat → Nat} {cL : ClassId} {z z1 : lS} {xs : Nat → Int32} (F : lF l s N D dA tx cL) (S : CallFix p m c cL_law 8 s #[.ref b] aBig RL) (hX : va_X b L xs s s.heap) (hbl : b < s.heap.size) (hL : L ≤ 321) (hi : i + 5 ≤ L) (Z : lH N D dA cL s z H locs) (hl : lv_has ls 8 (lLs N s b i)) (hf : cells + 3 ≤ 600128 ∧ slots + 18 ≤ 7301064) (h : s_record N z (xs (i + 1)) (xs (i + 2)) (xs (i + 3)) = some z1) (kk : lKK p l e s m below meth c b N D dA cL Q i z1 cells slots) : W p l e room_1 s m #[.ref b] below meth c H locs cells slots Q (F0 m 1579 ls []) := by
  obtain ⟨hx, hb, -, hown, hts⟩ := id S
  have hst := F.1
  have hN := F.2.1
  unfold s_record at h
  obtain ⟨r, h1, h⟩ := o1_e h
  obtain ⟨v, Mr, h2, h⟩ := ob_e h
  obtain ⟨t, h3, h⟩ := o1_e h
  refine lv_aload_n hx hb dL_law_1579 rfl (lv_at hl 1 rfl) ?_
  refine a_arg hX hbl Z hx hb 1 hL (by omega) (by decide) (lv_at hl 0 rfl) (lv_at hl 4 rfl) dL_law_1580 dL_law_1581 dL_law_1583 dL_law_1584 dL_law_1585 ?_
  refine a_arg hX hbl Z hx hb 2 hL (by omega) (by decide) (lv_at hl 0 rfl) (lv_at hl 4 rfl) dL_law_1586 dL_law_1587 dL_law_1589 dL_law_1590 dL_law_1591 ?_
  refine a_arg hX hbl Z hx hb 3 hL (by omega) (by decide) (lv_at hl 0 rfl) (lv_at hl 4 rfl) dL_law_1592 dL_law_1593 dL_law_1595 dL_law_1596 dL_law_1597 ?_
  refine lv_aload_n hx hb dL_law_1598 rfl (lv_at hl 3 rfl) ?_
  refine a_wrap (As := [.ref (cAd N s.heap.size (0, 0, 0)), .int (xs (i + 1)), .int (xs (i + 2)), .int (xs (i + 3)), .ref (lQo N s)]) (rest := []) F Z S (t_L_record l hst N D dA _ (cJ hN.1 hN.2) tx _ cL _ (l_qo F Z.2.2.2.2) z.2.2 h1) (vx_cwSW 5 hts (aGS (bs := lBig) (fun w h => a_l h) (aB 62 rfl) (aB 106 rfl) (aB 115 rfl) (aB 107 rfl)) rfl rfl rfl (by decide +kernel) ⟨Nat.le_of_ble_eq_true rfl, Nat.le_of_ble_eq_true rfl⟩) rfl hl.1 rfl (Nat.le_of_ble_eq_true rfl) dL_law_1599 ⟨by show cells + 2 ≤ 600128; omega, by show slots + 12 ≤ 7301064; omega⟩ (fun H locs Z => ?_)
  refine lv_istore (lv' := (5, .int r.1) :: lLs N s b i) hx hb dL_law_1602 hl (by decide) rfl (fun ls hl => ?_)
  refine lv_aload_n hx hb dL_law_1604 rfl (lv_at hl 3 rfl) ?_
  refine a_arg hX hbl Z hx hb 1 hL (by omega) (by decide) (lv_at hl 1 rfl) (lv_at hl 5 rfl) dL_law_1605 dL_law_1606 dL_law_1608 dL_law_1609 dL_law_1610 ?_
  refine a_arg hX hbl Z hx hb 2 hL (by omega) (by decide) (lv_at hl 1 rfl) (lv_at hl 5 rfl) dL_law_1611 dL_law_1612 dL_law_1614 dL_law_1615 dL_law_1616 ?_
  refine a_arg hX hbl Z hx hb 3 hL (by omega) (by decide) (lv_at hl 1 rfl) (lv_at hl 5 rfl) dL_law_1617 dL_law_1618 dL_law_1620 dL_law_1621 dL_law_1622 ?_
  refine a_refL (As := [.int (xs (i + 1)), .int (xs (i + 2)), .int (xs (i + 3))]) (rest := []) (cells := cells + 2) (slots := slots + 12) F Z S (t_X11_record l D dA _ (mJ _) h2) (cwV 3 hts (aGV (aB 64 rfl) (aB 376 rfl) (aB 377 rfl) (aB 113 rfl) (aB 378 rfl)) rfl rfl rfl (by decide +kernel) ⟨Nat.le_of_ble_eq_true rfl, Nat.le_of_ble_eq_true rfl⟩) rfl hl.1 rfl (Nat.le_of_ble_eq_true rfl) dL_law_1623 ⟨by show cells + 2 ≤ 600128; omega, by show slots + 12 ≤ 7301064; omega⟩ (fun H locs Z => ?_)
  refine lv_lstore (lv' := (6, .long v) :: (5, .int r.1) :: lLs N s b i) hx hb dL_law_1626 hl (by decide) rfl (fun ls hl => ?_)
  refine lv_aload_n hx hb dL_law_1628 rfl (lv_at hl 4 rfl) ?_
  refine a_refI (As := []) (rest := []) (cells := cells + 2) (slots := slots + 12) F Z S (t_X11_thrown l D dA _ (mJ _) h3) (cwV 0 hts (aGV (aB 9 rfl) (aB 135 rfl) (aB 136 rfl) (aB 113 rfl) (aB 137 rfl)) rfl rfl rfl (by decide +kernel) ⟨Nat.le_of_ble_eq_true rfl, Nat.le_of_ble_eq_true rfl⟩) rfl hl.1 rfl (Nat.le_of_ble_eq_true rfl) dL_law_1629 ⟨by show cells + 2 ≤ 600128; omega, by show slots + 12 ≤ 7301064; omega⟩ (fun H locs Z => ?_)
  refine lv_iload hx hb dL_law_1632 (lv_at hl 1 rfl) ?_
  unfold lEnd at h
  refine lv_icmp_eq (tgt := 1639) hx hb dL_law_1634 (by decide) (fun c1 => ?_) (fun c1 => absurd (if_f c1 h) (by simp))
  have h := if_t c1 h
  have hl0 : lv_has ls 8 (lLs N s b i) := lv_sbs hl (fun q hq => List.mem_cons_of_mem _ (List.mem_cons_of_mem _ hq))
  refine lv_iload hx hb dL_law_1639 (lv_at hl 1 rfl) ?_
  refine lv_if_ne (tgt := 1655) hx hb dL_law_1641 (by decide) (fun c2 => ?_) (fun c2 => ?_)
  · have h := Option.some.inj (if_f c2 h)
    subst h
    refine lv_goto (tgt := 1714) hx hb dL_law_1655 (by decide) ?_
    exact kk H locs ls _ _ (by omega) (by omega) Z hl0
  · have h := if_t c2 h
    refine lv_aload_n hx hb dL_law_1644 rfl (lv_at hl 5 rfl) ?_
    refine lv_iconst (v := (0 : Int32)) hx hb dL_law_1645 (by decide) ?_
    refine a_lald F Z hx hb dL_law_1646 ?_
    refine lv_lload hx hb dL_law_1647 (lv_at hl 0 rfl) ?_
    by_cases c3 : r.2.1 = v
    · have h := Option.some.inj (if_t c3 h)
      subst h
      refine W.lcmp hx hb dL_law_1649 ?_
      refine lv_if_eq (tgt := 1655) hx hb dL_law_1650 (by decide) (fun c4 => ?_) (fun c4 => absurd (by show lg_cmp r.2.1 v = 0; rw [← c3]; exact lg_cmp_z _) c4)
      refine lv_goto (tgt := 1714) hx hb dL_law_1655 (by decide) ?_
      exact kk H locs ls _ _ (by omega) (by omega) Z hl0
    · exact absurd (if_f c3 h) (by simp)
set_option maxHeartbeats 4000000 in
set_option maxRecDepth 100000 in
theorem law_told {p : Program} {l : Launch} {e : Env} {s : State} {m : MethodId} {below : List Frame} {meth : Method} {c : Code} {H : Heap} {locs : List Loc} {cells slots : Nat} {Q : State → Prop} {N b L i : Nat} {ls : Array Slot} {D : va_G} {dA : Nat → ClassId} {tx : Nat → Nat} {cL : ClassId} {z z1 : lS} {xs : Nat → Int32} (F : lF l s N D dA tx cL) (S : CallFix p m c cL_law 8 s #[.ref b] aBig RL) (hX : va_X b L xs s s.heap) (hbl : b < s.heap.size) (hL : L ≤ 321) (hi : i + 5 ≤ L) (Z : lH N D dA cL s z H locs) (hl : lv_has ls 8 (lLs N s b i)) (hf : cells + 3 ≤ 600128 ∧ slots + 18 ≤ 7301064) (h : s_told N z (xs (i + 1)) = some z1) (kk : lKK p l e s m below meth c b N D dA cL Q i z1 cells slots) : W p l e room_1 s m #[.ref b] below meth c H locs cells slots Q (F0 m 1658 ls []) := by
  obtain ⟨hx, hb, -, hown, hts⟩ := id S
  have hst := F.1
  have hN := F.2.1
  unfold s_told at h
  obtain ⟨r, h1, h⟩ := o1_e h
  obtain ⟨v, Mr, h2, h⟩ := ob_e h
  obtain ⟨t, h3, h⟩ := o1_e h
  refine lv_aload_n hx hb dL_law_1658 rfl (lv_at hl 1 rfl) ?_
  refine a_arg hX hbl Z hx hb 1 hL (by omega) (by decide) (lv_at hl 0 rfl) (lv_at hl 4 rfl) dL_law_1659 dL_law_1660 dL_law_1662 dL_law_1663 dL_law_1664 ?_
  refine lv_aload_n hx hb dL_law_1665 rfl (lv_at hl 3 rfl) ?_
  refine a_wrap (As := [.ref (cAd N s.heap.size (0, 0, 0)), .int (xs (i + 1)), .ref (lQo N s)]) (rest := []) F Z S (t_L_told l hst N D dA _ (cJ hN.1 hN.2) tx _ cL _ (l_qo F Z.2.2.2.2) z.2.2 h1) (vx_cwSW 3 hts (aGS (bs := lBig) (fun w h => a_l h) (aB 65 rfl) (aB 108 rfl) (aB 115 rfl) (aB 109 rfl)) rfl rfl rfl (by decide +kernel) ⟨Nat.le_of_ble_eq_true rfl, Nat.le_of_ble_eq_true rfl⟩) rfl hl.1 rfl (Nat.le_of_ble_eq_true rfl) dL_law_1666 ⟨by show cells + 1 ≤ 600128; omega, by show slots + 6 ≤ 7301064; omega⟩ (fun H locs Z => ?_)
  refine lv_istore (lv' := (5, .int r.1) :: lLs N s b i) hx hb dL_law_1669 hl (by decide) rfl (fun ls hl => ?_)
  refine lv_aload_n hx hb dL_law_1671 rfl (lv_at hl 3 rfl) ?_
  refine a_arg hX hbl Z hx hb 1 hL (by omega) (by decide) (lv_at hl 1 rfl) (lv_at hl 5 rfl) dL_law_1672 dL_law_1673 dL_law_1675 dL_law_1676 dL_law_1677 ?_
  refine a_refI (As := [.int (xs (i + 1))]) (rest := []) (cells := cells + 1) (slots := slots + 6) F Z S (t_X11_told l D dA _ (mJ _) h2) (cwV 1 hts (aGV (aB 67 rfl) (aB 379 rfl) (aB 380 rfl) (aB 113 rfl) (aB 381 rfl)) rfl rfl rfl (by decide +kernel) ⟨Nat.le_of_ble_eq_true rfl, Nat.le_of_ble_eq_true rfl⟩) rfl hl.1 rfl (Nat.le_of_ble_eq_true rfl) dL_law_1678 ⟨by show cells + 1 ≤ 600128; omega, by show slots + 6 ≤ 7301064; omega⟩ (fun H locs Z => ?_)
  refine lv_istore (lv' := (6, .int v) :: (5, .int r.1) :: lLs N s b i) hx hb dL_law_1681 hl (by decide) rfl (fun ls hl => ?_)
  refine lv_aload_n hx hb dL_law_1683 rfl (lv_at hl 4 rfl) ?_
  refine a_refI (As := []) (rest := []) (cells := cells + 1) (slots := slots + 6) F Z S (t_X11_thrown l D dA _ (mJ _) h3) (cwV 0 hts (aGV (aB 9 rfl) (aB 135 rfl) (aB 136 rfl) (aB 113 rfl) (aB 137 rfl)) rfl rfl rfl (by decide +kernel) ⟨Nat.le_of_ble_eq_true rfl, Nat.le_of_ble_eq_true rfl⟩) rfl hl.1 rfl (Nat.le_of_ble_eq_true rfl) dL_law_1684 ⟨by show cells + 1 ≤ 600128; omega, by show slots + 6 ≤ 7301064; omega⟩ (fun H locs Z => ?_)
  refine lv_iload hx hb dL_law_1687 (lv_at hl 1 rfl) ?_
  unfold lEnd at h
  refine lv_icmp_eq (tgt := 1694) hx hb dL_law_1689 (by decide) (fun c1 => ?_) (fun c1 => absurd (if_f c1 h) (by simp))
  have h := if_t c1 h
  have hl0 : lv_has ls 8 (lLs N s b i) := lv_sbs hl (fun q hq => List.mem_cons_of_mem _ (List.mem_cons_of_mem _ hq))
  refine lv_iload hx hb dL_law_1694 (lv_at hl 1 rfl) ?_
  refine lv_if_ne (tgt := 1711) hx hb dL_law_1696 (by decide) (fun c2 => ?_) (fun c2 => ?_)
  · have h := Option.some.inj (if_f c2 h)
    subst h
    refine lv_goto (tgt := 1714) hx hb dL_law_1711 (by decide) ?_
    exact kk H locs ls _ _ (by omega) (by omega) Z hl0
  · have h := if_t c2 h
    refine lv_aload_n hx hb dL_law_1699 rfl (lv_at hl 5 rfl) ?_
    refine lv_iconst (v := (0 : Int32)) hx hb dL_law_1700 (by decide) ?_
    refine a_lald F Z hx hb dL_law_1701 ?_
    refine lv_iload hx hb dL_law_1702 (lv_at hl 0 rfl) ?_
    refine lv_i2l hx hb dL_law_1704 rfl ?_
    by_cases c3 : r.2.1 = v.toInt64
    · have h := Option.some.inj (if_t c3 h)
      subst h
      refine W.lcmp hx hb dL_law_1705 ?_
      refine lv_if_eq (tgt := 1711) hx hb dL_law_1706 (by decide) (fun c4 => ?_) (fun c4 => absurd (by show lg_cmp r.2.1 v.toInt64 = 0; rw [← c3]; exact lg_cmp_z _) c4)
      refine lv_goto (tgt := 1714) hx hb dL_law_1711 (by decide) ?_
      exact kk H locs ls _ _ (by omega) (by omega) Z hl0
    · exact absurd (if_f c3 h) (by simp)
