-- X11_mergeOne (I)V: 115 instructions
theorem dX11_mergeOne_0 : decode cX11_mergeOne 0 = .ok (.iconst 0, 1) := by decide +kernel
theorem dX11_mergeOne_1 : decode cX11_mergeOne 1 = .ok (.istore_n 2, 1) := by decide +kernel
theorem dX11_mergeOne_2 : decode cX11_mergeOne 2 = .ok (.iload_n 2, 1) := by decide +kernel
theorem dX11_mergeOne_3 : decode cX11_mergeOne 3 = .ok (.aload_n 0, 1) := by decide +kernel
theorem dX11_mergeOne_4 : decode cX11_mergeOne 4 = .ok (.getfield 155, 3) := by decide +kernel
theorem dX11_mergeOne_7 : decode cX11_mergeOne 7 = .ok (.if_icmp .ge 184, 3) := by decide +kernel
theorem dX11_mergeOne_10 : decode cX11_mergeOne 10 = .ok (.bipush 48, 2) := by decide +kernel
theorem dX11_mergeOne_12 : decode cX11_mergeOne 12 = .ok (.iload_n 2, 1) := by decide +kernel
theorem dX11_mergeOne_13 : decode cX11_mergeOne 13 = .ok (.imul, 1) := by decide +kernel
theorem dX11_mergeOne_14 : decode cX11_mergeOne 14 = .ok (.iload_n 1, 1) := by decide +kernel
theorem dX11_mergeOne_15 : decode cX11_mergeOne 15 = .ok (.iadd, 1) := by decide +kernel
theorem dX11_mergeOne_16 : decode cX11_mergeOne 16 = .ok (.istore_n 3, 1) := by decide +kernel
theorem dX11_mergeOne_17 : decode cX11_mergeOne 17 = .ok (.aload_n 0, 1) := by decide +kernel
theorem dX11_mergeOne_18 : decode cX11_mergeOne 18 = .ok (.iload_n 2, 1) := by decide +kernel
theorem dX11_mergeOne_19 : decode cX11_mergeOne 19 = .ok (.invokevirtual 406, 3) := by decide +kernel
theorem dX11_mergeOne_22 : decode cX11_mergeOne 22 = .ok (.ifCond .eq 163, 3) := by decide +kernel
theorem dX11_mergeOne_25 : decode cX11_mergeOne 25 = .ok (.aload_n 0, 1) := by decide +kernel
theorem dX11_mergeOne_26 : decode cX11_mergeOne 26 = .ok (.getfield 32, 3) := by decide +kernel
theorem dX11_mergeOne_29 : decode cX11_mergeOne 29 = .ok (.iload_n 3, 1) := by decide +kernel
theorem dX11_mergeOne_30 : decode cX11_mergeOne 30 = .ok (.baload, 1) := by decide +kernel
theorem dX11_mergeOne_31 : decode cX11_mergeOne 31 = .ok (.ifCond .eq 46, 3) := by decide +kernel
theorem dX11_mergeOne_34 : decode cX11_mergeOne 34 = .ok (.aload_n 0, 1) := by decide +kernel
theorem dX11_mergeOne_35 : decode cX11_mergeOne 35 = .ok (.getfield 44, 3) := by decide +kernel
theorem dX11_mergeOne_38 : decode cX11_mergeOne 38 = .ok (.iload_n 3, 1) := by decide +kernel
theorem dX11_mergeOne_39 : decode cX11_mergeOne 39 = .ok (.iaload, 1) := by decide +kernel
theorem dX11_mergeOne_40 : decode cX11_mergeOne 40 = .ok (.ifCond .ne 37, 3) := by decide +kernel
theorem dX11_mergeOne_43 : decode cX11_mergeOne 43 = .ok (.aload_n 0, 1) := by decide +kernel
theorem dX11_mergeOne_44 : decode cX11_mergeOne 44 = .ok (.getfield 35, 3) := by decide +kernel
theorem dX11_mergeOne_47 : decode cX11_mergeOne 47 = .ok (.iload_n 3, 1) := by decide +kernel
theorem dX11_mergeOne_48 : decode cX11_mergeOne 48 = .ok (.iaload, 1) := by decide +kernel
theorem dX11_mergeOne_49 : decode cX11_mergeOne 49 = .ok (.aload_n 0, 1) := by decide +kernel
theorem dX11_mergeOne_50 : decode cX11_mergeOne 50 = .ok (.getfield 143, 3) := by decide +kernel
theorem dX11_mergeOne_53 : decode cX11_mergeOne 53 = .ok (.iconst 0, 1) := by decide +kernel
theorem dX11_mergeOne_54 : decode cX11_mergeOne 54 = .ok (.iaload, 1) := by decide +kernel
theorem dX11_mergeOne_55 : decode cX11_mergeOne 55 = .ok (.if_icmp .ne 22, 3) := by decide +kernel
theorem dX11_mergeOne_58 : decode cX11_mergeOne 58 = .ok (.aload_n 0, 1) := by decide +kernel
theorem dX11_mergeOne_59 : decode cX11_mergeOne 59 = .ok (.getfield 38, 3) := by decide +kernel
theorem dX11_mergeOne_62 : decode cX11_mergeOne 62 = .ok (.iload_n 3, 1) := by decide +kernel
theorem dX11_mergeOne_63 : decode cX11_mergeOne 63 = .ok (.iaload, 1) := by decide +kernel
theorem dX11_mergeOne_64 : decode cX11_mergeOne 64 = .ok (.aload_n 0, 1) := by decide +kernel
theorem dX11_mergeOne_65 : decode cX11_mergeOne 65 = .ok (.getfield 146, 3) := by decide +kernel
theorem dX11_mergeOne_68 : decode cX11_mergeOne 68 = .ok (.iconst 0, 1) := by decide +kernel
theorem dX11_mergeOne_69 : decode cX11_mergeOne 69 = .ok (.iaload, 1) := by decide +kernel
theorem dX11_mergeOne_70 : decode cX11_mergeOne 70 = .ok (.if_icmp .ne 7, 3) := by decide +kernel
theorem dX11_mergeOne_73 : decode cX11_mergeOne 73 = .ok (.iconst 1, 1) := by decide +kernel
theorem dX11_mergeOne_74 : decode cX11_mergeOne 74 = .ok (.goto 4, 3) := by decide +kernel
theorem dX11_mergeOne_77 : decode cX11_mergeOne 77 = .ok (.iconst 0, 1) := by decide +kernel
theorem dX11_mergeOne_78 : decode cX11_mergeOne 78 = .ok (.istore 4, 2) := by decide +kernel
theorem dX11_mergeOne_80 : decode cX11_mergeOne 80 = .ok (.iload 4, 2) := by decide +kernel
theorem dX11_mergeOne_82 : decode cX11_mergeOne 82 = .ok (.ifCond .eq 24, 3) := by decide +kernel
theorem dX11_mergeOne_85 : decode cX11_mergeOne 85 = .ok (.aload_n 0, 1) := by decide +kernel
theorem dX11_mergeOne_86 : decode cX11_mergeOne 86 = .ok (.aload_n 0, 1) := by decide +kernel
theorem dX11_mergeOne_87 : decode cX11_mergeOne 87 = .ok (.getfield 41, 3) := by decide +kernel
theorem dX11_mergeOne_90 : decode cX11_mergeOne 90 = .ok (.iload_n 3, 1) := by decide +kernel
theorem dX11_mergeOne_91 : decode cX11_mergeOne 91 = .ok (.aload_n 0, 1) := by decide +kernel
theorem dX11_mergeOne_92 : decode cX11_mergeOne 92 = .ok (.getfield 149, 3) := by decide +kernel
theorem dX11_mergeOne_95 : decode cX11_mergeOne 95 = .ok (.iconst 0, 1) := by decide +kernel
theorem dX11_mergeOne_96 : decode cX11_mergeOne 96 = .ok (.invokevirtual 275, 3) := by decide +kernel
theorem dX11_mergeOne_99 : decode cX11_mergeOne 99 = .ok (.ifCond .eq 7, 3) := by decide +kernel
theorem dX11_mergeOne_102 : decode cX11_mergeOne 102 = .ok (.iconst 1, 1) := by decide +kernel
theorem dX11_mergeOne_103 : decode cX11_mergeOne 103 = .ok (.goto 4, 3) := by decide +kernel
theorem dX11_mergeOne_106 : decode cX11_mergeOne 106 = .ok (.iconst 0, 1) := by decide +kernel
theorem dX11_mergeOne_107 : decode cX11_mergeOne 107 = .ok (.istore 4, 2) := by decide +kernel
theorem dX11_mergeOne_109 : decode cX11_mergeOne 109 = .ok (.iload 4, 2) := by decide +kernel
theorem dX11_mergeOne_111 : decode cX11_mergeOne 111 = .ok (.ifCond .ne 74, 3) := by decide +kernel
theorem dX11_mergeOne_114 : decode cX11_mergeOne 114 = .ok (.aload_n 0, 1) := by decide +kernel
theorem dX11_mergeOne_115 : decode cX11_mergeOne 115 = .ok (.getfield 32, 3) := by decide +kernel
theorem dX11_mergeOne_118 : decode cX11_mergeOne 118 = .ok (.iload_n 3, 1) := by decide +kernel
theorem dX11_mergeOne_119 : decode cX11_mergeOne 119 = .ok (.iconst 1, 1) := by decide +kernel
theorem dX11_mergeOne_120 : decode cX11_mergeOne 120 = .ok (.bastore, 1) := by decide +kernel
theorem dX11_mergeOne_121 : decode cX11_mergeOne 121 = .ok (.aload_n 0, 1) := by decide +kernel
theorem dX11_mergeOne_122 : decode cX11_mergeOne 122 = .ok (.getfield 44, 3) := by decide +kernel
theorem dX11_mergeOne_125 : decode cX11_mergeOne 125 = .ok (.iload_n 3, 1) := by decide +kernel
theorem dX11_mergeOne_126 : decode cX11_mergeOne 126 = .ok (.iconst 0, 1) := by decide +kernel
theorem dX11_mergeOne_127 : decode cX11_mergeOne 127 = .ok (.iastore, 1) := by decide +kernel
theorem dX11_mergeOne_128 : decode cX11_mergeOne 128 = .ok (.aload_n 0, 1) := by decide +kernel
theorem dX11_mergeOne_129 : decode cX11_mergeOne 129 = .ok (.getfield 35, 3) := by decide +kernel
theorem dX11_mergeOne_132 : decode cX11_mergeOne 132 = .ok (.iload_n 3, 1) := by decide +kernel
theorem dX11_mergeOne_133 : decode cX11_mergeOne 133 = .ok (.aload_n 0, 1) := by decide +kernel
theorem dX11_mergeOne_134 : decode cX11_mergeOne 134 = .ok (.getfield 143, 3) := by decide +kernel
theorem dX11_mergeOne_137 : decode cX11_mergeOne 137 = .ok (.iconst 0, 1) := by decide +kernel
theorem dX11_mergeOne_138 : decode cX11_mergeOne 138 = .ok (.iaload, 1) := by decide +kernel
theorem dX11_mergeOne_139 : decode cX11_mergeOne 139 = .ok (.iastore, 1) := by decide +kernel
theorem dX11_mergeOne_140 : decode cX11_mergeOne 140 = .ok (.aload_n 0, 1) := by decide +kernel
theorem dX11_mergeOne_141 : decode cX11_mergeOne 141 = .ok (.getfield 38, 3) := by decide +kernel
theorem dX11_mergeOne_144 : decode cX11_mergeOne 144 = .ok (.iload_n 3, 1) := by decide +kernel
theorem dX11_mergeOne_145 : decode cX11_mergeOne 145 = .ok (.aload_n 0, 1) := by decide +kernel
theorem dX11_mergeOne_146 : decode cX11_mergeOne 146 = .ok (.getfield 146, 3) := by decide +kernel
theorem dX11_mergeOne_149 : decode cX11_mergeOne 149 = .ok (.iconst 0, 1) := by decide +kernel
theorem dX11_mergeOne_150 : decode cX11_mergeOne 150 = .ok (.iaload, 1) := by decide +kernel
theorem dX11_mergeOne_151 : decode cX11_mergeOne 151 = .ok (.iastore, 1) := by decide +kernel
theorem dX11_mergeOne_152 : decode cX11_mergeOne 152 = .ok (.aload_n 0, 1) := by decide +kernel
theorem dX11_mergeOne_153 : decode cX11_mergeOne 153 = .ok (.aload_n 0, 1) := by decide +kernel
theorem dX11_mergeOne_154 : decode cX11_mergeOne 154 = .ok (.getfield 149, 3) := by decide +kernel
theorem dX11_mergeOne_157 : decode cX11_mergeOne 157 = .ok (.iconst 0, 1) := by decide +kernel
theorem dX11_mergeOne_158 : decode cX11_mergeOne 158 = .ok (.aload_n 0, 1) := by decide +kernel
theorem dX11_mergeOne_159 : decode cX11_mergeOne 159 = .ok (.getfield 41, 3) := by decide +kernel
theorem dX11_mergeOne_162 : decode cX11_mergeOne 162 = .ok (.iload_n 3, 1) := by decide +kernel
theorem dX11_mergeOne_163 : decode cX11_mergeOne 163 = .ok (.invokevirtual 234, 3) := by decide +kernel
theorem dX11_mergeOne_166 : decode cX11_mergeOne 166 = .ok (.aload_n 0, 1) := by decide +kernel
theorem dX11_mergeOne_167 : decode cX11_mergeOne 167 = .ok (.dup, 1) := by decide +kernel
theorem dX11_mergeOne_168 : decode cX11_mergeOne 168 = .ok (.getfield 400, 3) := by decide +kernel
theorem dX11_mergeOne_171 : decode cX11_mergeOne 171 = .ok (.iconst 1, 1) := by decide +kernel
theorem dX11_mergeOne_172 : decode cX11_mergeOne 172 = .ok (.iadd, 1) := by decide +kernel
theorem dX11_mergeOne_173 : decode cX11_mergeOne 173 = .ok (.putfield 400, 3) := by decide +kernel
theorem dX11_mergeOne_176 : decode cX11_mergeOne 176 = .ok (.aload_n 0, 1) := by decide +kernel
theorem dX11_mergeOne_177 : decode cX11_mergeOne 177 = .ok (.iload_n 1, 1) := by decide +kernel
theorem dX11_mergeOne_178 : decode cX11_mergeOne 178 = .ok (.iconst 1, 1) := by decide +kernel
theorem dX11_mergeOne_179 : decode cX11_mergeOne 179 = .ok (.iload_n 2, 1) := by decide +kernel
theorem dX11_mergeOne_180 : decode cX11_mergeOne 180 = .ok (.ishl, 1) := by decide +kernel
theorem dX11_mergeOne_181 : decode cX11_mergeOne 181 = .ok (.iconst (-1), 1) := by decide +kernel
theorem dX11_mergeOne_182 : decode cX11_mergeOne 182 = .ok (.invokevirtual 315, 3) := by decide +kernel
theorem dX11_mergeOne_185 : decode cX11_mergeOne 185 = .ok (.iinc 2 1, 3) := by decide +kernel
theorem dX11_mergeOne_188 : decode cX11_mergeOne 188 = .ok (.goto (-186), 3) := by decide +kernel
theorem dX11_mergeOne_191 : decode cX11_mergeOne 191 = .ok (.return_, 1) := by decide +kernel
abbrev wmX11_mergeOne : List Cond := .code yX11_mergeOne cX11_mergeOne 5 none :: mBig
def f_X11_mergeOne_L2 (a1 : Int32) : Nat → Int32 → gM → Option gM
  | 0, _, _ => none
  | n3 + 1, x1, M2 => lt (M2 m_o 0) (fun v4 => (if v4 ≤ x1 then some M2 else lt ((((48 : Int32) * x1) + a1)) (fun x6 => o1 (f_X11_isOf M2 x1) (fun v8 => jn (fun (M9 : gM) => lt (x1 + 1) (fun x10 => f_X11_mergeOne_L2 a1 n3 x10 M9)) (fun J185 => (if v8 = 0 then J185 M2 else rd M2 m_has 192 x6 (fun v12 => jn (fun (q : (Int32 × gM)) => match q with | (b13, M14) => jn (fun (q : (Int32 × gM)) => match q with | (b15, M16) => (if b15 = 0 then wz M16 m_has 192 x6 (1 : Int32) (fun M18 => wr M18 m_versions 192 x6 (0 : Int32) (fun M19 => rd M19 m_candidateValue 24 (0 : Int32) (fun v20 => wr M19 m_value 192 x6 v20 (fun M21 => rd M21 m_candidateSize 24 (0 : Int32) (fun v22 => wr M21 m_size 192 x6 v22 (fun M23 => o1 (f_X11_copyTo M23 m_candidateVector (0 : Int32) m_vector x6) (fun M25 => lt (M25 m_o 55) (fun v26 => lt (gset M25 m_o 55 (v26 + (1 : Int32))) (fun M27 => o1 (f_X11_endPromises M27 a1 ((1 : Int32) <<< (x1 &&& 31)) (-1 : Int32)) (fun M29 => J185 M29)))))))))) else J185 M16)) (fun J107 => jn (fun (M30 : gM) => J107 ((0 : Int32), M30)) (fun J106 => (if b13 = 0 then J106 M14 else o1 (f_X11_isSame M14 m_vector x6 m_candidateVector (0 : Int32)) (fun v33 => (if v33 = 0 then J106 M14 else J107 ((1 : Int32), M14))))))) (fun J78 => jn (fun (M35 : gM) => J78 ((0 : Int32), M35)) (fun J77 => (if v12 = 0 then J77 M2 else rd M2 m_versions 192 x6 (fun v37 => (if v37 = 0 then rd M2 m_value 192 x6 (fun v39 => rd M2 m_candidateValue 24 (0 : Int32) (fun v40 => (if v39 = v40 then rd M2 m_size 192 x6 (fun v42 => rd M2 m_candidateSize 24 (0 : Int32) (fun v43 => (if v42 = v43 then J78 ((1 : Int32), M2) else J77 M2))) else J77 M2))) else J77 M2))))))))))))
def f_X11_mergeOne (M : gM) (a1 : Int32) : Option gM :=
  f_X11_mergeOne_L2 a1 100 (0 : Int32) M
set_option maxHeartbeats 4000000 in
set_option maxRecDepth 100000 in
theorem t_X11_mergeOne (l : Launch) (D : va_G) (dA : Nat → ClassId) (A : gI → Nat) (hJ : gJ mLive A) {M : gM} {a1 : Int32}  {y : gM} (h : f_X11_mergeOne M a1 = some y) : mMv l yX11_mergeOne wmX11_mergeOne ({ frames := 1, cells := 0, slots := 0, locals := 25 } : Room) D dA A [.ref (A m_o), .int a1] M y := by
  refine Met.ofW (cc := cX11_mergeOne) (maxL := 5) (ret := none) (by decide) rfl ?_
  intro p e s m args below meth c s₁ B hml hv
  obtain ⟨rfl, hP, hK⟩ := hv
  generalize hargs : ([.ref (A m_o), .int a1] : List Value).toArray = args at B ⊢
  have S : CallFix p m c cX11_mergeOne 5 s args wmX11_mergeOne RX11 := ⟨B.exec, B.bytes, hml, findClass_of_methodNamed B.named, atoms_spec (ws := wmX11_mergeOne) B.pre⟩
  obtain ⟨hx, hb, -, hown, hts⟩ := id S
  have hr := B.returns
  have hlocks := B.notSynchronized
  have X : gX D vwCl dA mLive A (gA mLive A) s := ⟨hK, hJ, fun i hi => ⟨i, hi, rfl⟩⟩
  have Z : gZ D mLay dA mLive A (gA mLive A) s.heap M s.heap [] := ⟨hP, va_S.rf⟩
  have hin : ∀ w ∈ wsX110, w ∈ wmX11_mergeOne := m_in
  have hl_32 := hts (.fieldLink RX11 32 "ReplicaFilesModel" "has" "[Z") (mBc 12 rfl)
  have hl_35 := hts (.fieldLink RX11 35 "ReplicaFilesModel" "value" "[I") (mBc 13 rfl)
  have hl_38 := hts (.fieldLink RX11 38 "ReplicaFilesModel" "size" "[I") (mBc 14 rfl)
  have hl_41 := hts (.fieldLink RX11 41 "ReplicaFilesModel" "vector" "[I") (mBc 15 rfl)
  have hl_44 := hts (.fieldLink RX11 44 "ReplicaFilesModel" "versions" "[I") (mBc 16 rfl)
  have hl_143 := hts (.fieldLink RX11 143 "ReplicaFilesModel" "candidateValue" "[I") (mBc 49 rfl)
  have hl_146 := hts (.fieldLink RX11 146 "ReplicaFilesModel" "candidateSize" "[I") (mBc 50 rfl)
  have hl_149 := hts (.fieldLink RX11 149 "ReplicaFilesModel" "candidateVector" "[I") (mBc 51 rfl)
  have hl_155 := hts (.fieldLink RX11 155 "ReplicaFilesModel" "servers" "I") (mBc 53 rfl)
  have hl_400 := hts (.fieldLink RX11 400 "ReplicaFilesModel" "changes" "I") (mBc 292 rfl)
  have hl := lv_entry ([.ref (A m_o), .int a1]) (n := 5) (Nat.le_of_ble_eq_true rfl)
  rw [← hargs, lg_entry_eq, hargs]
  generalize (lg_sl ([.ref (A m_o), .int a1]) ++ List.replicate (5 - (lg_sl ([.ref (A m_o), .int a1])).length) Slot.unset).toArray = ls at hl ⊢
  have hl : lv_has ls 5 [(0, .ref (A m_o)), (1, .int a1)] := hl
  unfold f_X11_mergeOne at h
  refine lv_iconst (v := (0 : Int32)) hx hb dX11_mergeOne_0 (by decide) ?_
  refine lv_istore_n (lv' := [(2, .int (0 : Int32)), (0, .ref (A m_o)), (1, .int a1)]) hx hb dX11_mergeOne_1 rfl hl (by decide) rfl (fun ls hl => ?_)
  have hL2 : ∀ (n : Nat) (x1 : Int32) (M2 : gM) (H : Heap) (locs : List Loc) (ls : Array Slot), gZ D mLay dA mLive A (gA mLive A) s.heap M2 H locs → lv_has ls 5 [(0, .ref (A m_o)), (1, .int a1), (2, .int x1)] → f_X11_mergeOne_L2 a1 n x1 M2 = some y → W p l e (headSpec wmX11_mergeOne ({ frames := 1, cells := 0, slots := 0, locals := 25 } : Room)).room s m args below meth c H locs 0 0 (MQ below (mQv D dA A y) args s 0 0 (gA mLive A)) (F0 m 2 ls []) := by
    intro n
    induction n with
    | zero =>
      intro x1 M2 H locs ls Z hl h
      rw [f_X11_mergeOne_L2] at h
      cases h
    | succ n3 ih2 =>
      intro x1 M2 H locs ls Z hl h
      rw [f_X11_mergeOne_L2] at h
      refine lv_iload_n hx hb dX11_mergeOne_2 rfl (lv_at hl 2 rfl) ?_
      refine lv_aload_n hx hb dX11_mergeOne_3 rfl (lv_at hl 0 rfl) ?_
      refine mr_servers S X Z hin hl_155 dX11_mergeOne_4 h (fun v4 h => ?_)
      refine lv_icmp_ge (tgt := 191) hx hb dX11_mergeOne_7 (by decide) (fun c5 => ?_) (fun c5 => ?_)
      · have h := if_t c5 h
        have hy := Option.some.inj h
        subst hy
        exact g_rv S Z hr hlocks dX11_mergeOne_191
      · have h := if_f c5 h
        refine lv_bipush (v := (48 : Int32)) hx hb dX11_mergeOne_10 (by decide) ?_
        refine lv_iload_n hx hb dX11_mergeOne_12 rfl (lv_at hl 2 rfl) ?_
        refine lv_imul hx hb dX11_mergeOne_13 ?_
        refine lv_iload_n hx hb dX11_mergeOne_14 rfl (lv_at hl 1 rfl) ?_
        refine lv_iadd hx hb dX11_mergeOne_15 ?_
        refine g_topi h (fun x6 h => ?_)
        refine lv_istore_n (lv' := [(3, .int x6), (0, .ref (A m_o)), (1, .int a1), (2, .int x1)]) hx hb dX11_mergeOne_16 rfl hl (by decide) rfl (fun ls hl => ?_)
        refine lv_aload_n hx hb dX11_mergeOne_17 rfl (lv_at hl 1 rfl) ?_
        refine lv_iload_n hx hb dX11_mergeOne_18 rfl (lv_at hl 3 rfl) ?_
        obtain ⟨v8, hc7, h⟩ := o1_e h
        refine g_Vi (As := [.int x1]) (rest := []) S X Z mlv_o rfl rfl (t_X11_isOf l D dA A hJ  hc7) (cwV 1 hts (mGV (mB 293 rfl) (mB 294 rfl) (mB 295 rfl) (mB 63 rfl) (mB 290 rfl)) rfl rfl rfl (by decide +kernel) ⟨Nat.le_of_ble_eq_true rfl, Nat.le_of_ble_eq_true rfl⟩) rfl hl.1 rfl (Nat.le_of_ble_eq_true rfl) dX11_mergeOne_19 ⟨Nat.zero_le _, Nat.zero_le _⟩ (fun H locs Z => ?_)
        obtain ⟨J185, eJ185, h⟩ := jn_e h
        have hJ185 : ∀ (M9 : gM) (H : Heap) (locs : List Loc) (ls : Array Slot), gZ D mLay dA mLive A (gA mLive A) s.heap M9 H locs → lv_has ls 5 [(0, .ref (A m_o)), (1, .int a1), (2, .int x1)] → J185 M9 = some y → W p l e (headSpec wmX11_mergeOne ({ frames := 1, cells := 0, slots := 0, locals := 25 } : Room)).room s m args below meth c H locs 0 0 (MQ below (mQv D dA A y) args s 0 0 (gA mLive A)) (F0 m 185 ls []) := by
          intro M9 H locs ls Z hl h
          rw [eJ185] at h
          try dsimp only at h
          obtain ⟨x10, ex10, h⟩ := lt_e h
          refine lv_iinc (v := x10) (lv' := [(2, .int x10), (0, .ref (A m_o)), (1, .int a1)]) hx hb dX11_mergeOne_185 hl (k := 2) rfl (by rw [ex10]; rfl) (by decide) rfl (fun ls hl => ?_)
          refine lv_goto (tgt := 2) hx hb dX11_mergeOne_188 (by decide) ?_
          exact ih2 x10 M9 _ _ _ Z (lv_sub hl [1, 2, 0] rfl) h
        refine lv_if_eq (tgt := 185) hx hb dX11_mergeOne_22 (by decide) (fun c11 => ?_) (fun c11 => ?_)
        · have h := if_t c11 h
          exact hJ185 M2 _ _ _ Z (lv_sub hl [1, 2, 3] rfl) h
        · have h := if_f c11 h
          refine lv_aload_n hx hb dX11_mergeOne_25 rfl (lv_at hl 1 rfl) ?_
          refine mr_has S X Z hin hl_32 dX11_mergeOne_26 ?_
          refine lv_iload_n hx hb dX11_mergeOne_29 rfl (lv_at hl 0 rfl) ?_
          refine g_zald S X Z ml_has rfl dX11_mergeOne_30 h (fun v12 h => ?_)
          obtain ⟨J78, eJ78, h⟩ := jn_e h
          have hJ78 : ∀ (b13 : Int32) (M14 : gM) (H : Heap) (locs : List Loc) (ls : Array Slot), gZ D mLay dA mLive A (gA mLive A) s.heap M14 H locs → lv_has ls 5 [(0, .ref (A m_o)), (1, .int a1), (2, .int x1), (3, .int x6)] → J78 (b13, M14) = some y → W p l e (headSpec wmX11_mergeOne ({ frames := 1, cells := 0, slots := 0, locals := 25 } : Room)).room s m args below meth c H locs 0 0 (MQ below (mQv D dA A y) args s 0 0 (gA mLive A)) (F0 m 78 ls [.int b13]) := by
            intro b13 M14 H locs ls Z hl h
            rw [eJ78] at h
            try dsimp only at h
            refine lv_istore (lv' := [(4, .int b13), (0, .ref (A m_o)), (1, .int a1), (2, .int x1), (3, .int x6)]) hx hb dX11_mergeOne_78 hl (by decide) rfl (fun ls hl => ?_)
            refine lv_iload hx hb dX11_mergeOne_80 (lv_at hl 0 rfl) ?_
            obtain ⟨J107, eJ107, h⟩ := jn_e h
            have hJ107 : ∀ (b15 : Int32) (M16 : gM) (H : Heap) (locs : List Loc) (ls : Array Slot), gZ D mLay dA mLive A (gA mLive A) s.heap M16 H locs → lv_has ls 5 [(0, .ref (A m_o)), (1, .int a1), (2, .int x1), (3, .int x6)] → J107 (b15, M16) = some y → W p l e (headSpec wmX11_mergeOne ({ frames := 1, cells := 0, slots := 0, locals := 25 } : Room)).room s m args below meth c H locs 0 0 (MQ below (mQv D dA A y) args s 0 0 (gA mLive A)) (F0 m 107 ls [.int b15]) := by
              intro b15 M16 H locs ls Z hl h
              rw [eJ107] at h
              try dsimp only at h
              refine lv_istore (lv' := [(4, .int b15), (0, .ref (A m_o)), (1, .int a1), (2, .int x1), (3, .int x6)]) hx hb dX11_mergeOne_107 hl (by decide) rfl (fun ls hl => ?_)
              refine lv_iload hx hb dX11_mergeOne_109 (lv_at hl 0 rfl) ?_
              refine lv_if_ne (tgt := 185) hx hb dX11_mergeOne_111 (by decide) (fun c17 => ?_) (fun c17 => ?_)
              · have h := if_f c17 h
                exact hJ185 M16 _ _ _ Z (lv_sub hl [1, 2, 3] rfl) h
              · have h := if_t c17 h
                refine lv_aload_n hx hb dX11_mergeOne_114 rfl (lv_at hl 1 rfl) ?_
                refine mr_has S X Z hin hl_32 dX11_mergeOne_115 ?_
                refine lv_iload_n hx hb dX11_mergeOne_118 rfl (lv_at hl 4 rfl) ?_
                refine lv_iconst (v := (1 : Int32)) hx hb dX11_mergeOne_119 (by decide) ?_
                refine g_zast S X Z ml_has rfl dX11_mergeOne_120 h (fun M18 H locs Z h => ?_)
                refine lv_aload_n hx hb dX11_mergeOne_121 rfl (lv_at hl 1 rfl) ?_
                refine mr_versions S X Z hin hl_44 dX11_mergeOne_122 ?_
                refine lv_iload_n hx hb dX11_mergeOne_125 rfl (lv_at hl 4 rfl) ?_
                refine lv_iconst (v := (0 : Int32)) hx hb dX11_mergeOne_126 (by decide) ?_
                refine g_iast S X Z ml_versions rfl dX11_mergeOne_127 h (fun M19 H locs Z h => ?_)
                refine lv_aload_n hx hb dX11_mergeOne_128 rfl (lv_at hl 1 rfl) ?_
                refine mr_value S X Z hin hl_35 dX11_mergeOne_129 ?_
                refine lv_iload_n hx hb dX11_mergeOne_132 rfl (lv_at hl 4 rfl) ?_
                refine lv_aload_n hx hb dX11_mergeOne_133 rfl (lv_at hl 1 rfl) ?_
                refine mr_candidateValue S X Z hin hl_143 dX11_mergeOne_134 ?_
                refine lv_iconst (v := (0 : Int32)) hx hb dX11_mergeOne_137 (by decide) ?_
                refine g_iald S X Z ml_candidateValue rfl dX11_mergeOne_138 h (fun v20 h => ?_)
                refine g_iast S X Z ml_value rfl dX11_mergeOne_139 h (fun M21 H locs Z h => ?_)
                refine lv_aload_n hx hb dX11_mergeOne_140 rfl (lv_at hl 1 rfl) ?_
                refine mr_size S X Z hin hl_38 dX11_mergeOne_141 ?_
                refine lv_iload_n hx hb dX11_mergeOne_144 rfl (lv_at hl 4 rfl) ?_
                refine lv_aload_n hx hb dX11_mergeOne_145 rfl (lv_at hl 1 rfl) ?_
                refine mr_candidateSize S X Z hin hl_146 dX11_mergeOne_146 ?_
                refine lv_iconst (v := (0 : Int32)) hx hb dX11_mergeOne_149 (by decide) ?_
                refine g_iald S X Z ml_candidateSize rfl dX11_mergeOne_150 h (fun v22 h => ?_)
                refine g_iast S X Z ml_size rfl dX11_mergeOne_151 h (fun M23 H locs Z h => ?_)
                refine lv_aload_n hx hb dX11_mergeOne_152 rfl (lv_at hl 1 rfl) ?_
                refine lv_aload_n hx hb dX11_mergeOne_153 rfl (lv_at hl 1 rfl) ?_
                refine mr_candidateVector S X Z hin hl_149 dX11_mergeOne_154 ?_
                refine lv_iconst (v := (0 : Int32)) hx hb dX11_mergeOne_157 (by decide) ?_
                refine lv_aload_n hx hb dX11_mergeOne_158 rfl (lv_at hl 1 rfl) ?_
                refine mr_vector S X Z hin hl_41 dX11_mergeOne_159 ?_
                refine lv_iload_n hx hb dX11_mergeOne_162 rfl (lv_at hl 4 rfl) ?_
                obtain ⟨M25, hc24, h⟩ := o1_e h
                refine g_Vv (As := [.ref (A m_candidateVector), .int (0 : Int32), .ref (A m_vector), .int x6]) (rest := []) S X Z mlv_o rfl rfl (t_X11_copyTo l D dA A hJ ⟨ml_candidateVector, rfl⟩ ⟨ml_vector, rfl⟩ hc24) (cwV 4 hts (mGV (mB 139 rfl) (mB 140 rfl) (mB 141 rfl) (mB 63 rfl) (mB 97 rfl)) rfl rfl rfl (by decide +kernel) ⟨Nat.le_of_ble_eq_true rfl, Nat.le_of_ble_eq_true rfl⟩) rfl hl.1 rfl (Nat.le_of_ble_eq_true rfl) dX11_mergeOne_163 ⟨Nat.zero_le _, Nat.zero_le _⟩ (fun H locs Z => ?_)
                refine lv_aload_n hx hb dX11_mergeOne_166 rfl (lv_at hl 1 rfl) ?_
                refine lv_dup hx hb dX11_mergeOne_167 rfl ?_
                refine mr_changes S X Z hin hl_400 dX11_mergeOne_168 h (fun v26 h => ?_)
                refine lv_iconst (v := (1 : Int32)) hx hb dX11_mergeOne_171 (by decide) ?_
                refine lv_iadd hx hb dX11_mergeOne_172 ?_
                refine mp_changes S X Z hin hl_400 dX11_mergeOne_173 h (fun M27 H locs Z h => ?_)
                refine lv_aload_n hx hb dX11_mergeOne_176 rfl (lv_at hl 1 rfl) ?_
                refine lv_iload_n hx hb dX11_mergeOne_177 rfl (lv_at hl 2 rfl) ?_
                refine lv_iconst (v := (1 : Int32)) hx hb dX11_mergeOne_178 (by decide) ?_
                refine lv_iload_n hx hb dX11_mergeOne_179 rfl (lv_at hl 3 rfl) ?_
                refine lv_ishl hx hb dX11_mergeOne_180 ?_
                refine lv_iconst (v := (-1 : Int32)) hx hb dX11_mergeOne_181 (by decide) ?_
                obtain ⟨M29, hc28, h⟩ := o1_e h
                refine g_Vv (As := [.int a1, .int ((1 : Int32) <<< (x1 &&& 31)), .int (-1 : Int32)]) (rest := []) S X Z mlv_o rfl rfl (t_X11_endPromises l D dA A hJ  hc28) (cwV 3 hts (mGV (mB 211 rfl) (mB 212 rfl) (mB 213 rfl) (mB 63 rfl) (mB 196 rfl)) rfl rfl rfl (by decide +kernel) ⟨Nat.le_of_ble_eq_true rfl, Nat.le_of_ble_eq_true rfl⟩) rfl hl.1 rfl (Nat.le_of_ble_eq_true rfl) dX11_mergeOne_182 ⟨Nat.zero_le _, Nat.zero_le _⟩ (fun H locs Z => ?_)
                exact hJ185 M29 _ _ _ Z (lv_sub hl [1, 2, 3] rfl) h
            obtain ⟨J106, eJ106, h⟩ := jn_e h
            have hJ106 : ∀ (M30 : gM) (H : Heap) (locs : List Loc) (ls : Array Slot), gZ D mLay dA mLive A (gA mLive A) s.heap M30 H locs → lv_has ls 5 [(0, .ref (A m_o)), (1, .int a1), (2, .int x1), (3, .int x6)] → J106 M30 = some y → W p l e (headSpec wmX11_mergeOne ({ frames := 1, cells := 0, slots := 0, locals := 25 } : Room)).room s m args below meth c H locs 0 0 (MQ below (mQv D dA A y) args s 0 0 (gA mLive A)) (F0 m 106 ls []) := by
              intro M30 H locs ls Z hl h
              rw [eJ106] at h
              try dsimp only at h
              refine lv_iconst (v := (0 : Int32)) hx hb dX11_mergeOne_106 (by decide) ?_
              exact hJ107 (0 : Int32) M30 _ _ _ Z (lv_sub hl [0, 1, 2, 3] rfl) h
            refine lv_if_eq (tgt := 106) hx hb dX11_mergeOne_82 (by decide) (fun c31 => ?_) (fun c31 => ?_)
            · have h := if_t c31 h
              exact hJ106 M14 _ _ _ Z (lv_sub hl [1, 2, 3, 4] rfl) h
            · have h := if_f c31 h
              refine lv_aload_n hx hb dX11_mergeOne_85 rfl (lv_at hl 1 rfl) ?_
              refine lv_aload_n hx hb dX11_mergeOne_86 rfl (lv_at hl 1 rfl) ?_
              refine mr_vector S X Z hin hl_41 dX11_mergeOne_87 ?_
              refine lv_iload_n hx hb dX11_mergeOne_90 rfl (lv_at hl 4 rfl) ?_
              refine lv_aload_n hx hb dX11_mergeOne_91 rfl (lv_at hl 1 rfl) ?_
              refine mr_candidateVector S X Z hin hl_149 dX11_mergeOne_92 ?_
              refine lv_iconst (v := (0 : Int32)) hx hb dX11_mergeOne_95 (by decide) ?_
              obtain ⟨v33, hc32, h⟩ := o1_e h
              refine g_Vi (As := [.ref (A m_vector), .int x6, .ref (A m_candidateVector), .int (0 : Int32)]) (rest := []) S X Z mlv_o rfl rfl (t_X11_isSame l D dA A hJ ⟨ml_vector, rfl⟩ ⟨ml_candidateVector, rfl⟩ hc32) (cwV 4 hts (mGV (mB 150 rfl) (mB 151 rfl) (mB 152 rfl) (mB 63 rfl) (mB 96 rfl)) rfl rfl rfl (by decide +kernel) ⟨Nat.le_of_ble_eq_true rfl, Nat.le_of_ble_eq_true rfl⟩) rfl hl.1 rfl (Nat.le_of_ble_eq_true rfl) dX11_mergeOne_96 ⟨Nat.zero_le _, Nat.zero_le _⟩ (fun H locs Z => ?_)
              refine lv_if_eq (tgt := 106) hx hb dX11_mergeOne_99 (by decide) (fun c34 => ?_) (fun c34 => ?_)
              · have h := if_t c34 h
                exact hJ106 M14 _ _ _ Z (lv_sub hl [1, 2, 3, 4] rfl) h
              · have h := if_f c34 h
                refine lv_iconst (v := (1 : Int32)) hx hb dX11_mergeOne_102 (by decide) ?_
                refine lv_goto (tgt := 107) hx hb dX11_mergeOne_103 (by decide) ?_
                exact hJ107 (1 : Int32) M14 _ _ _ Z (lv_sub hl [1, 2, 3, 4] rfl) h
          obtain ⟨J77, eJ77, h⟩ := jn_e h
          have hJ77 : ∀ (M35 : gM) (H : Heap) (locs : List Loc) (ls : Array Slot), gZ D mLay dA mLive A (gA mLive A) s.heap M35 H locs → lv_has ls 5 [(0, .ref (A m_o)), (1, .int a1), (2, .int x1), (3, .int x6)] → J77 M35 = some y → W p l e (headSpec wmX11_mergeOne ({ frames := 1, cells := 0, slots := 0, locals := 25 } : Room)).room s m args below meth c H locs 0 0 (MQ below (mQv D dA A y) args s 0 0 (gA mLive A)) (F0 m 77 ls []) := by
            intro M35 H locs ls Z hl h
            rw [eJ77] at h
            try dsimp only at h
            refine lv_iconst (v := (0 : Int32)) hx hb dX11_mergeOne_77 (by decide) ?_
            exact hJ78 (0 : Int32) M35 _ _ _ Z (lv_sub hl [0, 1, 2, 3] rfl) h
          refine lv_if_eq (tgt := 77) hx hb dX11_mergeOne_31 (by decide) (fun c36 => ?_) (fun c36 => ?_)
          · have h := if_t c36 h
            exact hJ77 M2 _ _ _ Z (lv_sub hl [1, 2, 3, 0] rfl) h
          · have h := if_f c36 h
            refine lv_aload_n hx hb dX11_mergeOne_34 rfl (lv_at hl 1 rfl) ?_
            refine mr_versions S X Z hin hl_44 dX11_mergeOne_35 ?_
            refine lv_iload_n hx hb dX11_mergeOne_38 rfl (lv_at hl 0 rfl) ?_
            refine g_iald S X Z ml_versions rfl dX11_mergeOne_39 h (fun v37 h => ?_)
            refine lv_if_ne (tgt := 77) hx hb dX11_mergeOne_40 (by decide) (fun c38 => ?_) (fun c38 => ?_)
            · have h := if_f c38 h
              exact hJ77 M2 _ _ _ Z (lv_sub hl [1, 2, 3, 0] rfl) h
            · have h := if_t c38 h
              refine lv_aload_n hx hb dX11_mergeOne_43 rfl (lv_at hl 1 rfl) ?_
              refine mr_value S X Z hin hl_35 dX11_mergeOne_44 ?_
              refine lv_iload_n hx hb dX11_mergeOne_47 rfl (lv_at hl 0 rfl) ?_
              refine g_iald S X Z ml_value rfl dX11_mergeOne_48 h (fun v39 h => ?_)
              refine lv_aload_n hx hb dX11_mergeOne_49 rfl (lv_at hl 1 rfl) ?_
              refine mr_candidateValue S X Z hin hl_143 dX11_mergeOne_50 ?_
              refine lv_iconst (v := (0 : Int32)) hx hb dX11_mergeOne_53 (by decide) ?_
              refine g_iald S X Z ml_candidateValue rfl dX11_mergeOne_54 h (fun v40 h => ?_)
              refine lv_icmp_ne (tgt := 77) hx hb dX11_mergeOne_55 (by decide) (fun c41 => ?_) (fun c41 => ?_)
              · have h := if_f c41 h
                exact hJ77 M2 _ _ _ Z (lv_sub hl [1, 2, 3, 0] rfl) h
              · have h := if_t c41 h
                refine lv_aload_n hx hb dX11_mergeOne_58 rfl (lv_at hl 1 rfl) ?_
                refine mr_size S X Z hin hl_38 dX11_mergeOne_59 ?_
                refine lv_iload_n hx hb dX11_mergeOne_62 rfl (lv_at hl 0 rfl) ?_
                refine g_iald S X Z ml_size rfl dX11_mergeOne_63 h (fun v42 h => ?_)
                refine lv_aload_n hx hb dX11_mergeOne_64 rfl (lv_at hl 1 rfl) ?_
                refine mr_candidateSize S X Z hin hl_146 dX11_mergeOne_65 ?_
                refine lv_iconst (v := (0 : Int32)) hx hb dX11_mergeOne_68 (by decide) ?_
                refine g_iald S X Z ml_candidateSize rfl dX11_mergeOne_69 h (fun v43 h => ?_)
                refine lv_icmp_ne (tgt := 77) hx hb dX11_mergeOne_70 (by decide) (fun c44 => ?_) (fun c44 => ?_)
                · have h := if_f c44 h
                  exact hJ77 M2 _ _ _ Z (lv_sub hl [1, 2, 3, 0] rfl) h
                · have h := if_t c44 h
                  refine lv_iconst (v := (1 : Int32)) hx hb dX11_mergeOne_73 (by decide) ?_
                  refine lv_goto (tgt := 78) hx hb dX11_mergeOne_74 (by decide) ?_
                  exact hJ78 (1 : Int32) M2 _ _ _ Z (lv_sub hl [1, 2, 3, 0] rfl) h
  exact hL2 100 (0 : Int32) M _ _ _ Z (lv_sub hl [1, 2, 0] rfl) h
-- X11_areVersions (I)Z: 104 instructions
theorem dX11_areVersions_0 : decode cX11_areVersions 0 = .ok (.bipush 48, 2) := by decide +kernel
theorem dX11_areVersions_2 : decode cX11_areVersions 2 = .ok (.aload_n 0, 1) := by decide +kernel
theorem dX11_areVersions_3 : decode cX11_areVersions 3 = .ok (.getfield 394, 3) := by decide +kernel
theorem dX11_areVersions_6 : decode cX11_areVersions 6 = .ok (.invokestatic 373, 3) := by decide +kernel
theorem dX11_areVersions_9 : decode cX11_areVersions 9 = .ok (.imul, 1) := by decide +kernel
theorem dX11_areVersions_10 : decode cX11_areVersions 10 = .ok (.iload_n 1, 1) := by decide +kernel
theorem dX11_areVersions_11 : decode cX11_areVersions 11 = .ok (.iadd, 1) := by decide +kernel
theorem dX11_areVersions_12 : decode cX11_areVersions 12 = .ok (.istore_n 2, 1) := by decide +kernel
theorem dX11_areVersions_13 : decode cX11_areVersions 13 = .ok (.iconst 1, 1) := by decide +kernel
theorem dX11_areVersions_14 : decode cX11_areVersions 14 = .ok (.istore_n 3, 1) := by decide +kernel
theorem dX11_areVersions_15 : decode cX11_areVersions 15 = .ok (.iconst 0, 1) := by decide +kernel
theorem dX11_areVersions_16 : decode cX11_areVersions 16 = .ok (.istore 4, 2) := by decide +kernel
theorem dX11_areVersions_18 : decode cX11_areVersions 18 = .ok (.iload 4, 2) := by decide +kernel
theorem dX11_areVersions_20 : decode cX11_areVersions 20 = .ok (.aload_n 0, 1) := by decide +kernel
theorem dX11_areVersions_21 : decode cX11_areVersions 21 = .ok (.getfield 155, 3) := by decide +kernel
theorem dX11_areVersions_24 : decode cX11_areVersions 24 = .ok (.if_icmp .ge 170, 3) := by decide +kernel
theorem dX11_areVersions_27 : decode cX11_areVersions 27 = .ok (.bipush 48, 2) := by decide +kernel
theorem dX11_areVersions_29 : decode cX11_areVersions 29 = .ok (.iload 4, 2) := by decide +kernel
theorem dX11_areVersions_31 : decode cX11_areVersions 31 = .ok (.imul, 1) := by decide +kernel
theorem dX11_areVersions_32 : decode cX11_areVersions 32 = .ok (.iload_n 1, 1) := by decide +kernel
theorem dX11_areVersions_33 : decode cX11_areVersions 33 = .ok (.iadd, 1) := by decide +kernel
theorem dX11_areVersions_34 : decode cX11_areVersions 34 = .ok (.istore 5, 2) := by decide +kernel
theorem dX11_areVersions_36 : decode cX11_areVersions 36 = .ok (.aload_n 0, 1) := by decide +kernel
theorem dX11_areVersions_37 : decode cX11_areVersions 37 = .ok (.iload 4, 2) := by decide +kernel
theorem dX11_areVersions_39 : decode cX11_areVersions 39 = .ok (.invokevirtual 406, 3) := by decide +kernel
theorem dX11_areVersions_42 : decode cX11_areVersions 42 = .ok (.ifCond .eq 146, 3) := by decide +kernel
theorem dX11_areVersions_45 : decode cX11_areVersions 45 = .ok (.iload_n 3, 1) := by decide +kernel
theorem dX11_areVersions_46 : decode cX11_areVersions 46 = .ok (.ifCond .eq 49, 3) := by decide +kernel
theorem dX11_areVersions_49 : decode cX11_areVersions 49 = .ok (.aload_n 0, 1) := by decide +kernel
theorem dX11_areVersions_50 : decode cX11_areVersions 50 = .ok (.getfield 32, 3) := by decide +kernel
theorem dX11_areVersions_53 : decode cX11_areVersions 53 = .ok (.iload 5, 2) := by decide +kernel
theorem dX11_areVersions_55 : decode cX11_areVersions 55 = .ok (.baload, 1) := by decide +kernel
theorem dX11_areVersions_56 : decode cX11_areVersions 56 = .ok (.ifCond .eq 39, 3) := by decide +kernel
theorem dX11_areVersions_59 : decode cX11_areVersions 59 = .ok (.aload_n 0, 1) := by decide +kernel
theorem dX11_areVersions_60 : decode cX11_areVersions 60 = .ok (.getfield 44, 3) := by decide +kernel
theorem dX11_areVersions_63 : decode cX11_areVersions 63 = .ok (.iload 5, 2) := by decide +kernel
theorem dX11_areVersions_65 : decode cX11_areVersions 65 = .ok (.iaload, 1) := by decide +kernel
theorem dX11_areVersions_66 : decode cX11_areVersions 66 = .ok (.aload_n 0, 1) := by decide +kernel
theorem dX11_areVersions_67 : decode cX11_areVersions 67 = .ok (.getfield 442, 3) := by decide +kernel
theorem dX11_areVersions_70 : decode cX11_areVersions 70 = .ok (.if_icmp .ne 25, 3) := by decide +kernel
theorem dX11_areVersions_73 : decode cX11_areVersions 73 = .ok (.aload_n 0, 1) := by decide +kernel
theorem dX11_areVersions_74 : decode cX11_areVersions 74 = .ok (.aload_n 0, 1) := by decide +kernel
theorem dX11_areVersions_75 : decode cX11_areVersions 75 = .ok (.getfield 41, 3) := by decide +kernel
theorem dX11_areVersions_78 : decode cX11_areVersions 78 = .ok (.iload 5, 2) := by decide +kernel
theorem dX11_areVersions_80 : decode cX11_areVersions 80 = .ok (.aload_n 0, 1) := by decide +kernel
theorem dX11_areVersions_81 : decode cX11_areVersions 81 = .ok (.getfield 41, 3) := by decide +kernel
theorem dX11_areVersions_84 : decode cX11_areVersions 84 = .ok (.iload_n 2, 1) := by decide +kernel
theorem dX11_areVersions_85 : decode cX11_areVersions 85 = .ok (.invokevirtual 275, 3) := by decide +kernel
theorem dX11_areVersions_88 : decode cX11_areVersions 88 = .ok (.ifCond .eq 7, 3) := by decide +kernel
theorem dX11_areVersions_91 : decode cX11_areVersions 91 = .ok (.iconst 1, 1) := by decide +kernel
theorem dX11_areVersions_92 : decode cX11_areVersions 92 = .ok (.goto 4, 3) := by decide +kernel
theorem dX11_areVersions_95 : decode cX11_areVersions 95 = .ok (.iconst 0, 1) := by decide +kernel
theorem dX11_areVersions_96 : decode cX11_areVersions 96 = .ok (.istore_n 3, 1) := by decide +kernel
theorem dX11_areVersions_97 : decode cX11_areVersions 97 = .ok (.iconst 0, 1) := by decide +kernel
theorem dX11_areVersions_98 : decode cX11_areVersions 98 = .ok (.istore 6, 2) := by decide +kernel
theorem dX11_areVersions_100 : decode cX11_areVersions 100 = .ok (.iload_n 3, 1) := by decide +kernel
theorem dX11_areVersions_101 : decode cX11_areVersions 101 = .ok (.ifCond .eq 87, 3) := by decide +kernel
theorem dX11_areVersions_104 : decode cX11_areVersions 104 = .ok (.iload 6, 2) := by decide +kernel
theorem dX11_areVersions_106 : decode cX11_areVersions 106 = .ok (.aload_n 0, 1) := by decide +kernel
theorem dX11_areVersions_107 : decode cX11_areVersions 107 = .ok (.getfield 442, 3) := by decide +kernel
theorem dX11_areVersions_110 : decode cX11_areVersions 110 = .ok (.if_icmp .ge 78, 3) := by decide +kernel
theorem dX11_areVersions_113 : decode cX11_areVersions 113 = .ok (.bipush 6, 2) := by decide +kernel
theorem dX11_areVersions_115 : decode cX11_areVersions 115 = .ok (.iload 5, 2) := by decide +kernel
theorem dX11_areVersions_117 : decode cX11_areVersions 117 = .ok (.imul, 1) := by decide +kernel
theorem dX11_areVersions_118 : decode cX11_areVersions 118 = .ok (.iload 6, 2) := by decide +kernel
theorem dX11_areVersions_120 : decode cX11_areVersions 120 = .ok (.iadd, 1) := by decide +kernel
theorem dX11_areVersions_121 : decode cX11_areVersions 121 = .ok (.istore 7, 2) := by decide +kernel
theorem dX11_areVersions_123 : decode cX11_areVersions 123 = .ok (.aload_n 0, 1) := by decide +kernel
theorem dX11_areVersions_124 : decode cX11_areVersions 124 = .ok (.getfield 47, 3) := by decide +kernel
theorem dX11_areVersions_127 : decode cX11_areVersions 127 = .ok (.iload 7, 2) := by decide +kernel
theorem dX11_areVersions_129 : decode cX11_areVersions 129 = .ok (.iaload, 1) := by decide +kernel
theorem dX11_areVersions_130 : decode cX11_areVersions 130 = .ok (.aload_n 0, 1) := by decide +kernel
theorem dX11_areVersions_131 : decode cX11_areVersions 131 = .ok (.getfield 143, 3) := by decide +kernel
theorem dX11_areVersions_134 : decode cX11_areVersions 134 = .ok (.iload 6, 2) := by decide +kernel
theorem dX11_areVersions_136 : decode cX11_areVersions 136 = .ok (.iaload, 1) := by decide +kernel
theorem dX11_areVersions_137 : decode cX11_areVersions 137 = .ok (.if_icmp .ne 43, 3) := by decide +kernel
theorem dX11_areVersions_140 : decode cX11_areVersions 140 = .ok (.aload_n 0, 1) := by decide +kernel
theorem dX11_areVersions_141 : decode cX11_areVersions 141 = .ok (.getfield 50, 3) := by decide +kernel
theorem dX11_areVersions_144 : decode cX11_areVersions 144 = .ok (.iload 7, 2) := by decide +kernel
theorem dX11_areVersions_146 : decode cX11_areVersions 146 = .ok (.iaload, 1) := by decide +kernel
theorem dX11_areVersions_147 : decode cX11_areVersions 147 = .ok (.aload_n 0, 1) := by decide +kernel
theorem dX11_areVersions_148 : decode cX11_areVersions 148 = .ok (.getfield 146, 3) := by decide +kernel
theorem dX11_areVersions_151 : decode cX11_areVersions 151 = .ok (.iload 6, 2) := by decide +kernel
theorem dX11_areVersions_153 : decode cX11_areVersions 153 = .ok (.iaload, 1) := by decide +kernel
theorem dX11_areVersions_154 : decode cX11_areVersions 154 = .ok (.if_icmp .ne 26, 3) := by decide +kernel
theorem dX11_areVersions_157 : decode cX11_areVersions 157 = .ok (.aload_n 0, 1) := by decide +kernel
theorem dX11_areVersions_158 : decode cX11_areVersions 158 = .ok (.aload_n 0, 1) := by decide +kernel
theorem dX11_areVersions_159 : decode cX11_areVersions 159 = .ok (.getfield 53, 3) := by decide +kernel
theorem dX11_areVersions_162 : decode cX11_areVersions 162 = .ok (.iload 7, 2) := by decide +kernel
theorem dX11_areVersions_164 : decode cX11_areVersions 164 = .ok (.aload_n 0, 1) := by decide +kernel
theorem dX11_areVersions_165 : decode cX11_areVersions 165 = .ok (.getfield 149, 3) := by decide +kernel
theorem dX11_areVersions_168 : decode cX11_areVersions 168 = .ok (.iload 6, 2) := by decide +kernel
theorem dX11_areVersions_170 : decode cX11_areVersions 170 = .ok (.invokevirtual 275, 3) := by decide +kernel
theorem dX11_areVersions_173 : decode cX11_areVersions 173 = .ok (.ifCond .eq 7, 3) := by decide +kernel
theorem dX11_areVersions_176 : decode cX11_areVersions 176 = .ok (.iconst 1, 1) := by decide +kernel
theorem dX11_areVersions_177 : decode cX11_areVersions 177 = .ok (.goto 4, 3) := by decide +kernel
theorem dX11_areVersions_180 : decode cX11_areVersions 180 = .ok (.iconst 0, 1) := by decide +kernel
theorem dX11_areVersions_181 : decode cX11_areVersions 181 = .ok (.istore_n 3, 1) := by decide +kernel
theorem dX11_areVersions_182 : decode cX11_areVersions 182 = .ok (.iinc 6 1, 3) := by decide +kernel
theorem dX11_areVersions_185 : decode cX11_areVersions 185 = .ok (.goto (-85), 3) := by decide +kernel
theorem dX11_areVersions_188 : decode cX11_areVersions 188 = .ok (.iinc 4 1, 3) := by decide +kernel
theorem dX11_areVersions_191 : decode cX11_areVersions 191 = .ok (.goto (-173), 3) := by decide +kernel
theorem dX11_areVersions_194 : decode cX11_areVersions 194 = .ok (.iload_n 3, 1) := by decide +kernel
theorem dX11_areVersions_195 : decode cX11_areVersions 195 = .ok (.ireturn, 1) := by decide +kernel
abbrev wmX11_areVersions : List Cond := .code yX11_areVersions cX11_areVersions 8 (some .boolean) :: mBig
def f_X11_areVersions_L100 (M21 : gM) (a1 : Int32) (x4 : Int32) (x6 : Int32) (x12 : Int32) (J188 : Int32 → Option Int32) : Nat → Int32 → Int32 → Option Int32
  | 0, _, _ => none
  | n22 + 1, x19, x20 => (if x19 = 0 then J188 x19 else lt (M21 m_o 61) (fun v24 => (if v24 ≤ x20 then J188 x19 else lt ((((6 : Int32) * x12) + x20)) (fun x26 => rd M21 m_versionValue 1152 x26 (fun v27 => rd M21 m_candidateValue 24 x20 (fun v28 => jn (fun (b29 : Int32) => lt (x20 + 1) (fun x30 => f_X11_areVersions_L100 M21 a1 x4 x6 x12 J188 n22 b29 x30)) (fun J181 => jn (fun (_ : Unit) => J181 (0 : Int32)) (fun J180 => (if v27 = v28 then rd M21 m_versionSize 1152 x26 (fun v32 => rd M21 m_candidateSize 24 x20 (fun v33 => (if v32 = v33 then o1 (f_X11_isSame M21 m_versionVector x26 m_candidateVector x20) (fun v36 => (if v36 = 0 then J180 () else J181 (1 : Int32))) else J180 ()))) else J180 ())))))))))
def f_X11_areVersions_L18 (M7 : gM) (a1 : Int32) (x4 : Int32) : Nat → Int32 → Int32 → Option Int32
  | 0, _, _ => none
  | n8 + 1, x5, x6 => lt (M7 m_o 0) (fun v9 => (if v9 ≤ x6 then gz x5 (some x5) else lt ((((48 : Int32) * x6) + a1)) (fun x12 => o1 (f_X11_isOf M7 x6) (fun v14 => jn (fun (b15 : Int32) => lt (x6 + 1) (fun x16 => f_X11_areVersions_L18 M7 a1 x4 n8 b15 x16)) (fun J188 => (if v14 = 0 then J188 x5 else jn (fun (b18 : Int32) => f_X11_areVersions_L100 M7 a1 x4 x6 x12 J188 100 b18 (0 : Int32)) (fun J96 => jn (fun (_ : Unit) => J96 (0 : Int32)) (fun J95 => (if x5 = 0 then J95 () else rd M7 m_has 192 x12 (fun v39 => (if v39 = 0 then J95 () else rd M7 m_versions 192 x12 (fun v41 => lt (M7 m_o 61) (fun v42 => (if v41 = v42 then o1 (f_X11_isSame M7 m_vector x12 m_vector x4) (fun v45 => (if v45 = 0 then J95 () else J96 (1 : Int32))) else J95 ()))))))))))))))
def f_X11_areVersions (M : gM) (a1 : Int32) : Option Int32 :=
  lt (M m_o 53) (fun v1 => o1 (f_X11_leastOf M v1) (fun v3 => lt ((((48 : Int32) * v3) + a1)) (fun x4 => f_X11_areVersions_L18 M a1 x4 100 (1 : Int32) (0 : Int32))))
set_option maxHeartbeats 4000000 in
set_option maxRecDepth 100000 in
theorem t_X11_areVersions (l : Launch) (D : va_G) (dA : Nat → ClassId) (A : gI → Nat) (hJ : gJ mLive A) {M : gM} {a1 : Int32}  {y : Int32} (h : f_X11_areVersions M a1 = some y) : mMi l yX11_areVersions wmX11_areVersions ({ frames := 1, cells := 0, slots := 0, locals := 25 } : Room) D dA A [.ref (A m_o), .int a1] M y M := by
  refine Met.ofW (cc := cX11_areVersions) (maxL := 8) (ret := (some .boolean)) (by decide) rfl ?_
  intro p e s m args below meth c s₁ B hml hv
  obtain ⟨rfl, hP, hK⟩ := hv
  generalize hargs : ([.ref (A m_o), .int a1] : List Value).toArray = args at B ⊢
  have S : CallFix p m c cX11_areVersions 8 s args wmX11_areVersions RX11 := ⟨B.exec, B.bytes, hml, findClass_of_methodNamed B.named, atoms_spec (ws := wmX11_areVersions) B.pre⟩
  obtain ⟨hx, hb, -, hown, hts⟩ := id S
  have hr := B.returns
  have hlocks := B.notSynchronized
  have X : gX D vwCl dA mLive A (gA mLive A) s := ⟨hK, hJ, fun i hi => ⟨i, hi, rfl⟩⟩
  have Z : gZ D mLay dA mLive A (gA mLive A) s.heap M s.heap [] := ⟨hP, va_S.rf⟩
  have hin : ∀ w ∈ wsX110, w ∈ wmX11_areVersions := m_in
  have hl_32 := hts (.fieldLink RX11 32 "ReplicaFilesModel" "has" "[Z") (mBc 12 rfl)
  have hl_41 := hts (.fieldLink RX11 41 "ReplicaFilesModel" "vector" "[I") (mBc 15 rfl)
  have hl_44 := hts (.fieldLink RX11 44 "ReplicaFilesModel" "versions" "[I") (mBc 16 rfl)
  have hl_47 := hts (.fieldLink RX11 47 "ReplicaFilesModel" "versionValue" "[I") (mBc 17 rfl)
  have hl_50 := hts (.fieldLink RX11 50 "ReplicaFilesModel" "versionSize" "[I") (mBc 18 rfl)
  have hl_53 := hts (.fieldLink RX11 53 "ReplicaFilesModel" "versionVector" "[I") (mBc 19 rfl)
  have hl_143 := hts (.fieldLink RX11 143 "ReplicaFilesModel" "candidateValue" "[I") (mBc 49 rfl)
  have hl_146 := hts (.fieldLink RX11 146 "ReplicaFilesModel" "candidateSize" "[I") (mBc 50 rfl)
  have hl_149 := hts (.fieldLink RX11 149 "ReplicaFilesModel" "candidateVector" "[I") (mBc 51 rfl)
  have hl_155 := hts (.fieldLink RX11 155 "ReplicaFilesModel" "servers" "I") (mBc 53 rfl)
  have hl_394 := hts (.fieldLink RX11 394 "ReplicaFilesModel" "group" "I") (mBc 291 rfl)
  have hl_442 := hts (.fieldLink RX11 442 "ReplicaFilesModel" "candidates" "I") (mBc 319 rfl)
  have hl := lv_entry ([.ref (A m_o), .int a1]) (n := 8) (Nat.le_of_ble_eq_true rfl)
  rw [← hargs, lg_entry_eq, hargs]
  generalize (lg_sl ([.ref (A m_o), .int a1]) ++ List.replicate (8 - (lg_sl ([.ref (A m_o), .int a1])).length) Slot.unset).toArray = ls at hl ⊢
  have hl : lv_has ls 8 [(0, .ref (A m_o)), (1, .int a1)] := hl
  unfold f_X11_areVersions at h
  refine lv_bipush (v := (48 : Int32)) hx hb dX11_areVersions_0 (by decide) ?_
  refine lv_aload_n hx hb dX11_areVersions_2 rfl (lv_at hl 0 rfl) ?_
  refine mr_group S X Z hin hl_394 dX11_areVersions_3 h (fun v1 h => ?_)
  obtain ⟨v3, hc2, h⟩ := o1_e h
  refine g_Si (As := [.int v1]) (rest := [.int (48 : Int32)]) S X Z (t_X11_leastOf l D dA A hJ  hc2) (va_cwS 1 hts (mGS (mB 277 rfl) (mB 278 rfl) (mB 63 rfl) (mB 78 rfl)) rfl rfl rfl (by decide +kernel) ⟨Nat.le_of_ble_eq_true rfl, Nat.le_of_ble_eq_true rfl⟩) rfl hl.1 rfl (Nat.le_of_ble_eq_true rfl) dX11_areVersions_6 ⟨Nat.zero_le _, Nat.zero_le _⟩ (fun H locs Z => ?_)
  refine lv_imul hx hb dX11_areVersions_9 ?_
  refine lv_iload_n hx hb dX11_areVersions_10 rfl (lv_at hl 1 rfl) ?_
  refine lv_iadd hx hb dX11_areVersions_11 ?_
  refine g_topi h (fun x4 h => ?_)
  refine lv_istore_n (lv' := [(2, .int x4), (0, .ref (A m_o)), (1, .int a1)]) hx hb dX11_areVersions_12 rfl hl (by decide) rfl (fun ls hl => ?_)
  refine lv_iconst (v := (1 : Int32)) hx hb dX11_areVersions_13 (by decide) ?_
  refine lv_istore_n (lv' := [(3, .int (1 : Int32)), (2, .int x4), (0, .ref (A m_o)), (1, .int a1)]) hx hb dX11_areVersions_14 rfl hl (by decide) rfl (fun ls hl => ?_)
  refine lv_iconst (v := (0 : Int32)) hx hb dX11_areVersions_15 (by decide) ?_
  refine lv_istore (lv' := [(4, .int (0 : Int32)), (3, .int (1 : Int32)), (2, .int x4), (0, .ref (A m_o)), (1, .int a1)]) hx hb dX11_areVersions_16 hl (by decide) rfl (fun ls hl => ?_)
  have hL18 : ∀ (n : Nat) (x5 : Int32) (x6 : Int32) (H : Heap) (locs : List Loc) (ls : Array Slot), gZ D mLay dA mLive A (gA mLive A) s.heap M H locs → lv_has ls 8 [(0, .ref (A m_o)), (1, .int a1), (2, .int x4), (3, .int x5), (4, .int x6)] → f_X11_areVersions_L18 M a1 x4 n x5 x6 = some y → W p l e (headSpec wmX11_areVersions ({ frames := 1, cells := 0, slots := 0, locals := 25 } : Room)).room s m args below meth c H locs 0 0 (MQ below (mQi D dA A (y, M)) args s 0 0 (gA mLive A)) (F0 m 18 ls []) := by
    intro n
    induction n with
    | zero =>
      intro x5 x6 H locs ls Z hl h
      rw [f_X11_areVersions_L18] at h
      cases h
    | succ n8 ih18 =>
      intro x5 x6 H locs ls Z hl h
      rw [f_X11_areVersions_L18] at h
      refine lv_iload hx hb dX11_areVersions_18 (lv_at hl 4 rfl) ?_
      refine lv_aload_n hx hb dX11_areVersions_20 rfl (lv_at hl 0 rfl) ?_
      refine mr_servers S X Z hin hl_155 dX11_areVersions_21 h (fun v9 h => ?_)
      refine lv_icmp_ge (tgt := 194) hx hb dX11_areVersions_24 (by decide) (fun c10 => ?_) (fun c10 => ?_)
      · have h := if_t c10 h
        refine lv_iload_n hx hb dX11_areVersions_194 rfl (lv_at hl 3 rfl) ?_
        obtain ⟨z11, h⟩ := gz_e h
        have hy := Option.some.inj h
        subst hy
        exact g_rz (z11) S Z hr hlocks dX11_areVersions_195
      · have h := if_f c10 h
        refine lv_bipush (v := (48 : Int32)) hx hb dX11_areVersions_27 (by decide) ?_
        refine lv_iload hx hb dX11_areVersions_29 (lv_at hl 4 rfl) ?_
        refine lv_imul hx hb dX11_areVersions_31 ?_
        refine lv_iload_n hx hb dX11_areVersions_32 rfl (lv_at hl 1 rfl) ?_
        refine lv_iadd hx hb dX11_areVersions_33 ?_
        refine g_topi h (fun x12 h => ?_)
        refine lv_istore (lv' := [(5, .int x12), (0, .ref (A m_o)), (1, .int a1), (2, .int x4), (3, .int x5), (4, .int x6)]) hx hb dX11_areVersions_34 hl (by decide) rfl (fun ls hl => ?_)
        refine lv_aload_n hx hb dX11_areVersions_36 rfl (lv_at hl 1 rfl) ?_
        refine lv_iload hx hb dX11_areVersions_37 (lv_at hl 5 rfl) ?_
        obtain ⟨v14, hc13, h⟩ := o1_e h
        refine g_Vi (As := [.int x6]) (rest := []) S X Z mlv_o rfl rfl (t_X11_isOf l D dA A hJ  hc13) (cwV 1 hts (mGV (mB 293 rfl) (mB 294 rfl) (mB 295 rfl) (mB 63 rfl) (mB 290 rfl)) rfl rfl rfl (by decide +kernel) ⟨Nat.le_of_ble_eq_true rfl, Nat.le_of_ble_eq_true rfl⟩) rfl hl.1 rfl (Nat.le_of_ble_eq_true rfl) dX11_areVersions_39 ⟨Nat.zero_le _, Nat.zero_le _⟩ (fun H locs Z => ?_)
        obtain ⟨J188, eJ188, h⟩ := jn_e h
        have hJ188 : ∀ (b15 : Int32) (H : Heap) (locs : List Loc) (ls : Array Slot), gZ D mLay dA mLive A (gA mLive A) s.heap M H locs → lv_has ls 8 [(0, .ref (A m_o)), (1, .int a1), (2, .int x4), (3, .int b15), (4, .int x6)] → J188 b15 = some y → W p l e (headSpec wmX11_areVersions ({ frames := 1, cells := 0, slots := 0, locals := 25 } : Room)).room s m args below meth c H locs 0 0 (MQ below (mQi D dA A (y, M)) args s 0 0 (gA mLive A)) (F0 m 188 ls []) := by
          intro b15 H locs ls Z hl h
          rw [eJ188] at h
          try dsimp only at h
          obtain ⟨x16, ex16, h⟩ := lt_e h
          refine lv_iinc (v := x16) (lv' := [(4, .int x16), (0, .ref (A m_o)), (1, .int a1), (2, .int x4), (3, .int b15)]) hx hb dX11_areVersions_188 hl (k := 4) rfl (by rw [ex16]; rfl) (by decide) rfl (fun ls hl => ?_)
          refine lv_goto (tgt := 18) hx hb dX11_areVersions_191 (by decide) ?_
          exact ih18 b15 x16 _ _ _ Z (lv_sub hl [1, 2, 3, 4, 0] rfl) h
        refine lv_if_eq (tgt := 188) hx hb dX11_areVersions_42 (by decide) (fun c17 => ?_) (fun c17 => ?_)
        · have h := if_t c17 h
          exact hJ188 x5 _ _ _ Z (lv_sub hl [1, 2, 3, 4, 5] rfl) h
        · have h := if_f c17 h
          refine lv_iload_n hx hb dX11_areVersions_45 rfl (lv_at hl 4 rfl) ?_
          obtain ⟨J96, eJ96, h⟩ := jn_e h
          have hJ96 : ∀ (b18 : Int32) (H : Heap) (locs : List Loc) (ls : Array Slot), gZ D mLay dA mLive A (gA mLive A) s.heap M H locs → lv_has ls 8 [(0, .ref (A m_o)), (1, .int a1), (2, .int x4), (4, .int x6), (5, .int x12)] → J96 b18 = some y → W p l e (headSpec wmX11_areVersions ({ frames := 1, cells := 0, slots := 0, locals := 25 } : Room)).room s m args below meth c H locs 0 0 (MQ below (mQi D dA A (y, M)) args s 0 0 (gA mLive A)) (F0 m 96 ls [.int b18]) := by
            intro b18 H locs ls Z hl h
            rw [eJ96] at h
            try dsimp only at h
            refine lv_istore_n (lv' := [(3, .int b18), (0, .ref (A m_o)), (1, .int a1), (2, .int x4), (4, .int x6), (5, .int x12)]) hx hb dX11_areVersions_96 rfl hl (by decide) rfl (fun ls hl => ?_)
            refine lv_iconst (v := (0 : Int32)) hx hb dX11_areVersions_97 (by decide) ?_
            refine lv_istore (lv' := [(6, .int (0 : Int32)), (3, .int b18), (0, .ref (A m_o)), (1, .int a1), (2, .int x4), (4, .int x6), (5, .int x12)]) hx hb dX11_areVersions_98 hl (by decide) rfl (fun ls hl => ?_)
            have hL100 : ∀ (n : Nat) (x19 : Int32) (x20 : Int32) (H : Heap) (locs : List Loc) (ls : Array Slot), gZ D mLay dA mLive A (gA mLive A) s.heap M H locs → lv_has ls 8 [(0, .ref (A m_o)), (1, .int a1), (2, .int x4), (3, .int x19), (4, .int x6), (5, .int x12), (6, .int x20)] → f_X11_areVersions_L100 M a1 x4 x6 x12 J188 n x19 x20 = some y → W p l e (headSpec wmX11_areVersions ({ frames := 1, cells := 0, slots := 0, locals := 25 } : Room)).room s m args below meth c H locs 0 0 (MQ below (mQi D dA A (y, M)) args s 0 0 (gA mLive A)) (F0 m 100 ls []) := by
              intro n
              induction n with
              | zero =>
                intro x19 x20 H locs ls Z hl h
                rw [f_X11_areVersions_L100] at h
                cases h
              | succ n22 ih100 =>
                intro x19 x20 H locs ls Z hl h
                rw [f_X11_areVersions_L100] at h
                refine lv_iload_n hx hb dX11_areVersions_100 rfl (lv_at hl 3 rfl) ?_
                refine lv_if_eq (tgt := 188) hx hb dX11_areVersions_101 (by decide) (fun c23 => ?_) (fun c23 => ?_)
                · have h := if_t c23 h
                  exact hJ188 x19 _ _ _ Z (lv_sub hl [0, 1, 2, 3, 4] rfl) h
                · have h := if_f c23 h
                  refine lv_iload hx hb dX11_areVersions_104 (lv_at hl 6 rfl) ?_
                  refine lv_aload_n hx hb dX11_areVersions_106 rfl (lv_at hl 0 rfl) ?_
                  refine mr_candidates S X Z hin hl_442 dX11_areVersions_107 h (fun v24 h => ?_)
                  refine lv_icmp_ge (tgt := 188) hx hb dX11_areVersions_110 (by decide) (fun c25 => ?_) (fun c25 => ?_)
                  · have h := if_t c25 h
                    exact hJ188 x19 _ _ _ Z (lv_sub hl [0, 1, 2, 3, 4] rfl) h
                  · have h := if_f c25 h
                    refine lv_bipush (v := (6 : Int32)) hx hb dX11_areVersions_113 (by decide) ?_
                    refine lv_iload hx hb dX11_areVersions_115 (lv_at hl 5 rfl) ?_
                    refine lv_imul hx hb dX11_areVersions_117 ?_
                    refine lv_iload hx hb dX11_areVersions_118 (lv_at hl 6 rfl) ?_
                    refine lv_iadd hx hb dX11_areVersions_120 ?_
                    refine g_topi h (fun x26 h => ?_)
                    refine lv_istore (lv' := [(7, .int x26), (0, .ref (A m_o)), (1, .int a1), (2, .int x4), (3, .int x19), (4, .int x6), (5, .int x12), (6, .int x20)]) hx hb dX11_areVersions_121 hl (by decide) rfl (fun ls hl => ?_)
                    refine lv_aload_n hx hb dX11_areVersions_123 rfl (lv_at hl 1 rfl) ?_
                    refine mr_versionValue S X Z hin hl_47 dX11_areVersions_124 ?_
                    refine lv_iload hx hb dX11_areVersions_127 (lv_at hl 0 rfl) ?_
                    refine g_iald S X Z ml_versionValue rfl dX11_areVersions_129 h (fun v27 h => ?_)
                    refine lv_aload_n hx hb dX11_areVersions_130 rfl (lv_at hl 1 rfl) ?_
                    refine mr_candidateValue S X Z hin hl_143 dX11_areVersions_131 ?_
                    refine lv_iload hx hb dX11_areVersions_134 (lv_at hl 7 rfl) ?_
                    refine g_iald S X Z ml_candidateValue rfl dX11_areVersions_136 h (fun v28 h => ?_)
                    obtain ⟨J181, eJ181, h⟩ := jn_e h
                    have hJ181 : ∀ (b29 : Int32) (H : Heap) (locs : List Loc) (ls : Array Slot), gZ D mLay dA mLive A (gA mLive A) s.heap M H locs → lv_has ls 8 [(0, .ref (A m_o)), (1, .int a1), (2, .int x4), (4, .int x6), (5, .int x12), (6, .int x20)] → J181 b29 = some y → W p l e (headSpec wmX11_areVersions ({ frames := 1, cells := 0, slots := 0, locals := 25 } : Room)).room s m args below meth c H locs 0 0 (MQ below (mQi D dA A (y, M)) args s 0 0 (gA mLive A)) (F0 m 181 ls [.int b29]) := by
                      intro b29 H locs ls Z hl h
                      rw [eJ181] at h
                      try dsimp only at h
                      refine lv_istore_n (lv' := [(3, .int b29), (0, .ref (A m_o)), (1, .int a1), (2, .int x4), (4, .int x6), (5, .int x12), (6, .int x20)]) hx hb dX11_areVersions_181 rfl hl (by decide) rfl (fun ls hl => ?_)
                      obtain ⟨x30, ex30, h⟩ := lt_e h
                      refine lv_iinc (v := x30) (lv' := [(6, .int x30), (3, .int b29), (0, .ref (A m_o)), (1, .int a1), (2, .int x4), (4, .int x6), (5, .int x12)]) hx hb dX11_areVersions_182 hl (k := 6) rfl (by rw [ex30]; rfl) (by decide) rfl (fun ls hl => ?_)
                      refine lv_goto (tgt := 100) hx hb dX11_areVersions_185 (by decide) ?_
                      exact ih100 b29 x30 _ _ _ Z (lv_sub hl [2, 3, 4, 1, 5, 6, 0] rfl) h
                    obtain ⟨J180, eJ180, h⟩ := jn_e h
                    have hJ180 : ∀  (H : Heap) (locs : List Loc) (ls : Array Slot), gZ D mLay dA mLive A (gA mLive A) s.heap M H locs → lv_has ls 8 [(0, .ref (A m_o)), (1, .int a1), (2, .int x4), (4, .int x6), (5, .int x12), (6, .int x20)] → J180 () = some y → W p l e (headSpec wmX11_areVersions ({ frames := 1, cells := 0, slots := 0, locals := 25 } : Room)).room s m args below meth c H locs 0 0 (MQ below (mQi D dA A (y, M)) args s 0 0 (gA mLive A)) (F0 m 180 ls []) := by
                      intro  H locs ls Z hl h
                      rw [eJ180] at h
                      try dsimp only at h
                      refine lv_iconst (v := (0 : Int32)) hx hb dX11_areVersions_180 (by decide) ?_
                      exact hJ181 (0 : Int32) _ _ _ Z (lv_sub hl [0, 1, 2, 3, 4, 5] rfl) h
                    refine lv_icmp_ne (tgt := 180) hx hb dX11_areVersions_137 (by decide) (fun c31 => ?_) (fun c31 => ?_)
                    · have h := if_f c31 h
                      exact hJ180  _ _ _ Z (lv_sub hl [1, 2, 3, 5, 6, 7] rfl) h
                    · have h := if_t c31 h
                      refine lv_aload_n hx hb dX11_areVersions_140 rfl (lv_at hl 1 rfl) ?_
                      refine mr_versionSize S X Z hin hl_50 dX11_areVersions_141 ?_
                      refine lv_iload hx hb dX11_areVersions_144 (lv_at hl 0 rfl) ?_
                      refine g_iald S X Z ml_versionSize rfl dX11_areVersions_146 h (fun v32 h => ?_)
                      refine lv_aload_n hx hb dX11_areVersions_147 rfl (lv_at hl 1 rfl) ?_
                      refine mr_candidateSize S X Z hin hl_146 dX11_areVersions_148 ?_
                      refine lv_iload hx hb dX11_areVersions_151 (lv_at hl 7 rfl) ?_
                      refine g_iald S X Z ml_candidateSize rfl dX11_areVersions_153 h (fun v33 h => ?_)
                      refine lv_icmp_ne (tgt := 180) hx hb dX11_areVersions_154 (by decide) (fun c34 => ?_) (fun c34 => ?_)
                      · have h := if_f c34 h
                        exact hJ180  _ _ _ Z (lv_sub hl [1, 2, 3, 5, 6, 7] rfl) h
                      · have h := if_t c34 h
                        refine lv_aload_n hx hb dX11_areVersions_157 rfl (lv_at hl 1 rfl) ?_
                        refine lv_aload_n hx hb dX11_areVersions_158 rfl (lv_at hl 1 rfl) ?_
                        refine mr_versionVector S X Z hin hl_53 dX11_areVersions_159 ?_
                        refine lv_iload hx hb dX11_areVersions_162 (lv_at hl 0 rfl) ?_
                        refine lv_aload_n hx hb dX11_areVersions_164 rfl (lv_at hl 1 rfl) ?_
                        refine mr_candidateVector S X Z hin hl_149 dX11_areVersions_165 ?_
                        refine lv_iload hx hb dX11_areVersions_168 (lv_at hl 7 rfl) ?_
                        obtain ⟨v36, hc35, h⟩ := o1_e h
                        refine g_Vi (As := [.ref (A m_versionVector), .int x26, .ref (A m_candidateVector), .int x20]) (rest := []) S X Z mlv_o rfl rfl (t_X11_isSame l D dA A hJ ⟨ml_versionVector, rfl⟩ ⟨ml_candidateVector, rfl⟩ hc35) (cwV 4 hts (mGV (mB 150 rfl) (mB 151 rfl) (mB 152 rfl) (mB 63 rfl) (mB 96 rfl)) rfl rfl rfl (by decide +kernel) ⟨Nat.le_of_ble_eq_true rfl, Nat.le_of_ble_eq_true rfl⟩) rfl hl.1 rfl (Nat.le_of_ble_eq_true rfl) dX11_areVersions_170 ⟨Nat.zero_le _, Nat.zero_le _⟩ (fun H locs Z => ?_)
                        refine lv_if_eq (tgt := 180) hx hb dX11_areVersions_173 (by decide) (fun c37 => ?_) (fun c37 => ?_)
                        · have h := if_t c37 h
                          exact hJ180  _ _ _ Z (lv_sub hl [1, 2, 3, 5, 6, 7] rfl) h
                        · have h := if_f c37 h
                          refine lv_iconst (v := (1 : Int32)) hx hb dX11_areVersions_176 (by decide) ?_
                          refine lv_goto (tgt := 181) hx hb dX11_areVersions_177 (by decide) ?_
                          exact hJ181 (1 : Int32) _ _ _ Z (lv_sub hl [1, 2, 3, 5, 6, 7] rfl) h
            exact hL100 100 b18 (0 : Int32) _ _ _ Z (lv_sub hl [2, 3, 4, 1, 5, 6, 0] rfl) h
          obtain ⟨J95, eJ95, h⟩ := jn_e h
          have hJ95 : ∀  (H : Heap) (locs : List Loc) (ls : Array Slot), gZ D mLay dA mLive A (gA mLive A) s.heap M H locs → lv_has ls 8 [(0, .ref (A m_o)), (1, .int a1), (2, .int x4), (4, .int x6), (5, .int x12)] → J95 () = some y → W p l e (headSpec wmX11_areVersions ({ frames := 1, cells := 0, slots := 0, locals := 25 } : Room)).room s m args below meth c H locs 0 0 (MQ below (mQi D dA A (y, M)) args s 0 0 (gA mLive A)) (F0 m 95 ls []) := by
            intro  H locs ls Z hl h
            rw [eJ95] at h
            try dsimp only at h
            refine lv_iconst (v := (0 : Int32)) hx hb dX11_areVersions_95 (by decide) ?_
            exact hJ96 (0 : Int32) _ _ _ Z (lv_sub hl [0, 1, 2, 3, 4] rfl) h
          refine lv_if_eq (tgt := 95) hx hb dX11_areVersions_46 (by decide) (fun c38 => ?_) (fun c38 => ?_)
          · have h := if_t c38 h
            exact hJ95  _ _ _ Z (lv_sub hl [1, 2, 3, 5, 0] rfl) h
          · have h := if_f c38 h
            refine lv_aload_n hx hb dX11_areVersions_49 rfl (lv_at hl 1 rfl) ?_
            refine mr_has S X Z hin hl_32 dX11_areVersions_50 ?_
            refine lv_iload hx hb dX11_areVersions_53 (lv_at hl 0 rfl) ?_
            refine g_zald S X Z ml_has rfl dX11_areVersions_55 h (fun v39 h => ?_)
            refine lv_if_eq (tgt := 95) hx hb dX11_areVersions_56 (by decide) (fun c40 => ?_) (fun c40 => ?_)
            · have h := if_t c40 h
              exact hJ95  _ _ _ Z (lv_sub hl [1, 2, 3, 5, 0] rfl) h
            · have h := if_f c40 h
              refine lv_aload_n hx hb dX11_areVersions_59 rfl (lv_at hl 1 rfl) ?_
              refine mr_versions S X Z hin hl_44 dX11_areVersions_60 ?_
              refine lv_iload hx hb dX11_areVersions_63 (lv_at hl 0 rfl) ?_
              refine g_iald S X Z ml_versions rfl dX11_areVersions_65 h (fun v41 h => ?_)
              refine lv_aload_n hx hb dX11_areVersions_66 rfl (lv_at hl 1 rfl) ?_
              refine mr_candidates S X Z hin hl_442 dX11_areVersions_67 h (fun v42 h => ?_)
              refine lv_icmp_ne (tgt := 95) hx hb dX11_areVersions_70 (by decide) (fun c43 => ?_) (fun c43 => ?_)
              · have h := if_f c43 h
                exact hJ95  _ _ _ Z (lv_sub hl [1, 2, 3, 5, 0] rfl) h
              · have h := if_t c43 h
                refine lv_aload_n hx hb dX11_areVersions_73 rfl (lv_at hl 1 rfl) ?_
                refine lv_aload_n hx hb dX11_areVersions_74 rfl (lv_at hl 1 rfl) ?_
                refine mr_vector S X Z hin hl_41 dX11_areVersions_75 ?_
                refine lv_iload hx hb dX11_areVersions_78 (lv_at hl 0 rfl) ?_
                refine lv_aload_n hx hb dX11_areVersions_80 rfl (lv_at hl 1 rfl) ?_
                refine mr_vector S X Z hin hl_41 dX11_areVersions_81 ?_
                refine lv_iload_n hx hb dX11_areVersions_84 rfl (lv_at hl 3 rfl) ?_
                obtain ⟨v45, hc44, h⟩ := o1_e h
                refine g_Vi (As := [.ref (A m_vector), .int x12, .ref (A m_vector), .int x4]) (rest := []) S X Z mlv_o rfl rfl (t_X11_isSame l D dA A hJ ⟨ml_vector, rfl⟩ ⟨ml_vector, rfl⟩ hc44) (cwV 4 hts (mGV (mB 150 rfl) (mB 151 rfl) (mB 152 rfl) (mB 63 rfl) (mB 96 rfl)) rfl rfl rfl (by decide +kernel) ⟨Nat.le_of_ble_eq_true rfl, Nat.le_of_ble_eq_true rfl⟩) rfl hl.1 rfl (Nat.le_of_ble_eq_true rfl) dX11_areVersions_85 ⟨Nat.zero_le _, Nat.zero_le _⟩ (fun H locs Z => ?_)
                refine lv_if_eq (tgt := 95) hx hb dX11_areVersions_88 (by decide) (fun c46 => ?_) (fun c46 => ?_)
                · have h := if_t c46 h
                  exact hJ95  _ _ _ Z (lv_sub hl [1, 2, 3, 5, 0] rfl) h
                · have h := if_f c46 h
                  refine lv_iconst (v := (1 : Int32)) hx hb dX11_areVersions_91 (by decide) ?_
                  refine lv_goto (tgt := 96) hx hb dX11_areVersions_92 (by decide) ?_
                  exact hJ96 (1 : Int32) _ _ _ Z (lv_sub hl [1, 2, 3, 5, 0] rfl) h
  exact hL18 100 (1 : Int32) (0 : Int32) _ _ _ Z (lv_sub hl [3, 4, 2, 1, 0] rfl) h
-- X11_mergeMany (I)V: 203 instructions
theorem dX11_mergeMany_0 : decode cX11_mergeMany 0 = .ok (.aload_n 0, 1) := by decide +kernel
theorem dX11_mergeMany_1 : decode cX11_mergeMany 1 = .ok (.aload_n 0, 1) := by decide +kernel
theorem dX11_mergeMany_2 : decode cX11_mergeMany 2 = .ok (.getfield 125, 3) := by decide +kernel
theorem dX11_mergeMany_5 : decode cX11_mergeMany 5 = .ok (.iconst 0, 1) := by decide +kernel
theorem dX11_mergeMany_6 : decode cX11_mergeMany 6 = .ok (.invokevirtual 200, 3) := by decide +kernel
theorem dX11_mergeMany_9 : decode cX11_mergeMany 9 = .ok (.iconst 0, 1) := by decide +kernel
theorem dX11_mergeMany_10 : decode cX11_mergeMany 10 = .ok (.istore_n 2, 1) := by decide +kernel
theorem dX11_mergeMany_11 : decode cX11_mergeMany 11 = .ok (.iload_n 2, 1) := by decide +kernel
theorem dX11_mergeMany_12 : decode cX11_mergeMany 12 = .ok (.aload_n 0, 1) := by decide +kernel
theorem dX11_mergeMany_13 : decode cX11_mergeMany 13 = .ok (.getfield 155, 3) := by decide +kernel
theorem dX11_mergeMany_16 : decode cX11_mergeMany 16 = .ok (.if_icmp .ge 87, 3) := by decide +kernel
theorem dX11_mergeMany_19 : decode cX11_mergeMany 19 = .ok (.bipush 48, 2) := by decide +kernel
theorem dX11_mergeMany_21 : decode cX11_mergeMany 21 = .ok (.iload_n 2, 1) := by decide +kernel
theorem dX11_mergeMany_22 : decode cX11_mergeMany 22 = .ok (.imul, 1) := by decide +kernel
theorem dX11_mergeMany_23 : decode cX11_mergeMany 23 = .ok (.iload_n 1, 1) := by decide +kernel
theorem dX11_mergeMany_24 : decode cX11_mergeMany 24 = .ok (.iadd, 1) := by decide +kernel
theorem dX11_mergeMany_25 : decode cX11_mergeMany 25 = .ok (.istore_n 3, 1) := by decide +kernel
theorem dX11_mergeMany_26 : decode cX11_mergeMany 26 = .ok (.aload_n 0, 1) := by decide +kernel
theorem dX11_mergeMany_27 : decode cX11_mergeMany 27 = .ok (.iload_n 2, 1) := by decide +kernel
theorem dX11_mergeMany_28 : decode cX11_mergeMany 28 = .ok (.invokevirtual 406, 3) := by decide +kernel
theorem dX11_mergeMany_31 : decode cX11_mergeMany 31 = .ok (.ifCond .eq 66, 3) := by decide +kernel
theorem dX11_mergeMany_34 : decode cX11_mergeMany 34 = .ok (.aload_n 0, 1) := by decide +kernel
theorem dX11_mergeMany_35 : decode cX11_mergeMany 35 = .ok (.getfield 32, 3) := by decide +kernel
theorem dX11_mergeMany_38 : decode cX11_mergeMany 38 = .ok (.iload_n 3, 1) := by decide +kernel
theorem dX11_mergeMany_39 : decode cX11_mergeMany 39 = .ok (.baload, 1) := by decide +kernel
theorem dX11_mergeMany_40 : decode cX11_mergeMany 40 = .ok (.ifCond .eq 57, 3) := by decide +kernel
theorem dX11_mergeMany_43 : decode cX11_mergeMany 43 = .ok (.aload_n 0, 1) := by decide +kernel
theorem dX11_mergeMany_44 : decode cX11_mergeMany 44 = .ok (.aload_n 0, 1) := by decide +kernel
theorem dX11_mergeMany_45 : decode cX11_mergeMany 45 = .ok (.getfield 41, 3) := by decide +kernel
theorem dX11_mergeMany_48 : decode cX11_mergeMany 48 = .ok (.iload_n 3, 1) := by decide +kernel
theorem dX11_mergeMany_49 : decode cX11_mergeMany 49 = .ok (.aload_n 0, 1) := by decide +kernel
theorem dX11_mergeMany_50 : decode cX11_mergeMany 50 = .ok (.getfield 125, 3) := by decide +kernel
theorem dX11_mergeMany_53 : decode cX11_mergeMany 53 = .ok (.iconst 0, 1) := by decide +kernel
theorem dX11_mergeMany_54 : decode cX11_mergeMany 54 = .ok (.invokevirtual 388, 3) := by decide +kernel
theorem dX11_mergeMany_57 : decode cX11_mergeMany 57 = .ok (.iconst 0, 1) := by decide +kernel
theorem dX11_mergeMany_58 : decode cX11_mergeMany 58 = .ok (.istore 4, 2) := by decide +kernel
theorem dX11_mergeMany_60 : decode cX11_mergeMany 60 = .ok (.iload 4, 2) := by decide +kernel
theorem dX11_mergeMany_62 : decode cX11_mergeMany 62 = .ok (.aload_n 0, 1) := by decide +kernel
theorem dX11_mergeMany_63 : decode cX11_mergeMany 63 = .ok (.getfield 44, 3) := by decide +kernel
theorem dX11_mergeMany_66 : decode cX11_mergeMany 66 = .ok (.iload_n 3, 1) := by decide +kernel
theorem dX11_mergeMany_67 : decode cX11_mergeMany 67 = .ok (.iaload, 1) := by decide +kernel
theorem dX11_mergeMany_68 : decode cX11_mergeMany 68 = .ok (.if_icmp .ge 29, 3) := by decide +kernel
theorem dX11_mergeMany_71 : decode cX11_mergeMany 71 = .ok (.aload_n 0, 1) := by decide +kernel
theorem dX11_mergeMany_72 : decode cX11_mergeMany 72 = .ok (.aload_n 0, 1) := by decide +kernel
theorem dX11_mergeMany_73 : decode cX11_mergeMany 73 = .ok (.getfield 53, 3) := by decide +kernel
theorem dX11_mergeMany_76 : decode cX11_mergeMany 76 = .ok (.bipush 6, 2) := by decide +kernel
theorem dX11_mergeMany_78 : decode cX11_mergeMany 78 = .ok (.iload_n 3, 1) := by decide +kernel
theorem dX11_mergeMany_79 : decode cX11_mergeMany 79 = .ok (.imul, 1) := by decide +kernel
theorem dX11_mergeMany_80 : decode cX11_mergeMany 80 = .ok (.iload 4, 2) := by decide +kernel
theorem dX11_mergeMany_82 : decode cX11_mergeMany 82 = .ok (.iadd, 1) := by decide +kernel
theorem dX11_mergeMany_83 : decode cX11_mergeMany 83 = .ok (.aload_n 0, 1) := by decide +kernel
theorem dX11_mergeMany_84 : decode cX11_mergeMany 84 = .ok (.getfield 125, 3) := by decide +kernel
theorem dX11_mergeMany_87 : decode cX11_mergeMany 87 = .ok (.iconst 0, 1) := by decide +kernel
theorem dX11_mergeMany_88 : decode cX11_mergeMany 88 = .ok (.invokevirtual 388, 3) := by decide +kernel
theorem dX11_mergeMany_91 : decode cX11_mergeMany 91 = .ok (.iinc 4 1, 3) := by decide +kernel
theorem dX11_mergeMany_94 : decode cX11_mergeMany 94 = .ok (.goto (-34), 3) := by decide +kernel
theorem dX11_mergeMany_97 : decode cX11_mergeMany 97 = .ok (.iinc 2 1, 3) := by decide +kernel
theorem dX11_mergeMany_100 : decode cX11_mergeMany 100 = .ok (.goto (-89), 3) := by decide +kernel
theorem dX11_mergeMany_103 : decode cX11_mergeMany 103 = .ok (.aload_n 0, 1) := by decide +kernel
theorem dX11_mergeMany_104 : decode cX11_mergeMany 104 = .ok (.iload_n 1, 1) := by decide +kernel
theorem dX11_mergeMany_105 : decode cX11_mergeMany 105 = .ok (.aload_n 0, 1) := by decide +kernel
theorem dX11_mergeMany_106 : decode cX11_mergeMany 106 = .ok (.getfield 394, 3) := by decide +kernel
theorem dX11_mergeMany_109 : decode cX11_mergeMany 109 = .ok (.invokevirtual 292, 3) := by decide +kernel
theorem dX11_mergeMany_112 : decode cX11_mergeMany 112 = .ok (.aload_n 0, 1) := by decide +kernel
theorem dX11_mergeMany_113 : decode cX11_mergeMany 113 = .ok (.aload_n 0, 1) := by decide +kernel
theorem dX11_mergeMany_114 : decode cX11_mergeMany 114 = .ok (.getfield 125, 3) := by decide +kernel
theorem dX11_mergeMany_117 : decode cX11_mergeMany 117 = .ok (.iconst 0, 1) := by decide +kernel
theorem dX11_mergeMany_118 : decode cX11_mergeMany 118 = .ok (.aload_n 0, 1) := by decide +kernel
theorem dX11_mergeMany_119 : decode cX11_mergeMany 119 = .ok (.getfield 394, 3) := by decide +kernel
theorem dX11_mergeMany_122 : decode cX11_mergeMany 122 = .ok (.iload_n 1, 1) := by decide +kernel
theorem dX11_mergeMany_123 : decode cX11_mergeMany 123 = .ok (.invokevirtual 298, 3) := by decide +kernel
theorem dX11_mergeMany_126 : decode cX11_mergeMany 126 = .ok (.aload_n 0, 1) := by decide +kernel
theorem dX11_mergeMany_127 : decode cX11_mergeMany 127 = .ok (.dup, 1) := by decide +kernel
theorem dX11_mergeMany_128 : decode cX11_mergeMany 128 = .ok (.getfield 385, 3) := by decide +kernel
theorem dX11_mergeMany_131 : decode cX11_mergeMany 131 = .ok (.aload_n 0, 1) := by decide +kernel
theorem dX11_mergeMany_132 : decode cX11_mergeMany 132 = .ok (.getfield 442, 3) := by decide +kernel
theorem dX11_mergeMany_135 : decode cX11_mergeMany 135 = .ok (.bipush 6, 2) := by decide +kernel
theorem dX11_mergeMany_137 : decode cX11_mergeMany 137 = .ok (.if_icmp .le 13, 3) := by decide +kernel
theorem dX11_mergeMany_140 : decode cX11_mergeMany 140 = .ok (.aload_n 0, 1) := by decide +kernel
theorem dX11_mergeMany_141 : decode cX11_mergeMany 141 = .ok (.getfield 442, 3) := by decide +kernel
theorem dX11_mergeMany_144 : decode cX11_mergeMany 144 = .ok (.bipush 6, 2) := by decide +kernel
theorem dX11_mergeMany_146 : decode cX11_mergeMany 146 = .ok (.isub, 1) := by decide +kernel
theorem dX11_mergeMany_147 : decode cX11_mergeMany 147 = .ok (.goto 4, 3) := by decide +kernel
theorem dX11_mergeMany_150 : decode cX11_mergeMany 150 = .ok (.iconst 0, 1) := by decide +kernel
theorem dX11_mergeMany_151 : decode cX11_mergeMany 151 = .ok (.iadd, 1) := by decide +kernel
theorem dX11_mergeMany_152 : decode cX11_mergeMany 152 = .ok (.putfield 385, 3) := by decide +kernel
theorem dX11_mergeMany_155 : decode cX11_mergeMany 155 = .ok (.aload_n 0, 1) := by decide +kernel
theorem dX11_mergeMany_156 : decode cX11_mergeMany 156 = .ok (.getfield 442, 3) := by decide +kernel
theorem dX11_mergeMany_159 : decode cX11_mergeMany 159 = .ok (.bipush 6, 2) := by decide +kernel
theorem dX11_mergeMany_161 : decode cX11_mergeMany 161 = .ok (.if_icmp .le 8, 3) := by decide +kernel
theorem dX11_mergeMany_164 : decode cX11_mergeMany 164 = .ok (.bipush 6, 2) := by decide +kernel
theorem dX11_mergeMany_166 : decode cX11_mergeMany 166 = .ok (.goto 7, 3) := by decide +kernel
theorem dX11_mergeMany_169 : decode cX11_mergeMany 169 = .ok (.aload_n 0, 1) := by decide +kernel
theorem dX11_mergeMany_170 : decode cX11_mergeMany 170 = .ok (.getfield 442, 3) := by decide +kernel
theorem dX11_mergeMany_173 : decode cX11_mergeMany 173 = .ok (.istore_n 2, 1) := by decide +kernel
theorem dX11_mergeMany_174 : decode cX11_mergeMany 174 = .ok (.iconst 0, 1) := by decide +kernel
theorem dX11_mergeMany_175 : decode cX11_mergeMany 175 = .ok (.istore_n 3, 1) := by decide +kernel
theorem dX11_mergeMany_176 : decode cX11_mergeMany 176 = .ok (.iload_n 3, 1) := by decide +kernel
theorem dX11_mergeMany_177 : decode cX11_mergeMany 177 = .ok (.aload_n 0, 1) := by decide +kernel
theorem dX11_mergeMany_178 : decode cX11_mergeMany 178 = .ok (.getfield 155, 3) := by decide +kernel
theorem dX11_mergeMany_181 : decode cX11_mergeMany 181 = .ok (.if_icmp .ge 169, 3) := by decide +kernel
theorem dX11_mergeMany_184 : decode cX11_mergeMany 184 = .ok (.bipush 48, 2) := by decide +kernel
theorem dX11_mergeMany_186 : decode cX11_mergeMany 186 = .ok (.iload_n 3, 1) := by decide +kernel
theorem dX11_mergeMany_187 : decode cX11_mergeMany 187 = .ok (.imul, 1) := by decide +kernel
theorem dX11_mergeMany_188 : decode cX11_mergeMany 188 = .ok (.iload_n 1, 1) := by decide +kernel
theorem dX11_mergeMany_189 : decode cX11_mergeMany 189 = .ok (.iadd, 1) := by decide +kernel
theorem dX11_mergeMany_190 : decode cX11_mergeMany 190 = .ok (.istore 4, 2) := by decide +kernel
theorem dX11_mergeMany_192 : decode cX11_mergeMany 192 = .ok (.aload_n 0, 1) := by decide +kernel
theorem dX11_mergeMany_193 : decode cX11_mergeMany 193 = .ok (.iload_n 3, 1) := by decide +kernel
theorem dX11_mergeMany_194 : decode cX11_mergeMany 194 = .ok (.invokevirtual 406, 3) := by decide +kernel
theorem dX11_mergeMany_197 : decode cX11_mergeMany 197 = .ok (.ifCond .eq 147, 3) := by decide +kernel
theorem dX11_mergeMany_200 : decode cX11_mergeMany 200 = .ok (.aload_n 0, 1) := by decide +kernel
theorem dX11_mergeMany_201 : decode cX11_mergeMany 201 = .ok (.getfield 32, 3) := by decide +kernel
theorem dX11_mergeMany_204 : decode cX11_mergeMany 204 = .ok (.iload 4, 2) := by decide +kernel
theorem dX11_mergeMany_206 : decode cX11_mergeMany 206 = .ok (.iconst 1, 1) := by decide +kernel
theorem dX11_mergeMany_207 : decode cX11_mergeMany 207 = .ok (.bastore, 1) := by decide +kernel
theorem dX11_mergeMany_208 : decode cX11_mergeMany 208 = .ok (.aload_n 0, 1) := by decide +kernel
theorem dX11_mergeMany_209 : decode cX11_mergeMany 209 = .ok (.getfield 44, 3) := by decide +kernel
theorem dX11_mergeMany_212 : decode cX11_mergeMany 212 = .ok (.iload 4, 2) := by decide +kernel
theorem dX11_mergeMany_214 : decode cX11_mergeMany 214 = .ok (.iload_n 2, 1) := by decide +kernel
theorem dX11_mergeMany_215 : decode cX11_mergeMany 215 = .ok (.iastore, 1) := by decide +kernel
theorem dX11_mergeMany_216 : decode cX11_mergeMany 216 = .ok (.aload_n 0, 1) := by decide +kernel
theorem dX11_mergeMany_217 : decode cX11_mergeMany 217 = .ok (.getfield 35, 3) := by decide +kernel
theorem dX11_mergeMany_220 : decode cX11_mergeMany 220 = .ok (.iload 4, 2) := by decide +kernel
theorem dX11_mergeMany_222 : decode cX11_mergeMany 222 = .ok (.aload_n 0, 1) := by decide +kernel
theorem dX11_mergeMany_223 : decode cX11_mergeMany 223 = .ok (.getfield 143, 3) := by decide +kernel
theorem dX11_mergeMany_226 : decode cX11_mergeMany 226 = .ok (.iconst 0, 1) := by decide +kernel
theorem dX11_mergeMany_227 : decode cX11_mergeMany 227 = .ok (.iaload, 1) := by decide +kernel
theorem dX11_mergeMany_228 : decode cX11_mergeMany 228 = .ok (.iastore, 1) := by decide +kernel
theorem dX11_mergeMany_229 : decode cX11_mergeMany 229 = .ok (.aload_n 0, 1) := by decide +kernel
theorem dX11_mergeMany_230 : decode cX11_mergeMany 230 = .ok (.getfield 38, 3) := by decide +kernel
theorem dX11_mergeMany_233 : decode cX11_mergeMany 233 = .ok (.iload 4, 2) := by decide +kernel
theorem dX11_mergeMany_235 : decode cX11_mergeMany 235 = .ok (.aload_n 0, 1) := by decide +kernel
theorem dX11_mergeMany_236 : decode cX11_mergeMany 236 = .ok (.getfield 146, 3) := by decide +kernel
theorem dX11_mergeMany_239 : decode cX11_mergeMany 239 = .ok (.iconst 0, 1) := by decide +kernel
theorem dX11_mergeMany_240 : decode cX11_mergeMany 240 = .ok (.iaload, 1) := by decide +kernel
theorem dX11_mergeMany_241 : decode cX11_mergeMany 241 = .ok (.iastore, 1) := by decide +kernel
theorem dX11_mergeMany_242 : decode cX11_mergeMany 242 = .ok (.aload_n 0, 1) := by decide +kernel
theorem dX11_mergeMany_243 : decode cX11_mergeMany 243 = .ok (.aload_n 0, 1) := by decide +kernel
theorem dX11_mergeMany_244 : decode cX11_mergeMany 244 = .ok (.getfield 125, 3) := by decide +kernel
theorem dX11_mergeMany_247 : decode cX11_mergeMany 247 = .ok (.iconst 0, 1) := by decide +kernel
theorem dX11_mergeMany_248 : decode cX11_mergeMany 248 = .ok (.aload_n 0, 1) := by decide +kernel
theorem dX11_mergeMany_249 : decode cX11_mergeMany 249 = .ok (.getfield 41, 3) := by decide +kernel
theorem dX11_mergeMany_252 : decode cX11_mergeMany 252 = .ok (.iload 4, 2) := by decide +kernel
theorem dX11_mergeMany_254 : decode cX11_mergeMany 254 = .ok (.invokevirtual 234, 3) := by decide +kernel
theorem dX11_mergeMany_257 : decode cX11_mergeMany 257 = .ok (.iconst 0, 1) := by decide +kernel
theorem dX11_mergeMany_258 : decode cX11_mergeMany 258 = .ok (.istore 5, 2) := by decide +kernel
theorem dX11_mergeMany_260 : decode cX11_mergeMany 260 = .ok (.iload 5, 2) := by decide +kernel
theorem dX11_mergeMany_262 : decode cX11_mergeMany 262 = .ok (.iload_n 2, 1) := by decide +kernel
theorem dX11_mergeMany_263 : decode cX11_mergeMany 263 = .ok (.if_icmp .ge 71, 3) := by decide +kernel
theorem dX11_mergeMany_266 : decode cX11_mergeMany 266 = .ok (.aload_n 0, 1) := by decide +kernel
theorem dX11_mergeMany_267 : decode cX11_mergeMany 267 = .ok (.getfield 47, 3) := by decide +kernel
theorem dX11_mergeMany_270 : decode cX11_mergeMany 270 = .ok (.bipush 6, 2) := by decide +kernel
theorem dX11_mergeMany_272 : decode cX11_mergeMany 272 = .ok (.iload 4, 2) := by decide +kernel
theorem dX11_mergeMany_274 : decode cX11_mergeMany 274 = .ok (.imul, 1) := by decide +kernel
theorem dX11_mergeMany_275 : decode cX11_mergeMany 275 = .ok (.iload 5, 2) := by decide +kernel
theorem dX11_mergeMany_277 : decode cX11_mergeMany 277 = .ok (.iadd, 1) := by decide +kernel
theorem dX11_mergeMany_278 : decode cX11_mergeMany 278 = .ok (.aload_n 0, 1) := by decide +kernel
theorem dX11_mergeMany_279 : decode cX11_mergeMany 279 = .ok (.getfield 143, 3) := by decide +kernel
theorem dX11_mergeMany_282 : decode cX11_mergeMany 282 = .ok (.iload 5, 2) := by decide +kernel
theorem dX11_mergeMany_284 : decode cX11_mergeMany 284 = .ok (.iaload, 1) := by decide +kernel
theorem dX11_mergeMany_285 : decode cX11_mergeMany 285 = .ok (.iastore, 1) := by decide +kernel
theorem dX11_mergeMany_286 : decode cX11_mergeMany 286 = .ok (.aload_n 0, 1) := by decide +kernel
theorem dX11_mergeMany_287 : decode cX11_mergeMany 287 = .ok (.getfield 50, 3) := by decide +kernel
theorem dX11_mergeMany_290 : decode cX11_mergeMany 290 = .ok (.bipush 6, 2) := by decide +kernel
theorem dX11_mergeMany_292 : decode cX11_mergeMany 292 = .ok (.iload 4, 2) := by decide +kernel
theorem dX11_mergeMany_294 : decode cX11_mergeMany 294 = .ok (.imul, 1) := by decide +kernel
theorem dX11_mergeMany_295 : decode cX11_mergeMany 295 = .ok (.iload 5, 2) := by decide +kernel
theorem dX11_mergeMany_297 : decode cX11_mergeMany 297 = .ok (.iadd, 1) := by decide +kernel
theorem dX11_mergeMany_298 : decode cX11_mergeMany 298 = .ok (.aload_n 0, 1) := by decide +kernel
theorem dX11_mergeMany_299 : decode cX11_mergeMany 299 = .ok (.getfield 146, 3) := by decide +kernel
theorem dX11_mergeMany_302 : decode cX11_mergeMany 302 = .ok (.iload 5, 2) := by decide +kernel
theorem dX11_mergeMany_304 : decode cX11_mergeMany 304 = .ok (.iaload, 1) := by decide +kernel
theorem dX11_mergeMany_305 : decode cX11_mergeMany 305 = .ok (.iastore, 1) := by decide +kernel
theorem dX11_mergeMany_306 : decode cX11_mergeMany 306 = .ok (.aload_n 0, 1) := by decide +kernel
theorem dX11_mergeMany_307 : decode cX11_mergeMany 307 = .ok (.aload_n 0, 1) := by decide +kernel
theorem dX11_mergeMany_308 : decode cX11_mergeMany 308 = .ok (.getfield 149, 3) := by decide +kernel
theorem dX11_mergeMany_311 : decode cX11_mergeMany 311 = .ok (.iload 5, 2) := by decide +kernel
theorem dX11_mergeMany_313 : decode cX11_mergeMany 313 = .ok (.aload_n 0, 1) := by decide +kernel
theorem dX11_mergeMany_314 : decode cX11_mergeMany 314 = .ok (.getfield 53, 3) := by decide +kernel
theorem dX11_mergeMany_317 : decode cX11_mergeMany 317 = .ok (.bipush 6, 2) := by decide +kernel
theorem dX11_mergeMany_319 : decode cX11_mergeMany 319 = .ok (.iload 4, 2) := by decide +kernel
theorem dX11_mergeMany_321 : decode cX11_mergeMany 321 = .ok (.imul, 1) := by decide +kernel
theorem dX11_mergeMany_322 : decode cX11_mergeMany 322 = .ok (.iload 5, 2) := by decide +kernel
theorem dX11_mergeMany_324 : decode cX11_mergeMany 324 = .ok (.iadd, 1) := by decide +kernel
theorem dX11_mergeMany_325 : decode cX11_mergeMany 325 = .ok (.invokevirtual 234, 3) := by decide +kernel
theorem dX11_mergeMany_328 : decode cX11_mergeMany 328 = .ok (.iinc 5 1, 3) := by decide +kernel
theorem dX11_mergeMany_331 : decode cX11_mergeMany 331 = .ok (.goto (-71), 3) := by decide +kernel
theorem dX11_mergeMany_334 : decode cX11_mergeMany 334 = .ok (.aload_n 0, 1) := by decide +kernel
theorem dX11_mergeMany_335 : decode cX11_mergeMany 335 = .ok (.dup, 1) := by decide +kernel
theorem dX11_mergeMany_336 : decode cX11_mergeMany 336 = .ok (.getfield 400, 3) := by decide +kernel
theorem dX11_mergeMany_339 : decode cX11_mergeMany 339 = .ok (.iconst 1, 1) := by decide +kernel
theorem dX11_mergeMany_340 : decode cX11_mergeMany 340 = .ok (.iadd, 1) := by decide +kernel
theorem dX11_mergeMany_341 : decode cX11_mergeMany 341 = .ok (.putfield 400, 3) := by decide +kernel
theorem dX11_mergeMany_344 : decode cX11_mergeMany 344 = .ok (.iinc 3 1, 3) := by decide +kernel
theorem dX11_mergeMany_347 : decode cX11_mergeMany 347 = .ok (.goto (-171), 3) := by decide +kernel
theorem dX11_mergeMany_350 : decode cX11_mergeMany 350 = .ok (.aload_n 0, 1) := by decide +kernel
theorem dX11_mergeMany_351 : decode cX11_mergeMany 351 = .ok (.iload_n 1, 1) := by decide +kernel
theorem dX11_mergeMany_352 : decode cX11_mergeMany 352 = .ok (.aload_n 0, 1) := by decide +kernel
theorem dX11_mergeMany_353 : decode cX11_mergeMany 353 = .ok (.getfield 394, 3) := by decide +kernel
theorem dX11_mergeMany_356 : decode cX11_mergeMany 356 = .ok (.iconst (-1), 1) := by decide +kernel
theorem dX11_mergeMany_357 : decode cX11_mergeMany 357 = .ok (.invokevirtual 315, 3) := by decide +kernel
theorem dX11_mergeMany_360 : decode cX11_mergeMany 360 = .ok (.return_, 1) := by decide +kernel
abbrev wmX11_mergeMany : List Cond := .code yX11_mergeMany cX11_mergeMany 6 none :: mBig
def f_X11_mergeMany_L260 (a1 : Int32) (b16 : Int32) (x22 : Int32) (x27 : Int32) (J334 : gM → Option gM) (J344 : gM → Option gM) (J350 : gM → Option gM) : Nat → Int32 → gM → Option gM
  | 0, _, _ => none
  | n46 + 1, x44, M45 => (if b16 ≤ x44 then J334 M45 else rd M45 m_candidateValue 24 x44 (fun v48 => wr M45 m_versionValue 1152 (((6 : Int32) * x27) + x44) v48 (fun M49 => rd M49 m_candidateSize 24 x44 (fun v50 => wr M49 m_versionSize 1152 (((6 : Int32) * x27) + x44) v50 (fun M51 => o1 (f_X11_copyTo M51 m_candidateVector x44 m_versionVector (((6 : Int32) * x27) + x44)) (fun M53 => lt (x44 + 1) (fun x54 => f_X11_mergeMany_L260 a1 b16 x22 x27 J334 J344 J350 n46 x54 M53)))))))
def f_X11_mergeMany_L176 (a1 : Int32) (b16 : Int32) (J350 : gM → Option gM) : Nat → Int32 → gM → Option gM
  | 0, _, _ => none
  | n24 + 1, x22, M23 => lt (M23 m_o 0) (fun v25 => (if v25 ≤ x22 then J350 M23 else lt ((((48 : Int32) * x22) + a1)) (fun x27 => o1 (f_X11_isOf M23 x22) (fun v29 => jn (fun (M30 : gM) => lt (x22 + 1) (fun x31 => f_X11_mergeMany_L176 a1 b16 J350 n24 x31 M30)) (fun J344 => (if v29 = 0 then J344 M23 else wz M23 m_has 192 x27 (1 : Int32) (fun M33 => wr M33 m_versions 192 x27 b16 (fun M34 => rd M34 m_candidateValue 24 (0 : Int32) (fun v35 => wr M34 m_value 192 x27 v35 (fun M36 => rd M36 m_candidateSize 24 (0 : Int32) (fun v37 => wr M36 m_size 192 x27 v37 (fun M38 => o1 (f_X11_copyTo M38 m_row (0 : Int32) m_vector x27) (fun M40 => jn (fun (M41 : gM) => lt (M41 m_o 55) (fun v42 => lt (gset M41 m_o 55 (v42 + (1 : Int32))) (fun M43 => J344 M43))) (fun J334 => f_X11_mergeMany_L260 a1 b16 x22 x27 J334 J344 J350 100 (0 : Int32) M40))))))))))))))
def f_X11_mergeMany_L60 (a1 : Int32) (x59 : Int32) (x64 : Int32) (J97 : gM → Option gM) (J103 : gM → Option gM) : Nat → Int32 → gM → Option gM
  | 0, _, _ => none
  | n76 + 1, x74, M75 => rd M75 m_versions 192 x64 (fun v77 => (if v77 ≤ x74 then J97 M75 else o1 (f_X11_raise M75 m_versionVector (((6 : Int32) * x64) + x74) m_row (0 : Int32)) (fun M80 => lt (x74 + 1) (fun x81 => f_X11_mergeMany_L60 a1 x59 x64 J97 J103 n76 x81 M80))))
def f_X11_mergeMany_L11 (a1 : Int32) (J103 : gM → Option gM) : Nat → Int32 → gM → Option gM
  | 0, _, _ => none
  | n61 + 1, x59, M60 => lt (M60 m_o 0) (fun v62 => (if v62 ≤ x59 then J103 M60 else lt ((((48 : Int32) * x59) + a1)) (fun x64 => o1 (f_X11_isOf M60 x59) (fun v66 => jn (fun (M67 : gM) => lt (x59 + 1) (fun x68 => f_X11_mergeMany_L11 a1 J103 n61 x68 M67)) (fun J97 => (if v66 = 0 then J97 M60 else rd M60 m_has 192 x64 (fun v70 => (if v70 = 0 then J97 M60 else o1 (f_X11_raise M60 m_vector x64 m_row (0 : Int32)) (fun M73 => f_X11_mergeMany_L60 a1 x59 x64 J97 J103 100 (0 : Int32) M73)))))))))
def f_X11_mergeMany (M : gM) (a1 : Int32) : Option gM :=
  o1 (f_X11_clearRow M m_row (0 : Int32)) (fun M2 => jn (fun (M3 : gM) => lt (M3 m_o 53) (fun v4 => o1 (f_X11_mark M3 a1 v4) (fun M6 => lt (M6 m_o 53) (fun v7 => o1 (f_X11_count M6 m_row (0 : Int32) v7 a1) (fun M9 => lt (M9 m_o 46) (fun v10 => lt (M9 m_o 61) (fun v11 => jn (fun (q : (Int32 × gM)) => match q with | (b12, M13) => lt (gset M13 m_o 46 (v10 + b12)) (fun M14 => lt (M14 m_o 61) (fun v15 => jn (fun (q : (Int32 × gM)) => match q with | (b16, M17) => jn (fun (M18 : gM) => lt (M18 m_o 53) (fun v19 => o1 (f_X11_endPromises M18 a1 v19 (-1 : Int32)) (fun M21 => some M21))) (fun J350 => f_X11_mergeMany_L176 a1 b16 J350 100 (0 : Int32) M17)) (fun J173 => (if v15 ≤ (6 : Int32) then lt (M14 m_o 61) (fun v56 => J173 (v56, M14)) else J173 ((6 : Int32), M14)))))) (fun J151 => (if v11 ≤ (6 : Int32) then J151 ((0 : Int32), M9) else lt (M9 m_o 61) (fun v58 => J151 ((v58 - (6 : Int32)), M9))))))))))) (fun J103 => f_X11_mergeMany_L11 a1 J103 100 (0 : Int32) M2))
set_option maxHeartbeats 4000000 in
set_option maxRecDepth 100000 in
theorem t_X11_mergeMany (l : Launch) (D : va_G) (dA : Nat → ClassId) (A : gI → Nat) (hJ : gJ mLive A) {M : gM} {a1 : Int32}  {y : gM} (h : f_X11_mergeMany M a1 = some y) : mMv l yX11_mergeMany wmX11_mergeMany ({ frames := 1, cells := 0, slots := 0, locals := 25 } : Room) D dA A [.ref (A m_o), .int a1] M y := by
  refine Met.ofW (cc := cX11_mergeMany) (maxL := 6) (ret := none) (by decide) rfl ?_
  intro p e s m args below meth c s₁ B hml hv
  obtain ⟨rfl, hP, hK⟩ := hv
  generalize hargs : ([.ref (A m_o), .int a1] : List Value).toArray = args at B ⊢
  have S : CallFix p m c cX11_mergeMany 6 s args wmX11_mergeMany RX11 := ⟨B.exec, B.bytes, hml, findClass_of_methodNamed B.named, atoms_spec (ws := wmX11_mergeMany) B.pre⟩
  obtain ⟨hx, hb, -, hown, hts⟩ := id S
  have hr := B.returns
  have hlocks := B.notSynchronized
  have X : gX D vwCl dA mLive A (gA mLive A) s := ⟨hK, hJ, fun i hi => ⟨i, hi, rfl⟩⟩
  have Z : gZ D mLay dA mLive A (gA mLive A) s.heap M s.heap [] := ⟨hP, va_S.rf⟩
  have hin : ∀ w ∈ wsX110, w ∈ wmX11_mergeMany := m_in
  have hl_32 := hts (.fieldLink RX11 32 "ReplicaFilesModel" "has" "[Z") (mBc 12 rfl)
  have hl_35 := hts (.fieldLink RX11 35 "ReplicaFilesModel" "value" "[I") (mBc 13 rfl)
  have hl_38 := hts (.fieldLink RX11 38 "ReplicaFilesModel" "size" "[I") (mBc 14 rfl)
  have hl_41 := hts (.fieldLink RX11 41 "ReplicaFilesModel" "vector" "[I") (mBc 15 rfl)
  have hl_44 := hts (.fieldLink RX11 44 "ReplicaFilesModel" "versions" "[I") (mBc 16 rfl)
  have hl_47 := hts (.fieldLink RX11 47 "ReplicaFilesModel" "versionValue" "[I") (mBc 17 rfl)
  have hl_50 := hts (.fieldLink RX11 50 "ReplicaFilesModel" "versionSize" "[I") (mBc 18 rfl)
  have hl_53 := hts (.fieldLink RX11 53 "ReplicaFilesModel" "versionVector" "[I") (mBc 19 rfl)
  have hl_125 := hts (.fieldLink RX11 125 "ReplicaFilesModel" "row" "[I") (mBc 43 rfl)
  have hl_143 := hts (.fieldLink RX11 143 "ReplicaFilesModel" "candidateValue" "[I") (mBc 49 rfl)
  have hl_146 := hts (.fieldLink RX11 146 "ReplicaFilesModel" "candidateSize" "[I") (mBc 50 rfl)
  have hl_149 := hts (.fieldLink RX11 149 "ReplicaFilesModel" "candidateVector" "[I") (mBc 51 rfl)
  have hl_155 := hts (.fieldLink RX11 155 "ReplicaFilesModel" "servers" "I") (mBc 53 rfl)
  have hl_385 := hts (.fieldLink RX11 385 "ReplicaFilesModel" "lost" "I") (mBc 268 rfl)
  have hl_394 := hts (.fieldLink RX11 394 "ReplicaFilesModel" "group" "I") (mBc 291 rfl)
  have hl_400 := hts (.fieldLink RX11 400 "ReplicaFilesModel" "changes" "I") (mBc 292 rfl)
  have hl_442 := hts (.fieldLink RX11 442 "ReplicaFilesModel" "candidates" "I") (mBc 319 rfl)
  have hl := lv_entry ([.ref (A m_o), .int a1]) (n := 6) (Nat.le_of_ble_eq_true rfl)
  rw [← hargs, lg_entry_eq, hargs]
  generalize (lg_sl ([.ref (A m_o), .int a1]) ++ List.replicate (6 - (lg_sl ([.ref (A m_o), .int a1])).length) Slot.unset).toArray = ls at hl ⊢
  have hl : lv_has ls 6 [(0, .ref (A m_o)), (1, .int a1)] := hl
  unfold f_X11_mergeMany at h
  refine lv_aload_n hx hb dX11_mergeMany_0 rfl (lv_at hl 0 rfl) ?_
  refine lv_aload_n hx hb dX11_mergeMany_1 rfl (lv_at hl 0 rfl) ?_
  refine mr_row S X Z hin hl_125 dX11_mergeMany_2 ?_
  refine lv_iconst (v := (0 : Int32)) hx hb dX11_mergeMany_5 (by decide) ?_
  obtain ⟨M2, hc1, h⟩ := o1_e h
  refine g_Vv (As := [.ref (A m_row), .int (0 : Int32)]) (rest := []) S X Z mlv_o rfl rfl (t_X11_clearRow l D dA A hJ ⟨ml_row, rfl⟩ hc1) (cwV 2 hts (mGV (mB 108 rfl) (mB 109 rfl) (mB 110 rfl) (mB 63 rfl) (mB 99 rfl)) rfl rfl rfl (by decide +kernel) ⟨Nat.le_of_ble_eq_true rfl, Nat.le_of_ble_eq_true rfl⟩) rfl hl.1 rfl (Nat.le_of_ble_eq_true rfl) dX11_mergeMany_6 ⟨Nat.zero_le _, Nat.zero_le _⟩ (fun H locs Z => ?_)
  refine lv_iconst (v := (0 : Int32)) hx hb dX11_mergeMany_9 (by decide) ?_
  refine lv_istore_n (lv' := [(2, .int (0 : Int32)), (0, .ref (A m_o)), (1, .int a1)]) hx hb dX11_mergeMany_10 rfl hl (by decide) rfl (fun ls hl => ?_)
  obtain ⟨J103, eJ103, h⟩ := jn_e h
  have hJ103 : ∀ (M3 : gM) (H : Heap) (locs : List Loc) (ls : Array Slot), gZ D mLay dA mLive A (gA mLive A) s.heap M3 H locs → lv_has ls 6 [(0, .ref (A m_o)), (1, .int a1)] → J103 M3 = some y → W p l e (headSpec wmX11_mergeMany ({ frames := 1, cells := 0, slots := 0, locals := 25 } : Room)).room s m args below meth c H locs 0 0 (MQ below (mQv D dA A y) args s 0 0 (gA mLive A)) (F0 m 103 ls []) := by
    intro M3 H locs ls Z hl h
    rw [eJ103] at h
    try dsimp only at h
    refine lv_aload_n hx hb dX11_mergeMany_103 rfl (lv_at hl 0 rfl) ?_
    refine lv_iload_n hx hb dX11_mergeMany_104 rfl (lv_at hl 1 rfl) ?_
    refine lv_aload_n hx hb dX11_mergeMany_105 rfl (lv_at hl 0 rfl) ?_
    refine mr_group S X Z hin hl_394 dX11_mergeMany_106 h (fun v4 h => ?_)
    obtain ⟨M6, hc5, h⟩ := o1_e h
    refine g_Vv (As := [.int a1, .int v4]) (rest := []) S X Z mlv_o rfl rfl (t_X11_mark l D dA A hJ  hc5) (cwV 2 hts (mGV (mB 190 rfl) (mB 191 rfl) (mB 192 rfl) (mB 63 rfl) (mB 100 rfl)) rfl rfl rfl (by decide +kernel) ⟨Nat.le_of_ble_eq_true rfl, Nat.le_of_ble_eq_true rfl⟩) rfl hl.1 rfl (Nat.le_of_ble_eq_true rfl) dX11_mergeMany_109 ⟨Nat.zero_le _, Nat.zero_le _⟩ (fun H locs Z => ?_)
    refine lv_aload_n hx hb dX11_mergeMany_112 rfl (lv_at hl 0 rfl) ?_
    refine lv_aload_n hx hb dX11_mergeMany_113 rfl (lv_at hl 0 rfl) ?_
    refine mr_row S X Z hin hl_125 dX11_mergeMany_114 ?_
    refine lv_iconst (v := (0 : Int32)) hx hb dX11_mergeMany_117 (by decide) ?_
    refine lv_aload_n hx hb dX11_mergeMany_118 rfl (lv_at hl 0 rfl) ?_
    refine mr_group S X Z hin hl_394 dX11_mergeMany_119 h (fun v7 h => ?_)
    refine lv_iload_n hx hb dX11_mergeMany_122 rfl (lv_at hl 1 rfl) ?_
    obtain ⟨M9, hc8, h⟩ := o1_e h
    refine g_Vv (As := [.ref (A m_row), .int (0 : Int32), .int v7, .int a1]) (rest := []) S X Z mlv_o rfl rfl (t_X11_count l D dA A hJ ⟨ml_row, rfl⟩ hc8) (cwV 4 hts (mGV (mB 193 rfl) (mB 194 rfl) (mB 195 rfl) (mB 63 rfl) (mB 101 rfl)) rfl rfl rfl (by decide +kernel) ⟨Nat.le_of_ble_eq_true rfl, Nat.le_of_ble_eq_true rfl⟩) rfl hl.1 rfl (Nat.le_of_ble_eq_true rfl) dX11_mergeMany_123 ⟨Nat.zero_le _, Nat.zero_le _⟩ (fun H locs Z => ?_)
    refine lv_aload_n hx hb dX11_mergeMany_126 rfl (lv_at hl 0 rfl) ?_
    refine lv_dup hx hb dX11_mergeMany_127 rfl ?_
    refine mr_lost S X Z hin hl_385 dX11_mergeMany_128 h (fun v10 h => ?_)
    refine lv_aload_n hx hb dX11_mergeMany_131 rfl (lv_at hl 0 rfl) ?_
    refine mr_candidates S X Z hin hl_442 dX11_mergeMany_132 h (fun v11 h => ?_)
    refine lv_bipush (v := (6 : Int32)) hx hb dX11_mergeMany_135 (by decide) ?_
    obtain ⟨J151, eJ151, h⟩ := jn_e h
    have hJ151 : ∀ (b12 : Int32) (M13 : gM) (H : Heap) (locs : List Loc) (ls : Array Slot), gZ D mLay dA mLive A (gA mLive A) s.heap M13 H locs → lv_has ls 6 [(0, .ref (A m_o)), (1, .int a1)] → J151 (b12, M13) = some y → W p l e (headSpec wmX11_mergeMany ({ frames := 1, cells := 0, slots := 0, locals := 25 } : Room)).room s m args below meth c H locs 0 0 (MQ below (mQv D dA A y) args s 0 0 (gA mLive A)) (F0 m 151 ls [.int b12, .int v10, .ref (A m_o)]) := by
      intro b12 M13 H locs ls Z hl h
      rw [eJ151] at h
      try dsimp only at h
      refine lv_iadd hx hb dX11_mergeMany_151 ?_
      refine mp_lost S X Z hin hl_385 dX11_mergeMany_152 h (fun M14 H locs Z h => ?_)
      refine lv_aload_n hx hb dX11_mergeMany_155 rfl (lv_at hl 0 rfl) ?_
      refine mr_candidates S X Z hin hl_442 dX11_mergeMany_156 h (fun v15 h => ?_)
      refine lv_bipush (v := (6 : Int32)) hx hb dX11_mergeMany_159 (by decide) ?_
      obtain ⟨J173, eJ173, h⟩ := jn_e h
      have hJ173 : ∀ (b16 : Int32) (M17 : gM) (H : Heap) (locs : List Loc) (ls : Array Slot), gZ D mLay dA mLive A (gA mLive A) s.heap M17 H locs → lv_has ls 6 [(0, .ref (A m_o)), (1, .int a1)] → J173 (b16, M17) = some y → W p l e (headSpec wmX11_mergeMany ({ frames := 1, cells := 0, slots := 0, locals := 25 } : Room)).room s m args below meth c H locs 0 0 (MQ below (mQv D dA A y) args s 0 0 (gA mLive A)) (F0 m 173 ls [.int b16]) := by
        intro b16 M17 H locs ls Z hl h
        rw [eJ173] at h
        try dsimp only at h
        refine lv_istore_n (lv' := [(2, .int b16), (0, .ref (A m_o)), (1, .int a1)]) hx hb dX11_mergeMany_173 rfl hl (by decide) rfl (fun ls hl => ?_)
        refine lv_iconst (v := (0 : Int32)) hx hb dX11_mergeMany_174 (by decide) ?_
        refine lv_istore_n (lv' := [(3, .int (0 : Int32)), (2, .int b16), (0, .ref (A m_o)), (1, .int a1)]) hx hb dX11_mergeMany_175 rfl hl (by decide) rfl (fun ls hl => ?_)
        obtain ⟨J350, eJ350, h⟩ := jn_e h
        have hJ350 : ∀ (M18 : gM) (H : Heap) (locs : List Loc) (ls : Array Slot), gZ D mLay dA mLive A (gA mLive A) s.heap M18 H locs → lv_has ls 6 [(0, .ref (A m_o)), (1, .int a1)] → J350 M18 = some y → W p l e (headSpec wmX11_mergeMany ({ frames := 1, cells := 0, slots := 0, locals := 25 } : Room)).room s m args below meth c H locs 0 0 (MQ below (mQv D dA A y) args s 0 0 (gA mLive A)) (F0 m 350 ls []) := by
          intro M18 H locs ls Z hl h
          rw [eJ350] at h
          try dsimp only at h
          refine lv_aload_n hx hb dX11_mergeMany_350 rfl (lv_at hl 0 rfl) ?_
          refine lv_iload_n hx hb dX11_mergeMany_351 rfl (lv_at hl 1 rfl) ?_
          refine lv_aload_n hx hb dX11_mergeMany_352 rfl (lv_at hl 0 rfl) ?_
          refine mr_group S X Z hin hl_394 dX11_mergeMany_353 h (fun v19 h => ?_)
          refine lv_iconst (v := (-1 : Int32)) hx hb dX11_mergeMany_356 (by decide) ?_
          obtain ⟨M21, hc20, h⟩ := o1_e h
          refine g_Vv (As := [.int a1, .int v19, .int (-1 : Int32)]) (rest := []) S X Z mlv_o rfl rfl (t_X11_endPromises l D dA A hJ  hc20) (cwV 3 hts (mGV (mB 211 rfl) (mB 212 rfl) (mB 213 rfl) (mB 63 rfl) (mB 196 rfl)) rfl rfl rfl (by decide +kernel) ⟨Nat.le_of_ble_eq_true rfl, Nat.le_of_ble_eq_true rfl⟩) rfl hl.1 rfl (Nat.le_of_ble_eq_true rfl) dX11_mergeMany_357 ⟨Nat.zero_le _, Nat.zero_le _⟩ (fun H locs Z => ?_)
          have hy := Option.some.inj h
          subst hy
          exact g_rv S Z hr hlocks dX11_mergeMany_360
        have hL176 : ∀ (n : Nat) (x22 : Int32) (M23 : gM) (H : Heap) (locs : List Loc) (ls : Array Slot), gZ D mLay dA mLive A (gA mLive A) s.heap M23 H locs → lv_has ls 6 [(0, .ref (A m_o)), (1, .int a1), (2, .int b16), (3, .int x22)] → f_X11_mergeMany_L176 a1 b16 J350 n x22 M23 = some y → W p l e (headSpec wmX11_mergeMany ({ frames := 1, cells := 0, slots := 0, locals := 25 } : Room)).room s m args below meth c H locs 0 0 (MQ below (mQv D dA A y) args s 0 0 (gA mLive A)) (F0 m 176 ls []) := by
          intro n
          induction n with
          | zero =>
            intro x22 M23 H locs ls Z hl h
            rw [f_X11_mergeMany_L176] at h
            cases h
          | succ n24 ih176 =>
            intro x22 M23 H locs ls Z hl h
            rw [f_X11_mergeMany_L176] at h
            refine lv_iload_n hx hb dX11_mergeMany_176 rfl (lv_at hl 3 rfl) ?_
            refine lv_aload_n hx hb dX11_mergeMany_177 rfl (lv_at hl 0 rfl) ?_
            refine mr_servers S X Z hin hl_155 dX11_mergeMany_178 h (fun v25 h => ?_)
            refine lv_icmp_ge (tgt := 350) hx hb dX11_mergeMany_181 (by decide) (fun c26 => ?_) (fun c26 => ?_)
            · have h := if_t c26 h
              exact hJ350 M23 _ _ _ Z (lv_sub hl [0, 1] rfl) h
            · have h := if_f c26 h
              refine lv_bipush (v := (48 : Int32)) hx hb dX11_mergeMany_184 (by decide) ?_
              refine lv_iload_n hx hb dX11_mergeMany_186 rfl (lv_at hl 3 rfl) ?_
              refine lv_imul hx hb dX11_mergeMany_187 ?_
              refine lv_iload_n hx hb dX11_mergeMany_188 rfl (lv_at hl 1 rfl) ?_
              refine lv_iadd hx hb dX11_mergeMany_189 ?_
              refine g_topi h (fun x27 h => ?_)
              refine lv_istore (lv' := [(4, .int x27), (0, .ref (A m_o)), (1, .int a1), (2, .int b16), (3, .int x22)]) hx hb dX11_mergeMany_190 hl (by decide) rfl (fun ls hl => ?_)
              refine lv_aload_n hx hb dX11_mergeMany_192 rfl (lv_at hl 1 rfl) ?_
              refine lv_iload_n hx hb dX11_mergeMany_193 rfl (lv_at hl 4 rfl) ?_
              obtain ⟨v29, hc28, h⟩ := o1_e h
              refine g_Vi (As := [.int x22]) (rest := []) S X Z mlv_o rfl rfl (t_X11_isOf l D dA A hJ  hc28) (cwV 1 hts (mGV (mB 293 rfl) (mB 294 rfl) (mB 295 rfl) (mB 63 rfl) (mB 290 rfl)) rfl rfl rfl (by decide +kernel) ⟨Nat.le_of_ble_eq_true rfl, Nat.le_of_ble_eq_true rfl⟩) rfl hl.1 rfl (Nat.le_of_ble_eq_true rfl) dX11_mergeMany_194 ⟨Nat.zero_le _, Nat.zero_le _⟩ (fun H locs Z => ?_)
              obtain ⟨J344, eJ344, h⟩ := jn_e h
              have hJ344 : ∀ (M30 : gM) (H : Heap) (locs : List Loc) (ls : Array Slot), gZ D mLay dA mLive A (gA mLive A) s.heap M30 H locs → lv_has ls 6 [(0, .ref (A m_o)), (1, .int a1), (2, .int b16), (3, .int x22)] → J344 M30 = some y → W p l e (headSpec wmX11_mergeMany ({ frames := 1, cells := 0, slots := 0, locals := 25 } : Room)).room s m args below meth c H locs 0 0 (MQ below (mQv D dA A y) args s 0 0 (gA mLive A)) (F0 m 344 ls []) := by
                intro M30 H locs ls Z hl h
                rw [eJ344] at h
                try dsimp only at h
                obtain ⟨x31, ex31, h⟩ := lt_e h
                refine lv_iinc (v := x31) (lv' := [(3, .int x31), (0, .ref (A m_o)), (1, .int a1), (2, .int b16)]) hx hb dX11_mergeMany_344 hl (k := 3) rfl (by rw [ex31]; rfl) (by decide) rfl (fun ls hl => ?_)
                refine lv_goto (tgt := 176) hx hb dX11_mergeMany_347 (by decide) ?_
                exact ih176 x31 M30 _ _ _ Z (lv_sub hl [1, 2, 3, 0] rfl) h
              refine lv_if_eq (tgt := 344) hx hb dX11_mergeMany_197 (by decide) (fun c32 => ?_) (fun c32 => ?_)
              · have h := if_t c32 h
                exact hJ344 M23 _ _ _ Z (lv_sub hl [1, 2, 3, 4] rfl) h
              · have h := if_f c32 h
                refine lv_aload_n hx hb dX11_mergeMany_200 rfl (lv_at hl 1 rfl) ?_
                refine mr_has S X Z hin hl_32 dX11_mergeMany_201 ?_
                refine lv_iload hx hb dX11_mergeMany_204 (lv_at hl 0 rfl) ?_
                refine lv_iconst (v := (1 : Int32)) hx hb dX11_mergeMany_206 (by decide) ?_
                refine g_zast S X Z ml_has rfl dX11_mergeMany_207 h (fun M33 H locs Z h => ?_)
                refine lv_aload_n hx hb dX11_mergeMany_208 rfl (lv_at hl 1 rfl) ?_
                refine mr_versions S X Z hin hl_44 dX11_mergeMany_209 ?_
                refine lv_iload hx hb dX11_mergeMany_212 (lv_at hl 0 rfl) ?_
                refine lv_iload_n hx hb dX11_mergeMany_214 rfl (lv_at hl 3 rfl) ?_
                refine g_iast S X Z ml_versions rfl dX11_mergeMany_215 h (fun M34 H locs Z h => ?_)
                refine lv_aload_n hx hb dX11_mergeMany_216 rfl (lv_at hl 1 rfl) ?_
                refine mr_value S X Z hin hl_35 dX11_mergeMany_217 ?_
                refine lv_iload hx hb dX11_mergeMany_220 (lv_at hl 0 rfl) ?_
                refine lv_aload_n hx hb dX11_mergeMany_222 rfl (lv_at hl 1 rfl) ?_
                refine mr_candidateValue S X Z hin hl_143 dX11_mergeMany_223 ?_
                refine lv_iconst (v := (0 : Int32)) hx hb dX11_mergeMany_226 (by decide) ?_
                refine g_iald S X Z ml_candidateValue rfl dX11_mergeMany_227 h (fun v35 h => ?_)
                refine g_iast S X Z ml_value rfl dX11_mergeMany_228 h (fun M36 H locs Z h => ?_)
                refine lv_aload_n hx hb dX11_mergeMany_229 rfl (lv_at hl 1 rfl) ?_
                refine mr_size S X Z hin hl_38 dX11_mergeMany_230 ?_
                refine lv_iload hx hb dX11_mergeMany_233 (lv_at hl 0 rfl) ?_
                refine lv_aload_n hx hb dX11_mergeMany_235 rfl (lv_at hl 1 rfl) ?_
                refine mr_candidateSize S X Z hin hl_146 dX11_mergeMany_236 ?_
                refine lv_iconst (v := (0 : Int32)) hx hb dX11_mergeMany_239 (by decide) ?_
                refine g_iald S X Z ml_candidateSize rfl dX11_mergeMany_240 h (fun v37 h => ?_)
                refine g_iast S X Z ml_size rfl dX11_mergeMany_241 h (fun M38 H locs Z h => ?_)
                refine lv_aload_n hx hb dX11_mergeMany_242 rfl (lv_at hl 1 rfl) ?_
                refine lv_aload_n hx hb dX11_mergeMany_243 rfl (lv_at hl 1 rfl) ?_
                refine mr_row S X Z hin hl_125 dX11_mergeMany_244 ?_
                refine lv_iconst (v := (0 : Int32)) hx hb dX11_mergeMany_247 (by decide) ?_
                refine lv_aload_n hx hb dX11_mergeMany_248 rfl (lv_at hl 1 rfl) ?_
                refine mr_vector S X Z hin hl_41 dX11_mergeMany_249 ?_
                refine lv_iload hx hb dX11_mergeMany_252 (lv_at hl 0 rfl) ?_
                obtain ⟨M40, hc39, h⟩ := o1_e h
                refine g_Vv (As := [.ref (A m_row), .int (0 : Int32), .ref (A m_vector), .int x27]) (rest := []) S X Z mlv_o rfl rfl (t_X11_copyTo l D dA A hJ ⟨ml_row, rfl⟩ ⟨ml_vector, rfl⟩ hc39) (cwV 4 hts (mGV (mB 139 rfl) (mB 140 rfl) (mB 141 rfl) (mB 63 rfl) (mB 97 rfl)) rfl rfl rfl (by decide +kernel) ⟨Nat.le_of_ble_eq_true rfl, Nat.le_of_ble_eq_true rfl⟩) rfl hl.1 rfl (Nat.le_of_ble_eq_true rfl) dX11_mergeMany_254 ⟨Nat.zero_le _, Nat.zero_le _⟩ (fun H locs Z => ?_)
                refine lv_iconst (v := (0 : Int32)) hx hb dX11_mergeMany_257 (by decide) ?_
                refine lv_istore (lv' := [(5, .int (0 : Int32)), (4, .int x27), (0, .ref (A m_o)), (1, .int a1), (2, .int b16), (3, .int x22)]) hx hb dX11_mergeMany_258 hl (by decide) rfl (fun ls hl => ?_)
                obtain ⟨J334, eJ334, h⟩ := jn_e h
                have hJ334 : ∀ (M41 : gM) (H : Heap) (locs : List Loc) (ls : Array Slot), gZ D mLay dA mLive A (gA mLive A) s.heap M41 H locs → lv_has ls 6 [(0, .ref (A m_o)), (1, .int a1), (2, .int b16), (3, .int x22)] → J334 M41 = some y → W p l e (headSpec wmX11_mergeMany ({ frames := 1, cells := 0, slots := 0, locals := 25 } : Room)).room s m args below meth c H locs 0 0 (MQ below (mQv D dA A y) args s 0 0 (gA mLive A)) (F0 m 334 ls []) := by
                  intro M41 H locs ls Z hl h
                  rw [eJ334] at h
                  try dsimp only at h
                  refine lv_aload_n hx hb dX11_mergeMany_334 rfl (lv_at hl 0 rfl) ?_
                  refine lv_dup hx hb dX11_mergeMany_335 rfl ?_
                  refine mr_changes S X Z hin hl_400 dX11_mergeMany_336 h (fun v42 h => ?_)
                  refine lv_iconst (v := (1 : Int32)) hx hb dX11_mergeMany_339 (by decide) ?_
                  refine lv_iadd hx hb dX11_mergeMany_340 ?_
                  refine mp_changes S X Z hin hl_400 dX11_mergeMany_341 h (fun M43 H locs Z h => ?_)
                  exact hJ344 M43 _ _ _ Z (lv_sub hl [0, 1, 2, 3] rfl) h
                have hL260 : ∀ (n : Nat) (x44 : Int32) (M45 : gM) (H : Heap) (locs : List Loc) (ls : Array Slot), gZ D mLay dA mLive A (gA mLive A) s.heap M45 H locs → lv_has ls 6 [(0, .ref (A m_o)), (1, .int a1), (2, .int b16), (3, .int x22), (4, .int x27), (5, .int x44)] → f_X11_mergeMany_L260 a1 b16 x22 x27 J334 J344 J350 n x44 M45 = some y → W p l e (headSpec wmX11_mergeMany ({ frames := 1, cells := 0, slots := 0, locals := 25 } : Room)).room s m args below meth c H locs 0 0 (MQ below (mQv D dA A y) args s 0 0 (gA mLive A)) (F0 m 260 ls []) := by
                  intro n
                  induction n with
                  | zero =>
                    intro x44 M45 H locs ls Z hl h
                    rw [f_X11_mergeMany_L260] at h
                    cases h
                  | succ n46 ih260 =>
                    intro x44 M45 H locs ls Z hl h
                    rw [f_X11_mergeMany_L260] at h
                    refine lv_iload hx hb dX11_mergeMany_260 (lv_at hl 5 rfl) ?_
                    refine lv_iload_n hx hb dX11_mergeMany_262 rfl (lv_at hl 2 rfl) ?_
                    refine lv_icmp_ge (tgt := 334) hx hb dX11_mergeMany_263 (by decide) (fun c47 => ?_) (fun c47 => ?_)
                    · have h := if_t c47 h
                      exact hJ334 M45 _ _ _ Z (lv_sub hl [0, 1, 2, 3] rfl) h
                    · have h := if_f c47 h
                      refine lv_aload_n hx hb dX11_mergeMany_266 rfl (lv_at hl 0 rfl) ?_
                      refine mr_versionValue S X Z hin hl_47 dX11_mergeMany_267 ?_
                      refine lv_bipush (v := (6 : Int32)) hx hb dX11_mergeMany_270 (by decide) ?_
                      refine lv_iload hx hb dX11_mergeMany_272 (lv_at hl 4 rfl) ?_
                      refine lv_imul hx hb dX11_mergeMany_274 ?_
                      refine lv_iload hx hb dX11_mergeMany_275 (lv_at hl 5 rfl) ?_
                      refine lv_iadd hx hb dX11_mergeMany_277 ?_
                      refine lv_aload_n hx hb dX11_mergeMany_278 rfl (lv_at hl 0 rfl) ?_
                      refine mr_candidateValue S X Z hin hl_143 dX11_mergeMany_279 ?_
                      refine lv_iload hx hb dX11_mergeMany_282 (lv_at hl 5 rfl) ?_
                      refine g_iald S X Z ml_candidateValue rfl dX11_mergeMany_284 h (fun v48 h => ?_)
                      refine g_iast S X Z ml_versionValue rfl dX11_mergeMany_285 h (fun M49 H locs Z h => ?_)
                      refine lv_aload_n hx hb dX11_mergeMany_286 rfl (lv_at hl 0 rfl) ?_
                      refine mr_versionSize S X Z hin hl_50 dX11_mergeMany_287 ?_
                      refine lv_bipush (v := (6 : Int32)) hx hb dX11_mergeMany_290 (by decide) ?_
                      refine lv_iload hx hb dX11_mergeMany_292 (lv_at hl 4 rfl) ?_
                      refine lv_imul hx hb dX11_mergeMany_294 ?_
                      refine lv_iload hx hb dX11_mergeMany_295 (lv_at hl 5 rfl) ?_
                      refine lv_iadd hx hb dX11_mergeMany_297 ?_
                      refine lv_aload_n hx hb dX11_mergeMany_298 rfl (lv_at hl 0 rfl) ?_
                      refine mr_candidateSize S X Z hin hl_146 dX11_mergeMany_299 ?_
                      refine lv_iload hx hb dX11_mergeMany_302 (lv_at hl 5 rfl) ?_
                      refine g_iald S X Z ml_candidateSize rfl dX11_mergeMany_304 h (fun v50 h => ?_)
                      refine g_iast S X Z ml_versionSize rfl dX11_mergeMany_305 h (fun M51 H locs Z h => ?_)
                      refine lv_aload_n hx hb dX11_mergeMany_306 rfl (lv_at hl 0 rfl) ?_
                      refine lv_aload_n hx hb dX11_mergeMany_307 rfl (lv_at hl 0 rfl) ?_
                      refine mr_candidateVector S X Z hin hl_149 dX11_mergeMany_308 ?_
                      refine lv_iload hx hb dX11_mergeMany_311 (lv_at hl 5 rfl) ?_
                      refine lv_aload_n hx hb dX11_mergeMany_313 rfl (lv_at hl 0 rfl) ?_
                      refine mr_versionVector S X Z hin hl_53 dX11_mergeMany_314 ?_
                      refine lv_bipush (v := (6 : Int32)) hx hb dX11_mergeMany_317 (by decide) ?_
                      refine lv_iload hx hb dX11_mergeMany_319 (lv_at hl 4 rfl) ?_
                      refine lv_imul hx hb dX11_mergeMany_321 ?_
                      refine lv_iload hx hb dX11_mergeMany_322 (lv_at hl 5 rfl) ?_
                      refine lv_iadd hx hb dX11_mergeMany_324 ?_
                      obtain ⟨M53, hc52, h⟩ := o1_e h
                      refine g_Vv (As := [.ref (A m_candidateVector), .int x44, .ref (A m_versionVector), .int (((6 : Int32) * x27) + x44)]) (rest := []) S X Z mlv_o rfl rfl (t_X11_copyTo l D dA A hJ ⟨ml_candidateVector, rfl⟩ ⟨ml_versionVector, rfl⟩ hc52) (cwV 4 hts (mGV (mB 139 rfl) (mB 140 rfl) (mB 141 rfl) (mB 63 rfl) (mB 97 rfl)) rfl rfl rfl (by decide +kernel) ⟨Nat.le_of_ble_eq_true rfl, Nat.le_of_ble_eq_true rfl⟩) rfl hl.1 rfl (Nat.le_of_ble_eq_true rfl) dX11_mergeMany_325 ⟨Nat.zero_le _, Nat.zero_le _⟩ (fun H locs Z => ?_)
                      obtain ⟨x54, ex54, h⟩ := lt_e h
                      refine lv_iinc (v := x54) (lv' := [(5, .int x54), (0, .ref (A m_o)), (1, .int a1), (2, .int b16), (3, .int x22), (4, .int x27)]) hx hb dX11_mergeMany_328 hl (k := 5) rfl (by rw [ex54]; rfl) (by decide) rfl (fun ls hl => ?_)
                      refine lv_goto (tgt := 260) hx hb dX11_mergeMany_331 (by decide) ?_
                      exact ih260 x54 M53 _ _ _ Z (lv_sub hl [1, 2, 3, 4, 5, 0] rfl) h
                exact hL260 100 (0 : Int32) M40 _ _ _ Z (lv_sub hl [2, 3, 4, 5, 1, 0] rfl) h
        exact hL176 100 (0 : Int32) M17 _ _ _ Z (lv_sub hl [2, 3, 1, 0] rfl) h
      refine lv_icmp_le (tgt := 169) hx hb dX11_mergeMany_161 (by decide) (fun c55 => ?_) (fun c55 => ?_)
      · have h := if_t c55 h
        refine lv_aload_n hx hb dX11_mergeMany_169 rfl (lv_at hl 0 rfl) ?_
        refine mr_candidates S X Z hin hl_442 dX11_mergeMany_170 h (fun v56 h => ?_)
        exact hJ173 v56 M14 _ _ _ Z (lv_sub hl [0, 1] rfl) h
      · have h := if_f c55 h
        refine lv_bipush (v := (6 : Int32)) hx hb dX11_mergeMany_164 (by decide) ?_
        refine lv_goto (tgt := 173) hx hb dX11_mergeMany_166 (by decide) ?_
        exact hJ173 (6 : Int32) M14 _ _ _ Z (lv_sub hl [0, 1] rfl) h
    refine lv_icmp_le (tgt := 150) hx hb dX11_mergeMany_137 (by decide) (fun c57 => ?_) (fun c57 => ?_)
    · have h := if_t c57 h
      refine lv_iconst (v := (0 : Int32)) hx hb dX11_mergeMany_150 (by decide) ?_
      exact hJ151 (0 : Int32) M9 _ _ _ Z (lv_sub hl [0, 1] rfl) h
    · have h := if_f c57 h
      refine lv_aload_n hx hb dX11_mergeMany_140 rfl (lv_at hl 0 rfl) ?_
      refine mr_candidates S X Z hin hl_442 dX11_mergeMany_141 h (fun v58 h => ?_)
      refine lv_bipush (v := (6 : Int32)) hx hb dX11_mergeMany_144 (by decide) ?_
      refine lv_isub hx hb dX11_mergeMany_146 ?_
      refine lv_goto (tgt := 151) hx hb dX11_mergeMany_147 (by decide) ?_
      exact hJ151 (v58 - (6 : Int32)) M9 _ _ _ Z (lv_sub hl [0, 1] rfl) h
  have hL11 : ∀ (n : Nat) (x59 : Int32) (M60 : gM) (H : Heap) (locs : List Loc) (ls : Array Slot), gZ D mLay dA mLive A (gA mLive A) s.heap M60 H locs → lv_has ls 6 [(0, .ref (A m_o)), (1, .int a1), (2, .int x59)] → f_X11_mergeMany_L11 a1 J103 n x59 M60 = some y → W p l e (headSpec wmX11_mergeMany ({ frames := 1, cells := 0, slots := 0, locals := 25 } : Room)).room s m args below meth c H locs 0 0 (MQ below (mQv D dA A y) args s 0 0 (gA mLive A)) (F0 m 11 ls []) := by
    intro n
    induction n with
    | zero =>
      intro x59 M60 H locs ls Z hl h
      rw [f_X11_mergeMany_L11] at h
      cases h
    | succ n61 ih11 =>
      intro x59 M60 H locs ls Z hl h
      rw [f_X11_mergeMany_L11] at h
      refine lv_iload_n hx hb dX11_mergeMany_11 rfl (lv_at hl 2 rfl) ?_
      refine lv_aload_n hx hb dX11_mergeMany_12 rfl (lv_at hl 0 rfl) ?_
      refine mr_servers S X Z hin hl_155 dX11_mergeMany_13 h (fun v62 h => ?_)
      refine lv_icmp_ge (tgt := 103) hx hb dX11_mergeMany_16 (by decide) (fun c63 => ?_) (fun c63 => ?_)
      · have h := if_t c63 h
        exact hJ103 M60 _ _ _ Z (lv_sub hl [0, 1] rfl) h
      · have h := if_f c63 h
        refine lv_bipush (v := (48 : Int32)) hx hb dX11_mergeMany_19 (by decide) ?_
        refine lv_iload_n hx hb dX11_mergeMany_21 rfl (lv_at hl 2 rfl) ?_
        refine lv_imul hx hb dX11_mergeMany_22 ?_
        refine lv_iload_n hx hb dX11_mergeMany_23 rfl (lv_at hl 1 rfl) ?_
        refine lv_iadd hx hb dX11_mergeMany_24 ?_
        refine g_topi h (fun x64 h => ?_)
        refine lv_istore_n (lv' := [(3, .int x64), (0, .ref (A m_o)), (1, .int a1), (2, .int x59)]) hx hb dX11_mergeMany_25 rfl hl (by decide) rfl (fun ls hl => ?_)
        refine lv_aload_n hx hb dX11_mergeMany_26 rfl (lv_at hl 1 rfl) ?_
        refine lv_iload_n hx hb dX11_mergeMany_27 rfl (lv_at hl 3 rfl) ?_
        obtain ⟨v66, hc65, h⟩ := o1_e h
        refine g_Vi (As := [.int x59]) (rest := []) S X Z mlv_o rfl rfl (t_X11_isOf l D dA A hJ  hc65) (cwV 1 hts (mGV (mB 293 rfl) (mB 294 rfl) (mB 295 rfl) (mB 63 rfl) (mB 290 rfl)) rfl rfl rfl (by decide +kernel) ⟨Nat.le_of_ble_eq_true rfl, Nat.le_of_ble_eq_true rfl⟩) rfl hl.1 rfl (Nat.le_of_ble_eq_true rfl) dX11_mergeMany_28 ⟨Nat.zero_le _, Nat.zero_le _⟩ (fun H locs Z => ?_)
        obtain ⟨J97, eJ97, h⟩ := jn_e h
        have hJ97 : ∀ (M67 : gM) (H : Heap) (locs : List Loc) (ls : Array Slot), gZ D mLay dA mLive A (gA mLive A) s.heap M67 H locs → lv_has ls 6 [(0, .ref (A m_o)), (1, .int a1), (2, .int x59)] → J97 M67 = some y → W p l e (headSpec wmX11_mergeMany ({ frames := 1, cells := 0, slots := 0, locals := 25 } : Room)).room s m args below meth c H locs 0 0 (MQ below (mQv D dA A y) args s 0 0 (gA mLive A)) (F0 m 97 ls []) := by
          intro M67 H locs ls Z hl h
          rw [eJ97] at h
          try dsimp only at h
          obtain ⟨x68, ex68, h⟩ := lt_e h
          refine lv_iinc (v := x68) (lv' := [(2, .int x68), (0, .ref (A m_o)), (1, .int a1)]) hx hb dX11_mergeMany_97 hl (k := 2) rfl (by rw [ex68]; rfl) (by decide) rfl (fun ls hl => ?_)
          refine lv_goto (tgt := 11) hx hb dX11_mergeMany_100 (by decide) ?_
          exact ih11 x68 M67 _ _ _ Z (lv_sub hl [1, 2, 0] rfl) h
        refine lv_if_eq (tgt := 97) hx hb dX11_mergeMany_31 (by decide) (fun c69 => ?_) (fun c69 => ?_)
        · have h := if_t c69 h
          exact hJ97 M60 _ _ _ Z (lv_sub hl [1, 2, 3] rfl) h
        · have h := if_f c69 h
          refine lv_aload_n hx hb dX11_mergeMany_34 rfl (lv_at hl 1 rfl) ?_
          refine mr_has S X Z hin hl_32 dX11_mergeMany_35 ?_
          refine lv_iload_n hx hb dX11_mergeMany_38 rfl (lv_at hl 0 rfl) ?_
          refine g_zald S X Z ml_has rfl dX11_mergeMany_39 h (fun v70 h => ?_)
          refine lv_if_eq (tgt := 97) hx hb dX11_mergeMany_40 (by decide) (fun c71 => ?_) (fun c71 => ?_)
          · have h := if_t c71 h
            exact hJ97 M60 _ _ _ Z (lv_sub hl [1, 2, 3] rfl) h
          · have h := if_f c71 h
            refine lv_aload_n hx hb dX11_mergeMany_43 rfl (lv_at hl 1 rfl) ?_
            refine lv_aload_n hx hb dX11_mergeMany_44 rfl (lv_at hl 1 rfl) ?_
            refine mr_vector S X Z hin hl_41 dX11_mergeMany_45 ?_
            refine lv_iload_n hx hb dX11_mergeMany_48 rfl (lv_at hl 0 rfl) ?_
            refine lv_aload_n hx hb dX11_mergeMany_49 rfl (lv_at hl 1 rfl) ?_
            refine mr_row S X Z hin hl_125 dX11_mergeMany_50 ?_
            refine lv_iconst (v := (0 : Int32)) hx hb dX11_mergeMany_53 (by decide) ?_
            obtain ⟨M73, hc72, h⟩ := o1_e h
            refine g_Vv (As := [.ref (A m_vector), .int x64, .ref (A m_row), .int (0 : Int32)]) (rest := []) S X Z mlv_o rfl rfl (t_X11_raise l D dA A hJ ⟨ml_vector, rfl⟩ ⟨ml_row, rfl⟩ hc72) (cwV 4 hts (mGV (mB 269 rfl) (mB 270 rfl) (mB 271 rfl) (mB 63 rfl) (mB 98 rfl)) rfl rfl rfl (by decide +kernel) ⟨Nat.le_of_ble_eq_true rfl, Nat.le_of_ble_eq_true rfl⟩) rfl hl.1 rfl (Nat.le_of_ble_eq_true rfl) dX11_mergeMany_54 ⟨Nat.zero_le _, Nat.zero_le _⟩ (fun H locs Z => ?_)
            refine lv_iconst (v := (0 : Int32)) hx hb dX11_mergeMany_57 (by decide) ?_
            refine lv_istore (lv' := [(4, .int (0 : Int32)), (3, .int x64), (0, .ref (A m_o)), (1, .int a1), (2, .int x59)]) hx hb dX11_mergeMany_58 hl (by decide) rfl (fun ls hl => ?_)
            have hL60 : ∀ (n : Nat) (x74 : Int32) (M75 : gM) (H : Heap) (locs : List Loc) (ls : Array Slot), gZ D mLay dA mLive A (gA mLive A) s.heap M75 H locs → lv_has ls 6 [(0, .ref (A m_o)), (1, .int a1), (2, .int x59), (3, .int x64), (4, .int x74)] → f_X11_mergeMany_L60 a1 x59 x64 J97 J103 n x74 M75 = some y → W p l e (headSpec wmX11_mergeMany ({ frames := 1, cells := 0, slots := 0, locals := 25 } : Room)).room s m args below meth c H locs 0 0 (MQ below (mQv D dA A y) args s 0 0 (gA mLive A)) (F0 m 60 ls []) := by
              intro n
              induction n with
              | zero =>
                intro x74 M75 H locs ls Z hl h
                rw [f_X11_mergeMany_L60] at h
                cases h
              | succ n76 ih60 =>
                intro x74 M75 H locs ls Z hl h
                rw [f_X11_mergeMany_L60] at h
                refine lv_iload hx hb dX11_mergeMany_60 (lv_at hl 4 rfl) ?_
                refine lv_aload_n hx hb dX11_mergeMany_62 rfl (lv_at hl 0 rfl) ?_
                refine mr_versions S X Z hin hl_44 dX11_mergeMany_63 ?_
                refine lv_iload_n hx hb dX11_mergeMany_66 rfl (lv_at hl 3 rfl) ?_
                refine g_iald S X Z ml_versions rfl dX11_mergeMany_67 h (fun v77 h => ?_)
                refine lv_icmp_ge (tgt := 97) hx hb dX11_mergeMany_68 (by decide) (fun c78 => ?_) (fun c78 => ?_)
                · have h := if_t c78 h
                  exact hJ97 M75 _ _ _ Z (lv_sub hl [0, 1, 2] rfl) h
                · have h := if_f c78 h
                  refine lv_aload_n hx hb dX11_mergeMany_71 rfl (lv_at hl 0 rfl) ?_
                  refine lv_aload_n hx hb dX11_mergeMany_72 rfl (lv_at hl 0 rfl) ?_
                  refine mr_versionVector S X Z hin hl_53 dX11_mergeMany_73 ?_
                  refine lv_bipush (v := (6 : Int32)) hx hb dX11_mergeMany_76 (by decide) ?_
                  refine lv_iload_n hx hb dX11_mergeMany_78 rfl (lv_at hl 3 rfl) ?_
                  refine lv_imul hx hb dX11_mergeMany_79 ?_
                  refine lv_iload hx hb dX11_mergeMany_80 (lv_at hl 4 rfl) ?_
                  refine lv_iadd hx hb dX11_mergeMany_82 ?_
                  refine lv_aload_n hx hb dX11_mergeMany_83 rfl (lv_at hl 0 rfl) ?_
                  refine mr_row S X Z hin hl_125 dX11_mergeMany_84 ?_
                  refine lv_iconst (v := (0 : Int32)) hx hb dX11_mergeMany_87 (by decide) ?_
                  obtain ⟨M80, hc79, h⟩ := o1_e h
                  refine g_Vv (As := [.ref (A m_versionVector), .int (((6 : Int32) * x64) + x74), .ref (A m_row), .int (0 : Int32)]) (rest := []) S X Z mlv_o rfl rfl (t_X11_raise l D dA A hJ ⟨ml_versionVector, rfl⟩ ⟨ml_row, rfl⟩ hc79) (cwV 4 hts (mGV (mB 269 rfl) (mB 270 rfl) (mB 271 rfl) (mB 63 rfl) (mB 98 rfl)) rfl rfl rfl (by decide +kernel) ⟨Nat.le_of_ble_eq_true rfl, Nat.le_of_ble_eq_true rfl⟩) rfl hl.1 rfl (Nat.le_of_ble_eq_true rfl) dX11_mergeMany_88 ⟨Nat.zero_le _, Nat.zero_le _⟩ (fun H locs Z => ?_)
                  obtain ⟨x81, ex81, h⟩ := lt_e h
                  refine lv_iinc (v := x81) (lv' := [(4, .int x81), (0, .ref (A m_o)), (1, .int a1), (2, .int x59), (3, .int x64)]) hx hb dX11_mergeMany_91 hl (k := 4) rfl (by rw [ex81]; rfl) (by decide) rfl (fun ls hl => ?_)
                  refine lv_goto (tgt := 60) hx hb dX11_mergeMany_94 (by decide) ?_
                  exact ih60 x81 M80 _ _ _ Z (lv_sub hl [1, 2, 3, 4, 0] rfl) h
            exact hL60 100 (0 : Int32) M73 _ _ _ Z (lv_sub hl [2, 3, 4, 1, 0] rfl) h
  exact hL11 100 (0 : Int32) M2 _ _ _ Z (lv_sub hl [1, 2, 0] rfl) h
-- X11_mergeFile (I)V: 23 instructions
theorem dX11_mergeFile_0 : decode cX11_mergeFile 0 = .ok (.aload_n 0, 1) := by decide +kernel
theorem dX11_mergeFile_1 : decode cX11_mergeFile 1 = .ok (.iload_n 1, 1) := by decide +kernel
theorem dX11_mergeFile_2 : decode cX11_mergeFile 2 = .ok (.invokevirtual 449, 3) := by decide +kernel
theorem dX11_mergeFile_5 : decode cX11_mergeFile 5 = .ok (.aload_n 0, 1) := by decide +kernel
theorem dX11_mergeFile_6 : decode cX11_mergeFile 6 = .ok (.getfield 442, 3) := by decide +kernel
theorem dX11_mergeFile_9 : decode cX11_mergeFile 9 = .ok (.iconst 1, 1) := by decide +kernel
theorem dX11_mergeFile_10 : decode cX11_mergeFile 10 = .ok (.if_icmp .ne 11, 3) := by decide +kernel
theorem dX11_mergeFile_13 : decode cX11_mergeFile 13 = .ok (.aload_n 0, 1) := by decide +kernel
theorem dX11_mergeFile_14 : decode cX11_mergeFile 14 = .ok (.iload_n 1, 1) := by decide +kernel
theorem dX11_mergeFile_15 : decode cX11_mergeFile 15 = .ok (.invokevirtual 452, 3) := by decide +kernel
theorem dX11_mergeFile_18 : decode cX11_mergeFile 18 = .ok (.goto 24, 3) := by decide +kernel
theorem dX11_mergeFile_21 : decode cX11_mergeFile 21 = .ok (.aload_n 0, 1) := by decide +kernel
theorem dX11_mergeFile_22 : decode cX11_mergeFile 22 = .ok (.getfield 442, 3) := by decide +kernel
theorem dX11_mergeFile_25 : decode cX11_mergeFile 25 = .ok (.iconst 1, 1) := by decide +kernel
theorem dX11_mergeFile_26 : decode cX11_mergeFile 26 = .ok (.if_icmp .le 16, 3) := by decide +kernel
theorem dX11_mergeFile_29 : decode cX11_mergeFile 29 = .ok (.aload_n 0, 1) := by decide +kernel
theorem dX11_mergeFile_30 : decode cX11_mergeFile 30 = .ok (.iload_n 1, 1) := by decide +kernel
theorem dX11_mergeFile_31 : decode cX11_mergeFile 31 = .ok (.invokevirtual 455, 3) := by decide +kernel
theorem dX11_mergeFile_34 : decode cX11_mergeFile 34 = .ok (.ifCond .ne 8, 3) := by decide +kernel
theorem dX11_mergeFile_37 : decode cX11_mergeFile 37 = .ok (.aload_n 0, 1) := by decide +kernel
theorem dX11_mergeFile_38 : decode cX11_mergeFile 38 = .ok (.iload_n 1, 1) := by decide +kernel
theorem dX11_mergeFile_39 : decode cX11_mergeFile 39 = .ok (.invokevirtual 458, 3) := by decide +kernel
theorem dX11_mergeFile_42 : decode cX11_mergeFile 42 = .ok (.return_, 1) := by decide +kernel
abbrev wmX11_mergeFile : List Cond := .code yX11_mergeFile cX11_mergeFile 2 none :: mBig
def f_X11_mergeFile (M : gM) (a1 : Int32) : Option gM :=
  o1 (f_X11_gather M a1) (fun M2 => lt (M2 m_o 61) (fun v3 => (if v3 = (1 : Int32) then o1 (f_X11_mergeOne M2 a1) (fun M13 => some M13) else lt (M2 m_o 61) (fun v5 => (if v5 ≤ (1 : Int32) then some M2 else o1 (f_X11_areVersions M2 a1) (fun v8 => (if v8 = 0 then o1 (f_X11_mergeMany M2 a1) (fun M11 => some M11) else some M2)))))))
set_option maxHeartbeats 4000000 in
set_option maxRecDepth 100000 in
theorem t_X11_mergeFile (l : Launch) (D : va_G) (dA : Nat → ClassId) (A : gI → Nat) (hJ : gJ mLive A) {M : gM} {a1 : Int32}  {y : gM} (h : f_X11_mergeFile M a1 = some y) : mMv l yX11_mergeFile wmX11_mergeFile ({ frames := 3, cells := 0, slots := 0, locals := 74 } : Room) D dA A [.ref (A m_o), .int a1] M y := by
  refine Met.ofW (cc := cX11_mergeFile) (maxL := 2) (ret := none) (by decide) rfl ?_
  intro p e s m args below meth c s₁ B hml hv
  obtain ⟨rfl, hP, hK⟩ := hv
  generalize hargs : ([.ref (A m_o), .int a1] : List Value).toArray = args at B ⊢
  have S : CallFix p m c cX11_mergeFile 2 s args wmX11_mergeFile RX11 := ⟨B.exec, B.bytes, hml, findClass_of_methodNamed B.named, atoms_spec (ws := wmX11_mergeFile) B.pre⟩
  obtain ⟨hx, hb, -, hown, hts⟩ := id S
  have hr := B.returns
  have hlocks := B.notSynchronized
  have X : gX D vwCl dA mLive A (gA mLive A) s := ⟨hK, hJ, fun i hi => ⟨i, hi, rfl⟩⟩
  have Z : gZ D mLay dA mLive A (gA mLive A) s.heap M s.heap [] := ⟨hP, va_S.rf⟩
  have hin : ∀ w ∈ wsX110, w ∈ wmX11_mergeFile := m_in
  have hl_442 := hts (.fieldLink RX11 442 "ReplicaFilesModel" "candidates" "I") (mBc 319 rfl)
  have hl := lv_entry ([.ref (A m_o), .int a1]) (n := 2) (Nat.le_of_ble_eq_true rfl)
  rw [← hargs, lg_entry_eq, hargs]
  generalize (lg_sl ([.ref (A m_o), .int a1]) ++ List.replicate (2 - (lg_sl ([.ref (A m_o), .int a1])).length) Slot.unset).toArray = ls at hl ⊢
  have hl : lv_has ls 2 [(0, .ref (A m_o)), (1, .int a1)] := hl
  unfold f_X11_mergeFile at h
  refine lv_aload_n hx hb dX11_mergeFile_0 rfl (lv_at hl 0 rfl) ?_
  refine lv_iload_n hx hb dX11_mergeFile_1 rfl (lv_at hl 1 rfl) ?_
  obtain ⟨M2, hc1, h⟩ := o1_e h
  refine g_Vv (As := [.int a1]) (rest := []) S X Z mlv_o rfl rfl (t_X11_gather l D dA A hJ  hc1) (cwV 1 hts (mGV (mB 327 rfl) (mB 328 rfl) (mB 329 rfl) (mB 63 rfl) (mB 323 rfl)) rfl rfl rfl (by decide +kernel) ⟨Nat.le_of_ble_eq_true rfl, Nat.le_of_ble_eq_true rfl⟩) rfl hl.1 rfl (Nat.le_of_ble_eq_true rfl) dX11_mergeFile_2 ⟨Nat.zero_le _, Nat.zero_le _⟩ (fun H locs Z => ?_)
  refine lv_aload_n hx hb dX11_mergeFile_5 rfl (lv_at hl 0 rfl) ?_
  refine mr_candidates S X Z hin hl_442 dX11_mergeFile_6 h (fun v3 h => ?_)
  refine lv_iconst (v := (1 : Int32)) hx hb dX11_mergeFile_9 (by decide) ?_
  refine lv_icmp_ne (tgt := 21) hx hb dX11_mergeFile_10 (by decide) (fun c4 => ?_) (fun c4 => ?_)
  · have h := if_f c4 h
    refine lv_aload_n hx hb dX11_mergeFile_21 rfl (lv_at hl 0 rfl) ?_
    refine mr_candidates S X Z hin hl_442 dX11_mergeFile_22 h (fun v5 h => ?_)
    refine lv_iconst (v := (1 : Int32)) hx hb dX11_mergeFile_25 (by decide) ?_
    refine lv_icmp_le (tgt := 42) hx hb dX11_mergeFile_26 (by decide) (fun c6 => ?_) (fun c6 => ?_)
    · have h := if_t c6 h
      have hy := Option.some.inj h
      subst hy
      exact g_rv S Z hr hlocks dX11_mergeFile_42
    · have h := if_f c6 h
      refine lv_aload_n hx hb dX11_mergeFile_29 rfl (lv_at hl 0 rfl) ?_
      refine lv_iload_n hx hb dX11_mergeFile_30 rfl (lv_at hl 1 rfl) ?_
      obtain ⟨v8, hc7, h⟩ := o1_e h
      refine g_Vi (As := [.int a1]) (rest := []) S X Z mlv_o rfl rfl (t_X11_areVersions l D dA A hJ  hc7) (cwV 1 hts (mGV (mB 333 rfl) (mB 334 rfl) (mB 335 rfl) (mB 63 rfl) (mB 325 rfl)) rfl rfl rfl (by decide +kernel) ⟨Nat.le_of_ble_eq_true rfl, Nat.le_of_ble_eq_true rfl⟩) rfl hl.1 rfl (Nat.le_of_ble_eq_true rfl) dX11_mergeFile_31 ⟨Nat.zero_le _, Nat.zero_le _⟩ (fun H locs Z => ?_)
      refine lv_if_ne (tgt := 42) hx hb dX11_mergeFile_34 (by decide) (fun c9 => ?_) (fun c9 => ?_)
      · have h := if_f c9 h
        have hy := Option.some.inj h
        subst hy
        exact g_rv S Z hr hlocks dX11_mergeFile_42
      · have h := if_t c9 h
        refine lv_aload_n hx hb dX11_mergeFile_37 rfl (lv_at hl 0 rfl) ?_
        refine lv_iload_n hx hb dX11_mergeFile_38 rfl (lv_at hl 1 rfl) ?_
        obtain ⟨M11, hc10, h⟩ := o1_e h
        refine g_Vv (As := [.int a1]) (rest := []) S X Z mlv_o rfl rfl (t_X11_mergeMany l D dA A hJ  hc10) (cwV 1 hts (mGV (mB 336 rfl) (mB 337 rfl) (mB 338 rfl) (mB 63 rfl) (mB 326 rfl)) rfl rfl rfl (by decide +kernel) ⟨Nat.le_of_ble_eq_true rfl, Nat.le_of_ble_eq_true rfl⟩) rfl hl.1 rfl (Nat.le_of_ble_eq_true rfl) dX11_mergeFile_39 ⟨Nat.zero_le _, Nat.zero_le _⟩ (fun H locs Z => ?_)
        have hy := Option.some.inj h
        subst hy
        exact g_rv S Z hr hlocks dX11_mergeFile_42
  · have h := if_t c4 h
    refine lv_aload_n hx hb dX11_mergeFile_13 rfl (lv_at hl 0 rfl) ?_
    refine lv_iload_n hx hb dX11_mergeFile_14 rfl (lv_at hl 1 rfl) ?_
    obtain ⟨M13, hc12, h⟩ := o1_e h
    refine g_Vv (As := [.int a1]) (rest := []) S X Z mlv_o rfl rfl (t_X11_mergeOne l D dA A hJ  hc12) (cwV 1 hts (mGV (mB 330 rfl) (mB 331 rfl) (mB 332 rfl) (mB 63 rfl) (mB 324 rfl)) rfl rfl rfl (by decide +kernel) ⟨Nat.le_of_ble_eq_true rfl, Nat.le_of_ble_eq_true rfl⟩) rfl hl.1 rfl (Nat.le_of_ble_eq_true rfl) dX11_mergeFile_15 ⟨Nat.zero_le _, Nat.zero_le _⟩ (fun H locs Z => ?_)
    refine lv_goto (tgt := 42) hx hb dX11_mergeFile_18 (by decide) ?_
    have hy := Option.some.inj h
    subst hy
    exact g_rv S Z hr hlocks dX11_mergeFile_42
