theorem cLive_tag {N : Nat} {i : gI} (h : cLive N i) : i.1 ≤ 15 ∨ (20 ≤ i.1 ∧ i.1 ≤ 22) ∨ (30 ≤ i.1 ∧ i.1 ≤ 45) ∨ (50 ≤ i.1 ∧ i.1 ≤ 58) ∨ (60 ≤ i.1 ∧ i.1 ≤ 64) := by
  unfold cLive at h
  split at h <;> first | exact h.elim | omega
theorem cAd_srv {N q v : Nat} {i : gI} (hv : v < 4) (h : cLive N i ∧ ((20 ≤ i.1 ∧ i.1 ≤ 22 ∧ i.2.1 = v) ∨ (50 ≤ i.1 ∧ i.1 ≤ 58 ∧ i.2.1 = v) ∨ (60 ≤ i.1 ∧ i.1 ≤ 64 ∧ i.2.1 / 48 = v))) : q + 9 + 586 * v ≤ cAd N q i ∧ cAd N q i < q + 9 + 586 * v + 586 := by
  obtain ⟨hlv, h | h | h⟩ := h
  · obtain ⟨tg, a, b⟩ := i
    obtain ⟨h1, h2, h3⟩ := h
    dsimp only at h1 h2 h3
    subst h3
    rcases (show tg = 20 ∨ tg = 21 ∨ tg = 22 by omega) with rfl | rfl | rfl <;> simp only [cAd] <;> omega
  · have h1 := cAd_tree (q := q) ⟨hlv, h⟩
    unfold cTb at h1
    rw [if_pos hv] at h1
    omega
  · have h1 := cAd_ver (q := q) (v := i.2.1) ⟨hlv, h.1, h.2.1, rfl⟩
    have hm : cMost i.2.1 = 6 := by unfold cMost; rw [if_neg (by omega)]
    unfold cVb at h1
    rw [if_neg (by omega), h.2.2] at h1
    omega
theorem cAd_cli {N q v : Nat} {i : gI} (h : cLive N i ∧ ((30 ≤ i.1 ∧ i.1 ≤ 45 ∧ i.2.1 = v) ∨ (50 ≤ i.1 ∧ i.1 ≤ 58 ∧ i.2.1 = 4 + v))) : q + 10 + 586 * N + 125 * v ≤ cAd N q i ∧ cAd N q i < q + 10 + 586 * N + 125 * v + 125 := by
  obtain ⟨hlv, h | h⟩ := h
  · by_cases h40 : 40 ≤ i.1
    · have h1 := cAd_log (q := q) (c := v) ⟨hlv, h40, h.2.1, h.2.2⟩
      omega
    · obtain ⟨tg, a, b⟩ := i
      obtain ⟨h1, h2, h3⟩ := h
      dsimp only at h1 h2 h3 h40
      subst h3
      have ht := cLive_tag hlv
      dsimp only at ht
      rcases (show tg = 30 ∨ tg = 31 ∨ tg = 32 ∨ tg = 33 ∨ tg = 34 ∨ tg = 35 ∨ tg = 36 ∨ tg = 37 ∨ tg = 38 ∨ tg = 39 by omega) with rfl | rfl | rfl | rfl | rfl | rfl | rfl | rfl | rfl | rfl <;> first | exact False.elim hlv | (simp only [cAd]; omega)
  · have h1 := cAd_tree (q := q) ⟨hlv, h⟩
    unfold cTb at h1
    rw [if_neg (by omega)] at h1
    omega
def kPs (N s : Nat) (i : gI) : Prop := cLive N i ∧ ((20 ≤ i.1 ∧ i.1 ≤ 22 ∧ i.2.1 < s) ∨ (50 ≤ i.1 ∧ i.1 ≤ 58 ∧ i.2.1 < s) ∨ (60 ≤ i.1 ∧ i.1 ≤ 64 ∧ i.2.1 / 48 < s))
def kPl (N c : Nat) (i : gI) : Prop := cLive N i ∧ ((30 ≤ i.1 ∧ i.1 ≤ 45 ∧ i.2.1 < c) ∨ (50 ≤ i.1 ∧ i.1 ≤ 58 ∧ 4 ≤ i.2.1 ∧ i.2.1 < 4 + c))
def kP1 (i : gI) : Prop := i = (1, 0, 0) ∨ i = (2, 0, 0) ∨ i = (3, 0, 0) ∨ i = (4, 0, 0) ∨ i = (5, 0, 0) ∨ i = (6, 0, 0) ∨ i = (9, 0, 0)
theorem kPs.no {N : Nat} {i : gI} (h : kPs N 0 i) : False := by obtain ⟨-, h | h | h⟩ := h <;> omega
theorem kPl.no {N : Nat} {i : gI} (h : kPl N 0 i) : False := by obtain ⟨-, h | h⟩ := h <;> omega
theorem kPs.up {N s : Nat} {i : gI} (h : kPs N (s + 1) i) : kPs N s i ∨ (cLive N i ∧ ((20 ≤ i.1 ∧ i.1 ≤ 22 ∧ i.2.1 = s) ∨ (50 ≤ i.1 ∧ i.1 ≤ 58 ∧ i.2.1 = s) ∨ (60 ≤ i.1 ∧ i.1 ≤ 64 ∧ i.2.1 / 48 = s))) := by
  obtain ⟨hl, h | h | h⟩ := h
  · by_cases e : i.2.1 = s
    · exact Or.inr ⟨hl, Or.inl ⟨h.1, h.2.1, e⟩⟩
    · exact Or.inl ⟨hl, Or.inl ⟨h.1, h.2.1, by omega⟩⟩
  · by_cases e : i.2.1 = s
    · exact Or.inr ⟨hl, Or.inr (Or.inl ⟨h.1, h.2.1, e⟩)⟩
    · exact Or.inl ⟨hl, Or.inr (Or.inl ⟨h.1, h.2.1, by omega⟩)⟩
  · by_cases e : i.2.1 / 48 = s
    · exact Or.inr ⟨hl, Or.inr (Or.inr ⟨h.1, h.2.1, e⟩)⟩
    · exact Or.inl ⟨hl, Or.inr (Or.inr ⟨h.1, h.2.1, by omega⟩)⟩
theorem kPl.up {N c : Nat} {i : gI} (h : kPl N (c + 1) i) : kPl N c i ∨ (cLive N i ∧ ((30 ≤ i.1 ∧ i.1 ≤ 45 ∧ i.2.1 = c) ∨ (50 ≤ i.1 ∧ i.1 ≤ 58 ∧ i.2.1 = 4 + c))) := by
  obtain ⟨hl, h | h⟩ := h
  · by_cases e : i.2.1 = c
    · exact Or.inr ⟨hl, Or.inl ⟨h.1, h.2.1, e⟩⟩
    · exact Or.inl ⟨hl, Or.inl ⟨h.1, h.2.1, by omega⟩⟩
  · by_cases e : i.2.1 = 4 + c
    · exact Or.inr ⟨hl, Or.inr ⟨h.1, h.2.1, e⟩⟩
    · exact Or.inl ⟨hl, Or.inr ⟨h.1, h.2.1, h.2.2.1, by omega⟩⟩
theorem kP1.lt {N q : Nat} {i : gI} (h : kP1 i) : cAd N q i < q + 8 := by
  rcases h with rfl | rfl | rfl | rfl | rfl | rfl | rfl <;> simp only [cAd] <;> omega
theorem kPs.ge {N q s : Nat} (hs : s ≤ 4) {i : gI} (h : kPs N s i) : q + 9 ≤ cAd N q i ∧ cAd N q i < q + 9 + 586 * s := by
  obtain ⟨hl, h | h | h⟩ := h
  · have := cAd_srv (q := q) (v := i.2.1) (by omega) ⟨hl, Or.inl ⟨h.1, h.2.1, rfl⟩⟩
    omega
  · have := cAd_srv (q := q) (v := i.2.1) (by omega) ⟨hl, Or.inr (Or.inl ⟨h.1, h.2.1, rfl⟩)⟩
    omega
  · have := cAd_srv (q := q) (v := i.2.1 / 48) (by omega) ⟨hl, Or.inr (Or.inr ⟨h.1, h.2.1, rfl⟩)⟩
    omega
theorem kPl.ge {N q c : Nat} {i : gI} (h : kPl N c i) : q + 10 + 586 * N ≤ cAd N q i := by
  obtain ⟨hl, h | h⟩ := h
  · have := cAd_cli (q := q) (v := i.2.1) ⟨hl, Or.inl ⟨h.1, h.2.1, rfl⟩⟩
    omega
  · have := cAd_cli (q := q) (v := i.2.1 - 4) ⟨hl, Or.inr ⟨h.1, h.2.1, by omega⟩⟩
    omega
theorem kM_cat {N : Nat} {i : gI} (h : i = (1, 0, 0) ∨ i = (2, 0, 0) ∨ i = (3, 0, 0) ∨ i = (4, 0, 0)) : cM0 N i = (gset (gset gM0 (4, 0, 0) 0 1) (2, 0, 0) 0 (-1)) i := by
  rcases h with rfl | rfl | rfl | rfl <;> funext k <;> by_cases hk : k = 0 <;> simp [cM0, gset, gM0, hk]
theorem kM_net {N : Nat} {i : gI} (h : i = (5, 0, 0) ∨ i = (6, 0, 0)) : cM0 N i = (gset (gset gM0 (5, 0, 0) 0 (nI N)) (5, 0, 0) 2 (((1 : Int32) <<< (nI N &&& 31)) - 1)) i := by
  rcases h with rfl | rfl <;> funext k <;> by_cases hk : k = 0 <;> by_cases hk2 : k = 2 <;> simp [cM0, gset, gM0, hk, hk2]
  all_goals (subst hk; simp at hk2)
theorem cl_lo {N : Nat} {i : gI} (h : cLive N i) (ht : (20 ≤ i.1 ∧ i.1 ≤ 22) ∨ False) : i.2.1 < N := by
  obtain ⟨tg, a, b⟩ := i
  have ht := ht.resolve_right id
  dsimp only at ht
  rcases (show tg = 20 ∨ tg = 21 ∨ tg = 22 by omega) with rfl | rfl | rfl <;> exact h.1
theorem cl_lo4 {N : Nat} {i : gI} (h : cLive N i) (ht : 30 ≤ i.1 ∧ i.1 ≤ 45) : i.2.1 < 4 := by
  obtain ⟨tg, a, b⟩ := i
  dsimp only at ht
  rcases (show tg = 30 ∨ tg = 31 ∨ tg = 32 ∨ tg = 33 ∨ tg = 34 ∨ tg = 35 ∨ tg = 36 ∨ tg = 37 ∨ tg = 38 ∨ tg = 39 ∨ tg = 40 ∨ tg = 41 ∨ tg = 42 ∨ tg = 43 ∨ tg = 44 ∨ tg = 45 by omega) with rfl | rfl | rfl | rfl | rfl | rfl | rfl | rfl | rfl | rfl | rfl | rfl | rfl | rfl | rfl | rfl <;> first | exact False.elim h | exact h.1
theorem cl_tr {N : Nat} {i : gI} (h : cLive N i) (ht : 50 ≤ i.1 ∧ i.1 ≤ 58) : i.2.1 < N ∨ (4 ≤ i.2.1 ∧ i.2.1 < 4 + 4) := by
  obtain ⟨tg, a, b⟩ := i
  dsimp only at ht
  rcases (show tg = 50 ∨ tg = 51 ∨ tg = 52 ∨ tg = 53 ∨ tg = 54 ∨ tg = 55 ∨ tg = 56 ∨ tg = 57 ∨ tg = 58 by omega) with rfl | rfl | rfl | rfl | rfl | rfl | rfl | rfl | rfl <;> exact h.1
theorem cl_vr {N : Nat} {i : gI} (h : cLive N i) (ht : 60 ≤ i.1 ∧ i.1 ≤ 64) : i.2.1 < 48 * N ∨ i.2.1 = 192 := by
  obtain ⟨tg, a, b⟩ := i
  dsimp only at ht
  rcases (show tg = 60 ∨ tg = 61 ∨ tg = 62 ∨ tg = 63 ∨ tg = 64 by omega) with rfl | rfl | rfl | rfl | rfl <;> exact h.1
theorem dX10_init_0 : decode cX10_init 0 = .ok (.aload_n 0, 1) := by decide +kernel
theorem dX10_init_1 : decode cX10_init 1 = .ok (.invokespecial 3, 3) := by decide +kernel
theorem dX10_init_4 : decode cX10_init 4 = .ok (.aload_n 0, 1) := by decide +kernel
theorem dX10_init_5 : decode cX10_init 5 = .ok (.iconst 1, 1) := by decide +kernel
theorem dX10_init_6 : decode cX10_init 6 = .ok (.iconst 4, 1) := by decide +kernel
theorem dX10_init_7 : decode cX10_init 7 = .ok (.iload_n 1, 1) := by decide +kernel
theorem dX10_init_8 : decode cX10_init 8 = .ok (.invokestatic 9, 3) := by decide +kernel
theorem dX10_init_11 : decode cX10_init 11 = .ok (.invokestatic 15, 3) := by decide +kernel
theorem dX10_init_14 : decode cX10_init 14 = .ok (.putfield 18, 3) := by decide +kernel
theorem dX10_init_17 : decode cX10_init 17 = .ok (.aload_n 0, 1) := by decide +kernel
theorem dX10_init_18 : decode cX10_init 18 = .ok (.getfield 18, 3) := by decide +kernel
theorem dX10_init_21 : decode cX10_init 21 = .ok (.iconst 4, 1) := by decide +kernel
theorem dX10_init_22 : decode cX10_init 22 = .ok (.iadd, 1) := by decide +kernel
theorem dX10_init_23 : decode cX10_init 23 = .ok (.istore_n 2, 1) := by decide +kernel
theorem dX10_init_24 : decode cX10_init 24 = .ok (.aload_n 0, 1) := by decide +kernel
theorem dX10_init_25 : decode cX10_init 25 = .ok (.new 22, 3) := by decide +kernel
theorem dX10_init_28 : decode cX10_init 28 = .ok (.dup, 1) := by decide +kernel
theorem dX10_init_29 : decode cX10_init 29 = .ok (.invokespecial 24, 3) := by decide +kernel
theorem dX10_init_32 : decode cX10_init 32 = .ok (.putfield 25, 3) := by decide +kernel
theorem dX10_init_35 : decode cX10_init 35 = .ok (.aload_n 0, 1) := by decide +kernel
theorem dX10_init_36 : decode cX10_init 36 = .ok (.new 29, 3) := by decide +kernel
theorem dX10_init_39 : decode cX10_init 39 = .ok (.dup, 1) := by decide +kernel
theorem dX10_init_40 : decode cX10_init 40 = .ok (.aload_n 0, 1) := by decide +kernel
theorem dX10_init_41 : decode cX10_init 41 = .ok (.getfield 18, 3) := by decide +kernel
theorem dX10_init_44 : decode cX10_init 44 = .ok (.invokespecial 31, 3) := by decide +kernel
theorem dX10_init_47 : decode cX10_init 47 = .ok (.putfield 34, 3) := by decide +kernel
theorem dX10_init_50 : decode cX10_init 50 = .ok (.aload_n 0, 1) := by decide +kernel
theorem dX10_init_51 : decode cX10_init 51 = .ok (.bipush 8, 2) := by decide +kernel
theorem dX10_init_53 : decode cX10_init 53 = .ok (.newarray .int, 2) := by decide +kernel
theorem dX10_init_55 : decode cX10_init 55 = .ok (.putfield 38, 3) := by decide +kernel
theorem dX10_init_58 : decode cX10_init 58 = .ok (.aload_n 0, 1) := by decide +kernel
theorem dX10_init_59 : decode cX10_init 59 = .ok (.aload_n 0, 1) := by decide +kernel
theorem dX10_init_60 : decode cX10_init 60 = .ok (.getfield 18, 3) := by decide +kernel
theorem dX10_init_63 : decode cX10_init 63 = .ok (.anewarray 42, 3) := by decide +kernel
theorem dX10_init_66 : decode cX10_init 66 = .ok (.putfield 44, 3) := by decide +kernel
theorem dX10_init_69 : decode cX10_init 69 = .ok (.iconst 0, 1) := by decide +kernel
theorem dX10_init_70 : decode cX10_init 70 = .ok (.istore_n 3, 1) := by decide +kernel
theorem dX10_init_71 : decode cX10_init 71 = .ok (.iload_n 3, 1) := by decide +kernel
theorem dX10_init_72 : decode cX10_init 72 = .ok (.aload_n 0, 1) := by decide +kernel
theorem dX10_init_73 : decode cX10_init 73 = .ok (.getfield 18, 3) := by decide +kernel
theorem dX10_init_76 : decode cX10_init 76 = .ok (.if_icmp .ge 27, 3) := by decide +kernel
theorem dX10_init_79 : decode cX10_init 79 = .ok (.aload_n 0, 1) := by decide +kernel
theorem dX10_init_80 : decode cX10_init 80 = .ok (.getfield 44, 3) := by decide +kernel
theorem dX10_init_83 : decode cX10_init 83 = .ok (.iload_n 3, 1) := by decide +kernel
theorem dX10_init_84 : decode cX10_init 84 = .ok (.new 42, 3) := by decide +kernel
theorem dX10_init_87 : decode cX10_init 87 = .ok (.dup, 1) := by decide +kernel
theorem dX10_init_88 : decode cX10_init 88 = .ok (.aload_n 0, 1) := by decide +kernel
theorem dX10_init_89 : decode cX10_init 89 = .ok (.getfield 25, 3) := by decide +kernel
theorem dX10_init_92 : decode cX10_init 92 = .ok (.iload_n 2, 1) := by decide +kernel
theorem dX10_init_93 : decode cX10_init 93 = .ok (.invokespecial 48, 3) := by decide +kernel
theorem dX10_init_96 : decode cX10_init 96 = .ok (.aastore, 1) := by decide +kernel
theorem dX10_init_97 : decode cX10_init 97 = .ok (.iinc 3 1, 3) := by decide +kernel
theorem dX10_init_100 : decode cX10_init 100 = .ok (.goto (-29), 3) := by decide +kernel
theorem dX10_init_103 : decode cX10_init 103 = .ok (.aload_n 0, 1) := by decide +kernel
theorem dX10_init_104 : decode cX10_init 104 = .ok (.iconst 4, 1) := by decide +kernel
theorem dX10_init_105 : decode cX10_init 105 = .ok (.anewarray 51, 3) := by decide +kernel
theorem dX10_init_108 : decode cX10_init 108 = .ok (.putfield 53, 3) := by decide +kernel
theorem dX10_init_111 : decode cX10_init 111 = .ok (.iconst 0, 1) := by decide +kernel
theorem dX10_init_112 : decode cX10_init 112 = .ok (.istore_n 3, 1) := by decide +kernel
theorem dX10_init_113 : decode cX10_init 113 = .ok (.iload_n 3, 1) := by decide +kernel
theorem dX10_init_114 : decode cX10_init 114 = .ok (.iconst 4, 1) := by decide +kernel
theorem dX10_init_115 : decode cX10_init 115 = .ok (.if_icmp .ge 32, 3) := by decide +kernel
theorem dX10_init_118 : decode cX10_init 118 = .ok (.aload_n 0, 1) := by decide +kernel
theorem dX10_init_119 : decode cX10_init 119 = .ok (.getfield 53, 3) := by decide +kernel
theorem dX10_init_122 : decode cX10_init 122 = .ok (.iload_n 3, 1) := by decide +kernel
theorem dX10_init_123 : decode cX10_init 123 = .ok (.new 51, 3) := by decide +kernel
theorem dX10_init_126 : decode cX10_init 126 = .ok (.dup, 1) := by decide +kernel
theorem dX10_init_127 : decode cX10_init 127 = .ok (.iload_n 3, 1) := by decide +kernel
theorem dX10_init_128 : decode cX10_init 128 = .ok (.aload_n 0, 1) := by decide +kernel
theorem dX10_init_129 : decode cX10_init 129 = .ok (.getfield 25, 3) := by decide +kernel
theorem dX10_init_132 : decode cX10_init 132 = .ok (.iload_n 2, 1) := by decide +kernel
theorem dX10_init_133 : decode cX10_init 133 = .ok (.aload_n 0, 1) := by decide +kernel
theorem dX10_init_134 : decode cX10_init 134 = .ok (.getfield 38, 3) := by decide +kernel
theorem dX10_init_137 : decode cX10_init 137 = .ok (.invokespecial 57, 3) := by decide +kernel
theorem dX10_init_140 : decode cX10_init 140 = .ok (.aastore, 1) := by decide +kernel
theorem dX10_init_141 : decode cX10_init 141 = .ok (.iinc 3 1, 3) := by decide +kernel
theorem dX10_init_144 : decode cX10_init 144 = .ok (.goto (-31), 3) := by decide +kernel
theorem dX10_init_147 : decode cX10_init 147 = .ok (.aload_n 0, 1) := by decide +kernel
theorem dX10_init_148 : decode cX10_init 148 = .ok (.new 60, 3) := by decide +kernel
theorem dX10_init_151 : decode cX10_init 151 = .ok (.dup, 1) := by decide +kernel
theorem dX10_init_152 : decode cX10_init 152 = .ok (.aload_n 0, 1) := by decide +kernel
theorem dX10_init_153 : decode cX10_init 153 = .ok (.getfield 25, 3) := by decide +kernel
theorem dX10_init_156 : decode cX10_init 156 = .ok (.aload_n 0, 1) := by decide +kernel
theorem dX10_init_157 : decode cX10_init 157 = .ok (.getfield 44, 3) := by decide +kernel
theorem dX10_init_160 : decode cX10_init 160 = .ok (.aload_n 0, 1) := by decide +kernel
theorem dX10_init_161 : decode cX10_init 161 = .ok (.getfield 53, 3) := by decide +kernel
theorem dX10_init_164 : decode cX10_init 164 = .ok (.aload_n 0, 1) := by decide +kernel
theorem dX10_init_165 : decode cX10_init 165 = .ok (.getfield 38, 3) := by decide +kernel
theorem dX10_init_168 : decode cX10_init 168 = .ok (.invokespecial 62, 3) := by decide +kernel
theorem dX10_init_171 : decode cX10_init 171 = .ok (.putfield 65, 3) := by decide +kernel
theorem dX10_init_174 : decode cX10_init 174 = .ok (.aload_n 0, 1) := by decide +kernel
theorem dX10_init_175 : decode cX10_init 175 = .ok (.new 69, 3) := by decide +kernel
theorem dX10_init_178 : decode cX10_init 178 = .ok (.dup, 1) := by decide +kernel
theorem dX10_init_179 : decode cX10_init 179 = .ok (.aload_n 0, 1) := by decide +kernel
theorem dX10_init_180 : decode cX10_init 180 = .ok (.getfield 65, 3) := by decide +kernel
theorem dX10_init_183 : decode cX10_init 183 = .ok (.iload_n 2, 1) := by decide +kernel
theorem dX10_init_184 : decode cX10_init 184 = .ok (.invokespecial 71, 3) := by decide +kernel
theorem dX10_init_187 : decode cX10_init 187 = .ok (.putfield 74, 3) := by decide +kernel
theorem dX10_init_190 : decode cX10_init 190 = .ok (.aload_n 0, 1) := by decide +kernel
theorem dX10_init_191 : decode cX10_init 191 = .ok (.new 78, 3) := by decide +kernel
theorem dX10_init_194 : decode cX10_init 194 = .ok (.dup, 1) := by decide +kernel
theorem dX10_init_195 : decode cX10_init 195 = .ok (.aload_n 0, 1) := by decide +kernel
theorem dX10_init_196 : decode cX10_init 196 = .ok (.getfield 65, 3) := by decide +kernel
theorem dX10_init_199 : decode cX10_init 199 = .ok (.iload_n 2, 1) := by decide +kernel
theorem dX10_init_200 : decode cX10_init 200 = .ok (.invokespecial 80, 3) := by decide +kernel
theorem dX10_init_203 : decode cX10_init 203 = .ok (.putfield 81, 3) := by decide +kernel
theorem dX10_init_206 : decode cX10_init 206 = .ok (.return_, 1) := by decide +kernel
abbrev wmX10_init : List Cond := .code yX10_init cX10_init 4 none :: cBig
set_option maxHeartbeats 8000000 in
set_option maxRecDepth 100000 in
theorem k_X10 (l : Launch) (N : Nat) (hN1 : 1 ≤ N) (hN4 : N ≤ 4) (D : va_G) (dA : Nat → ClassId) (q : Nat) (a1 : Int32) (ha1 : (if (1 : Int32) < (if a1 < (4 : Int32) then a1 else (4 : Int32)) then (if a1 < (4 : Int32) then a1 else (4 : Int32)) else (1 : Int32)) = nI N) : Met l yX10_init wmX10_init ({ frames := 3, cells := 2887, slots := 24276, locals := 100 } : Room) (kPp N D dA q (q + 1) (cAd N q (0, 0, 0)) 10 9 tyX10 (fun i => False) [.ref (cAd N q (0, 0, 0)), .int a1]) (kQ N D dA (cAd N q) (cAd N q (0, 0, 0)) (q + 1) (543 + 586 * N) (fun i => cLive N i) (cM0 N)) 2887 24276 (kReg (cAd N q (0, 0, 0)) (q + 1)) := by
  refine Met.ofW (cc := cX10_init) (maxL := 4) (ret := none) (by decide) rfl ?_
  intro p e s m args below meth c s₁ B hml hv
  obtain ⟨rfl, hsz, hO, hK, hAO, hNw, hpre⟩ := hv
  generalize hargs : ([.ref (cAd N q (0, 0, 0)), .int a1] : List Value).toArray = args at B ⊢
  have S : CallFix p m c cX10_init 4 s args wmX10_init RX10 := ⟨B.exec, B.bytes, hml, findClass_of_methodNamed B.named, atoms_spec (ws := wmX10_init) B.pre⟩
  obtain ⟨hx, hb, -, hown, hts⟩ := id S
  have hr := B.returns
  have hlocks := B.notSynchronized
  have hin2 : meth.name = "<init>" := (name_of_methodNamed B.named B.method).1
  have hin : ∀ w ∈ wsX100, w ∈ wmX10_init := cin_X10
  have hS : va_S (kReg (cAd N q (0, 0, 0)) (q + 1)) s.heap s.heap [] := va_S.rf
  have hme : cAd N q (0, 0, 0) = q := rfl
  have hg : kG N D dA q (q + 1) (q + 1) s.heap (fun _ => False) := kG.none
  have hl := lv_entry ([.ref (cAd N q (0, 0, 0)), .int a1]) (n := 4) (Nat.le_of_ble_eq_true rfl)
  rw [← hargs, lg_entry_eq, hargs]
  generalize (lg_sl ([.ref (cAd N q (0, 0, 0)), .int a1]) ++ List.replicate (4 - (lg_sl ([.ref (cAd N q (0, 0, 0)), .int a1])).length) Slot.unset).toArray = ls at hl ⊢
  have hl : lv_has ls 4 [(0, .ref (cAd N q (0, 0, 0))), (1, .int a1)] := hl
  have b7 : cAd N q (7, 0, 0) = q + 8 := rfl
  have b8 : cAd N q (8, 0, 0) = q + 9 + 586 * N := rfl
  have b10 : cAd N q (10, 0, 0) = q + 510 + 586 * N := rfl
  have b1 : cAd N q (1, 0, 0) = q + 1 := rfl
  have b5 : cAd N q (5, 0, 0) = q + 5 := rfl
  have fin : ∀ (H : Heap) (locs : List Loc) (ls : Array Slot), H.size = q + 510 + 586 * N → t_OB (cAd N q (0, 0, 0)) (D.1 10) 9 (D.2 10) H (updV (updV (updV (updV (updV (updV (fun k => defaultValue (tyX10 k)) 0 (.int (nI N))) 1 (.ref (cAd N q (1, 0, 0)))) 2 (.ref (cAd N q (5, 0, 0)))) 5 (.ref (cAd N q (9, 0, 0)))) 3 (.ref (cAd N q (7, 0, 0)))) 4 (.ref (cAd N q (8, 0, 0)))) → H[cAd N q (8, 0, 0)]? = some (arrV (dA 3) 4 (fun j => if j < 4 then .ref (cAd N q (30, j, 0)) else .null)) → kG N D dA q (q + 1) (q + 510 + 586 * N) H (fun i => (kP1 i ∨ kPs N N i ∨ i = (7, 0, 0)) ∨ kPl N 4 i) → va_S (kReg (cAd N q (0, 0, 0)) (q + 1)) s.heap H locs → lv_has ls 4 [(3, .int (nI 4)), (2, .int (nI (N + 4))), (0, .ref (cAd N q (0, 0, 0))), (1, .int a1)] → W p l e (headSpec wmX10_init ({ frames := 3, cells := 2887, slots := 24276, locals := 100 } : Room)).room s m args below meth c H locs (2853) (23927) (MQ below (kQ N D dA (cAd N q) (cAd N q (0, 0, 0)) (q + 1) (543 + 586 * N) (fun i => cLive N i) (cM0 N)) args s 2887 24276 (kReg (cAd N q (0, 0, 0)) (q + 1))) (F0 m 147 ls []) := by
    clear hO hg hsz hS hl
    intro H locs ls hsz hO e8 hg hS hl
    replace hsz : H.size = q + 586 * N + 510 := by omega
    replace hg : kG N D dA q (q + 1) (q + 586 * N + 510) H (fun i => ((kP1 i ∨ kPs N N i ∨ i = (7, 0, 0)) ∨ kPl N 4 i) ∨ i = (8, 0, 0)) := (hg.wide (by omega) (by omega)).join (fun i hi => by subst hi; exact ⟨by omega, e8.trans (congrArg some (arrV_ext fun j hj => by simp [hj]))⟩)
    clear e8
    refine lv_aload_n hx hb dX10_init_147 rfl (lv_at hl 2 rfl) ?_
    have hi_ : cAd N q (10, 0, 0) = q + 586 * N + 510 := by show q + 510 + 586 * N = _; omega
    have hsI : H.size = cAd N q (10, 0, 0) := by omega
    refine k_new (ci := 6) (C := RX6) (T := TX6) S hK hS rfl cin_X6 tyX6 tyX6_ok (hts (.classLink RX10 60 RX6) (cBc 543 rfl)) (hts (.instantiable RX6 4) (cBc 544 rfl)) (hts (.initialized RX6) (cBc 203 rfl)) (by show 2853 + 1 ≤ 2887; omega) (by show 23927 + 4 ≤ 24276; omega) dX10_init_148 (fun H1 hOn hz o hS_ => ?_)
    rw [hsI] at hOn ⊢
    replace hS := hS_
    clear hS_
    replace hO := hO.kept (o _ (by omega))
    replace hg := hg.old o (by omega)
    replace hsz : H1.size = q + 586 * N + 511 := by omega
    clear hz o hsI
    refine W.widen (k := 2854) (n := 23931) (by omega) (by omega) ?_
    refine lv_dup hx hb dX10_init_151 rfl ?_
    refine lv_aload_n hx hb dX10_init_152 rfl (lv_at hl 2 rfl) ?_
    refine k_get (ci := 10) (C := RX10) (T := TX10) S hK rfl hin hO 1 (by decide) ⟨rfl, rfl, rfl⟩ (v := .ref (cAd N q (1, 0, 0))) (by simp [updV]) (hts (.fieldLink RX10 25 "ReplicaFiles" "catalog" "LReplicaFiles$Catalog;") (cBc 532 rfl)) dX10_init_153 ?_
    refine lv_aload_n hx hb dX10_init_156 rfl (lv_at hl 2 rfl) ?_
    refine k_get (ci := 10) (C := RX10) (T := TX10) S hK rfl hin hO 3 (by decide) ⟨rfl, rfl, rfl⟩ (v := .ref (cAd N q (7, 0, 0))) (by simp [updV]) (hts (.fieldLink RX10 44 "ReplicaFiles" "servers" "[LReplicaFiles$Server;") (cBc 538 rfl)) dX10_init_157 ?_
    refine lv_aload_n hx hb dX10_init_160 rfl (lv_at hl 2 rfl) ?_
    refine k_get (ci := 10) (C := RX10) (T := TX10) S hK rfl hin hO 4 (by decide) ⟨rfl, rfl, rfl⟩ (v := .ref (cAd N q (8, 0, 0))) (by simp [updV]) (hts (.fieldLink RX10 53 "ReplicaFiles" "clients" "[LReplicaFiles$Client;") (cBc 541 rfl)) dX10_init_161 ?_
    refine lv_aload_n hx hb dX10_init_164 rfl (lv_at hl 2 rfl) ?_
    refine k_get (ci := 10) (C := RX10) (T := TX10) S hK rfl hin hO 5 (by decide) ⟨rfl, rfl, rfl⟩ (v := .ref (cAd N q (9, 0, 0))) (by simp [updV]) (hts (.fieldLink RX10 38 "ReplicaFiles" "tallies" "[I") (cBc 536 rfl)) dX10_init_165 ?_
    refine k_callP (q := q) (N := N) (A := cAd N q) (a := cAd N q (10, 0, 0)) (sz := q + 510 + 586 * N + 1) (As := [.ref (cAd N q (1, 0, 0)), .ref (cAd N q (7, 0, 0)), .ref (cAd N q (8, 0, 0)), .ref (cAd N q (9, 0, 0))]) (rest := [.ref (cAd N q (10, 0, 0)), .ref (cAd N q (0, 0, 0))]) S hK hAO hNw (fun i hi => False.elim hi) hS (by omega) hOn (k_X6 l N hN1 hN4 D dA q) (cwI 4 hts (cG (cB 493 rfl)) rfl rfl rfl (hts (.initialized RX6) (cBc 203 rfl)) (hts (.methodLink RX10 62 yX6_init) (cBc 560 rfl)) (hts (.instanceMethod yX6_init) (cBc 561 rfl)) rfl (by decide +kernel) ⟨Nat.le_of_ble_eq_true rfl, Nat.le_of_ble_eq_true rfl⟩) (fun x h => Or.inr (h.elim (fun h => by omega) (fun h => by omega))) rfl hl.1 rfl (Nat.le_of_ble_eq_true rfl) dX10_init_168 ⟨by show 2854 + 0 ≤ 2887; omega, by show 23931 + 0 ≤ 24276; omega⟩ (fun H2 locs hz hB o hS_ => ?_)
    replace hS := hS_
    clear hS_
    replace hO := hO.kept (o _ (by omega) (by omega))
    replace hg := hg.call o (by omega) (Or.inr (by omega))
    replace hsz : H2.size = q + 586 * N + 511 := by omega
    replace hg := (hg.wide (lo' := q + 1) (hi' := q + 586 * N + 511) (by omega) (by omega)).join (kG.of hB (fun i hi => rfl) (fun i hi => by subst hi; omega))
    clear hz o hB hOn hi_
    refine W.widen (k := 2854) (n := 23931) (by omega) (by omega) ?_
    refine k_putF (ci := 10) (C := RX10) (T := TX10) (ty := .object "ReplicaFiles$Replicas") S hin2 hK hS (Or.inl rfl) rfl hin tyX10 tyX10_ok nmX10 hO 6 (by decide) ⟨rfl, rfl, rfl, rfl⟩ rfl (hts (.fieldLink RX10 65 "ReplicaFiles" "replicas" "LReplicaFiles$Replicas;") (cBc 545 rfl)) (by decide) rfl rfl dX10_init_171 (fun H3 locs hO_ hz o hS_ => ?_)
    replace hS := hS_
    clear hS_
    replace hO := hO_
    clear hO_
    replace hg := hg.put o (Or.inl (by omega))
    replace hsz : H3.size = q + 586 * N + 511 := by omega
    clear hz o
    refine lv_aload_n hx hb dX10_init_174 rfl (lv_at hl 2 rfl) ?_
    have hi_ : cAd N q (11, 0, 0) = q + 586 * N + 511 := by show q + 511 + 586 * N = _; omega
    have hsI : H3.size = cAd N q (11, 0, 0) := by omega
    refine k_new (ci := 2) (C := RX2) (T := TX2) S hK hS rfl cin_X2 tyX2 tyX2_ok (hts (.classLink RX10 69 RX2) (cBc 546 rfl)) (hts (.instantiable RX2 5) (cBc 547 rfl)) (hts (.initialized RX2) (cBc 245 rfl)) (by show 2854 + 1 ≤ 2887; omega) (by show 23931 + 5 ≤ 24276; omega) dX10_init_175 (fun H4 hOn hz o hS_ => ?_)
    rw [hsI] at hOn ⊢
    replace hS := hS_
    clear hS_
    replace hO := hO.kept (o _ (by omega))
    replace hg := hg.old o (by omega)
    replace hsz : H4.size = q + 586 * N + 512 := by omega
    clear hz o hsI
    refine W.widen (k := 2855) (n := 23936) (by omega) (by omega) ?_
    refine lv_dup hx hb dX10_init_178 rfl ?_
    refine lv_aload_n hx hb dX10_init_179 rfl (lv_at hl 2 rfl) ?_
    refine k_get (ci := 10) (C := RX10) (T := TX10) S hK rfl hin hO 6 (by decide) ⟨rfl, rfl, rfl⟩ (v := .ref (cAd N q (10, 0, 0))) (by simp [updV]) (hts (.fieldLink RX10 65 "ReplicaFiles" "replicas" "LReplicaFiles$Replicas;") (cBc 545 rfl)) dX10_init_180 ?_
    refine lv_iload_n hx hb dX10_init_183 rfl (lv_at hl 1 rfl) ?_
    refine k_callP (q := q) (N := N) (A := cAd N q) (a := cAd N q (11, 0, 0)) (sz := q + 511 + 586 * N + 1) (As := [.ref (cAd N q (10, 0, 0)), .int (nI (N + 4))]) (rest := [.ref (cAd N q (11, 0, 0)), .ref (cAd N q (0, 0, 0))]) S hK hAO hNw (fun i hi => by rcases hi with rfl | rfl; exact (hg _ (Or.inr rfl)).2; exact (hg _ (Or.inl (Or.inr rfl))).2) hS (by omega) hOn (k_X2 l N hN1 hN4 D dA q) (cwI 2 hts (cG (cB 170 rfl)) rfl rfl rfl (hts (.initialized RX2) (cBc 245 rfl)) (hts (.methodLink RX10 71 yX2_init) (cBc 562 rfl)) (hts (.instanceMethod yX2_init) (cBc 563 rfl)) rfl (by decide +kernel) ⟨Nat.le_of_ble_eq_true rfl, Nat.le_of_ble_eq_true rfl⟩) (fun x h => Or.inr (h.elim (fun h => by omega) (fun h => by omega))) rfl hl.1 rfl (Nat.le_of_ble_eq_true rfl) dX10_init_184 ⟨by show 2855 + 1 ≤ 2887; omega, by show 23936 + 8 ≤ 24276; omega⟩ (fun H5 locs hz hB o hS_ => ?_)
    replace hS := hS_
    clear hS_
    replace hO := hO.kept (o _ (by omega) (by omega))
    replace hg := hg.call o (by omega) (Or.inr (by omega))
    replace hsz : H5.size = q + 586 * N + 513 := by omega
    replace hg := (hg.wide (lo' := q + 1) (hi' := q + 586 * N + 513) (by omega) (by omega)).join (kG.of hB (fun i hi => rfl) (fun i hi => by rcases hi with rfl | rfl; exact ⟨by omega, by omega⟩; exact ⟨by show _ ≤ q + 512 + 586 * N; omega, by show q + 512 + 586 * N < _; omega⟩))
    clear hz o hB hOn hi_
    refine W.widen (k := 2856) (n := 23944) (by omega) (by omega) ?_
    refine k_putF (ci := 10) (C := RX10) (T := TX10) (ty := .object "ReplicaFiles$HandingIn") S hin2 hK hS (Or.inl rfl) rfl hin tyX10 tyX10_ok nmX10 hO 7 (by decide) ⟨rfl, rfl, rfl, rfl⟩ rfl (hts (.fieldLink RX10 74 "ReplicaFiles" "handingIn" "LReplicaFiles$HandingIn;") (cBc 548 rfl)) (by decide) rfl rfl dX10_init_187 (fun H6 locs hO_ hz o hS_ => ?_)
    replace hS := hS_
    clear hS_
    replace hO := hO_
    clear hO_
    replace hg := hg.put o (Or.inl (by omega))
    replace hsz : H6.size = q + 586 * N + 513 := by omega
    clear hz o
    refine lv_aload_n hx hb dX10_init_190 rfl (lv_at hl 2 rfl) ?_
    have hi_ : cAd N q (13, 0, 0) = q + 586 * N + 513 := by show q + 513 + 586 * N = _; omega
    have hsI : H6.size = cAd N q (13, 0, 0) := by omega
    refine k_new (ci := 4) (C := RX4) (T := TX4) S hK hS rfl cin_X4 tyX4 tyX4_ok (hts (.classLink RX10 78 RX4) (cBc 549 rfl)) (hts (.instantiable RX4 8) (cBc 550 rfl)) (hts (.initialized RX4) (cBc 341 rfl)) (by show 2856 + 1 ≤ 2887; omega) (by show 23944 + 8 ≤ 24276; omega) dX10_init_191 (fun H7 hOn hz o hS_ => ?_)
    rw [hsI] at hOn ⊢
    replace hS := hS_
    clear hS_
    replace hO := hO.kept (o _ (by omega))
    replace hg := hg.old o (by omega)
    replace hsz : H7.size = q + 586 * N + 514 := by omega
    clear hz o hsI
    refine W.widen (k := 2857) (n := 23952) (by omega) (by omega) ?_
    refine lv_dup hx hb dX10_init_194 rfl ?_
    refine lv_aload_n hx hb dX10_init_195 rfl (lv_at hl 2 rfl) ?_
    refine k_get (ci := 10) (C := RX10) (T := TX10) S hK rfl hin hO 6 (by decide) ⟨rfl, rfl, rfl⟩ (v := .ref (cAd N q (10, 0, 0))) (by simp [updV]) (hts (.fieldLink RX10 65 "ReplicaFiles" "replicas" "LReplicaFiles$Replicas;") (cBc 545 rfl)) dX10_init_196 ?_
    refine lv_iload_n hx hb dX10_init_199 rfl (lv_at hl 1 rfl) ?_
    refine k_callP (q := q) (N := N) (A := cAd N q) (a := cAd N q (13, 0, 0)) (sz := q + 513 + 586 * N + 1) (As := [.ref (cAd N q (10, 0, 0)), .int (nI (N + 4))]) (rest := [.ref (cAd N q (13, 0, 0)), .ref (cAd N q (0, 0, 0))]) S hK hAO hNw (fun i hi => by subst hi; exact (hg _ (Or.inl (Or.inr rfl))).2) hS (by omega) hOn (k_X4 l N hN1 hN4 D dA q) (cwI 2 hts (cG (cB 320 rfl)) rfl rfl rfl (hts (.initialized RX4) (cBc 341 rfl)) (hts (.methodLink RX10 80 yX4_init) (cBc 564 rfl)) (hts (.instanceMethod yX4_init) (cBc 565 rfl)) rfl (by decide +kernel) ⟨Nat.le_of_ble_eq_true rfl, Nat.le_of_ble_eq_true rfl⟩) (fun x h => Or.inr (h.elim (fun h => by omega) (fun h => by omega))) rfl hl.1 rfl (Nat.le_of_ble_eq_true rfl) dX10_init_200 ⟨by show 2857 + 30 ≤ 2887; omega, by show 23952 + 324 ≤ 24276; omega⟩ (fun H8 locs hz hB o hS_ => ?_)
    replace hS := hS_
    clear hS_
    replace hO := hO.kept (o _ (by omega) (by omega))
    replace hg := hg.call o (by omega) (Or.inr (by omega))
    replace hsz : H8.size = q + 586 * N + 544 := by omega
    replace hg := (hg.wide (lo' := q + 1) (hi' := q + 586 * N + 544) (by omega) (by omega)).join (kG.of hB (fun i hi => rfl) (fun i hi => by rcases hi with rfl | rfl | rfl | hi; exact ⟨by omega, by omega⟩; exact ⟨by show _ ≤ q + 543 + 586 * N; omega, by show q + 543 + 586 * N < _; omega⟩; exact ⟨by show _ ≤ q + 514 + 586 * N; omega, by show q + 514 + 586 * N < _; omega⟩; exact (by have h1 := cAd_ver (q := q) hi; have h2 : cMost 192 = 24 := rfl; have h3 : cVb N q 192 = q + 515 + 586 * N := rfl; omega)))
    clear hz o hB hOn hi_
    refine W.widen (k := 2887) (n := 24276) (by omega) (by omega) ?_
    refine k_putF (ci := 10) (C := RX10) (T := TX10) (ty := .object "ReplicaFiles$Meeting") S hin2 hK hS (Or.inl rfl) rfl hin tyX10 tyX10_ok nmX10 hO 8 (by decide) ⟨rfl, rfl, rfl, rfl⟩ rfl (hts (.fieldLink RX10 81 "ReplicaFiles" "meeting" "LReplicaFiles$Meeting;") (cBc 551 rfl)) (by decide) rfl rfl dX10_init_203 (fun H9 locs hO_ hz o hS_ => ?_)
    replace hS := hS_
    clear hS_
    replace hO := hO_
    clear hO_
    replace hg := hg.put o (Or.inl (by omega))
    replace hsz : H9.size = q + 586 * N + 544 := by omega
    clear hz o
    refine W.widen (k := 2887) (n := 24276) (by omega) (by omega) ?_
    refine W.vret hx hb hr (fun t ht hW => ⟨⟨(), rfl, trivial, by rw [ht]; omega, fun i hi => ?_⟩, hS.F ht⟩) hS.2.2 dX10_init_206 hlocks
    rw [ht]
    rcases cLive_tag hi with h | h | h | h | h
    · obtain ⟨tg, a, b⟩ := i
      dsimp only at h
      rcases (show tg = 0 ∨ tg = 1 ∨ tg = 2 ∨ tg = 3 ∨ tg = 4 ∨ tg = 5 ∨ tg = 6 ∨ tg = 7 ∨ tg = 8 ∨ tg = 9 ∨ tg = 10 ∨ tg = 11 ∨ tg = 12 ∨ tg = 13 ∨ tg = 14 ∨ tg = 15 by omega) with rfl | rfl | rfl | rfl | rfl | rfl | rfl | rfl | rfl | rfl | rfl | rfl | rfl | rfl | rfl | rfl <;> obtain ⟨rfl, rfl⟩ : a = 0 ∧ b = 0 := hi
      · exact hO.to (fun k hk => by
          rcases (show k = 0 ∨ k = 1 ∨ k = 2 ∨ k = 3 ∨ k = 4 ∨ k = 5 ∨ k = 6 ∨ k = 7 ∨ k = 8 by omega) with rfl | rfl | rfl | rfl | rfl | rfl | rfl | rfl | rfl <;> first | rfl | simp [updV, gF, cF_X10, cM0, tyX10, defaultValue])
      · exact (hg _ (Or.inl (Or.inl (Or.inl (Or.inl (Or.inl (Or.inl (Or.inl rfl)))))))).2
      · exact (hg _ (Or.inl (Or.inl (Or.inl (Or.inl (Or.inl (Or.inl (Or.inr (Or.inl rfl))))))))).2
      · exact (hg _ (Or.inl (Or.inl (Or.inl (Or.inl (Or.inl (Or.inl (Or.inr (Or.inr (Or.inl rfl)))))))))).2
      · exact (hg _ (Or.inl (Or.inl (Or.inl (Or.inl (Or.inl (Or.inl (Or.inr (Or.inr (Or.inr (Or.inl rfl))))))))))).2
      · exact (hg _ (Or.inl (Or.inl (Or.inl (Or.inl (Or.inl (Or.inl (Or.inr (Or.inr (Or.inr (Or.inr (Or.inl rfl)))))))))))).2
      · exact (hg _ (Or.inl (Or.inl (Or.inl (Or.inl (Or.inl (Or.inl (Or.inr (Or.inr (Or.inr (Or.inr (Or.inr (Or.inl rfl))))))))))))).2
      · exact (hg _ (Or.inl (Or.inl (Or.inl (Or.inl (Or.inl (Or.inr (Or.inr rfl)))))))).2
      · exact (hg _ (Or.inl (Or.inl (Or.inl (Or.inr rfl))))).2
      · exact (hg _ (Or.inl (Or.inl (Or.inl (Or.inl (Or.inl (Or.inl (Or.inr (Or.inr (Or.inr (Or.inr (Or.inr (Or.inr rfl))))))))))))).2
      · exact (hg _ (Or.inl (Or.inl (Or.inr rfl)))).2
      · exact (hg _ (Or.inl (Or.inr (Or.inl rfl)))).2
      · exact (hg _ (Or.inl (Or.inr (Or.inr rfl)))).2
      · exact (hg _ (Or.inr (Or.inl rfl))).2
      · exact (hg _ (Or.inr (Or.inr (Or.inl rfl)))).2
      · exact (hg _ (Or.inr (Or.inr (Or.inr (Or.inl rfl))))).2
    · have h1 : i.2.1 < N := cl_lo hi (Or.inl h)
      exact (hg i (Or.inl (Or.inl (Or.inl (Or.inl (Or.inl (Or.inr (Or.inl ⟨hi, Or.inl ⟨h.1, h.2, h1⟩⟩)))))))).2
    · have h1 : i.2.1 < 4 := cl_lo4 hi h
      exact (hg i (Or.inl (Or.inl (Or.inl (Or.inl (Or.inr ⟨hi, Or.inl ⟨h.1, h.2, h1⟩⟩)))))).2
    · rcases cl_tr hi h with h1 | h1
      · exact (hg i (Or.inl (Or.inl (Or.inl (Or.inl (Or.inl (Or.inr (Or.inl ⟨hi, Or.inr (Or.inl ⟨h.1, h.2, h1⟩)⟩)))))))).2
      · exact (hg i (Or.inl (Or.inl (Or.inl (Or.inl (Or.inr ⟨hi, Or.inr ⟨h.1, h.2, h1.1, h1.2⟩⟩)))))).2
    · rcases cl_vr hi h with h1 | h1
      · exact (hg i (Or.inl (Or.inl (Or.inl (Or.inl (Or.inl (Or.inr (Or.inl ⟨hi, Or.inr (Or.inr ⟨h.1, h.2, by omega⟩)⟩)))))))).2
      · exact (hg i (Or.inr (Or.inr (Or.inr (Or.inr ⟨hi, h.1, h.2, h1⟩))))).2
  have loop2 : ∀ (n j0 : Nat) (H : Heap) (locs : List Loc) (ls : Array Slot), j0 ≤ 4 → 4 < j0 + n → H.size = q + 10 + 586 * N + 125 * j0 → t_OB (cAd N q (0, 0, 0)) (D.1 10) 9 (D.2 10) H (updV (updV (updV (updV (updV (updV (fun k => defaultValue (tyX10 k)) 0 (.int (nI N))) 1 (.ref (cAd N q (1, 0, 0)))) 2 (.ref (cAd N q (5, 0, 0)))) 5 (.ref (cAd N q (9, 0, 0)))) 3 (.ref (cAd N q (7, 0, 0)))) 4 (.ref (cAd N q (8, 0, 0)))) → H[cAd N q (8, 0, 0)]? = some (arrV (dA 3) 4 (fun j => if j < j0 then .ref (cAd N q (30, j, 0)) else .null)) → kG N D dA q (q + 1) (q + 10 + 586 * N + 125 * j0) H (fun i => (kP1 i ∨ kPs N N i ∨ i = (7, 0, 0)) ∨ kPl N j0 i) → va_S (kReg (cAd N q (0, 0, 0)) (q + 1)) s.heap H locs → lv_has ls 4 [(3, .int (nI j0)), (2, .int (nI (N + 4))), (0, .ref (cAd N q (0, 0, 0))), (1, .int a1)] → W p l e (headSpec wmX10_init ({ frames := 3, cells := 2887, slots := 24276, locals := 100 } : Room)).room s m args below meth c H locs (2353 + 125 * j0) (18263 + 1416 * j0) (MQ below (kQ N D dA (cAd N q) (cAd N q (0, 0, 0)) (q + 1) (543 + 586 * N) (fun i => cLive N i) (cM0 N)) args s 2887 24276 (kReg (cAd N q (0, 0, 0)) (q + 1))) (F0 m 113 ls []) := by
    clear hg hO hsz hS hl
    intro n
    induction n with
    | zero => intro j0 H locs ls h1 h2; omega
    | succ n ih =>
      intro j0 H locs ls ho48 hon hsz hO e8 hg hS hl
      refine lv_iload_n hx hb dX10_init_113 rfl (lv_at hl 0 rfl) ?_
      refine lv_iconst (v := (4 : Int32)) hx hb dX10_init_114 (by decide) ?_
      refine lv_icmp_ge (tgt := 147) hx hb dX10_init_115 (by decide) (fun c4 => ?_) (fun c4 => ?_)
      · obtain rfl : j0 = 4 := by have := (nI_leI (a := 4) (b := j0) (by omega) (by omega)).mp c4; omega
        refine W.widen (k := 2853) (n := 23927) (by omega) (by omega) ?_
        exact fin H locs ls (by omega) hO e8 (hg.wide (by omega) (by omega)) hS hl
      · have ho : j0 < 4 := by rcases Nat.lt_or_ge j0 4 with h | h; exact h; exact absurd (nI_le h (by omega)) c4
        replace hsz : H.size = q + 586 * N + 125 * j0 + 10 := by omega
        replace hg := hg.wide (lo' := q + 1) (hi' := q + 586 * N + 125 * j0 + 10) (by omega) (by omega)
        refine lv_aload_n hx hb dX10_init_118 rfl (lv_at hl 2 rfl) ?_
        refine k_get (ci := 10) (C := RX10) (T := TX10) S hK rfl hin hO 4 (by decide) ⟨rfl, rfl, rfl⟩ (v := .ref (cAd N q (8, 0, 0))) (by simp [updV]) (hts (.fieldLink RX10 53 "ReplicaFiles" "clients" "[LReplicaFiles$Client;") (cBc 541 rfl)) dX10_init_119 ?_
        refine lv_iload_n hx hb dX10_init_122 rfl (lv_at hl 0 rfl) ?_
        have hi_ : cAd N q (30, j0, 0) = q + 586 * N + 125 * j0 + 10 := by show q + 10 + 586 * N + 125 * j0 = _; omega
        have hsI : H.size = cAd N q (30, j0, 0) := by omega
        refine k_new (ci := 1) (C := RX1) (T := TX1) S hK hS rfl cin_X1 tyX1 tyX1_ok (hts (.classLink RX10 51 RX1) (cBc 540 rfl)) (hts (.instantiable RX1 12) (cBc 542 rfl)) (hts (.initialized RX1) (cBc 64 rfl)) (by show 2353 + 125 * j0 + 1 ≤ 2887; omega) (by show 18263 + 1416 * j0 + 12 ≤ 24276; omega) dX10_init_123 (fun H10 hOn hz o hS_ => ?_)
        rw [hsI] at hOn ⊢
        replace hS := hS_
        clear hS_
        replace hO := hO.kept (o _ (by omega))
        replace e8 : H10[cAd N q (8, 0, 0)]? = _ := (o _ (by omega)).trans e8
        replace hg := hg.old o (by omega)
        replace hsz : H10.size = q + 586 * N + 125 * j0 + 11 := by omega
        clear hz o hsI
        refine W.widen (k := 2354 + 125 * j0) (n := 18275 + 1416 * j0) (by omega) (by omega) ?_
        refine lv_dup hx hb dX10_init_126 rfl ?_
        refine lv_iload_n hx hb dX10_init_127 rfl (lv_at hl 0 rfl) ?_
        refine lv_aload_n hx hb dX10_init_128 rfl (lv_at hl 2 rfl) ?_
        refine k_get (ci := 10) (C := RX10) (T := TX10) S hK rfl hin hO 1 (by decide) ⟨rfl, rfl, rfl⟩ (v := .ref (cAd N q (1, 0, 0))) (by simp [updV]) (hts (.fieldLink RX10 25 "ReplicaFiles" "catalog" "LReplicaFiles$Catalog;") (cBc 532 rfl)) dX10_init_129 ?_
        refine lv_iload_n hx hb dX10_init_132 rfl (lv_at hl 1 rfl) ?_
        refine lv_aload_n hx hb dX10_init_133 rfl (lv_at hl 2 rfl) ?_
        refine k_get (ci := 10) (C := RX10) (T := TX10) S hK rfl hin hO 5 (by decide) ⟨rfl, rfl, rfl⟩ (v := .ref (cAd N q (9, 0, 0))) (by simp [updV]) (hts (.fieldLink RX10 38 "ReplicaFiles" "tallies" "[I") (cBc 536 rfl)) dX10_init_134 ?_
        refine k_callP (q := q) (N := N) (A := cAd N q) (a := cAd N q (30, j0, 0)) (sz := q + 10 + 586 * N + 125 * j0 + 1) (As := [.int (nI j0), .ref (cAd N q (1, 0, 0)), .int (nI (N + 4)), .ref (cAd N q (9, 0, 0))]) (rest := [.ref (cAd N q (30, j0, 0)), .int (nI j0), .ref (cAd N q (8, 0, 0))]) S hK hAO hNw (fun i hi => False.elim hi) hS (by omega) hOn (k_X1 l N hN1 hN4 D dA q j0 ho) (cwI 4 hts (cG (cB 54 rfl)) rfl rfl rfl (hts (.initialized RX1) (cBc 64 rfl)) (hts (.methodLink RX10 57 yX1_init) (cBc 558 rfl)) (hts (.instanceMethod yX1_init) (cBc 559 rfl)) rfl (by decide +kernel) ⟨Nat.le_of_ble_eq_true rfl, Nat.le_of_ble_eq_true rfl⟩) (fun x h => Or.inr (h.elim (fun h => by omega) (fun h => by omega))) rfl hl.1 rfl (Nat.le_of_ble_eq_true rfl) dX10_init_137 ⟨by show 2354 + 125 * j0 + 124 ≤ 2887; omega, by show 18275 + 1416 * j0 + 1404 ≤ 24276; omega⟩ (fun H11 locs hz hB o hS_ => ?_)
        replace hS := hS_
        clear hS_
        replace hO := hO.kept (o _ (by omega) (by omega))
        replace e8 : H11[cAd N q (8, 0, 0)]? = _ := (o _ (by omega) (by omega)).trans e8
        replace hg := hg.call o (by omega) (Or.inr (by omega))
        replace hsz : H11.size = q + 586 * N + 125 * j0 + 135 := by omega
        replace hg := (hg.wide (lo' := q + 1) (hi' := q + 586 * N + 125 * j0 + 135) (by omega) (by omega)).join (kG.of hB (fun i hi => rfl) (fun i hi => by have h1 := cAd_cli (q := q) hi; omega))
        clear hz o hB hOn hi_
        refine W.widen (k := 2478 + 125 * j0) (n := 19679 + 1416 * j0) (by omega) (by omega) ?_
        refine k_aast (C := RX1) (ci := 1) (nf := 12) (T := TX1) 3 rfl S hK hS (Or.inr (by omega)) rfl e8 (hg (30, j0, 0) (Or.inr ⟨⟨ho, rfl⟩, Or.inl ⟨Nat.le_refl _, by dsimp only; omega, rfl⟩⟩)).2 (vp_in_nI ho (by omega)) dX10_init_140 (fun H12 locs e_ hz o_ hS_ => ?_)
        replace hS := hS_
        clear hS_
        replace hO := hO.kept (o_ _ (by omega))
        replace hg := hg.ne o_ (fun i hi => by rcases hi with ((h | h | h) | h) | h; have := kP1.lt (N := N) (q := q) h; omega; have := kPs.ge (q := q) hN4 h; omega; subst h; omega; have := kPl.ge (q := q) h; omega; have := cAd_cli (q := q) h; omega)
        rw [nI_clamp (by omega)] at e_
        refine lv_iinc (v := nI (j0 + 1)) (lv' := [(3, .int (nI (j0 + 1))), (2, .int (nI (N + 4))), (0, .ref (cAd N q (0, 0, 0))), (1, .int a1)]) hx hb dX10_init_141 hl (k := 0) rfl (nI_1 j0) (by decide) rfl (fun ls hl => ?_)
        refine lv_goto (tgt := 113) hx hb dX10_init_144 (by decide) ?_
        refine W.widen (k := 2353 + 125 * (j0 + 1)) (n := 18263 + 1416 * (j0 + 1)) (by omega) (by omega) ?_
        refine ih (j0 + 1) H12 locs ls (by omega) (by omega) (by omega) hO ?_ ?_ hS hl
        · rw [e_]
          refine congrArg some (arrV_ext fun j hj => ?_)
          by_cases ej : j = j0
          · subst ej; simp [updV]
          · by_cases h : j < j0
            · simp [updV, ej, h, Nat.lt_succ_of_lt h]
            · simp [updV, ej, h, show ¬ j < j0 + 1 by omega]
        · exact (hg.wide (lo' := q + 1) (hi' := q + 10 + 586 * N + 125 * (j0 + 1)) (by omega) (by omega)).sub (fun i hi => hi.elim (fun h => Or.inl (Or.inl h)) (fun h => h.up.elim (fun h => Or.inl (Or.inr h)) Or.inr))
  have mid : ∀ (H : Heap) (locs : List Loc) (ls : Array Slot), H.size = q + 9 + 586 * N → t_OB (cAd N q (0, 0, 0)) (D.1 10) 9 (D.2 10) H (updV (updV (updV (updV (updV (fun k => defaultValue (tyX10 k)) 0 (.int (nI N))) 1 (.ref (cAd N q (1, 0, 0)))) 2 (.ref (cAd N q (5, 0, 0)))) 5 (.ref (cAd N q (9, 0, 0)))) 3 (.ref (cAd N q (7, 0, 0)))) → H[cAd N q (7, 0, 0)]? = some (arrV (dA 2) N (fun j => if j < N then .ref (cAd N q (20, j, 0)) else .null)) → kG N D dA q (q + 1) (q + 9 + 586 * N) H (fun i => kP1 i ∨ kPs N N i) → va_S (kReg (cAd N q (0, 0, 0)) (q + 1)) s.heap H locs → lv_has ls 4 [(3, .int (nI N)), (2, .int (nI (N + 4))), (0, .ref (cAd N q (0, 0, 0))), (1, .int a1)] → W p l e (headSpec wmX10_init ({ frames := 3, cells := 2887, slots := 24276, locals := 100 } : Room)).room s m args below meth c H locs (2352) (18259) (MQ below (kQ N D dA (cAd N q) (cAd N q (0, 0, 0)) (q + 1) (543 + 586 * N) (fun i => cLive N i) (cM0 N)) args s 2887 24276 (kReg (cAd N q (0, 0, 0)) (q + 1))) (F0 m 103 ls []) := by
    clear hO hg hsz hS hl
    intro H locs ls hsz hO e7 hg hS hl
    replace hsz : H.size = q + 586 * N + 9 := by omega
    replace hg : kG N D dA q (q + 1) (q + 586 * N + 9) H (fun i => (kP1 i ∨ kPs N N i) ∨ i = (7, 0, 0)) := (hg.wide (by omega) (by omega)).join (fun i hi => by subst hi; exact ⟨by omega, e7.trans (congrArg some (arrV_ext fun j hj => by simp [hj]))⟩)
    clear e7
    refine lv_aload_n hx hb dX10_init_103 rfl (lv_at hl 2 rfl) ?_
    refine lv_iconst (v := (4 : Int32)) hx hb dX10_init_104 (by decide) ?_
    have hi_ : cAd N q (8, 0, 0) = q + 586 * N + 9 := by show q + 9 + 586 * N = _; omega
    have hsI : H.size = cAd N q (8, 0, 0) := by omega
    refine k_anew (C := RX1) (n := 4) 3 rfl S hK hS (hts (.classLink RX10 51 RX1) (cBc 540 rfl)) hAO.2.2.1 rfl (by omega) (by show 2352 + 1 ≤ 2887; omega) (by show 18259 + 4 ≤ 24276; omega) dX10_init_105 (fun H13 e8 hz o hS_ => ?_)
    rw [hsI] at e8 ⊢
    replace hS := hS_
    clear hS_
    replace hO := hO.kept (o _ (by omega))
    replace hg := hg.old o (by omega)
    replace hsz : H13.size = q + 586 * N + 10 := by omega
    replace hg := hg.wide (lo' := q + 1) (hi' := q + 586 * N + 10) (by omega) (by omega)
    clear hz o hsI hi_
    refine W.widen (k := 2353) (n := 18263) (by omega) (by omega) ?_
    refine k_putF (ci := 10) (C := RX10) (T := TX10) (ty := .array (.object "ReplicaFiles$Client")) S hin2 hK hS (Or.inl rfl) rfl hin tyX10 tyX10_ok nmX10 hO 4 (by decide) ⟨rfl, rfl, rfl, rfl⟩ rfl (hts (.fieldLink RX10 53 "ReplicaFiles" "clients" "[LReplicaFiles$Client;") (cBc 541 rfl)) (by decide) rfl rfl dX10_init_108 (fun H14 locs hO_ hz o hS_ => ?_)
    replace hS := hS_
    clear hS_
    replace hO := hO_
    clear hO_
    replace e8 : H14[cAd N q (8, 0, 0)]? = _ := (o _ (by omega)).trans e8
    replace hg := hg.put o (Or.inl (by omega))
    replace hsz : H14.size = q + 586 * N + 10 := by omega
    clear hz o
    refine lv_iconst (v := (0 : Int32)) hx hb dX10_init_111 (by decide) ?_
    rw [show (0 : Int32) = nI 0 from rfl]
    refine lv_istore_n (lv' := [(3, .int (nI 0)), (2, .int (nI (N + 4))), (0, .ref (cAd N q (0, 0, 0))), (1, .int a1)]) hx hb dX10_init_112 rfl hl (by decide) rfl (fun ls hl => ?_)
    refine loop2 5 0 _ _ _ (by omega) (by omega) (by omega) hO (e8.trans (congrArg some (arrV_ext fun j hj => by simp))) ((hg.wide (lo' := q + 1) (hi' := q + 10 + 586 * N + 125 * 0) (by omega) (by omega)).sub (fun i hi => hi.elim (fun h => h.elim (fun h => Or.inl (Or.inl h)) (fun h => h.elim (fun h => Or.inl (Or.inr h)) Or.inr)) (fun h => h.no.elim))) hS hl
  have loop1 : ∀ (n j0 : Nat) (H : Heap) (locs : List Loc) (ls : Array Slot), j0 ≤ N → N < j0 + n → H.size = q + 9 + 586 * j0 → t_OB (cAd N q (0, 0, 0)) (D.1 10) 9 (D.2 10) H (updV (updV (updV (updV (updV (fun k => defaultValue (tyX10 k)) 0 (.int (nI N))) 1 (.ref (cAd N q (1, 0, 0)))) 2 (.ref (cAd N q (5, 0, 0)))) 5 (.ref (cAd N q (9, 0, 0)))) 3 (.ref (cAd N q (7, 0, 0)))) → H[cAd N q (7, 0, 0)]? = some (arrV (dA 2) N (fun j => if j < j0 then .ref (cAd N q (20, j, 0)) else .null)) → kG N D dA q (q + 1) (q + 9 + 586 * j0) H (fun i => kP1 i ∨ kPs N j0 i) → va_S (kReg (cAd N q (0, 0, 0)) (q + 1)) s.heap H locs → lv_has ls 4 [(3, .int (nI j0)), (2, .int (nI (N + 4))), (0, .ref (cAd N q (0, 0, 0))), (1, .int a1)] → W p l e (headSpec wmX10_init ({ frames := 3, cells := 2887, slots := 24276, locals := 100 } : Room)).room s m args below meth c H locs (8 + 586 * j0) (167 + 4523 * j0) (MQ below (kQ N D dA (cAd N q) (cAd N q (0, 0, 0)) (q + 1) (543 + 586 * N) (fun i => cLive N i) (cM0 N)) args s 2887 24276 (kReg (cAd N q (0, 0, 0)) (q + 1))) (F0 m 71 ls []) := by
    clear hg hO hsz hS hl
    intro n
    induction n with
    | zero => intro j0 H locs ls h1 h2; omega
    | succ n ih =>
      intro j0 H locs ls ho48 hon hsz hO e7 hg hS hl
      refine lv_iload_n hx hb dX10_init_71 rfl (lv_at hl 0 rfl) ?_
      refine lv_aload_n hx hb dX10_init_72 rfl (lv_at hl 2 rfl) ?_
      refine k_get (ci := 10) (C := RX10) (T := TX10) S hK rfl hin hO 0 (by decide) ⟨rfl, rfl, rfl⟩ (v := .int (nI N)) (by simp [updV]) (hts (.fieldLink RX10 18 "ReplicaFiles" "serverCount" "I") (cBc 529 rfl)) dX10_init_73 ?_
      refine lv_icmp_ge (tgt := 103) hx hb dX10_init_76 (by decide) (fun c4 => ?_) (fun c4 => ?_)
      · obtain rfl : j0 = N := by have := (nI_leI (a := N) (b := j0) (by omega) (by omega)).mp c4; omega
        refine W.widen (k := 2352) (n := 18259) (by omega) (by omega) ?_
        exact mid H locs ls (by omega) hO e7 (hg.wide (by omega) (by omega)) hS hl
      · have ho : j0 < N := by rcases Nat.lt_or_ge j0 N with h | h; exact h; exact absurd (nI_le h (by omega)) c4
        replace hsz : H.size = q + 586 * j0 + 9 := by omega
        replace hg := hg.wide (lo' := q + 1) (hi' := q + 586 * j0 + 9) (by omega) (by omega)
        refine lv_aload_n hx hb dX10_init_79 rfl (lv_at hl 2 rfl) ?_
        refine k_get (ci := 10) (C := RX10) (T := TX10) S hK rfl hin hO 3 (by decide) ⟨rfl, rfl, rfl⟩ (v := .ref (cAd N q (7, 0, 0))) (by simp [updV]) (hts (.fieldLink RX10 44 "ReplicaFiles" "servers" "[LReplicaFiles$Server;") (cBc 538 rfl)) dX10_init_80 ?_
        refine lv_iload_n hx hb dX10_init_83 rfl (lv_at hl 0 rfl) ?_
        have hi_ : cAd N q (20, j0, 0) = q + 586 * j0 + 9 := by show q + 9 + 586 * j0 = _; omega
        have hsI : H.size = cAd N q (20, j0, 0) := by omega
        refine k_new (ci := 7) (C := RX7) (T := TX7) S hK hS rfl cin_X7 tyX7 tyX7_ok (hts (.classLink RX10 42 RX7) (cBc 537 rfl)) (hts (.instantiable RX7 4) (cBc 539 rfl)) (hts (.initialized RX7) (cBc 235 rfl)) (by show 8 + 586 * j0 + 1 ≤ 2887; omega) (by show 167 + 4523 * j0 + 4 ≤ 24276; omega) dX10_init_84 (fun H15 hOn hz o hS_ => ?_)
        rw [hsI] at hOn ⊢
        replace hS := hS_
        clear hS_
        replace hO := hO.kept (o _ (by omega))
        replace e7 : H15[cAd N q (7, 0, 0)]? = _ := (o _ (by omega)).trans e7
        replace hg := hg.old o (by omega)
        replace hsz : H15.size = q + 586 * j0 + 10 := by omega
        clear hz o hsI
        refine W.widen (k := 9 + 586 * j0) (n := 171 + 4523 * j0) (by omega) (by omega) ?_
        refine lv_dup hx hb dX10_init_87 rfl ?_
        refine lv_aload_n hx hb dX10_init_88 rfl (lv_at hl 2 rfl) ?_
        refine k_get (ci := 10) (C := RX10) (T := TX10) S hK rfl hin hO 1 (by decide) ⟨rfl, rfl, rfl⟩ (v := .ref (cAd N q (1, 0, 0))) (by simp [updV]) (hts (.fieldLink RX10 25 "ReplicaFiles" "catalog" "LReplicaFiles$Catalog;") (cBc 532 rfl)) dX10_init_89 ?_
        refine lv_iload_n hx hb dX10_init_92 rfl (lv_at hl 1 rfl) ?_
        refine k_callP (q := q) (N := N) (A := cAd N q) (a := cAd N q (20, j0, 0)) (sz := q + 9 + 586 * j0 + 1) (As := [.ref (cAd N q (1, 0, 0)), .int (nI (N + 4))]) (rest := [.ref (cAd N q (20, j0, 0)), .int (nI j0), .ref (cAd N q (7, 0, 0))]) S hK hAO hNw (fun i hi => False.elim hi) hS (by omega) hOn (k_X7 l N hN1 hN4 D dA q j0 ho) (cwI 2 hts (cG (cB 516 rfl)) rfl rfl rfl (hts (.initialized RX7) (cBc 235 rfl)) (hts (.methodLink RX10 48 yX7_init) (cBc 556 rfl)) (hts (.instanceMethod yX7_init) (cBc 557 rfl)) rfl (by decide +kernel) ⟨Nat.le_of_ble_eq_true rfl, Nat.le_of_ble_eq_true rfl⟩) (fun x h => Or.inr (h.elim (fun h => by omega) (fun h => by omega))) rfl hl.1 rfl (Nat.le_of_ble_eq_true rfl) dX10_init_93 ⟨by show 9 + 586 * j0 + 585 ≤ 2887; omega, by show 171 + 4523 * j0 + 4519 ≤ 24276; omega⟩ (fun H16 locs hz hB o hS_ => ?_)
        replace hS := hS_
        clear hS_
        replace hO := hO.kept (o _ (by omega) (by omega))
        replace e7 : H16[cAd N q (7, 0, 0)]? = _ := (o _ (by omega) (by omega)).trans e7
        replace hg := hg.call o (by omega) (Or.inr (by omega))
        replace hsz : H16.size = q + 586 * j0 + 595 := by omega
        replace hg := (hg.wide (lo' := q + 1) (hi' := q + 586 * j0 + 595) (by omega) (by omega)).join (kG.of hB (fun i hi => rfl) (fun i hi => by have h1 := cAd_srv (q := q) (by omega) hi; omega))
        clear hz o hB hOn hi_
        refine W.widen (k := 594 + 586 * j0) (n := 4690 + 4523 * j0) (by omega) (by omega) ?_
        refine k_aast (C := RX7) (ci := 7) (nf := 4) (T := TX7) 2 rfl S hK hS (Or.inr (by omega)) rfl e7 (hg (20, j0, 0) (Or.inr ⟨⟨ho, rfl⟩, Or.inl ⟨Nat.le_refl _, by dsimp only; omega, rfl⟩⟩)).2 (vp_in_nI ho (by omega)) dX10_init_96 (fun H17 locs e_ hz o_ hS_ => ?_)
        replace hS := hS_
        clear hS_
        replace hO := hO.kept (o_ _ (by omega))
        replace hg := hg.ne o_ (fun i hi => by rcases hi with (h | h) | h; have := kP1.lt (N := N) (q := q) h; omega; have := kPs.ge (q := q) (by omega) h; omega; have := cAd_srv (q := q) (by omega) h; omega)
        rw [nI_clamp (by omega)] at e_
        refine lv_iinc (v := nI (j0 + 1)) (lv' := [(3, .int (nI (j0 + 1))), (2, .int (nI (N + 4))), (0, .ref (cAd N q (0, 0, 0))), (1, .int a1)]) hx hb dX10_init_97 hl (k := 0) rfl (nI_1 j0) (by decide) rfl (fun ls hl => ?_)
        refine lv_goto (tgt := 71) hx hb dX10_init_100 (by decide) ?_
        refine W.widen (k := 8 + 586 * (j0 + 1)) (n := 167 + 4523 * (j0 + 1)) (by omega) (by omega) ?_
        refine ih (j0 + 1) H17 locs ls (by omega) (by omega) (by omega) hO ?_ ?_ hS hl
        · rw [e_]
          refine congrArg some (arrV_ext fun j hj => ?_)
          by_cases ej : j = j0
          · subst ej; simp [updV]
          · by_cases h : j < j0
            · simp [updV, ej, h, Nat.lt_succ_of_lt h]
            · simp [updV, ej, h, show ¬ j < j0 + 1 by omega]
        · exact (hg.wide (lo' := q + 1) (hi' := q + 9 + 586 * (j0 + 1)) (by omega) (by omega)).sub (fun i hi => hi.elim (fun h => Or.inl (Or.inl h)) (fun h => h.up.elim (fun h => Or.inl (Or.inr h)) Or.inr))
  refine lv_aload_n hx hb dX10_init_0 rfl (lv_at hl 0 rfl) ?_
  refine W.objInit hx hb hown (hts (.methodLink RX10 3 objectInit) (cBc 525 rfl)) (hts (.instanceMethod objectInit) (cBc 2 rfl)) (hts (.code objectInit ⟨#[0xb1]⟩ 1 none) (cBc 3 rfl)) rfl (by rw [hml]; exact hl.1) rfl dX10_init_1 (Nat.le_of_ble_eq_true rfl) (Nat.le_of_ble_eq_true rfl) ?_
  refine lv_aload_n hx hb dX10_init_4 rfl (lv_at hl 0 rfl) ?_
  refine lv_iconst (v := (1 : Int32)) hx hb dX10_init_5 (by decide) ?_
  refine lv_iconst (v := (4 : Int32)) hx hb dX10_init_6 (by decide) ?_
  refine lv_iload_n hx hb dX10_init_7 rfl (lv_at hl 1 rfl) ?_
  refine va_mmin hx hb (by rw [hl.1]; exact S.2.2.1) hown (hts (.methodLink RX10 9 Lib.Math.min.name) (cBc 526 rfl)) (hts (.static Lib.Math.min.name) (cBc 527 rfl)) (hts (.initialized "java/lang/Math") (cBc 195 rfl)) (hts (.code Lib.Math.min.name Lib.Math.min.code 2 (some .int)) (cBc 528 rfl)) (Nat.le_of_ble_eq_true rfl) (Nat.le_of_ble_eq_true rfl) (Nat.zero_le _) (Nat.zero_le _) dX10_init_8 ?_
  refine va_mmax hx hb (by rw [hl.1]; exact S.2.2.1) hown (hts (.methodLink RX10 15 Lib.Math.max.name) (cBc 193 rfl)) (hts (.static Lib.Math.max.name) (cBc 194 rfl)) (hts (.initialized "java/lang/Math") (cBc 195 rfl)) (hts (.code Lib.Math.max.name Lib.Math.max.code 2 (some .int)) (cBc 196 rfl)) (Nat.le_of_ble_eq_true rfl) (Nat.le_of_ble_eq_true rfl) (Nat.zero_le _) (Nat.zero_le _) dX10_init_11 ?_
  rw [ha1]
  refine k_putF (ci := 10) (C := RX10) (T := TX10) (ty := .int) S hin2 hK hS (Or.inl rfl) rfl hin tyX10 tyX10_ok nmX10 hO 0 (by decide) ⟨rfl, rfl, rfl, rfl⟩ rfl (hts (.fieldLink RX10 18 "ReplicaFiles" "serverCount" "I") (cBc 529 rfl)) (by decide) rfl rfl dX10_init_14 (fun H18 locs hO_ hz o hS_ => ?_)
  replace hS := hS_
  clear hS_
  replace hO := hO_
  clear hO_
  replace hg := hg.put o (Or.inl (by omega))
  replace hsz : H18.size = q + 1 := by omega
  clear hz o
  refine lv_aload_n hx hb dX10_init_17 rfl (lv_at hl 0 rfl) ?_
  refine k_get (ci := 10) (C := RX10) (T := TX10) S hK rfl hin hO 0 (by decide) ⟨rfl, rfl, rfl⟩ (v := .int (nI N)) (by simp [updV]) (hts (.fieldLink RX10 18 "ReplicaFiles" "serverCount" "I") (cBc 529 rfl)) dX10_init_18 ?_
  refine lv_iconst (v := (4 : Int32)) hx hb dX10_init_21 (by decide) ?_
  refine lv_iadd hx hb dX10_init_22 ?_
  rw [show nI N + (4 : Int32) = nI (N + 4) from nI_add N 4]
  refine lv_istore_n (lv' := [(2, .int (nI (N + 4))), (0, .ref (cAd N q (0, 0, 0))), (1, .int a1)]) hx hb dX10_init_23 rfl hl (by decide) rfl (fun ls hl => ?_)
  refine lv_aload_n hx hb dX10_init_24 rfl (lv_at hl 1 rfl) ?_
  have hi_ : cAd N q (1, 0, 0) = q + 1 := by show q + 1 = _; omega
  have hsI : H18.size = cAd N q (1, 0, 0) := by omega
  refine k_new (ci := 0) (C := RX0) (T := TX0) S hK hS rfl cin_X0 tyX0 tyX0_ok (hts (.classLink RX10 22 RX0) (cBc 530 rfl)) (hts (.instantiable RX0 4) (cBc 531 rfl)) (hts (.initialized RX0) (cBc 16 rfl)) (by show 0 + 1 ≤ 2887; omega) (by show 0 + 4 ≤ 24276; omega) dX10_init_25 (fun H19 hOn hz o hS_ => ?_)
  rw [hsI] at hOn ⊢
  replace hS := hS_
  clear hS_
  replace hO := hO.kept (o _ (by omega))
  replace hg := hg.old o (by omega)
  replace hsz : H19.size = q + 2 := by omega
  clear hz o hsI
  refine W.widen (k := 1) (n := 4) (by omega) (by omega) ?_
  refine lv_dup hx hb dX10_init_28 rfl ?_
  refine k_call (N := N) (A := cAd N q) (a := cAd N q (1, 0, 0)) (sz := q + 2) (As := []) (rest := [.ref (cAd N q (1, 0, 0)), .ref (cAd N q (0, 0, 0))]) S hK hAO hS (by omega) hOn (k_X0 l N hN1 hN4 D dA (cAd N q) (q + 2) (by omega) (by show q + 2 = _; omega) (by show q + 3 = _; omega) (by show q + 4 = _; omega)) (cwI 0 hts (cG (cB 0 rfl)) rfl rfl rfl (hts (.initialized RX0) (cBc 16 rfl)) (hts (.methodLink RX10 24 yX0_init) (cBc 552 rfl)) (hts (.instanceMethod yX0_init) (cBc 553 rfl)) rfl (by decide +kernel) ⟨Nat.le_of_ble_eq_true rfl, Nat.le_of_ble_eq_true rfl⟩) (fun x h => Or.inr (h.elim (fun h => by omega) (fun h => by omega))) rfl hl.1 rfl (Nat.le_of_ble_eq_true rfl) dX10_init_29 ⟨by show 1 + 3 ≤ 2887; omega, by show 4 + 144 ≤ 24276; omega⟩ (fun H20 locs hz hB o hS_ => ?_)
  replace hS := hS_
  clear hS_
  replace hO := hO.kept (o _ (by omega) (by omega))
  replace hg := hg.call o (by omega) (Or.inr (by omega))
  replace hsz : H20.size = q + 5 := by omega
  replace hg := (hg.wide (lo' := q + 1) (hi' := q + 5) (by omega) (by omega)).join (kG.of hB (fun i hi => kM_cat hi) (fun i hi => by rcases hi with rfl | rfl | rfl | rfl <;> simp only [cAd] <;> omega))
  clear hz o hB hOn hi_
  refine W.widen (k := 4) (n := 148) (by omega) (by omega) ?_
  refine k_putF (ci := 10) (C := RX10) (T := TX10) (ty := .object "ReplicaFiles$Catalog") S hin2 hK hS (Or.inl rfl) rfl hin tyX10 tyX10_ok nmX10 hO 1 (by decide) ⟨rfl, rfl, rfl, rfl⟩ rfl (hts (.fieldLink RX10 25 "ReplicaFiles" "catalog" "LReplicaFiles$Catalog;") (cBc 532 rfl)) (by decide) rfl rfl dX10_init_32 (fun H21 locs hO_ hz o hS_ => ?_)
  replace hS := hS_
  clear hS_
  replace hO := hO_
  clear hO_
  replace hg := hg.put o (Or.inl (by omega))
  replace hsz : H21.size = q + 5 := by omega
  clear hz o
  refine lv_aload_n hx hb dX10_init_35 rfl (lv_at hl 1 rfl) ?_
  have hi_ : cAd N q (5, 0, 0) = q + 5 := by show q + 5 = _; omega
  have hsI : H21.size = cAd N q (5, 0, 0) := by omega
  refine k_new (ci := 5) (C := RX5) (T := TX5) S hK hS rfl cin_X5 tyX5 tyX5_ok (hts (.classLink RX10 29 RX5) (cBc 533 rfl)) (hts (.instantiable RX5 3) (cBc 534 rfl)) (hts (.initialized RX5) (cBc 485 rfl)) (by show 4 + 1 ≤ 2887; omega) (by show 148 + 3 ≤ 24276; omega) dX10_init_36 (fun H22 hOn hz o hS_ => ?_)
  rw [hsI] at hOn ⊢
  replace hS := hS_
  clear hS_
  replace hO := hO.kept (o _ (by omega))
  replace hg := hg.old o (by omega)
  replace hsz : H22.size = q + 6 := by omega
  clear hz o hsI
  refine W.widen (k := 5) (n := 151) (by omega) (by omega) ?_
  refine lv_dup hx hb dX10_init_39 rfl ?_
  refine lv_aload_n hx hb dX10_init_40 rfl (lv_at hl 1 rfl) ?_
  refine k_get (ci := 10) (C := RX10) (T := TX10) S hK rfl hin hO 0 (by decide) ⟨rfl, rfl, rfl⟩ (v := .int (nI N)) (by simp [updV]) (hts (.fieldLink RX10 18 "ReplicaFiles" "serverCount" "I") (cBc 529 rfl)) dX10_init_41 ?_
  refine k_call (N := N) (A := cAd N q) (a := cAd N q (5, 0, 0)) (sz := q + 6) (As := [.int (nI N)]) (rest := [.ref (cAd N q (5, 0, 0)), .ref (cAd N q (0, 0, 0))]) S hK hAO hS (by omega) hOn (k_X5 l N hN1 hN4 D dA (cAd N q) (q + 6) (by omega) (by show q + 6 = _; omega)) (cwI 1 hts (cG (cB 475 rfl)) rfl rfl rfl (hts (.initialized RX5) (cBc 485 rfl)) (hts (.methodLink RX10 31 yX5_init) (cBc 554 rfl)) (hts (.instanceMethod yX5_init) (cBc 555 rfl)) rfl (by decide +kernel) ⟨Nat.le_of_ble_eq_true rfl, Nat.le_of_ble_eq_true rfl⟩) (fun x h => Or.inr (h.elim (fun h => by omega) (fun h => by omega))) rfl hl.1 rfl (Nat.le_of_ble_eq_true rfl) dX10_init_44 ⟨by show 5 + 1 ≤ 2887; omega, by show 151 + 4 ≤ 24276; omega⟩ (fun H23 locs hz hB o hS_ => ?_)
  replace hS := hS_
  clear hS_
  replace hO := hO.kept (o _ (by omega) (by omega))
  replace hg := hg.call o (by omega) (Or.inr (by omega))
  replace hsz : H23.size = q + 7 := by omega
  replace hg := (hg.wide (lo' := q + 1) (hi' := q + 7) (by omega) (by omega)).join (kG.of hB (fun i hi => kM_net hi) (fun i hi => by rcases hi with rfl | rfl <;> simp only [cAd] <;> omega))
  clear hz o hB hOn hi_
  refine W.widen (k := 6) (n := 155) (by omega) (by omega) ?_
  refine k_putF (ci := 10) (C := RX10) (T := TX10) (ty := .object "ReplicaFiles$Net") S hin2 hK hS (Or.inl rfl) rfl hin tyX10 tyX10_ok nmX10 hO 2 (by decide) ⟨rfl, rfl, rfl, rfl⟩ rfl (hts (.fieldLink RX10 34 "ReplicaFiles" "net" "LReplicaFiles$Net;") (cBc 535 rfl)) (by decide) rfl rfl dX10_init_47 (fun H24 locs hO_ hz o hS_ => ?_)
  replace hS := hS_
  clear hS_
  replace hO := hO_
  clear hO_
  replace hg := hg.put o (Or.inl (by omega))
  replace hsz : H24.size = q + 7 := by omega
  clear hz o
  refine lv_aload_n hx hb dX10_init_50 rfl (lv_at hl 1 rfl) ?_
  refine lv_bipush (v := (8 : Int32)) hx hb dX10_init_51 (by decide) ?_
  have hi_ : cAd N q (9, 0, 0) = q + 7 := by show q + 7 = _; omega
  have hsI : H24.size = cAd N q (9, 0, 0) := by omega
  refine k_newI (n := 8) S hK hS (hts (.arrayClass .int) (cBc 4 rfl)) rfl (by omega) (by simp only [componentBytes]; omega) (by show 6 + 1 ≤ 2887; omega) (by show 155 + 8 ≤ 24276; omega) dX10_init_53 (fun H25 e_ hz o hS_ => ?_)
  rw [hsI] at e_ ⊢
  replace hS := hS_
  clear hS_
  replace hO := hO.kept (o _ (by omega))
  replace hg := hg.old o (by omega)
  replace hsz : H25.size = q + 8 := by omega
  replace hg := (hg.wide (lo' := q + 1) (hi' := q + 8) (by omega) (by omega)).join (kG.arr (id := (9, 0, 0)) (ca := 0) (n := 8) rfl rfl rfl e_ (by omega) (by omega))
  clear e_ hz o hsI hi_
  refine W.widen (k := 7) (n := 163) (by omega) (by omega) ?_
  refine k_putF (ci := 10) (C := RX10) (T := TX10) (ty := .array .int) S hin2 hK hS (Or.inl rfl) rfl hin tyX10 tyX10_ok nmX10 hO 5 (by decide) ⟨rfl, rfl, rfl, rfl⟩ rfl (hts (.fieldLink RX10 38 "ReplicaFiles" "tallies" "[I") (cBc 536 rfl)) (by decide) rfl rfl dX10_init_55 (fun H26 locs hO_ hz o hS_ => ?_)
  replace hS := hS_
  clear hS_
  replace hO := hO_
  clear hO_
  replace hg := hg.put o (Or.inl (by omega))
  replace hsz : H26.size = q + 8 := by omega
  clear hz o
  refine lv_aload_n hx hb dX10_init_58 rfl (lv_at hl 1 rfl) ?_
  refine lv_aload_n hx hb dX10_init_59 rfl (lv_at hl 1 rfl) ?_
  refine k_get (ci := 10) (C := RX10) (T := TX10) S hK rfl hin hO 0 (by decide) ⟨rfl, rfl, rfl⟩ (v := .int (nI N)) (by simp [updV]) (hts (.fieldLink RX10 18 "ReplicaFiles" "serverCount" "I") (cBc 529 rfl)) dX10_init_60 ?_
  have hi_ : cAd N q (7, 0, 0) = q + 8 := by show q + 8 = _; omega
  have hsI : H26.size = cAd N q (7, 0, 0) := by omega
  refine k_anew (C := RX7) (n := N) 2 rfl S hK hS (hts (.classLink RX10 42 RX7) (cBc 537 rfl)) hAO.2.1 rfl (by omega) (by show 7 + 1 ≤ 2887; omega) (by show 163 + N ≤ 24276; omega) dX10_init_63 (fun H27 e7 hz o hS_ => ?_)
  rw [hsI] at e7 ⊢
  replace hS := hS_
  clear hS_
  replace hO := hO.kept (o _ (by omega))
  replace hg := hg.old o (by omega)
  replace hsz : H27.size = q + 9 := by omega
  replace hg := hg.wide (lo' := q + 1) (hi' := q + 9) (by omega) (by omega)
  clear hz o hsI hi_
  refine W.widen (k := 8) (n := 167) (by omega) (by omega) ?_
  refine k_putF (ci := 10) (C := RX10) (T := TX10) (ty := .array (.object "ReplicaFiles$Server")) S hin2 hK hS (Or.inl rfl) rfl hin tyX10 tyX10_ok nmX10 hO 3 (by decide) ⟨rfl, rfl, rfl, rfl⟩ rfl (hts (.fieldLink RX10 44 "ReplicaFiles" "servers" "[LReplicaFiles$Server;") (cBc 538 rfl)) (by decide) rfl rfl dX10_init_66 (fun H28 locs hO_ hz o hS_ => ?_)
  replace hS := hS_
  clear hS_
  replace hO := hO_
  clear hO_
  replace e7 : H28[cAd N q (7, 0, 0)]? = _ := (o _ (by omega)).trans e7
  replace hg := hg.put o (Or.inl (by omega))
  replace hsz : H28.size = q + 9 := by omega
  clear hz o
  refine lv_iconst (v := (0 : Int32)) hx hb dX10_init_69 (by decide) ?_
  rw [show (0 : Int32) = nI 0 from rfl]
  refine lv_istore_n (lv' := [(3, .int (nI 0)), (2, .int (nI (N + 4))), (0, .ref (cAd N q (0, 0, 0))), (1, .int a1)]) hx hb dX10_init_70 rfl hl (by decide) rfl (fun ls hl => ?_)
  refine loop1 (N + 1) 0 _ _ _ (by omega) (by omega) (by omega) hO (e7.trans (congrArg some (arrV_ext fun j hj => by simp))) ((hg.wide (lo' := q + 1) (hi' := q + 9 + 586 * 0) (by omega) (by omega)).sub (fun i hi => hi.elim (fun h => by rcases h with h | h | h | h | h | h | h <;> simp [h]) (fun h => h.no.elim))) hS hl
