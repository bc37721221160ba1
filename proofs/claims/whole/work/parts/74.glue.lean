/-! layer 2: both answers alike: the law goes on -/
theorem nI_one : nI 1 = 1 := rfl
theorem nI_two : nI 2 = 2 := rfl
theorem q_link {N T : Nat} {z : lS} {a1 a2 a3 : Int32} {k : Nat} {v v1 : Int32} {Mc Mr : gM} (h1 : f_X10_link N z.1 a1 a2 (if a3 = 0 then (0 : Int32) else 1) = some (k, v, Mc)) (h2 : f_X11_link z.2.1 a1 a2 (if a3 = 0 then (0 : Int32) else 1) = some (v1, Mr)) (h3 : Mr m_o 66 = nI k) (hk : k ≤ 1) (hv : k = 0 → v = v1) (hS : St N T Mc Mr) : ∃ z1, s_link N z a1 a2 a3 = some z1 ∧ St N T z1.1 z1.2.1 := by
  unfold s_link f_L_link
  simp only [h1, h2, o1_s, ob_s, f_X11_thrown, lt_d, h3]
  rcases (show k = 0 ∨ k = 1 by omega) with rfl | rfl
  · have e := hv rfl
    subst e
    exact ⟨(Mc, Mr, (if v = 0 then (0 : Int64) else 1)), by simp [lEnd, o1, nI_0], hS⟩
  · exact ⟨(Mc, Mr, z.2.2), by simp [lEnd, o1, nI_one], hS⟩
theorem q_server {N T : Nat} {z : lS} {a1 a2 : Int32} {k : Nat} {v v1 : Int32} {Mc Mr : gM} (h1 : f_X10_server N z.1 a1 (if a2 = 0 then (0 : Int32) else 1) = some (k, v, Mc)) (h2 : f_X11_server z.2.1 a1 (if a2 = 0 then (0 : Int32) else 1) = some (v1, Mr)) (h3 : Mr m_o 66 = nI k) (hk : k ≤ 1) (hv : k = 0 → v = v1) (hS : St N T Mc Mr) : ∃ z1, s_server N z a1 a2 = some z1 ∧ St N T z1.1 z1.2.1 := by
  unfold s_server f_L_server
  simp only [h1, h2, o1_s, ob_s, f_X11_thrown, lt_d, h3]
  rcases (show k = 0 ∨ k = 1 by omega) with rfl | rfl
  · have e := hv rfl
    subst e
    exact ⟨(Mc, Mr, (if v = 0 then (0 : Int64) else 1)), by simp [lEnd, o1, nI_0], hS⟩
  · exact ⟨(Mc, Mr, z.2.2), by simp [lEnd, o1, nI_one], hS⟩
theorem q_lose {N T : Nat} {z : lS} {a1 : Int32} {k : Nat} {v v1 : Int32} {Mc Mr : gM} (h1 : f_X10_lose N z.1 a1 = some (k, v, Mc)) (h2 : f_X11_lose z.2.1 a1 = some (v1, Mr)) (h3 : Mr m_o 66 = nI k) (hk : k ≤ 1) (hv : k = 0 → v = v1) (hS : St N T Mc Mr) : ∃ z1, s_lose N z a1 = some z1 ∧ St N T z1.1 z1.2.1 := by
  unfold s_lose f_L_lose
  simp only [h1, h2, o1_s, ob_s, f_X11_thrown, lt_d, h3]
  rcases (show k = 0 ∨ k = 1 by omega) with rfl | rfl
  · have e := hv rfl
    subst e
    exact ⟨(Mc, Mr, (if v = 0 then (0 : Int64) else 1)), by simp [lEnd, o1, nI_0], hS⟩
  · exact ⟨(Mc, Mr, z.2.2), by simp [lEnd, o1, nI_one], hS⟩
theorem q_priority {N T : Nat} {z : lS} {a1 a2 a3 : Int32} {k : Nat} {v v1 : Int32} {Mc Mr : gM} (h1 : f_X10_priority N z.1 a1 a2 a3 = some (k, v, Mc)) (h2 : f_X11_priority z.2.1 a1 a2 a3 = some (v1, Mr)) (h3 : Mr m_o 66 = nI k) (hk : k ≤ 2) (hv : k = 0 → v = v1) (hS : St N T Mc Mr) : ∃ z1, s_priority N z a1 a2 a3 = some z1 ∧ St N T z1.1 z1.2.1 := by
  unfold s_priority f_L_priority
  simp only [h1, h2, o1_s, ob_s, f_X11_thrown, lt_d, h3]
  rcases (show k = 0 ∨ k = 1 ∨ k = 2 by omega) with rfl | rfl | rfl
  · have e := hv rfl
    subst e
    exact ⟨(Mc, Mr, v.toInt64), by simp [lEnd, o1, nI_0], hS⟩
  · exact ⟨(Mc, Mr, z.2.2), by simp [lEnd, o1, nI_one], hS⟩
  · exact ⟨(Mc, Mr, z.2.2), by simp [lEnd, o1, nI_two], hS⟩
theorem q_find {N T : Nat} {z : lS} {a1 a2 a3 : Int32} {k : Nat} {v v1 : Int64} {Mc Mr : gM} (h1 : f_X10_find N z.1 a1 a2 a3 = some (k, v, Mc)) (h2 : f_X11_find z.2.1 a1 a2 a3 = some (v1, Mr)) (h3 : Mr m_o 66 = nI k) (hk : k ≤ 2) (hv : k = 0 → v = v1) (hS : St N T Mc Mr) : ∃ z1, s_find N z a1 a2 a3 = some z1 ∧ St N T z1.1 z1.2.1 := by
  unfold s_find f_L_find
  simp only [h1, h2, o1_s, ob_s, f_X11_thrown, lt_d, h3]
  rcases (show k = 0 ∨ k = 1 ∨ k = 2 by omega) with rfl | rfl | rfl
  · have e := hv rfl
    subst e
    exact ⟨(Mc, Mr, v), by simp [lEnd, o1, nI_0], hS⟩
  · exact ⟨(Mc, Mr, z.2.2), by simp [lEnd, o1, nI_one], hS⟩
  · exact ⟨(Mc, Mr, z.2.2), by simp [lEnd, o1, nI_two], hS⟩
theorem q_read {N T : Nat} {z : lS} {a1 a2 : Int32} {k : Nat} {v v1 : Int64} {Mc Mr : gM} (h1 : f_X10_read N z.1 a1 a2 = some (k, v, Mc)) (h2 : f_X11_read z.2.1 a1 a2 = some (v1, Mr)) (h3 : Mr m_o 66 = nI k) (hk : k ≤ 1) (hv : k = 0 → v = v1) (hS : St N T Mc Mr) : ∃ z1, s_read N z a1 a2 = some z1 ∧ St N T z1.1 z1.2.1 := by
  unfold s_read f_L_read
  simp only [h1, h2, o1_s, ob_s, f_X11_thrown, lt_d, h3]
  rcases (show k = 0 ∨ k = 1 by omega) with rfl | rfl
  · have e := hv rfl
    subst e
    exact ⟨(Mc, Mr, v), by simp [lEnd, o1, nI_0], hS⟩
  · exact ⟨(Mc, Mr, z.2.2), by simp [lEnd, o1, nI_one], hS⟩
theorem q_write {N T : Nat} {z : lS} {a1 a2 a3 a4 : Int32} {k : Nat} {v v1 : Int64} {Mc Mr : gM} (h1 : f_X10_write N z.1 a1 a2 a3 a4 = some (k, v, Mc)) (h2 : f_X11_write z.2.1 a1 a2 a3 a4 = some (v1, Mr)) (h3 : Mr m_o 66 = nI k) (hk : k ≤ 2) (hv : k = 0 → v = v1) (hS : St N T Mc Mr) : ∃ z1, s_write N z a1 a2 a3 a4 = some z1 ∧ St N T z1.1 z1.2.1 := by
  unfold s_write f_L_write
  simp only [h1, h2, o1_s, ob_s, f_X11_thrown, lt_d, h3]
  rcases (show k = 0 ∨ k = 1 ∨ k = 2 by omega) with rfl | rfl | rfl
  · have e := hv rfl
    subst e
    exact ⟨(Mc, Mr, v), by simp [lEnd, o1, nI_0], hS⟩
  · exact ⟨(Mc, Mr, z.2.2), by simp [lEnd, o1, nI_one], hS⟩
  · exact ⟨(Mc, Mr, z.2.2), by simp [lEnd, o1, nI_two], hS⟩
theorem q_make {N T : Nat} {z : lS} {a1 a2 a3 a4 : Int32} {k : Nat} {v v1 : Int64} {Mc Mr : gM} (h1 : f_X10_make N z.1 a1 a2 a3 (if a4 = 0 then (0 : Int32) else 1) = some (k, v, Mc)) (h2 : f_X11_make z.2.1 a1 a2 a3 (if a4 = 0 then (0 : Int32) else 1) = some (v1, Mr)) (h3 : Mr m_o 66 = nI k) (hk : k ≤ 2) (hv : k = 0 → v = v1) (hS : St N T Mc Mr) : ∃ z1, s_make N z a1 a2 a3 a4 = some z1 ∧ St N T z1.1 z1.2.1 := by
  unfold s_make f_L_make
  simp only [h1, h2, o1_s, ob_s, f_X11_thrown, lt_d, h3]
  rcases (show k = 0 ∨ k = 1 ∨ k = 2 by omega) with rfl | rfl | rfl
  · have e := hv rfl
    subst e
    exact ⟨(Mc, Mr, v), by simp [lEnd, o1, nI_0], hS⟩
  · exact ⟨(Mc, Mr, z.2.2), by simp [lEnd, o1, nI_one], hS⟩
  · exact ⟨(Mc, Mr, z.2.2), by simp [lEnd, o1, nI_two], hS⟩
theorem q_remove {N T : Nat} {z : lS} {a1 a2 a3 : Int32} {k : Nat} {v v1 : Int64} {Mc Mr : gM} (h1 : f_X10_remove N z.1 a1 a2 a3 = some (k, v, Mc)) (h2 : f_X11_remove z.2.1 a1 a2 a3 = some (v1, Mr)) (h3 : Mr m_o 66 = nI k) (hk : k ≤ 1) (hv : k = 0 → v = v1) (hS : St N T Mc Mr) : ∃ z1, s_remove N z a1 a2 a3 = some z1 ∧ St N T z1.1 z1.2.1 := by
  unfold s_remove f_L_remove
  simp only [h1, h2, o1_s, ob_s, f_X11_thrown, lt_d, h3]
  rcases (show k = 0 ∨ k = 1 by omega) with rfl | rfl
  · have e := hv rfl
    subst e
    exact ⟨(Mc, Mr, v), by simp [lEnd, o1, nI_0], hS⟩
  · exact ⟨(Mc, Mr, z.2.2), by simp [lEnd, o1, nI_one], hS⟩
theorem q_handIn {N T : Nat} {z : lS} {a1 : Int32} {k : Nat} {v v1 : Int64} {Mc Mr : gM} (h1 : f_X10_handIn N z.1 a1 = some (k, v, Mc)) (h2 : f_X11_handIn z.2.1 a1 = some (v1, Mr)) (h3 : Mr m_o 66 = nI k) (hk : k ≤ 1) (hv : k = 0 → v = v1) (hS : St N T Mc Mr) : ∃ z1, s_handIn N z a1 = some z1 ∧ St N T z1.1 z1.2.1 := by
  unfold s_handIn f_L_handIn
  simp only [h1, h2, o1_s, ob_s, f_X11_thrown, lt_d, h3]
  rcases (show k = 0 ∨ k = 1 by omega) with rfl | rfl
  · have e := hv rfl
    subst e
    exact ⟨(Mc, Mr, v), by simp [lEnd, o1, nI_0], hS⟩
  · exact ⟨(Mc, Mr, z.2.2), by simp [lEnd, o1, nI_one], hS⟩
theorem q_walk {N T : Nat} {z : lS} {a1 : Int32} {k : Nat} {v v1 : Int64} {Mc Mr : gM} (h1 : f_X10_walk N z.1 a1 = some (k, v, Mc)) (h2 : f_X11_walk z.2.1 a1 = some (v1, Mr)) (h3 : Mr m_o 66 = nI k) (hk : k ≤ 1) (hv : k = 0 → v = v1) (hS : St N T Mc Mr) : ∃ z1, s_walk N z a1 = some z1 ∧ St N T z1.1 z1.2.1 := by
  unfold s_walk f_L_walk
  simp only [h1, h2, o1_s, ob_s, f_X11_thrown, lt_d, h3]
  rcases (show k = 0 ∨ k = 1 by omega) with rfl | rfl
  · have e := hv rfl
    subst e
    exact ⟨(Mc, Mr, v), by simp [lEnd, o1, nI_0], hS⟩
  · exact ⟨(Mc, Mr, z.2.2), by simp [lEnd, o1, nI_one], hS⟩
theorem q_meet {N T : Nat} {z : lS} {a1 : Int32} {k : Nat} {v v1 : Int64} {Mc Mr : gM} (h1 : f_X10_meet N z.1 a1 = some (k, v, Mc)) (h2 : f_X11_meet z.2.1 a1 = some (v1, Mr)) (h3 : Mr m_o 66 = nI k) (hk : k ≤ 1) (hv : k = 0 → v = v1) (hS : St N T Mc Mr) : ∃ z1, s_meet N z a1 = some z1 ∧ St N T z1.1 z1.2.1 := by
  unfold s_meet f_L_meet
  simp only [h1, h2, o1_s, ob_s, f_X11_thrown, lt_d, h3]
  rcases (show k = 0 ∨ k = 1 by omega) with rfl | rfl
  · have e := hv rfl
    subst e
    exact ⟨(Mc, Mr, v), by simp [lEnd, o1, nI_0], hS⟩
  · exact ⟨(Mc, Mr, z.2.2), by simp [lEnd, o1, nI_one], hS⟩
theorem q_repair {N T : Nat} {z : lS} {a1 a2 a3 : Int32} {k : Nat} {v v1 : Int64} {Mc Mr : gM} (h1 : f_X10_repair N z.1 a1 a2 a3 = some (k, v, Mc)) (h2 : f_X11_repair z.2.1 a1 a2 a3 = some (v1, Mr)) (h3 : Mr m_o 66 = nI k) (hk : k ≤ 1) (hv : k = 0 → v = v1) (hS : St N T Mc Mr) : ∃ z1, s_repair N z a1 a2 a3 = some z1 ∧ St N T z1.1 z1.2.1 := by
  unfold s_repair f_L_repair
  simp only [h1, h2, o1_s, ob_s, f_X11_thrown, lt_d, h3]
  rcases (show k = 0 ∨ k = 1 by omega) with rfl | rfl
  · have e := hv rfl
    subst e
    exact ⟨(Mc, Mr, v), by simp [lEnd, o1, nI_0], hS⟩
  · exact ⟨(Mc, Mr, z.2.2), by simp [lEnd, o1, nI_one], hS⟩
theorem q_copy {N T : Nat} {z : lS} {a1 a2 a3 : Int32} {k : Nat} {v v1 : Int64} {Mc Mr : gM} (h1 : f_X10_copy N z.1 a1 a2 a3 = some (k, v, Mc)) (h2 : f_X11_copy z.2.1 a1 a2 a3 = some (v1, Mr)) (h3 : Mr m_o 66 = nI k) (hk : k ≤ 1) (hv : k = 0 → v = v1) (hS : St N T Mc Mr) : ∃ z1, s_copy N z a1 a2 a3 = some z1 ∧ St N T z1.1 z1.2.1 := by
  unfold s_copy f_L_copy
  simp only [h1, h2, o1_s, ob_s, f_X11_thrown, lt_d, h3]
  rcases (show k = 0 ∨ k = 1 by omega) with rfl | rfl
  · have e := hv rfl
    subst e
    exact ⟨(Mc, Mr, v), by simp [lEnd, o1, nI_0], hS⟩
  · exact ⟨(Mc, Mr, z.2.2), by simp [lEnd, o1, nI_one], hS⟩
theorem q_vector {N T : Nat} {z : lS} {a1 a2 a3 a4 : Int32} {k : Nat} {v v1 : Int64} {Mc Mr : gM} (h1 : f_X10_vector N z.1 a1 a2 a3 a4 = some (k, v, Mc)) (h2 : f_X11_vector z.2.1 a1 a2 a3 a4 = some (v1, Mr)) (h3 : Mr m_o 66 = nI k) (hk : k ≤ 1) (hv : k = 0 → v = v1) (hS : St N T Mc Mr) : ∃ z1, s_vector N z a1 a2 a3 a4 = some z1 ∧ St N T z1.1 z1.2.1 := by
  unfold s_vector f_L_vector
  simp only [h1, h2, o1_s, ob_s, f_X11_thrown, lt_d, h3]
  rcases (show k = 0 ∨ k = 1 by omega) with rfl | rfl
  · have e := hv rfl
    subst e
    exact ⟨(Mc, Mr, v), by simp [lEnd, o1, nI_0], hS⟩
  · exact ⟨(Mc, Mr, z.2.2), by simp [lEnd, o1, nI_one], hS⟩
theorem q_version {N T : Nat} {z : lS} {a1 a2 a3 a4 : Int32} {k : Nat} {v v1 : Int64} {Mc Mr : gM} (h1 : f_X10_version N z.1 a1 a2 a3 a4 = some (k, v, Mc)) (h2 : f_X11_version z.2.1 a1 a2 a3 a4 = some (v1, Mr)) (h3 : Mr m_o 66 = nI k) (hk : k ≤ 1) (hv : k = 0 → v = v1) (hS : St N T Mc Mr) : ∃ z1, s_version N z a1 a2 a3 a4 = some z1 ∧ St N T z1.1 z1.2.1 := by
  unfold s_version f_L_version
  simp only [h1, h2, o1_s, ob_s, f_X11_thrown, lt_d, h3]
  rcases (show k = 0 ∨ k = 1 by omega) with rfl | rfl
  · have e := hv rfl
    subst e
    exact ⟨(Mc, Mr, v), by simp [lEnd, o1, nI_0], hS⟩
  · exact ⟨(Mc, Mr, z.2.2), by simp [lEnd, o1, nI_one], hS⟩
theorem q_entry {N T : Nat} {z : lS} {a1 a2 a3 a4 : Int32} {k : Nat} {v v1 : Int64} {Mc Mr : gM} (h1 : f_X10_entry N z.1 a1 a2 a3 a4 = some (k, v, Mc)) (h2 : f_X11_entry z.2.1 a1 a2 a3 a4 = some (v1, Mr)) (h3 : Mr m_o 66 = nI k) (hk : k ≤ 1) (hv : k = 0 → v = v1) (hS : St N T Mc Mr) : ∃ z1, s_entry N z a1 a2 a3 a4 = some z1 ∧ St N T z1.1 z1.2.1 := by
  unfold s_entry f_L_entry
  simp only [h1, h2, o1_s, ob_s, f_X11_thrown, lt_d, h3]
  rcases (show k = 0 ∨ k = 1 by omega) with rfl | rfl
  · have e := hv rfl
    subst e
    exact ⟨(Mc, Mr, v), by simp [lEnd, o1, nI_0], hS⟩
  · exact ⟨(Mc, Mr, z.2.2), by simp [lEnd, o1, nI_one], hS⟩
theorem q_cached {N T : Nat} {z : lS} {a1 a2 a3 : Int32} {k : Nat} {v v1 : Int64} {Mc Mr : gM} (h1 : f_X10_cached N z.1 a1 a2 a3 = some (k, v, Mc)) (h2 : f_X11_cached z.2.1 a1 a2 a3 = some (v1, Mr)) (h3 : Mr m_o 66 = nI k) (hk : k ≤ 1) (hv : k = 0 → v = v1) (hS : St N T Mc Mr) : ∃ z1, s_cached N z a1 a2 a3 = some z1 ∧ St N T z1.1 z1.2.1 := by
  unfold s_cached f_L_cached
  simp only [h1, h2, o1_s, ob_s, f_X11_thrown, lt_d, h3]
  rcases (show k = 0 ∨ k = 1 by omega) with rfl | rfl
  · have e := hv rfl
    subst e
    exact ⟨(Mc, Mr, v), by simp [lEnd, o1, nI_0], hS⟩
  · exact ⟨(Mc, Mr, z.2.2), by simp [lEnd, o1, nI_one], hS⟩
theorem q_record {N T : Nat} {z : lS} {a1 a2 a3 : Int32} {k : Nat} {v v1 : Int64} {Mc Mr : gM} (h1 : f_X10_record N z.1 a1 a2 a3 = some (k, v, Mc)) (h2 : f_X11_record z.2.1 a1 a2 a3 = some (v1, Mr)) (h3 : Mr m_o 66 = nI k) (hk : k ≤ 1) (hv : k = 0 → v = v1) (hS : St N T Mc Mr) : ∃ z1, s_record N z a1 a2 a3 = some z1 ∧ St N T z1.1 z1.2.1 := by
  unfold s_record f_L_record
  simp only [h1, h2, o1_s, ob_s, f_X11_thrown, lt_d, h3]
  rcases (show k = 0 ∨ k = 1 by omega) with rfl | rfl
  · have e := hv rfl
    subst e
    exact ⟨(Mc, Mr, v), by simp [lEnd, o1, nI_0], hS⟩
  · exact ⟨(Mc, Mr, z.2.2), by simp [lEnd, o1, nI_one], hS⟩
theorem q_told {N T : Nat} {z : lS} {a1 : Int32} {k : Nat} {v v1 : Int32} {Mc Mr : gM} (h1 : f_X10_told N z.1 a1 = some (k, v, Mc)) (h2 : f_X11_told z.2.1 a1 = some (v1, Mr)) (h3 : Mr m_o 66 = nI k) (hk : k ≤ 1) (hv : k = 0 → v = v1) (hS : St N T Mc Mr) : ∃ z1, s_told N z a1 = some z1 ∧ St N T z1.1 z1.2.1 := by
  unfold s_told f_L_told
  simp only [h1, h2, o1_s, ob_s, f_X11_thrown, lt_d, h3]
  rcases (show k = 0 ∨ k = 1 by omega) with rfl | rfl
  · have e := hv rfl
    subst e
    exact ⟨(Mc, Mr, v.toInt64), by simp [lEnd, o1, nI_0], hS⟩
  · exact ⟨(Mc, Mr, z.2.2), by simp [lEnd, o1, nI_one], hS⟩
