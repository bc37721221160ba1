/-! what the tables and the start give: classes, arrays, the nest, the words of a throw -/
set_option maxRecDepth 100000 in
theorem law_nest {args : Array Value} {s : State} (hts : ∀ w ∈ lw_tbl, w.before args s = true) : cNw s := ⟨List.forall_mem_cons.mpr ⟨va_Nw.of rfl (hts _ (tb1 194 rfl)), List.forall_mem_cons.mpr ⟨va_Nw.of rfl (hts _ (tb2 17 rfl)), List.forall_mem_cons.mpr ⟨va_Nw.of rfl (hts _ (tb2 15 rfl)), List.forall_mem_cons.mpr ⟨va_Nw.of rfl (hts _ (tb1 113 rfl)), List.forall_mem_cons.mpr ⟨va_Nw.of rfl (hts _ (tb2 26 rfl)), List.forall_mem_cons.mpr ⟨va_Nw.of rfl (hts _ (tb1 234 rfl)), List.forall_mem_cons.mpr ⟨va_Nw.of rfl (hts _ (tb1 55 rfl)), List.forall_mem_cons.mpr ⟨va_Nw.of rfl (hts _ (tb1 190 rfl)), List.forall_mem_cons.mpr ⟨va_Nw.of rfl (hts _ (tb1 186 rfl)), List.forall_mem_cons.mpr ⟨va_Nw.of rfl (hts _ (tb1 109 rfl)), List.forall_mem_cons.mpr ⟨va_Nw.of rfl (hts _ (tb1 119 rfl)), List.forall_mem_cons.mpr ⟨va_Nw.of rfl (hts _ (tb1 172 rfl)), List.forall_mem_cons.mpr ⟨va_Nw.of rfl (hts _ (tb1 126 rfl)), List.forall_mem_cons.mpr ⟨va_Nw.of rfl (hts _ (tb1 167 rfl)), List.forall_mem_cons.mpr ⟨va_Nw.of rfl (hts _ (tb1 158 rfl)), List.forall_mem_cons.mpr ⟨va_Nw.of rfl (hts _ (tb1 163 rfl)), List.forall_mem_cons.mpr ⟨va_Nw.of rfl (hts _ (tb1 46 rfl)), List.forall_mem_cons.mpr ⟨va_Nw.of rfl (hts _ (tb1 131 rfl)), List.forall_mem_cons.mpr ⟨va_Nw.of rfl (hts _ (tb1 50 rfl)), List.forall_mem_cons.mpr ⟨va_Nw.of rfl (hts _ (tb2 20 rfl)), List.forall_mem_cons.mpr ⟨va_Nw.of rfl (hts _ (tb2 22 rfl)), List.forall_mem_cons.mpr ⟨va_Nw.of rfl (hts _ (tb1 223 rfl)), List.forall_mem_cons.mpr ⟨va_Nw.of rfl (hts _ (tb1 226 rfl)), List.forall_mem_cons.mpr ⟨va_Nw.of rfl (hts _ (tb1 229 rfl)), List.forall_mem_cons.mpr ⟨va_Nw.of rfl (hts _ (tb1 77 rfl)), List.forall_mem_cons.mpr ⟨va_Nw.of rfl (hts _ (tb2 10 rfl)), List.forall_mem_cons.mpr ⟨va_Nw.of rfl (hts _ (tb1 127 rfl)), List.forall_mem_cons.mpr ⟨va_Nw.of rfl (hts _ (tb1 235 rfl)), List.forall_mem_cons.mpr ⟨va_Nw.of rfl (hts _ (tb1 107 rfl)), List.forall_mem_cons.mpr ⟨va_Nw.of rfl (hts _ (tb1 118 rfl)), List.forall_mem_cons.mpr ⟨va_Nw.of rfl (hts _ (tb1 49 rfl)), List.forall_mem_cons.mpr ⟨va_Nw.of rfl (hts _ (tb1 54 rfl)), List.forall_mem_cons.mpr ⟨va_Nw.of rfl (hts _ (tb1 123 rfl)), List.forall_mem_cons.mpr ⟨va_Nw.of rfl (hts _ (tb2 14 rfl)), List.forall_mem_cons.mpr ⟨va_Nw.of rfl (hts _ (tb1 111 rfl)), List.forall_mem_cons.mpr ⟨va_Nw.of rfl (hts _ (tb1 116 rfl)), List.forall_mem_cons.mpr ⟨va_Nw.of rfl (hts _ (tb1 188 rfl)), List.forall_mem_cons.mpr ⟨va_Nw.of rfl (hts _ (tb1 170 rfl)), List.forall_mem_cons.mpr ⟨va_Nw.of rfl (hts _ (tb2 29 rfl)), List.forall_mem_cons.mpr ⟨va_Nw.of rfl (hts _ (tb2 8 rfl)), List.forall_mem_cons.mpr ⟨va_Nw.of rfl (hts _ (tb1 130 rfl)), List.forall_mem_cons.mpr ⟨va_Nw.of rfl (hts _ (tb2 67 rfl)), List.forall_mem_cons.mpr ⟨va_Nw.of rfl (hts _ (tb2 25 rfl)), List.forall_mem_cons.mpr ⟨va_Nw.of rfl (hts _ (tb1 233 rfl)), List.forall_mem_cons.mpr ⟨va_Nw.of rfl (hts _ (tb1 222 rfl)), List.forall_mem_cons.mpr ⟨va_Nw.of rfl (hts _ (tb1 225 rfl)), List.forall_mem_cons.mpr ⟨va_Nw.of rfl (hts _ (tb1 231 rfl)), List.forall_mem_cons.mpr ⟨va_Nw.of rfl (hts _ (tb1 228 rfl)), List.forall_mem_cons.mpr ⟨va_Nw.of rfl (hts _ (tb2 65 rfl)), List.forall_mem_cons.mpr ⟨va_Nw.of rfl (hts _ (tb1 184 rfl)), List.forall_mem_cons.mpr ⟨va_Nw.of rfl (hts _ (tb1 106 rfl)), List.forall_mem_cons.mpr ⟨va_Nw.of rfl (hts _ (tb2 69 rfl)), List.forall_mem_cons.mpr ⟨va_Nw.of rfl (hts _ (tb1 42 rfl)), List.forall_mem_cons.mpr ⟨va_Nw.of rfl (hts _ (tb1 133 rfl)), List.forall_mem_cons.mpr ⟨va_Nw.of rfl (hts _ (tb1 125 rfl)), List.forall_mem_cons.mpr ⟨va_Nw.of rfl (hts _ (tb1 189 rfl)), List.forall_mem_cons.mpr ⟨va_Nw.of rfl (hts _ (tb1 171 rfl)), List.forall_mem_cons.mpr ⟨va_Nw.of rfl (hts _ (tb1 166 rfl)), List.forall_mem_cons.mpr ⟨va_Nw.of rfl (hts _ (tb1 108 rfl)), List.forall_mem_cons.mpr ⟨va_Nw.of rfl (hts _ (tb2 62 rfl)), List.forall_mem_cons.mpr ⟨va_Nw.of rfl (hts _ (tb1 114 rfl)), List.forall_mem_cons.mpr ⟨va_Nw.of rfl (hts _ (tb1 120 rfl)), List.forall_mem_cons.mpr ⟨va_Nw.of rfl (hts _ (tb1 157 rfl)), List.forall_mem_cons.mpr ⟨va_Nw.of rfl (hts _ (tb1 162 rfl)), List.forall_mem_cons.mpr ⟨va_Nw.of rfl (hts _ (tb2 70 rfl)), List.forall_mem_cons.mpr ⟨va_Nw.of rfl (hts _ (tb2 64 rfl)), List.forall_mem_cons.mpr ⟨va_Nw.of rfl (hts _ (tb1 52 rfl)), List.forall_mem_cons.mpr ⟨va_Nw.of rfl (hts _ (tb1 48 rfl)), List.forall_mem_cons.mpr ⟨va_Nw.of rfl (hts _ (tb1 185 rfl)), List.forall_mem_cons.mpr ⟨va_Nw.of rfl (hts _ (tb1 129 rfl)), List.forall_mem_cons.mpr ⟨va_Nw.of rfl (hts _ (tb1 195 rfl)), List.forall_mem_cons.mpr ⟨va_Nw.of rfl (hts _ (tb2 19 rfl)), List.forall_mem_cons.mpr ⟨va_Nw.of rfl (hts _ (tb2 9 rfl)), List.forall_mem_cons.mpr ⟨va_Nw.of rfl (hts _ (tb1 191 rfl)), List.forall_mem_cons.mpr ⟨va_Nw.of rfl (hts _ (tb1 159 rfl)), List.forall_mem_cons.mpr ⟨va_Nw.of rfl (hts _ (tb1 164 rfl)), List.forall_mem_cons.mpr ⟨va_Nw.of rfl (hts _ (tb1 56 rfl)), List.forall_mem_cons.mpr ⟨va_Nw.of rfl (hts _ (tb1 183 rfl)), List.forall_mem_cons.mpr ⟨va_Nw.of rfl (hts _ (tb1 105 rfl)), List.forall_mem_cons.mpr ⟨va_Nw.of rfl (hts _ (tb1 122 rfl)), List.forall_mem_cons.mpr ⟨va_Nw.of rfl (hts _ (tb1 193 rfl)), List.forall_mem_cons.mpr ⟨va_Nw.of rfl (hts _ (tb1 104 rfl)), List.forall_mem_cons.mpr ⟨va_Nw.of rfl (hts _ (tb1 168 rfl)), List.forall_mem_cons.mpr ⟨va_Nw.of rfl (hts _ (tb1 124 rfl)), List.forall_mem_cons.mpr ⟨va_Nw.of rfl (hts _ (tb1 112 rfl)), List.forall_mem_cons.mpr ⟨va_Nw.of rfl (hts _ (tb1 117 rfl)), List.forall_mem_cons.mpr ⟨va_Nw.of rfl (hts _ (tb1 156 rfl)), List.forall_mem_cons.mpr ⟨va_Nw.of rfl (hts _ (tb1 161 rfl)), List.forall_mem_cons.mpr ⟨va_Nw.of rfl (hts _ (tb1 53 rfl)), List.forall_mem_cons.mpr ⟨va_Nw.of rfl (hts _ (tb1 43 rfl)), List.forall_mem_cons.mpr ⟨va_Nw.of rfl (hts _ (tb1 45 rfl)), fun _ h => absurd h List.not_mem_nil⟩⟩⟩⟩⟩⟩⟩⟩⟩⟩⟩⟩⟩⟩⟩⟩⟩⟩⟩⟩⟩⟩⟩⟩⟩⟩⟩⟩⟩⟩⟩⟩⟩⟩⟩⟩⟩⟩⟩⟩⟩⟩⟩⟩⟩⟩⟩⟩⟩⟩⟩⟩⟩⟩⟩⟩⟩⟩⟩⟩⟩⟩⟩⟩⟩⟩⟩⟩⟩⟩⟩⟩⟩⟩⟩⟩⟩⟩⟩⟩⟩⟩⟩⟩⟩⟩⟩⟩⟩⟩⟩, List.forall_mem_cons.mpr ⟨va_Nw.of rfl (hts _ (tb4 194 rfl)), List.forall_mem_cons.mpr ⟨va_Nw.of rfl (hts _ (tb4 209 rfl)), List.forall_mem_cons.mpr ⟨va_Nw.of rfl (hts _ (tb4 210 rfl)), List.forall_mem_cons.mpr ⟨va_Nw.of rfl (hts _ (tb4 234 rfl)), List.forall_mem_cons.mpr ⟨va_Nw.of rfl (hts _ (tb4 23 rfl)), List.forall_mem_cons.mpr ⟨va_Nw.of rfl (hts _ (tb5 39 rfl)), List.forall_mem_cons.mpr ⟨va_Nw.of rfl (hts _ (tb5 41 rfl)), List.forall_mem_cons.mpr ⟨va_Nw.of rfl (hts _ (tb5 46 rfl)), List.forall_mem_cons.mpr ⟨va_Nw.of rfl (hts _ (tb5 99 rfl)), List.forall_mem_cons.mpr ⟨va_Nw.of rfl (hts _ (tb3 10 rfl)), List.forall_mem_cons.mpr ⟨va_Nw.of rfl (hts _ (tb3 136 rfl)), List.forall_mem_cons.mpr ⟨va_Nw.of rfl (hts _ (tb3 180 rfl)), List.forall_mem_cons.mpr ⟨va_Nw.of rfl (hts _ (tb3 162 rfl)), List.forall_mem_cons.mpr ⟨va_Nw.of rfl (hts _ (tb5 150 rfl)), List.forall_mem_cons.mpr ⟨va_Nw.of rfl (hts _ (tb3 217 rfl)), List.forall_mem_cons.mpr ⟨va_Nw.of rfl (hts _ (tb5 85 rfl)), List.forall_mem_cons.mpr ⟨va_Nw.of rfl (hts _ (tb4 208 rfl)), List.forall_mem_cons.mpr ⟨va_Nw.of rfl (hts _ (tb5 94 rfl)), List.forall_mem_cons.mpr ⟨va_Nw.of rfl (hts _ (tb5 126 rfl)), fun _ h => absurd h List.not_mem_nil⟩⟩⟩⟩⟩⟩⟩⟩⟩⟩⟩⟩⟩⟩⟩⟩⟩⟩⟩⟩
set_option maxRecDepth 100000 in
theorem cCs_tb : ∀ w ∈ cWI ++ cWA, cIsC w = true → w ∈ lw_tbl := by decide +kernel
theorem law_cast {args : Array Value} {s : State} (hts : ∀ w ∈ lw_tbl, w.before args s = true) : cCs s := fun w hw hc => by
  have h := hts w (cCs_tb w hw hc)
  match w, hc, h with
  | .castable a b, _, h => exact va_Nw.of rfl h
  | .declares x, _, h => exact va_Nw.of rfl h
theorem law_ao {args : Array Value} {s : State} (hts : ∀ w ∈ lw_tbl, w.before args s = true) : kAO s := ⟨hts (.arrayOver (.array .int)) (tb1 101 rfl), va_AO.of (hts (.arrayOver (.object "ReplicaFiles$Server")) (tb1 86 rfl)), va_AO.of (hts (.arrayOver (.object "ReplicaFiles$Client")) (tb1 206 rfl)), va_AO.of (hts (.arrayOver (.object "ReplicaFiles$Versions")) (tb1 93 rfl))⟩
theorem law_cls {args : Array Value} {s : State} (hts : ∀ w ∈ lw_tbl, w.before args s = true) : ∀ k : Nat, ∃ (c : ClassId) (iS : Nat → Nat), ∀ q, vwCl[k]? = some q → u_Kn s q.1 q.2.1 q.2.2 c iS := fun k => match k with
  | 0 => by
    obtain ⟨c, iS, h⟩ := u_known (C := RX0) (T := TX0) (N := 4) (n := 4) hts wsX0_tb (hts (.instantiable RX0 4) (tb1 36 rfl))
    exact ⟨c, iS, fun q hq => by cases hq; exact h⟩
  | 1 => by
    obtain ⟨c, iS, h⟩ := u_known (C := RX1) (T := TX1) (N := 12) (n := 12) hts wsX1_tb (hts (.instantiable RX1 12) (tb1 207 rfl))
    exact ⟨c, iS, fun q hq => by cases hq; exact h⟩
  | 2 => by
    obtain ⟨c, iS, h⟩ := u_known (C := RX2) (T := TX2) (N := 5) (n := 5) hts wsX2_tb (hts (.instantiable RX2 5) (tb2 81 rfl))
    exact ⟨c, iS, fun q hq => by cases hq; exact h⟩
  | 3 => by
    obtain ⟨c, iS, h⟩ := u_known (C := RX3) (T := TX3) (N := 5) (n := 5) hts wsX3_tb (hts (.instantiable RX3 5) (tb1 215 rfl))
    exact ⟨c, iS, fun q hq => by cases hq; exact h⟩
  | 4 => by
    obtain ⟨c, iS, h⟩ := u_known (C := RX4) (T := TX4) (N := 8) (n := 8) hts wsX4_tb (hts (.instantiable RX4 8) (tb2 103 rfl))
    exact ⟨c, iS, fun q hq => by cases hq; exact h⟩
  | 5 => by
    obtain ⟨c, iS, h⟩ := u_known (C := RX5) (T := TX5) (N := 3) (n := 3) hts wsX5_tb (hts (.instantiable RX5 3) (tb1 69 rfl))
    exact ⟨c, iS, fun q hq => by cases hq; exact h⟩
  | 6 => by
    obtain ⟨c, iS, h⟩ := u_known (C := RX6) (T := TX6) (N := 4) (n := 4) hts wsX6_tb (hts (.instantiable RX6 4) (tb2 56 rfl))
    exact ⟨c, iS, fun q hq => by cases hq; exact h⟩
  | 7 => by
    obtain ⟨c, iS, h⟩ := u_known (C := RX7) (T := TX7) (N := 4) (n := 4) hts wsX7_tb (hts (.instantiable RX7 4) (tb1 87 rfl))
    exact ⟨c, iS, fun q hq => by cases hq; exact h⟩
  | 8 => by
    obtain ⟨c, iS, h⟩ := u_known (C := RX8) (T := TX8) (N := 7) (n := 7) hts wsX8_tb (hts (.instantiable RX8 7) (tb1 95 rfl))
    exact ⟨c, iS, fun q hq => by cases hq; exact h⟩
  | 9 => by
    obtain ⟨c, iS, h⟩ := u_known (C := RX9) (T := TX9) (N := 4) (n := 4) hts wsX9_tb (hts (.instantiable RX9 4) (tb1 149 rfl))
    exact ⟨c, iS, fun q hq => by cases hq; exact h⟩
  | 10 => by
    obtain ⟨c, iS, h⟩ := u_known (C := RX10) (T := TX10) (N := 9) (n := 9) hts wsX10_tb (hts (.instantiable RX10 9) (tb1 22 rfl))
    exact ⟨c, iS, fun q hq => by cases hq; exact h⟩
  | 11 => by
    obtain ⟨c, iS, h⟩ := u_known (C := RX11) (T := TX11) (N := 67) (n := 67) hts wsX11_tb (hts (.instantiable RX11 67) (tb6 16 rfl))
    exact ⟨c, iS, fun q hq => by cases hq; exact h⟩
  | k + 12 => ⟨0, fun _ => 0, fun q hq => by simp at hq⟩
theorem law_arr {args : Array Value} {s : State} (hts : ∀ w ∈ lw_tbl, w.before args s = true) : ∃ dA : Nat → ClassId, ∀ (k : Nat) (q : ClassId × FieldType), (gT dA)[k]? = some q → ArrOfT s q.1 q.2 ∧ va_RA s q.1 q.2 := by
  obtain ⟨c0, k0, p0, a1, a2, a3⟩ := Cond.arrayClass_spec (hts (.arrayClass .int) (tb1 66 rfl))
  obtain ⟨c1, k1, p1, b1, b2, b3⟩ := Cond.arrayClass_spec (hts (.arrayClass .boolean) (tb1 67 rfl))
  obtain ⟨p2, c2, k2, d1, d2, d3, d4, d5⟩ := Cond.arrayOver_spec (hts (.arrayOver (.object "ReplicaFiles$Server")) (tb1 86 rfl))
  obtain ⟨p3, c3, k3, e1, e2, e3, e4, e5⟩ := Cond.arrayOver_spec (hts (.arrayOver (.object "ReplicaFiles$Client")) (tb1 206 rfl))
  obtain ⟨p4, c4, k4, f1, f2, f3, f4, f5⟩ := Cond.arrayOver_spec (hts (.arrayOver (.object "ReplicaFiles$Versions")) (tb1 93 rfl))
  obtain ⟨p5, c5, k5, g1, g2, g3, g4, g5⟩ := arrayOverA_spec (hts (.arrayOver (.array .int)) (tb1 101 rfl))
  refine ⟨fun k => if k = 0 then c0 else if k = 1 then c1 else if k = 2 then c2 else if k = 3 then c3 else if k = 4 then c4 else c5, fun k q hq => ?_⟩
  match k, hq with
  | 0, hq => cases hq; exact ⟨fun n z => ⟨fun k h => (by cases h), k0, a2, p0, a3⟩, a1⟩
  | 1, hq => cases hq; exact ⟨fun n z => ⟨fun k h => (by cases h), k1, b2, p1, b3⟩, b1⟩
  | 2, hq => cases hq; exact ⟨fun n z => ⟨fun k h => (by cases h), k2, d3, p2, d4⟩, k2, p2, d3, d4, d1, d5⟩
  | 3, hq => cases hq; exact ⟨fun n z => ⟨fun k h => (by cases h), k3, e3, p3, e4⟩, k3, p3, e3, e4, e1, e5⟩
  | 4, hq => cases hq; exact ⟨fun n z => ⟨fun k h => (by cases h), k4, f3, p4, f4⟩, k4, p4, f3, f4, f1, f5⟩
  | 5, hq => cases hq; exact ⟨fun n z => ⟨fun k h => (by cases h), k5, g3, p5, g4⟩, g5⟩
  | k + 6, hq => simp at hq
theorem law_text {args : Array Value} {s : State} (hts : ∀ w ∈ lw_tbl, w.before args s = true) : ∃ tx : Nat → Nat, ∀ q ∈ cTx, vk_R RX10 q.1 q.2 (tx q.1) s := by
  obtain ⟨cur, -, hown, -⟩ := Cond.instantiable_spec (hts (.instantiable RX10 9) (tb1 22 rfl))
  obtain ⟨-, -, -, a0, -, -, -, -, -, h0⟩ := Cond.stringRef_spec hown (hts (.stringRef RX10 299 "no such server") (tb2 218 rfl))
  have r0 := vk_R.of (hts (.stringRef RX10 299 "no such server") (tb2 218 rfl)) h0
  obtain ⟨-, -, -, a1, -, -, -, -, -, h1⟩ := Cond.stringRef_spec hown (hts (.stringRef RX10 301 "no such client") (tb3 54 rfl))
  have r1 := vk_R.of (hts (.stringRef RX10 301 "no such client") (tb3 54 rfl)) h1
  obtain ⟨-, -, -, a2, -, -, -, -, -, h2⟩ := Cond.stringRef_spec hown (hts (.stringRef RX10 303 "no such object") (tb3 58 rfl))
  have r2 := vk_R.of (hts (.stringRef RX10 303 "no such object") (tb3 58 rfl)) h2
  obtain ⟨-, -, -, a3, -, -, -, -, -, h3⟩ := Cond.stringRef_spec hown (hts (.stringRef RX10 305 "another what") (tb5 195 rfl))
  have r3 := vk_R.of (hts (.stringRef RX10 305 "another what") (tb5 195 rfl)) h3
  obtain ⟨-, -, -, a4, -, -, -, -, -, h4⟩ := Cond.stringRef_spec hown (hts (.stringRef RX10 309 "an argument is out of its range") (tb3 71 rfl))
  have r4 := vk_R.of (hts (.stringRef RX10 309 "an argument is out of its range") (tb3 71 rfl)) h4
  obtain ⟨-, -, -, a5, -, -, -, -, -, h5⟩ := Cond.stringRef_spec hown (hts (.stringRef RX10 90 "a server has no link to itself") (tb3 5 rfl))
  have r5 := vk_R.of (hts (.stringRef RX10 90 "a server has no link to itself") (tb3 5 rfl)) h5
  refine ⟨fun k => if k = 299 then a0 else if k = 301 then a1 else if k = 303 then a2 else if k = 305 then a3 else if k = 309 then a4 else a5, ?_⟩
  exact List.forall_mem_cons.mpr ⟨r0, List.forall_mem_cons.mpr ⟨r1, List.forall_mem_cons.mpr ⟨r2, List.forall_mem_cons.mpr ⟨r3, List.forall_mem_cons.mpr ⟨r4, List.forall_mem_cons.mpr ⟨r5, fun _ h => absurd h List.not_mem_nil⟩⟩⟩⟩⟩⟩
theorem law_throw {args : Array Value} {s : State} (hts : ∀ w ∈ lw_tbl, w.before args s = true) (hgv : (Jvm.Cond.and given_1 narrow_1).before args s = true) : (vx_Zq Bundle.tN "UNASSIGNED_STACK" Bundle.steD (fun q => s.heap.size ≤ q) s s.heap ∧ vx_Zq Bundle.tN "SUPPRESSED_SENTINEL" Bundle.listD (fun q => s.heap.size ≤ q) s s.heap) ∧ va_Nc cIA cIO s := by
  have hs := flat_of_before _ hgv
  have h1 : (Cond.isRef (.static Bundle.tN "UNASSIGNED_STACK" Bundle.steD)).before args s = true := hs _ (by decide +kernel)
  have h2 : (Cond.isRef (.static Bundle.tN "SUPPRESSED_SENTINEL" Bundle.listD)).before args s = true := hs _ (by decide +kernel)
  have h3 : (Cond.not (.castable cIA cIO)).before args s = true := hs _ (by decide +kernel)
  exact ⟨⟨vx_Zqof (hts (.laysStatic Bundle.tN "UNASSIGNED_STACK" Bundle.steD) (tb2 205 rfl)) (hts (.initialized Bundle.tN) (tb1 14 rfl)) h1 (fun a h => Nat.not_le.mpr h), vx_Zqof (hts (.laysStatic Bundle.tN "SUPPRESSED_SENTINEL" Bundle.listD) (tb2 207 rfl)) (hts (.initialized Bundle.tN) (tb1 14 rfl)) h2 (fun a h => Nat.not_le.mpr h)⟩, va_Nc.of h3⟩
theorem law_known {args : Array Value} {s : State} (hts : ∀ w ∈ lw_tbl, w.before args s = true) (hgv : (Jvm.Cond.and given_1 narrow_1).before args s = true) : ∃ (D : va_G) (dA : Nat → ClassId) (tx : Nat → Nat), va_K D vwCl (gT dA) s ∧ kAO s ∧ cNw s ∧ cT tx (fun q => s.heap.size ≤ q) s s.heap ∧ va_Nc cIA cIO s := by
  have hc := law_cls hts
  obtain ⟨dA, hA⟩ := law_arr hts
  obtain ⟨tx, hx⟩ := law_text hts
  obtain ⟨⟨h1, h2⟩, h3⟩ := law_throw hts hgv
  exact ⟨(fun k => Classical.choose (hc k), fun k => Classical.choose (Classical.choose_spec (hc k))), dA, tx, ⟨fun k q hq => Classical.choose_spec (Classical.choose_spec (hc k)) q hq, hA⟩, law_ao hts, law_nest hts, ⟨hx, h1, h2, law_cast hts⟩, h3⟩
