/-! the reference's world: its object m_o, its arrays m_.. -/
abbrev m_o : gI := (0, 0, 0)
abbrev m_up : gI := (3, 0, 0)
abbrev m_linked : gI := (4, 0, 0)
abbrev m_reaches : gI := (5, 0, 0)
abbrev m_loses : gI := (6, 0, 0)
abbrev m_parent : gI := (8, 0, 0)
abbrev m_name : gI := (9, 0, 0)
abbrev m_isDirectory : gI := (10, 0, 0)
abbrev m_has : gI := (11, 0, 0)
abbrev m_value : gI := (12, 0, 0)
abbrev m_size : gI := (13, 0, 0)
abbrev m_vector : gI := (14, 0, 0)
abbrev m_versions : gI := (15, 0, 0)
abbrev m_versionValue : gI := (16, 0, 0)
abbrev m_versionSize : gI := (17, 0, 0)
abbrev m_versionVector : gI := (18, 0, 0)
abbrev m_entry : gI := (19, 0, 0)
abbrev m_gone : gI := (20, 0, 0)
abbrev m_marks : gI := (21, 0, 0)
abbrev m_kept : gI := (22, 0, 0)
abbrev m_keptValue : gI := (23, 0, 0)
abbrev m_keptSize : gI := (24, 0, 0)
abbrev m_keptVector : gI := (25, 0, 0)
abbrev m_promised : gI := (26, 0, 0)
abbrev m_dirty : gI := (27, 0, 0)
abbrev m_usedAt : gI := (28, 0, 0)
abbrev m_usedBy : gI := (29, 0, 0)
abbrev m_keptEntry : gI := (30, 0, 0)
abbrev m_keptGone : gI := (31, 0, 0)
abbrev m_priorities : gI := (32, 0, 0)
abbrev m_records : gI := (35, 0, 0)
abbrev m_recordKind : gI := (36, 0, 0)
abbrev m_recordObject : gI := (37, 0, 0)
abbrev m_recordDirectory : gI := (38, 0, 0)
abbrev m_recordVector : gI := (39, 0, 0)
abbrev m_versionsTold : gI := (40, 0, 0)
abbrev m_gotVector : gI := (41, 0, 0)
abbrev m_gotEntry : gI := (42, 0, 0)
abbrev m_directoryVector : gI := (44, 0, 0)
abbrev m_row : gI := (45, 0, 0)
abbrev m_someThere : gI := (57, 0, 0)
abbrev m_someGone : gI := (58, 0, 0)
abbrev m_mergedGone : gI := (59, 0, 0)
abbrev m_canGo : gI := (60, 0, 0)
abbrev m_swept : gI := (61, 0, 0)
abbrev m_candidateValue : gI := (63, 0, 0)
abbrev m_candidateSize : gI := (64, 0, 0)
abbrev m_candidateVector : gI := (65, 0, 0)
abbrev m_beaten : gI := (66, 0, 0)
def mFl : Nat → Nat × gI := fun k => match k with
  | 2 => (1, (3, 0, 0))
  | 3 => (1, (4, 0, 0))
  | 4 => (1, (5, 0, 0))
  | 5 => (1, (6, 0, 0))
  | 7 => (1, (8, 0, 0))
  | 8 => (1, (9, 0, 0))
  | 9 => (1, (10, 0, 0))
  | 10 => (1, (11, 0, 0))
  | 11 => (1, (12, 0, 0))
  | 12 => (1, (13, 0, 0))
  | 13 => (1, (14, 0, 0))
  | 14 => (1, (15, 0, 0))
  | 15 => (1, (16, 0, 0))
  | 16 => (1, (17, 0, 0))
  | 17 => (1, (18, 0, 0))
  | 18 => (1, (19, 0, 0))
  | 19 => (1, (20, 0, 0))
  | 20 => (1, (21, 0, 0))
  | 21 => (1, (22, 0, 0))
  | 22 => (1, (23, 0, 0))
  | 23 => (1, (24, 0, 0))
  | 24 => (1, (25, 0, 0))
  | 25 => (1, (26, 0, 0))
  | 26 => (1, (27, 0, 0))
  | 27 => (1, (28, 0, 0))
  | 28 => (1, (29, 0, 0))
  | 29 => (1, (30, 0, 0))
  | 30 => (1, (31, 0, 0))
  | 31 => (1, (32, 0, 0))
  | 34 => (1, (35, 0, 0))
  | 35 => (1, (36, 0, 0))
  | 36 => (1, (37, 0, 0))
  | 37 => (1, (38, 0, 0))
  | 38 => (1, (39, 0, 0))
  | 39 => (1, (40, 0, 0))
  | 40 => (1, (41, 0, 0))
  | 41 => (1, (42, 0, 0))
  | 43 => (1, (44, 0, 0))
  | 44 => (1, (45, 0, 0))
  | 56 => (1, (57, 0, 0))
  | 57 => (1, (58, 0, 0))
  | 58 => (1, (59, 0, 0))
  | 59 => (1, (60, 0, 0))
  | 60 => (1, (61, 0, 0))
  | 62 => (1, (63, 0, 0))
  | 63 => (1, (64, 0, 0))
  | 64 => (1, (65, 0, 0))
  | 65 => (1, (66, 0, 0))
  | _ => (0, (0, 0, 0))
def mLay : gI → gL := fun i => match i.1 with
  | 0 => .inr (.inr (11, 67, mFl))
  | 3 => .inl (1, 4)
  | 4 => .inl (1, 16)
  | 5 => .inl (1, 16)
  | 6 => .inl (1, 4)
  | 8 => .inl (0, 48)
  | 9 => .inl (0, 48)
  | 10 => .inl (1, 48)
  | 11 => .inl (1, 192)
  | 12 => .inl (0, 192)
  | 13 => .inl (0, 192)
  | 14 => .inl (0, 1536)
  | 15 => .inl (0, 192)
  | 16 => .inl (0, 1152)
  | 17 => .inl (0, 1152)
  | 18 => .inl (0, 9216)
  | 19 => .inl (0, 192)
  | 20 => .inl (0, 1536)
  | 21 => .inl (0, 192)
  | 22 => .inl (1, 192)
  | 23 => .inl (0, 192)
  | 24 => .inl (0, 192)
  | 25 => .inl (0, 1536)
  | 26 => .inl (0, 192)
  | 27 => .inl (1, 192)
  | 28 => .inl (0, 192)
  | 29 => .inl (0, 192)
  | 30 => .inl (0, 192)
  | 31 => .inl (0, 1536)
  | 32 => .inl (0, 192)
  | 35 => .inl (0, 4)
  | 36 => .inl (0, 48)
  | 37 => .inl (0, 48)
  | 38 => .inl (0, 48)
  | 39 => .inl (0, 384)
  | 40 => .inl (0, 4)
  | 41 => .inl (0, 8)
  | 42 => .inl (0, 48)
  | 44 => .inl (0, 8)
  | 45 => .inl (0, 8)
  | 57 => .inl (1, 48)
  | 58 => .inl (1, 48)
  | 59 => .inl (0, 384)
  | 60 => .inl (1, 48)
  | 61 => .inl (1, 48)
  | 63 => .inl (0, 24)
  | 64 => .inl (0, 24)
  | 65 => .inl (0, 192)
  | 66 => .inl (1, 24)
  | _ => .inl (0, 0)
def mTags : List Nat := [0, 3, 4, 5, 6, 8, 9, 10, 11, 12, 13, 14, 15, 16, 17, 18, 19, 20, 21, 22, 23, 24, 25, 26, 27, 28, 29, 30, 31, 32, 35, 36, 37, 38, 39, 40, 41, 42, 44, 45, 57, 58, 59, 60, 61, 63, 64, 65, 66]
def mLive : gI → Prop := fun i => i.1 ∈ mTags ∧ i.2 = (0, 0)
def mN (i : gI) : Nat := match mLay i with
  | .inl a => a.2
  | _ => 0
def mArr (i : gI) : Prop := mLive i ∧ mLay i = .inl (0, mN i)
theorem lt_e {α β : Type} {x : α} {k : α → Option β} {y : β} (h : lt x k = some y) : ∃ z, z = x ∧ k z = some y := ⟨x, rfl, h⟩
theorem mlv_o : mLive m_o := ⟨by decide, rfl⟩
theorem ml_up : mLive m_up := ⟨by decide, rfl⟩
theorem ml_linked : mLive m_linked := ⟨by decide, rfl⟩
theorem ml_reaches : mLive m_reaches := ⟨by decide, rfl⟩
theorem ml_loses : mLive m_loses := ⟨by decide, rfl⟩
theorem ml_parent : mLive m_parent := ⟨by decide, rfl⟩
theorem ml_name : mLive m_name := ⟨by decide, rfl⟩
theorem ml_isDirectory : mLive m_isDirectory := ⟨by decide, rfl⟩
theorem ml_has : mLive m_has := ⟨by decide, rfl⟩
theorem ml_value : mLive m_value := ⟨by decide, rfl⟩
theorem ml_size : mLive m_size := ⟨by decide, rfl⟩
theorem ml_vector : mLive m_vector := ⟨by decide, rfl⟩
theorem ml_versions : mLive m_versions := ⟨by decide, rfl⟩
theorem ml_versionValue : mLive m_versionValue := ⟨by decide, rfl⟩
theorem ml_versionSize : mLive m_versionSize := ⟨by decide, rfl⟩
theorem ml_versionVector : mLive m_versionVector := ⟨by decide, rfl⟩
theorem ml_entry : mLive m_entry := ⟨by decide, rfl⟩
theorem ml_gone : mLive m_gone := ⟨by decide, rfl⟩
theorem ml_marks : mLive m_marks := ⟨by decide, rfl⟩
theorem ml_kept : mLive m_kept := ⟨by decide, rfl⟩
theorem ml_keptValue : mLive m_keptValue := ⟨by decide, rfl⟩
theorem ml_keptSize : mLive m_keptSize := ⟨by decide, rfl⟩
theorem ml_keptVector : mLive m_keptVector := ⟨by decide, rfl⟩
theorem ml_promised : mLive m_promised := ⟨by decide, rfl⟩
theorem ml_dirty : mLive m_dirty := ⟨by decide, rfl⟩
theorem ml_usedAt : mLive m_usedAt := ⟨by decide, rfl⟩
theorem ml_usedBy : mLive m_usedBy := ⟨by decide, rfl⟩
theorem ml_keptEntry : mLive m_keptEntry := ⟨by decide, rfl⟩
theorem ml_keptGone : mLive m_keptGone := ⟨by decide, rfl⟩
theorem ml_priorities : mLive m_priorities := ⟨by decide, rfl⟩
theorem ml_records : mLive m_records := ⟨by decide, rfl⟩
theorem ml_recordKind : mLive m_recordKind := ⟨by decide, rfl⟩
theorem ml_recordObject : mLive m_recordObject := ⟨by decide, rfl⟩
theorem ml_recordDirectory : mLive m_recordDirectory := ⟨by decide, rfl⟩
theorem ml_recordVector : mLive m_recordVector := ⟨by decide, rfl⟩
theorem ml_versionsTold : mLive m_versionsTold := ⟨by decide, rfl⟩
theorem ml_gotVector : mLive m_gotVector := ⟨by decide, rfl⟩
theorem ml_gotEntry : mLive m_gotEntry := ⟨by decide, rfl⟩
theorem ml_directoryVector : mLive m_directoryVector := ⟨by decide, rfl⟩
theorem ml_row : mLive m_row := ⟨by decide, rfl⟩
theorem ml_someThere : mLive m_someThere := ⟨by decide, rfl⟩
theorem ml_someGone : mLive m_someGone := ⟨by decide, rfl⟩
theorem ml_mergedGone : mLive m_mergedGone := ⟨by decide, rfl⟩
theorem ml_canGo : mLive m_canGo := ⟨by decide, rfl⟩
theorem ml_swept : mLive m_swept := ⟨by decide, rfl⟩
theorem ml_candidateValue : mLive m_candidateValue := ⟨by decide, rfl⟩
theorem ml_candidateSize : mLive m_candidateSize := ⟨by decide, rfl⟩
theorem ml_candidateVector : mLive m_candidateVector := ⟨by decide, rfl⟩
theorem ml_beaten : mLive m_beaten := ⟨by decide, rfl⟩
abbrev mMi (l : Launch) (y : MethodName) (ws : List Cond) (rm : Room) (D : va_G) (dA : Nat → ClassId) (A : gI → Nat) (av : List Value) (M : gM) (r : Int32) (M' : gM) : Prop := gMi l y ws rm D vwCl mLay dA mLive A av M r M'
abbrev mQi (D : va_G) (dA : Nat → ClassId) (A : gI → Nat) (y : Int32 × gM) : Array Value → State → Outcome → State → Prop := va_Qi (fun r' u => r' = y.1 ∧ u = y.2) (fun u t => gW D mLay dA mLive A u t.heap) (gA mLive A)
abbrev mMl (l : Launch) (y : MethodName) (ws : List Cond) (rm : Room) (D : va_G) (dA : Nat → ClassId) (A : gI → Nat) (av : List Value) (M : gM) (r : Int64) (M' : gM) : Prop := gMl l y ws rm D vwCl mLay dA mLive A av M r M'
abbrev mQl (D : va_G) (dA : Nat → ClassId) (A : gI → Nat) (y : Int64 × gM) : Array Value → State → Outcome → State → Prop := va_Ql (fun r' u => r' = y.1 ∧ u = y.2) (fun u t => gW D mLay dA mLive A u t.heap) (gA mLive A)
abbrev mMv (l : Launch) (y : MethodName) (ws : List Cond) (rm : Room) (D : va_G) (dA : Nat → ClassId) (A : gI → Nat) (av : List Value) (M : gM) (M' : gM) : Prop := gMv l y ws rm D vwCl mLay dA mLive A av M M'
abbrev mQv (D : va_G) (dA : Nat → ClassId) (A : gI → Nat) (y : gM) : Array Value → State → Outcome → State → Prop := va_Qv (fun u => u = y) (fun u t => gW D mLay dA mLive A u t.heap) (gA mLive A)
/-! the words of all its methods, in one list -/
def mBig0 : List Cond := [.methodLink RX11 1 objectInit,
  .instanceMethod objectInit,
  .code objectInit ⟨#[0xb1]⟩ 1 none,
  .arrayClass .boolean,
  .fieldLink RX11 7 "ReplicaFilesModel" "up" "[Z",
  .fieldLink RX11 13 "ReplicaFilesModel" "linked" "[Z",
  .fieldLink RX11 16 "ReplicaFilesModel" "reaches" "[Z",
  .fieldLink RX11 19 "ReplicaFilesModel" "loses" "[Z",
  .arrayClass .int,
  .fieldLink RX11 22 "ReplicaFilesModel" "parent" "[I",
  .fieldLink RX11 26 "ReplicaFilesModel" "name" "[I",
  .fieldLink RX11 29 "ReplicaFilesModel" "isDirectory" "[Z",
  .fieldLink RX11 32 "ReplicaFilesModel" "has" "[Z",
  .fieldLink RX11 35 "ReplicaFilesModel" "value" "[I",
  .fieldLink RX11 38 "ReplicaFilesModel" "size" "[I",
  .fieldLink RX11 41 "ReplicaFilesModel" "vector" "[I",
  .fieldLink RX11 44 "ReplicaFilesModel" "versions" "[I",
  .fieldLink RX11 47 "ReplicaFilesModel" "versionValue" "[I",
  .fieldLink RX11 50 "ReplicaFilesModel" "versionSize" "[I",
  .fieldLink RX11 53 "ReplicaFilesModel" "versionVector" "[I",
  .fieldLink RX11 56 "ReplicaFilesModel" "entry" "[I",
  .fieldLink RX11 59 "ReplicaFilesModel" "gone" "[I",
  .fieldLink RX11 62 "ReplicaFilesModel" "marks" "[I",
  .fieldLink RX11 65 "ReplicaFilesModel" "kept" "[Z",
  .fieldLink RX11 68 "ReplicaFilesModel" "keptValue" "[I",
  .fieldLink RX11 71 "ReplicaFilesModel" "keptSize" "[I",
  .fieldLink RX11 74 "ReplicaFilesModel" "keptVector" "[I",
  .fieldLink RX11 77 "ReplicaFilesModel" "promised" "[I",
  .fieldLink RX11 80 "ReplicaFilesModel" "dirty" "[Z",
  .fieldLink RX11 83 "ReplicaFilesModel" "usedAt" "[I",
  .fieldLink RX11 86 "ReplicaFilesModel" "usedBy" "[I",
  .fieldLink RX11 89 "ReplicaFilesModel" "keptEntry" "[I",
  .fieldLink RX11 92 "ReplicaFilesModel" "keptGone" "[I",
  .fieldLink RX11 95 "ReplicaFilesModel" "priorities" "[I",
  .fieldLink RX11 98 "ReplicaFilesModel" "records" "[I",
  .fieldLink RX11 101 "ReplicaFilesModel" "recordKind" "[I",
  .fieldLink RX11 104 "ReplicaFilesModel" "recordObject" "[I",
  .fieldLink RX11 107 "ReplicaFilesModel" "recordDirectory" "[I",
  .fieldLink RX11 110 "ReplicaFilesModel" "recordVector" "[I",
  .fieldLink RX11 113 "ReplicaFilesModel" "versionsTold" "[I",
  .fieldLink RX11 116 "ReplicaFilesModel" "gotVector" "[I",
  .fieldLink RX11 119 "ReplicaFilesModel" "gotEntry" "[I",
  .fieldLink RX11 122 "ReplicaFilesModel" "directoryVector" "[I",
  .fieldLink RX11 125 "ReplicaFilesModel" "row" "[I",
  .fieldLink RX11 128 "ReplicaFilesModel" "someThere" "[Z",
  .fieldLink RX11 131 "ReplicaFilesModel" "someGone" "[Z",
  .fieldLink RX11 134 "ReplicaFilesModel" "mergedGone" "[I",
  .fieldLink RX11 137 "ReplicaFilesModel" "canGo" "[Z",
  .fieldLink RX11 140 "ReplicaFilesModel" "swept" "[Z",
  .fieldLink RX11 143 "ReplicaFilesModel" "candidateValue" "[I",
  .fieldLink RX11 146 "ReplicaFilesModel" "candidateSize" "[I",
  .fieldLink RX11 149 "ReplicaFilesModel" "candidateVector" "[I",
  .fieldLink RX11 152 "ReplicaFilesModel" "beaten" "[Z",
  .fieldLink RX11 155 "ReplicaFilesModel" "servers" "I",
  .fieldLink RX11 159 "ReplicaFilesModel" "counts" "I",
  .fieldLink RX11 162 "ReplicaFilesModel" "made" "I",
  .code yX11_init cX11_init 3 none,
  .code yX11_thrown cX11_thrown 1 (some .int),
  .fieldLink RX11 165 "ReplicaFilesModel" "thrown" "I",
  .code yX11_in cX11_in 3 (some .boolean),
  .code yX11_isServer cX11_isServer 2 (some .boolean),
  .methodLink RX11 168 yX11_in,
  .static yX11_in,
  .initialized RX11,
  .code yX11_isClient cX11_isClient 1 (some .boolean),
  .code yX11_isObject cX11_isObject 1 (some .boolean),
  .code yX11_kindOf cX11_kindOf 3 (some .long),
  .constantLong RX11 172 (-2199023255552),
  .constantLong RX11 174 (-2199023255559),
  .code yX11_isNear cX11_isNear 3 (some .boolean),
  .code yX11_nearSet cX11_nearSet 4 (some .int),
  .methodLink RX11 176 yX11_isNear,
  .instanceMethod yX11_isNear,
  .selects RX11 yX11_isNear yX11_isNear,
  .code yX11_isAlone cX11_isAlone 2 (some .boolean),
  .methodLink RX11 180 yX11_nearSet,
  .instanceMethod yX11_nearSet,
  .selects RX11 yX11_nearSet yX11_nearSet,
  .code yX11_leastOf cX11_leastOf 2 (some .int),
  .code yX11_manyOf cX11_manyOf 1 (some .int),
  .code yX11_endFar cX11_endFar 4 none,
  .methodLink RX11 184 yX11_isServer,
  .instanceMethod yX11_isServer,
  .selects RX11 yX11_isServer yX11_isServer,
  .methodLink RX11 188 yX11_endFar,
  .instanceMethod yX11_endFar,
  .selects RX11 yX11_endFar yX11_endFar,
  .code yX11_link cX11_link 5 (some .boolean),
  .code yX11_server cX11_server 4 (some .boolean),
  .code yX11_lose cX11_lose 3 (some .boolean),
  .code yX11_priority cX11_priority 5 (some .int),
  .methodLink RX11 191 yX11_isClient,
  .static yX11_isClient,
  .methodLink RX11 194 yX11_isObject,
  .static yX11_isObject,
  .code yX11_isAtMost cX11_isAtMost 6 (some .boolean),
  .code yX11_isSame cX11_isSame 6 (some .boolean),
  .code yX11_copyTo cX11_copyTo 6 none,
  .code yX11_raise cX11_raise 6 none,
  .code yX11_clearRow cX11_clearRow 4 none,
  .code yX11_mark cX11_mark 4 none,
  .code yX11_count cX11_count 6 none,
  .code yX11_isChild cX11_isChild 3 (some .boolean),
  .code yX11_drop cX11_drop 5 none,
  .methodLink RX11 197 yX11_isChild,
  .instanceMethod yX11_isChild,
  .selects RX11 yX11_isChild yX11_isChild,
  .code yX11_newCopy cX11_newCopy 4 none,
  .methodLink RX11 200 yX11_clearRow,
  .instanceMethod yX11_clearRow,
  .selects RX11 yX11_clearRow yX11_clearRow,
  .code yX11_forget cX11_forget 4 none,
  .code yX11_weight cX11_weight 3 (some .int),
  .code yX11_weightKept cX11_weightKept 3 (some .int),
  .methodLink RX11 204 yX11_weight,
  .instanceMethod yX11_weight,
  .selects RX11 yX11_weight yX11_weight,
  .code yX11_use cX11_use 3 none,
  .fieldLink RX11 208 "ReplicaFilesModel" "clock" "I",
  .fieldLink RX11 211 "ReplicaFilesModel" "call" "I",
  .code yX11_mayGo cX11_mayGo 6 (some .boolean),
  .code yX11_goesBefore cX11_goesBefore 3 (some .boolean),
  .fieldLink RX11 228 "ReplicaFilesModel" "went" "I",
  .methodLink RX11 214 yX11_weightKept,
  .instanceMethod yX11_weightKept,
  .selects RX11 yX11_weightKept yX11_weightKept,
  .methodLink RX11 217 yX11_mayGo,
  .instanceMethod yX11_mayGo,
  .selects RX11 yX11_mayGo yX11_mayGo,
  .methodLink RX11 221 yX11_goesBefore,
  .instanceMethod yX11_goesBefore,
  .selects RX11 yX11_goesBefore yX11_goesBefore,
  .methodLink RX11 224 yX11_forget,
  .instanceMethod yX11_forget,
  .selects RX11 yX11_forget yX11_forget,
  .code yX11_makeRoom cX11_makeRoom 9 (some .boolean),
  .code yX11_isGood cX11_isGood 4 (some .boolean),
  .code yX11_takeKept cX11_takeKept 5 none,
  .fieldLink RX11 231 "ReplicaFilesModel" "gotValue" "I",
  .methodLink RX11 234 yX11_copyTo,
  .instanceMethod yX11_copyTo,
  .selects RX11 yX11_copyTo yX11_copyTo,
  .code yX11_greatest cX11_greatest 6 (some .int),
  .methodLink RX11 265 yX11_isAtMost,
  .instanceMethod yX11_isAtMost,
  .selects RX11 yX11_isAtMost yX11_isAtMost,
  .fieldLink RX11 272 "ReplicaFilesModel" "came" "I",
  .methodLink RX11 269 yX11_makeRoom,
  .instanceMethod yX11_makeRoom,
  .selects RX11 yX11_makeRoom yX11_makeRoom,
  .methodLink RX11 275 yX11_isSame,
  .instanceMethod yX11_isSame,
  .selects RX11 yX11_isSame yX11_isSame,
  .methodLink RX11 243 yX11_use,
  .instanceMethod yX11_use,
  .selects RX11 yX11_use yX11_use,
  .code yX11_bring cX11_bring 10 none,
  .constantLong RX11 241 (-2199023255553),
  .constantLong RX11 252 (-2199023255554),
  .constantLong RX11 257 (-2199023255555),
  .constantLong RX11 259 (-2199023255556),
  .methodLink RX11 238 yX11_isAlone,
  .instanceMethod yX11_isAlone,
  .selects RX11 yX11_isAlone yX11_isAlone,
  .methodLink RX11 246 yX11_takeKept,
  .instanceMethod yX11_takeKept,
  .selects RX11 yX11_takeKept yX11_takeKept,
  .methodLink RX11 249 yX11_isGood,
  .instanceMethod yX11_isGood,
  .selects RX11 yX11_isGood yX11_isGood,
  .methodLink RX11 254 yX11_greatest,
  .instanceMethod yX11_greatest,
  .selects RX11 yX11_greatest yX11_greatest,
  .methodLink RX11 261 yX11_bring,
  .instanceMethod yX11_bring,
  .selects RX11 yX11_bring yX11_bring,
  .code yX11_get cX11_get 8 (some .long),
  .methodLink RX11 278 yX11_kindOf,
  .instanceMethod yX11_kindOf,
  .selects RX11 yX11_kindOf yX11_kindOf,
  .methodLink RX11 282 yX11_get,
  .instanceMethod yX11_get,
  .selects RX11 yX11_get yX11_get,
  .code yX11_find cX11_find 9 (some .long),
  .code yX11_read cX11_read 7 (some .long),
  .code yX11_setOf cX11_setOf 7 (some .int),
  .code yX11_phases cX11_phases 3 none,
  .fieldLink RX11 286 "ReplicaFilesModel" "setLost" "I",
  .fieldLink RX11 289 "ReplicaFilesModel" "set" "I",
  .fieldLink RX11 295 "ReplicaFilesModel" "lostPhases" "I",
  .methodLink RX11 292 yX11_mark,
  .instanceMethod yX11_mark,
  .selects RX11 yX11_mark yX11_mark,
  .methodLink RX11 298 yX11_count,
  .instanceMethod yX11_count,
  .selects RX11 yX11_count yX11_count,
  .code yX11_endPromises cX11_endPromises 5 none,
  .code yX11_putValue cX11_putValue 5 none,
  .fieldLink RX11 302 "ReplicaFilesModel" "acts" "I",
  .methodLink RX11 305 yX11_phases,
  .instanceMethod yX11_phases,
  .selects RX11 yX11_phases yX11_phases,
  .methodLink RX11 309 yX11_newCopy,
  .instanceMethod yX11_newCopy,
  .selects RX11 yX11_newCopy yX11_newCopy,
  .code yX11_putEntry cX11_putEntry 4 none,
  .methodLink RX11 312 yX11_drop,
  .instanceMethod yX11_drop,
  .selects RX11 yX11_drop yX11_drop,
  .code yX11_putGone cX11_putGone 7 none,
  .code yX11_follow cX11_follow 4 none,
  .methodLink RX11 315 yX11_endPromises,
  .instanceMethod yX11_endPromises,
  .selects RX11 yX11_endPromises yX11_endPromises,
  .code yX11_recordOf cX11_recordOf 5 (some .int),
  .code yX11_addRecord cX11_addRecord 6 none,
  .constantLong RX11 336 (-2199023255557),
  .constantLong RX11 362 (-2199023255558),
  .methodLink RX11 358 yX11_recordOf,
  .instanceMethod yX11_recordOf,
  .selects RX11 yX11_recordOf yX11_recordOf,
  .methodLink RX11 364 yX11_addRecord,
  .instanceMethod yX11_addRecord,
  .selects RX11 yX11_addRecord yX11_addRecord,
  .code yX11_writeAlone cX11_writeAlone 9 (some .long),
  .methodLink RX11 319 yX11_writeAlone,
  .instanceMethod yX11_writeAlone,
  .selects RX11 yX11_writeAlone yX11_writeAlone,
  .methodLink RX11 323 yX11_setOf,
  .instanceMethod yX11_setOf,
  .selects RX11 yX11_setOf yX11_setOf,
  .methodLink RX11 327 yX11_putValue,
  .instanceMethod yX11_putValue,
  .selects RX11 yX11_putValue yX11_putValue,
  .methodLink RX11 330 yX11_follow,
  .instanceMethod yX11_follow,
  .selects RX11 yX11_follow yX11_follow,
  .methodLink RX11 333 yX11_manyOf,
  .static yX11_manyOf,
  .code yX11_write cX11_write 10 (some .long),
  .code yX11_newObject cX11_newObject 5 (some .int),
  .code yX11_keepNew cX11_keepNew 4 none,
  .methodLink RX11 342 yX11_newObject,
  .instanceMethod yX11_newObject,
  .selects RX11 yX11_newObject yX11_newObject,
  .methodLink RX11 349 yX11_keepNew,
  .instanceMethod yX11_keepNew,
  .selects RX11 yX11_keepNew yX11_keepNew,
  .code yX11_makeAlone cX11_makeAlone 6 (some .long),
  .methodLink RX11 338 yX11_makeAlone,
  .instanceMethod yX11_makeAlone,
  .selects RX11 yX11_makeAlone yX11_makeAlone,
  .methodLink RX11 346 yX11_putEntry,
  .instanceMethod yX11_putEntry,
  .selects RX11 yX11_putEntry yX11_putEntry,
  .code yX11_make cX11_make 11 (some .long),
  .code yX11_takeOut cX11_takeOut 5 none,
  .methodLink RX11 368 yX11_takeOut,
  .instanceMethod yX11_takeOut,
  .selects RX11 yX11_takeOut yX11_takeOut,
  .code yX11_removeAlone cX11_removeAlone 7 (some .long),
  .methodLink RX11 352 yX11_removeAlone,
  .instanceMethod yX11_removeAlone,
  .selects RX11 yX11_removeAlone yX11_removeAlone,
  .methodLink RX11 355 yX11_putGone,
  .instanceMethod yX11_putGone,
  .selects RX11 yX11_putGone yX11_putGone,
  .code yX11_remove cX11_remove 10 (some .long),
  .fieldLink RX11 385 "ReplicaFilesModel" "lost" "I",
  .methodLink RX11 388 yX11_raise,
  .instanceMethod yX11_raise,
  .selects RX11 yX11_raise yX11_raise,
  .code yX11_handWrite cX11_handWrite 10 none,
  .code yX11_handMake cX11_handMake 6 none,
  .fieldLink RX11 391 "ReplicaFilesModel" "refused" "I",
  .code yX11_handRemove cX11_handRemove 9 none,
  .constantLong RX11 371 (-2199023255560),
  .methodLink RX11 373 yX11_leastOf,
  .static yX11_leastOf,
  .methodLink RX11 376 yX11_handWrite,
  .instanceMethod yX11_handWrite,
  .selects RX11 yX11_handWrite yX11_handWrite,
  .methodLink RX11 379 yX11_handMake,
  .instanceMethod yX11_handMake,
  .selects RX11 yX11_handMake yX11_handMake,
  .methodLink RX11 382 yX11_handRemove,
  .instanceMethod yX11_handRemove,
  .selects RX11 yX11_handRemove yX11_handRemove,
  .code yX11_handIn cX11_handIn 8 (some .long),
  .code yX11_walk cX11_walk 6 (some .long),
  .code yX11_isOf cX11_isOf 2 (some .boolean),
  .fieldLink RX11 394 "ReplicaFilesModel" "group" "I",
  .fieldLink RX11 400 "ReplicaFilesModel" "changes" "I",
  .methodLink RX11 406 yX11_isOf,
  .instanceMethod yX11_isOf,
  .selects RX11 yX11_isOf yX11_isOf,
  .code yX11_sweep cX11_sweep 3 none,
  .code yX11_standing cX11_standing 3 (some .int),
  .code yX11_someHas cX11_someHas 4 (some .boolean),
  .code yX11_areAtMost cX11_areAtMost 6 (some .boolean),
  .code yX11_childrenCanGo cX11_childrenCanGo 4 (some .boolean),
  .methodLink RX11 430 yX11_areAtMost,
  .instanceMethod yX11_areAtMost,
  .selects RX11 yX11_areAtMost yX11_areAtMost,
  .methodLink RX11 433 yX11_childrenCanGo,
  .instanceMethod yX11_childrenCanGo,
  .selects RX11 yX11_childrenCanGo yX11_childrenCanGo,
  .code yX11_foresee cX11_foresee 6 none,
  .code yX11_again cX11_again 4 none,
  .code yX11_isLike cX11_isLike 10 (some .boolean),
  .code yX11_mergeEntry cX11_mergeEntry 6 none,
  .methodLink RX11 436 yX11_isLike,
  .instanceMethod yX11_isLike,
  .selects RX11 yX11_isLike yX11_isLike,
  .methodLink RX11 439 yX11_mergeEntry,
  .instanceMethod yX11_mergeEntry,
  .selects RX11 yX11_mergeEntry yX11_mergeEntry,
  .code yX11_mergeDirectory cX11_mergeDirectory 5 none,
  .code yX11_addCandidate cX11_addCandidate 6 none,
  .fieldLink RX11 442 "ReplicaFilesModel" "candidates" "I",
  .methodLink RX11 445 yX11_addCandidate,
  .instanceMethod yX11_addCandidate,
  .selects RX11 yX11_addCandidate yX11_addCandidate,
  .code yX11_gather cX11_gather 5 none,
  .code yX11_mergeOne cX11_mergeOne 5 none,
  .code yX11_areVersions cX11_areVersions 8 (some .boolean),
  .code yX11_mergeMany cX11_mergeMany 6 none,
  .methodLink RX11 449 yX11_gather,
  .instanceMethod yX11_gather,
  .selects RX11 yX11_gather yX11_gather,
  .methodLink RX11 452 yX11_mergeOne,
  .instanceMethod yX11_mergeOne,
  .selects RX11 yX11_mergeOne yX11_mergeOne,
  .methodLink RX11 455 yX11_areVersions,
  .instanceMethod yX11_areVersions,
  .selects RX11 yX11_areVersions yX11_areVersions,
  .methodLink RX11 458 yX11_mergeMany,
  .instanceMethod yX11_mergeMany,
  .selects RX11 yX11_mergeMany yX11_mergeMany,
  .code yX11_mergeFile cX11_mergeFile 2 none,
  .methodLink RX11 409 yX11_sweep,
  .instanceMethod yX11_sweep,
  .selects RX11 yX11_sweep yX11_sweep,
  .methodLink RX11 412 yX11_standing,
  .instanceMethod yX11_standing,
  .selects RX11 yX11_standing yX11_standing,
  .methodLink RX11 415 yX11_someHas,
  .instanceMethod yX11_someHas,
  .selects RX11 yX11_someHas yX11_someHas,
  .methodLink RX11 418 yX11_foresee,
  .instanceMethod yX11_foresee,
  .selects RX11 yX11_foresee yX11_foresee,
  .methodLink RX11 421 yX11_again,
  .instanceMethod yX11_again,
  .selects RX11 yX11_again yX11_again,
  .methodLink RX11 424 yX11_mergeDirectory,
  .instanceMethod yX11_mergeDirectory,
  .selects RX11 yX11_mergeDirectory yX11_mergeDirectory,
  .methodLink RX11 427 yX11_mergeFile,
  .instanceMethod yX11_mergeFile,
  .selects RX11 yX11_mergeFile yX11_mergeFile,
  .code yX11_meetAt cX11_meetAt 3 none,
  .fieldLink RX11 397 "ReplicaFilesModel" "groupMany" "I",
  .methodLink RX11 403 yX11_meetAt,
  .instanceMethod yX11_meetAt,
  .selects RX11 yX11_meetAt yX11_meetAt,
  .code yX11_meet cX11_meet 3 (some .long),
  .code yX11_repair cX11_repair 13 (some .long),
  .code yX11_copy cX11_copy 8 (some .long),
  .code yX11_vector cX11_vector 6 (some .long),
  .code yX11_version cX11_version 6 (some .long),
  .code yX11_entry cX11_entry 7 (some .long),
  .code yX11_keptThere cX11_keptThere 5 (some .int),
  .methodLink RX11 461 yX11_keptThere,
  .instanceMethod yX11_keptThere,
  .selects RX11 yX11_keptThere yX11_keptThere,
  .code yX11_cached cX11_cached 5 (some .long),
  .code yX11_record cX11_record 5 (some .long),
  .code yX11_isAlike cX11_isAlike 10 (some .boolean),
  .methodLink RX11 464 yX11_isAlike,
  .instanceMethod yX11_isAlike,
  .selects RX11 yX11_isAlike yX11_isAlike,
  .code yX11_areAlike cX11_areAlike 5 (some .boolean),
  .methodLink RX11 467 yX11_areAlike,
  .instanceMethod yX11_areAlike,
  .selects RX11 yX11_areAlike yX11_areAlike,
  .code yX11_told cX11_told 2 (some .int)]
def mBig : List Cond := mBig0 ++ wsX110
set_option maxRecDepth 100000 in
theorem mBig_all : mBig.all goodWord = true := by decide +kernel
theorem mBig_ok : ∀ w ∈ mBig, (w.onTables && w.keeps) = true ∨ ∃ ty, w = .arrayClass ty := fun w h => good_of_word (List.all_eq_true.mp mBig_all w h)
theorem mB {w : Cond} (k : Nat) (h : mBig0[k]? = some w) : w ∈ mBig := List.mem_append_left _ (List.mem_of_getElem? h)
theorem mBc {a w : Cond} (k : Nat) (h : mBig0[k]? = some w) : w ∈ a :: mBig := List.mem_cons_of_mem _ (mB k h)
theorem mG {a b : Cond} (hb : b ∈ mBig) : GoodIn (a :: mBig) (b :: mBig) := fun w hw => (List.mem_cons.mp hw).elim (fun e => e ▸ ⟨List.mem_cons_of_mem _ hb, mBig_ok b hb⟩) (fun h => ⟨List.mem_cons_of_mem _ h, mBig_ok w h⟩)
theorem mGV {a b : Cond} {own C : String} {idx : Nat} {y : MethodName} (h1 : Cond.methodLink own idx y ∈ mBig) (h2 : Cond.instanceMethod y ∈ mBig) (h3 : Cond.selects C y y ∈ mBig) (h4 : Cond.initialized C ∈ mBig) (hb : b ∈ mBig) : GoodIn (a :: mBig) (wsV own idx C y (b :: mBig)) := by
  intro w hw
  have hm : w ∈ mBig := by
    unfold wsV at hw
    simp only [List.mem_append, List.mem_cons, List.not_mem_nil, or_false] at hw
    rcases hw with (rfl | rfl | rfl | rfl) | rfl | h
    · exact h1
    · exact h2
    · exact h3
    · exact h4
    · exact hb
    · exact h
  exact ⟨List.mem_cons_of_mem _ hm, mBig_ok w hm⟩
theorem mGS {a b : Cond} {own : String} {idx : Nat} {y : MethodName} (h1 : Cond.methodLink own idx y ∈ mBig) (h2 : Cond.static y ∈ mBig) (h4 : Cond.initialized y.cls ∈ mBig) (hb : b ∈ mBig) : GoodIn (a :: mBig) (va_wsS own idx y (b :: mBig)) := by
  intro w hw
  have hm : w ∈ mBig := by
    unfold va_wsS at hw
    simp only [List.mem_append, List.mem_cons, List.not_mem_nil, or_false] at hw
    rcases hw with (rfl | rfl | rfl) | rfl | h
    · exact h1
    · exact h2
    · exact h4
    · exact hb
    · exact h
  exact ⟨List.mem_cons_of_mem _ hm, mBig_ok w hm⟩
theorem m_in {a : Cond} : ∀ w ∈ wsX110, w ∈ a :: mBig := fun w h => List.mem_cons_of_mem _ (List.mem_append_right _ h)
section MR
variable {p : Program} {l : Launch} {e : Env} {R : Room} {s : State} {m : MethodId} {args : Array Value} {below : List Frame} {meth : Method} {c : Code} {H : Heap} {locs : List Loc} {cells slots : Nat} {Q : State → Prop}
variable {cc : ByteArray} {pc nL index : Nat} {ls : Array Slot} {rest : List Value} {Ts : List Cond} {D : va_G} {dA : Nat → ClassId} {A : gI → Nat} {reg : Nat → Prop} {H0 : Heap} {M : gM}
theorem mr_servers (S : CallFix p m c cc nL s args Ts RX11) (X : gX D vwCl dA mLive A reg s) (Z : gZ D mLay dA mLive A reg H0 M H locs) (hin : ∀ w ∈ wsX110, w ∈ Ts) (hl : (Cond.fieldLink RX11 index "ReplicaFilesModel" "servers" "I").before args s = true) (hdg : decode cc pc = .ok (.getfield index, 3)) {β : Type} {kq : Int32 → Option β} {y : β} (h : lt (M m_o 0) kq = some y) (kk : ∀ v : Int32, kq v = some y → W p l e R s m args below meth c H locs cells slots Q (F0 m (pc + 3) ls (.int v :: rest))) : W p l e R s m args below meth c H locs cells slots Q (F0 m pc ls (.ref (A m_o) :: rest)) := g_gi (C := RX11) (T := TX11) S X Z hin rfl mlv_o rfl 0 (by decide) ⟨rfl, rfl, rfl⟩ rfl hl hdg (kk _ h)
theorem mp_servers (S : CallFix p m c cc nL s args Ts RX11) (X : gX D vwCl dA mLive A reg s) (Z : gZ D mLay dA mLive A reg H0 M H locs) (hin : ∀ w ∈ wsX110, w ∈ Ts) (hl : (Cond.fieldLink RX11 index "ReplicaFilesModel" "servers" "I").before args s = true) (hdg : decode cc pc = .ok (.putfield index, 3)) {x : Int32} {β : Type} {kq : gM → Option β} {y : β} (h : lt (gset M m_o 0 x) kq = some y) (kk : ∀ (M1 : gM) (H1 : Heap) (locs1 : List Loc), gZ D mLay dA mLive A reg H0 M1 H1 locs1 → kq M1 = some y → W p l e R s m args below meth c H1 locs1 cells slots Q (F0 m (pc + 3) ls rest)) : W p l e R s m args below meth c H locs cells slots Q (F0 m pc ls (.int x :: .ref (A m_o) :: rest)) := g_pi (C := RX11) (T := TX11) (ty := .int) S X Z hin rfl tyX11 tyX11_ok nmX11 mlv_o rfl 0 (by decide) ⟨rfl, rfl, rfl, rfl⟩ rfl hl (by decide) rfl rfl hdg h kk
theorem mr_counts (S : CallFix p m c cc nL s args Ts RX11) (X : gX D vwCl dA mLive A reg s) (Z : gZ D mLay dA mLive A reg H0 M H locs) (hin : ∀ w ∈ wsX110, w ∈ Ts) (hl : (Cond.fieldLink RX11 index "ReplicaFilesModel" "counts" "I").before args s = true) (hdg : decode cc pc = .ok (.getfield index, 3)) {β : Type} {kq : Int32 → Option β} {y : β} (h : lt (M m_o 1) kq = some y) (kk : ∀ v : Int32, kq v = some y → W p l e R s m args below meth c H locs cells slots Q (F0 m (pc + 3) ls (.int v :: rest))) : W p l e R s m args below meth c H locs cells slots Q (F0 m pc ls (.ref (A m_o) :: rest)) := g_gi (C := RX11) (T := TX11) S X Z hin rfl mlv_o rfl 1 (by decide) ⟨rfl, rfl, rfl⟩ rfl hl hdg (kk _ h)
theorem mp_counts (S : CallFix p m c cc nL s args Ts RX11) (X : gX D vwCl dA mLive A reg s) (Z : gZ D mLay dA mLive A reg H0 M H locs) (hin : ∀ w ∈ wsX110, w ∈ Ts) (hl : (Cond.fieldLink RX11 index "ReplicaFilesModel" "counts" "I").before args s = true) (hdg : decode cc pc = .ok (.putfield index, 3)) {x : Int32} {β : Type} {kq : gM → Option β} {y : β} (h : lt (gset M m_o 1 x) kq = some y) (kk : ∀ (M1 : gM) (H1 : Heap) (locs1 : List Loc), gZ D mLay dA mLive A reg H0 M1 H1 locs1 → kq M1 = some y → W p l e R s m args below meth c H1 locs1 cells slots Q (F0 m (pc + 3) ls rest)) : W p l e R s m args below meth c H locs cells slots Q (F0 m pc ls (.int x :: .ref (A m_o) :: rest)) := g_pi (C := RX11) (T := TX11) (ty := .int) S X Z hin rfl tyX11 tyX11_ok nmX11 mlv_o rfl 1 (by decide) ⟨rfl, rfl, rfl, rfl⟩ rfl hl (by decide) rfl rfl hdg h kk
theorem mr_up (S : CallFix p m c cc nL s args Ts RX11) (X : gX D vwCl dA mLive A reg s) (Z : gZ D mLay dA mLive A reg H0 M H locs) (hin : ∀ w ∈ wsX110, w ∈ Ts) (hl : (Cond.fieldLink RX11 index "ReplicaFilesModel" "up" "[Z").before args s = true) (hdg : decode cc pc = .ok (.getfield index, 3)) (kk : W p l e R s m args below meth c H locs cells slots Q (F0 m (pc + 3) ls (.ref (A m_up) :: rest))) : W p l e R s m args below meth c H locs cells slots Q (F0 m pc ls (.ref (A m_o) :: rest)) := g_gr (C := RX11) (T := TX11) S X Z hin rfl mlv_o rfl 2 (by decide) ⟨rfl, rfl, rfl⟩ rfl hl hdg kk
theorem mr_linked (S : CallFix p m c cc nL s args Ts RX11) (X : gX D vwCl dA mLive A reg s) (Z : gZ D mLay dA mLive A reg H0 M H locs) (hin : ∀ w ∈ wsX110, w ∈ Ts) (hl : (Cond.fieldLink RX11 index "ReplicaFilesModel" "linked" "[Z").before args s = true) (hdg : decode cc pc = .ok (.getfield index, 3)) (kk : W p l e R s m args below meth c H locs cells slots Q (F0 m (pc + 3) ls (.ref (A m_linked) :: rest))) : W p l e R s m args below meth c H locs cells slots Q (F0 m pc ls (.ref (A m_o) :: rest)) := g_gr (C := RX11) (T := TX11) S X Z hin rfl mlv_o rfl 3 (by decide) ⟨rfl, rfl, rfl⟩ rfl hl hdg kk
theorem mr_reaches (S : CallFix p m c cc nL s args Ts RX11) (X : gX D vwCl dA mLive A reg s) (Z : gZ D mLay dA mLive A reg H0 M H locs) (hin : ∀ w ∈ wsX110, w ∈ Ts) (hl : (Cond.fieldLink RX11 index "ReplicaFilesModel" "reaches" "[Z").before args s = true) (hdg : decode cc pc = .ok (.getfield index, 3)) (kk : W p l e R s m args below meth c H locs cells slots Q (F0 m (pc + 3) ls (.ref (A m_reaches) :: rest))) : W p l e R s m args below meth c H locs cells slots Q (F0 m pc ls (.ref (A m_o) :: rest)) := g_gr (C := RX11) (T := TX11) S X Z hin rfl mlv_o rfl 4 (by decide) ⟨rfl, rfl, rfl⟩ rfl hl hdg kk
theorem mr_loses (S : CallFix p m c cc nL s args Ts RX11) (X : gX D vwCl dA mLive A reg s) (Z : gZ D mLay dA mLive A reg H0 M H locs) (hin : ∀ w ∈ wsX110, w ∈ Ts) (hl : (Cond.fieldLink RX11 index "ReplicaFilesModel" "loses" "[Z").before args s = true) (hdg : decode cc pc = .ok (.getfield index, 3)) (kk : W p l e R s m args below meth c H locs cells slots Q (F0 m (pc + 3) ls (.ref (A m_loses) :: rest))) : W p l e R s m args below meth c H locs cells slots Q (F0 m pc ls (.ref (A m_o) :: rest)) := g_gr (C := RX11) (T := TX11) S X Z hin rfl mlv_o rfl 5 (by decide) ⟨rfl, rfl, rfl⟩ rfl hl hdg kk
theorem mr_made (S : CallFix p m c cc nL s args Ts RX11) (X : gX D vwCl dA mLive A reg s) (Z : gZ D mLay dA mLive A reg H0 M H locs) (hin : ∀ w ∈ wsX110, w ∈ Ts) (hl : (Cond.fieldLink RX11 index "ReplicaFilesModel" "made" "I").before args s = true) (hdg : decode cc pc = .ok (.getfield index, 3)) {β : Type} {kq : Int32 → Option β} {y : β} (h : lt (M m_o 6) kq = some y) (kk : ∀ v : Int32, kq v = some y → W p l e R s m args below meth c H locs cells slots Q (F0 m (pc + 3) ls (.int v :: rest))) : W p l e R s m args below meth c H locs cells slots Q (F0 m pc ls (.ref (A m_o) :: rest)) := g_gi (C := RX11) (T := TX11) S X Z hin rfl mlv_o rfl 6 (by decide) ⟨rfl, rfl, rfl⟩ rfl hl hdg (kk _ h)
theorem mp_made (S : CallFix p m c cc nL s args Ts RX11) (X : gX D vwCl dA mLive A reg s) (Z : gZ D mLay dA mLive A reg H0 M H locs) (hin : ∀ w ∈ wsX110, w ∈ Ts) (hl : (Cond.fieldLink RX11 index "ReplicaFilesModel" "made" "I").before args s = true) (hdg : decode cc pc = .ok (.putfield index, 3)) {x : Int32} {β : Type} {kq : gM → Option β} {y : β} (h : lt (gset M m_o 6 x) kq = some y) (kk : ∀ (M1 : gM) (H1 : Heap) (locs1 : List Loc), gZ D mLay dA mLive A reg H0 M1 H1 locs1 → kq M1 = some y → W p l e R s m args below meth c H1 locs1 cells slots Q (F0 m (pc + 3) ls rest)) : W p l e R s m args below meth c H locs cells slots Q (F0 m pc ls (.int x :: .ref (A m_o) :: rest)) := g_pi (C := RX11) (T := TX11) (ty := .int) S X Z hin rfl tyX11 tyX11_ok nmX11 mlv_o rfl 6 (by decide) ⟨rfl, rfl, rfl, rfl⟩ rfl hl (by decide) rfl rfl hdg h kk
theorem mr_parent (S : CallFix p m c cc nL s args Ts RX11) (X : gX D vwCl dA mLive A reg s) (Z : gZ D mLay dA mLive A reg H0 M H locs) (hin : ∀ w ∈ wsX110, w ∈ Ts) (hl : (Cond.fieldLink RX11 index "ReplicaFilesModel" "parent" "[I").before args s = true) (hdg : decode cc pc = .ok (.getfield index, 3)) (kk : W p l e R s m args below meth c H locs cells slots Q (F0 m (pc + 3) ls (.ref (A m_parent) :: rest))) : W p l e R s m args below meth c H locs cells slots Q (F0 m pc ls (.ref (A m_o) :: rest)) := g_gr (C := RX11) (T := TX11) S X Z hin rfl mlv_o rfl 7 (by decide) ⟨rfl, rfl, rfl⟩ rfl hl hdg kk
theorem mr_name (S : CallFix p m c cc nL s args Ts RX11) (X : gX D vwCl dA mLive A reg s) (Z : gZ D mLay dA mLive A reg H0 M H locs) (hin : ∀ w ∈ wsX110, w ∈ Ts) (hl : (Cond.fieldLink RX11 index "ReplicaFilesModel" "name" "[I").before args s = true) (hdg : decode cc pc = .ok (.getfield index, 3)) (kk : W p l e R s m args below meth c H locs cells slots Q (F0 m (pc + 3) ls (.ref (A m_name) :: rest))) : W p l e R s m args below meth c H locs cells slots Q (F0 m pc ls (.ref (A m_o) :: rest)) := g_gr (C := RX11) (T := TX11) S X Z hin rfl mlv_o rfl 8 (by decide) ⟨rfl, rfl, rfl⟩ rfl hl hdg kk
theorem mr_isDirectory (S : CallFix p m c cc nL s args Ts RX11) (X : gX D vwCl dA mLive A reg s) (Z : gZ D mLay dA mLive A reg H0 M H locs) (hin : ∀ w ∈ wsX110, w ∈ Ts) (hl : (Cond.fieldLink RX11 index "ReplicaFilesModel" "isDirectory" "[Z").before args s = true) (hdg : decode cc pc = .ok (.getfield index, 3)) (kk : W p l e R s m args below meth c H locs cells slots Q (F0 m (pc + 3) ls (.ref (A m_isDirectory) :: rest))) : W p l e R s m args below meth c H locs cells slots Q (F0 m pc ls (.ref (A m_o) :: rest)) := g_gr (C := RX11) (T := TX11) S X Z hin rfl mlv_o rfl 9 (by decide) ⟨rfl, rfl, rfl⟩ rfl hl hdg kk
theorem mr_has (S : CallFix p m c cc nL s args Ts RX11) (X : gX D vwCl dA mLive A reg s) (Z : gZ D mLay dA mLive A reg H0 M H locs) (hin : ∀ w ∈ wsX110, w ∈ Ts) (hl : (Cond.fieldLink RX11 index "ReplicaFilesModel" "has" "[Z").before args s = true) (hdg : decode cc pc = .ok (.getfield index, 3)) (kk : W p l e R s m args below meth c H locs cells slots Q (F0 m (pc + 3) ls (.ref (A m_has) :: rest))) : W p l e R s m args below meth c H locs cells slots Q (F0 m pc ls (.ref (A m_o) :: rest)) := g_gr (C := RX11) (T := TX11) S X Z hin rfl mlv_o rfl 10 (by decide) ⟨rfl, rfl, rfl⟩ rfl hl hdg kk
theorem mr_value (S : CallFix p m c cc nL s args Ts RX11) (X : gX D vwCl dA mLive A reg s) (Z : gZ D mLay dA mLive A reg H0 M H locs) (hin : ∀ w ∈ wsX110, w ∈ Ts) (hl : (Cond.fieldLink RX11 index "ReplicaFilesModel" "value" "[I").before args s = true) (hdg : decode cc pc = .ok (.getfield index, 3)) (kk : W p l e R s m args below meth c H locs cells slots Q (F0 m (pc + 3) ls (.ref (A m_value) :: rest))) : W p l e R s m args below meth c H locs cells slots Q (F0 m pc ls (.ref (A m_o) :: rest)) := g_gr (C := RX11) (T := TX11) S X Z hin rfl mlv_o rfl 11 (by decide) ⟨rfl, rfl, rfl⟩ rfl hl hdg kk
theorem mr_size (S : CallFix p m c cc nL s args Ts RX11) (X : gX D vwCl dA mLive A reg s) (Z : gZ D mLay dA mLive A reg H0 M H locs) (hin : ∀ w ∈ wsX110, w ∈ Ts) (hl : (Cond.fieldLink RX11 index "ReplicaFilesModel" "size" "[I").before args s = true) (hdg : decode cc pc = .ok (.getfield index, 3)) (kk : W p l e R s m args below meth c H locs cells slots Q (F0 m (pc + 3) ls (.ref (A m_size) :: rest))) : W p l e R s m args below meth c H locs cells slots Q (F0 m pc ls (.ref (A m_o) :: rest)) := g_gr (C := RX11) (T := TX11) S X Z hin rfl mlv_o rfl 12 (by decide) ⟨rfl, rfl, rfl⟩ rfl hl hdg kk
theorem mr_vector (S : CallFix p m c cc nL s args Ts RX11) (X : gX D vwCl dA mLive A reg s) (Z : gZ D mLay dA mLive A reg H0 M H locs) (hin : ∀ w ∈ wsX110, w ∈ Ts) (hl : (Cond.fieldLink RX11 index "ReplicaFilesModel" "vector" "[I").before args s = true) (hdg : decode cc pc = .ok (.getfield index, 3)) (kk : W p l e R s m args below meth c H locs cells slots Q (F0 m (pc + 3) ls (.ref (A m_vector) :: rest))) : W p l e R s m args below meth c H locs cells slots Q (F0 m pc ls (.ref (A m_o) :: rest)) := g_gr (C := RX11) (T := TX11) S X Z hin rfl mlv_o rfl 13 (by decide) ⟨rfl, rfl, rfl⟩ rfl hl hdg kk
theorem mr_versions (S : CallFix p m c cc nL s args Ts RX11) (X : gX D vwCl dA mLive A reg s) (Z : gZ D mLay dA mLive A reg H0 M H locs) (hin : ∀ w ∈ wsX110, w ∈ Ts) (hl : (Cond.fieldLink RX11 index "ReplicaFilesModel" "versions" "[I").before args s = true) (hdg : decode cc pc = .ok (.getfield index, 3)) (kk : W p l e R s m args below meth c H locs cells slots Q (F0 m (pc + 3) ls (.ref (A m_versions) :: rest))) : W p l e R s m args below meth c H locs cells slots Q (F0 m pc ls (.ref (A m_o) :: rest)) := g_gr (C := RX11) (T := TX11) S X Z hin rfl mlv_o rfl 14 (by decide) ⟨rfl, rfl, rfl⟩ rfl hl hdg kk
theorem mr_versionValue (S : CallFix p m c cc nL s args Ts RX11) (X : gX D vwCl dA mLive A reg s) (Z : gZ D mLay dA mLive A reg H0 M H locs) (hin : ∀ w ∈ wsX110, w ∈ Ts) (hl : (Cond.fieldLink RX11 index "ReplicaFilesModel" "versionValue" "[I").before args s = true) (hdg : decode cc pc = .ok (.getfield index, 3)) (kk : W p l e R s m args below meth c H locs cells slots Q (F0 m (pc + 3) ls (.ref (A m_versionValue) :: rest))) : W p l e R s m args below meth c H locs cells slots Q (F0 m pc ls (.ref (A m_o) :: rest)) := g_gr (C := RX11) (T := TX11) S X Z hin rfl mlv_o rfl 15 (by decide) ⟨rfl, rfl, rfl⟩ rfl hl hdg kk
theorem mr_versionSize (S : CallFix p m c cc nL s args Ts RX11) (X : gX D vwCl dA mLive A reg s) (Z : gZ D mLay dA mLive A reg H0 M H locs) (hin : ∀ w ∈ wsX110, w ∈ Ts) (hl : (Cond.fieldLink RX11 index "ReplicaFilesModel" "versionSize" "[I").before args s = true) (hdg : decode cc pc = .ok (.getfield index, 3)) (kk : W p l e R s m args below meth c H locs cells slots Q (F0 m (pc + 3) ls (.ref (A m_versionSize) :: rest))) : W p l e R s m args below meth c H locs cells slots Q (F0 m pc ls (.ref (A m_o) :: rest)) := g_gr (C := RX11) (T := TX11) S X Z hin rfl mlv_o rfl 16 (by decide) ⟨rfl, rfl, rfl⟩ rfl hl hdg kk
theorem mr_versionVector (S : CallFix p m c cc nL s args Ts RX11) (X : gX D vwCl dA mLive A reg s) (Z : gZ D mLay dA mLive A reg H0 M H locs) (hin : ∀ w ∈ wsX110, w ∈ Ts) (hl : (Cond.fieldLink RX11 index "ReplicaFilesModel" "versionVector" "[I").before args s = true) (hdg : decode cc pc = .ok (.getfield index, 3)) (kk : W p l e R s m args below meth c H locs cells slots Q (F0 m (pc + 3) ls (.ref (A m_versionVector) :: rest))) : W p l e R s m args below meth c H locs cells slots Q (F0 m pc ls (.ref (A m_o) :: rest)) := g_gr (C := RX11) (T := TX11) S X Z hin rfl mlv_o rfl 17 (by decide) ⟨rfl, rfl, rfl⟩ rfl hl hdg kk
theorem mr_entry (S : CallFix p m c cc nL s args Ts RX11) (X : gX D vwCl dA mLive A reg s) (Z : gZ D mLay dA mLive A reg H0 M H locs) (hin : ∀ w ∈ wsX110, w ∈ Ts) (hl : (Cond.fieldLink RX11 index "ReplicaFilesModel" "entry" "[I").before args s = true) (hdg : decode cc pc = .ok (.getfield index, 3)) (kk : W p l e R s m args below meth c H locs cells slots Q (F0 m (pc + 3) ls (.ref (A m_entry) :: rest))) : W p l e R s m args below meth c H locs cells slots Q (F0 m pc ls (.ref (A m_o) :: rest)) := g_gr (C := RX11) (T := TX11) S X Z hin rfl mlv_o rfl 18 (by decide) ⟨rfl, rfl, rfl⟩ rfl hl hdg kk
theorem mr_gone (S : CallFix p m c cc nL s args Ts RX11) (X : gX D vwCl dA mLive A reg s) (Z : gZ D mLay dA mLive A reg H0 M H locs) (hin : ∀ w ∈ wsX110, w ∈ Ts) (hl : (Cond.fieldLink RX11 index "ReplicaFilesModel" "gone" "[I").before args s = true) (hdg : decode cc pc = .ok (.getfield index, 3)) (kk : W p l e R s m args below meth c H locs cells slots Q (F0 m (pc + 3) ls (.ref (A m_gone) :: rest))) : W p l e R s m args below meth c H locs cells slots Q (F0 m pc ls (.ref (A m_o) :: rest)) := g_gr (C := RX11) (T := TX11) S X Z hin rfl mlv_o rfl 19 (by decide) ⟨rfl, rfl, rfl⟩ rfl hl hdg kk
theorem mr_marks (S : CallFix p m c cc nL s args Ts RX11) (X : gX D vwCl dA mLive A reg s) (Z : gZ D mLay dA mLive A reg H0 M H locs) (hin : ∀ w ∈ wsX110, w ∈ Ts) (hl : (Cond.fieldLink RX11 index "ReplicaFilesModel" "marks" "[I").before args s = true) (hdg : decode cc pc = .ok (.getfield index, 3)) (kk : W p l e R s m args below meth c H locs cells slots Q (F0 m (pc + 3) ls (.ref (A m_marks) :: rest))) : W p l e R s m args below meth c H locs cells slots Q (F0 m pc ls (.ref (A m_o) :: rest)) := g_gr (C := RX11) (T := TX11) S X Z hin rfl mlv_o rfl 20 (by decide) ⟨rfl, rfl, rfl⟩ rfl hl hdg kk
theorem mr_kept (S : CallFix p m c cc nL s args Ts RX11) (X : gX D vwCl dA mLive A reg s) (Z : gZ D mLay dA mLive A reg H0 M H locs) (hin : ∀ w ∈ wsX110, w ∈ Ts) (hl : (Cond.fieldLink RX11 index "ReplicaFilesModel" "kept" "[Z").before args s = true) (hdg : decode cc pc = .ok (.getfield index, 3)) (kk : W p l e R s m args below meth c H locs cells slots Q (F0 m (pc + 3) ls (.ref (A m_kept) :: rest))) : W p l e R s m args below meth c H locs cells slots Q (F0 m pc ls (.ref (A m_o) :: rest)) := g_gr (C := RX11) (T := TX11) S X Z hin rfl mlv_o rfl 21 (by decide) ⟨rfl, rfl, rfl⟩ rfl hl hdg kk
theorem mr_keptValue (S : CallFix p m c cc nL s args Ts RX11) (X : gX D vwCl dA mLive A reg s) (Z : gZ D mLay dA mLive A reg H0 M H locs) (hin : ∀ w ∈ wsX110, w ∈ Ts) (hl : (Cond.fieldLink RX11 index "ReplicaFilesModel" "keptValue" "[I").before args s = true) (hdg : decode cc pc = .ok (.getfield index, 3)) (kk : W p l e R s m args below meth c H locs cells slots Q (F0 m (pc + 3) ls (.ref (A m_keptValue) :: rest))) : W p l e R s m args below meth c H locs cells slots Q (F0 m pc ls (.ref (A m_o) :: rest)) := g_gr (C := RX11) (T := TX11) S X Z hin rfl mlv_o rfl 22 (by decide) ⟨rfl, rfl, rfl⟩ rfl hl hdg kk
theorem mr_keptSize (S : CallFix p m c cc nL s args Ts RX11) (X : gX D vwCl dA mLive A reg s) (Z : gZ D mLay dA mLive A reg H0 M H locs) (hin : ∀ w ∈ wsX110, w ∈ Ts) (hl : (Cond.fieldLink RX11 index "ReplicaFilesModel" "keptSize" "[I").before args s = true) (hdg : decode cc pc = .ok (.getfield index, 3)) (kk : W p l e R s m args below meth c H locs cells slots Q (F0 m (pc + 3) ls (.ref (A m_keptSize) :: rest))) : W p l e R s m args below meth c H locs cells slots Q (F0 m pc ls (.ref (A m_o) :: rest)) := g_gr (C := RX11) (T := TX11) S X Z hin rfl mlv_o rfl 23 (by decide) ⟨rfl, rfl, rfl⟩ rfl hl hdg kk
theorem mr_keptVector (S : CallFix p m c cc nL s args Ts RX11) (X : gX D vwCl dA mLive A reg s) (Z : gZ D mLay dA mLive A reg H0 M H locs) (hin : ∀ w ∈ wsX110, w ∈ Ts) (hl : (Cond.fieldLink RX11 index "ReplicaFilesModel" "keptVector" "[I").before args s = true) (hdg : decode cc pc = .ok (.getfield index, 3)) (kk : W p l e R s m args below meth c H locs cells slots Q (F0 m (pc + 3) ls (.ref (A m_keptVector) :: rest))) : W p l e R s m args below meth c H locs cells slots Q (F0 m pc ls (.ref (A m_o) :: rest)) := g_gr (C := RX11) (T := TX11) S X Z hin rfl mlv_o rfl 24 (by decide) ⟨rfl, rfl, rfl⟩ rfl hl hdg kk
theorem mr_promised (S : CallFix p m c cc nL s args Ts RX11) (X : gX D vwCl dA mLive A reg s) (Z : gZ D mLay dA mLive A reg H0 M H locs) (hin : ∀ w ∈ wsX110, w ∈ Ts) (hl : (Cond.fieldLink RX11 index "ReplicaFilesModel" "promised" "[I").before args s = true) (hdg : decode cc pc = .ok (.getfield index, 3)) (kk : W p l e R s m args below meth c H locs cells slots Q (F0 m (pc + 3) ls (.ref (A m_promised) :: rest))) : W p l e R s m args below meth c H locs cells slots Q (F0 m pc ls (.ref (A m_o) :: rest)) := g_gr (C := RX11) (T := TX11) S X Z hin rfl mlv_o rfl 25 (by decide) ⟨rfl, rfl, rfl⟩ rfl hl hdg kk
theorem mr_dirty (S : CallFix p m c cc nL s args Ts RX11) (X : gX D vwCl dA mLive A reg s) (Z : gZ D mLay dA mLive A reg H0 M H locs) (hin : ∀ w ∈ wsX110, w ∈ Ts) (hl : (Cond.fieldLink RX11 index "ReplicaFilesModel" "dirty" "[Z").before args s = true) (hdg : decode cc pc = .ok (.getfield index, 3)) (kk : W p l e R s m args below meth c H locs cells slots Q (F0 m (pc + 3) ls (.ref (A m_dirty) :: rest))) : W p l e R s m args below meth c H locs cells slots Q (F0 m pc ls (.ref (A m_o) :: rest)) := g_gr (C := RX11) (T := TX11) S X Z hin rfl mlv_o rfl 26 (by decide) ⟨rfl, rfl, rfl⟩ rfl hl hdg kk
theorem mr_usedAt (S : CallFix p m c cc nL s args Ts RX11) (X : gX D vwCl dA mLive A reg s) (Z : gZ D mLay dA mLive A reg H0 M H locs) (hin : ∀ w ∈ wsX110, w ∈ Ts) (hl : (Cond.fieldLink RX11 index "ReplicaFilesModel" "usedAt" "[I").before args s = true) (hdg : decode cc pc = .ok (.getfield index, 3)) (kk : W p l e R s m args below meth c H locs cells slots Q (F0 m (pc + 3) ls (.ref (A m_usedAt) :: rest))) : W p l e R s m args below meth c H locs cells slots Q (F0 m pc ls (.ref (A m_o) :: rest)) := g_gr (C := RX11) (T := TX11) S X Z hin rfl mlv_o rfl 27 (by decide) ⟨rfl, rfl, rfl⟩ rfl hl hdg kk
theorem mr_usedBy (S : CallFix p m c cc nL s args Ts RX11) (X : gX D vwCl dA mLive A reg s) (Z : gZ D mLay dA mLive A reg H0 M H locs) (hin : ∀ w ∈ wsX110, w ∈ Ts) (hl : (Cond.fieldLink RX11 index "ReplicaFilesModel" "usedBy" "[I").before args s = true) (hdg : decode cc pc = .ok (.getfield index, 3)) (kk : W p l e R s m args below meth c H locs cells slots Q (F0 m (pc + 3) ls (.ref (A m_usedBy) :: rest))) : W p l e R s m args below meth c H locs cells slots Q (F0 m pc ls (.ref (A m_o) :: rest)) := g_gr (C := RX11) (T := TX11) S X Z hin rfl mlv_o rfl 28 (by decide) ⟨rfl, rfl, rfl⟩ rfl hl hdg kk
theorem mr_keptEntry (S : CallFix p m c cc nL s args Ts RX11) (X : gX D vwCl dA mLive A reg s) (Z : gZ D mLay dA mLive A reg H0 M H locs) (hin : ∀ w ∈ wsX110, w ∈ Ts) (hl : (Cond.fieldLink RX11 index "ReplicaFilesModel" "keptEntry" "[I").before args s = true) (hdg : decode cc pc = .ok (.getfield index, 3)) (kk : W p l e R s m args below meth c H locs cells slots Q (F0 m (pc + 3) ls (.ref (A m_keptEntry) :: rest))) : W p l e R s m args below meth c H locs cells slots Q (F0 m pc ls (.ref (A m_o) :: rest)) := g_gr (C := RX11) (T := TX11) S X Z hin rfl mlv_o rfl 29 (by decide) ⟨rfl, rfl, rfl⟩ rfl hl hdg kk
theorem mr_keptGone (S : CallFix p m c cc nL s args Ts RX11) (X : gX D vwCl dA mLive A reg s) (Z : gZ D mLay dA mLive A reg H0 M H locs) (hin : ∀ w ∈ wsX110, w ∈ Ts) (hl : (Cond.fieldLink RX11 index "ReplicaFilesModel" "keptGone" "[I").before args s = true) (hdg : decode cc pc = .ok (.getfield index, 3)) (kk : W p l e R s m args below meth c H locs cells slots Q (F0 m (pc + 3) ls (.ref (A m_keptGone) :: rest))) : W p l e R s m args below meth c H locs cells slots Q (F0 m pc ls (.ref (A m_o) :: rest)) := g_gr (C := RX11) (T := TX11) S X Z hin rfl mlv_o rfl 30 (by decide) ⟨rfl, rfl, rfl⟩ rfl hl hdg kk
theorem mr_priorities (S : CallFix p m c cc nL s args Ts RX11) (X : gX D vwCl dA mLive A reg s) (Z : gZ D mLay dA mLive A reg H0 M H locs) (hin : ∀ w ∈ wsX110, w ∈ Ts) (hl : (Cond.fieldLink RX11 index "ReplicaFilesModel" "priorities" "[I").before args s = true) (hdg : decode cc pc = .ok (.getfield index, 3)) (kk : W p l e R s m args below meth c H locs cells slots Q (F0 m (pc + 3) ls (.ref (A m_priorities) :: rest))) : W p l e R s m args below meth c H locs cells slots Q (F0 m pc ls (.ref (A m_o) :: rest)) := g_gr (C := RX11) (T := TX11) S X Z hin rfl mlv_o rfl 31 (by decide) ⟨rfl, rfl, rfl⟩ rfl hl hdg kk
theorem mr_clock (S : CallFix p m c cc nL s args Ts RX11) (X : gX D vwCl dA mLive A reg s) (Z : gZ D mLay dA mLive A reg H0 M H locs) (hin : ∀ w ∈ wsX110, w ∈ Ts) (hl : (Cond.fieldLink RX11 index "ReplicaFilesModel" "clock" "I").before args s = true) (hdg : decode cc pc = .ok (.getfield index, 3)) {β : Type} {kq : Int32 → Option β} {y : β} (h : lt (M m_o 32) kq = some y) (kk : ∀ v : Int32, kq v = some y → W p l e R s m args below meth c H locs cells slots Q (F0 m (pc + 3) ls (.int v :: rest))) : W p l e R s m args below meth c H locs cells slots Q (F0 m pc ls (.ref (A m_o) :: rest)) := g_gi (C := RX11) (T := TX11) S X Z hin rfl mlv_o rfl 32 (by decide) ⟨rfl, rfl, rfl⟩ rfl hl hdg (kk _ h)
theorem mp_clock (S : CallFix p m c cc nL s args Ts RX11) (X : gX D vwCl dA mLive A reg s) (Z : gZ D mLay dA mLive A reg H0 M H locs) (hin : ∀ w ∈ wsX110, w ∈ Ts) (hl : (Cond.fieldLink RX11 index "ReplicaFilesModel" "clock" "I").before args s = true) (hdg : decode cc pc = .ok (.putfield index, 3)) {x : Int32} {β : Type} {kq : gM → Option β} {y : β} (h : lt (gset M m_o 32 x) kq = some y) (kk : ∀ (M1 : gM) (H1 : Heap) (locs1 : List Loc), gZ D mLay dA mLive A reg H0 M1 H1 locs1 → kq M1 = some y → W p l e R s m args below meth c H1 locs1 cells slots Q (F0 m (pc + 3) ls rest)) : W p l e R s m args below meth c H locs cells slots Q (F0 m pc ls (.int x :: .ref (A m_o) :: rest)) := g_pi (C := RX11) (T := TX11) (ty := .int) S X Z hin rfl tyX11 tyX11_ok nmX11 mlv_o rfl 32 (by decide) ⟨rfl, rfl, rfl, rfl⟩ rfl hl (by decide) rfl rfl hdg h kk
theorem mr_call (S : CallFix p m c cc nL s args Ts RX11) (X : gX D vwCl dA mLive A reg s) (Z : gZ D mLay dA mLive A reg H0 M H locs) (hin : ∀ w ∈ wsX110, w ∈ Ts) (hl : (Cond.fieldLink RX11 index "ReplicaFilesModel" "call" "I").before args s = true) (hdg : decode cc pc = .ok (.getfield index, 3)) {β : Type} {kq : Int32 → Option β} {y : β} (h : lt (M m_o 33) kq = some y) (kk : ∀ v : Int32, kq v = some y → W p l e R s m args below meth c H locs cells slots Q (F0 m (pc + 3) ls (.int v :: rest))) : W p l e R s m args below meth c H locs cells slots Q (F0 m pc ls (.ref (A m_o) :: rest)) := g_gi (C := RX11) (T := TX11) S X Z hin rfl mlv_o rfl 33 (by decide) ⟨rfl, rfl, rfl⟩ rfl hl hdg (kk _ h)
theorem mp_call (S : CallFix p m c cc nL s args Ts RX11) (X : gX D vwCl dA mLive A reg s) (Z : gZ D mLay dA mLive A reg H0 M H locs) (hin : ∀ w ∈ wsX110, w ∈ Ts) (hl : (Cond.fieldLink RX11 index "ReplicaFilesModel" "call" "I").before args s = true) (hdg : decode cc pc = .ok (.putfield index, 3)) {x : Int32} {β : Type} {kq : gM → Option β} {y : β} (h : lt (gset M m_o 33 x) kq = some y) (kk : ∀ (M1 : gM) (H1 : Heap) (locs1 : List Loc), gZ D mLay dA mLive A reg H0 M1 H1 locs1 → kq M1 = some y → W p l e R s m args below meth c H1 locs1 cells slots Q (F0 m (pc + 3) ls rest)) : W p l e R s m args below meth c H locs cells slots Q (F0 m pc ls (.int x :: .ref (A m_o) :: rest)) := g_pi (C := RX11) (T := TX11) (ty := .int) S X Z hin rfl tyX11 tyX11_ok nmX11 mlv_o rfl 33 (by decide) ⟨rfl, rfl, rfl, rfl⟩ rfl hl (by decide) rfl rfl hdg h kk
theorem mr_records (S : CallFix p m c cc nL s args Ts RX11) (X : gX D vwCl dA mLive A reg s) (Z : gZ D mLay dA mLive A reg H0 M H locs) (hin : ∀ w ∈ wsX110, w ∈ Ts) (hl : (Cond.fieldLink RX11 index "ReplicaFilesModel" "records" "[I").before args s = true) (hdg : decode cc pc = .ok (.getfield index, 3)) (kk : W p l e R s m args below meth c H locs cells slots Q (F0 m (pc + 3) ls (.ref (A m_records) :: rest))) : W p l e R s m args below meth c H locs cells slots Q (F0 m pc ls (.ref (A m_o) :: rest)) := g_gr (C := RX11) (T := TX11) S X Z hin rfl mlv_o rfl 34 (by decide) ⟨rfl, rfl, rfl⟩ rfl hl hdg kk
theorem mr_recordKind (S : CallFix p m c cc nL s args Ts RX11) (X : gX D vwCl dA mLive A reg s) (Z : gZ D mLay dA mLive A reg H0 M H locs) (hin : ∀ w ∈ wsX110, w ∈ Ts) (hl : (Cond.fieldLink RX11 index "ReplicaFilesModel" "recordKind" "[I").before args s = true) (hdg : decode cc pc = .ok (.getfield index, 3)) (kk : W p l e R s m args below meth c H locs cells slots Q (F0 m (pc + 3) ls (.ref (A m_recordKind) :: rest))) : W p l e R s m args below meth c H locs cells slots Q (F0 m pc ls (.ref (A m_o) :: rest)) := g_gr (C := RX11) (T := TX11) S X Z hin rfl mlv_o rfl 35 (by decide) ⟨rfl, rfl, rfl⟩ rfl hl hdg kk
theorem mr_recordObject (S : CallFix p m c cc nL s args Ts RX11) (X : gX D vwCl dA mLive A reg s) (Z : gZ D mLay dA mLive A reg H0 M H locs) (hin : ∀ w ∈ wsX110, w ∈ Ts) (hl : (Cond.fieldLink RX11 index "ReplicaFilesModel" "recordObject" "[I").before args s = true) (hdg : decode cc pc = .ok (.getfield index, 3)) (kk : W p l e R s m args below meth c H locs cells slots Q (F0 m (pc + 3) ls (.ref (A m_recordObject) :: rest))) : W p l e R s m args below meth c H locs cells slots Q (F0 m pc ls (.ref (A m_o) :: rest)) := g_gr (C := RX11) (T := TX11) S X Z hin rfl mlv_o rfl 36 (by decide) ⟨rfl, rfl, rfl⟩ rfl hl hdg kk
theorem mr_recordDirectory (S : CallFix p m c cc nL s args Ts RX11) (X : gX D vwCl dA mLive A reg s) (Z : gZ D mLay dA mLive A reg H0 M H locs) (hin : ∀ w ∈ wsX110, w ∈ Ts) (hl : (Cond.fieldLink RX11 index "ReplicaFilesModel" "recordDirectory" "[I").before args s = true) (hdg : decode cc pc = .ok (.getfield index, 3)) (kk : W p l e R s m args below meth c H locs cells slots Q (F0 m (pc + 3) ls (.ref (A m_recordDirectory) :: rest))) : W p l e R s m args below meth c H locs cells slots Q (F0 m pc ls (.ref (A m_o) :: rest)) := g_gr (C := RX11) (T := TX11) S X Z hin rfl mlv_o rfl 37 (by decide) ⟨rfl, rfl, rfl⟩ rfl hl hdg kk
theorem mr_recordVector (S : CallFix p m c cc nL s args Ts RX11) (X : gX D vwCl dA mLive A reg s) (Z : gZ D mLay dA mLive A reg H0 M H locs) (hin : ∀ w ∈ wsX110, w ∈ Ts) (hl : (Cond.fieldLink RX11 index "ReplicaFilesModel" "recordVector" "[I").before args s = true) (hdg : decode cc pc = .ok (.getfield index, 3)) (kk : W p l e R s m args below meth c H locs cells slots Q (F0 m (pc + 3) ls (.ref (A m_recordVector) :: rest))) : W p l e R s m args below meth c H locs cells slots Q (F0 m pc ls (.ref (A m_o) :: rest)) := g_gr (C := RX11) (T := TX11) S X Z hin rfl mlv_o rfl 38 (by decide) ⟨rfl, rfl, rfl⟩ rfl hl hdg kk
theorem mr_versionsTold (S : CallFix p m c cc nL s args Ts RX11) (X : gX D vwCl dA mLive A reg s) (Z : gZ D mLay dA mLive A reg H0 M H locs) (hin : ∀ w ∈ wsX110, w ∈ Ts) (hl : (Cond.fieldLink RX11 index "ReplicaFilesModel" "versionsTold" "[I").before args s = true) (hdg : decode cc pc = .ok (.getfield index, 3)) (kk : W p l e R s m args below meth c H locs cells slots Q (F0 m (pc + 3) ls (.ref (A m_versionsTold) :: rest))) : W p l e R s m args below meth c H locs cells slots Q (F0 m pc ls (.ref (A m_o) :: rest)) := g_gr (C := RX11) (T := TX11) S X Z hin rfl mlv_o rfl 39 (by decide) ⟨rfl, rfl, rfl⟩ rfl hl hdg kk
theorem mr_gotVector (S : CallFix p m c cc nL s args Ts RX11) (X : gX D vwCl dA mLive A reg s) (Z : gZ D mLay dA mLive A reg H0 M H locs) (hin : ∀ w ∈ wsX110, w ∈ Ts) (hl : (Cond.fieldLink RX11 index "ReplicaFilesModel" "gotVector" "[I").before args s = true) (hdg : decode cc pc = .ok (.getfield index, 3)) (kk : W p l e R s m args below meth c H locs cells slots Q (F0 m (pc + 3) ls (.ref (A m_gotVector) :: rest))) : W p l e R s m args below meth c H locs cells slots Q (F0 m pc ls (.ref (A m_o) :: rest)) := g_gr (C := RX11) (T := TX11) S X Z hin rfl mlv_o rfl 40 (by decide) ⟨rfl, rfl, rfl⟩ rfl hl hdg kk
theorem mr_gotEntry (S : CallFix p m c cc nL s args Ts RX11) (X : gX D vwCl dA mLive A reg s) (Z : gZ D mLay dA mLive A reg H0 M H locs) (hin : ∀ w ∈ wsX110, w ∈ Ts) (hl : (Cond.fieldLink RX11 index "ReplicaFilesModel" "gotEntry" "[I").before args s = true) (hdg : decode cc pc = .ok (.getfield index, 3)) (kk : W p l e R s m args below meth c H locs cells slots Q (F0 m (pc + 3) ls (.ref (A m_gotEntry) :: rest))) : W p l e R s m args below meth c H locs cells slots Q (F0 m pc ls (.ref (A m_o) :: rest)) := g_gr (C := RX11) (T := TX11) S X Z hin rfl mlv_o rfl 41 (by decide) ⟨rfl, rfl, rfl⟩ rfl hl hdg kk
theorem mr_gotValue (S : CallFix p m c cc nL s args Ts RX11) (X : gX D vwCl dA mLive A reg s) (Z : gZ D mLay dA mLive A reg H0 M H locs) (hin : ∀ w ∈ wsX110, w ∈ Ts) (hl : (Cond.fieldLink RX11 index "ReplicaFilesModel" "gotValue" "I").before args s = true) (hdg : decode cc pc = .ok (.getfield index, 3)) {β : Type} {kq : Int32 → Option β} {y : β} (h : lt (M m_o 42) kq = some y) (kk : ∀ v : Int32, kq v = some y → W p l e R s m args below meth c H locs cells slots Q (F0 m (pc + 3) ls (.int v :: rest))) : W p l e R s m args below meth c H locs cells slots Q (F0 m pc ls (.ref (A m_o) :: rest)) := g_gi (C := RX11) (T := TX11) S X Z hin rfl mlv_o rfl 42 (by decide) ⟨rfl, rfl, rfl⟩ rfl hl hdg (kk _ h)
theorem mp_gotValue (S : CallFix p m c cc nL s args Ts RX11) (X : gX D vwCl dA mLive A reg s) (Z : gZ D mLay dA mLive A reg H0 M H locs) (hin : ∀ w ∈ wsX110, w ∈ Ts) (hl : (Cond.fieldLink RX11 index "ReplicaFilesModel" "gotValue" "I").before args s = true) (hdg : decode cc pc = .ok (.putfield index, 3)) {x : Int32} {β : Type} {kq : gM → Option β} {y : β} (h : lt (gset M m_o 42 x) kq = some y) (kk : ∀ (M1 : gM) (H1 : Heap) (locs1 : List Loc), gZ D mLay dA mLive A reg H0 M1 H1 locs1 → kq M1 = some y → W p l e R s m args below meth c H1 locs1 cells slots Q (F0 m (pc + 3) ls rest)) : W p l e R s m args below meth c H locs cells slots Q (F0 m pc ls (.int x :: .ref (A m_o) :: rest)) := g_pi (C := RX11) (T := TX11) (ty := .int) S X Z hin rfl tyX11 tyX11_ok nmX11 mlv_o rfl 42 (by decide) ⟨rfl, rfl, rfl, rfl⟩ rfl hl (by decide) rfl rfl hdg h kk
theorem mr_directoryVector (S : CallFix p m c cc nL s args Ts RX11) (X : gX D vwCl dA mLive A reg s) (Z : gZ D mLay dA mLive A reg H0 M H locs) (hin : ∀ w ∈ wsX110, w ∈ Ts) (hl : (Cond.fieldLink RX11 index "ReplicaFilesModel" "directoryVector" "[I").before args s = true) (hdg : decode cc pc = .ok (.getfield index, 3)) (kk : W p l e R s m args below meth c H locs cells slots Q (F0 m (pc + 3) ls (.ref (A m_directoryVector) :: rest))) : W p l e R s m args below meth c H locs cells slots Q (F0 m pc ls (.ref (A m_o) :: rest)) := g_gr (C := RX11) (T := TX11) S X Z hin rfl mlv_o rfl 43 (by decide) ⟨rfl, rfl, rfl⟩ rfl hl hdg kk
theorem mr_row (S : CallFix p m c cc nL s args Ts RX11) (X : gX D vwCl dA mLive A reg s) (Z : gZ D mLay dA mLive A reg H0 M H locs) (hin : ∀ w ∈ wsX110, w ∈ Ts) (hl : (Cond.fieldLink RX11 index "ReplicaFilesModel" "row" "[I").before args s = true) (hdg : decode cc pc = .ok (.getfield index, 3)) (kk : W p l e R s m args below meth c H locs cells slots Q (F0 m (pc + 3) ls (.ref (A m_row) :: rest))) : W p l e R s m args below meth c H locs cells slots Q (F0 m pc ls (.ref (A m_o) :: rest)) := g_gr (C := RX11) (T := TX11) S X Z hin rfl mlv_o rfl 44 (by decide) ⟨rfl, rfl, rfl⟩ rfl hl hdg kk
theorem mr_acts (S : CallFix p m c cc nL s args Ts RX11) (X : gX D vwCl dA mLive A reg s) (Z : gZ D mLay dA mLive A reg H0 M H locs) (hin : ∀ w ∈ wsX110, w ∈ Ts) (hl : (Cond.fieldLink RX11 index "ReplicaFilesModel" "acts" "I").before args s = true) (hdg : decode cc pc = .ok (.getfield index, 3)) {β : Type} {kq : Int32 → Option β} {y : β} (h : lt (M m_o 45) kq = some y) (kk : ∀ v : Int32, kq v = some y → W p l e R s m args below meth c H locs cells slots Q (F0 m (pc + 3) ls (.int v :: rest))) : W p l e R s m args below meth c H locs cells slots Q (F0 m pc ls (.ref (A m_o) :: rest)) := g_gi (C := RX11) (T := TX11) S X Z hin rfl mlv_o rfl 45 (by decide) ⟨rfl, rfl, rfl⟩ rfl hl hdg (kk _ h)
theorem mp_acts (S : CallFix p m c cc nL s args Ts RX11) (X : gX D vwCl dA mLive A reg s) (Z : gZ D mLay dA mLive A reg H0 M H locs) (hin : ∀ w ∈ wsX110, w ∈ Ts) (hl : (Cond.fieldLink RX11 index "ReplicaFilesModel" "acts" "I").before args s = true) (hdg : decode cc pc = .ok (.putfield index, 3)) {x : Int32} {β : Type} {kq : gM → Option β} {y : β} (h : lt (gset M m_o 45 x) kq = some y) (kk : ∀ (M1 : gM) (H1 : Heap) (locs1 : List Loc), gZ D mLay dA mLive A reg H0 M1 H1 locs1 → kq M1 = some y → W p l e R s m args below meth c H1 locs1 cells slots Q (F0 m (pc + 3) ls rest)) : W p l e R s m args below meth c H locs cells slots Q (F0 m pc ls (.int x :: .ref (A m_o) :: rest)) := g_pi (C := RX11) (T := TX11) (ty := .int) S X Z hin rfl tyX11 tyX11_ok nmX11 mlv_o rfl 45 (by decide) ⟨rfl, rfl, rfl, rfl⟩ rfl hl (by decide) rfl rfl hdg h kk
theorem mr_lost (S : CallFix p m c cc nL s args Ts RX11) (X : gX D vwCl dA mLive A reg s) (Z : gZ D mLay dA mLive A reg H0 M H locs) (hin : ∀ w ∈ wsX110, w ∈ Ts) (hl : (Cond.fieldLink RX11 index "ReplicaFilesModel" "lost" "I").before args s = true) (hdg : decode cc pc = .ok (.getfield index, 3)) {β : Type} {kq : Int32 → Option β} {y : β} (h : lt (M m_o 46) kq = some y) (kk : ∀ v : Int32, kq v = some y → W p l e R s m args below meth c H locs cells slots Q (F0 m (pc + 3) ls (.int v :: rest))) : W p l e R s m args below meth c H locs cells slots Q (F0 m pc ls (.ref (A m_o) :: rest)) := g_gi (C := RX11) (T := TX11) S X Z hin rfl mlv_o rfl 46 (by decide) ⟨rfl, rfl, rfl⟩ rfl hl hdg (kk _ h)
theorem mp_lost (S : CallFix p m c cc nL s args Ts RX11) (X : gX D vwCl dA mLive A reg s) (Z : gZ D mLay dA mLive A reg H0 M H locs) (hin : ∀ w ∈ wsX110, w ∈ Ts) (hl : (Cond.fieldLink RX11 index "ReplicaFilesModel" "lost" "I").before args s = true) (hdg : decode cc pc = .ok (.putfield index, 3)) {x : Int32} {β : Type} {kq : gM → Option β} {y : β} (h : lt (gset M m_o 46 x) kq = some y) (kk : ∀ (M1 : gM) (H1 : Heap) (locs1 : List Loc), gZ D mLay dA mLive A reg H0 M1 H1 locs1 → kq M1 = some y → W p l e R s m args below meth c H1 locs1 cells slots Q (F0 m (pc + 3) ls rest)) : W p l e R s m args below meth c H locs cells slots Q (F0 m pc ls (.int x :: .ref (A m_o) :: rest)) := g_pi (C := RX11) (T := TX11) (ty := .int) S X Z hin rfl tyX11 tyX11_ok nmX11 mlv_o rfl 46 (by decide) ⟨rfl, rfl, rfl, rfl⟩ rfl hl (by decide) rfl rfl hdg h kk
theorem mr_refused (S : CallFix p m c cc nL s args Ts RX11) (X : gX D vwCl dA mLive A reg s) (Z : gZ D mLay dA mLive A reg H0 M H locs) (hin : ∀ w ∈ wsX110, w ∈ Ts) (hl : (Cond.fieldLink RX11 index "ReplicaFilesModel" "refused" "I").before args s = true) (hdg : decode cc pc = .ok (.getfield index, 3)) {β : Type} {kq : Int32 → Option β} {y : β} (h : lt (M m_o 47) kq = some y) (kk : ∀ v : Int32, kq v = some y → W p l e R s m args below meth c H locs cells slots Q (F0 m (pc + 3) ls (.int v :: rest))) : W p l e R s m args below meth c H locs cells slots Q (F0 m pc ls (.ref (A m_o) :: rest)) := g_gi (C := RX11) (T := TX11) S X Z hin rfl mlv_o rfl 47 (by decide) ⟨rfl, rfl, rfl⟩ rfl hl hdg (kk _ h)
theorem mp_refused (S : CallFix p m c cc nL s args Ts RX11) (X : gX D vwCl dA mLive A reg s) (Z : gZ D mLay dA mLive A reg H0 M H locs) (hin : ∀ w ∈ wsX110, w ∈ Ts) (hl : (Cond.fieldLink RX11 index "ReplicaFilesModel" "refused" "I").before args s = true) (hdg : decode cc pc = .ok (.putfield index, 3)) {x : Int32} {β : Type} {kq : gM → Option β} {y : β} (h : lt (gset M m_o 47 x) kq = some y) (kk : ∀ (M1 : gM) (H1 : Heap) (locs1 : List Loc), gZ D mLay dA mLive A reg H0 M1 H1 locs1 → kq M1 = some y → W p l e R s m args below meth c H1 locs1 cells slots Q (F0 m (pc + 3) ls rest)) : W p l e R s m args below meth c H locs cells slots Q (F0 m pc ls (.int x :: .ref (A m_o) :: rest)) := g_pi (C := RX11) (T := TX11) (ty := .int) S X Z hin rfl tyX11 tyX11_ok nmX11 mlv_o rfl 47 (by decide) ⟨rfl, rfl, rfl, rfl⟩ rfl hl (by decide) rfl rfl hdg h kk
theorem mr_lostPhases (S : CallFix p m c cc nL s args Ts RX11) (X : gX D vwCl dA mLive A reg s) (Z : gZ D mLay dA mLive A reg H0 M H locs) (hin : ∀ w ∈ wsX110, w ∈ Ts) (hl : (Cond.fieldLink RX11 index "ReplicaFilesModel" "lostPhases" "I").before args s = true) (hdg : decode cc pc = .ok (.getfield index, 3)) {β : Type} {kq : Int32 → Option β} {y : β} (h : lt (M m_o 48) kq = some y) (kk : ∀ v : Int32, kq v = some y → W p l e R s m args below meth c H locs cells slots Q (F0 m (pc + 3) ls (.int v :: rest))) : W p l e R s m args below meth c H locs cells slots Q (F0 m pc ls (.ref (A m_o) :: rest)) := g_gi (C := RX11) (T := TX11) S X Z hin rfl mlv_o rfl 48 (by decide) ⟨rfl, rfl, rfl⟩ rfl hl hdg (kk _ h)
theorem mp_lostPhases (S : CallFix p m c cc nL s args Ts RX11) (X : gX D vwCl dA mLive A reg s) (Z : gZ D mLay dA mLive A reg H0 M H locs) (hin : ∀ w ∈ wsX110, w ∈ Ts) (hl : (Cond.fieldLink RX11 index "ReplicaFilesModel" "lostPhases" "I").before args s = true) (hdg : decode cc pc = .ok (.putfield index, 3)) {x : Int32} {β : Type} {kq : gM → Option β} {y : β} (h : lt (gset M m_o 48 x) kq = some y) (kk : ∀ (M1 : gM) (H1 : Heap) (locs1 : List Loc), gZ D mLay dA mLive A reg H0 M1 H1 locs1 → kq M1 = some y → W p l e R s m args below meth c H1 locs1 cells slots Q (F0 m (pc + 3) ls rest)) : W p l e R s m args below meth c H locs cells slots Q (F0 m pc ls (.int x :: .ref (A m_o) :: rest)) := g_pi (C := RX11) (T := TX11) (ty := .int) S X Z hin rfl tyX11 tyX11_ok nmX11 mlv_o rfl 48 (by decide) ⟨rfl, rfl, rfl, rfl⟩ rfl hl (by decide) rfl rfl hdg h kk
theorem mr_came (S : CallFix p m c cc nL s args Ts RX11) (X : gX D vwCl dA mLive A reg s) (Z : gZ D mLay dA mLive A reg H0 M H locs) (hin : ∀ w ∈ wsX110, w ∈ Ts) (hl : (Cond.fieldLink RX11 index "ReplicaFilesModel" "came" "I").before args s = true) (hdg : decode cc pc = .ok (.getfield index, 3)) {β : Type} {kq : Int32 → Option β} {y : β} (h : lt (M m_o 49) kq = some y) (kk : ∀ v : Int32, kq v = some y → W p l e R s m args below meth c H locs cells slots Q (F0 m (pc + 3) ls (.int v :: rest))) : W p l e R s m args below meth c H locs cells slots Q (F0 m pc ls (.ref (A m_o) :: rest)) := g_gi (C := RX11) (T := TX11) S X Z hin rfl mlv_o rfl 49 (by decide) ⟨rfl, rfl, rfl⟩ rfl hl hdg (kk _ h)
theorem mp_came (S : CallFix p m c cc nL s args Ts RX11) (X : gX D vwCl dA mLive A reg s) (Z : gZ D mLay dA mLive A reg H0 M H locs) (hin : ∀ w ∈ wsX110, w ∈ Ts) (hl : (Cond.fieldLink RX11 index "ReplicaFilesModel" "came" "I").before args s = true) (hdg : decode cc pc = .ok (.putfield index, 3)) {x : Int32} {β : Type} {kq : gM → Option β} {y : β} (h : lt (gset M m_o 49 x) kq = some y) (kk : ∀ (M1 : gM) (H1 : Heap) (locs1 : List Loc), gZ D mLay dA mLive A reg H0 M1 H1 locs1 → kq M1 = some y → W p l e R s m args below meth c H1 locs1 cells slots Q (F0 m (pc + 3) ls rest)) : W p l e R s m args below meth c H locs cells slots Q (F0 m pc ls (.int x :: .ref (A m_o) :: rest)) := g_pi (C := RX11) (T := TX11) (ty := .int) S X Z hin rfl tyX11 tyX11_ok nmX11 mlv_o rfl 49 (by decide) ⟨rfl, rfl, rfl, rfl⟩ rfl hl (by decide) rfl rfl hdg h kk
theorem mr_went (S : CallFix p m c cc nL s args Ts RX11) (X : gX D vwCl dA mLive A reg s) (Z : gZ D mLay dA mLive A reg H0 M H locs) (hin : ∀ w ∈ wsX110, w ∈ Ts) (hl : (Cond.fieldLink RX11 index "ReplicaFilesModel" "went" "I").before args s = true) (hdg : decode cc pc = .ok (.getfield index, 3)) {β : Type} {kq : Int32 → Option β} {y : β} (h : lt (M m_o 50) kq = some y) (kk : ∀ v : Int32, kq v = some y → W p l e R s m args below meth c H locs cells slots Q (F0 m (pc + 3) ls (.int v :: rest))) : W p l e R s m args below meth c H locs cells slots Q (F0 m pc ls (.ref (A m_o) :: rest)) := g_gi (C := RX11) (T := TX11) S X Z hin rfl mlv_o rfl 50 (by decide) ⟨rfl, rfl, rfl⟩ rfl hl hdg (kk _ h)
theorem mp_went (S : CallFix p m c cc nL s args Ts RX11) (X : gX D vwCl dA mLive A reg s) (Z : gZ D mLay dA mLive A reg H0 M H locs) (hin : ∀ w ∈ wsX110, w ∈ Ts) (hl : (Cond.fieldLink RX11 index "ReplicaFilesModel" "went" "I").before args s = true) (hdg : decode cc pc = .ok (.putfield index, 3)) {x : Int32} {β : Type} {kq : gM → Option β} {y : β} (h : lt (gset M m_o 50 x) kq = some y) (kk : ∀ (M1 : gM) (H1 : Heap) (locs1 : List Loc), gZ D mLay dA mLive A reg H0 M1 H1 locs1 → kq M1 = some y → W p l e R s m args below meth c H1 locs1 cells slots Q (F0 m (pc + 3) ls rest)) : W p l e R s m args below meth c H locs cells slots Q (F0 m pc ls (.int x :: .ref (A m_o) :: rest)) := g_pi (C := RX11) (T := TX11) (ty := .int) S X Z hin rfl tyX11 tyX11_ok nmX11 mlv_o rfl 50 (by decide) ⟨rfl, rfl, rfl, rfl⟩ rfl hl (by decide) rfl rfl hdg h kk
theorem mr_set (S : CallFix p m c cc nL s args Ts RX11) (X : gX D vwCl dA mLive A reg s) (Z : gZ D mLay dA mLive A reg H0 M H locs) (hin : ∀ w ∈ wsX110, w ∈ Ts) (hl : (Cond.fieldLink RX11 index "ReplicaFilesModel" "set" "I").before args s = true) (hdg : decode cc pc = .ok (.getfield index, 3)) {β : Type} {kq : Int32 → Option β} {y : β} (h : lt (M m_o 51) kq = some y) (kk : ∀ v : Int32, kq v = some y → W p l e R s m args below meth c H locs cells slots Q (F0 m (pc + 3) ls (.int v :: rest))) : W p l e R s m args below meth c H locs cells slots Q (F0 m pc ls (.ref (A m_o) :: rest)) := g_gi (C := RX11) (T := TX11) S X Z hin rfl mlv_o rfl 51 (by decide) ⟨rfl, rfl, rfl⟩ rfl hl hdg (kk _ h)
theorem mp_set (S : CallFix p m c cc nL s args Ts RX11) (X : gX D vwCl dA mLive A reg s) (Z : gZ D mLay dA mLive A reg H0 M H locs) (hin : ∀ w ∈ wsX110, w ∈ Ts) (hl : (Cond.fieldLink RX11 index "ReplicaFilesModel" "set" "I").before args s = true) (hdg : decode cc pc = .ok (.putfield index, 3)) {x : Int32} {β : Type} {kq : gM → Option β} {y : β} (h : lt (gset M m_o 51 x) kq = some y) (kk : ∀ (M1 : gM) (H1 : Heap) (locs1 : List Loc), gZ D mLay dA mLive A reg H0 M1 H1 locs1 → kq M1 = some y → W p l e R s m args below meth c H1 locs1 cells slots Q (F0 m (pc + 3) ls rest)) : W p l e R s m args below meth c H locs cells slots Q (F0 m pc ls (.int x :: .ref (A m_o) :: rest)) := g_pi (C := RX11) (T := TX11) (ty := .int) S X Z hin rfl tyX11 tyX11_ok nmX11 mlv_o rfl 51 (by decide) ⟨rfl, rfl, rfl, rfl⟩ rfl hl (by decide) rfl rfl hdg h kk
theorem mr_setLost (S : CallFix p m c cc nL s args Ts RX11) (X : gX D vwCl dA mLive A reg s) (Z : gZ D mLay dA mLive A reg H0 M H locs) (hin : ∀ w ∈ wsX110, w ∈ Ts) (hl : (Cond.fieldLink RX11 index "ReplicaFilesModel" "setLost" "I").before args s = true) (hdg : decode cc pc = .ok (.getfield index, 3)) {β : Type} {kq : Int32 → Option β} {y : β} (h : lt (M m_o 52) kq = some y) (kk : ∀ v : Int32, kq v = some y → W p l e R s m args below meth c H locs cells slots Q (F0 m (pc + 3) ls (.int v :: rest))) : W p l e R s m args below meth c H locs cells slots Q (F0 m pc ls (.ref (A m_o) :: rest)) := g_gi (C := RX11) (T := TX11) S X Z hin rfl mlv_o rfl 52 (by decide) ⟨rfl, rfl, rfl⟩ rfl hl hdg (kk _ h)
theorem mp_setLost (S : CallFix p m c cc nL s args Ts RX11) (X : gX D vwCl dA mLive A reg s) (Z : gZ D mLay dA mLive A reg H0 M H locs) (hin : ∀ w ∈ wsX110, w ∈ Ts) (hl : (Cond.fieldLink RX11 index "ReplicaFilesModel" "setLost" "I").before args s = true) (hdg : decode cc pc = .ok (.putfield index, 3)) {x : Int32} {β : Type} {kq : gM → Option β} {y : β} (h : lt (gset M m_o 52 x) kq = some y) (kk : ∀ (M1 : gM) (H1 : Heap) (locs1 : List Loc), gZ D mLay dA mLive A reg H0 M1 H1 locs1 → kq M1 = some y → W p l e R s m args below meth c H1 locs1 cells slots Q (F0 m (pc + 3) ls rest)) : W p l e R s m args below meth c H locs cells slots Q (F0 m pc ls (.int x :: .ref (A m_o) :: rest)) := g_pi (C := RX11) (T := TX11) (ty := .int) S X Z hin rfl tyX11 tyX11_ok nmX11 mlv_o rfl 52 (by decide) ⟨rfl, rfl, rfl, rfl⟩ rfl hl (by decide) rfl rfl hdg h kk
theorem mr_group (S : CallFix p m c cc nL s args Ts RX11) (X : gX D vwCl dA mLive A reg s) (Z : gZ D mLay dA mLive A reg H0 M H locs) (hin : ∀ w ∈ wsX110, w ∈ Ts) (hl : (Cond.fieldLink RX11 index "ReplicaFilesModel" "group" "I").before args s = true) (hdg : decode cc pc = .ok (.getfield index, 3)) {β : Type} {kq : Int32 → Option β} {y : β} (h : lt (M m_o 53) kq = some y) (kk : ∀ v : Int32, kq v = some y → W p l e R s m args below meth c H locs cells slots Q (F0 m (pc + 3) ls (.int v :: rest))) : W p l e R s m args below meth c H locs cells slots Q (F0 m pc ls (.ref (A m_o) :: rest)) := g_gi (C := RX11) (T := TX11) S X Z hin rfl mlv_o rfl 53 (by decide) ⟨rfl, rfl, rfl⟩ rfl hl hdg (kk _ h)
theorem mp_group (S : CallFix p m c cc nL s args Ts RX11) (X : gX D vwCl dA mLive A reg s) (Z : gZ D mLay dA mLive A reg H0 M H locs) (hin : ∀ w ∈ wsX110, w ∈ Ts) (hl : (Cond.fieldLink RX11 index "ReplicaFilesModel" "group" "I").before args s = true) (hdg : decode cc pc = .ok (.putfield index, 3)) {x : Int32} {β : Type} {kq : gM → Option β} {y : β} (h : lt (gset M m_o 53 x) kq = some y) (kk : ∀ (M1 : gM) (H1 : Heap) (locs1 : List Loc), gZ D mLay dA mLive A reg H0 M1 H1 locs1 → kq M1 = some y → W p l e R s m args below meth c H1 locs1 cells slots Q (F0 m (pc + 3) ls rest)) : W p l e R s m args below meth c H locs cells slots Q (F0 m pc ls (.int x :: .ref (A m_o) :: rest)) := g_pi (C := RX11) (T := TX11) (ty := .int) S X Z hin rfl tyX11 tyX11_ok nmX11 mlv_o rfl 53 (by decide) ⟨rfl, rfl, rfl, rfl⟩ rfl hl (by decide) rfl rfl hdg h kk
theorem mr_groupMany (S : CallFix p m c cc nL s args Ts RX11) (X : gX D vwCl dA mLive A reg s) (Z : gZ D mLay dA mLive A reg H0 M H locs) (hin : ∀ w ∈ wsX110, w ∈ Ts) (hl : (Cond.fieldLink RX11 index "ReplicaFilesModel" "groupMany" "I").before args s = true) (hdg : decode cc pc = .ok (.getfield index, 3)) {β : Type} {kq : Int32 → Option β} {y : β} (h : lt (M m_o 54) kq = some y) (kk : ∀ v : Int32, kq v = some y → W p l e R s m args below meth c H locs cells slots Q (F0 m (pc + 3) ls (.int v :: rest))) : W p l e R s m args below meth c H locs cells slots Q (F0 m pc ls (.ref (A m_o) :: rest)) := g_gi (C := RX11) (T := TX11) S X Z hin rfl mlv_o rfl 54 (by decide) ⟨rfl, rfl, rfl⟩ rfl hl hdg (kk _ h)
theorem mp_groupMany (S : CallFix p m c cc nL s args Ts RX11) (X : gX D vwCl dA mLive A reg s) (Z : gZ D mLay dA mLive A reg H0 M H locs) (hin : ∀ w ∈ wsX110, w ∈ Ts) (hl : (Cond.fieldLink RX11 index "ReplicaFilesModel" "groupMany" "I").before args s = true) (hdg : decode cc pc = .ok (.putfield index, 3)) {x : Int32} {β : Type} {kq : gM → Option β} {y : β} (h : lt (gset M m_o 54 x) kq = some y) (kk : ∀ (M1 : gM) (H1 : Heap) (locs1 : List Loc), gZ D mLay dA mLive A reg H0 M1 H1 locs1 → kq M1 = some y → W p l e R s m args below meth c H1 locs1 cells slots Q (F0 m (pc + 3) ls rest)) : W p l e R s m args below meth c H locs cells slots Q (F0 m pc ls (.int x :: .ref (A m_o) :: rest)) := g_pi (C := RX11) (T := TX11) (ty := .int) S X Z hin rfl tyX11 tyX11_ok nmX11 mlv_o rfl 54 (by decide) ⟨rfl, rfl, rfl, rfl⟩ rfl hl (by decide) rfl rfl hdg h kk
theorem mr_changes (S : CallFix p m c cc nL s args Ts RX11) (X : gX D vwCl dA mLive A reg s) (Z : gZ D mLay dA mLive A reg H0 M H locs) (hin : ∀ w ∈ wsX110, w ∈ Ts) (hl : (Cond.fieldLink RX11 index "ReplicaFilesModel" "changes" "I").before args s = true) (hdg : decode cc pc = .ok (.getfield index, 3)) {β : Type} {kq : Int32 → Option β} {y : β} (h : lt (M m_o 55) kq = some y) (kk : ∀ v : Int32, kq v = some y → W p l e R s m args below meth c H locs cells slots Q (F0 m (pc + 3) ls (.int v :: rest))) : W p l e R s m args below meth c H locs cells slots Q (F0 m pc ls (.ref (A m_o) :: rest)) := g_gi (C := RX11) (T := TX11) S X Z hin rfl mlv_o rfl 55 (by decide) ⟨rfl, rfl, rfl⟩ rfl hl hdg (kk _ h)
theorem mp_changes (S : CallFix p m c cc nL s args Ts RX11) (X : gX D vwCl dA mLive A reg s) (Z : gZ D mLay dA mLive A reg H0 M H locs) (hin : ∀ w ∈ wsX110, w ∈ Ts) (hl : (Cond.fieldLink RX11 index "ReplicaFilesModel" "changes" "I").before args s = true) (hdg : decode cc pc = .ok (.putfield index, 3)) {x : Int32} {β : Type} {kq : gM → Option β} {y : β} (h : lt (gset M m_o 55 x) kq = some y) (kk : ∀ (M1 : gM) (H1 : Heap) (locs1 : List Loc), gZ D mLay dA mLive A reg H0 M1 H1 locs1 → kq M1 = some y → W p l e R s m args below meth c H1 locs1 cells slots Q (F0 m (pc + 3) ls rest)) : W p l e R s m args below meth c H locs cells slots Q (F0 m pc ls (.int x :: .ref (A m_o) :: rest)) := g_pi (C := RX11) (T := TX11) (ty := .int) S X Z hin rfl tyX11 tyX11_ok nmX11 mlv_o rfl 55 (by decide) ⟨rfl, rfl, rfl, rfl⟩ rfl hl (by decide) rfl rfl hdg h kk
theorem mr_someThere (S : CallFix p m c cc nL s args Ts RX11) (X : gX D vwCl dA mLive A reg s) (Z : gZ D mLay dA mLive A reg H0 M H locs) (hin : ∀ w ∈ wsX110, w ∈ Ts) (hl : (Cond.fieldLink RX11 index "ReplicaFilesModel" "someThere" "[Z").before args s = true) (hdg : decode cc pc = .ok (.getfield index, 3)) (kk : W p l e R s m args below meth c H locs cells slots Q (F0 m (pc + 3) ls (.ref (A m_someThere) :: rest))) : W p l e R s m args below meth c H locs cells slots Q (F0 m pc ls (.ref (A m_o) :: rest)) := g_gr (C := RX11) (T := TX11) S X Z hin rfl mlv_o rfl 56 (by decide) ⟨rfl, rfl, rfl⟩ rfl hl hdg kk
theorem mr_someGone (S : CallFix p m c cc nL s args Ts RX11) (X : gX D vwCl dA mLive A reg s) (Z : gZ D mLay dA mLive A reg H0 M H locs) (hin : ∀ w ∈ wsX110, w ∈ Ts) (hl : (Cond.fieldLink RX11 index "ReplicaFilesModel" "someGone" "[Z").before args s = true) (hdg : decode cc pc = .ok (.getfield index, 3)) (kk : W p l e R s m args below meth c H locs cells slots Q (F0 m (pc + 3) ls (.ref (A m_someGone) :: rest))) : W p l e R s m args below meth c H locs cells slots Q (F0 m pc ls (.ref (A m_o) :: rest)) := g_gr (C := RX11) (T := TX11) S X Z hin rfl mlv_o rfl 57 (by decide) ⟨rfl, rfl, rfl⟩ rfl hl hdg kk
theorem mr_mergedGone (S : CallFix p m c cc nL s args Ts RX11) (X : gX D vwCl dA mLive A reg s) (Z : gZ D mLay dA mLive A reg H0 M H locs) (hin : ∀ w ∈ wsX110, w ∈ Ts) (hl : (Cond.fieldLink RX11 index "ReplicaFilesModel" "mergedGone" "[I").before args s = true) (hdg : decode cc pc = .ok (.getfield index, 3)) (kk : W p l e R s m args below meth c H locs cells slots Q (F0 m (pc + 3) ls (.ref (A m_mergedGone) :: rest))) : W p l e R s m args below meth c H locs cells slots Q (F0 m pc ls (.ref (A m_o) :: rest)) := g_gr (C := RX11) (T := TX11) S X Z hin rfl mlv_o rfl 58 (by decide) ⟨rfl, rfl, rfl⟩ rfl hl hdg kk
theorem mr_canGo (S : CallFix p m c cc nL s args Ts RX11) (X : gX D vwCl dA mLive A reg s) (Z : gZ D mLay dA mLive A reg H0 M H locs) (hin : ∀ w ∈ wsX110, w ∈ Ts) (hl : (Cond.fieldLink RX11 index "ReplicaFilesModel" "canGo" "[Z").before args s = true) (hdg : decode cc pc = .ok (.getfield index, 3)) (kk : W p l e R s m args below meth c H locs cells slots Q (F0 m (pc + 3) ls (.ref (A m_canGo) :: rest))) : W p l e R s m args below meth c H locs cells slots Q (F0 m pc ls (.ref (A m_o) :: rest)) := g_gr (C := RX11) (T := TX11) S X Z hin rfl mlv_o rfl 59 (by decide) ⟨rfl, rfl, rfl⟩ rfl hl hdg kk
theorem mr_swept (S : CallFix p m c cc nL s args Ts RX11) (X : gX D vwCl dA mLive A reg s) (Z : gZ D mLay dA mLive A reg H0 M H locs) (hin : ∀ w ∈ wsX110, w ∈ Ts) (hl : (Cond.fieldLink RX11 index "ReplicaFilesModel" "swept" "[Z").before args s = true) (hdg : decode cc pc = .ok (.getfield index, 3)) (kk : W p l e R s m args below meth c H locs cells slots Q (F0 m (pc + 3) ls (.ref (A m_swept) :: rest))) : W p l e R s m args below meth c H locs cells slots Q (F0 m pc ls (.ref (A m_o) :: rest)) := g_gr (C := RX11) (T := TX11) S X Z hin rfl mlv_o rfl 60 (by decide) ⟨rfl, rfl, rfl⟩ rfl hl hdg kk
theorem mr_candidates (S : CallFix p m c cc nL s args Ts RX11) (X : gX D vwCl dA mLive A reg s) (Z : gZ D mLay dA mLive A reg H0 M H locs) (hin : ∀ w ∈ wsX110, w ∈ Ts) (hl : (Cond.fieldLink RX11 index "ReplicaFilesModel" "candidates" "I").before args s = true) (hdg : decode cc pc = .ok (.getfield index, 3)) {β : Type} {kq : Int32 → Option β} {y : β} (h : lt (M m_o 61) kq = some y) (kk : ∀ v : Int32, kq v = some y → W p l e R s m args below meth c H locs cells slots Q (F0 m (pc + 3) ls (.int v :: rest))) : W p l e R s m args below meth c H locs cells slots Q (F0 m pc ls (.ref (A m_o) :: rest)) := g_gi (C := RX11) (T := TX11) S X Z hin rfl mlv_o rfl 61 (by decide) ⟨rfl, rfl, rfl⟩ rfl hl hdg (kk _ h)
theorem mp_candidates (S : CallFix p m c cc nL s args Ts RX11) (X : gX D vwCl dA mLive A reg s) (Z : gZ D mLay dA mLive A reg H0 M H locs) (hin : ∀ w ∈ wsX110, w ∈ Ts) (hl : (Cond.fieldLink RX11 index "ReplicaFilesModel" "candidates" "I").before args s = true) (hdg : decode cc pc = .ok (.putfield index, 3)) {x : Int32} {β : Type} {kq : gM → Option β} {y : β} (h : lt (gset M m_o 61 x) kq = some y) (kk : ∀ (M1 : gM) (H1 : Heap) (locs1 : List Loc), gZ D mLay dA mLive A reg H0 M1 H1 locs1 → kq M1 = some y → W p l e R s m args below meth c H1 locs1 cells slots Q (F0 m (pc + 3) ls rest)) : W p l e R s m args below meth c H locs cells slots Q (F0 m pc ls (.int x :: .ref (A m_o) :: rest)) := g_pi (C := RX11) (T := TX11) (ty := .int) S X Z hin rfl tyX11 tyX11_ok nmX11 mlv_o rfl 61 (by decide) ⟨rfl, rfl, rfl, rfl⟩ rfl hl (by decide) rfl rfl hdg h kk
theorem mr_candidateValue (S : CallFix p m c cc nL s args Ts RX11) (X : gX D vwCl dA mLive A reg s) (Z : gZ D mLay dA mLive A reg H0 M H locs) (hin : ∀ w ∈ wsX110, w ∈ Ts) (hl : (Cond.fieldLink RX11 index "ReplicaFilesModel" "candidateValue" "[I").before args s = true) (hdg : decode cc pc = .ok (.getfield index, 3)) (kk : W p l e R s m args below meth c H locs cells slots Q (F0 m (pc + 3) ls (.ref (A m_candidateValue) :: rest))) : W p l e R s m args below meth c H locs cells slots Q (F0 m pc ls (.ref (A m_o) :: rest)) := g_gr (C := RX11) (T := TX11) S X Z hin rfl mlv_o rfl 62 (by decide) ⟨rfl, rfl, rfl⟩ rfl hl hdg kk
theorem mr_candidateSize (S : CallFix p m c cc nL s args Ts RX11) (X : gX D vwCl dA mLive A reg s) (Z : gZ D mLay dA mLive A reg H0 M H locs) (hin : ∀ w ∈ wsX110, w ∈ Ts) (hl : (Cond.fieldLink RX11 index "ReplicaFilesModel" "candidateSize" "[I").before args s = true) (hdg : decode cc pc = .ok (.getfield index, 3)) (kk : W p l e R s m args below meth c H locs cells slots Q (F0 m (pc + 3) ls (.ref (A m_candidateSize) :: rest))) : W p l e R s m args below meth c H locs cells slots Q (F0 m pc ls (.ref (A m_o) :: rest)) := g_gr (C := RX11) (T := TX11) S X Z hin rfl mlv_o rfl 63 (by decide) ⟨rfl, rfl, rfl⟩ rfl hl hdg kk
theorem mr_candidateVector (S : CallFix p m c cc nL s args Ts RX11) (X : gX D vwCl dA mLive A reg s) (Z : gZ D mLay dA mLive A reg H0 M H locs) (hin : ∀ w ∈ wsX110, w ∈ Ts) (hl : (Cond.fieldLink RX11 index "ReplicaFilesModel" "candidateVector" "[I").before args s = true) (hdg : decode cc pc = .ok (.getfield index, 3)) (kk : W p l e R s m args below meth c H locs cells slots Q (F0 m (pc + 3) ls (.ref (A m_candidateVector) :: rest))) : W p l e R s m args below meth c H locs cells slots Q (F0 m pc ls (.ref (A m_o) :: rest)) := g_gr (C := RX11) (T := TX11) S X Z hin rfl mlv_o rfl 64 (by decide) ⟨rfl, rfl, rfl⟩ rfl hl hdg kk
theorem mr_beaten (S : CallFix p m c cc nL s args Ts RX11) (X : gX D vwCl dA mLive A reg s) (Z : gZ D mLay dA mLive A reg H0 M H locs) (hin : ∀ w ∈ wsX110, w ∈ Ts) (hl : (Cond.fieldLink RX11 index "ReplicaFilesModel" "beaten" "[Z").before args s = true) (hdg : decode cc pc = .ok (.getfield index, 3)) (kk : W p l e R s m args below meth c H locs cells slots Q (F0 m (pc + 3) ls (.ref (A m_beaten) :: rest))) : W p l e R s m args below meth c H locs cells slots Q (F0 m pc ls (.ref (A m_o) :: rest)) := g_gr (C := RX11) (T := TX11) S X Z hin rfl mlv_o rfl 65 (by decide) ⟨rfl, rfl, rfl⟩ rfl hl hdg kk
theorem mr_thrown (S : CallFix p m c cc nL s args Ts RX11) (X : gX D vwCl dA mLive A reg s) (Z : gZ D mLay dA mLive A reg H0 M H locs) (hin : ∀ w ∈ wsX110, w ∈ Ts) (hl : (Cond.fieldLink RX11 index "ReplicaFilesModel" "thrown" "I").before args s = true) (hdg : decode cc pc = .ok (.getfield index, 3)) {β : Type} {kq : Int32 → Option β} {y : β} (h : lt (M m_o 66) kq = some y) (kk : ∀ v : Int32, kq v = some y → W p l e R s m args below meth c H locs cells slots Q (F0 m (pc + 3) ls (.int v :: rest))) : W p l e R s m args below meth c H locs cells slots Q (F0 m pc ls (.ref (A m_o) :: rest)) := g_gi (C := RX11) (T := TX11) S X Z hin rfl mlv_o rfl 66 (by decide) ⟨rfl, rfl, rfl⟩ rfl hl hdg (kk _ h)
theorem mp_thrown (S : CallFix p m c cc nL s args Ts RX11) (X : gX D vwCl dA mLive A reg s) (Z : gZ D mLay dA mLive A reg H0 M H locs) (hin : ∀ w ∈ wsX110, w ∈ Ts) (hl : (Cond.fieldLink RX11 index "ReplicaFilesModel" "thrown" "I").before args s = true) (hdg : decode cc pc = .ok (.putfield index, 3)) {x : Int32} {β : Type} {kq : gM → Option β} {y : β} (h : lt (gset M m_o 66 x) kq = some y) (kk : ∀ (M1 : gM) (H1 : Heap) (locs1 : List Loc), gZ D mLay dA mLive A reg H0 M1 H1 locs1 → kq M1 = some y → W p l e R s m args below meth c H1 locs1 cells slots Q (F0 m (pc + 3) ls rest)) : W p l e R s m args below meth c H locs cells slots Q (F0 m pc ls (.int x :: .ref (A m_o) :: rest)) := g_pi (C := RX11) (T := TX11) (ty := .int) S X Z hin rfl tyX11 tyX11_ok nmX11 mlv_o rfl 66 (by decide) ⟨rfl, rfl, rfl, rfl⟩ rfl hl (by decide) rfl rfl hdg h kk
end MR
