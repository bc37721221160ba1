/-! the class's world: N servers; cells by (tag, a, b) -/
def cMost (v : Nat) : Nat := if v = 192 then 24 else 6
def cTree (N t : Nat) : Prop := t < N ∨ (4 ≤ t ∧ t < 8)
def cVer (N v : Nat) : Prop := v < 48 * N ∨ v = 192
def cLive (N : Nat) : gI → Prop := fun i => match i.1 with
  | 0 => i.2.1 = 0 ∧ i.2.2 = 0
  | 1 => i.2.1 = 0 ∧ i.2.2 = 0
  | 2 => i.2.1 = 0 ∧ i.2.2 = 0
  | 3 => i.2.1 = 0 ∧ i.2.2 = 0
  | 4 => i.2.1 = 0 ∧ i.2.2 = 0
  | 5 => i.2.1 = 0 ∧ i.2.2 = 0
  | 6 => i.2.1 = 0 ∧ i.2.2 = 0
  | 7 => i.2.1 = 0 ∧ i.2.2 = 0
  | 8 => i.2.1 = 0 ∧ i.2.2 = 0
  | 9 => i.2.1 = 0 ∧ i.2.2 = 0
  | 10 => i.2.1 = 0 ∧ i.2.2 = 0
  | 11 => i.2.1 = 0 ∧ i.2.2 = 0
  | 12 => i.2.1 = 0 ∧ i.2.2 = 0
  | 13 => i.2.1 = 0 ∧ i.2.2 = 0
  | 14 => i.2.1 = 0 ∧ i.2.2 = 0
  | 15 => i.2.1 = 0 ∧ i.2.2 = 0
  | 20 => i.2.1 < N ∧ i.2.2 = 0
  | 21 => i.2.1 < N ∧ i.2.2 = 0
  | 22 => i.2.1 < N ∧ i.2.2 = 0
  | 30 => i.2.1 < 4 ∧ i.2.2 = 0
  | 31 => i.2.1 < 4 ∧ i.2.2 = 0
  | 32 => i.2.1 < 4 ∧ i.2.2 = 0
  | 33 => i.2.1 < 4 ∧ i.2.2 = 0
  | 34 => i.2.1 < 4 ∧ i.2.2 = 0
  | 40 => i.2.1 < 4 ∧ i.2.2 = 0
  | 41 => i.2.1 < 4 ∧ i.2.2 = 0
  | 42 => i.2.1 < 4 ∧ i.2.2 = 0
  | 43 => i.2.1 < 4 ∧ i.2.2 = 0
  | 44 => i.2.1 < 4 ∧ i.2.2 = 0
  | 45 => i.2.1 < 4 ∧ i.2.2 < 12
  | 50 => cTree N i.2.1 ∧ i.2.2 = 0
  | 51 => cTree N i.2.1 ∧ i.2.2 = 0
  | 52 => cTree N i.2.1 ∧ i.2.2 = 0
  | 53 => cTree N i.2.1 ∧ i.2.2 = 0
  | 54 => cTree N i.2.1 ∧ i.2.2 = 0
  | 55 => cTree N i.2.1 ∧ i.2.2 < 48
  | 56 => cTree N i.2.1 ∧ i.2.2 = 0
  | 57 => cTree N i.2.1 ∧ i.2.2 = 0
  | 58 => cTree N i.2.1 ∧ i.2.2 < 48
  | 60 => cVer N i.2.1 ∧ i.2.2 = 0
  | 61 => cVer N i.2.1 ∧ i.2.2 = 0
  | 62 => cVer N i.2.1 ∧ i.2.2 = 0
  | 63 => cVer N i.2.1 ∧ i.2.2 = 0
  | 64 => cVer N i.2.1 ∧ i.2.2 < cMost i.2.1
  | _ => False
def cF_X10 (a : Nat) : Nat → Nat × gI := fun k => match k with
  | 1 => (1, (1, 0, 0))
  | 2 => (1, (5, 0, 0))
  | 3 => (1, (7, 0, 0))
  | 4 => (1, (8, 0, 0))
  | 5 => (1, (9, 0, 0))
  | 6 => (1, (10, 0, 0))
  | 7 => (1, (11, 0, 0))
  | 8 => (1, (13, 0, 0))
  | _ => (0, (0, 0, 0))
def cF_X0 (a : Nat) : Nat → Nat × gI := fun k => match k with
  | 0 => (1, (2, 0, 0))
  | 1 => (1, (3, 0, 0))
  | 2 => (1, (4, 0, 0))
  | _ => (0, (0, 0, 0))
def cF_X5 (a : Nat) : Nat → Nat × gI := fun k => match k with
  | 1 => (1, (6, 0, 0))
  | _ => (0, (0, 0, 0))
def cF_X6 (a : Nat) : Nat → Nat × gI := fun k => match k with
  | 0 => (1, (1, 0, 0))
  | 1 => (1, (7, 0, 0))
  | 2 => (1, (8, 0, 0))
  | 3 => (1, (9, 0, 0))
  | _ => (0, (0, 0, 0))
def cF_X2 (a : Nat) : Nat → Nat × gI := fun k => match k with
  | 0 => (1, (10, 0, 0))
  | 1 => (1, (12, 0, 0))
  | 2 => (2, (30, 0, 0))
  | _ => (0, (0, 0, 0))
def cF_X4 (a : Nat) : Nat → Nat × gI := fun k => match k with
  | 0 => (1, (10, 0, 0))
  | 1 => (1, (1, 0, 0))
  | 2 => (1, (7, 0, 0))
  | 3 => (1, (60, 192, 0))
  | 4 => (1, (14, 0, 0))
  | 5 => (1, (15, 0, 0))
  | _ => (0, (0, 0, 0))
def cF_X7 (a : Nat) : Nat → Nat × gI := fun k => match k with
  | 0 => (1, (50, a, 0))
  | 1 => (1, (21, a, 0))
  | 2 => (1, (22, a, 0))
  | _ => (0, (0, 0, 0))
def cF_X1 (a : Nat) : Nat → Nat × gI := fun k => match k with
  | 1 => (1, (1, 0, 0))
  | 2 => (1, (9, 0, 0))
  | 3 => (1, (50, (4 + a), 0))
  | 4 => (1, (31, a, 0))
  | 5 => (1, (32, a, 0))
  | 6 => (1, (33, a, 0))
  | 7 => (1, (34, a, 0))
  | 8 => (1, (40, a, 0))
  | _ => (0, (0, 0, 0))
def cF_X3 (a : Nat) : Nat → Nat × gI := fun k => match k with
  | 0 => (1, (41, a, 0))
  | 1 => (1, (42, a, 0))
  | 2 => (1, (43, a, 0))
  | 3 => (1, (44, a, 0))
  | _ => (0, (0, 0, 0))
def cF_X8 (a : Nat) : Nat → Nat × gI := fun k => match k with
  | 0 => (1, (1, 0, 0))
  | 1 => (1, (51, a, 0))
  | 2 => (1, (52, a, 0))
  | 3 => (1, (53, a, 0))
  | 4 => (1, (54, a, 0))
  | 5 => (1, (56, a, 0))
  | 6 => (1, (57, a, 0))
  | _ => (0, (0, 0, 0))
def cF_X9 (a : Nat) : Nat → Nat × gI := fun k => match k with
  | 0 => (1, (61, a, 0))
  | 1 => (1, (62, a, 0))
  | 2 => (1, (63, a, 0))
  | _ => (0, (0, 0, 0))
def cLay (N : Nat) : gI → gL := fun i => match i.1 with
  | 0 => .inr (.inr (10, 9, cF_X10 i.2.1))
  | 1 => .inr (.inr (0, 4, cF_X0 i.2.1))
  | 2 => .inl (0, 48)
  | 3 => .inl (0, 48)
  | 4 => .inl (1, 48)
  | 5 => .inr (.inr (5, 3, cF_X5 i.2.1))
  | 6 => .inl (0, N)
  | 7 => .inr (.inl (2, N, fun k => (20, k, 0)))
  | 8 => .inr (.inl (3, 4, fun k => (30, k, 0)))
  | 9 => .inl (0, 8)
  | 10 => .inr (.inr (6, 4, cF_X6 i.2.1))
  | 11 => .inr (.inr (2, 5, cF_X2 i.2.1))
  | 12 => .inl (0, (N + 4))
  | 13 => .inr (.inr (4, 8, cF_X4 i.2.1))
  | 14 => .inl (0, (N + 4))
  | 15 => .inl (1, 48)
  | 20 => .inr (.inr (7, 4, cF_X7 i.2.1))
  | 21 => .inr (.inl (4, 48, fun k => (60, (48 * i.2.1 + k), 0)))
  | 22 => .inl (0, 48)
  | 30 => .inr (.inr (1, 12, cF_X1 i.2.1))
  | 31 => .inl (0, 48)
  | 32 => .inl (0, 48)
  | 33 => .inl (1, 48)
  | 34 => .inl (0, 48)
  | 40 => .inr (.inr (3, 5, cF_X3 i.2.1))
  | 41 => .inl (0, 12)
  | 42 => .inl (0, 12)
  | 43 => .inl (0, 12)
  | 44 => .inr (.inl (5, 12, fun k => (45, i.2.1, k)))
  | 45 => .inl (0, (N + 4))
  | 50 => .inr (.inr (8, 7, cF_X8 i.2.1))
  | 51 => .inl (1, 48)
  | 52 => .inl (0, 48)
  | 53 => .inl (0, 48)
  | 54 => .inr (.inl (5, 48, fun k => (55, i.2.1, k)))
  | 55 => .inl (0, (N + 4))
  | 56 => .inl (0, 48)
  | 57 => .inr (.inl (5, 48, fun k => (58, i.2.1, k)))
  | 58 => .inl (0, (N + 4))
  | 60 => .inr (.inr (9, 4, cF_X9 i.2.1))
  | 61 => .inl (0, (cMost i.2.1))
  | 62 => .inl (0, (cMost i.2.1))
  | 63 => .inr (.inl (5, (cMost i.2.1), fun k => (64, i.2.1, k)))
  | 64 => .inl (0, (N + 4))
  | _ => .inl (0, 0)
def cN (N : Nat) (i : gI) : Nat := match cLay N i with
  | .inl a => a.2
  | _ => 0
def cArr (N : Nat) (i : gI) : Prop := cLive N i ∧ cLay N i = .inl (0, cN N i)
theorem cl_one (N t : Nat) (h : t ≤ 15) : cLive N (t, 0, 0) := by
  rcases (show t = 0 ∨ t = 1 ∨ t = 2 ∨ t = 3 ∨ t = 4 ∨ t = 5 ∨ t = 6 ∨ t = 7 ∨ t = 8 ∨ t = 9 ∨ t = 10 ∨ t = 11 ∨ t = 12 ∨ t = 13 ∨ t = 14 ∨ t = 15 by omega) with rfl | rfl | rfl | rfl | rfl | rfl | rfl | rfl | rfl | rfl | rfl | rfl | rfl | rfl | rfl | rfl <;> exact ⟨rfl, rfl⟩
theorem cl_srv {N s : Nat} (h : s < N) : cLive N (20, s, 0) := ⟨h, rfl⟩
theorem cl_cli {N c : Nat} (h : c < 4) : cLive N (30, c, 0) := ⟨h, rfl⟩
theorem cl_st {N s : Nat} (h : cLive N (20, s, 0)) : cLive N (50, s, 0) := ⟨Or.inl h.1, rfl⟩
theorem cl_ct {N c : Nat} (h : cLive N (30, c, 0)) : cLive N (50, 4 + c, 0) := ⟨Or.inr ⟨by dsimp only; omega, by have := h.1; dsimp only at this ⊢; omega⟩, rfl⟩
theorem cl_cand (N : Nat) : cLive N (60, 192, 0) := ⟨Or.inr rfl, rfl⟩
theorem cl_ver {N s o : Nat} (h : cLive N (21, s, 0)) (ho : o < 48) : cLive N (60, 48 * s + o, 0) := ⟨Or.inl (by have := h.1; dsimp only at this ⊢; omega), rfl⟩
theorem cl_45 {N c i : Nat} (h : cLive N (44, c, 0)) (ho : i < 12) : cLive N (45, c, i) := ⟨h.1, ho⟩
theorem cl_55 {N t o : Nat} (h : cLive N (54, t, 0)) (ho : o < 48) : cLive N (55, t, o) := ⟨h.1, ho⟩
theorem cl_58 {N t o : Nat} (h : cLive N (57, t, 0)) (ho : o < 48) : cLive N (58, t, o) := ⟨h.1, ho⟩
theorem cl_64 {N v i : Nat} (h : cLive N (63, v, 0)) (ho : i < cMost v) : cLive N (64, v, i) := ⟨h.1, ho⟩
theorem cl_X7_versions {N a : Nat} (h : cLive N (20, a, 0)) : cLive N (21, a, 0) := ⟨h.1, h.2⟩
theorem cl_X7_marks {N a : Nat} (h : cLive N (20, a, 0)) : cLive N (22, a, 0) := ⟨h.1, h.2⟩
theorem cl_X1_priority {N a : Nat} (h : cLive N (30, a, 0)) : cLive N (31, a, 0) := ⟨h.1, h.2⟩
theorem cl_X1_promised {N a : Nat} (h : cLive N (30, a, 0)) : cLive N (32, a, 0) := ⟨h.1, h.2⟩
theorem cl_X1_dirty {N a : Nat} (h : cLive N (30, a, 0)) : cLive N (33, a, 0) := ⟨h.1, h.2⟩
theorem cl_X1_used {N a : Nat} (h : cLive N (30, a, 0)) : cLive N (34, a, 0) := ⟨h.1, h.2⟩
theorem cl_X1_log {N a : Nat} (h : cLive N (30, a, 0)) : cLive N (40, a, 0) := ⟨h.1, h.2⟩
theorem cl_X3_kind {N a : Nat} (h : cLive N (40, a, 0)) : cLive N (41, a, 0) := ⟨h.1, h.2⟩
theorem cl_X3_object {N a : Nat} (h : cLive N (40, a, 0)) : cLive N (42, a, 0) := ⟨h.1, h.2⟩
theorem cl_X3_directory {N a : Nat} (h : cLive N (40, a, 0)) : cLive N (43, a, 0) := ⟨h.1, h.2⟩
theorem cl_X3_counts {N a : Nat} (h : cLive N (40, a, 0)) : cLive N (44, a, 0) := ⟨h.1, h.2⟩
theorem cl_X8_held {N a : Nat} (h : cLive N (50, a, 0)) : cLive N (51, a, 0) := ⟨h.1, h.2⟩
theorem cl_X8_value {N a : Nat} (h : cLive N (50, a, 0)) : cLive N (52, a, 0) := ⟨h.1, h.2⟩
theorem cl_X8_size {N a : Nat} (h : cLive N (50, a, 0)) : cLive N (53, a, 0) := ⟨h.1, h.2⟩
theorem cl_X8_counts {N a : Nat} (h : cLive N (50, a, 0)) : cLive N (54, a, 0) := ⟨h.1, h.2⟩
theorem cl_X8_state {N a : Nat} (h : cLive N (50, a, 0)) : cLive N (56, a, 0) := ⟨h.1, h.2⟩
theorem cl_X8_goneCounts {N a : Nat} (h : cLive N (50, a, 0)) : cLive N (57, a, 0) := ⟨h.1, h.2⟩
theorem cl_X9_value {N a : Nat} (h : cLive N (60, a, 0)) : cLive N (61, a, 0) := ⟨h.1, h.2⟩
theorem cl_X9_size {N a : Nat} (h : cLive N (60, a, 0)) : cLive N (62, a, 0) := ⟨h.1, h.2⟩
theorem cl_X9_counts {N a : Nat} (h : cLive N (60, a, 0)) : cLive N (63, a, 0) := ⟨h.1, h.2⟩
def cNF : List (String × Nat × String × String × String × String) := [("ReplicaFiles", 106, "ReplicaFiles$Server", "losesPhase", "Z", "ReplicaFiles"), ("ReplicaFiles", 120, "ReplicaFiles$Client", "priority", "[I", "ReplicaFiles"), ("ReplicaFiles", 131, "ReplicaFiles$Client", "tree", "LReplicaFiles$Tree;", "ReplicaFiles"), ("ReplicaFiles", 141, "ReplicaFiles$Tree", "value", "[I", "ReplicaFiles"), ("ReplicaFiles", 195, "ReplicaFiles$Client", "log", "LReplicaFiles$Log;", "ReplicaFiles"), ("ReplicaFiles", 199, "ReplicaFiles$Log", "length", "I", "ReplicaFiles"), ("ReplicaFiles", 208, "ReplicaFiles$Catalog", "made", "I", "ReplicaFiles"), ("ReplicaFiles", 231, "ReplicaFiles$Server", "versions", "[LReplicaFiles$Versions;", "ReplicaFiles"), ("ReplicaFiles", 247, "ReplicaFiles$Server", "tree", "LReplicaFiles$Tree;", "ReplicaFiles"), ("ReplicaFiles", 248, "ReplicaFiles$Tree", "held", "[Z", "ReplicaFiles"), ("ReplicaFiles", 252, "ReplicaFiles$Tree", "size", "[I", "ReplicaFiles"), ("ReplicaFiles", 255, "ReplicaFiles$Versions", "length", "I", "ReplicaFiles"), ("ReplicaFiles", 259, "ReplicaFiles$Tree", "counts", "[[I", "ReplicaFiles"), ("ReplicaFiles", 263, "ReplicaFiles$Versions", "counts", "[[I", "ReplicaFiles"), ("ReplicaFiles", 264, "ReplicaFiles$Versions", "value", "[I", "ReplicaFiles"), ("ReplicaFiles", 265, "ReplicaFiles$Versions", "size", "[I", "ReplicaFiles"), ("ReplicaFiles", 269, "ReplicaFiles$Catalog", "name", "[I", "ReplicaFiles"), ("ReplicaFiles", 272, "ReplicaFiles$Tree", "state", "[I", "ReplicaFiles"), ("ReplicaFiles", 275, "ReplicaFiles$Catalog", "isDirectory", "[Z", "ReplicaFiles"), ("ReplicaFiles", 278, "ReplicaFiles$Client", "promised", "[I", "ReplicaFiles"), ("ReplicaFiles", 281, "ReplicaFiles$Client", "dirty", "[Z", "ReplicaFiles"), ("ReplicaFiles", 284, "ReplicaFiles$Log", "kind", "[I", "ReplicaFiles"), ("ReplicaFiles", 287, "ReplicaFiles$Log", "object", "[I", "ReplicaFiles"), ("ReplicaFiles", 290, "ReplicaFiles$Log", "directory", "[I", "ReplicaFiles"), ("ReplicaFiles", 293, "ReplicaFiles$Net", "up", "I", "ReplicaFiles"), ("ReplicaFiles", 314, "ReplicaFiles$Client", "number", "I", "ReplicaFiles"), ("ReplicaFiles$Client", 118, "ReplicaFiles$Tree", "counts", "[[I", "ReplicaFiles"), ("ReplicaFiles$Client", 158, "ReplicaFiles$Log", "length", "I", "ReplicaFiles"), ("ReplicaFiles$Client", 60, "ReplicaFiles$Tree", "held", "[Z", "ReplicaFiles"), ("ReplicaFiles$Client", 71, "ReplicaFiles$Tree", "size", "[I", "ReplicaFiles"), ("ReplicaFiles$Client", 78, "ReplicaFiles$Catalog", "isDirectory", "[Z", "ReplicaFiles"), ("ReplicaFiles$Client", 83, "ReplicaFiles$Catalog", "made", "I", "ReplicaFiles"), ("ReplicaFiles$HandingIn", 102, "ReplicaFiles$Tree", "counts", "[[I", "ReplicaFiles"), ("ReplicaFiles$HandingIn", 115, "ReplicaFiles$Client", "tree", "LReplicaFiles$Tree;", "ReplicaFiles"), ("ReplicaFiles$HandingIn", 116, "ReplicaFiles$Tree", "value", "[I", "ReplicaFiles"), ("ReplicaFiles$HandingIn", 119, "ReplicaFiles$Tree", "size", "[I", "ReplicaFiles"), ("ReplicaFiles$HandingIn", 133, "ReplicaFiles$Server", "versions", "[LReplicaFiles$Versions;", "ReplicaFiles"), ("ReplicaFiles$HandingIn", 143, "ReplicaFiles$Versions", "length", "I", "ReplicaFiles"), ("ReplicaFiles$HandingIn", 147, "ReplicaFiles$Client", "versionsTold", "I", "ReplicaFiles"), ("ReplicaFiles$HandingIn", 154, "ReplicaFiles$Client", "number", "I", "ReplicaFiles"), ("ReplicaFiles$HandingIn", 169, "ReplicaFiles$Tree", "state", "[I", "ReplicaFiles"), ("ReplicaFiles$HandingIn", 19, "ReplicaFiles$Replicas", "clients", "[LReplicaFiles$Client;", "ReplicaFiles"), ("ReplicaFiles$HandingIn", 40, "ReplicaFiles$Client", "log", "LReplicaFiles$Log;", "ReplicaFiles"), ("ReplicaFiles$HandingIn", 46, "ReplicaFiles$Log", "length", "I", "ReplicaFiles"), ("ReplicaFiles$HandingIn", 51, "ReplicaFiles$Log", "kind", "[I", "ReplicaFiles"), ("ReplicaFiles$HandingIn", 54, "ReplicaFiles$Log", "object", "[I", "ReplicaFiles"), ("ReplicaFiles$HandingIn", 57, "ReplicaFiles$Log", "counts", "[[I", "ReplicaFiles"), ("ReplicaFiles$HandingIn", 65, "ReplicaFiles$Log", "directory", "[I", "ReplicaFiles"), ("ReplicaFiles$HandingIn", 79, "ReplicaFiles$Replicas", "servers", "[LReplicaFiles$Server;", "ReplicaFiles"), ("ReplicaFiles$HandingIn", 83, "ReplicaFiles$Server", "tree", "LReplicaFiles$Tree;", "ReplicaFiles"), ("ReplicaFiles$HandingIn", 89, "ReplicaFiles$Tree", "held", "[Z", "ReplicaFiles"), ("ReplicaFiles$HandingIn", 95, "ReplicaFiles$Replicas", "tallies", "[I", "ReplicaFiles"), ("ReplicaFiles$Meeting", 104, "ReplicaFiles$Catalog", "parent", "[I", "ReplicaFiles"), ("ReplicaFiles$Meeting", 122, "ReplicaFiles$Tree", "goneCounts", "[[I", "ReplicaFiles"), ("ReplicaFiles$Meeting", 130, "ReplicaFiles$Tree", "counts", "[[I", "ReplicaFiles"), ("ReplicaFiles$Meeting", 137, "ReplicaFiles$Server", "versions", "[LReplicaFiles$Versions;", "ReplicaFiles"), ("ReplicaFiles$Meeting", 141, "ReplicaFiles$Versions", "length", "I", "ReplicaFiles"), ("ReplicaFiles$Meeting", 144, "ReplicaFiles$Versions", "counts", "[[I", "ReplicaFiles"), ("ReplicaFiles$Meeting", 177, "ReplicaFiles$Tree", "held", "[Z", "ReplicaFiles"), ("ReplicaFiles$Meeting", 19, "ReplicaFiles$Replicas", "catalog", "LReplicaFiles$Catalog;", "ReplicaFiles"), ("ReplicaFiles$Meeting", 199, "ReplicaFiles$Tree", "value", "[I", "ReplicaFiles"), ("ReplicaFiles$Meeting", 202, "ReplicaFiles$Tree", "size", "[I", "ReplicaFiles"), ("ReplicaFiles$Meeting", 209, "ReplicaFiles$Versions", "value", "[I", "ReplicaFiles"), ("ReplicaFiles$Meeting", 210, "ReplicaFiles$Versions", "size", "[I", "ReplicaFiles"), ("ReplicaFiles$Meeting", 226, "ReplicaFiles$Replicas", "tallies", "[I", "ReplicaFiles"), ("ReplicaFiles$Meeting", 26, "ReplicaFiles$Replicas", "servers", "[LReplicaFiles$Server;", "ReplicaFiles"), ("ReplicaFiles$Meeting", 51, "ReplicaFiles$Catalog", "made", "I", "ReplicaFiles"), ("ReplicaFiles$Meeting", 60, "ReplicaFiles$Catalog", "isDirectory", "[Z", "ReplicaFiles"), ("ReplicaFiles$Meeting", 74, "ReplicaFiles$Server", "tree", "LReplicaFiles$Tree;", "ReplicaFiles"), ("ReplicaFiles$Meeting", 80, "ReplicaFiles$Tree", "state", "[I", "ReplicaFiles"), ("ReplicaFiles$Replicas", 102, "ReplicaFiles$Server", "losesPhase", "Z", "ReplicaFiles"), ("ReplicaFiles$Replicas", 110, "ReplicaFiles$Client", "promised", "[I", "ReplicaFiles"), ("ReplicaFiles$Replicas", 115, "ReplicaFiles$Client", "number", "I", "ReplicaFiles"), ("ReplicaFiles$Replicas", 119, "ReplicaFiles$Server", "versions", "[LReplicaFiles$Versions;", "ReplicaFiles"), ("ReplicaFiles$Replicas", 123, "ReplicaFiles$Versions", "value", "[I", "ReplicaFiles"), ("ReplicaFiles$Replicas", 128, "ReplicaFiles$Versions", "size", "[I", "ReplicaFiles"), ("ReplicaFiles$Replicas", 153, "ReplicaFiles$Catalog", "made", "I", "ReplicaFiles"), ("ReplicaFiles$Replicas", 31, "ReplicaFiles$Server", "tree", "LReplicaFiles$Tree;", "ReplicaFiles"), ("ReplicaFiles$Replicas", 37, "ReplicaFiles$Tree", "held", "[Z", "ReplicaFiles"), ("ReplicaFiles$Replicas", 47, "ReplicaFiles$Tree", "counts", "[[I", "ReplicaFiles"), ("ReplicaFiles$Replicas", 95, "ReplicaFiles$Server", "marks", "[I", "ReplicaFiles"), ("ReplicaFiles$Server", 30, "ReplicaFiles$Tree", "held", "[Z", "ReplicaFiles"), ("ReplicaFiles$Server", 37, "ReplicaFiles$Versions", "length", "I", "ReplicaFiles"), ("ReplicaFiles$Server", 52, "ReplicaFiles$Tree", "counts", "[[I", "ReplicaFiles"), ("ReplicaFiles$Server", 67, "ReplicaFiles$Tree", "value", "[I", "ReplicaFiles"), ("ReplicaFiles$Server", 70, "ReplicaFiles$Tree", "size", "[I", "ReplicaFiles"), ("ReplicaFiles$Server", 81, "ReplicaFiles$Versions", "value", "[I", "ReplicaFiles"), ("ReplicaFiles$Server", 82, "ReplicaFiles$Versions", "size", "[I", "ReplicaFiles"), ("ReplicaFiles$Tree", 51, "ReplicaFiles$Catalog", "made", "I", "ReplicaFiles"), ("ReplicaFiles$Tree", 57, "ReplicaFiles$Catalog", "parent", "[I", "ReplicaFiles"), ("ReplicaFiles$Tree", 71, "ReplicaFiles$Catalog", "name", "[I", "ReplicaFiles")]
def cNM : List (String × Nat × MethodName × String) := [("ReplicaFiles$HandingIn", 103, ⟨"ReplicaFiles", "isSame", "([I[I)Z"⟩, "ReplicaFiles"), ("ReplicaFiles$HandingIn", 150, ⟨"ReplicaFiles", "assign", "([I[I)V"⟩, "ReplicaFiles"), ("ReplicaFiles$HandingIn", 157, ⟨"ReplicaFiles", "raise", "([I[I)V"⟩, "ReplicaFiles"), ("ReplicaFiles$HandingIn", 172, ⟨"ReplicaFiles", "isAtMost", "([I[I)Z"⟩, "ReplicaFiles"), ("ReplicaFiles$Log", 34, ⟨"ReplicaFiles", "assign", "([I[I)V"⟩, "ReplicaFiles"), ("ReplicaFiles$Meeting", 113, ⟨"ReplicaFiles", "isIn", "(II)Z"⟩, "ReplicaFiles"), ("ReplicaFiles$Meeting", 126, ⟨"ReplicaFiles", "raise", "([I[I)V"⟩, "ReplicaFiles"), ("ReplicaFiles$Meeting", 133, ⟨"ReplicaFiles", "isAtMost", "([I[I)Z"⟩, "ReplicaFiles"), ("ReplicaFiles$Meeting", 180, ⟨"ReplicaFiles", "assign", "([I[I)V"⟩, "ReplicaFiles"), ("ReplicaFiles$Net", 22, ⟨"ReplicaFiles", "isIn", "(II)Z"⟩, "ReplicaFiles"), ("ReplicaFiles$Replicas", 27, ⟨"ReplicaFiles", "isIn", "(II)Z"⟩, "ReplicaFiles"), ("ReplicaFiles$Replicas", 51, ⟨"ReplicaFiles", "isSame", "([I[I)Z"⟩, "ReplicaFiles"), ("ReplicaFiles$Replicas", 67, ⟨"ReplicaFiles", "isAtMost", "([I[I)Z"⟩, "ReplicaFiles"), ("ReplicaFiles$Server", 56, ⟨"ReplicaFiles", "assign", "([I[I)V"⟩, "ReplicaFiles"), ("ReplicaFiles$Tree", 47, ⟨"ReplicaFiles", "assign", "([I[I)V"⟩, "ReplicaFiles"), ("ReplicaFiles$Tree", 76, ⟨"ReplicaFiles", "isSame", "([I[I)Z"⟩, "ReplicaFiles"), ("ReplicaFiles$Versions", 29, ⟨"ReplicaFiles", "assign", "([I[I)V"⟩, "ReplicaFiles"), ("ReplicaFiles$Versions", 43, ⟨"ReplicaFiles", "isSame", "([I[I)Z"⟩, "ReplicaFiles"), ("ReplicaFiles$Versions", 58, ⟨"ReplicaFiles", "isAtMost", "([I[I)Z"⟩, "ReplicaFiles")]
def cNw (U : State) : Prop := (∀ q ∈ cNF, va_Nw (.fieldLinkNest q.1 q.2.1 q.2.2.1 q.2.2.2.1 q.2.2.2.2.1 q.2.2.2.2.2) U) ∧ ∀ q ∈ cNM, va_Nw (.methodLinkNest q.1 q.2.1 q.2.2.1 q.2.2.2) U
theorem cNw.warm {s U : State} (hW : s.WarmedH U.vm) (h : cNw s) : cNw U := ⟨fun q hq => va_Nw.warmF hW (h.1 q hq), fun q hq => va_Nw.warmM hW (h.2 q hq)⟩
theorem cNw.same {s U : State} (hv : s.vm = U.vm) (h : cNw s) : cNw U := ⟨fun q hq => va_Nw.same rfl hv (h.1 q hq), fun q hq => va_Nw.same rfl hv (h.2 q hq)⟩
/-! the rows that the class needs beyond the reference's: references in arrays, a field that changes its cell, nest mates -/
def ix {β : Type} (x : Int32) (n : Nat) (k : Nat → Option β) : Option β := match gin x n with
  | true => k x.toNatClampNeg
  | false => none
theorem ix_e {β : Type} {x : Int32} {n : Nat} {k : Nat → Option β} {y : β} (h : ix x n k = some y) : x.toNatClampNeg < n ∧ k x.toNatClampNeg = some y := by
  unfold ix at h
  cases e : gin x n with
  | true => rw [e] at h; exact ⟨Nat.not_le.mp fun q => gin_in e (Or.inr q), h⟩
  | false => rw [e] at h; cases h
theorem ix_in {β : Type} {x : Int32} {n : Nat} {k : Nat → Option β} {y : β} (h : ix x n k = some y) : vp_in x n := by
  unfold ix at h
  cases e : gin x n with
  | true => exact gin_in e
  | false => rw [e] at h; cases h
section GR2
variable {p : Program} {l : Launch} {e : Env} {R : Room} {s : State} {m : MethodId} {args : Array Value} {below : List Frame} {meth : Method} {c : Code} {H : Heap} {locs : List Loc} {cells slots : Nat} {Q : State → Prop}
variable {cc : ByteArray} {pc nL : Nat} {ls : Array Slot} {rest : List Value} {Ts : List Cond} {own : String}
variable {D : va_G} {cl : List vw_C} {lay : gI → gL} {dA : Nat → ClassId} {live : gI → Prop} {A : gI → Nat} {reg : Nat → Prop} {H0 : Heap} {M : gM}
theorem g_aald {i : gI} {ca n : Nat} {g : Nat → gI} {ty : FieldType} (hty : (gT dA)[ca]? = some (dA ca, ty) ∧ ty.isReference = true) (S : CallFix p m c cc nL s args Ts own) (X : gX D cl dA live A reg s) (Z : gZ D lay dA live A reg H0 M H locs) (hi : live i) (hl : lay i = .inr (.inl (ca, n, g))) (hdg : decode cc pc = .ok (.aaload, 1)) {x : Int32} {β : Type} {k : Nat → Option β} {y : β} (h : ix x n k = some y)
    (kk : ∀ v : Nat, v < n → k v = some y → W p l e R s m args below meth c H locs cells slots Q (F0 m (pc + 1) ls (.ref (A (g v)) :: rest))) : W p l e R s m args below meth c H locs cells slots Q (F0 m pc ls (.int x :: .ref (A i) :: rest)) := by
  obtain ⟨hx, hb, hml, hown, hts⟩ := S
  have hin := ix_in h
  obtain ⟨hlt, h⟩ := ix_e h
  have h0 := Z.1 i hi
  unfold gAt at h0
  rw [hl] at h0
  exact W.aald (v := .ref (A (g x.toNatClampNeg))) (ty := ty) hx hb h0 ((X.1.2 ca _ hty.1).1 n (fun j => .ref (A (g j)))) hty.2 (fun q => by cases q) (by rw [arrV_size]; exact hin) (by rw [arrV_read _ _ hlt]) rfl rfl hdg (kk _ hlt h)
theorem g_alI {i : gI} {ca n : Nat} {ty : FieldType} (hty : (gT dA)[ca]? = some (dA ca, ty)) (S : CallFix p m c cc nL s args Ts own) (X : gX D cl dA live A reg s) (Z : gZ D lay dA live A reg H0 M H locs) (hi : live i) (hl : lay i = .inl (ca, n)) (hdg : decode cc pc = .ok (.arraylength, 1))
    (kk : W p l e R s m args below meth c H locs cells slots Q (F0 m (pc + 1) ls (.int (nI n) :: rest))) : W p l e R s m args below meth c H locs cells slots Q (F0 m pc ls (.ref (A i) :: rest)) := by
  have h0 := Z.1 i hi
  unfold gAt at h0
  rw [hl] at h0
  exact W.alen (n := nI n) S.1 S.2.1 h0 ((X.1.2 ca _ hty).1 n (fun j => .int (M i j))) (by rw [arrV_size]; rfl) rfl rfl hdg kk
theorem g_alR {i : gI} {ca n : Nat} {g : Nat → gI} {ty : FieldType} (hty : (gT dA)[ca]? = some (dA ca, ty)) (S : CallFix p m c cc nL s args Ts own) (X : gX D cl dA live A reg s) (Z : gZ D lay dA live A reg H0 M H locs) (hi : live i) (hl : lay i = .inr (.inl (ca, n, g))) (hdg : decode cc pc = .ok (.arraylength, 1))
    (kk : W p l e R s m args below meth c H locs cells slots Q (F0 m (pc + 1) ls (.int (nI n) :: rest))) : W p l e R s m args below meth c H locs cells slots Q (F0 m pc ls (.ref (A i) :: rest)) := by
  have h0 := Z.1 i hi
  unfold gAt at h0
  rw [hl] at h0
  exact W.alen (n := nI n) S.1 S.2.1 h0 ((X.1.2 ca _ hty).1 n (fun j => .ref (A (g j)))) (by rw [arrV_size]; rfl) rfl rfl hdg kk
theorem g_giN {C host : String} {T : u_T} {N ci index : Nat} {fl : Nat → Nat × gI} (S : CallFix p m c cc nL s args Ts own) (X : gX D cl dA live A reg s) (Z : gZ D lay dA live A reg H0 M H locs) (hin : ∀ w ∈ u_ws C T N, w ∈ Ts) (hc : cl[ci]? = some (C, T, N)) {i : gI} (hi : live i) (hl : lay i = .inr (.inr (ci, N, fl))) (k : Nat) (hk : k < N) {f d : String} (ht : (T k).1 = C ∧ (T k).2.1 = f ∧ (T k).2.2.1 = d) (hf : (fl k).1 = 0) (hlink : (Cond.fieldLinkNest own index C f d host).before args s = true) (hdg : decode cc pc = .ok (.getfield index, 3))
    (kk : W p l e R s m args below meth c H locs cells slots Q (F0 m (pc + 3) ls (.int (M i k) :: rest))) : W p l e R s m args below meth c H locs cells slots Q (F0 m pc ls (.ref (A i) :: rest)) := by
  obtain ⟨hx, hb, hml, hown, hts⟩ := S
  obtain ⟨hK, hJ, hR⟩ := X
  have h0 := Z.1 i hi
  unfold gAt at h0
  rw [hl] at h0
  obtain ⟨cell, q1, q2, q3, q4⟩ := h0
  obtain ⟨hS, hfc, kC, hkC, hkind⟩ := hK.1 ci _ hc
  obtain ⟨cf, kf, fi, fd, hfi, hsl⟩ := hS k hk
  obtain ⟨t1, t2, t3⟩ := ht
  have hfi' := hfi
  dsimp only at hfi'
  rw [t1, t2, t3] at hfi'
  refine va_Wgetf hx hb hown hlink hfi' (u_facts hfc hkC (u_lays hts hin hk) hfi).1 q1 (by rw [q3]; exact fun h => by cases h) (v := .int (M i k)) ?_ rfl rfl hdg kk
  rw [hsl, q4 k hk]
  simp [gF, hf]
theorem g_grN {C host : String} {T : u_T} {N ci index : Nat} {fl : Nat → Nat × gI} (S : CallFix p m c cc nL s args Ts own) (X : gX D cl dA live A reg s) (Z : gZ D lay dA live A reg H0 M H locs) (hin : ∀ w ∈ u_ws C T N, w ∈ Ts) (hc : cl[ci]? = some (C, T, N)) {i : gI} (hi : live i) (hl : lay i = .inr (.inr (ci, N, fl))) (k : Nat) (hk : k < N) {f d : String} (ht : (T k).1 = C ∧ (T k).2.1 = f ∧ (T k).2.2.1 = d) {j : gI} (hf : fl k = (1, j)) (hlink : (Cond.fieldLinkNest own index C f d host).before args s = true) (hdg : decode cc pc = .ok (.getfield index, 3))
    (kk : W p l e R s m args below meth c H locs cells slots Q (F0 m (pc + 3) ls (.ref (A j) :: rest))) : W p l e R s m args below meth c H locs cells slots Q (F0 m pc ls (.ref (A i) :: rest)) := by
  obtain ⟨hx, hb, hml, hown, hts⟩ := S
  obtain ⟨hK, hJ, hR⟩ := X
  have h0 := Z.1 i hi
  unfold gAt at h0
  rw [hl] at h0
  obtain ⟨cell, q1, q2, q3, q4⟩ := h0
  obtain ⟨hS, hfc, kC, hkC, hkind⟩ := hK.1 ci _ hc
  obtain ⟨cf, kf, fi, fd, hfi, hsl⟩ := hS k hk
  obtain ⟨t1, t2, t3⟩ := ht
  have hfi' := hfi
  dsimp only at hfi'
  rw [t1, t2, t3] at hfi'
  refine va_Wgetf hx hb hown hlink hfi' (u_facts hfc hkC (u_lays hts hin hk) hfi).1 q1 (by rw [q3]; exact fun h => by cases h) (v := .ref (A j)) ?_ rfl rfl hdg kk
  rw [hsl, q4 k hk]
  simp [gF, hf]
/-- a field whose cell changes: which one stands in the store -/
theorem g_g2 {C : String} {T : u_T} {N ci index : Nat} {fl : Nat → Nat × gI} (S : CallFix p m c cc nL s args Ts own) (X : gX D cl dA live A reg s) (Z : gZ D lay dA live A reg H0 M H locs) (hin : ∀ w ∈ u_ws C T N, w ∈ Ts) (hc : cl[ci]? = some (C, T, N)) {i : gI} (hi : live i) (hl : lay i = .inr (.inr (ci, N, fl))) (k : Nat) (hk : k < N) {f d : String} (ht : (T k).1 = C ∧ (T k).2.1 = f ∧ (T k).2.2.1 = d) {j : gI} (hf : fl k = (2, j)) (hlink : (Cond.fieldLink own index C f d).before args s = true) (hdg : decode cc pc = .ok (.getfield index, 3))
    (kk : W p l e R s m args below meth c H locs cells slots Q (F0 m (pc + 3) ls (.ref (A (j.1, (M i k).toNatClampNeg, 0)) :: rest))) : W p l e R s m args below meth c H locs cells slots Q (F0 m pc ls (.ref (A i) :: rest)) := by
  obtain ⟨hx, hb, hml, hown, hts⟩ := S
  obtain ⟨hK, hJ, hR⟩ := X
  have h0 := Z.1 i hi
  unfold gAt at h0
  rw [hl] at h0
  obtain ⟨cell, q1, q2, q3, q4⟩ := h0
  obtain ⟨hS, hfc, kC, hkC, hkind⟩ := hK.1 ci _ hc
  obtain ⟨cf, kf, fi, fd, hfi, hsl⟩ := hS k hk
  obtain ⟨t1, t2, t3⟩ := ht
  have hfi' := hfi
  dsimp only at hfi'
  rw [t1, t2, t3] at hfi'
  refine W.getf hx hb hown hlink hfi' (u_facts hfc hkC (u_lays hts hin hk) hfi).1 q1 (by rw [q3]; exact fun h => by cases h) (v := .ref (A (j.1, (M i k).toNatClampNeg, 0))) ?_ rfl rfl hdg kk
  rw [hsl, q4 k hk]
  simp [gF, hf]
theorem g_p2 {C : String} {T : u_T} {N ci index : Nat} {fl : Nat → Nat × gI} (S : CallFix p m c cc nL s args Ts own) (X : gX D cl dA live A reg s) (Z : gZ D lay dA live A reg H0 M H locs) (hin : ∀ w ∈ u_ws C T N, w ∈ Ts) (hc : cl[ci]? = some (C, T, N)) (ty0 : Nat → FieldType) (hty : ∀ k, k < N → parseFieldDescriptor (T k).2.2.1 = some (ty0 k)) (hnm : ∀ a, a < N → ∀ b, b < N → a ≠ b → (T a).2.1 ≠ (T b).2.1) {i : gI} (hi : live i) (hl : lay i = .inr (.inr (ci, N, fl))) (k : Nat) (hk : k < N) {f d : String} (ht : (T k).1 = C ∧ (T k).2.1 = f ∧ (T k).2.2.1 = d ∧ (T k).2.2.2 = false) {j : gI} (hf : fl k = (2, j)) (hlink : (Cond.fieldLink own index C f d).before args s = true) {v : Nat} {ty : FieldType} (hd : parseFieldDescriptor d = some ty) (hv : v < 2 ^ 31) (hn : narrow ty (.ref (A (j.1, v, 0))) = .ref (A (j.1, v, 0))) (hfit : fits ty (.ref (A (j.1, v, 0))) = true) (hdg : decode cc pc = .ok (.putfield index, 3))
    {β : Type} {kq : gM → Option β} {y : β} (h : lt (gset M i k (nI v)) kq = some y)
    (kk : ∀ (M1 : gM) (H1 : Heap) (locs1 : List Loc), gZ D lay dA live A reg H0 M1 H1 locs1 → kq M1 = some y → W p l e R s m args below meth c H1 locs1 cells slots Q (F0 m (pc + 3) ls rest)) : W p l e R s m args below meth c H locs cells slots Q (F0 m pc ls (.ref (A (j.1, v, 0)) :: .ref (A i) :: rest)) := by
  obtain ⟨hx, hb, hml, hown, hts⟩ := S
  obtain ⟨hK, hJ, hR⟩ := X
  have hap := va_apart (own := own) hts hin ty0 hty hnm hK hc
  have h0 := Z.1 i hi
  unfold gAt at h0
  rw [hl] at h0
  obtain ⟨cell, q1, q2, q3, q4⟩ := h0
  obtain ⟨hS, hfc, kC, hkC, hkind⟩ := hK.1 ci _ hc
  obtain ⟨cf, kf, fi, fd, hfi, hsl⟩ := hS k hk
  obtain ⟨t1, t2, t3, t4⟩ := ht
  have hlay := hts _ (hin _ (u_in_lay hk))
  unfold u_lay at hlay
  rw [if_neg (by rw [t4]; decide)] at hlay
  have hst := (u_facts hfc hkC (u_lays hts hin hk) hfi).1
  have h6 := u_store (v := .ref (A (j.1, v, 0))) hfc hkC hkind hlay hfi (by rw [t3]; exact hd) hn hfit
  have hfi' := hfi
  dsimp only at hfi'
  rw [t1, t2, t3] at hfi'
  refine W.putK hx hb (f := fd) ⟨hown, hlink, ⟨_, _, _, hfi'⟩, hst⟩ (by rw [q2]; exact h6) q1 q3 (by rw [hsl]; exact k2_hasslot (q4 k hk)) rfl rfl hdg fun H' e1 e2 e3 => ?_
  rw [hsl] at e1 ⊢
  refine kk _ H' _ ⟨Z.1.put hJ hi e3 ?_, Z.2.put e2 e3 (hR i hi)⟩ h
  unfold gAt
  rw [hl]
  refine t_OB.to (V := updV (fun k => gF A M i k (fl k)) k (.ref (A (j.1, v, 0)))) ⟨_, e1, q2, q3, t_set q4 hap hk _⟩ (fun q _ => ?_)
  by_cases ej : q = k
  · subst ej
    simp [updV, gF, gset, hf, nI_clamp hv]
  · simp only [updV, if_neg ej]
    unfold gF
    simp [gset, ej]
theorem g_piN {C host : String} {T : u_T} {N ci index : Nat} {fl : Nat → Nat × gI} (S : CallFix p m c cc nL s args Ts own) (X : gX D cl dA live A reg s) (Z : gZ D lay dA live A reg H0 M H locs) (hin : ∀ w ∈ u_ws C T N, w ∈ Ts) (hc : cl[ci]? = some (C, T, N)) (ty0 : Nat → FieldType) (hty : ∀ k, k < N → parseFieldDescriptor (T k).2.2.1 = some (ty0 k)) (hnm : ∀ a, a < N → ∀ b, b < N → a ≠ b → (T a).2.1 ≠ (T b).2.1) {i : gI} (hi : live i) (hl : lay i = .inr (.inr (ci, N, fl))) (k : Nat) (hk : k < N) {f d : String} (ht : (T k).1 = C ∧ (T k).2.1 = f ∧ (T k).2.2.1 = d ∧ (T k).2.2.2 = false) (hf : (fl k).1 = 0) (hlink : (Cond.fieldLinkNest own index C f d host).before args s = true) {x : Int32} {ty : FieldType} (hd : parseFieldDescriptor d = some ty) (hn : narrow ty (.int x) = .int x) (hfit : fits ty (.int x) = true) (hdg : decode cc pc = .ok (.putfield index, 3))
    {β : Type} {kq : gM → Option β} {y : β} (h : lt (gset M i k x) kq = some y)
    (kk : ∀ (M1 : gM) (H1 : Heap) (locs1 : List Loc), gZ D lay dA live A reg H0 M1 H1 locs1 → kq M1 = some y → W p l e R s m args below meth c H1 locs1 cells slots Q (F0 m (pc + 3) ls rest)) : W p l e R s m args below meth c H locs cells slots Q (F0 m pc ls (.int x :: .ref (A i) :: rest)) := by
  obtain ⟨hx, hb, hml, hown, hts⟩ := S
  obtain ⟨hK, hJ, hR⟩ := X
  have hap := va_apart (own := own) hts hin ty0 hty hnm hK hc
  have h0 := Z.1 i hi
  unfold gAt at h0
  rw [hl] at h0
  obtain ⟨cell, q1, q2, q3, q4⟩ := h0
  obtain ⟨hS, hfc, kC, hkC, hkind⟩ := hK.1 ci _ hc
  obtain ⟨cf, kf, fi, fd, hfi, hsl⟩ := hS k hk
  obtain ⟨t1, t2, t3, t4⟩ := ht
  have hlay := hts _ (hin _ (u_in_lay hk))
  unfold u_lay at hlay
  rw [if_neg (by rw [t4]; decide)] at hlay
  have hst := (u_facts hfc hkC (u_lays hts hin hk) hfi).1
  have h6 := u_store (v := .int x) hfc hkC hkind hlay hfi (by rw [t3]; exact hd) hn hfit
  have hfi' := hfi
  dsimp only at hfi'
  rw [t1, t2, t3] at hfi'
  refine va_WputK hx hb (f := fd) hown hlink hfi' hst (by rw [q2]; exact h6) q1 q3 (by rw [hsl]; exact k2_hasslot (q4 k hk)) rfl rfl hdg fun H' e1 e2 e3 => ?_
  rw [hsl] at e1 ⊢
  refine kk _ H' _ ⟨Z.1.put hJ hi e3 ?_, Z.2.put e2 e3 (hR i hi)⟩ h
  unfold gAt
  rw [hl]
  refine t_OB.to (V := updV (fun k => gF A M i k (fl k)) k (.int x)) ⟨_, e1, q2, q3, t_set q4 hap hk _⟩ (fun j _ => ?_)
  by_cases ej : j = k
  · subst ej
    simp [updV, gF, gset, hf]
  · simp only [updV, if_neg ej]
    unfold gF
    simp [gset, ej]
end GR2
/-! contracts of the class's methods: as the reference's, with the nest's words -/
abbrev cPc (N : Nat) (D : va_G) (dA : Nat → ClassId) (A : gI → Nat) (M : gM) (av : List Value) : Array Value → State → Prop := va_Pc av (fun U => gW D (cLay N) dA (cLive N) A M U.heap ∧ va_K D vwCl (gT dA) U ∧ cNw U)
theorem cPc.blind {N : Nat} {D : va_G} {dA : Nat → ClassId} {A : gI → Nat} {M : gM} {av : List Value} : FrameBlind (cPc N D dA A M av) := fun a U g mk q => ⟨q.1, q.2.1, va_K.moved (u := U) (U := U.calling g mk a) (Vm.Alike.refl U.vm) q.2.2.1, cNw.same (U := U.calling g mk a) rfl q.2.2.2⟩
abbrev cQi (N : Nat) (D : va_G) (dA : Nat → ClassId) (A : gI → Nat) (y : Int32 × gM) : Array Value → State → Outcome → State → Prop := va_Qi (fun r' u => r' = y.1 ∧ u = y.2) (fun u t => gW D (cLay N) dA (cLive N) A u t.heap) (gA (cLive N) A)
abbrev cQl (N : Nat) (D : va_G) (dA : Nat → ClassId) (A : gI → Nat) (y : Int64 × gM) : Array Value → State → Outcome → State → Prop := va_Ql (fun r' u => r' = y.1 ∧ u = y.2) (fun u t => gW D (cLay N) dA (cLive N) A u t.heap) (gA (cLive N) A)
abbrev cQv (N : Nat) (D : va_G) (dA : Nat → ClassId) (A : gI → Nat) (y : gM) : Array Value → State → Outcome → State → Prop := va_Qv (fun u => u = y) (fun u t => gW D (cLay N) dA (cLive N) A u t.heap) (gA (cLive N) A)
abbrev cQr (N : Nat) (D : va_G) (dA : Nat → ClassId) (A : gI → Nat) (y : Nat × gM) : Array Value → State → Outcome → State → Prop := va_Qr (fun u => u = y.2) (fun u a t => a = A (30, y.1, 0) ∧ gW D (cLay N) dA (cLive N) A u t.heap) (gA (cLive N) A)
abbrev cMi (l : Launch) (y : MethodName) (ws : List Cond) (rm : Room) (N : Nat) (D : va_G) (dA : Nat → ClassId) (A : gI → Nat) (av : List Value) (M : gM) (r : Int32) (M' : gM) : Prop := Met l y ws rm (cPc N D dA A M av) (cQi N D dA A (r, M')) 0 0 (gA (cLive N) A)
abbrev cMl (l : Launch) (y : MethodName) (ws : List Cond) (rm : Room) (N : Nat) (D : va_G) (dA : Nat → ClassId) (A : gI → Nat) (av : List Value) (M : gM) (r : Int64) (M' : gM) : Prop := Met l y ws rm (cPc N D dA A M av) (cQl N D dA A (r, M')) 0 0 (gA (cLive N) A)
abbrev cMv (l : Launch) (y : MethodName) (ws : List Cond) (rm : Room) (N : Nat) (D : va_G) (dA : Nat → ClassId) (A : gI → Nat) (av : List Value) (M : gM) (M' : gM) : Prop := Met l y ws rm (cPc N D dA A M av) (cQv N D dA A M') 0 0 (gA (cLive N) A)
abbrev cMr (l : Launch) (y : MethodName) (ws : List Cond) (rm : Room) (N : Nat) (D : va_G) (dA : Nat → ClassId) (A : gI → Nat) (av : List Value) (M : gM) (r : Nat) (M' : gM) : Prop := Met l y ws rm (cPc N D dA A M av) (cQr N D dA A (r, M')) 0 0 (gA (cLive N) A)
section GC2
variable {p : Program} {l : Launch} {e : Env} {R : Room} {s : State} {m : MethodId} {args : Array Value} {below : List Frame} {meth : Method} {c : Code} {H : Heap} {locs : List Loc} {cells slots : Nat} {Q : State → Prop}
variable {cc bytes : ByteArray} {pc nL maxL n index N : Nat} {ls : Array Slot} {rest st As : List Value} {Ts ws : List Cond} {own C host : String} {y : MethodName} {ret : Option FieldType} {rm : Room}
variable {D : va_G} {dA : Nat → ClassId} {A : gI → Nat} {reg : Nat → Prop} {H0 : Heap} {M M' : gM} {mc ms : Nat} {g : JFrame} {Qa : State → Outcome → State → Prop}
abbrev cRun (p : Program) (l : Launch) (e : Env) (R : Room) (s : State) (m : MethodId) (args : Array Value) (below : List Frame) (meth : Method) (c : Code) (H : Heap) (locs : List Loc) (cells slots : Nat) (N : Nat) (A : gI → Nat) (g : JFrame) (rest : List Value) (Qa : State → Outcome → State → Prop) : Prop := va_Run p l e R s m args below meth c H locs cells slots 0 0 g rest Qa (gA (cLive N) A)
theorem c_pre (X : gX D vwCl dA (cLive N) A reg s) (hN : cNw s) (Z : gZ D (cLay N) dA (cLive N) A reg H0 M H locs) (av : List Value) : ∀ U : State, U.heap = H → s.WarmedH U.vm → cPc N D dA A M av av.toArray U := fun U hU hWm => ⟨rfl, by rw [hU]; exact Z.1, va_K.moved hWm.alike X.1, hN.warm hWm⟩
theorem c_V {i : gI} {ci nf : Nat} {fl : Nat → Nat × gI} {T : u_T} {Qc : Array Value → State → Outcome → State → Prop} (S : CallFix p m c cc nL s args Ts own) (X : gX D vwCl dA (cLive N) A reg s) (hN : cNw s) (Z : gZ D (cLay N) dA (cLive N) A reg H0 M H locs) (hi : cLive N i) (hl : cLay N i = .inr (.inr (ci, nf, fl))) (hc : vwCl[ci]? = some (C, T, nf)) (hM : Met l y ws rm (cPc N D dA A M (.ref (A i) :: As)) Qc 0 0 (gA (cLive N) A)) (cw : CallW R s args own C index y bytes maxL ret ws rm 0 0 n) (hn : As.length = n) (hsz : ls.size = nL) (hst : st = As.reverse ++ .ref (A i) :: rest) (hW : (rest.map fun v => v.category).sum ≤ 8) (hdg : decode cc pc = .ok (.invokevirtual index, 3)) (hf : cells ≤ R.cells ∧ slots ≤ R.slots) :
    cRun p l e R s m args below meth c H locs cells slots N A (F0 m pc ls st) rest (Qc (Value.ref (A i) :: As).toArray) := va_runV (As := As) (rest := rest) (b := A i) S hM cw ⟨cPc.blind, g_recv X Z hi hl hc, c_pre X hN Z _⟩ rfl hn hsz hst (lv_room (m := m) (pc := pc) (ls := ls) (rest := st) hW) hdg hf
theorem c_VN {i : gI} {ci nf : Nat} {fl : Nat → Nat × gI} {T : u_T} {Qc : Array Value → State → Outcome → State → Prop} (S : CallFix p m c cc nL s args Ts own) (X : gX D vwCl dA (cLive N) A reg s) (hN : cNw s) (Z : gZ D (cLay N) dA (cLive N) A reg H0 M H locs) (hi : cLive N i) (hl : cLay N i = .inr (.inr (ci, nf, fl))) (hc : vwCl[ci]? = some (C, T, nf)) (hM : Met l y ws rm (cPc N D dA A M (.ref (A i) :: As)) Qc 0 0 (gA (cLive N) A)) (cw : va_CN R s args own index y host bytes maxL ret ws rm 0 0 n ∧ (Cond.instanceMethod y).before args s = true ∧ (Cond.selects C y y).before args s = true) (hn : As.length = n) (hsz : ls.size = nL) (hst : st = As.reverse ++ .ref (A i) :: rest) (hW : (rest.map fun v => v.category).sum ≤ 8) (hdg : decode cc pc = .ok (.invokevirtual index, 3)) (hf : cells ≤ R.cells ∧ slots ≤ R.slots) :
    cRun p l e R s m args below meth c H locs cells slots N A (F0 m pc ls st) rest (Qc (Value.ref (A i) :: As).toArray) := va_runVN (As := As) (rest := rest) (b := A i) S hM cw ⟨cPc.blind, g_recv X Z hi hl hc, c_pre X hN Z _⟩ rfl hn hsz hst (lv_room (m := m) (pc := pc) (ls := ls) (rest := st) hW) hdg hf
theorem c_S {Qc : Array Value → State → Outcome → State → Prop} (S : CallFix p m c cc nL s args Ts own) (X : gX D vwCl dA (cLive N) A reg s) (hN : cNw s) (Z : gZ D (cLay N) dA (cLive N) A reg H0 M H locs) (hM : Met l y ws rm (cPc N D dA A M As) Qc 0 0 (gA (cLive N) A)) (cw : CallB R s args own index y bytes maxL ret ws rm 0 0 n ∧ (Cond.static y).before args s = true) (hn : As.length = n) (hsz : ls.size = nL) (hst : st = As.reverse ++ rest) (hW : (rest.map fun v => v.category).sum ≤ 8) (hdg : decode cc pc = .ok (.invokestatic index, 3)) (hf : cells ≤ R.cells ∧ slots ≤ R.slots) :
    cRun p l e R s m args below meth c H locs cells slots N A (F0 m pc ls st) rest (Qc As.toArray) := va_runS (As := As) (rest := rest) S hM cw ⟨cPc.blind, c_pre X hN Z _⟩ rfl hn hsz hst (lv_room (m := m) (pc := pc) (ls := ls) (rest := st) hW) hdg hf
theorem c_SN {Qc : Array Value → State → Outcome → State → Prop} (S : CallFix p m c cc nL s args Ts own) (X : gX D vwCl dA (cLive N) A reg s) (hN : cNw s) (Z : gZ D (cLay N) dA (cLive N) A reg H0 M H locs) (hM : Met l y ws rm (cPc N D dA A M As) Qc 0 0 (gA (cLive N) A)) (cw : va_CN R s args own index y host bytes maxL ret ws rm 0 0 n ∧ (Cond.static y).before args s = true ∧ True) (hn : As.length = n) (hsz : ls.size = nL) (hst : st = As.reverse ++ rest) (hW : (rest.map fun v => v.category).sum ≤ 8) (hdg : decode cc pc = .ok (.invokestatic index, 3)) (hf : cells ≤ R.cells ∧ slots ≤ R.slots) :
    cRun p l e R s m args below meth c H locs cells slots N A (F0 m pc ls st) rest (Qc As.toArray) := va_runSN (As := As) (rest := rest) S hM cw ⟨cPc.blind, c_pre X hN Z _⟩ rfl hn hsz hst (lv_room (m := m) (pc := pc) (ls := ls) (rest := st) hW) hdg hf
theorem c_i {r : Int32 × gM} {a : Array Value} (X : gX D vwCl dA (cLive N) A reg s) (Z : gZ D (cLay N) dA (cLive N) A reg H0 M H locs) (hr : cRun p l e R s m args below meth c H locs cells slots N A (F0 m pc ls st) rest (cQi N D dA A r a)) (kk : ∀ (H1 : Heap) (locs1 : List Loc), gZ D (cLay N) dA (cLive N) A reg H0 r.2 H1 locs1 → W p l e R s m args below meth c H1 locs1 cells slots Q (F0 m (pc + 3) ls (.int r.1 :: rest))) : W p l e R s m args below meth c H locs cells slots Q (F0 m pc ls st) := by
  refine va_calli hr Z.2 (fun q _ h => g_inreg X q h) (g_inreg X) (fun r1 u t H1 locs1 ht hvm hw hB hz1 hk1 hS => ?_)
  obtain ⟨rfl, rfl⟩ := hw
  rw [ht] at hB
  exact kk H1 locs1 ⟨hB, hS⟩
theorem c_l {r : Int64 × gM} {a : Array Value} (X : gX D vwCl dA (cLive N) A reg s) (Z : gZ D (cLay N) dA (cLive N) A reg H0 M H locs) (hr : cRun p l e R s m args below meth c H locs cells slots N A (F0 m pc ls st) rest (cQl N D dA A r a)) (kk : ∀ (H1 : Heap) (locs1 : List Loc), gZ D (cLay N) dA (cLive N) A reg H0 r.2 H1 locs1 → W p l e R s m args below meth c H1 locs1 cells slots Q (F0 m (pc + 3) ls (.long r.1 :: rest))) : W p l e R s m args below meth c H locs cells slots Q (F0 m pc ls st) := by
  refine va_calll hr Z.2 (fun q _ h => g_inreg X q h) (g_inreg X) (fun r1 u t H1 locs1 ht hvm hw hB hz1 hk1 hS => ?_)
  obtain ⟨rfl, rfl⟩ := hw
  rw [ht] at hB
  exact kk H1 locs1 ⟨hB, hS⟩
theorem c_v {r : gM} {a : Array Value} (X : gX D vwCl dA (cLive N) A reg s) (Z : gZ D (cLay N) dA (cLive N) A reg H0 M H locs) (hr : cRun p l e R s m args below meth c H locs cells slots N A (F0 m pc ls st) rest (cQv N D dA A r a)) (kk : ∀ (H1 : Heap) (locs1 : List Loc), gZ D (cLay N) dA (cLive N) A reg H0 r H1 locs1 → W p l e R s m args below meth c H1 locs1 cells slots Q (F0 m (pc + 3) ls rest)) : W p l e R s m args below meth c H locs cells slots Q (F0 m pc ls st) := by
  refine va_callv hr Z.2 (fun q _ h => g_inreg X q h) (g_inreg X) (fun u t H1 locs1 ht hvm hw hB hz1 hk1 hS => ?_)
  subst hw
  rw [ht] at hB
  exact kk H1 locs1 ⟨hB, hS⟩
theorem c_r {r : Nat × gM} {a : Array Value} (X : gX D vwCl dA (cLive N) A reg s) (Z : gZ D (cLay N) dA (cLive N) A reg H0 M H locs) (hr : cRun p l e R s m args below meth c H locs cells slots N A (F0 m pc ls st) rest (cQr N D dA A r a)) (kk : ∀ (H1 : Heap) (locs1 : List Loc), gZ D (cLay N) dA (cLive N) A reg H0 r.2 H1 locs1 → W p l e R s m args below meth c H1 locs1 cells slots Q (F0 m (pc + 3) ls (.ref (A (30, r.1, 0)) :: rest))) : W p l e R s m args below meth c H locs cells slots Q (F0 m pc ls st) := by
  refine va_callr hr Z.2 (fun q _ h => g_inreg X q h) (g_inreg X) (fun u a1 t H1 locs1 ht hvm hw hB hz1 hk1 hS => ?_)
  obtain ⟨rfl, hB⟩ := hB
  subst hw
  rw [ht] at hB
  exact kk H1 locs1 ⟨hB, hS⟩
theorem c_rr {v : Nat} (S : CallFix p m c cc nL s args Ts own) (Z : gZ D (cLay N) dA (cLive N) A (gA (cLive N) A) s.heap M H locs) (hr : meth.sig.returnType = some (.object "ReplicaFiles$Client")) (hlocks : meth.locks = false) (hdg : decode cc pc = .ok (.areturn, 1)) : W p l e R s m args below meth c H locs 0 0 (MQ below (cQr N D dA A (v, M)) args s 0 0 (gA (cLive N) A)) (F0 m pc ls [.ref (A (30, v, 0))]) :=
  W.aret S.1 S.2.1 hr (Or.inl ⟨_, rfl⟩) (Or.inr ⟨_, rfl⟩) (fun t ht hWm => ⟨⟨M, _, rfl, rfl, rfl, by show gW D (cLay N) dA (cLive N) A M t.heap; rw [ht]; exact Z.1⟩, Z.2.F ht⟩) Z.2.2.2 hdg hlocks
end GC2

def cBig0 : List Cond := [.code yX0_init cX0_init 1 none,
  .methodLink RX0 3 objectInit,
  .instanceMethod objectInit,
  .code objectInit ⟨#[0xb1]⟩ 1 none,
  .arrayClass .int,
  .fieldLink RX0 9 "ReplicaFiles$Catalog" "parent" "[I",
  .fieldLink RX0 15 "ReplicaFiles$Catalog" "name" "[I",
  .arrayClass .boolean,
  .fieldLink RX0 18 "ReplicaFiles$Catalog" "isDirectory" "[Z",
  .code yX0_isMade cX0_isMade 2 (some .boolean),
  .fieldLink RX0 22 "ReplicaFiles$Catalog" "made" "I",
  .code yX0_isFull cX0_isFull 1 (some .boolean),
  .code yX0_enter cX0_enter 4 (some .int),
  .methodLink RX0 26 yX0_isFull,
  .instanceMethod yX0_isFull,
  .selects RX0 yX0_isFull yX0_isFull,
  .initialized RX0,
  .code yX8_init cX8_init 3 none,
  .methodLink RX8 3 objectInit,
  .fieldLink RX8 9 "ReplicaFiles$Tree" "held" "[Z",
  .fieldLink RX8 15 "ReplicaFiles$Tree" "value" "[I",
  .fieldLink RX8 19 "ReplicaFiles$Tree" "size" "[I",
  .fieldLink RX8 22 "ReplicaFiles$Tree" "state" "[I",
  .fieldLink RX8 25 "ReplicaFiles$Tree" "catalog" "LReplicaFiles$Catalog;",
  .classLink RX8 29 "[[I",
  .fieldLink RX8 31 "ReplicaFiles$Tree" "counts" "[[I",
  .fieldLink RX8 34 "ReplicaFiles$Tree" "goneCounts" "[[I",
  .code yX3_init cX3_init 2 none,
  .methodLink RX3 3 objectInit,
  .fieldLink RX3 9 "ReplicaFiles$Log" "kind" "[I",
  .fieldLink RX3 15 "ReplicaFiles$Log" "object" "[I",
  .fieldLink RX3 18 "ReplicaFiles$Log" "directory" "[I",
  .classLink RX3 21 "[[I",
  .fieldLink RX3 23 "ReplicaFiles$Log" "counts" "[[I",
  .methodLink RX1 3 objectInit,
  .fieldLink RX1 9 "ReplicaFiles$Client" "priority" "[I",
  .fieldLink RX1 15 "ReplicaFiles$Client" "promised" "[I",
  .fieldLink RX1 18 "ReplicaFiles$Client" "dirty" "[Z",
  .fieldLink RX1 22 "ReplicaFiles$Client" "used" "[I",
  .fieldLink RX1 25 "ReplicaFiles$Client" "number" "I",
  .fieldLink RX1 29 "ReplicaFiles$Client" "catalog" "LReplicaFiles$Catalog;",
  .fieldLink RX1 33 "ReplicaFiles$Client" "tallies" "[I",
  .classLink RX1 36 RX8,
  .instantiable RX8 7,
  .initialized RX8,
  .fieldLink RX1 41 "ReplicaFiles$Client" "tree" "LReplicaFiles$Tree;",
  .classLink RX1 45 RX3,
  .instantiable RX3 5,
  .initialized RX3,
  .fieldLink RX1 50 "ReplicaFiles$Client" "log" "LReplicaFiles$Log;",
  .methodLink RX1 38 yX8_init,
  .instanceMethod yX8_init,
  .methodLink RX1 47 yX3_init,
  .instanceMethod yX3_init,
  .code yX1_init cX1_init 5 none,
  .code yX1_startCall cX1_startCall 1 none,
  .fieldLink RX1 54 "ReplicaFiles$Client" "uses" "I",
  .fieldLink RX1 57 "ReplicaFiles$Client" "usesBeforeCall" "I",
  .code yX1_use cX1_use 2 none,
  .code yX1_useOwn cX1_useOwn 2 (some .long),
  .constantLong RX1 63 (-2199023255553),
  .methodLink RX1 65 yX1_use,
  .instanceMethod yX1_use,
  .selects RX1 yX1_use yX1_use,
  .initialized RX1,
  .code yX1_isGood cX1_isGood 3 (some .boolean),
  .code yX1_forgetPromisesOf cX1_forgetPromisesOf 3 none,
  .code yX8_setFile cX8_setFile 4 none,
  .code yJ7_fill_53178 cJ7_fill_53178 4 none,
  .code yX8_drop cX8_drop 3 none,
  .methodLink RX8 37 yX8_setFile,
  .instanceMethod yX8_setFile,
  .selects RX8 yX8_setFile yX8_setFile,
  .methodLink RX8 41 yJ7_fill_53178,
  .static yJ7_fill_53178,
  .initialized RJ7,
  .code yX1_drop cX1_drop 2 none,
  .methodLink RX1 68 yX8_drop,
  .instanceMethod yX8_drop,
  .selects RX8 yX8_drop yX8_drop,
  .code yX1_fullWeight cX1_fullWeight 3 (some .int),
  .code yX1_weightOf cX1_weightOf 2 (some .int),
  .methodLink RX1 74 yX1_fullWeight,
  .instanceMethod yX1_fullWeight,
  .selects RX1 yX1_fullWeight yX1_fullWeight,
  .code yX1_mayGo cX1_mayGo 3 (some .boolean),
  .code yX1_goesBefore cX1_goesBefore 3 (some .boolean),
  .code yX1_nextToGo cX1_nextToGo 4 (some .int),
  .methodLink RX1 90 yX1_mayGo,
  .instanceMethod yX1_mayGo,
  .selects RX1 yX1_mayGo yX1_mayGo,
  .methodLink RX1 98 yX1_goesBefore,
  .instanceMethod yX1_goesBefore,
  .selects RX1 yX1_goesBefore yX1_goesBefore,
  .methodLink RX1 86 yX1_weightOf,
  .instanceMethod yX1_weightOf,
  .selects RX1 yX1_weightOf yX1_weightOf,
  .methodLink RX1 94 yX1_nextToGo,
  .instanceMethod yX1_nextToGo,
  .selects RX1 yX1_nextToGo yX1_nextToGo,
  .methodLink RX1 97 yX1_drop,
  .instanceMethod yX1_drop,
  .selects RX1 yX1_drop yX1_drop,
  .code yX1_makeRoom cX1_makeRoom 7 (some .boolean),
  .code yX10_assign cX10_assign 3 none,
  .code yX8_takeFrom cX8_takeFrom 4 none,
  .static yX10_assign,
  .initialized RX10,
  .methodLink RX1 101 yX1_makeRoom,
  .instanceMethod yX1_makeRoom,
  .selects RX1 yX1_makeRoom yX1_makeRoom,
  .methodLink RX1 104 yX8_takeFrom,
  .instanceMethod yX8_takeFrom,
  .selects RX8 yX8_takeFrom yX8_takeFrom,
  .code yX1_takeIn cX1_takeIn 6 none,
  .methodLink RX1 108 yX8_setFile,
  .code yX1_changeFile cX1_changeFile 4 none,
  .code yX8_setThere cX8_setThere 2 none,
  .code yX8_createCopy cX8_createCopy 2 none,
  .methodLink RX1 112 yX8_setThere,
  .instanceMethod yX8_setThere,
  .selects RX8 yX8_setThere yX8_setThere,
  .methodLink RX1 115 yX8_createCopy,
  .instanceMethod yX8_createCopy,
  .selects RX8 yX8_createCopy yX8_createCopy,
  .code yX1_takeInMade cX1_takeInMade 4 none,
  .code yX8_setGone cX8_setGone 3 none,
  .methodLink RX1 122 yX8_setGone,
  .instanceMethod yX8_setGone,
  .selects RX8 yX8_setGone yX8_setGone,
  .code yX1_dropRemoved cX1_dropRemoved 3 none,
  .code yX3_indexOf cX3_indexOf 4 (some .int),
  .fieldLink RX3 26 "ReplicaFiles$Log" "length" "I",
  .code yX3_isFull cX3_isFull 1 (some .boolean),
  .code yX3_add cX3_add 5 none,
  .methodLink RX3 30 yX3_isFull,
  .instanceMethod yX3_isFull,
  .selects RX3 yX3_isFull yX3_isFull,
  .constantLong RX1 133 (-2199023255557),
  .constantLong RX1 135 (-2199023255558),
  .methodLink RX1 126 yX3_indexOf,
  .instanceMethod yX3_indexOf,
  .selects RX3 yX3_indexOf yX3_indexOf,
  .methodLink RX1 129 yX3_isFull,
  .methodLink RX1 137 yX3_add,
  .instanceMethod yX3_add,
  .selects RX3 yX3_add yX3_add,
  .code yX1_writeAlone cX1_writeAlone 5 (some .long),
  .methodLink RX1 141 yX0_enter,
  .instanceMethod yX0_enter,
  .selects RX0 yX0_enter yX0_enter,
  .code yX1_makeAlone cX1_makeAlone 5 (some .long),
  .code yX3_takeOut cX3_takeOut 5 none,
  .methodLink RX3 38 yX3_indexOf,
  .code yX8_forgetEntry cX8_forgetEntry 2 none,
  .methodLink RX1 148 yX3_takeOut,
  .instanceMethod yX3_takeOut,
  .selects RX3 yX3_takeOut yX3_takeOut,
  .methodLink RX1 155 yX8_forgetEntry,
  .instanceMethod yX8_forgetEntry,
  .selects RX8 yX8_forgetEntry yX8_forgetEntry,
  .code yX1_undoMake cX1_undoMake 3 none,
  .methodLink RX1 145 yX1_undoMake,
  .instanceMethod yX1_undoMake,
  .selects RX1 yX1_undoMake yX1_undoMake,
  .methodLink RX1 152 yX1_dropRemoved,
  .instanceMethod yX1_dropRemoved,
  .selects RX1 yX1_dropRemoved yX1_dropRemoved,
  .code yX1_removeAlone cX1_removeAlone 3 (some .long),
  .code yX1_endLog cX1_endLog 2 none,
  .code yX2_init cX2_init 3 none,
  .methodLink RX2 3 objectInit,
  .fieldLink RX2 9 "ReplicaFiles$HandingIn" "replicas" "LReplicaFiles$Replicas;",
  .fieldLink RX2 15 "ReplicaFiles$HandingIn" "vector" "[I",
  .fieldLink RX2 25 "ReplicaFiles$HandingIn" "client" "LReplicaFiles$Client;",
  .code yX10_isIn cX10_isIn 2 (some .boolean),
  .code yX6_leastOf cX6_leastOf 3 (some .int),
  .fieldLink RX6 15 "ReplicaFiles$Replicas" "servers" "[LReplicaFiles$Server;",
  .static yX10_isIn,
  .code yX7_isInConflict cX7_isInConflict 2 (some .boolean),
  .fieldLink RX7 11 "ReplicaFiles$Server" "versions" "[LReplicaFiles$Versions;",
  .code yX10_isSame cX10_isSame 3 (some .boolean),
  .code yX9_isFull cX9_isFull 1 (some .boolean),
  .fieldLink RX9 21 "ReplicaFiles$Versions" "length" "I",
  .fieldLink RX9 7 "ReplicaFiles$Versions" "value" "[I",
  .code yX9_add cX9_add 4 none,
  .fieldLink RX9 13 "ReplicaFiles$Versions" "size" "[I",
  .fieldLink RX9 18 "ReplicaFiles$Versions" "counts" "[[I",
  .methodLink RX9 25 yX9_isFull,
  .instanceMethod yX9_isFull,
  .selects RX9 yX9_isFull yX9_isFull,
  .initialized RX9,
  .code yX10_raise cX10_raise 3 none,
  .methodLink RX10 15 Lib.Math.max.name,
  .static Lib.Math.max.name,
  .initialized "java/lang/Math",
  .code Lib.Math.max.name Lib.Math.max.code 2 (some .int),
  .code yX6_growMarks cX6_growMarks 4 none,
  .code yX6_copyMarks cX6_copyMarks 5 none,
  .code yX6_countAll cX6_countAll 4 none,
  .methodLink RX6 98 yX6_growMarks,
  .instanceMethod yX6_growMarks,
  .selects RX6 yX6_growMarks yX6_growMarks,
  .initialized RX6,
  .methodLink RX6 106 yX6_copyMarks,
  .instanceMethod yX6_copyMarks,
  .selects RX6 yX6_copyMarks yX6_copyMarks,
  .code yX6_endPromises cX6_endPromises 4 none,
  .fieldLink RX6 19 "ReplicaFiles$Replicas" "clients" "[LReplicaFiles$Client;",
  .fieldLink RX2 37 "ReplicaFiles$HandingIn" "least" "I",
  .methodLink RX2 137 yX9_isFull,
  .methodLink RX2 144 yX9_add,
  .instanceMethod yX9_add,
  .selects RX9 yX9_add yX9_add,
  .static yX10_raise,
  .methodLink RX2 160 yX6_countAll,
  .instanceMethod yX6_countAll,
  .selects RX6 yX6_countAll yX6_countAll,
  .methodLink RX2 130 yX6_endPromises,
  .instanceMethod yX6_endPromises,
  .selects RX6 yX6_endPromises yX6_endPromises,
  .code yX2_handInVersion cX2_handInVersion 5 none,
  .code yX6_holders cX6_holders 5 (some .int),
  .code yX6_holdersWith cX6_holdersWith 6 (some .int),
  .methodLink RX6 43 yX6_holders,
  .instanceMethod yX6_holders,
  .selects RX6 yX6_holders yX6_holders,
  .static yX10_isSame,
  .code yX6_holdersOf cX6_holdersOf 6 (some .int),
  .methodLink RX6 55 yX6_holdersWith,
  .instanceMethod yX6_holdersWith,
  .selects RX6 yX6_holdersWith yX6_holdersWith,
  .methodLink RX6 59 yX7_isInConflict,
  .instanceMethod yX7_isInConflict,
  .selects RX7 yX7_isInConflict yX7_isInConflict,
  .initialized RX7,
  .code yX6_writeAt cX6_writeAt 6 none,
  .fieldLink RX6 23 "ReplicaFiles$Replicas" "tallies" "[I",
  .methodLink RX6 70 yX8_setFile,
  .code yX6_countAct cX6_countAct 6 (some .int),
  .fieldLink RX2 29 "ReplicaFiles$HandingIn" "near" "I",
  .methodLink RX2 98 yX7_isInConflict,
  .methodLink RX2 107 yX2_handInVersion,
  .instanceMethod yX2_handInVersion,
  .selects RX2 yX2_handInVersion yX2_handInVersion,
  .initialized RX2,
  .methodLink RX2 111 yX6_holdersOf,
  .instanceMethod yX6_holdersOf,
  .selects RX6 yX6_holdersOf yX6_holdersOf,
  .methodLink RX2 122 yX6_writeAt,
  .instanceMethod yX6_writeAt,
  .selects RX6 yX6_writeAt yX6_writeAt,
  .methodLink RX2 126 yX6_countAct,
  .instanceMethod yX6_countAct,
  .selects RX6 yX6_countAct yX6_countAct,
  .code yX2_handInWrite cX2_handInWrite 5 none,
  .methodLink RX6 74 yX8_setThere,
  .methodLink RX6 78 yX8_createCopy,
  .code yX6_makeAt cX6_makeAt 4 none,
  .methodLink RX2 163 yX6_holders,
  .methodLink RX2 166 yX6_makeAt,
  .instanceMethod yX6_makeAt,
  .selects RX6 yX6_makeAt yX6_makeAt,
  .code yX2_handInMake cX2_handInMake 4 none,
  .code yX10_isAtMost cX10_isAtMost 3 (some .boolean),
  .code yX8_isThereIn cX8_isThereIn 3 (some .boolean),
  .methodLink RX8 60 yX0_isMade,
  .instanceMethod yX0_isMade,
  .selects RX0 yX0_isMade yX0_isMade,
  .code yX8_thereIn cX8_thereIn 4 (some .int),
  .methodLink RX8 68 yX8_isThereIn,
  .instanceMethod yX8_isThereIn,
  .selects RX8 yX8_isThereIn yX8_isThereIn,
  .code yX8_holdsSomethingIn cX8_holdsSomethingIn 3 (some .boolean),
  .code yX9_clear cX9_clear 1 none,
  .fieldLink RX7 26 "ReplicaFiles$Server" "tree" "LReplicaFiles$Tree;",
  .methodLink RX7 41 yX8_drop,
  .methodLink RX7 45 yX9_clear,
  .instanceMethod yX9_clear,
  .selects RX9 yX9_clear yX9_clear,
  .code yX7_drop cX7_drop 2 none,
  .methodLink RX6 85 yX8_setGone,
  .static yX10_isAtMost,
  .methodLink RX6 89 yX8_holdsSomethingIn,
  .instanceMethod yX8_holdsSomethingIn,
  .selects RX8 yX8_holdsSomethingIn yX8_holdsSomethingIn,
  .methodLink RX6 92 yX7_drop,
  .instanceMethod yX7_drop,
  .selects RX7 yX7_drop yX7_drop,
  .code yX6_removeAtOne cX6_removeAtOne 5 none,
  .methodLink RX6 81 yX6_removeAtOne,
  .instanceMethod yX6_removeAtOne,
  .selects RX6 yX6_removeAtOne yX6_removeAtOne,
  .code yX6_removeAt cX6_removeAt 5 none,
  .methodLink RX2 175 yX8_thereIn,
  .instanceMethod yX8_thereIn,
  .selects RX8 yX8_thereIn yX8_thereIn,
  .methodLink RX2 178 yX6_removeAt,
  .instanceMethod yX6_removeAt,
  .selects RX6 yX6_removeAt yX6_removeAt,
  .code yX2_handInRemove cX2_handInRemove 6 none,
  .methodLink RX2 33 yX6_leastOf,
  .instanceMethod yX6_leastOf,
  .selects RX6 yX6_leastOf yX6_leastOf,
  .methodLink RX2 61 yX2_handInWrite,
  .instanceMethod yX2_handInWrite,
  .selects RX2 yX2_handInWrite yX2_handInWrite,
  .methodLink RX2 68 yX2_handInMake,
  .instanceMethod yX2_handInMake,
  .selects RX2 yX2_handInMake yX2_handInMake,
  .methodLink RX2 72 yX2_handInRemove,
  .instanceMethod yX2_handInRemove,
  .selects RX2 yX2_handInRemove yX2_handInRemove,
  .methodLink RX2 76 yX1_endLog,
  .instanceMethod yX1_endLog,
  .selects RX1 yX1_endLog yX1_endLog,
  .code yX2_handInAll cX2_handInAll 4 none,
  .code yX9_init cX9_init 3 none,
  .methodLink RX9 1 objectInit,
  .classLink RX9 16 "[[I",
  .code yX4_init cX4_init 3 none,
  .methodLink RX4 3 objectInit,
  .fieldLink RX4 9 "ReplicaFiles$Meeting" "inside" "[Z",
  .fieldLink RX4 15 "ReplicaFiles$Meeting" "replicas" "LReplicaFiles$Replicas;",
  .fieldLink RX4 25 "ReplicaFiles$Meeting" "catalog" "LReplicaFiles$Catalog;",
  .fieldLink RX4 30 "ReplicaFiles$Meeting" "servers" "[LReplicaFiles$Server;",
  .classLink RX4 31 RX9,
  .instantiable RX9 4,
  .fieldLink RX4 36 "ReplicaFiles$Meeting" "candidates" "LReplicaFiles$Versions;",
  .fieldLink RX4 40 "ReplicaFiles$Meeting" "greater" "[I",
  .methodLink RX4 33 yX9_init,
  .instanceMethod yX9_init,
  .code yX4_joinedState cX4_joinedState 4 (some .int),
  .fieldLink RX4 44 "ReplicaFiles$Meeting" "group" "I",
  .methodLink RX4 117 Lib.Math.max.name,
  .methodLink RX4 107 yJ7_fill_53178,
  .code yX4_isKnownAtMost cX4_isKnownAtMost 6 (some .boolean),
  .methodLink RX4 85 yX6_holders,
  .methodLink RX4 98 yX4_joinedState,
  .instanceMethod yX4_joinedState,
  .selects RX4 yX4_joinedState yX4_joinedState,
  .initialized RX4,
  .methodLink RX4 101 yX4_isKnownAtMost,
  .instanceMethod yX4_isKnownAtMost,
  .selects RX4 yX4_isKnownAtMost yX4_isKnownAtMost,
  .code yX4_canBeDropped cX4_canBeDropped 4 (some .boolean),
  .code yJ6_bitCount_0f7a4 cJ6_bitCount_0f7a4 1 (some .int),
  .constant RJ6 265 (1431655765),
  .constant RJ6 266 (858993459),
  .constant RJ6 267 (252645135),
  .code yX4_noteChange cX4_noteChange 3 none,
  .fieldLink RX4 48 "ReplicaFiles$Meeting" "changes" "I",
  .methodLink RX4 151 yJ6_bitCount_0f7a4,
  .static yJ6_bitCount_0f7a4,
  .initialized RJ6,
  .methodLink RX4 156 yX6_endPromises,
  .methodLink RX4 145 yX7_drop,
  .methodLink RX4 148 yX4_noteChange,
  .instanceMethod yX4_noteChange,
  .selects RX4 yX4_noteChange yX4_noteChange,
  .code yX4_dropInside cX4_dropInside 4 none,
  .methodLink RX4 159 yX8_setThere,
  .methodLink RX4 162 yX6_countAll,
  .code yX4_bringBack cX4_bringBack 3 none,
  .methodLink RX4 70 yX6_leastOf,
  .methodLink RX4 89 yX4_canBeDropped,
  .instanceMethod yX4_canBeDropped,
  .selects RX4 yX4_canBeDropped yX4_canBeDropped,
  .methodLink RX4 92 yX4_dropInside,
  .instanceMethod yX4_dropInside,
  .selects RX4 yX4_dropInside yX4_dropInside,
  .methodLink RX4 95 yX4_bringBack,
  .instanceMethod yX4_bringBack,
  .selects RX4 yX4_bringBack yX4_bringBack,
  .code yX4_isToStay cX4_isToStay 3 (some .boolean),
  .code yX4_allHold cX4_allHold 2 (some .boolean),
  .code yX8_isCopyLike cX8_isCopyLike 4 (some .boolean),
  .code yX9_isAt cX9_isAt 5 (some .boolean),
  .code yX9_isLike cX9_isLike 3 (some .boolean),
  .methodLink RX9 35 yX9_isAt,
  .instanceMethod yX9_isAt,
  .selects RX9 yX9_isAt yX9_isAt,
  .methodLink RX7 83 yX8_isCopyLike,
  .instanceMethod yX8_isCopyLike,
  .selects RX8 yX8_isCopyLike yX8_isCopyLike,
  .methodLink RX7 87 yX9_isLike,
  .instanceMethod yX9_isLike,
  .selects RX9 yX9_isLike yX9_isLike,
  .code yX7_isCopyLike cX7_isCopyLike 3 (some .boolean),
  .methodLink RX6 146 yX6_leastOf,
  .methodLink RX6 149 yX7_isCopyLike,
  .instanceMethod yX7_isCopyLike,
  .selects RX7 yX7_isCopyLike yX7_isCopyLike,
  .code yX6_areAlike cX6_areAlike 5 (some .boolean),
  .code yX4_joinEntry cX4_joinEntry 4 none,
  .code yX4_raiseToAll cX4_raiseToAll 6 none,
  .methodLink RX4 165 yX4_allHold,
  .instanceMethod yX4_allHold,
  .selects RX4 yX4_allHold yX4_allHold,
  .methodLink RX4 168 yX6_areAlike,
  .instanceMethod yX6_areAlike,
  .selects RX6 yX6_areAlike yX6_areAlike,
  .methodLink RX4 171 yX4_joinEntry,
  .instanceMethod yX4_joinEntry,
  .selects RX4 yX4_joinEntry yX4_joinEntry,
  .methodLink RX4 174 yX4_raiseToAll,
  .instanceMethod yX4_raiseToAll,
  .selects RX4 yX4_raiseToAll yX4_raiseToAll,
  .code yX4_joinDirectory cX4_joinDirectory 3 none,
  .code yX9_addOnce cX9_addOnce 5 none,
  .methodLink RX9 39 yX9_add,
  .code yX9_isLesser cX9_isLesser 3 (some .boolean),
  .code yX9_leaveOut cX9_leaveOut 3 none,
  .code yX9_leaveOutLesser cX9_leaveOutLesser 2 none,
  .methodLink RX9 50 yX9_isLesser,
  .instanceMethod yX9_isLesser,
  .selects RX9 yX9_isLesser yX9_isLesser,
  .methodLink RX9 54 yX9_leaveOut,
  .instanceMethod yX9_leaveOut,
  .selects RX9 yX9_leaveOut yX9_leaveOut,
  .methodLink RX4 196 yX9_clear,
  .methodLink RX4 205 yX9_addOnce,
  .instanceMethod yX9_addOnce,
  .selects RX9 yX9_addOnce yX9_addOnce,
  .methodLink RX4 211 yX9_leaveOutLesser,
  .instanceMethod yX9_leaveOutLesser,
  .selects RX9 yX9_leaveOutLesser yX9_leaveOutLesser,
  .code yX4_gatherCandidates cX4_gatherCandidates 7 none,
  .code yX9_has cX9_has 2 (some .boolean),
  .code yX7_isPlain cX7_isPlain 3 (some .boolean),
  .methodLink RX7 60 yX7_isInConflict,
  .methodLink RX7 64 yX9_has,
  .instanceMethod yX9_has,
  .selects RX9 yX9_has yX9_has,
  .methodLink RX7 73 yX9_isAt,
  .code yX7_setPlain cX7_setPlain 5 none,
  .methodLink RX7 48 yX8_setFile,
  .methodLink RX4 214 yX7_isPlain,
  .instanceMethod yX7_isPlain,
  .selects RX7 yX7_isPlain yX7_isPlain,
  .methodLink RX4 218 yX7_setPlain,
  .instanceMethod yX7_setPlain,
  .selects RX7 yX7_setPlain yX7_setPlain,
  .code yX4_giveOne cX4_giveOne 3 none,
  .code yX9_takeFirst cX9_takeFirst 3 none,
  .methodLink RX9 47 yX9_clear,
  .methodLink RX7 77 yX9_takeFirst,
  .instanceMethod yX9_takeFirst,
  .selects RX9 yX9_takeFirst yX9_takeFirst,
  .code yX7_setVersions cX7_setVersions 4 none,
  .methodLink RX4 222 yX7_setVersions,
  .instanceMethod yX7_setVersions,
  .selects RX7 yX7_setVersions yX7_setVersions,
  .code yX4_giveSeveral cX4_giveSeveral 3 none,
  .methodLink RX4 183 yX4_gatherCandidates,
  .instanceMethod yX4_gatherCandidates,
  .selects RX4 yX4_gatherCandidates yX4_gatherCandidates,
  .methodLink RX4 186 yX4_giveOne,
  .instanceMethod yX4_giveOne,
  .selects RX4 yX4_giveOne yX4_giveOne,
  .methodLink RX4 189 yX9_isLike,
  .methodLink RX4 193 yX4_giveSeveral,
  .instanceMethod yX4_giveSeveral,
  .selects RX4 yX4_giveSeveral yX4_giveSeveral,
  .code yX4_joinFile cX4_joinFile 3 none,
  .methodLink RX4 56 yX4_isToStay,
  .instanceMethod yX4_isToStay,
  .selects RX4 yX4_isToStay yX4_isToStay,
  .methodLink RX4 63 yX4_joinDirectory,
  .instanceMethod yX4_joinDirectory,
  .selects RX4 yX4_joinDirectory yX4_joinDirectory,
  .methodLink RX4 67 yX4_joinFile,
  .instanceMethod yX4_joinFile,
  .selects RX4 yX4_joinFile yX4_joinFile,
  .code yX4_hold cX4_hold 3 (some .int),
  .code yX5_init cX5_init 2 none,
  .methodLink RX5 3 objectInit,
  .fieldLink RX5 9 "ReplicaFiles$Net" "serverCount" "I",
  .fieldLink RX5 15 "ReplicaFiles$Net" "broken" "[I",
  .fieldLink RX5 19 "ReplicaFiles$Net" "up" "I",
  .code yX5_isUp cX5_isUp 2 (some .boolean),
  .code yX5_turnServer cX5_turnServer 4 (some .boolean),
  .methodLink RX5 26 yX5_isUp,
  .instanceMethod yX5_isUp,
  .selects RX5 yX5_isUp yX5_isUp,
  .initialized RX5,
  .code yX5_turnEnd cX5_turnEnd 4 none,
  .code yX5_turnLink cX5_turnLink 5 (some .boolean),
  .methodLink RX5 30 yX5_turnEnd,
  .instanceMethod yX5_turnEnd,
  .selects RX5 yX5_turnEnd yX5_turnEnd,
  .code yX5_nearServer cX5_nearServer 2 (some .int),
  .code yX5_nearClient cX5_nearClient 4 (some .int),
  .code yX6_init cX6_init 5 none,
  .methodLink RX6 3 objectInit,
  .fieldLink RX6 9 "ReplicaFiles$Replicas" "catalog" "LReplicaFiles$Catalog;",
  .code yX6_isGreatest cX6_isGreatest 5 (some .boolean),
  .code yX6_leastGreatest cX6_leastGreatest 5 (some .int),
  .methodLink RX6 63 yX6_isGreatest,
  .instanceMethod yX6_isGreatest,
  .selects RX6 yX6_isGreatest yX6_isGreatest,
  .code yX6_leastInConflict cX6_leastInConflict 4 (some .int),
  .code yX6_endPromisesToOthers cX6_endPromisesToOthers 5 none,
  .methodLink RX6 131 yX9_clear,
  .methodLink RX6 134 yX6_countAct,
  .methodLink RX6 137 yX6_endPromises,
  .methodLink RX6 140 yJ6_bitCount_0f7a4,
  .code yX6_settle cX6_settle 10 (some .int),
  .methodLink RX6 158 yX6_areAlike,
  .code yX6_allAlike cX6_allAlike 3 (some .boolean),
  .methodLink RX7 3 objectInit,
  .classLink RX7 9 RX9,
  .fieldLink RX7 17 "ReplicaFiles$Server" "marks" "[I",
  .classLink RX7 21 RX8,
  .methodLink RX7 23 yX8_init,
  .methodLink RX7 34 yX9_init,
  .code yX7_init cX7_init 4 none,
  .code yX8_isEntryOf cX8_isEntryOf 3 (some .boolean),
  .code yX8_entriesIn cX8_entriesIn 4 (some .int),
  .methodLink RX8 64 yX8_isEntryOf,
  .instanceMethod yX8_isEntryOf,
  .selects RX8 yX8_isEntryOf yX8_isEntryOf,
  .code yX8_entryAt cX8_entryAt 5 (some .int),
  .code yX8_leastNamed cX8_leastNamed 4 (some .long),
  .constantLong RX8 74 (-2199023255552),
  .methodLink RX10 3 objectInit,
  .methodLink RX10 9 Lib.Math.min.name,
  .static Lib.Math.min.name,
  .code Lib.Math.min.name Lib.Math.min.code 2 (some .int),
  .fieldLink RX10 18 "ReplicaFiles" "serverCount" "I",
  .classLink RX10 22 RX0,
  .instantiable RX0 4,
  .fieldLink RX10 25 "ReplicaFiles" "catalog" "LReplicaFiles$Catalog;",
  .classLink RX10 29 RX5,
  .instantiable RX5 3,
  .fieldLink RX10 34 "ReplicaFiles" "net" "LReplicaFiles$Net;",
  .fieldLink RX10 38 "ReplicaFiles" "tallies" "[I",
  .classLink RX10 42 RX7,
  .fieldLink RX10 44 "ReplicaFiles" "servers" "[LReplicaFiles$Server;",
  .instantiable RX7 4,
  .classLink RX10 51 RX1,
  .fieldLink RX10 53 "ReplicaFiles" "clients" "[LReplicaFiles$Client;",
  .instantiable RX1 12,
  .classLink RX10 60 RX6,
  .instantiable RX6 4,
  .fieldLink RX10 65 "ReplicaFiles" "replicas" "LReplicaFiles$Replicas;",
  .classLink RX10 69 RX2,
  .instantiable RX2 5,
  .fieldLink RX10 74 "ReplicaFiles" "handingIn" "LReplicaFiles$HandingIn;",
  .classLink RX10 78 RX4,
  .instantiable RX4 8,
  .fieldLink RX10 81 "ReplicaFiles" "meeting" "LReplicaFiles$Meeting;",
  .methodLink RX10 24 yX0_init,
  .instanceMethod yX0_init,
  .methodLink RX10 31 yX5_init,
  .instanceMethod yX5_init,
  .methodLink RX10 48 yX7_init,
  .instanceMethod yX7_init,
  .methodLink RX10 57 yX1_init,
  .instanceMethod yX1_init,
  .methodLink RX10 62 yX6_init,
  .instanceMethod yX6_init,
  .methodLink RX10 71 yX2_init,
  .instanceMethod yX2_init,
  .methodLink RX10 80 yX4_init,
  .instanceMethod yX4_init,
  .code yX10_init cX10_init 4 none,
  .code yX10_checkServer cX10_checkServer 2 none,
  .classLink RX10 88 "java/lang/IndexOutOfBoundsException",
  .initialized "java/lang/IndexOutOfBoundsException",
  .methodLink RX10 85 yX10_checkServer,
  .instanceMethod yX10_checkServer,
  .selects RX10 yX10_checkServer yX10_checkServer,
  .methodLink RX10 95 yX5_turnLink,
  .instanceMethod yX5_turnLink,
  .selects RX5 yX5_turnLink yX5_turnLink,
  .methodLink RX10 99 yX1_forgetPromisesOf,
  .instanceMethod yX1_forgetPromisesOf,
  .selects RX1 yX1_forgetPromisesOf yX1_forgetPromisesOf,
  .code yX10_link cX10_link 6 (some .boolean),
  .methodLink RX10 102 yX5_turnServer,
  .instanceMethod yX5_turnServer,
  .selects RX5 yX5_turnServer yX5_turnServer,
  .code yX10_server cX10_server 4 (some .boolean),
  .code yX10_lose cX10_lose 3 (some .boolean),
  .code yX10_checkClient cX10_checkClient 1 none,
  .code yX10_checkObject cX10_checkObject 1 none,
  .code yX10_checkArgument cX10_checkArgument 2 none,
  .classLink RX10 307 "java/lang/IllegalArgumentException",
  .initialized "java/lang/IllegalArgumentException",
  .code yX10_priority cX10_priority 5 (some .int),
  .methodLink RX10 110 yX10_checkClient,
  .static yX10_checkClient,
  .methodLink RX10 113 yX10_checkObject,
  .static yX10_checkObject,
  .methodLink RX10 116 yX10_checkArgument,
  .static yX10_checkArgument,
  .code yX10_startCall cX10_startCall 2 (some (.object "ReplicaFiles$Client")),
  .methodLink RX10 312 yX1_startCall,
  .instanceMethod yX1_startCall,
  .selects RX1 yX1_startCall yX1_startCall,
  .code yX10_stopOfKind cX10_stopOfKind 3 (some .long),
  .constantLong RX10 174 (-2199023255552),
  .constantLong RX10 320 (-2199023255559),
  .methodLink RX10 317 yX0_isMade,
  .code yX10_isAlone cX10_isAlone 2 (some .boolean),
  .methodLink RX10 190 yX5_nearClient,
  .instanceMethod yX5_nearClient,
  .selects RX5 yX5_nearClient yX5_nearClient,
  .constantLong RX10 332 (-2199023255554),
  .constantLong RX10 337 (-2199023255555),
  .constantLong RX10 342 (-2199023255556),
  .methodLink RX10 144 yX10_isAlone,
  .instanceMethod yX10_isAlone,
  .selects RX10 yX10_isAlone yX10_isAlone,
  .methodLink RX10 211 yX1_isGood,
  .instanceMethod yX1_isGood,
  .selects RX1 yX1_isGood yX1_isGood,
  .methodLink RX10 322 yX1_useOwn,
  .instanceMethod yX1_useOwn,
  .selects RX1 yX1_useOwn yX1_useOwn,
  .methodLink RX10 326 yX6_holders,
  .methodLink RX10 329 yX1_drop,
  .methodLink RX10 334 yX6_leastGreatest,
  .instanceMethod yX6_leastGreatest,
  .selects RX6 yX6_leastGreatest yX6_leastGreatest,
  .methodLink RX10 339 yX7_isInConflict,
  .methodLink RX10 344 yX1_use,
  .methodLink RX10 347 yX6_holdersOf,
  .methodLink RX10 351 yX1_takeIn,
  .instanceMethod yX1_takeIn,
  .selects RX1 yX1_takeIn yX1_takeIn,
  .code yX10_obtain cX10_obtain 7 (some .long),
  .methodLink RX10 224 yX10_stopOfKind,
  .instanceMethod yX10_stopOfKind,
  .selects RX10 yX10_stopOfKind yX10_stopOfKind,
  .methodLink RX10 176 yX10_obtain,
  .instanceMethod yX10_obtain,
  .selects RX10 yX10_obtain yX10_obtain,
  .code yX10_obtainKind cX10_obtainKind 6 (some .long),
  .methodLink RX10 123 yX10_startCall,
  .instanceMethod yX10_startCall,
  .selects RX10 yX10_startCall yX10_startCall,
  .methodLink RX10 127 yX10_obtainKind,
  .instanceMethod yX10_obtainKind,
  .selects RX10 yX10_obtainKind yX10_obtainKind,
  .methodLink RX10 135 yX8_leastNamed,
  .instanceMethod yX8_leastNamed,
  .selects RX8 yX8_leastNamed yX8_leastNamed,
  .code yX10_find cX10_find 7 (some .long),
  .code yX10_read cX10_read 6 (some .long),
  .methodLink RX10 392 yX6_countAct,
  .methodLink RX10 386 yX6_endPromisesToOthers,
  .instanceMethod yX6_endPromisesToOthers,
  .selects RX6 yX6_endPromisesToOthers yX6_endPromisesToOthers,
  .methodLink RX10 395 yX6_copyMarks,
  .code yX10_finishNear cX10_finishNear 5 none,
  .methodLink RX10 355 yX6_writeAt,
  .methodLink RX10 359 yX10_finishNear,
  .instanceMethod yX10_finishNear,
  .selects RX10 yX10_finishNear yX10_finishNear,
  .methodLink RX10 363 yX1_changeFile,
  .instanceMethod yX1_changeFile,
  .selects RX1 yX1_changeFile yX1_changeFile,
  .methodLink RX10 367 yJ6_bitCount_0f7a4,
  .code yX10_writeNear cX10_writeNear 6 (some .long),
  .methodLink RX10 148 yX1_writeAlone,
  .instanceMethod yX1_writeAlone,
  .selects RX1 yX1_writeAlone yX1_writeAlone,
  .methodLink RX10 152 yX10_writeNear,
  .instanceMethod yX10_writeNear,
  .selects RX10 yX10_writeNear yX10_writeNear,
  .code yX10_write cX10_write 8 (some .long),
  .methodLink RX10 372 yX0_enter,
  .methodLink RX10 376 yX6_makeAt,
  .methodLink RX10 379 yX1_takeInMade,
  .instanceMethod yX1_takeInMade,
  .selects RX1 yX1_takeInMade yX1_takeInMade,
  .code yX10_makeNear cX10_makeNear 7 (some .long),
  .constantLong RX10 160 (-2199023255557),
  .methodLink RX10 156 yX0_isFull,
  .methodLink RX10 162 yX1_makeAlone,
  .instanceMethod yX1_makeAlone,
  .selects RX1 yX1_makeAlone yX1_makeAlone,
  .methodLink RX10 166 yX10_makeNear,
  .instanceMethod yX10_makeNear,
  .selects RX10 yX10_makeNear yX10_makeNear,
  .code yX10_make cX10_make 8 (some .long),
  .methodLink RX10 382 yX6_removeAt,
  .methodLink RX10 389 yX1_dropRemoved,
  .code yX10_removeNear cX10_removeNear 5 (some .long),
  .methodLink RX10 170 yX8_isThereIn,
  .methodLink RX10 180 yX8_thereIn,
  .methodLink RX10 184 yX1_removeAlone,
  .instanceMethod yX1_removeAlone,
  .selects RX1 yX1_removeAlone yX1_removeAlone,
  .methodLink RX10 187 yX10_removeNear,
  .instanceMethod yX10_removeNear,
  .selects RX10 yX10_removeNear yX10_removeNear,
  .code yX10_remove cX10_remove 7 (some .long),
  .constantLong RX10 193 (-2199023255560),
  .methodLink RX10 204 yX2_handInAll,
  .instanceMethod yX2_handInAll,
  .selects RX2 yX2_handInAll yX2_handInAll,
  .code yX10_handIn cX10_handIn 5 (some .long),
  .code yX10_walk cX10_walk 6 (some .long),
  .methodLink RX10 214 yX5_isUp,
  .methodLink RX10 218 yX5_nearServer,
  .instanceMethod yX5_nearServer,
  .selects RX5 yX5_nearServer yX5_nearServer,
  .methodLink RX10 221 yX4_hold,
  .instanceMethod yX4_hold,
  .selects RX4 yX4_hold yX4_hold,
  .code yX10_meet cX10_meet 2 (some .long),
  .methodLink RX10 228 yX6_leastInConflict,
  .instanceMethod yX6_leastInConflict,
  .selects RX6 yX6_leastInConflict yX6_leastInConflict,
  .methodLink RX10 235 yX9_has,
  .methodLink RX10 240 yX6_settle,
  .instanceMethod yX6_settle,
  .selects RX6 yX6_settle yX6_settle,
  .code yX10_repair cX10_repair 8 (some .long),
  .code yX10_checkWhat cX10_checkWhat 2 none,
  .methodLink RX10 244 yX10_checkWhat,
  .static yX10_checkWhat,
  .methodLink RX10 256 yX8_entriesIn,
  .instanceMethod yX8_entriesIn,
  .selects RX8 yX8_entriesIn yX8_entriesIn,
  .code yX10_copy cX10_copy 5 (some .long),
  .code yX10_vector cX10_vector 7 (some .long),
  .code yX10_version cX10_version 6 (some .long),
  .methodLink RX10 266 yX8_entryAt,
  .instanceMethod yX8_entryAt,
  .selects RX8 yX8_entryAt yX8_entryAt,
  .code yX10_entry cX10_entry 7 (some .long),
  .code yX10_cached cX10_cached 5 (some .long),
  .code yX10_record cX10_record 5 (some .long),
  .methodLink RX10 296 yX6_allAlike,
  .instanceMethod yX6_allAlike,
  .selects RX6 yX6_allAlike yX6_allAlike,
  .code yX10_told cX10_told 2 (some .int),
  .code yJ9_max_7cf53 cJ9_max_7cf53 2 (some .int),
  .code yJ9_min_7cf53 cJ9_min_7cf53 2 (some .int)]
def cBig : List Cond := cBig0 ++ (wsX00 ++ (wsX10 ++ (wsX20 ++ (wsX30 ++ (wsX40 ++ (wsX50 ++ (wsX60 ++ (wsX70 ++ (wsX80 ++ (wsX90 ++ (wsX100)))))))))))
set_option maxRecDepth 100000 in
theorem cBig_all : cBig.all goodWord = true := by decide +kernel
theorem cBig_ok : ∀ w ∈ cBig, (w.onTables && w.keeps) = true ∨ ∃ ty, w = .arrayClass ty := fun w h => good_of_word (List.all_eq_true.mp cBig_all w h)
theorem cB {w : Cond} (k : Nat) (h : cBig0[k]? = some w) : w ∈ cBig := List.mem_append_left _ (List.mem_of_getElem? h)
theorem cBc {a w : Cond} (k : Nat) (h : cBig0[k]? = some w) : w ∈ a :: cBig := List.mem_cons_of_mem _ (cB k h)
theorem cG {a b : Cond} (hb : b ∈ cBig) : GoodIn (a :: cBig) (b :: cBig) := fun w hw => (List.mem_cons.mp hw).elim (fun e => e ▸ ⟨List.mem_cons_of_mem _ hb, cBig_ok b hb⟩) (fun h => ⟨List.mem_cons_of_mem _ h, cBig_ok w h⟩)
theorem cGV {a b : Cond} {own C : String} {idx : Nat} {y : MethodName} (h1 : Cond.methodLink own idx y ∈ cBig) (h2 : Cond.instanceMethod y ∈ cBig) (h3 : Cond.selects C y y ∈ cBig) (h4 : Cond.initialized C ∈ cBig) (hb : b ∈ cBig) : GoodIn (a :: cBig) (wsV own idx C y (b :: cBig)) := by
  intro w hw
  have hm : w ∈ cBig := by
    unfold wsV at hw
    simp only [List.mem_append, List.mem_cons, List.not_mem_nil, or_false] at hw
    rcases hw with (rfl | rfl | rfl | rfl) | rfl | h
    · exact h1
    · exact h2
    · exact h3
    · exact h4
    · exact hb
    · exact h
  exact ⟨List.mem_cons_of_mem _ hm, cBig_ok w hm⟩
theorem cGS {a b : Cond} {own : String} {idx : Nat} {y : MethodName} (h1 : Cond.methodLink own idx y ∈ cBig) (h2 : Cond.static y ∈ cBig) (h4 : Cond.initialized y.cls ∈ cBig) (hb : b ∈ cBig) : GoodIn (a :: cBig) (va_wsS own idx y (b :: cBig)) := by
  intro w hw
  have hm : w ∈ cBig := by
    unfold va_wsS at hw
    simp only [List.mem_append, List.mem_cons, List.not_mem_nil, or_false] at hw
    rcases hw with (rfl | rfl | rfl) | rfl | h
    · exact h1
    · exact h2
    · exact h4
    · exact hb
    · exact h
  exact ⟨List.mem_cons_of_mem _ hm, cBig_ok w hm⟩
theorem cin_X0 {a : Cond} : ∀ w ∈ wsX00, w ∈ a :: cBig := fun w h => by
  unfold cBig
  simp only [List.mem_cons, List.mem_append, h, true_or, or_true]
theorem cin_X1 {a : Cond} : ∀ w ∈ wsX10, w ∈ a :: cBig := fun w h => by
  unfold cBig
  simp only [List.mem_cons, List.mem_append, h, true_or, or_true]
theorem cin_X2 {a : Cond} : ∀ w ∈ wsX20, w ∈ a :: cBig := fun w h => by
  unfold cBig
  simp only [List.mem_cons, List.mem_append, h, true_or, or_true]
theorem cin_X3 {a : Cond} : ∀ w ∈ wsX30, w ∈ a :: cBig := fun w h => by
  unfold cBig
  simp only [List.mem_cons, List.mem_append, h, true_or, or_true]
theorem cin_X4 {a : Cond} : ∀ w ∈ wsX40, w ∈ a :: cBig := fun w h => by
  unfold cBig
  simp only [List.mem_cons, List.mem_append, h, true_or, or_true]
theorem cin_X5 {a : Cond} : ∀ w ∈ wsX50, w ∈ a :: cBig := fun w h => by
  unfold cBig
  simp only [List.mem_cons, List.mem_append, h, true_or, or_true]
theorem cin_X6 {a : Cond} : ∀ w ∈ wsX60, w ∈ a :: cBig := fun w h => by
  unfold cBig
  simp only [List.mem_cons, List.mem_append, h, true_or, or_true]
theorem cin_X7 {a : Cond} : ∀ w ∈ wsX70, w ∈ a :: cBig := fun w h => by
  unfold cBig
  simp only [List.mem_cons, List.mem_append, h, true_or, or_true]
theorem cin_X8 {a : Cond} : ∀ w ∈ wsX80, w ∈ a :: cBig := fun w h => by
  unfold cBig
  simp only [List.mem_cons, List.mem_append, h, true_or, or_true]
theorem cin_X9 {a : Cond} : ∀ w ∈ wsX90, w ∈ a :: cBig := fun w h => by
  unfold cBig
  simp only [List.mem_cons, List.mem_append, h, true_or, or_true]
theorem cin_X10 {a : Cond} : ∀ w ∈ wsX100, w ∈ a :: cBig := fun w h => by
  unfold cBig
  simp only [List.mem_cons, List.mem_append, h, true_or, or_true]
section CR
variable {p : Program} {l : Launch} {e : Env} {R : Room} {s : State} {m : MethodId} {args : Array Value} {below : List Frame} {meth : Method} {c : Code} {H : Heap} {locs : List Loc} {cells slots : Nat} {Q : State → Prop}
variable {cc : ByteArray} {pc nL index N : Nat} {ls : Array Slot} {rest : List Value} {Ts : List Cond} {own : String} {D : va_G} {dA : Nat → ClassId} {A : gI → Nat} {reg : Nat → Prop} {H0 : Heap} {M : gM}
theorem cr_X10_serverCount (S : CallFix p m c cc nL s args Ts RX10) (X : gX D vwCl dA (cLive N) A reg s) (Z : gZ D (cLay N) dA (cLive N) A reg H0 M H locs) (hin : ∀ w ∈ wsX100, w ∈ Ts) (hi : cLive N (0, 0, 0)) (hl : (Cond.fieldLink RX10 index "ReplicaFiles" "serverCount" "I").before args s = true) (hdg : decode cc pc = .ok (.getfield index, 3)) {β : Type} {kq : Int32 → Option β} {y : β} (h : lt (M (0, 0, 0) 0) kq = some y) (kk : ∀ v : Int32, kq v = some y → W p l e R s m args below meth c H locs cells slots Q (F0 m (pc + 3) ls (.int v :: rest))) : W p l e R s m args below meth c H locs cells slots Q (F0 m pc ls (.ref (A (0, 0, 0)) :: rest)) := g_gi (C := RX10) (T := TX10) S X Z hin rfl hi rfl 0 (by decide) ⟨rfl, rfl, rfl⟩ rfl hl hdg (kk _ h)
theorem cr_X10_catalog (S : CallFix p m c cc nL s args Ts RX10) (X : gX D vwCl dA (cLive N) A reg s) (Z : gZ D (cLay N) dA (cLive N) A reg H0 M H locs) (hin : ∀ w ∈ wsX100, w ∈ Ts) (hi : cLive N (0, 0, 0)) (hl : (Cond.fieldLink RX10 index "ReplicaFiles" "catalog" "LReplicaFiles$Catalog;").before args s = true) (hdg : decode cc pc = .ok (.getfield index, 3)) (kk : W p l e R s m args below meth c H locs cells slots Q (F0 m (pc + 3) ls (.ref (A (1, 0, 0)) :: rest))) : W p l e R s m args below meth c H locs cells slots Q (F0 m pc ls (.ref (A (0, 0, 0)) :: rest)) := g_gr (C := RX10) (T := TX10) S X Z hin rfl hi rfl 1 (by decide) ⟨rfl, rfl, rfl⟩ rfl hl hdg kk
theorem cr_X10_net (S : CallFix p m c cc nL s args Ts RX10) (X : gX D vwCl dA (cLive N) A reg s) (Z : gZ D (cLay N) dA (cLive N) A reg H0 M H locs) (hin : ∀ w ∈ wsX100, w ∈ Ts) (hi : cLive N (0, 0, 0)) (hl : (Cond.fieldLink RX10 index "ReplicaFiles" "net" "LReplicaFiles$Net;").before args s = true) (hdg : decode cc pc = .ok (.getfield index, 3)) (kk : W p l e R s m args below meth c H locs cells slots Q (F0 m (pc + 3) ls (.ref (A (5, 0, 0)) :: rest))) : W p l e R s m args below meth c H locs cells slots Q (F0 m pc ls (.ref (A (0, 0, 0)) :: rest)) := g_gr (C := RX10) (T := TX10) S X Z hin rfl hi rfl 2 (by decide) ⟨rfl, rfl, rfl⟩ rfl hl hdg kk
theorem cr_X10_servers (S : CallFix p m c cc nL s args Ts RX10) (X : gX D vwCl dA (cLive N) A reg s) (Z : gZ D (cLay N) dA (cLive N) A reg H0 M H locs) (hin : ∀ w ∈ wsX100, w ∈ Ts) (hi : cLive N (0, 0, 0)) (hl : (Cond.fieldLink RX10 index "ReplicaFiles" "servers" "[LReplicaFiles$Server;").before args s = true) (hdg : decode cc pc = .ok (.getfield index, 3)) (kk : W p l e R s m args below meth c H locs cells slots Q (F0 m (pc + 3) ls (.ref (A (7, 0, 0)) :: rest))) : W p l e R s m args below meth c H locs cells slots Q (F0 m pc ls (.ref (A (0, 0, 0)) :: rest)) := g_gr (C := RX10) (T := TX10) S X Z hin rfl hi rfl 3 (by decide) ⟨rfl, rfl, rfl⟩ rfl hl hdg kk
theorem cr_X10_clients (S : CallFix p m c cc nL s args Ts RX10) (X : gX D vwCl dA (cLive N) A reg s) (Z : gZ D (cLay N) dA (cLive N) A reg H0 M H locs) (hin : ∀ w ∈ wsX100, w ∈ Ts) (hi : cLive N (0, 0, 0)) (hl : (Cond.fieldLink RX10 index "ReplicaFiles" "clients" "[LReplicaFiles$Client;").before args s = true) (hdg : decode cc pc = .ok (.getfield index, 3)) (kk : W p l e R s m args below meth c H locs cells slots Q (F0 m (pc + 3) ls (.ref (A (8, 0, 0)) :: rest))) : W p l e R s m args below meth c H locs cells slots Q (F0 m pc ls (.ref (A (0, 0, 0)) :: rest)) := g_gr (C := RX10) (T := TX10) S X Z hin rfl hi rfl 4 (by decide) ⟨rfl, rfl, rfl⟩ rfl hl hdg kk
theorem cr_X10_tallies (S : CallFix p m c cc nL s args Ts RX10) (X : gX D vwCl dA (cLive N) A reg s) (Z : gZ D (cLay N) dA (cLive N) A reg H0 M H locs) (hin : ∀ w ∈ wsX100, w ∈ Ts) (hi : cLive N (0, 0, 0)) (hl : (Cond.fieldLink RX10 index "ReplicaFiles" "tallies" "[I").before args s = true) (hdg : decode cc pc = .ok (.getfield index, 3)) (kk : W p l e R s m args below meth c H locs cells slots Q (F0 m (pc + 3) ls (.ref (A (9, 0, 0)) :: rest))) : W p l e R s m args below meth c H locs cells slots Q (F0 m pc ls (.ref (A (0, 0, 0)) :: rest)) := g_gr (C := RX10) (T := TX10) S X Z hin rfl hi rfl 5 (by decide) ⟨rfl, rfl, rfl⟩ rfl hl hdg kk
theorem cr_X10_replicas (S : CallFix p m c cc nL s args Ts RX10) (X : gX D vwCl dA (cLive N) A reg s) (Z : gZ D (cLay N) dA (cLive N) A reg H0 M H locs) (hin : ∀ w ∈ wsX100, w ∈ Ts) (hi : cLive N (0, 0, 0)) (hl : (Cond.fieldLink RX10 index "ReplicaFiles" "replicas" "LReplicaFiles$Replicas;").before args s = true) (hdg : decode cc pc = .ok (.getfield index, 3)) (kk : W p l e R s m args below meth c H locs cells slots Q (F0 m (pc + 3) ls (.ref (A (10, 0, 0)) :: rest))) : W p l e R s m args below meth c H locs cells slots Q (F0 m pc ls (.ref (A (0, 0, 0)) :: rest)) := g_gr (C := RX10) (T := TX10) S X Z hin rfl hi rfl 6 (by decide) ⟨rfl, rfl, rfl⟩ rfl hl hdg kk
theorem cr_X10_handingIn (S : CallFix p m c cc nL s args Ts RX10) (X : gX D vwCl dA (cLive N) A reg s) (Z : gZ D (cLay N) dA (cLive N) A reg H0 M H locs) (hin : ∀ w ∈ wsX100, w ∈ Ts) (hi : cLive N (0, 0, 0)) (hl : (Cond.fieldLink RX10 index "ReplicaFiles" "handingIn" "LReplicaFiles$HandingIn;").before args s = true) (hdg : decode cc pc = .ok (.getfield index, 3)) (kk : W p l e R s m args below meth c H locs cells slots Q (F0 m (pc + 3) ls (.ref (A (11, 0, 0)) :: rest))) : W p l e R s m args below meth c H locs cells slots Q (F0 m pc ls (.ref (A (0, 0, 0)) :: rest)) := g_gr (C := RX10) (T := TX10) S X Z hin rfl hi rfl 7 (by decide) ⟨rfl, rfl, rfl⟩ rfl hl hdg kk
theorem cr_X10_meeting (S : CallFix p m c cc nL s args Ts RX10) (X : gX D vwCl dA (cLive N) A reg s) (Z : gZ D (cLay N) dA (cLive N) A reg H0 M H locs) (hin : ∀ w ∈ wsX100, w ∈ Ts) (hi : cLive N (0, 0, 0)) (hl : (Cond.fieldLink RX10 index "ReplicaFiles" "meeting" "LReplicaFiles$Meeting;").before args s = true) (hdg : decode cc pc = .ok (.getfield index, 3)) (kk : W p l e R s m args below meth c H locs cells slots Q (F0 m (pc + 3) ls (.ref (A (13, 0, 0)) :: rest))) : W p l e R s m args below meth c H locs cells slots Q (F0 m pc ls (.ref (A (0, 0, 0)) :: rest)) := g_gr (C := RX10) (T := TX10) S X Z hin rfl hi rfl 8 (by decide) ⟨rfl, rfl, rfl⟩ rfl hl hdg kk
theorem cn_X10_serverCount (S : CallFix p m c cc nL s args Ts own) (X : gX D vwCl dA (cLive N) A reg s) (Z : gZ D (cLay N) dA (cLive N) A reg H0 M H locs) (hin : ∀ w ∈ wsX100, w ∈ Ts) (hi : cLive N (0, 0, 0)) (hl : (Cond.fieldLinkNest own index "ReplicaFiles" "serverCount" "I" "ReplicaFiles").before args s = true) (hdg : decode cc pc = .ok (.getfield index, 3)) {β : Type} {kq : Int32 → Option β} {y : β} (h : lt (M (0, 0, 0) 0) kq = some y) (kk : ∀ v : Int32, kq v = some y → W p l e R s m args below meth c H locs cells slots Q (F0 m (pc + 3) ls (.int v :: rest))) : W p l e R s m args below meth c H locs cells slots Q (F0 m pc ls (.ref (A (0, 0, 0)) :: rest)) := g_giN (C := RX10) (T := TX10) S X Z hin rfl hi rfl 0 (by decide) ⟨rfl, rfl, rfl⟩ rfl hl hdg (kk _ h)
theorem cn_X10_catalog (S : CallFix p m c cc nL s args Ts own) (X : gX D vwCl dA (cLive N) A reg s) (Z : gZ D (cLay N) dA (cLive N) A reg H0 M H locs) (hin : ∀ w ∈ wsX100, w ∈ Ts) (hi : cLive N (0, 0, 0)) (hl : (Cond.fieldLinkNest own index "ReplicaFiles" "catalog" "LReplicaFiles$Catalog;" "ReplicaFiles").before args s = true) (hdg : decode cc pc = .ok (.getfield index, 3)) (kk : W p l e R s m args below meth c H locs cells slots Q (F0 m (pc + 3) ls (.ref (A (1, 0, 0)) :: rest))) : W p l e R s m args below meth c H locs cells slots Q (F0 m pc ls (.ref (A (0, 0, 0)) :: rest)) := g_grN (C := RX10) (T := TX10) S X Z hin rfl hi rfl 1 (by decide) ⟨rfl, rfl, rfl⟩ rfl hl hdg kk
theorem cn_X10_net (S : CallFix p m c cc nL s args Ts own) (X : gX D vwCl dA (cLive N) A reg s) (Z : gZ D (cLay N) dA (cLive N) A reg H0 M H locs) (hin : ∀ w ∈ wsX100, w ∈ Ts) (hi : cLive N (0, 0, 0)) (hl : (Cond.fieldLinkNest own index "ReplicaFiles" "net" "LReplicaFiles$Net;" "ReplicaFiles").before args s = true) (hdg : decode cc pc = .ok (.getfield index, 3)) (kk : W p l e R s m args below meth c H locs cells slots Q (F0 m (pc + 3) ls (.ref (A (5, 0, 0)) :: rest))) : W p l e R s m args below meth c H locs cells slots Q (F0 m pc ls (.ref (A (0, 0, 0)) :: rest)) := g_grN (C := RX10) (T := TX10) S X Z hin rfl hi rfl 2 (by decide) ⟨rfl, rfl, rfl⟩ rfl hl hdg kk
theorem cn_X10_servers (S : CallFix p m c cc nL s args Ts own) (X : gX D vwCl dA (cLive N) A reg s) (Z : gZ D (cLay N) dA (cLive N) A reg H0 M H locs) (hin : ∀ w ∈ wsX100, w ∈ Ts) (hi : cLive N (0, 0, 0)) (hl : (Cond.fieldLinkNest own index "ReplicaFiles" "servers" "[LReplicaFiles$Server;" "ReplicaFiles").before args s = true) (hdg : decode cc pc = .ok (.getfield index, 3)) (kk : W p l e R s m args below meth c H locs cells slots Q (F0 m (pc + 3) ls (.ref (A (7, 0, 0)) :: rest))) : W p l e R s m args below meth c H locs cells slots Q (F0 m pc ls (.ref (A (0, 0, 0)) :: rest)) := g_grN (C := RX10) (T := TX10) S X Z hin rfl hi rfl 3 (by decide) ⟨rfl, rfl, rfl⟩ rfl hl hdg kk
theorem cn_X10_clients (S : CallFix p m c cc nL s args Ts own) (X : gX D vwCl dA (cLive N) A reg s) (Z : gZ D (cLay N) dA (cLive N) A reg H0 M H locs) (hin : ∀ w ∈ wsX100, w ∈ Ts) (hi : cLive N (0, 0, 0)) (hl : (Cond.fieldLinkNest own index "ReplicaFiles" "clients" "[LReplicaFiles$Client;" "ReplicaFiles").before args s = true) (hdg : decode cc pc = .ok (.getfield index, 3)) (kk : W p l e R s m args below meth c H locs cells slots Q (F0 m (pc + 3) ls (.ref (A (8, 0, 0)) :: rest))) : W p l e R s m args below meth c H locs cells slots Q (F0 m pc ls (.ref (A (0, 0, 0)) :: rest)) := g_grN (C := RX10) (T := TX10) S X Z hin rfl hi rfl 4 (by decide) ⟨rfl, rfl, rfl⟩ rfl hl hdg kk
theorem cn_X10_tallies (S : CallFix p m c cc nL s args Ts own) (X : gX D vwCl dA (cLive N) A reg s) (Z : gZ D (cLay N) dA (cLive N) A reg H0 M H locs) (hin : ∀ w ∈ wsX100, w ∈ Ts) (hi : cLive N (0, 0, 0)) (hl : (Cond.fieldLinkNest own index "ReplicaFiles" "tallies" "[I" "ReplicaFiles").before args s = true) (hdg : decode cc pc = .ok (.getfield index, 3)) (kk : W p l e R s m args below meth c H locs cells slots Q (F0 m (pc + 3) ls (.ref (A (9, 0, 0)) :: rest))) : W p l e R s m args below meth c H locs cells slots Q (F0 m pc ls (.ref (A (0, 0, 0)) :: rest)) := g_grN (C := RX10) (T := TX10) S X Z hin rfl hi rfl 5 (by decide) ⟨rfl, rfl, rfl⟩ rfl hl hdg kk
theorem cn_X10_replicas (S : CallFix p m c cc nL s args Ts own) (X : gX D vwCl dA (cLive N) A reg s) (Z : gZ D (cLay N) dA (cLive N) A reg H0 M H locs) (hin : ∀ w ∈ wsX100, w ∈ Ts) (hi : cLive N (0, 0, 0)) (hl : (Cond.fieldLinkNest own index "ReplicaFiles" "replicas" "LReplicaFiles$Replicas;" "ReplicaFiles").before args s = true) (hdg : decode cc pc = .ok (.getfield index, 3)) (kk : W p l e R s m args below meth c H locs cells slots Q (F0 m (pc + 3) ls (.ref (A (10, 0, 0)) :: rest))) : W p l e R s m args below meth c H locs cells slots Q (F0 m pc ls (.ref (A (0, 0, 0)) :: rest)) := g_grN (C := RX10) (T := TX10) S X Z hin rfl hi rfl 6 (by decide) ⟨rfl, rfl, rfl⟩ rfl hl hdg kk
theorem cn_X10_handingIn (S : CallFix p m c cc nL s args Ts own) (X : gX D vwCl dA (cLive N) A reg s) (Z : gZ D (cLay N) dA (cLive N) A reg H0 M H locs) (hin : ∀ w ∈ wsX100, w ∈ Ts) (hi : cLive N (0, 0, 0)) (hl : (Cond.fieldLinkNest own index "ReplicaFiles" "handingIn" "LReplicaFiles$HandingIn;" "ReplicaFiles").before args s = true) (hdg : decode cc pc = .ok (.getfield index, 3)) (kk : W p l e R s m args below meth c H locs cells slots Q (F0 m (pc + 3) ls (.ref (A (11, 0, 0)) :: rest))) : W p l e R s m args below meth c H locs cells slots Q (F0 m pc ls (.ref (A (0, 0, 0)) :: rest)) := g_grN (C := RX10) (T := TX10) S X Z hin rfl hi rfl 7 (by decide) ⟨rfl, rfl, rfl⟩ rfl hl hdg kk
theorem cn_X10_meeting (S : CallFix p m c cc nL s args Ts own) (X : gX D vwCl dA (cLive N) A reg s) (Z : gZ D (cLay N) dA (cLive N) A reg H0 M H locs) (hin : ∀ w ∈ wsX100, w ∈ Ts) (hi : cLive N (0, 0, 0)) (hl : (Cond.fieldLinkNest own index "ReplicaFiles" "meeting" "LReplicaFiles$Meeting;" "ReplicaFiles").before args s = true) (hdg : decode cc pc = .ok (.getfield index, 3)) (kk : W p l e R s m args below meth c H locs cells slots Q (F0 m (pc + 3) ls (.ref (A (13, 0, 0)) :: rest))) : W p l e R s m args below meth c H locs cells slots Q (F0 m pc ls (.ref (A (0, 0, 0)) :: rest)) := g_grN (C := RX10) (T := TX10) S X Z hin rfl hi rfl 8 (by decide) ⟨rfl, rfl, rfl⟩ rfl hl hdg kk
theorem cr_X0_parent (S : CallFix p m c cc nL s args Ts RX0) (X : gX D vwCl dA (cLive N) A reg s) (Z : gZ D (cLay N) dA (cLive N) A reg H0 M H locs) (hin : ∀ w ∈ wsX00, w ∈ Ts) (hi : cLive N (1, 0, 0)) (hl : (Cond.fieldLink RX0 index "ReplicaFiles$Catalog" "parent" "[I").before args s = true) (hdg : decode cc pc = .ok (.getfield index, 3)) (kk : W p l e R s m args below meth c H locs cells slots Q (F0 m (pc + 3) ls (.ref (A (2, 0, 0)) :: rest))) : W p l e R s m args below meth c H locs cells slots Q (F0 m pc ls (.ref (A (1, 0, 0)) :: rest)) := g_gr (C := RX0) (T := TX0) S X Z hin rfl hi rfl 0 (by decide) ⟨rfl, rfl, rfl⟩ rfl hl hdg kk
theorem cr_X0_name (S : CallFix p m c cc nL s args Ts RX0) (X : gX D vwCl dA (cLive N) A reg s) (Z : gZ D (cLay N) dA (cLive N) A reg H0 M H locs) (hin : ∀ w ∈ wsX00, w ∈ Ts) (hi : cLive N (1, 0, 0)) (hl : (Cond.fieldLink RX0 index "ReplicaFiles$Catalog" "name" "[I").before args s = true) (hdg : decode cc pc = .ok (.getfield index, 3)) (kk : W p l e R s m args below meth c H locs cells slots Q (F0 m (pc + 3) ls (.ref (A (3, 0, 0)) :: rest))) : W p l e R s m args below meth c H locs cells slots Q (F0 m pc ls (.ref (A (1, 0, 0)) :: rest)) := g_gr (C := RX0) (T := TX0) S X Z hin rfl hi rfl 1 (by decide) ⟨rfl, rfl, rfl⟩ rfl hl hdg kk
theorem cr_X0_isDirectory (S : CallFix p m c cc nL s args Ts RX0) (X : gX D vwCl dA (cLive N) A reg s) (Z : gZ D (cLay N) dA (cLive N) A reg H0 M H locs) (hin : ∀ w ∈ wsX00, w ∈ Ts) (hi : cLive N (1, 0, 0)) (hl : (Cond.fieldLink RX0 index "ReplicaFiles$Catalog" "isDirectory" "[Z").before args s = true) (hdg : decode cc pc = .ok (.getfield index, 3)) (kk : W p l e R s m args below meth c H locs cells slots Q (F0 m (pc + 3) ls (.ref (A (4, 0, 0)) :: rest))) : W p l e R s m args below meth c H locs cells slots Q (F0 m pc ls (.ref (A (1, 0, 0)) :: rest)) := g_gr (C := RX0) (T := TX0) S X Z hin rfl hi rfl 2 (by decide) ⟨rfl, rfl, rfl⟩ rfl hl hdg kk
theorem cr_X0_made (S : CallFix p m c cc nL s args Ts RX0) (X : gX D vwCl dA (cLive N) A reg s) (Z : gZ D (cLay N) dA (cLive N) A reg H0 M H locs) (hin : ∀ w ∈ wsX00, w ∈ Ts) (hi : cLive N (1, 0, 0)) (hl : (Cond.fieldLink RX0 index "ReplicaFiles$Catalog" "made" "I").before args s = true) (hdg : decode cc pc = .ok (.getfield index, 3)) {β : Type} {kq : Int32 → Option β} {y : β} (h : lt (M (1, 0, 0) 3) kq = some y) (kk : ∀ v : Int32, kq v = some y → W p l e R s m args below meth c H locs cells slots Q (F0 m (pc + 3) ls (.int v :: rest))) : W p l e R s m args below meth c H locs cells slots Q (F0 m pc ls (.ref (A (1, 0, 0)) :: rest)) := g_gi (C := RX0) (T := TX0) S X Z hin rfl hi rfl 3 (by decide) ⟨rfl, rfl, rfl⟩ rfl hl hdg (kk _ h)
theorem cp_X0_made (S : CallFix p m c cc nL s args Ts RX0) (X : gX D vwCl dA (cLive N) A reg s) (Z : gZ D (cLay N) dA (cLive N) A reg H0 M H locs) (hin : ∀ w ∈ wsX00, w ∈ Ts) (hi : cLive N (1, 0, 0)) (hl : (Cond.fieldLink RX0 index "ReplicaFiles$Catalog" "made" "I").before args s = true) (hdg : decode cc pc = .ok (.putfield index, 3)) {x : Int32} {β : Type} {kq : gM → Option β} {y : β} (h : lt (gset M (1, 0, 0) 3 x) kq = some y) (kk : ∀ (M1 : gM) (H1 : Heap) (locs1 : List Loc), gZ D (cLay N) dA (cLive N) A reg H0 M1 H1 locs1 → kq M1 = some y → W p l e R s m args below meth c H1 locs1 cells slots Q (F0 m (pc + 3) ls rest)) : W p l e R s m args below meth c H locs cells slots Q (F0 m pc ls (.int x :: .ref (A (1, 0, 0)) :: rest)) := g_pi (C := RX0) (T := TX0) (ty := .int) S X Z hin rfl tyX0 tyX0_ok nmX0 hi rfl 3 (by decide) ⟨rfl, rfl, rfl, rfl⟩ rfl hl (by decide) rfl rfl hdg h kk
theorem cn_X0_parent (S : CallFix p m c cc nL s args Ts own) (X : gX D vwCl dA (cLive N) A reg s) (Z : gZ D (cLay N) dA (cLive N) A reg H0 M H locs) (hin : ∀ w ∈ wsX00, w ∈ Ts) (hi : cLive N (1, 0, 0)) (hl : (Cond.fieldLinkNest own index "ReplicaFiles$Catalog" "parent" "[I" "ReplicaFiles").before args s = true) (hdg : decode cc pc = .ok (.getfield index, 3)) (kk : W p l e R s m args below meth c H locs cells slots Q (F0 m (pc + 3) ls (.ref (A (2, 0, 0)) :: rest))) : W p l e R s m args below meth c H locs cells slots Q (F0 m pc ls (.ref (A (1, 0, 0)) :: rest)) := g_grN (C := RX0) (T := TX0) S X Z hin rfl hi rfl 0 (by decide) ⟨rfl, rfl, rfl⟩ rfl hl hdg kk
theorem cn_X0_name (S : CallFix p m c cc nL s args Ts own) (X : gX D vwCl dA (cLive N) A reg s) (Z : gZ D (cLay N) dA (cLive N) A reg H0 M H locs) (hin : ∀ w ∈ wsX00, w ∈ Ts) (hi : cLive N (1, 0, 0)) (hl : (Cond.fieldLinkNest own index "ReplicaFiles$Catalog" "name" "[I" "ReplicaFiles").before args s = true) (hdg : decode cc pc = .ok (.getfield index, 3)) (kk : W p l e R s m args below meth c H locs cells slots Q (F0 m (pc + 3) ls (.ref (A (3, 0, 0)) :: rest))) : W p l e R s m args below meth c H locs cells slots Q (F0 m pc ls (.ref (A (1, 0, 0)) :: rest)) := g_grN (C := RX0) (T := TX0) S X Z hin rfl hi rfl 1 (by decide) ⟨rfl, rfl, rfl⟩ rfl hl hdg kk
theorem cn_X0_isDirectory (S : CallFix p m c cc nL s args Ts own) (X : gX D vwCl dA (cLive N) A reg s) (Z : gZ D (cLay N) dA (cLive N) A reg H0 M H locs) (hin : ∀ w ∈ wsX00, w ∈ Ts) (hi : cLive N (1, 0, 0)) (hl : (Cond.fieldLinkNest own index "ReplicaFiles$Catalog" "isDirectory" "[Z" "ReplicaFiles").before args s = true) (hdg : decode cc pc = .ok (.getfield index, 3)) (kk : W p l e R s m args below meth c H locs cells slots Q (F0 m (pc + 3) ls (.ref (A (4, 0, 0)) :: rest))) : W p l e R s m args below meth c H locs cells slots Q (F0 m pc ls (.ref (A (1, 0, 0)) :: rest)) := g_grN (C := RX0) (T := TX0) S X Z hin rfl hi rfl 2 (by decide) ⟨rfl, rfl, rfl⟩ rfl hl hdg kk
theorem cn_X0_made (S : CallFix p m c cc nL s args Ts own) (X : gX D vwCl dA (cLive N) A reg s) (Z : gZ D (cLay N) dA (cLive N) A reg H0 M H locs) (hin : ∀ w ∈ wsX00, w ∈ Ts) (hi : cLive N (1, 0, 0)) (hl : (Cond.fieldLinkNest own index "ReplicaFiles$Catalog" "made" "I" "ReplicaFiles").before args s = true) (hdg : decode cc pc = .ok (.getfield index, 3)) {β : Type} {kq : Int32 → Option β} {y : β} (h : lt (M (1, 0, 0) 3) kq = some y) (kk : ∀ v : Int32, kq v = some y → W p l e R s m args below meth c H locs cells slots Q (F0 m (pc + 3) ls (.int v :: rest))) : W p l e R s m args below meth c H locs cells slots Q (F0 m pc ls (.ref (A (1, 0, 0)) :: rest)) := g_giN (C := RX0) (T := TX0) S X Z hin rfl hi rfl 3 (by decide) ⟨rfl, rfl, rfl⟩ rfl hl hdg (kk _ h)
theorem cq_X0_made (S : CallFix p m c cc nL s args Ts own) (X : gX D vwCl dA (cLive N) A reg s) (Z : gZ D (cLay N) dA (cLive N) A reg H0 M H locs) (hin : ∀ w ∈ wsX00, w ∈ Ts) (hi : cLive N (1, 0, 0)) (hl : (Cond.fieldLinkNest own index "ReplicaFiles$Catalog" "made" "I" "ReplicaFiles").before args s = true) (hdg : decode cc pc = .ok (.putfield index, 3)) {x : Int32} {β : Type} {kq : gM → Option β} {y : β} (h : lt (gset M (1, 0, 0) 3 x) kq = some y) (kk : ∀ (M1 : gM) (H1 : Heap) (locs1 : List Loc), gZ D (cLay N) dA (cLive N) A reg H0 M1 H1 locs1 → kq M1 = some y → W p l e R s m args below meth c H1 locs1 cells slots Q (F0 m (pc + 3) ls rest)) : W p l e R s m args below meth c H locs cells slots Q (F0 m pc ls (.int x :: .ref (A (1, 0, 0)) :: rest)) := g_piN (C := RX0) (T := TX0) (ty := .int) S X Z hin rfl tyX0 tyX0_ok nmX0 hi rfl 3 (by decide) ⟨rfl, rfl, rfl, rfl⟩ rfl hl (by decide) rfl rfl hdg h kk
theorem cr_X5_serverCount (S : CallFix p m c cc nL s args Ts RX5) (X : gX D vwCl dA (cLive N) A reg s) (Z : gZ D (cLay N) dA (cLive N) A reg H0 M H locs) (hin : ∀ w ∈ wsX50, w ∈ Ts) (hi : cLive N (5, 0, 0)) (hl : (Cond.fieldLink RX5 index "ReplicaFiles$Net" "serverCount" "I").before args s = true) (hdg : decode cc pc = .ok (.getfield index, 3)) {β : Type} {kq : Int32 → Option β} {y : β} (h : lt (M (5, 0, 0) 0) kq = some y) (kk : ∀ v : Int32, kq v = some y → W p l e R s m args below meth c H locs cells slots Q (F0 m (pc + 3) ls (.int v :: rest))) : W p l e R s m args below meth c H locs cells slots Q (F0 m pc ls (.ref (A (5, 0, 0)) :: rest)) := g_gi (C := RX5) (T := TX5) S X Z hin rfl hi rfl 0 (by decide) ⟨rfl, rfl, rfl⟩ rfl hl hdg (kk _ h)
theorem cr_X5_broken (S : CallFix p m c cc nL s args Ts RX5) (X : gX D vwCl dA (cLive N) A reg s) (Z : gZ D (cLay N) dA (cLive N) A reg H0 M H locs) (hin : ∀ w ∈ wsX50, w ∈ Ts) (hi : cLive N (5, 0, 0)) (hl : (Cond.fieldLink RX5 index "ReplicaFiles$Net" "broken" "[I").before args s = true) (hdg : decode cc pc = .ok (.getfield index, 3)) (kk : W p l e R s m args below meth c H locs cells slots Q (F0 m (pc + 3) ls (.ref (A (6, 0, 0)) :: rest))) : W p l e R s m args below meth c H locs cells slots Q (F0 m pc ls (.ref (A (5, 0, 0)) :: rest)) := g_gr (C := RX5) (T := TX5) S X Z hin rfl hi rfl 1 (by decide) ⟨rfl, rfl, rfl⟩ rfl hl hdg kk
theorem cr_X5_up (S : CallFix p m c cc nL s args Ts RX5) (X : gX D vwCl dA (cLive N) A reg s) (Z : gZ D (cLay N) dA (cLive N) A reg H0 M H locs) (hin : ∀ w ∈ wsX50, w ∈ Ts) (hi : cLive N (5, 0, 0)) (hl : (Cond.fieldLink RX5 index "ReplicaFiles$Net" "up" "I").before args s = true) (hdg : decode cc pc = .ok (.getfield index, 3)) {β : Type} {kq : Int32 → Option β} {y : β} (h : lt (M (5, 0, 0) 2) kq = some y) (kk : ∀ v : Int32, kq v = some y → W p l e R s m args below meth c H locs cells slots Q (F0 m (pc + 3) ls (.int v :: rest))) : W p l e R s m args below meth c H locs cells slots Q (F0 m pc ls (.ref (A (5, 0, 0)) :: rest)) := g_gi (C := RX5) (T := TX5) S X Z hin rfl hi rfl 2 (by decide) ⟨rfl, rfl, rfl⟩ rfl hl hdg (kk _ h)
theorem cp_X5_up (S : CallFix p m c cc nL s args Ts RX5) (X : gX D vwCl dA (cLive N) A reg s) (Z : gZ D (cLay N) dA (cLive N) A reg H0 M H locs) (hin : ∀ w ∈ wsX50, w ∈ Ts) (hi : cLive N (5, 0, 0)) (hl : (Cond.fieldLink RX5 index "ReplicaFiles$Net" "up" "I").before args s = true) (hdg : decode cc pc = .ok (.putfield index, 3)) {x : Int32} {β : Type} {kq : gM → Option β} {y : β} (h : lt (gset M (5, 0, 0) 2 x) kq = some y) (kk : ∀ (M1 : gM) (H1 : Heap) (locs1 : List Loc), gZ D (cLay N) dA (cLive N) A reg H0 M1 H1 locs1 → kq M1 = some y → W p l e R s m args below meth c H1 locs1 cells slots Q (F0 m (pc + 3) ls rest)) : W p l e R s m args below meth c H locs cells slots Q (F0 m pc ls (.int x :: .ref (A (5, 0, 0)) :: rest)) := g_pi (C := RX5) (T := TX5) (ty := .int) S X Z hin rfl tyX5 tyX5_ok nmX5 hi rfl 2 (by decide) ⟨rfl, rfl, rfl, rfl⟩ rfl hl (by decide) rfl rfl hdg h kk
theorem cn_X5_serverCount (S : CallFix p m c cc nL s args Ts own) (X : gX D vwCl dA (cLive N) A reg s) (Z : gZ D (cLay N) dA (cLive N) A reg H0 M H locs) (hin : ∀ w ∈ wsX50, w ∈ Ts) (hi : cLive N (5, 0, 0)) (hl : (Cond.fieldLinkNest own index "ReplicaFiles$Net" "serverCount" "I" "ReplicaFiles").before args s = true) (hdg : decode cc pc = .ok (.getfield index, 3)) {β : Type} {kq : Int32 → Option β} {y : β} (h : lt (M (5, 0, 0) 0) kq = some y) (kk : ∀ v : Int32, kq v = some y → W p l e R s m args below meth c H locs cells slots Q (F0 m (pc + 3) ls (.int v :: rest))) : W p l e R s m args below meth c H locs cells slots Q (F0 m pc ls (.ref (A (5, 0, 0)) :: rest)) := g_giN (C := RX5) (T := TX5) S X Z hin rfl hi rfl 0 (by decide) ⟨rfl, rfl, rfl⟩ rfl hl hdg (kk _ h)
theorem cn_X5_broken (S : CallFix p m c cc nL s args Ts own) (X : gX D vwCl dA (cLive N) A reg s) (Z : gZ D (cLay N) dA (cLive N) A reg H0 M H locs) (hin : ∀ w ∈ wsX50, w ∈ Ts) (hi : cLive N (5, 0, 0)) (hl : (Cond.fieldLinkNest own index "ReplicaFiles$Net" "broken" "[I" "ReplicaFiles").before args s = true) (hdg : decode cc pc = .ok (.getfield index, 3)) (kk : W p l e R s m args below meth c H locs cells slots Q (F0 m (pc + 3) ls (.ref (A (6, 0, 0)) :: rest))) : W p l e R s m args below meth c H locs cells slots Q (F0 m pc ls (.ref (A (5, 0, 0)) :: rest)) := g_grN (C := RX5) (T := TX5) S X Z hin rfl hi rfl 1 (by decide) ⟨rfl, rfl, rfl⟩ rfl hl hdg kk
theorem cn_X5_up (S : CallFix p m c cc nL s args Ts own) (X : gX D vwCl dA (cLive N) A reg s) (Z : gZ D (cLay N) dA (cLive N) A reg H0 M H locs) (hin : ∀ w ∈ wsX50, w ∈ Ts) (hi : cLive N (5, 0, 0)) (hl : (Cond.fieldLinkNest own index "ReplicaFiles$Net" "up" "I" "ReplicaFiles").before args s = true) (hdg : decode cc pc = .ok (.getfield index, 3)) {β : Type} {kq : Int32 → Option β} {y : β} (h : lt (M (5, 0, 0) 2) kq = some y) (kk : ∀ v : Int32, kq v = some y → W p l e R s m args below meth c H locs cells slots Q (F0 m (pc + 3) ls (.int v :: rest))) : W p l e R s m args below meth c H locs cells slots Q (F0 m pc ls (.ref (A (5, 0, 0)) :: rest)) := g_giN (C := RX5) (T := TX5) S X Z hin rfl hi rfl 2 (by decide) ⟨rfl, rfl, rfl⟩ rfl hl hdg (kk _ h)
theorem cq_X5_up (S : CallFix p m c cc nL s args Ts own) (X : gX D vwCl dA (cLive N) A reg s) (Z : gZ D (cLay N) dA (cLive N) A reg H0 M H locs) (hin : ∀ w ∈ wsX50, w ∈ Ts) (hi : cLive N (5, 0, 0)) (hl : (Cond.fieldLinkNest own index "ReplicaFiles$Net" "up" "I" "ReplicaFiles").before args s = true) (hdg : decode cc pc = .ok (.putfield index, 3)) {x : Int32} {β : Type} {kq : gM → Option β} {y : β} (h : lt (gset M (5, 0, 0) 2 x) kq = some y) (kk : ∀ (M1 : gM) (H1 : Heap) (locs1 : List Loc), gZ D (cLay N) dA (cLive N) A reg H0 M1 H1 locs1 → kq M1 = some y → W p l e R s m args below meth c H1 locs1 cells slots Q (F0 m (pc + 3) ls rest)) : W p l e R s m args below meth c H locs cells slots Q (F0 m pc ls (.int x :: .ref (A (5, 0, 0)) :: rest)) := g_piN (C := RX5) (T := TX5) (ty := .int) S X Z hin rfl tyX5 tyX5_ok nmX5 hi rfl 2 (by decide) ⟨rfl, rfl, rfl, rfl⟩ rfl hl (by decide) rfl rfl hdg h kk
theorem cr_X6_catalog (S : CallFix p m c cc nL s args Ts RX6) (X : gX D vwCl dA (cLive N) A reg s) (Z : gZ D (cLay N) dA (cLive N) A reg H0 M H locs) (hin : ∀ w ∈ wsX60, w ∈ Ts) (hi : cLive N (10, 0, 0)) (hl : (Cond.fieldLink RX6 index "ReplicaFiles$Replicas" "catalog" "LReplicaFiles$Catalog;").before args s = true) (hdg : decode cc pc = .ok (.getfield index, 3)) (kk : W p l e R s m args below meth c H locs cells slots Q (F0 m (pc + 3) ls (.ref (A (1, 0, 0)) :: rest))) : W p l e R s m args below meth c H locs cells slots Q (F0 m pc ls (.ref (A (10, 0, 0)) :: rest)) := g_gr (C := RX6) (T := TX6) S X Z hin rfl hi rfl 0 (by decide) ⟨rfl, rfl, rfl⟩ rfl hl hdg kk
theorem cr_X6_servers (S : CallFix p m c cc nL s args Ts RX6) (X : gX D vwCl dA (cLive N) A reg s) (Z : gZ D (cLay N) dA (cLive N) A reg H0 M H locs) (hin : ∀ w ∈ wsX60, w ∈ Ts) (hi : cLive N (10, 0, 0)) (hl : (Cond.fieldLink RX6 index "ReplicaFiles$Replicas" "servers" "[LReplicaFiles$Server;").before args s = true) (hdg : decode cc pc = .ok (.getfield index, 3)) (kk : W p l e R s m args below meth c H locs cells slots Q (F0 m (pc + 3) ls (.ref (A (7, 0, 0)) :: rest))) : W p l e R s m args below meth c H locs cells slots Q (F0 m pc ls (.ref (A (10, 0, 0)) :: rest)) := g_gr (C := RX6) (T := TX6) S X Z hin rfl hi rfl 1 (by decide) ⟨rfl, rfl, rfl⟩ rfl hl hdg kk
theorem cr_X6_clients (S : CallFix p m c cc nL s args Ts RX6) (X : gX D vwCl dA (cLive N) A reg s) (Z : gZ D (cLay N) dA (cLive N) A reg H0 M H locs) (hin : ∀ w ∈ wsX60, w ∈ Ts) (hi : cLive N (10, 0, 0)) (hl : (Cond.fieldLink RX6 index "ReplicaFiles$Replicas" "clients" "[LReplicaFiles$Client;").before args s = true) (hdg : decode cc pc = .ok (.getfield index, 3)) (kk : W p l e R s m args below meth c H locs cells slots Q (F0 m (pc + 3) ls (.ref (A (8, 0, 0)) :: rest))) : W p l e R s m args below meth c H locs cells slots Q (F0 m pc ls (.ref (A (10, 0, 0)) :: rest)) := g_gr (C := RX6) (T := TX6) S X Z hin rfl hi rfl 2 (by decide) ⟨rfl, rfl, rfl⟩ rfl hl hdg kk
theorem cr_X6_tallies (S : CallFix p m c cc nL s args Ts RX6) (X : gX D vwCl dA (cLive N) A reg s) (Z : gZ D (cLay N) dA (cLive N) A reg H0 M H locs) (hin : ∀ w ∈ wsX60, w ∈ Ts) (hi : cLive N (10, 0, 0)) (hl : (Cond.fieldLink RX6 index "ReplicaFiles$Replicas" "tallies" "[I").before args s = true) (hdg : decode cc pc = .ok (.getfield index, 3)) (kk : W p l e R s m args below meth c H locs cells slots Q (F0 m (pc + 3) ls (.ref (A (9, 0, 0)) :: rest))) : W p l e R s m args below meth c H locs cells slots Q (F0 m pc ls (.ref (A (10, 0, 0)) :: rest)) := g_gr (C := RX6) (T := TX6) S X Z hin rfl hi rfl 3 (by decide) ⟨rfl, rfl, rfl⟩ rfl hl hdg kk
theorem cn_X6_catalog (S : CallFix p m c cc nL s args Ts own) (X : gX D vwCl dA (cLive N) A reg s) (Z : gZ D (cLay N) dA (cLive N) A reg H0 M H locs) (hin : ∀ w ∈ wsX60, w ∈ Ts) (hi : cLive N (10, 0, 0)) (hl : (Cond.fieldLinkNest own index "ReplicaFiles$Replicas" "catalog" "LReplicaFiles$Catalog;" "ReplicaFiles").before args s = true) (hdg : decode cc pc = .ok (.getfield index, 3)) (kk : W p l e R s m args below meth c H locs cells slots Q (F0 m (pc + 3) ls (.ref (A (1, 0, 0)) :: rest))) : W p l e R s m args below meth c H locs cells slots Q (F0 m pc ls (.ref (A (10, 0, 0)) :: rest)) := g_grN (C := RX6) (T := TX6) S X Z hin rfl hi rfl 0 (by decide) ⟨rfl, rfl, rfl⟩ rfl hl hdg kk
theorem cn_X6_servers (S : CallFix p m c cc nL s args Ts own) (X : gX D vwCl dA (cLive N) A reg s) (Z : gZ D (cLay N) dA (cLive N) A reg H0 M H locs) (hin : ∀ w ∈ wsX60, w ∈ Ts) (hi : cLive N (10, 0, 0)) (hl : (Cond.fieldLinkNest own index "ReplicaFiles$Replicas" "servers" "[LReplicaFiles$Server;" "ReplicaFiles").before args s = true) (hdg : decode cc pc = .ok (.getfield index, 3)) (kk : W p l e R s m args below meth c H locs cells slots Q (F0 m (pc + 3) ls (.ref (A (7, 0, 0)) :: rest))) : W p l e R s m args below meth c H locs cells slots Q (F0 m pc ls (.ref (A (10, 0, 0)) :: rest)) := g_grN (C := RX6) (T := TX6) S X Z hin rfl hi rfl 1 (by decide) ⟨rfl, rfl, rfl⟩ rfl hl hdg kk
theorem cn_X6_clients (S : CallFix p m c cc nL s args Ts own) (X : gX D vwCl dA (cLive N) A reg s) (Z : gZ D (cLay N) dA (cLive N) A reg H0 M H locs) (hin : ∀ w ∈ wsX60, w ∈ Ts) (hi : cLive N (10, 0, 0)) (hl : (Cond.fieldLinkNest own index "ReplicaFiles$Replicas" "clients" "[LReplicaFiles$Client;" "ReplicaFiles").before args s = true) (hdg : decode cc pc = .ok (.getfield index, 3)) (kk : W p l e R s m args below meth c H locs cells slots Q (F0 m (pc + 3) ls (.ref (A (8, 0, 0)) :: rest))) : W p l e R s m args below meth c H locs cells slots Q (F0 m pc ls (.ref (A (10, 0, 0)) :: rest)) := g_grN (C := RX6) (T := TX6) S X Z hin rfl hi rfl 2 (by decide) ⟨rfl, rfl, rfl⟩ rfl hl hdg kk
theorem cn_X6_tallies (S : CallFix p m c cc nL s args Ts own) (X : gX D vwCl dA (cLive N) A reg s) (Z : gZ D (cLay N) dA (cLive N) A reg H0 M H locs) (hin : ∀ w ∈ wsX60, w ∈ Ts) (hi : cLive N (10, 0, 0)) (hl : (Cond.fieldLinkNest own index "ReplicaFiles$Replicas" "tallies" "[I" "ReplicaFiles").before args s = true) (hdg : decode cc pc = .ok (.getfield index, 3)) (kk : W p l e R s m args below meth c H locs cells slots Q (F0 m (pc + 3) ls (.ref (A (9, 0, 0)) :: rest))) : W p l e R s m args below meth c H locs cells slots Q (F0 m pc ls (.ref (A (10, 0, 0)) :: rest)) := g_grN (C := RX6) (T := TX6) S X Z hin rfl hi rfl 3 (by decide) ⟨rfl, rfl, rfl⟩ rfl hl hdg kk
theorem cr_X2_replicas (S : CallFix p m c cc nL s args Ts RX2) (X : gX D vwCl dA (cLive N) A reg s) (Z : gZ D (cLay N) dA (cLive N) A reg H0 M H locs) (hin : ∀ w ∈ wsX20, w ∈ Ts) (hi : cLive N (11, 0, 0)) (hl : (Cond.fieldLink RX2 index "ReplicaFiles$HandingIn" "replicas" "LReplicaFiles$Replicas;").before args s = true) (hdg : decode cc pc = .ok (.getfield index, 3)) (kk : W p l e R s m args below meth c H locs cells slots Q (F0 m (pc + 3) ls (.ref (A (10, 0, 0)) :: rest))) : W p l e R s m args below meth c H locs cells slots Q (F0 m pc ls (.ref (A (11, 0, 0)) :: rest)) := g_gr (C := RX2) (T := TX2) S X Z hin rfl hi rfl 0 (by decide) ⟨rfl, rfl, rfl⟩ rfl hl hdg kk
theorem cr_X2_vector (S : CallFix p m c cc nL s args Ts RX2) (X : gX D vwCl dA (cLive N) A reg s) (Z : gZ D (cLay N) dA (cLive N) A reg H0 M H locs) (hin : ∀ w ∈ wsX20, w ∈ Ts) (hi : cLive N (11, 0, 0)) (hl : (Cond.fieldLink RX2 index "ReplicaFiles$HandingIn" "vector" "[I").before args s = true) (hdg : decode cc pc = .ok (.getfield index, 3)) (kk : W p l e R s m args below meth c H locs cells slots Q (F0 m (pc + 3) ls (.ref (A (12, 0, 0)) :: rest))) : W p l e R s m args below meth c H locs cells slots Q (F0 m pc ls (.ref (A (11, 0, 0)) :: rest)) := g_gr (C := RX2) (T := TX2) S X Z hin rfl hi rfl 1 (by decide) ⟨rfl, rfl, rfl⟩ rfl hl hdg kk
theorem cr_X2_client (S : CallFix p m c cc nL s args Ts RX2) (X : gX D vwCl dA (cLive N) A reg s) (Z : gZ D (cLay N) dA (cLive N) A reg H0 M H locs) (hin : ∀ w ∈ wsX20, w ∈ Ts) (hi : cLive N (11, 0, 0)) (hl : (Cond.fieldLink RX2 index "ReplicaFiles$HandingIn" "client" "LReplicaFiles$Client;").before args s = true) (hdg : decode cc pc = .ok (.getfield index, 3)) {β : Type} {kq : Nat → Option β} {y : β} (h : ix (M (11, 0, 0) 2) 4 kq = some y) (kk : ∀ v : Nat, v < 4 → kq v = some y → W p l e R s m args below meth c H locs cells slots Q (F0 m (pc + 3) ls (.ref (A (30, v, 0)) :: rest))) : W p l e R s m args below meth c H locs cells slots Q (F0 m pc ls (.ref (A (11, 0, 0)) :: rest)) := by
  obtain ⟨hlt, h⟩ := ix_e h
  exact g_g2 (C := RX2) (T := TX2) S X Z hin rfl hi rfl 2 (by decide) ⟨rfl, rfl, rfl⟩ (j := (30, 0, 0)) rfl hl hdg (kk _ hlt h)
theorem cp_X2_client (S : CallFix p m c cc nL s args Ts RX2) (X : gX D vwCl dA (cLive N) A reg s) (Z : gZ D (cLay N) dA (cLive N) A reg H0 M H locs) (hin : ∀ w ∈ wsX20, w ∈ Ts) (hi : cLive N (11, 0, 0)) (hl : (Cond.fieldLink RX2 index "ReplicaFiles$HandingIn" "client" "LReplicaFiles$Client;").before args s = true) (hdg : decode cc pc = .ok (.putfield index, 3)) {v : Nat} (hv : v < 4) {β : Type} {kq : gM → Option β} {y : β} (h : lt (gset M (11, 0, 0) 2 (nI v)) kq = some y) (kk : ∀ (M1 : gM) (H1 : Heap) (locs1 : List Loc), gZ D (cLay N) dA (cLive N) A reg H0 M1 H1 locs1 → kq M1 = some y → W p l e R s m args below meth c H1 locs1 cells slots Q (F0 m (pc + 3) ls rest)) : W p l e R s m args below meth c H locs cells slots Q (F0 m pc ls (.ref (A (30, v, 0)) :: .ref (A (11, 0, 0)) :: rest)) := g_p2 (C := RX2) (T := TX2) (ty := .object "ReplicaFiles$Client") S X Z hin rfl tyX2 tyX2_ok nmX2 hi rfl 2 (by decide) ⟨rfl, rfl, rfl, rfl⟩ (j := (30, 0, 0)) rfl hl (by decide) (by omega) rfl rfl hdg h kk
theorem cr_X2_near (S : CallFix p m c cc nL s args Ts RX2) (X : gX D vwCl dA (cLive N) A reg s) (Z : gZ D (cLay N) dA (cLive N) A reg H0 M H locs) (hin : ∀ w ∈ wsX20, w ∈ Ts) (hi : cLive N (11, 0, 0)) (hl : (Cond.fieldLink RX2 index "ReplicaFiles$HandingIn" "near" "I").before args s = true) (hdg : decode cc pc = .ok (.getfield index, 3)) {β : Type} {kq : Int32 → Option β} {y : β} (h : lt (M (11, 0, 0) 3) kq = some y) (kk : ∀ v : Int32, kq v = some y → W p l e R s m args below meth c H locs cells slots Q (F0 m (pc + 3) ls (.int v :: rest))) : W p l e R s m args below meth c H locs cells slots Q (F0 m pc ls (.ref (A (11, 0, 0)) :: rest)) := g_gi (C := RX2) (T := TX2) S X Z hin rfl hi rfl 3 (by decide) ⟨rfl, rfl, rfl⟩ rfl hl hdg (kk _ h)
theorem cp_X2_near (S : CallFix p m c cc nL s args Ts RX2) (X : gX D vwCl dA (cLive N) A reg s) (Z : gZ D (cLay N) dA (cLive N) A reg H0 M H locs) (hin : ∀ w ∈ wsX20, w ∈ Ts) (hi : cLive N (11, 0, 0)) (hl : (Cond.fieldLink RX2 index "ReplicaFiles$HandingIn" "near" "I").before args s = true) (hdg : decode cc pc = .ok (.putfield index, 3)) {x : Int32} {β : Type} {kq : gM → Option β} {y : β} (h : lt (gset M (11, 0, 0) 3 x) kq = some y) (kk : ∀ (M1 : gM) (H1 : Heap) (locs1 : List Loc), gZ D (cLay N) dA (cLive N) A reg H0 M1 H1 locs1 → kq M1 = some y → W p l e R s m args below meth c H1 locs1 cells slots Q (F0 m (pc + 3) ls rest)) : W p l e R s m args below meth c H locs cells slots Q (F0 m pc ls (.int x :: .ref (A (11, 0, 0)) :: rest)) := g_pi (C := RX2) (T := TX2) (ty := .int) S X Z hin rfl tyX2 tyX2_ok nmX2 hi rfl 3 (by decide) ⟨rfl, rfl, rfl, rfl⟩ rfl hl (by decide) rfl rfl hdg h kk
theorem cr_X2_least (S : CallFix p m c cc nL s args Ts RX2) (X : gX D vwCl dA (cLive N) A reg s) (Z : gZ D (cLay N) dA (cLive N) A reg H0 M H locs) (hin : ∀ w ∈ wsX20, w ∈ Ts) (hi : cLive N (11, 0, 0)) (hl : (Cond.fieldLink RX2 index "ReplicaFiles$HandingIn" "least" "I").before args s = true) (hdg : decode cc pc = .ok (.getfield index, 3)) {β : Type} {kq : Int32 → Option β} {y : β} (h : lt (M (11, 0, 0) 4) kq = some y) (kk : ∀ v : Int32, kq v = some y → W p l e R s m args below meth c H locs cells slots Q (F0 m (pc + 3) ls (.int v :: rest))) : W p l e R s m args below meth c H locs cells slots Q (F0 m pc ls (.ref (A (11, 0, 0)) :: rest)) := g_gi (C := RX2) (T := TX2) S X Z hin rfl hi rfl 4 (by decide) ⟨rfl, rfl, rfl⟩ rfl hl hdg (kk _ h)
theorem cp_X2_least (S : CallFix p m c cc nL s args Ts RX2) (X : gX D vwCl dA (cLive N) A reg s) (Z : gZ D (cLay N) dA (cLive N) A reg H0 M H locs) (hin : ∀ w ∈ wsX20, w ∈ Ts) (hi : cLive N (11, 0, 0)) (hl : (Cond.fieldLink RX2 index "ReplicaFiles$HandingIn" "least" "I").before args s = true) (hdg : decode cc pc = .ok (.putfield index, 3)) {x : Int32} {β : Type} {kq : gM → Option β} {y : β} (h : lt (gset M (11, 0, 0) 4 x) kq = some y) (kk : ∀ (M1 : gM) (H1 : Heap) (locs1 : List Loc), gZ D (cLay N) dA (cLive N) A reg H0 M1 H1 locs1 → kq M1 = some y → W p l e R s m args below meth c H1 locs1 cells slots Q (F0 m (pc + 3) ls rest)) : W p l e R s m args below meth c H locs cells slots Q (F0 m pc ls (.int x :: .ref (A (11, 0, 0)) :: rest)) := g_pi (C := RX2) (T := TX2) (ty := .int) S X Z hin rfl tyX2 tyX2_ok nmX2 hi rfl 4 (by decide) ⟨rfl, rfl, rfl, rfl⟩ rfl hl (by decide) rfl rfl hdg h kk
theorem cn_X2_replicas (S : CallFix p m c cc nL s args Ts own) (X : gX D vwCl dA (cLive N) A reg s) (Z : gZ D (cLay N) dA (cLive N) A reg H0 M H locs) (hin : ∀ w ∈ wsX20, w ∈ Ts) (hi : cLive N (11, 0, 0)) (hl : (Cond.fieldLinkNest own index "ReplicaFiles$HandingIn" "replicas" "LReplicaFiles$Replicas;" "ReplicaFiles").before args s = true) (hdg : decode cc pc = .ok (.getfield index, 3)) (kk : W p l e R s m args below meth c H locs cells slots Q (F0 m (pc + 3) ls (.ref (A (10, 0, 0)) :: rest))) : W p l e R s m args below meth c H locs cells slots Q (F0 m pc ls (.ref (A (11, 0, 0)) :: rest)) := g_grN (C := RX2) (T := TX2) S X Z hin rfl hi rfl 0 (by decide) ⟨rfl, rfl, rfl⟩ rfl hl hdg kk
theorem cn_X2_vector (S : CallFix p m c cc nL s args Ts own) (X : gX D vwCl dA (cLive N) A reg s) (Z : gZ D (cLay N) dA (cLive N) A reg H0 M H locs) (hin : ∀ w ∈ wsX20, w ∈ Ts) (hi : cLive N (11, 0, 0)) (hl : (Cond.fieldLinkNest own index "ReplicaFiles$HandingIn" "vector" "[I" "ReplicaFiles").before args s = true) (hdg : decode cc pc = .ok (.getfield index, 3)) (kk : W p l e R s m args below meth c H locs cells slots Q (F0 m (pc + 3) ls (.ref (A (12, 0, 0)) :: rest))) : W p l e R s m args below meth c H locs cells slots Q (F0 m pc ls (.ref (A (11, 0, 0)) :: rest)) := g_grN (C := RX2) (T := TX2) S X Z hin rfl hi rfl 1 (by decide) ⟨rfl, rfl, rfl⟩ rfl hl hdg kk
theorem cn_X2_near (S : CallFix p m c cc nL s args Ts own) (X : gX D vwCl dA (cLive N) A reg s) (Z : gZ D (cLay N) dA (cLive N) A reg H0 M H locs) (hin : ∀ w ∈ wsX20, w ∈ Ts) (hi : cLive N (11, 0, 0)) (hl : (Cond.fieldLinkNest own index "ReplicaFiles$HandingIn" "near" "I" "ReplicaFiles").before args s = true) (hdg : decode cc pc = .ok (.getfield index, 3)) {β : Type} {kq : Int32 → Option β} {y : β} (h : lt (M (11, 0, 0) 3) kq = some y) (kk : ∀ v : Int32, kq v = some y → W p l e R s m args below meth c H locs cells slots Q (F0 m (pc + 3) ls (.int v :: rest))) : W p l e R s m args below meth c H locs cells slots Q (F0 m pc ls (.ref (A (11, 0, 0)) :: rest)) := g_giN (C := RX2) (T := TX2) S X Z hin rfl hi rfl 3 (by decide) ⟨rfl, rfl, rfl⟩ rfl hl hdg (kk _ h)
theorem cq_X2_near (S : CallFix p m c cc nL s args Ts own) (X : gX D vwCl dA (cLive N) A reg s) (Z : gZ D (cLay N) dA (cLive N) A reg H0 M H locs) (hin : ∀ w ∈ wsX20, w ∈ Ts) (hi : cLive N (11, 0, 0)) (hl : (Cond.fieldLinkNest own index "ReplicaFiles$HandingIn" "near" "I" "ReplicaFiles").before args s = true) (hdg : decode cc pc = .ok (.putfield index, 3)) {x : Int32} {β : Type} {kq : gM → Option β} {y : β} (h : lt (gset M (11, 0, 0) 3 x) kq = some y) (kk : ∀ (M1 : gM) (H1 : Heap) (locs1 : List Loc), gZ D (cLay N) dA (cLive N) A reg H0 M1 H1 locs1 → kq M1 = some y → W p l e R s m args below meth c H1 locs1 cells slots Q (F0 m (pc + 3) ls rest)) : W p l e R s m args below meth c H locs cells slots Q (F0 m pc ls (.int x :: .ref (A (11, 0, 0)) :: rest)) := g_piN (C := RX2) (T := TX2) (ty := .int) S X Z hin rfl tyX2 tyX2_ok nmX2 hi rfl 3 (by decide) ⟨rfl, rfl, rfl, rfl⟩ rfl hl (by decide) rfl rfl hdg h kk
theorem cn_X2_least (S : CallFix p m c cc nL s args Ts own) (X : gX D vwCl dA (cLive N) A reg s) (Z : gZ D (cLay N) dA (cLive N) A reg H0 M H locs) (hin : ∀ w ∈ wsX20, w ∈ Ts) (hi : cLive N (11, 0, 0)) (hl : (Cond.fieldLinkNest own index "ReplicaFiles$HandingIn" "least" "I" "ReplicaFiles").before args s = true) (hdg : decode cc pc = .ok (.getfield index, 3)) {β : Type} {kq : Int32 → Option β} {y : β} (h : lt (M (11, 0, 0) 4) kq = some y) (kk : ∀ v : Int32, kq v = some y → W p l e R s m args below meth c H locs cells slots Q (F0 m (pc + 3) ls (.int v :: rest))) : W p l e R s m args below meth c H locs cells slots Q (F0 m pc ls (.ref (A (11, 0, 0)) :: rest)) := g_giN (C := RX2) (T := TX2) S X Z hin rfl hi rfl 4 (by decide) ⟨rfl, rfl, rfl⟩ rfl hl hdg (kk _ h)
theorem cq_X2_least (S : CallFix p m c cc nL s args Ts own) (X : gX D vwCl dA (cLive N) A reg s) (Z : gZ D (cLay N) dA (cLive N) A reg H0 M H locs) (hin : ∀ w ∈ wsX20, w ∈ Ts) (hi : cLive N (11, 0, 0)) (hl : (Cond.fieldLinkNest own index "ReplicaFiles$HandingIn" "least" "I" "ReplicaFiles").before args s = true) (hdg : decode cc pc = .ok (.putfield index, 3)) {x : Int32} {β : Type} {kq : gM → Option β} {y : β} (h : lt (gset M (11, 0, 0) 4 x) kq = some y) (kk : ∀ (M1 : gM) (H1 : Heap) (locs1 : List Loc), gZ D (cLay N) dA (cLive N) A reg H0 M1 H1 locs1 → kq M1 = some y → W p l e R s m args below meth c H1 locs1 cells slots Q (F0 m (pc + 3) ls rest)) : W p l e R s m args below meth c H locs cells slots Q (F0 m pc ls (.int x :: .ref (A (11, 0, 0)) :: rest)) := g_piN (C := RX2) (T := TX2) (ty := .int) S X Z hin rfl tyX2 tyX2_ok nmX2 hi rfl 4 (by decide) ⟨rfl, rfl, rfl, rfl⟩ rfl hl (by decide) rfl rfl hdg h kk
theorem cr_X4_replicas (S : CallFix p m c cc nL s args Ts RX4) (X : gX D vwCl dA (cLive N) A reg s) (Z : gZ D (cLay N) dA (cLive N) A reg H0 M H locs) (hin : ∀ w ∈ wsX40, w ∈ Ts) (hi : cLive N (13, 0, 0)) (hl : (Cond.fieldLink RX4 index "ReplicaFiles$Meeting" "replicas" "LReplicaFiles$Replicas;").before args s = true) (hdg : decode cc pc = .ok (.getfield index, 3)) (kk : W p l e R s m args below meth c H locs cells slots Q (F0 m (pc + 3) ls (.ref (A (10, 0, 0)) :: rest))) : W p l e R s m args below meth c H locs cells slots Q (F0 m pc ls (.ref (A (13, 0, 0)) :: rest)) := g_gr (C := RX4) (T := TX4) S X Z hin rfl hi rfl 0 (by decide) ⟨rfl, rfl, rfl⟩ rfl hl hdg kk
theorem cr_X4_catalog (S : CallFix p m c cc nL s args Ts RX4) (X : gX D vwCl dA (cLive N) A reg s) (Z : gZ D (cLay N) dA (cLive N) A reg H0 M H locs) (hin : ∀ w ∈ wsX40, w ∈ Ts) (hi : cLive N (13, 0, 0)) (hl : (Cond.fieldLink RX4 index "ReplicaFiles$Meeting" "catalog" "LReplicaFiles$Catalog;").before args s = true) (hdg : decode cc pc = .ok (.getfield index, 3)) (kk : W p l e R s m args below meth c H locs cells slots Q (F0 m (pc + 3) ls (.ref (A (1, 0, 0)) :: rest))) : W p l e R s m args below meth c H locs cells slots Q (F0 m pc ls (.ref (A (13, 0, 0)) :: rest)) := g_gr (C := RX4) (T := TX4) S X Z hin rfl hi rfl 1 (by decide) ⟨rfl, rfl, rfl⟩ rfl hl hdg kk
theorem cr_X4_servers (S : CallFix p m c cc nL s args Ts RX4) (X : gX D vwCl dA (cLive N) A reg s) (Z : gZ D (cLay N) dA (cLive N) A reg H0 M H locs) (hin : ∀ w ∈ wsX40, w ∈ Ts) (hi : cLive N (13, 0, 0)) (hl : (Cond.fieldLink RX4 index "ReplicaFiles$Meeting" "servers" "[LReplicaFiles$Server;").before args s = true) (hdg : decode cc pc = .ok (.getfield index, 3)) (kk : W p l e R s m args below meth c H locs cells slots Q (F0 m (pc + 3) ls (.ref (A (7, 0, 0)) :: rest))) : W p l e R s m args below meth c H locs cells slots Q (F0 m pc ls (.ref (A (13, 0, 0)) :: rest)) := g_gr (C := RX4) (T := TX4) S X Z hin rfl hi rfl 2 (by decide) ⟨rfl, rfl, rfl⟩ rfl hl hdg kk
theorem cr_X4_candidates (S : CallFix p m c cc nL s args Ts RX4) (X : gX D vwCl dA (cLive N) A reg s) (Z : gZ D (cLay N) dA (cLive N) A reg H0 M H locs) (hin : ∀ w ∈ wsX40, w ∈ Ts) (hi : cLive N (13, 0, 0)) (hl : (Cond.fieldLink RX4 index "ReplicaFiles$Meeting" "candidates" "LReplicaFiles$Versions;").before args s = true) (hdg : decode cc pc = .ok (.getfield index, 3)) (kk : W p l e R s m args below meth c H locs cells slots Q (F0 m (pc + 3) ls (.ref (A (60, 192, 0)) :: rest))) : W p l e R s m args below meth c H locs cells slots Q (F0 m pc ls (.ref (A (13, 0, 0)) :: rest)) := g_gr (C := RX4) (T := TX4) S X Z hin rfl hi rfl 3 (by decide) ⟨rfl, rfl, rfl⟩ rfl hl hdg kk
theorem cr_X4_greater (S : CallFix p m c cc nL s args Ts RX4) (X : gX D vwCl dA (cLive N) A reg s) (Z : gZ D (cLay N) dA (cLive N) A reg H0 M H locs) (hin : ∀ w ∈ wsX40, w ∈ Ts) (hi : cLive N (13, 0, 0)) (hl : (Cond.fieldLink RX4 index "ReplicaFiles$Meeting" "greater" "[I").before args s = true) (hdg : decode cc pc = .ok (.getfield index, 3)) (kk : W p l e R s m args below meth c H locs cells slots Q (F0 m (pc + 3) ls (.ref (A (14, 0, 0)) :: rest))) : W p l e R s m args below meth c H locs cells slots Q (F0 m pc ls (.ref (A (13, 0, 0)) :: rest)) := g_gr (C := RX4) (T := TX4) S X Z hin rfl hi rfl 4 (by decide) ⟨rfl, rfl, rfl⟩ rfl hl hdg kk
theorem cr_X4_inside (S : CallFix p m c cc nL s args Ts RX4) (X : gX D vwCl dA (cLive N) A reg s) (Z : gZ D (cLay N) dA (cLive N) A reg H0 M H locs) (hin : ∀ w ∈ wsX40, w ∈ Ts) (hi : cLive N (13, 0, 0)) (hl : (Cond.fieldLink RX4 index "ReplicaFiles$Meeting" "inside" "[Z").before args s = true) (hdg : decode cc pc = .ok (.getfield index, 3)) (kk : W p l e R s m args below meth c H locs cells slots Q (F0 m (pc + 3) ls (.ref (A (15, 0, 0)) :: rest))) : W p l e R s m args below meth c H locs cells slots Q (F0 m pc ls (.ref (A (13, 0, 0)) :: rest)) := g_gr (C := RX4) (T := TX4) S X Z hin rfl hi rfl 5 (by decide) ⟨rfl, rfl, rfl⟩ rfl hl hdg kk
theorem cr_X4_group (S : CallFix p m c cc nL s args Ts RX4) (X : gX D vwCl dA (cLive N) A reg s) (Z : gZ D (cLay N) dA (cLive N) A reg H0 M H locs) (hin : ∀ w ∈ wsX40, w ∈ Ts) (hi : cLive N (13, 0, 0)) (hl : (Cond.fieldLink RX4 index "ReplicaFiles$Meeting" "group" "I").before args s = true) (hdg : decode cc pc = .ok (.getfield index, 3)) {β : Type} {kq : Int32 → Option β} {y : β} (h : lt (M (13, 0, 0) 6) kq = some y) (kk : ∀ v : Int32, kq v = some y → W p l e R s m args below meth c H locs cells slots Q (F0 m (pc + 3) ls (.int v :: rest))) : W p l e R s m args below meth c H locs cells slots Q (F0 m pc ls (.ref (A (13, 0, 0)) :: rest)) := g_gi (C := RX4) (T := TX4) S X Z hin rfl hi rfl 6 (by decide) ⟨rfl, rfl, rfl⟩ rfl hl hdg (kk _ h)
theorem cp_X4_group (S : CallFix p m c cc nL s args Ts RX4) (X : gX D vwCl dA (cLive N) A reg s) (Z : gZ D (cLay N) dA (cLive N) A reg H0 M H locs) (hin : ∀ w ∈ wsX40, w ∈ Ts) (hi : cLive N (13, 0, 0)) (hl : (Cond.fieldLink RX4 index "ReplicaFiles$Meeting" "group" "I").before args s = true) (hdg : decode cc pc = .ok (.putfield index, 3)) {x : Int32} {β : Type} {kq : gM → Option β} {y : β} (h : lt (gset M (13, 0, 0) 6 x) kq = some y) (kk : ∀ (M1 : gM) (H1 : Heap) (locs1 : List Loc), gZ D (cLay N) dA (cLive N) A reg H0 M1 H1 locs1 → kq M1 = some y → W p l e R s m args below meth c H1 locs1 cells slots Q (F0 m (pc + 3) ls rest)) : W p l e R s m args below meth c H locs cells slots Q (F0 m pc ls (.int x :: .ref (A (13, 0, 0)) :: rest)) := g_pi (C := RX4) (T := TX4) (ty := .int) S X Z hin rfl tyX4 tyX4_ok nmX4 hi rfl 6 (by decide) ⟨rfl, rfl, rfl, rfl⟩ rfl hl (by decide) rfl rfl hdg h kk
theorem cr_X4_changes (S : CallFix p m c cc nL s args Ts RX4) (X : gX D vwCl dA (cLive N) A reg s) (Z : gZ D (cLay N) dA (cLive N) A reg H0 M H locs) (hin : ∀ w ∈ wsX40, w ∈ Ts) (hi : cLive N (13, 0, 0)) (hl : (Cond.fieldLink RX4 index "ReplicaFiles$Meeting" "changes" "I").before args s = true) (hdg : decode cc pc = .ok (.getfield index, 3)) {β : Type} {kq : Int32 → Option β} {y : β} (h : lt (M (13, 0, 0) 7) kq = some y) (kk : ∀ v : Int32, kq v = some y → W p l e R s m args below meth c H locs cells slots Q (F0 m (pc + 3) ls (.int v :: rest))) : W p l e R s m args below meth c H locs cells slots Q (F0 m pc ls (.ref (A (13, 0, 0)) :: rest)) := g_gi (C := RX4) (T := TX4) S X Z hin rfl hi rfl 7 (by decide) ⟨rfl, rfl, rfl⟩ rfl hl hdg (kk _ h)
theorem cp_X4_changes (S : CallFix p m c cc nL s args Ts RX4) (X : gX D vwCl dA (cLive N) A reg s) (Z : gZ D (cLay N) dA (cLive N) A reg H0 M H locs) (hin : ∀ w ∈ wsX40, w ∈ Ts) (hi : cLive N (13, 0, 0)) (hl : (Cond.fieldLink RX4 index "ReplicaFiles$Meeting" "changes" "I").before args s = true) (hdg : decode cc pc = .ok (.putfield index, 3)) {x : Int32} {β : Type} {kq : gM → Option β} {y : β} (h : lt (gset M (13, 0, 0) 7 x) kq = some y) (kk : ∀ (M1 : gM) (H1 : Heap) (locs1 : List Loc), gZ D (cLay N) dA (cLive N) A reg H0 M1 H1 locs1 → kq M1 = some y → W p l e R s m args below meth c H1 locs1 cells slots Q (F0 m (pc + 3) ls rest)) : W p l e R s m args below meth c H locs cells slots Q (F0 m pc ls (.int x :: .ref (A (13, 0, 0)) :: rest)) := g_pi (C := RX4) (T := TX4) (ty := .int) S X Z hin rfl tyX4 tyX4_ok nmX4 hi rfl 7 (by decide) ⟨rfl, rfl, rfl, rfl⟩ rfl hl (by decide) rfl rfl hdg h kk
theorem cn_X4_replicas (S : CallFix p m c cc nL s args Ts own) (X : gX D vwCl dA (cLive N) A reg s) (Z : gZ D (cLay N) dA (cLive N) A reg H0 M H locs) (hin : ∀ w ∈ wsX40, w ∈ Ts) (hi : cLive N (13, 0, 0)) (hl : (Cond.fieldLinkNest own index "ReplicaFiles$Meeting" "replicas" "LReplicaFiles$Replicas;" "ReplicaFiles").before args s = true) (hdg : decode cc pc = .ok (.getfield index, 3)) (kk : W p l e R s m args below meth c H locs cells slots Q (F0 m (pc + 3) ls (.ref (A (10, 0, 0)) :: rest))) : W p l e R s m args below meth c H locs cells slots Q (F0 m pc ls (.ref (A (13, 0, 0)) :: rest)) := g_grN (C := RX4) (T := TX4) S X Z hin rfl hi rfl 0 (by decide) ⟨rfl, rfl, rfl⟩ rfl hl hdg kk
theorem cn_X4_catalog (S : CallFix p m c cc nL s args Ts own) (X : gX D vwCl dA (cLive N) A reg s) (Z : gZ D (cLay N) dA (cLive N) A reg H0 M H locs) (hin : ∀ w ∈ wsX40, w ∈ Ts) (hi : cLive N (13, 0, 0)) (hl : (Cond.fieldLinkNest own index "ReplicaFiles$Meeting" "catalog" "LReplicaFiles$Catalog;" "ReplicaFiles").before args s = true) (hdg : decode cc pc = .ok (.getfield index, 3)) (kk : W p l e R s m args below meth c H locs cells slots Q (F0 m (pc + 3) ls (.ref (A (1, 0, 0)) :: rest))) : W p l e R s m args below meth c H locs cells slots Q (F0 m pc ls (.ref (A (13, 0, 0)) :: rest)) := g_grN (C := RX4) (T := TX4) S X Z hin rfl hi rfl 1 (by decide) ⟨rfl, rfl, rfl⟩ rfl hl hdg kk
theorem cn_X4_servers (S : CallFix p m c cc nL s args Ts own) (X : gX D vwCl dA (cLive N) A reg s) (Z : gZ D (cLay N) dA (cLive N) A reg H0 M H locs) (hin : ∀ w ∈ wsX40, w ∈ Ts) (hi : cLive N (13, 0, 0)) (hl : (Cond.fieldLinkNest own index "ReplicaFiles$Meeting" "servers" "[LReplicaFiles$Server;" "ReplicaFiles").before args s = true) (hdg : decode cc pc = .ok (.getfield index, 3)) (kk : W p l e R s m args below meth c H locs cells slots Q (F0 m (pc + 3) ls (.ref (A (7, 0, 0)) :: rest))) : W p l e R s m args below meth c H locs cells slots Q (F0 m pc ls (.ref (A (13, 0, 0)) :: rest)) := g_grN (C := RX4) (T := TX4) S X Z hin rfl hi rfl 2 (by decide) ⟨rfl, rfl, rfl⟩ rfl hl hdg kk
theorem cn_X4_candidates (S : CallFix p m c cc nL s args Ts own) (X : gX D vwCl dA (cLive N) A reg s) (Z : gZ D (cLay N) dA (cLive N) A reg H0 M H locs) (hin : ∀ w ∈ wsX40, w ∈ Ts) (hi : cLive N (13, 0, 0)) (hl : (Cond.fieldLinkNest own index "ReplicaFiles$Meeting" "candidates" "LReplicaFiles$Versions;" "ReplicaFiles").before args s = true) (hdg : decode cc pc = .ok (.getfield index, 3)) (kk : W p l e R s m args below meth c H locs cells slots Q (F0 m (pc + 3) ls (.ref (A (60, 192, 0)) :: rest))) : W p l e R s m args below meth c H locs cells slots Q (F0 m pc ls (.ref (A (13, 0, 0)) :: rest)) := g_grN (C := RX4) (T := TX4) S X Z hin rfl hi rfl 3 (by decide) ⟨rfl, rfl, rfl⟩ rfl hl hdg kk
theorem cn_X4_greater (S : CallFix p m c cc nL s args Ts own) (X : gX D vwCl dA (cLive N) A reg s) (Z : gZ D (cLay N) dA (cLive N) A reg H0 M H locs) (hin : ∀ w ∈ wsX40, w ∈ Ts) (hi : cLive N (13, 0, 0)) (hl : (Cond.fieldLinkNest own index "ReplicaFiles$Meeting" "greater" "[I" "ReplicaFiles").before args s = true) (hdg : decode cc pc = .ok (.getfield index, 3)) (kk : W p l e R s m args below meth c H locs cells slots Q (F0 m (pc + 3) ls (.ref (A (14, 0, 0)) :: rest))) : W p l e R s m args below meth c H locs cells slots Q (F0 m pc ls (.ref (A (13, 0, 0)) :: rest)) := g_grN (C := RX4) (T := TX4) S X Z hin rfl hi rfl 4 (by decide) ⟨rfl, rfl, rfl⟩ rfl hl hdg kk
theorem cn_X4_inside (S : CallFix p m c cc nL s args Ts own) (X : gX D vwCl dA (cLive N) A reg s) (Z : gZ D (cLay N) dA (cLive N) A reg H0 M H locs) (hin : ∀ w ∈ wsX40, w ∈ Ts) (hi : cLive N (13, 0, 0)) (hl : (Cond.fieldLinkNest own index "ReplicaFiles$Meeting" "inside" "[Z" "ReplicaFiles").before args s = true) (hdg : decode cc pc = .ok (.getfield index, 3)) (kk : W p l e R s m args below meth c H locs cells slots Q (F0 m (pc + 3) ls (.ref (A (15, 0, 0)) :: rest))) : W p l e R s m args below meth c H locs cells slots Q (F0 m pc ls (.ref (A (13, 0, 0)) :: rest)) := g_grN (C := RX4) (T := TX4) S X Z hin rfl hi rfl 5 (by decide) ⟨rfl, rfl, rfl⟩ rfl hl hdg kk
theorem cn_X4_group (S : CallFix p m c cc nL s args Ts own) (X : gX D vwCl dA (cLive N) A reg s) (Z : gZ D (cLay N) dA (cLive N) A reg H0 M H locs) (hin : ∀ w ∈ wsX40, w ∈ Ts) (hi : cLive N (13, 0, 0)) (hl : (Cond.fieldLinkNest own index "ReplicaFiles$Meeting" "group" "I" "ReplicaFiles").before args s = true) (hdg : decode cc pc = .ok (.getfield index, 3)) {β : Type} {kq : Int32 → Option β} {y : β} (h : lt (M (13, 0, 0) 6) kq = some y) (kk : ∀ v : Int32, kq v = some y → W p l e R s m args below meth c H locs cells slots Q (F0 m (pc + 3) ls (.int v :: rest))) : W p l e R s m args below meth c H locs cells slots Q (F0 m pc ls (.ref (A (13, 0, 0)) :: rest)) := g_giN (C := RX4) (T := TX4) S X Z hin rfl hi rfl 6 (by decide) ⟨rfl, rfl, rfl⟩ rfl hl hdg (kk _ h)
theorem cq_X4_group (S : CallFix p m c cc nL s args Ts own) (X : gX D vwCl dA (cLive N) A reg s) (Z : gZ D (cLay N) dA (cLive N) A reg H0 M H locs) (hin : ∀ w ∈ wsX40, w ∈ Ts) (hi : cLive N (13, 0, 0)) (hl : (Cond.fieldLinkNest own index "ReplicaFiles$Meeting" "group" "I" "ReplicaFiles").before args s = true) (hdg : decode cc pc = .ok (.putfield index, 3)) {x : Int32} {β : Type} {kq : gM → Option β} {y : β} (h : lt (gset M (13, 0, 0) 6 x) kq = some y) (kk : ∀ (M1 : gM) (H1 : Heap) (locs1 : List Loc), gZ D (cLay N) dA (cLive N) A reg H0 M1 H1 locs1 → kq M1 = some y → W p l e R s m args below meth c H1 locs1 cells slots Q (F0 m (pc + 3) ls rest)) : W p l e R s m args below meth c H locs cells slots Q (F0 m pc ls (.int x :: .ref (A (13, 0, 0)) :: rest)) := g_piN (C := RX4) (T := TX4) (ty := .int) S X Z hin rfl tyX4 tyX4_ok nmX4 hi rfl 6 (by decide) ⟨rfl, rfl, rfl, rfl⟩ rfl hl (by decide) rfl rfl hdg h kk
theorem cn_X4_changes (S : CallFix p m c cc nL s args Ts own) (X : gX D vwCl dA (cLive N) A reg s) (Z : gZ D (cLay N) dA (cLive N) A reg H0 M H locs) (hin : ∀ w ∈ wsX40, w ∈ Ts) (hi : cLive N (13, 0, 0)) (hl : (Cond.fieldLinkNest own index "ReplicaFiles$Meeting" "changes" "I" "ReplicaFiles").before args s = true) (hdg : decode cc pc = .ok (.getfield index, 3)) {β : Type} {kq : Int32 → Option β} {y : β} (h : lt (M (13, 0, 0) 7) kq = some y) (kk : ∀ v : Int32, kq v = some y → W p l e R s m args below meth c H locs cells slots Q (F0 m (pc + 3) ls (.int v :: rest))) : W p l e R s m args below meth c H locs cells slots Q (F0 m pc ls (.ref (A (13, 0, 0)) :: rest)) := g_giN (C := RX4) (T := TX4) S X Z hin rfl hi rfl 7 (by decide) ⟨rfl, rfl, rfl⟩ rfl hl hdg (kk _ h)
theorem cq_X4_changes (S : CallFix p m c cc nL s args Ts own) (X : gX D vwCl dA (cLive N) A reg s) (Z : gZ D (cLay N) dA (cLive N) A reg H0 M H locs) (hin : ∀ w ∈ wsX40, w ∈ Ts) (hi : cLive N (13, 0, 0)) (hl : (Cond.fieldLinkNest own index "ReplicaFiles$Meeting" "changes" "I" "ReplicaFiles").before args s = true) (hdg : decode cc pc = .ok (.putfield index, 3)) {x : Int32} {β : Type} {kq : gM → Option β} {y : β} (h : lt (gset M (13, 0, 0) 7 x) kq = some y) (kk : ∀ (M1 : gM) (H1 : Heap) (locs1 : List Loc), gZ D (cLay N) dA (cLive N) A reg H0 M1 H1 locs1 → kq M1 = some y → W p l e R s m args below meth c H1 locs1 cells slots Q (F0 m (pc + 3) ls rest)) : W p l e R s m args below meth c H locs cells slots Q (F0 m pc ls (.int x :: .ref (A (13, 0, 0)) :: rest)) := g_piN (C := RX4) (T := TX4) (ty := .int) S X Z hin rfl tyX4 tyX4_ok nmX4 hi rfl 7 (by decide) ⟨rfl, rfl, rfl, rfl⟩ rfl hl (by decide) rfl rfl hdg h kk
theorem cr_X7_tree (S : CallFix p m c cc nL s args Ts RX7) (X : gX D vwCl dA (cLive N) A reg s) (Z : gZ D (cLay N) dA (cLive N) A reg H0 M H locs) (hin : ∀ w ∈ wsX70, w ∈ Ts) {a : Nat} (hi : cLive N (20, a, 0)) (hl : (Cond.fieldLink RX7 index "ReplicaFiles$Server" "tree" "LReplicaFiles$Tree;").before args s = true) (hdg : decode cc pc = .ok (.getfield index, 3)) (kk : W p l e R s m args below meth c H locs cells slots Q (F0 m (pc + 3) ls (.ref (A (50, a, 0)) :: rest))) : W p l e R s m args below meth c H locs cells slots Q (F0 m pc ls (.ref (A (20, a, 0)) :: rest)) := g_gr (C := RX7) (T := TX7) S X Z hin rfl hi rfl 0 (by decide) ⟨rfl, rfl, rfl⟩ rfl hl hdg kk
theorem cr_X7_versions (S : CallFix p m c cc nL s args Ts RX7) (X : gX D vwCl dA (cLive N) A reg s) (Z : gZ D (cLay N) dA (cLive N) A reg H0 M H locs) (hin : ∀ w ∈ wsX70, w ∈ Ts) {a : Nat} (hi : cLive N (20, a, 0)) (hl : (Cond.fieldLink RX7 index "ReplicaFiles$Server" "versions" "[LReplicaFiles$Versions;").before args s = true) (hdg : decode cc pc = .ok (.getfield index, 3)) (kk : W p l e R s m args below meth c H locs cells slots Q (F0 m (pc + 3) ls (.ref (A (21, a, 0)) :: rest))) : W p l e R s m args below meth c H locs cells slots Q (F0 m pc ls (.ref (A (20, a, 0)) :: rest)) := g_gr (C := RX7) (T := TX7) S X Z hin rfl hi rfl 1 (by decide) ⟨rfl, rfl, rfl⟩ rfl hl hdg kk
theorem cr_X7_marks (S : CallFix p m c cc nL s args Ts RX7) (X : gX D vwCl dA (cLive N) A reg s) (Z : gZ D (cLay N) dA (cLive N) A reg H0 M H locs) (hin : ∀ w ∈ wsX70, w ∈ Ts) {a : Nat} (hi : cLive N (20, a, 0)) (hl : (Cond.fieldLink RX7 index "ReplicaFiles$Server" "marks" "[I").before args s = true) (hdg : decode cc pc = .ok (.getfield index, 3)) (kk : W p l e R s m args below meth c H locs cells slots Q (F0 m (pc + 3) ls (.ref (A (22, a, 0)) :: rest))) : W p l e R s m args below meth c H locs cells slots Q (F0 m pc ls (.ref (A (20, a, 0)) :: rest)) := g_gr (C := RX7) (T := TX7) S X Z hin rfl hi rfl 2 (by decide) ⟨rfl, rfl, rfl⟩ rfl hl hdg kk
theorem cr_X7_losesPhase (S : CallFix p m c cc nL s args Ts RX7) (X : gX D vwCl dA (cLive N) A reg s) (Z : gZ D (cLay N) dA (cLive N) A reg H0 M H locs) (hin : ∀ w ∈ wsX70, w ∈ Ts) {a : Nat} (hi : cLive N (20, a, 0)) (hl : (Cond.fieldLink RX7 index "ReplicaFiles$Server" "losesPhase" "Z").before args s = true) (hdg : decode cc pc = .ok (.getfield index, 3)) {β : Type} {kq : Int32 → Option β} {y : β} (h : lt (M (20, a, 0) 3) kq = some y) (kk : ∀ v : Int32, kq v = some y → W p l e R s m args below meth c H locs cells slots Q (F0 m (pc + 3) ls (.int v :: rest))) : W p l e R s m args below meth c H locs cells slots Q (F0 m pc ls (.ref (A (20, a, 0)) :: rest)) := g_gi (C := RX7) (T := TX7) S X Z hin rfl hi rfl 3 (by decide) ⟨rfl, rfl, rfl⟩ rfl hl hdg (kk _ h)
theorem cp_X7_losesPhase (S : CallFix p m c cc nL s args Ts RX7) (X : gX D vwCl dA (cLive N) A reg s) (Z : gZ D (cLay N) dA (cLive N) A reg H0 M H locs) (hin : ∀ w ∈ wsX70, w ∈ Ts) {a : Nat} (hi : cLive N (20, a, 0)) (hl : (Cond.fieldLink RX7 index "ReplicaFiles$Server" "losesPhase" "Z").before args s = true) (hdg : decode cc pc = .ok (.putfield index, 3)) {x : Int32} {β : Type} {kq : gM → Option β} {y : β} (h : gz x (lt (gset M (20, a, 0) 3 x) kq) = some y) (kk : ∀ (M1 : gM) (H1 : Heap) (locs1 : List Loc), gZ D (cLay N) dA (cLive N) A reg H0 M1 H1 locs1 → kq M1 = some y → W p l e R s m args below meth c H1 locs1 cells slots Q (F0 m (pc + 3) ls rest)) : W p l e R s m args below meth c H locs cells slots Q (F0 m pc ls (.int x :: .ref (A (20, a, 0)) :: rest)) := by
  obtain ⟨hz, h⟩ := gz_e h
  exact g_pi (C := RX7) (T := TX7) (ty := .boolean) S X Z hin rfl tyX7 tyX7_ok nmX7 hi rfl 3 (by decide) ⟨rfl, rfl, rfl, rfl⟩ rfl hl (by decide) (by rcases hz with rfl | rfl <;> decide) (by rcases hz with rfl | rfl <;> decide) hdg h kk
theorem cn_X7_tree (S : CallFix p m c cc nL s args Ts own) (X : gX D vwCl dA (cLive N) A reg s) (Z : gZ D (cLay N) dA (cLive N) A reg H0 M H locs) (hin : ∀ w ∈ wsX70, w ∈ Ts) {a : Nat} (hi : cLive N (20, a, 0)) (hl : (Cond.fieldLinkNest own index "ReplicaFiles$Server" "tree" "LReplicaFiles$Tree;" "ReplicaFiles").before args s = true) (hdg : decode cc pc = .ok (.getfield index, 3)) (kk : W p l e R s m args below meth c H locs cells slots Q (F0 m (pc + 3) ls (.ref (A (50, a, 0)) :: rest))) : W p l e R s m args below meth c H locs cells slots Q (F0 m pc ls (.ref (A (20, a, 0)) :: rest)) := g_grN (C := RX7) (T := TX7) S X Z hin rfl hi rfl 0 (by decide) ⟨rfl, rfl, rfl⟩ rfl hl hdg kk
theorem cn_X7_versions (S : CallFix p m c cc nL s args Ts own) (X : gX D vwCl dA (cLive N) A reg s) (Z : gZ D (cLay N) dA (cLive N) A reg H0 M H locs) (hin : ∀ w ∈ wsX70, w ∈ Ts) {a : Nat} (hi : cLive N (20, a, 0)) (hl : (Cond.fieldLinkNest own index "ReplicaFiles$Server" "versions" "[LReplicaFiles$Versions;" "ReplicaFiles").before args s = true) (hdg : decode cc pc = .ok (.getfield index, 3)) (kk : W p l e R s m args below meth c H locs cells slots Q (F0 m (pc + 3) ls (.ref (A (21, a, 0)) :: rest))) : W p l e R s m args below meth c H locs cells slots Q (F0 m pc ls (.ref (A (20, a, 0)) :: rest)) := g_grN (C := RX7) (T := TX7) S X Z hin rfl hi rfl 1 (by decide) ⟨rfl, rfl, rfl⟩ rfl hl hdg kk
theorem cn_X7_marks (S : CallFix p m c cc nL s args Ts own) (X : gX D vwCl dA (cLive N) A reg s) (Z : gZ D (cLay N) dA (cLive N) A reg H0 M H locs) (hin : ∀ w ∈ wsX70, w ∈ Ts) {a : Nat} (hi : cLive N (20, a, 0)) (hl : (Cond.fieldLinkNest own index "ReplicaFiles$Server" "marks" "[I" "ReplicaFiles").before args s = true) (hdg : decode cc pc = .ok (.getfield index, 3)) (kk : W p l e R s m args below meth c H locs cells slots Q (F0 m (pc + 3) ls (.ref (A (22, a, 0)) :: rest))) : W p l e R s m args below meth c H locs cells slots Q (F0 m pc ls (.ref (A (20, a, 0)) :: rest)) := g_grN (C := RX7) (T := TX7) S X Z hin rfl hi rfl 2 (by decide) ⟨rfl, rfl, rfl⟩ rfl hl hdg kk
theorem cn_X7_losesPhase (S : CallFix p m c cc nL s args Ts own) (X : gX D vwCl dA (cLive N) A reg s) (Z : gZ D (cLay N) dA (cLive N) A reg H0 M H locs) (hin : ∀ w ∈ wsX70, w ∈ Ts) {a : Nat} (hi : cLive N (20, a, 0)) (hl : (Cond.fieldLinkNest own index "ReplicaFiles$Server" "losesPhase" "Z" "ReplicaFiles").before args s = true) (hdg : decode cc pc = .ok (.getfield index, 3)) {β : Type} {kq : Int32 → Option β} {y : β} (h : lt (M (20, a, 0) 3) kq = some y) (kk : ∀ v : Int32, kq v = some y → W p l e R s m args below meth c H locs cells slots Q (F0 m (pc + 3) ls (.int v :: rest))) : W p l e R s m args below meth c H locs cells slots Q (F0 m pc ls (.ref (A (20, a, 0)) :: rest)) := g_giN (C := RX7) (T := TX7) S X Z hin rfl hi rfl 3 (by decide) ⟨rfl, rfl, rfl⟩ rfl hl hdg (kk _ h)
theorem cq_X7_losesPhase (S : CallFix p m c cc nL s args Ts own) (X : gX D vwCl dA (cLive N) A reg s) (Z : gZ D (cLay N) dA (cLive N) A reg H0 M H locs) (hin : ∀ w ∈ wsX70, w ∈ Ts) {a : Nat} (hi : cLive N (20, a, 0)) (hl : (Cond.fieldLinkNest own index "ReplicaFiles$Server" "losesPhase" "Z" "ReplicaFiles").before args s = true) (hdg : decode cc pc = .ok (.putfield index, 3)) {x : Int32} {β : Type} {kq : gM → Option β} {y : β} (h : gz x (lt (gset M (20, a, 0) 3 x) kq) = some y) (kk : ∀ (M1 : gM) (H1 : Heap) (locs1 : List Loc), gZ D (cLay N) dA (cLive N) A reg H0 M1 H1 locs1 → kq M1 = some y → W p l e R s m args below meth c H1 locs1 cells slots Q (F0 m (pc + 3) ls rest)) : W p l e R s m args below meth c H locs cells slots Q (F0 m pc ls (.int x :: .ref (A (20, a, 0)) :: rest)) := by
  obtain ⟨hz, h⟩ := gz_e h
  exact g_piN (C := RX7) (T := TX7) (ty := .boolean) S X Z hin rfl tyX7 tyX7_ok nmX7 hi rfl 3 (by decide) ⟨rfl, rfl, rfl, rfl⟩ rfl hl (by decide) (by rcases hz with rfl | rfl <;> decide) (by rcases hz with rfl | rfl <;> decide) hdg h kk
theorem cr_X1_number (S : CallFix p m c cc nL s args Ts RX1) (X : gX D vwCl dA (cLive N) A reg s) (Z : gZ D (cLay N) dA (cLive N) A reg H0 M H locs) (hin : ∀ w ∈ wsX10, w ∈ Ts) {a : Nat} (hi : cLive N (30, a, 0)) (hl : (Cond.fieldLink RX1 index "ReplicaFiles$Client" "number" "I").before args s = true) (hdg : decode cc pc = .ok (.getfield index, 3)) {β : Type} {kq : Int32 → Option β} {y : β} (h : lt (M (30, a, 0) 0) kq = some y) (kk : ∀ v : Int32, kq v = some y → W p l e R s m args below meth c H locs cells slots Q (F0 m (pc + 3) ls (.int v :: rest))) : W p l e R s m args below meth c H locs cells slots Q (F0 m pc ls (.ref (A (30, a, 0)) :: rest)) := g_gi (C := RX1) (T := TX1) S X Z hin rfl hi rfl 0 (by decide) ⟨rfl, rfl, rfl⟩ rfl hl hdg (kk _ h)
theorem cr_X1_catalog (S : CallFix p m c cc nL s args Ts RX1) (X : gX D vwCl dA (cLive N) A reg s) (Z : gZ D (cLay N) dA (cLive N) A reg H0 M H locs) (hin : ∀ w ∈ wsX10, w ∈ Ts) {a : Nat} (hi : cLive N (30, a, 0)) (hl : (Cond.fieldLink RX1 index "ReplicaFiles$Client" "catalog" "LReplicaFiles$Catalog;").before args s = true) (hdg : decode cc pc = .ok (.getfield index, 3)) (kk : W p l e R s m args below meth c H locs cells slots Q (F0 m (pc + 3) ls (.ref (A (1, 0, 0)) :: rest))) : W p l e R s m args below meth c H locs cells slots Q (F0 m pc ls (.ref (A (30, a, 0)) :: rest)) := g_gr (C := RX1) (T := TX1) S X Z hin rfl hi rfl 1 (by decide) ⟨rfl, rfl, rfl⟩ rfl hl hdg kk
theorem cr_X1_tallies (S : CallFix p m c cc nL s args Ts RX1) (X : gX D vwCl dA (cLive N) A reg s) (Z : gZ D (cLay N) dA (cLive N) A reg H0 M H locs) (hin : ∀ w ∈ wsX10, w ∈ Ts) {a : Nat} (hi : cLive N (30, a, 0)) (hl : (Cond.fieldLink RX1 index "ReplicaFiles$Client" "tallies" "[I").before args s = true) (hdg : decode cc pc = .ok (.getfield index, 3)) (kk : W p l e R s m args below meth c H locs cells slots Q (F0 m (pc + 3) ls (.ref (A (9, 0, 0)) :: rest))) : W p l e R s m args below meth c H locs cells slots Q (F0 m pc ls (.ref (A (30, a, 0)) :: rest)) := g_gr (C := RX1) (T := TX1) S X Z hin rfl hi rfl 2 (by decide) ⟨rfl, rfl, rfl⟩ rfl hl hdg kk
theorem cr_X1_tree (S : CallFix p m c cc nL s args Ts RX1) (X : gX D vwCl dA (cLive N) A reg s) (Z : gZ D (cLay N) dA (cLive N) A reg H0 M H locs) (hin : ∀ w ∈ wsX10, w ∈ Ts) {a : Nat} (hi : cLive N (30, a, 0)) (hl : (Cond.fieldLink RX1 index "ReplicaFiles$Client" "tree" "LReplicaFiles$Tree;").before args s = true) (hdg : decode cc pc = .ok (.getfield index, 3)) (kk : W p l e R s m args below meth c H locs cells slots Q (F0 m (pc + 3) ls (.ref (A (50, (4 + a), 0)) :: rest))) : W p l e R s m args below meth c H locs cells slots Q (F0 m pc ls (.ref (A (30, a, 0)) :: rest)) := g_gr (C := RX1) (T := TX1) S X Z hin rfl hi rfl 3 (by decide) ⟨rfl, rfl, rfl⟩ rfl hl hdg kk
theorem cr_X1_priority (S : CallFix p m c cc nL s args Ts RX1) (X : gX D vwCl dA (cLive N) A reg s) (Z : gZ D (cLay N) dA (cLive N) A reg H0 M H locs) (hin : ∀ w ∈ wsX10, w ∈ Ts) {a : Nat} (hi : cLive N (30, a, 0)) (hl : (Cond.fieldLink RX1 index "ReplicaFiles$Client" "priority" "[I").before args s = true) (hdg : decode cc pc = .ok (.getfield index, 3)) (kk : W p l e R s m args below meth c H locs cells slots Q (F0 m (pc + 3) ls (.ref (A (31, a, 0)) :: rest))) : W p l e R s m args below meth c H locs cells slots Q (F0 m pc ls (.ref (A (30, a, 0)) :: rest)) := g_gr (C := RX1) (T := TX1) S X Z hin rfl hi rfl 4 (by decide) ⟨rfl, rfl, rfl⟩ rfl hl hdg kk
theorem cr_X1_promised (S : CallFix p m c cc nL s args Ts RX1) (X : gX D vwCl dA (cLive N) A reg s) (Z : gZ D (cLay N) dA (cLive N) A reg H0 M H locs) (hin : ∀ w ∈ wsX10, w ∈ Ts) {a : Nat} (hi : cLive N (30, a, 0)) (hl : (Cond.fieldLink RX1 index "ReplicaFiles$Client" "promised" "[I").before args s = true) (hdg : decode cc pc = .ok (.getfield index, 3)) (kk : W p l e R s m args below meth c H locs cells slots Q (F0 m (pc + 3) ls (.ref (A (32, a, 0)) :: rest))) : W p l e R s m args below meth c H locs cells slots Q (F0 m pc ls (.ref (A (30, a, 0)) :: rest)) := g_gr (C := RX1) (T := TX1) S X Z hin rfl hi rfl 5 (by decide) ⟨rfl, rfl, rfl⟩ rfl hl hdg kk
theorem cr_X1_dirty (S : CallFix p m c cc nL s args Ts RX1) (X : gX D vwCl dA (cLive N) A reg s) (Z : gZ D (cLay N) dA (cLive N) A reg H0 M H locs) (hin : ∀ w ∈ wsX10, w ∈ Ts) {a : Nat} (hi : cLive N (30, a, 0)) (hl : (Cond.fieldLink RX1 index "ReplicaFiles$Client" "dirty" "[Z").before args s = true) (hdg : decode cc pc = .ok (.getfield index, 3)) (kk : W p l e R s m args below meth c H locs cells slots Q (F0 m (pc + 3) ls (.ref (A (33, a, 0)) :: rest))) : W p l e R s m args below meth c H locs cells slots Q (F0 m pc ls (.ref (A (30, a, 0)) :: rest)) := g_gr (C := RX1) (T := TX1) S X Z hin rfl hi rfl 6 (by decide) ⟨rfl, rfl, rfl⟩ rfl hl hdg kk
theorem cr_X1_used (S : CallFix p m c cc nL s args Ts RX1) (X : gX D vwCl dA (cLive N) A reg s) (Z : gZ D (cLay N) dA (cLive N) A reg H0 M H locs) (hin : ∀ w ∈ wsX10, w ∈ Ts) {a : Nat} (hi : cLive N (30, a, 0)) (hl : (Cond.fieldLink RX1 index "ReplicaFiles$Client" "used" "[I").before args s = true) (hdg : decode cc pc = .ok (.getfield index, 3)) (kk : W p l e R s m args below meth c H locs cells slots Q (F0 m (pc + 3) ls (.ref (A (34, a, 0)) :: rest))) : W p l e R s m args below meth c H locs cells slots Q (F0 m pc ls (.ref (A (30, a, 0)) :: rest)) := g_gr (C := RX1) (T := TX1) S X Z hin rfl hi rfl 7 (by decide) ⟨rfl, rfl, rfl⟩ rfl hl hdg kk
theorem cr_X1_log (S : CallFix p m c cc nL s args Ts RX1) (X : gX D vwCl dA (cLive N) A reg s) (Z : gZ D (cLay N) dA (cLive N) A reg H0 M H locs) (hin : ∀ w ∈ wsX10, w ∈ Ts) {a : Nat} (hi : cLive N (30, a, 0)) (hl : (Cond.fieldLink RX1 index "ReplicaFiles$Client" "log" "LReplicaFiles$Log;").before args s = true) (hdg : decode cc pc = .ok (.getfield index, 3)) (kk : W p l e R s m args below meth c H locs cells slots Q (F0 m (pc + 3) ls (.ref (A (40, a, 0)) :: rest))) : W p l e R s m args below meth c H locs cells slots Q (F0 m pc ls (.ref (A (30, a, 0)) :: rest)) := g_gr (C := RX1) (T := TX1) S X Z hin rfl hi rfl 8 (by decide) ⟨rfl, rfl, rfl⟩ rfl hl hdg kk
theorem cr_X1_uses (S : CallFix p m c cc nL s args Ts RX1) (X : gX D vwCl dA (cLive N) A reg s) (Z : gZ D (cLay N) dA (cLive N) A reg H0 M H locs) (hin : ∀ w ∈ wsX10, w ∈ Ts) {a : Nat} (hi : cLive N (30, a, 0)) (hl : (Cond.fieldLink RX1 index "ReplicaFiles$Client" "uses" "I").before args s = true) (hdg : decode cc pc = .ok (.getfield index, 3)) {β : Type} {kq : Int32 → Option β} {y : β} (h : lt (M (30, a, 0) 9) kq = some y) (kk : ∀ v : Int32, kq v = some y → W p l e R s m args below meth c H locs cells slots Q (F0 m (pc + 3) ls (.int v :: rest))) : W p l e R s m args below meth c H locs cells slots Q (F0 m pc ls (.ref (A (30, a, 0)) :: rest)) := g_gi (C := RX1) (T := TX1) S X Z hin rfl hi rfl 9 (by decide) ⟨rfl, rfl, rfl⟩ rfl hl hdg (kk _ h)
theorem cp_X1_uses (S : CallFix p m c cc nL s args Ts RX1) (X : gX D vwCl dA (cLive N) A reg s) (Z : gZ D (cLay N) dA (cLive N) A reg H0 M H locs) (hin : ∀ w ∈ wsX10, w ∈ Ts) {a : Nat} (hi : cLive N (30, a, 0)) (hl : (Cond.fieldLink RX1 index "ReplicaFiles$Client" "uses" "I").before args s = true) (hdg : decode cc pc = .ok (.putfield index, 3)) {x : Int32} {β : Type} {kq : gM → Option β} {y : β} (h : lt (gset M (30, a, 0) 9 x) kq = some y) (kk : ∀ (M1 : gM) (H1 : Heap) (locs1 : List Loc), gZ D (cLay N) dA (cLive N) A reg H0 M1 H1 locs1 → kq M1 = some y → W p l e R s m args below meth c H1 locs1 cells slots Q (F0 m (pc + 3) ls rest)) : W p l e R s m args below meth c H locs cells slots Q (F0 m pc ls (.int x :: .ref (A (30, a, 0)) :: rest)) := g_pi (C := RX1) (T := TX1) (ty := .int) S X Z hin rfl tyX1 tyX1_ok nmX1 hi rfl 9 (by decide) ⟨rfl, rfl, rfl, rfl⟩ rfl hl (by decide) rfl rfl hdg h kk
theorem cr_X1_usesBeforeCall (S : CallFix p m c cc nL s args Ts RX1) (X : gX D vwCl dA (cLive N) A reg s) (Z : gZ D (cLay N) dA (cLive N) A reg H0 M H locs) (hin : ∀ w ∈ wsX10, w ∈ Ts) {a : Nat} (hi : cLive N (30, a, 0)) (hl : (Cond.fieldLink RX1 index "ReplicaFiles$Client" "usesBeforeCall" "I").before args s = true) (hdg : decode cc pc = .ok (.getfield index, 3)) {β : Type} {kq : Int32 → Option β} {y : β} (h : lt (M (30, a, 0) 10) kq = some y) (kk : ∀ v : Int32, kq v = some y → W p l e R s m args below meth c H locs cells slots Q (F0 m (pc + 3) ls (.int v :: rest))) : W p l e R s m args below meth c H locs cells slots Q (F0 m pc ls (.ref (A (30, a, 0)) :: rest)) := g_gi (C := RX1) (T := TX1) S X Z hin rfl hi rfl 10 (by decide) ⟨rfl, rfl, rfl⟩ rfl hl hdg (kk _ h)
theorem cp_X1_usesBeforeCall (S : CallFix p m c cc nL s args Ts RX1) (X : gX D vwCl dA (cLive N) A reg s) (Z : gZ D (cLay N) dA (cLive N) A reg H0 M H locs) (hin : ∀ w ∈ wsX10, w ∈ Ts) {a : Nat} (hi : cLive N (30, a, 0)) (hl : (Cond.fieldLink RX1 index "ReplicaFiles$Client" "usesBeforeCall" "I").before args s = true) (hdg : decode cc pc = .ok (.putfield index, 3)) {x : Int32} {β : Type} {kq : gM → Option β} {y : β} (h : lt (gset M (30, a, 0) 10 x) kq = some y) (kk : ∀ (M1 : gM) (H1 : Heap) (locs1 : List Loc), gZ D (cLay N) dA (cLive N) A reg H0 M1 H1 locs1 → kq M1 = some y → W p l e R s m args below meth c H1 locs1 cells slots Q (F0 m (pc + 3) ls rest)) : W p l e R s m args below meth c H locs cells slots Q (F0 m pc ls (.int x :: .ref (A (30, a, 0)) :: rest)) := g_pi (C := RX1) (T := TX1) (ty := .int) S X Z hin rfl tyX1 tyX1_ok nmX1 hi rfl 10 (by decide) ⟨rfl, rfl, rfl, rfl⟩ rfl hl (by decide) rfl rfl hdg h kk
theorem cr_X1_versionsTold (S : CallFix p m c cc nL s args Ts RX1) (X : gX D vwCl dA (cLive N) A reg s) (Z : gZ D (cLay N) dA (cLive N) A reg H0 M H locs) (hin : ∀ w ∈ wsX10, w ∈ Ts) {a : Nat} (hi : cLive N (30, a, 0)) (hl : (Cond.fieldLink RX1 index "ReplicaFiles$Client" "versionsTold" "I").before args s = true) (hdg : decode cc pc = .ok (.getfield index, 3)) {β : Type} {kq : Int32 → Option β} {y : β} (h : lt (M (30, a, 0) 11) kq = some y) (kk : ∀ v : Int32, kq v = some y → W p l e R s m args below meth c H locs cells slots Q (F0 m (pc + 3) ls (.int v :: rest))) : W p l e R s m args below meth c H locs cells slots Q (F0 m pc ls (.ref (A (30, a, 0)) :: rest)) := g_gi (C := RX1) (T := TX1) S X Z hin rfl hi rfl 11 (by decide) ⟨rfl, rfl, rfl⟩ rfl hl hdg (kk _ h)
theorem cp_X1_versionsTold (S : CallFix p m c cc nL s args Ts RX1) (X : gX D vwCl dA (cLive N) A reg s) (Z : gZ D (cLay N) dA (cLive N) A reg H0 M H locs) (hin : ∀ w ∈ wsX10, w ∈ Ts) {a : Nat} (hi : cLive N (30, a, 0)) (hl : (Cond.fieldLink RX1 index "ReplicaFiles$Client" "versionsTold" "I").before args s = true) (hdg : decode cc pc = .ok (.putfield index, 3)) {x : Int32} {β : Type} {kq : gM → Option β} {y : β} (h : lt (gset M (30, a, 0) 11 x) kq = some y) (kk : ∀ (M1 : gM) (H1 : Heap) (locs1 : List Loc), gZ D (cLay N) dA (cLive N) A reg H0 M1 H1 locs1 → kq M1 = some y → W p l e R s m args below meth c H1 locs1 cells slots Q (F0 m (pc + 3) ls rest)) : W p l e R s m args below meth c H locs cells slots Q (F0 m pc ls (.int x :: .ref (A (30, a, 0)) :: rest)) := g_pi (C := RX1) (T := TX1) (ty := .int) S X Z hin rfl tyX1 tyX1_ok nmX1 hi rfl 11 (by decide) ⟨rfl, rfl, rfl, rfl⟩ rfl hl (by decide) rfl rfl hdg h kk
theorem cn_X1_number (S : CallFix p m c cc nL s args Ts own) (X : gX D vwCl dA (cLive N) A reg s) (Z : gZ D (cLay N) dA (cLive N) A reg H0 M H locs) (hin : ∀ w ∈ wsX10, w ∈ Ts) {a : Nat} (hi : cLive N (30, a, 0)) (hl : (Cond.fieldLinkNest own index "ReplicaFiles$Client" "number" "I" "ReplicaFiles").before args s = true) (hdg : decode cc pc = .ok (.getfield index, 3)) {β : Type} {kq : Int32 → Option β} {y : β} (h : lt (M (30, a, 0) 0) kq = some y) (kk : ∀ v : Int32, kq v = some y → W p l e R s m args below meth c H locs cells slots Q (F0 m (pc + 3) ls (.int v :: rest))) : W p l e R s m args below meth c H locs cells slots Q (F0 m pc ls (.ref (A (30, a, 0)) :: rest)) := g_giN (C := RX1) (T := TX1) S X Z hin rfl hi rfl 0 (by decide) ⟨rfl, rfl, rfl⟩ rfl hl hdg (kk _ h)
theorem cn_X1_catalog (S : CallFix p m c cc nL s args Ts own) (X : gX D vwCl dA (cLive N) A reg s) (Z : gZ D (cLay N) dA (cLive N) A reg H0 M H locs) (hin : ∀ w ∈ wsX10, w ∈ Ts) {a : Nat} (hi : cLive N (30, a, 0)) (hl : (Cond.fieldLinkNest own index "ReplicaFiles$Client" "catalog" "LReplicaFiles$Catalog;" "ReplicaFiles").before args s = true) (hdg : decode cc pc = .ok (.getfield index, 3)) (kk : W p l e R s m args below meth c H locs cells slots Q (F0 m (pc + 3) ls (.ref (A (1, 0, 0)) :: rest))) : W p l e R s m args below meth c H locs cells slots Q (F0 m pc ls (.ref (A (30, a, 0)) :: rest)) := g_grN (C := RX1) (T := TX1) S X Z hin rfl hi rfl 1 (by decide) ⟨rfl, rfl, rfl⟩ rfl hl hdg kk
theorem cn_X1_tallies (S : CallFix p m c cc nL s args Ts own) (X : gX D vwCl dA (cLive N) A reg s) (Z : gZ D (cLay N) dA (cLive N) A reg H0 M H locs) (hin : ∀ w ∈ wsX10, w ∈ Ts) {a : Nat} (hi : cLive N (30, a, 0)) (hl : (Cond.fieldLinkNest own index "ReplicaFiles$Client" "tallies" "[I" "ReplicaFiles").before args s = true) (hdg : decode cc pc = .ok (.getfield index, 3)) (kk : W p l e R s m args below meth c H locs cells slots Q (F0 m (pc + 3) ls (.ref (A (9, 0, 0)) :: rest))) : W p l e R s m args below meth c H locs cells slots Q (F0 m pc ls (.ref (A (30, a, 0)) :: rest)) := g_grN (C := RX1) (T := TX1) S X Z hin rfl hi rfl 2 (by decide) ⟨rfl, rfl, rfl⟩ rfl hl hdg kk
theorem cn_X1_tree (S : CallFix p m c cc nL s args Ts own) (X : gX D vwCl dA (cLive N) A reg s) (Z : gZ D (cLay N) dA (cLive N) A reg H0 M H locs) (hin : ∀ w ∈ wsX10, w ∈ Ts) {a : Nat} (hi : cLive N (30, a, 0)) (hl : (Cond.fieldLinkNest own index "ReplicaFiles$Client" "tree" "LReplicaFiles$Tree;" "ReplicaFiles").before args s = true) (hdg : decode cc pc = .ok (.getfield index, 3)) (kk : W p l e R s m args below meth c H locs cells slots Q (F0 m (pc + 3) ls (.ref (A (50, (4 + a), 0)) :: rest))) : W p l e R s m args below meth c H locs cells slots Q (F0 m pc ls (.ref (A (30, a, 0)) :: rest)) := g_grN (C := RX1) (T := TX1) S X Z hin rfl hi rfl 3 (by decide) ⟨rfl, rfl, rfl⟩ rfl hl hdg kk
theorem cn_X1_priority (S : CallFix p m c cc nL s args Ts own) (X : gX D vwCl dA (cLive N) A reg s) (Z : gZ D (cLay N) dA (cLive N) A reg H0 M H locs) (hin : ∀ w ∈ wsX10, w ∈ Ts) {a : Nat} (hi : cLive N (30, a, 0)) (hl : (Cond.fieldLinkNest own index "ReplicaFiles$Client" "priority" "[I" "ReplicaFiles").before args s = true) (hdg : decode cc pc = .ok (.getfield index, 3)) (kk : W p l e R s m args below meth c H locs cells slots Q (F0 m (pc + 3) ls (.ref (A (31, a, 0)) :: rest))) : W p l e R s m args below meth c H locs cells slots Q (F0 m pc ls (.ref (A (30, a, 0)) :: rest)) := g_grN (C := RX1) (T := TX1) S X Z hin rfl hi rfl 4 (by decide) ⟨rfl, rfl, rfl⟩ rfl hl hdg kk
theorem cn_X1_promised (S : CallFix p m c cc nL s args Ts own) (X : gX D vwCl dA (cLive N) A reg s) (Z : gZ D (cLay N) dA (cLive N) A reg H0 M H locs) (hin : ∀ w ∈ wsX10, w ∈ Ts) {a : Nat} (hi : cLive N (30, a, 0)) (hl : (Cond.fieldLinkNest own index "ReplicaFiles$Client" "promised" "[I" "ReplicaFiles").before args s = true) (hdg : decode cc pc = .ok (.getfield index, 3)) (kk : W p l e R s m args below meth c H locs cells slots Q (F0 m (pc + 3) ls (.ref (A (32, a, 0)) :: rest))) : W p l e R s m args below meth c H locs cells slots Q (F0 m pc ls (.ref (A (30, a, 0)) :: rest)) := g_grN (C := RX1) (T := TX1) S X Z hin rfl hi rfl 5 (by decide) ⟨rfl, rfl, rfl⟩ rfl hl hdg kk
theorem cn_X1_dirty (S : CallFix p m c cc nL s args Ts own) (X : gX D vwCl dA (cLive N) A reg s) (Z : gZ D (cLay N) dA (cLive N) A reg H0 M H locs) (hin : ∀ w ∈ wsX10, w ∈ Ts) {a : Nat} (hi : cLive N (30, a, 0)) (hl : (Cond.fieldLinkNest own index "ReplicaFiles$Client" "dirty" "[Z" "ReplicaFiles").before args s = true) (hdg : decode cc pc = .ok (.getfield index, 3)) (kk : W p l e R s m args below meth c H locs cells slots Q (F0 m (pc + 3) ls (.ref (A (33, a, 0)) :: rest))) : W p l e R s m args below meth c H locs cells slots Q (F0 m pc ls (.ref (A (30, a, 0)) :: rest)) := g_grN (C := RX1) (T := TX1) S X Z hin rfl hi rfl 6 (by decide) ⟨rfl, rfl, rfl⟩ rfl hl hdg kk
theorem cn_X1_used (S : CallFix p m c cc nL s args Ts own) (X : gX D vwCl dA (cLive N) A reg s) (Z : gZ D (cLay N) dA (cLive N) A reg H0 M H locs) (hin : ∀ w ∈ wsX10, w ∈ Ts) {a : Nat} (hi : cLive N (30, a, 0)) (hl : (Cond.fieldLinkNest own index "ReplicaFiles$Client" "used" "[I" "ReplicaFiles").before args s = true) (hdg : decode cc pc = .ok (.getfield index, 3)) (kk : W p l e R s m args below meth c H locs cells slots Q (F0 m (pc + 3) ls (.ref (A (34, a, 0)) :: rest))) : W p l e R s m args below meth c H locs cells slots Q (F0 m pc ls (.ref (A (30, a, 0)) :: rest)) := g_grN (C := RX1) (T := TX1) S X Z hin rfl hi rfl 7 (by decide) ⟨rfl, rfl, rfl⟩ rfl hl hdg kk
theorem cn_X1_log (S : CallFix p m c cc nL s args Ts own) (X : gX D vwCl dA (cLive N) A reg s) (Z : gZ D (cLay N) dA (cLive N) A reg H0 M H locs) (hin : ∀ w ∈ wsX10, w ∈ Ts) {a : Nat} (hi : cLive N (30, a, 0)) (hl : (Cond.fieldLinkNest own index "ReplicaFiles$Client" "log" "LReplicaFiles$Log;" "ReplicaFiles").before args s = true) (hdg : decode cc pc = .ok (.getfield index, 3)) (kk : W p l e R s m args below meth c H locs cells slots Q (F0 m (pc + 3) ls (.ref (A (40, a, 0)) :: rest))) : W p l e R s m args below meth c H locs cells slots Q (F0 m pc ls (.ref (A (30, a, 0)) :: rest)) := g_grN (C := RX1) (T := TX1) S X Z hin rfl hi rfl 8 (by decide) ⟨rfl, rfl, rfl⟩ rfl hl hdg kk
theorem cn_X1_uses (S : CallFix p m c cc nL s args Ts own) (X : gX D vwCl dA (cLive N) A reg s) (Z : gZ D (cLay N) dA (cLive N) A reg H0 M H locs) (hin : ∀ w ∈ wsX10, w ∈ Ts) {a : Nat} (hi : cLive N (30, a, 0)) (hl : (Cond.fieldLinkNest own index "ReplicaFiles$Client" "uses" "I" "ReplicaFiles").before args s = true) (hdg : decode cc pc = .ok (.getfield index, 3)) {β : Type} {kq : Int32 → Option β} {y : β} (h : lt (M (30, a, 0) 9) kq = some y) (kk : ∀ v : Int32, kq v = some y → W p l e R s m args below meth c H locs cells slots Q (F0 m (pc + 3) ls (.int v :: rest))) : W p l e R s m args below meth c H locs cells slots Q (F0 m pc ls (.ref (A (30, a, 0)) :: rest)) := g_giN (C := RX1) (T := TX1) S X Z hin rfl hi rfl 9 (by decide) ⟨rfl, rfl, rfl⟩ rfl hl hdg (kk _ h)
theorem cq_X1_uses (S : CallFix p m c cc nL s args Ts own) (X : gX D vwCl dA (cLive N) A reg s) (Z : gZ D (cLay N) dA (cLive N) A reg H0 M H locs) (hin : ∀ w ∈ wsX10, w ∈ Ts) {a : Nat} (hi : cLive N (30, a, 0)) (hl : (Cond.fieldLinkNest own index "ReplicaFiles$Client" "uses" "I" "ReplicaFiles").before args s = true) (hdg : decode cc pc = .ok (.putfield index, 3)) {x : Int32} {β : Type} {kq : gM → Option β} {y : β} (h : lt (gset M (30, a, 0) 9 x) kq = some y) (kk : ∀ (M1 : gM) (H1 : Heap) (locs1 : List Loc), gZ D (cLay N) dA (cLive N) A reg H0 M1 H1 locs1 → kq M1 = some y → W p l e R s m args below meth c H1 locs1 cells slots Q (F0 m (pc + 3) ls rest)) : W p l e R s m args below meth c H locs cells slots Q (F0 m pc ls (.int x :: .ref (A (30, a, 0)) :: rest)) := g_piN (C := RX1) (T := TX1) (ty := .int) S X Z hin rfl tyX1 tyX1_ok nmX1 hi rfl 9 (by decide) ⟨rfl, rfl, rfl, rfl⟩ rfl hl (by decide) rfl rfl hdg h kk
theorem cn_X1_usesBeforeCall (S : CallFix p m c cc nL s args Ts own) (X : gX D vwCl dA (cLive N) A reg s) (Z : gZ D (cLay N) dA (cLive N) A reg H0 M H locs) (hin : ∀ w ∈ wsX10, w ∈ Ts) {a : Nat} (hi : cLive N (30, a, 0)) (hl : (Cond.fieldLinkNest own index "ReplicaFiles$Client" "usesBeforeCall" "I" "ReplicaFiles").before args s = true) (hdg : decode cc pc = .ok (.getfield index, 3)) {β : Type} {kq : Int32 → Option β} {y : β} (h : lt (M (30, a, 0) 10) kq = some y) (kk : ∀ v : Int32, kq v = some y → W p l e R s m args below meth c H locs cells slots Q (F0 m (pc + 3) ls (.int v :: rest))) : W p l e R s m args below meth c H locs cells slots Q (F0 m pc ls (.ref (A (30, a, 0)) :: rest)) := g_giN (C := RX1) (T := TX1) S X Z hin rfl hi rfl 10 (by decide) ⟨rfl, rfl, rfl⟩ rfl hl hdg (kk _ h)
theorem cq_X1_usesBeforeCall (S : CallFix p m c cc nL s args Ts own) (X : gX D vwCl dA (cLive N) A reg s) (Z : gZ D (cLay N) dA (cLive N) A reg H0 M H locs) (hin : ∀ w ∈ wsX10, w ∈ Ts) {a : Nat} (hi : cLive N (30, a, 0)) (hl : (Cond.fieldLinkNest own index "ReplicaFiles$Client" "usesBeforeCall" "I" "ReplicaFiles").before args s = true) (hdg : decode cc pc = .ok (.putfield index, 3)) {x : Int32} {β : Type} {kq : gM → Option β} {y : β} (h : lt (gset M (30, a, 0) 10 x) kq = some y) (kk : ∀ (M1 : gM) (H1 : Heap) (locs1 : List Loc), gZ D (cLay N) dA (cLive N) A reg H0 M1 H1 locs1 → kq M1 = some y → W p l e R s m args below meth c H1 locs1 cells slots Q (F0 m (pc + 3) ls rest)) : W p l e R s m args below meth c H locs cells slots Q (F0 m pc ls (.int x :: .ref (A (30, a, 0)) :: rest)) := g_piN (C := RX1) (T := TX1) (ty := .int) S X Z hin rfl tyX1 tyX1_ok nmX1 hi rfl 10 (by decide) ⟨rfl, rfl, rfl, rfl⟩ rfl hl (by decide) rfl rfl hdg h kk
theorem cn_X1_versionsTold (S : CallFix p m c cc nL s args Ts own) (X : gX D vwCl dA (cLive N) A reg s) (Z : gZ D (cLay N) dA (cLive N) A reg H0 M H locs) (hin : ∀ w ∈ wsX10, w ∈ Ts) {a : Nat} (hi : cLive N (30, a, 0)) (hl : (Cond.fieldLinkNest own index "ReplicaFiles$Client" "versionsTold" "I" "ReplicaFiles").before args s = true) (hdg : decode cc pc = .ok (.getfield index, 3)) {β : Type} {kq : Int32 → Option β} {y : β} (h : lt (M (30, a, 0) 11) kq = some y) (kk : ∀ v : Int32, kq v = some y → W p l e R s m args below meth c H locs cells slots Q (F0 m (pc + 3) ls (.int v :: rest))) : W p l e R s m args below meth c H locs cells slots Q (F0 m pc ls (.ref (A (30, a, 0)) :: rest)) := g_giN (C := RX1) (T := TX1) S X Z hin rfl hi rfl 11 (by decide) ⟨rfl, rfl, rfl⟩ rfl hl hdg (kk _ h)
theorem cq_X1_versionsTold (S : CallFix p m c cc nL s args Ts own) (X : gX D vwCl dA (cLive N) A reg s) (Z : gZ D (cLay N) dA (cLive N) A reg H0 M H locs) (hin : ∀ w ∈ wsX10, w ∈ Ts) {a : Nat} (hi : cLive N (30, a, 0)) (hl : (Cond.fieldLinkNest own index "ReplicaFiles$Client" "versionsTold" "I" "ReplicaFiles").before args s = true) (hdg : decode cc pc = .ok (.putfield index, 3)) {x : Int32} {β : Type} {kq : gM → Option β} {y : β} (h : lt (gset M (30, a, 0) 11 x) kq = some y) (kk : ∀ (M1 : gM) (H1 : Heap) (locs1 : List Loc), gZ D (cLay N) dA (cLive N) A reg H0 M1 H1 locs1 → kq M1 = some y → W p l e R s m args below meth c H1 locs1 cells slots Q (F0 m (pc + 3) ls rest)) : W p l e R s m args below meth c H locs cells slots Q (F0 m pc ls (.int x :: .ref (A (30, a, 0)) :: rest)) := g_piN (C := RX1) (T := TX1) (ty := .int) S X Z hin rfl tyX1 tyX1_ok nmX1 hi rfl 11 (by decide) ⟨rfl, rfl, rfl, rfl⟩ rfl hl (by decide) rfl rfl hdg h kk
theorem cr_X3_kind (S : CallFix p m c cc nL s args Ts RX3) (X : gX D vwCl dA (cLive N) A reg s) (Z : gZ D (cLay N) dA (cLive N) A reg H0 M H locs) (hin : ∀ w ∈ wsX30, w ∈ Ts) {a : Nat} (hi : cLive N (40, a, 0)) (hl : (Cond.fieldLink RX3 index "ReplicaFiles$Log" "kind" "[I").before args s = true) (hdg : decode cc pc = .ok (.getfield index, 3)) (kk : W p l e R s m args below meth c H locs cells slots Q (F0 m (pc + 3) ls (.ref (A (41, a, 0)) :: rest))) : W p l e R s m args below meth c H locs cells slots Q (F0 m pc ls (.ref (A (40, a, 0)) :: rest)) := g_gr (C := RX3) (T := TX3) S X Z hin rfl hi rfl 0 (by decide) ⟨rfl, rfl, rfl⟩ rfl hl hdg kk
theorem cr_X3_object (S : CallFix p m c cc nL s args Ts RX3) (X : gX D vwCl dA (cLive N) A reg s) (Z : gZ D (cLay N) dA (cLive N) A reg H0 M H locs) (hin : ∀ w ∈ wsX30, w ∈ Ts) {a : Nat} (hi : cLive N (40, a, 0)) (hl : (Cond.fieldLink RX3 index "ReplicaFiles$Log" "object" "[I").before args s = true) (hdg : decode cc pc = .ok (.getfield index, 3)) (kk : W p l e R s m args below meth c H locs cells slots Q (F0 m (pc + 3) ls (.ref (A (42, a, 0)) :: rest))) : W p l e R s m args below meth c H locs cells slots Q (F0 m pc ls (.ref (A (40, a, 0)) :: rest)) := g_gr (C := RX3) (T := TX3) S X Z hin rfl hi rfl 1 (by decide) ⟨rfl, rfl, rfl⟩ rfl hl hdg kk
theorem cr_X3_directory (S : CallFix p m c cc nL s args Ts RX3) (X : gX D vwCl dA (cLive N) A reg s) (Z : gZ D (cLay N) dA (cLive N) A reg H0 M H locs) (hin : ∀ w ∈ wsX30, w ∈ Ts) {a : Nat} (hi : cLive N (40, a, 0)) (hl : (Cond.fieldLink RX3 index "ReplicaFiles$Log" "directory" "[I").before args s = true) (hdg : decode cc pc = .ok (.getfield index, 3)) (kk : W p l e R s m args below meth c H locs cells slots Q (F0 m (pc + 3) ls (.ref (A (43, a, 0)) :: rest))) : W p l e R s m args below meth c H locs cells slots Q (F0 m pc ls (.ref (A (40, a, 0)) :: rest)) := g_gr (C := RX3) (T := TX3) S X Z hin rfl hi rfl 2 (by decide) ⟨rfl, rfl, rfl⟩ rfl hl hdg kk
theorem cr_X3_counts (S : CallFix p m c cc nL s args Ts RX3) (X : gX D vwCl dA (cLive N) A reg s) (Z : gZ D (cLay N) dA (cLive N) A reg H0 M H locs) (hin : ∀ w ∈ wsX30, w ∈ Ts) {a : Nat} (hi : cLive N (40, a, 0)) (hl : (Cond.fieldLink RX3 index "ReplicaFiles$Log" "counts" "[[I").before args s = true) (hdg : decode cc pc = .ok (.getfield index, 3)) (kk : W p l e R s m args below meth c H locs cells slots Q (F0 m (pc + 3) ls (.ref (A (44, a, 0)) :: rest))) : W p l e R s m args below meth c H locs cells slots Q (F0 m pc ls (.ref (A (40, a, 0)) :: rest)) := g_gr (C := RX3) (T := TX3) S X Z hin rfl hi rfl 3 (by decide) ⟨rfl, rfl, rfl⟩ rfl hl hdg kk
theorem cr_X3_length (S : CallFix p m c cc nL s args Ts RX3) (X : gX D vwCl dA (cLive N) A reg s) (Z : gZ D (cLay N) dA (cLive N) A reg H0 M H locs) (hin : ∀ w ∈ wsX30, w ∈ Ts) {a : Nat} (hi : cLive N (40, a, 0)) (hl : (Cond.fieldLink RX3 index "ReplicaFiles$Log" "length" "I").before args s = true) (hdg : decode cc pc = .ok (.getfield index, 3)) {β : Type} {kq : Int32 → Option β} {y : β} (h : lt (M (40, a, 0) 4) kq = some y) (kk : ∀ v : Int32, kq v = some y → W p l e R s m args below meth c H locs cells slots Q (F0 m (pc + 3) ls (.int v :: rest))) : W p l e R s m args below meth c H locs cells slots Q (F0 m pc ls (.ref (A (40, a, 0)) :: rest)) := g_gi (C := RX3) (T := TX3) S X Z hin rfl hi rfl 4 (by decide) ⟨rfl, rfl, rfl⟩ rfl hl hdg (kk _ h)
theorem cp_X3_length (S : CallFix p m c cc nL s args Ts RX3) (X : gX D vwCl dA (cLive N) A reg s) (Z : gZ D (cLay N) dA (cLive N) A reg H0 M H locs) (hin : ∀ w ∈ wsX30, w ∈ Ts) {a : Nat} (hi : cLive N (40, a, 0)) (hl : (Cond.fieldLink RX3 index "ReplicaFiles$Log" "length" "I").before args s = true) (hdg : decode cc pc = .ok (.putfield index, 3)) {x : Int32} {β : Type} {kq : gM → Option β} {y : β} (h : lt (gset M (40, a, 0) 4 x) kq = some y) (kk : ∀ (M1 : gM) (H1 : Heap) (locs1 : List Loc), gZ D (cLay N) dA (cLive N) A reg H0 M1 H1 locs1 → kq M1 = some y → W p l e R s m args below meth c H1 locs1 cells slots Q (F0 m (pc + 3) ls rest)) : W p l e R s m args below meth c H locs cells slots Q (F0 m pc ls (.int x :: .ref (A (40, a, 0)) :: rest)) := g_pi (C := RX3) (T := TX3) (ty := .int) S X Z hin rfl tyX3 tyX3_ok nmX3 hi rfl 4 (by decide) ⟨rfl, rfl, rfl, rfl⟩ rfl hl (by decide) rfl rfl hdg h kk
theorem cn_X3_kind (S : CallFix p m c cc nL s args Ts own) (X : gX D vwCl dA (cLive N) A reg s) (Z : gZ D (cLay N) dA (cLive N) A reg H0 M H locs) (hin : ∀ w ∈ wsX30, w ∈ Ts) {a : Nat} (hi : cLive N (40, a, 0)) (hl : (Cond.fieldLinkNest own index "ReplicaFiles$Log" "kind" "[I" "ReplicaFiles").before args s = true) (hdg : decode cc pc = .ok (.getfield index, 3)) (kk : W p l e R s m args below meth c H locs cells slots Q (F0 m (pc + 3) ls (.ref (A (41, a, 0)) :: rest))) : W p l e R s m args below meth c H locs cells slots Q (F0 m pc ls (.ref (A (40, a, 0)) :: rest)) := g_grN (C := RX3) (T := TX3) S X Z hin rfl hi rfl 0 (by decide) ⟨rfl, rfl, rfl⟩ rfl hl hdg kk
theorem cn_X3_object (S : CallFix p m c cc nL s args Ts own) (X : gX D vwCl dA (cLive N) A reg s) (Z : gZ D (cLay N) dA (cLive N) A reg H0 M H locs) (hin : ∀ w ∈ wsX30, w ∈ Ts) {a : Nat} (hi : cLive N (40, a, 0)) (hl : (Cond.fieldLinkNest own index "ReplicaFiles$Log" "object" "[I" "ReplicaFiles").before args s = true) (hdg : decode cc pc = .ok (.getfield index, 3)) (kk : W p l e R s m args below meth c H locs cells slots Q (F0 m (pc + 3) ls (.ref (A (42, a, 0)) :: rest))) : W p l e R s m args below meth c H locs cells slots Q (F0 m pc ls (.ref (A (40, a, 0)) :: rest)) := g_grN (C := RX3) (T := TX3) S X Z hin rfl hi rfl 1 (by decide) ⟨rfl, rfl, rfl⟩ rfl hl hdg kk
theorem cn_X3_directory (S : CallFix p m c cc nL s args Ts own) (X : gX D vwCl dA (cLive N) A reg s) (Z : gZ D (cLay N) dA (cLive N) A reg H0 M H locs) (hin : ∀ w ∈ wsX30, w ∈ Ts) {a : Nat} (hi : cLive N (40, a, 0)) (hl : (Cond.fieldLinkNest own index "ReplicaFiles$Log" "directory" "[I" "ReplicaFiles").before args s = true) (hdg : decode cc pc = .ok (.getfield index, 3)) (kk : W p l e R s m args below meth c H locs cells slots Q (F0 m (pc + 3) ls (.ref (A (43, a, 0)) :: rest))) : W p l e R s m args below meth c H locs cells slots Q (F0 m pc ls (.ref (A (40, a, 0)) :: rest)) := g_grN (C := RX3) (T := TX3) S X Z hin rfl hi rfl 2 (by decide) ⟨rfl, rfl, rfl⟩ rfl hl hdg kk
theorem cn_X3_counts (S : CallFix p m c cc nL s args Ts own) (X : gX D vwCl dA (cLive N) A reg s) (Z : gZ D (cLay N) dA (cLive N) A reg H0 M H locs) (hin : ∀ w ∈ wsX30, w ∈ Ts) {a : Nat} (hi : cLive N (40, a, 0)) (hl : (Cond.fieldLinkNest own index "ReplicaFiles$Log" "counts" "[[I" "ReplicaFiles").before args s = true) (hdg : decode cc pc = .ok (.getfield index, 3)) (kk : W p l e R s m args below meth c H locs cells slots Q (F0 m (pc + 3) ls (.ref (A (44, a, 0)) :: rest))) : W p l e R s m args below meth c H locs cells slots Q (F0 m pc ls (.ref (A (40, a, 0)) :: rest)) := g_grN (C := RX3) (T := TX3) S X Z hin rfl hi rfl 3 (by decide) ⟨rfl, rfl, rfl⟩ rfl hl hdg kk
theorem cn_X3_length (S : CallFix p m c cc nL s args Ts own) (X : gX D vwCl dA (cLive N) A reg s) (Z : gZ D (cLay N) dA (cLive N) A reg H0 M H locs) (hin : ∀ w ∈ wsX30, w ∈ Ts) {a : Nat} (hi : cLive N (40, a, 0)) (hl : (Cond.fieldLinkNest own index "ReplicaFiles$Log" "length" "I" "ReplicaFiles").before args s = true) (hdg : decode cc pc = .ok (.getfield index, 3)) {β : Type} {kq : Int32 → Option β} {y : β} (h : lt (M (40, a, 0) 4) kq = some y) (kk : ∀ v : Int32, kq v = some y → W p l e R s m args below meth c H locs cells slots Q (F0 m (pc + 3) ls (.int v :: rest))) : W p l e R s m args below meth c H locs cells slots Q (F0 m pc ls (.ref (A (40, a, 0)) :: rest)) := g_giN (C := RX3) (T := TX3) S X Z hin rfl hi rfl 4 (by decide) ⟨rfl, rfl, rfl⟩ rfl hl hdg (kk _ h)
theorem cq_X3_length (S : CallFix p m c cc nL s args Ts own) (X : gX D vwCl dA (cLive N) A reg s) (Z : gZ D (cLay N) dA (cLive N) A reg H0 M H locs) (hin : ∀ w ∈ wsX30, w ∈ Ts) {a : Nat} (hi : cLive N (40, a, 0)) (hl : (Cond.fieldLinkNest own index "ReplicaFiles$Log" "length" "I" "ReplicaFiles").before args s = true) (hdg : decode cc pc = .ok (.putfield index, 3)) {x : Int32} {β : Type} {kq : gM → Option β} {y : β} (h : lt (gset M (40, a, 0) 4 x) kq = some y) (kk : ∀ (M1 : gM) (H1 : Heap) (locs1 : List Loc), gZ D (cLay N) dA (cLive N) A reg H0 M1 H1 locs1 → kq M1 = some y → W p l e R s m args below meth c H1 locs1 cells slots Q (F0 m (pc + 3) ls rest)) : W p l e R s m args below meth c H locs cells slots Q (F0 m pc ls (.int x :: .ref (A (40, a, 0)) :: rest)) := g_piN (C := RX3) (T := TX3) (ty := .int) S X Z hin rfl tyX3 tyX3_ok nmX3 hi rfl 4 (by decide) ⟨rfl, rfl, rfl, rfl⟩ rfl hl (by decide) rfl rfl hdg h kk
theorem cr_X8_catalog (S : CallFix p m c cc nL s args Ts RX8) (X : gX D vwCl dA (cLive N) A reg s) (Z : gZ D (cLay N) dA (cLive N) A reg H0 M H locs) (hin : ∀ w ∈ wsX80, w ∈ Ts) {a : Nat} (hi : cLive N (50, a, 0)) (hl : (Cond.fieldLink RX8 index "ReplicaFiles$Tree" "catalog" "LReplicaFiles$Catalog;").before args s = true) (hdg : decode cc pc = .ok (.getfield index, 3)) (kk : W p l e R s m args below meth c H locs cells slots Q (F0 m (pc + 3) ls (.ref (A (1, 0, 0)) :: rest))) : W p l e R s m args below meth c H locs cells slots Q (F0 m pc ls (.ref (A (50, a, 0)) :: rest)) := g_gr (C := RX8) (T := TX8) S X Z hin rfl hi rfl 0 (by decide) ⟨rfl, rfl, rfl⟩ rfl hl hdg kk
theorem cr_X8_held (S : CallFix p m c cc nL s args Ts RX8) (X : gX D vwCl dA (cLive N) A reg s) (Z : gZ D (cLay N) dA (cLive N) A reg H0 M H locs) (hin : ∀ w ∈ wsX80, w ∈ Ts) {a : Nat} (hi : cLive N (50, a, 0)) (hl : (Cond.fieldLink RX8 index "ReplicaFiles$Tree" "held" "[Z").before args s = true) (hdg : decode cc pc = .ok (.getfield index, 3)) (kk : W p l e R s m args below meth c H locs cells slots Q (F0 m (pc + 3) ls (.ref (A (51, a, 0)) :: rest))) : W p l e R s m args below meth c H locs cells slots Q (F0 m pc ls (.ref (A (50, a, 0)) :: rest)) := g_gr (C := RX8) (T := TX8) S X Z hin rfl hi rfl 1 (by decide) ⟨rfl, rfl, rfl⟩ rfl hl hdg kk
theorem cr_X8_value (S : CallFix p m c cc nL s args Ts RX8) (X : gX D vwCl dA (cLive N) A reg s) (Z : gZ D (cLay N) dA (cLive N) A reg H0 M H locs) (hin : ∀ w ∈ wsX80, w ∈ Ts) {a : Nat} (hi : cLive N (50, a, 0)) (hl : (Cond.fieldLink RX8 index "ReplicaFiles$Tree" "value" "[I").before args s = true) (hdg : decode cc pc = .ok (.getfield index, 3)) (kk : W p l e R s m args below meth c H locs cells slots Q (F0 m (pc + 3) ls (.ref (A (52, a, 0)) :: rest))) : W p l e R s m args below meth c H locs cells slots Q (F0 m pc ls (.ref (A (50, a, 0)) :: rest)) := g_gr (C := RX8) (T := TX8) S X Z hin rfl hi rfl 2 (by decide) ⟨rfl, rfl, rfl⟩ rfl hl hdg kk
theorem cr_X8_size (S : CallFix p m c cc nL s args Ts RX8) (X : gX D vwCl dA (cLive N) A reg s) (Z : gZ D (cLay N) dA (cLive N) A reg H0 M H locs) (hin : ∀ w ∈ wsX80, w ∈ Ts) {a : Nat} (hi : cLive N (50, a, 0)) (hl : (Cond.fieldLink RX8 index "ReplicaFiles$Tree" "size" "[I").before args s = true) (hdg : decode cc pc = .ok (.getfield index, 3)) (kk : W p l e R s m args below meth c H locs cells slots Q (F0 m (pc + 3) ls (.ref (A (53, a, 0)) :: rest))) : W p l e R s m args below meth c H locs cells slots Q (F0 m pc ls (.ref (A (50, a, 0)) :: rest)) := g_gr (C := RX8) (T := TX8) S X Z hin rfl hi rfl 3 (by decide) ⟨rfl, rfl, rfl⟩ rfl hl hdg kk
theorem cr_X8_counts (S : CallFix p m c cc nL s args Ts RX8) (X : gX D vwCl dA (cLive N) A reg s) (Z : gZ D (cLay N) dA (cLive N) A reg H0 M H locs) (hin : ∀ w ∈ wsX80, w ∈ Ts) {a : Nat} (hi : cLive N (50, a, 0)) (hl : (Cond.fieldLink RX8 index "ReplicaFiles$Tree" "counts" "[[I").before args s = true) (hdg : decode cc pc = .ok (.getfield index, 3)) (kk : W p l e R s m args below meth c H locs cells slots Q (F0 m (pc + 3) ls (.ref (A (54, a, 0)) :: rest))) : W p l e R s m args below meth c H locs cells slots Q (F0 m pc ls (.ref (A (50, a, 0)) :: rest)) := g_gr (C := RX8) (T := TX8) S X Z hin rfl hi rfl 4 (by decide) ⟨rfl, rfl, rfl⟩ rfl hl hdg kk
theorem cr_X8_state (S : CallFix p m c cc nL s args Ts RX8) (X : gX D vwCl dA (cLive N) A reg s) (Z : gZ D (cLay N) dA (cLive N) A reg H0 M H locs) (hin : ∀ w ∈ wsX80, w ∈ Ts) {a : Nat} (hi : cLive N (50, a, 0)) (hl : (Cond.fieldLink RX8 index "ReplicaFiles$Tree" "state" "[I").before args s = true) (hdg : decode cc pc = .ok (.getfield index, 3)) (kk : W p l e R s m args below meth c H locs cells slots Q (F0 m (pc + 3) ls (.ref (A (56, a, 0)) :: rest))) : W p l e R s m args below meth c H locs cells slots Q (F0 m pc ls (.ref (A (50, a, 0)) :: rest)) := g_gr (C := RX8) (T := TX8) S X Z hin rfl hi rfl 5 (by decide) ⟨rfl, rfl, rfl⟩ rfl hl hdg kk
theorem cr_X8_goneCounts (S : CallFix p m c cc nL s args Ts RX8) (X : gX D vwCl dA (cLive N) A reg s) (Z : gZ D (cLay N) dA (cLive N) A reg H0 M H locs) (hin : ∀ w ∈ wsX80, w ∈ Ts) {a : Nat} (hi : cLive N (50, a, 0)) (hl : (Cond.fieldLink RX8 index "ReplicaFiles$Tree" "goneCounts" "[[I").before args s = true) (hdg : decode cc pc = .ok (.getfield index, 3)) (kk : W p l e R s m args below meth c H locs cells slots Q (F0 m (pc + 3) ls (.ref (A (57, a, 0)) :: rest))) : W p l e R s m args below meth c H locs cells slots Q (F0 m pc ls (.ref (A (50, a, 0)) :: rest)) := g_gr (C := RX8) (T := TX8) S X Z hin rfl hi rfl 6 (by decide) ⟨rfl, rfl, rfl⟩ rfl hl hdg kk
theorem cn_X8_catalog (S : CallFix p m c cc nL s args Ts own) (X : gX D vwCl dA (cLive N) A reg s) (Z : gZ D (cLay N) dA (cLive N) A reg H0 M H locs) (hin : ∀ w ∈ wsX80, w ∈ Ts) {a : Nat} (hi : cLive N (50, a, 0)) (hl : (Cond.fieldLinkNest own index "ReplicaFiles$Tree" "catalog" "LReplicaFiles$Catalog;" "ReplicaFiles").before args s = true) (hdg : decode cc pc = .ok (.getfield index, 3)) (kk : W p l e R s m args below meth c H locs cells slots Q (F0 m (pc + 3) ls (.ref (A (1, 0, 0)) :: rest))) : W p l e R s m args below meth c H locs cells slots Q (F0 m pc ls (.ref (A (50, a, 0)) :: rest)) := g_grN (C := RX8) (T := TX8) S X Z hin rfl hi rfl 0 (by decide) ⟨rfl, rfl, rfl⟩ rfl hl hdg kk
theorem cn_X8_held (S : CallFix p m c cc nL s args Ts own) (X : gX D vwCl dA (cLive N) A reg s) (Z : gZ D (cLay N) dA (cLive N) A reg H0 M H locs) (hin : ∀ w ∈ wsX80, w ∈ Ts) {a : Nat} (hi : cLive N (50, a, 0)) (hl : (Cond.fieldLinkNest own index "ReplicaFiles$Tree" "held" "[Z" "ReplicaFiles").before args s = true) (hdg : decode cc pc = .ok (.getfield index, 3)) (kk : W p l e R s m args below meth c H locs cells slots Q (F0 m (pc + 3) ls (.ref (A (51, a, 0)) :: rest))) : W p l e R s m args below meth c H locs cells slots Q (F0 m pc ls (.ref (A (50, a, 0)) :: rest)) := g_grN (C := RX8) (T := TX8) S X Z hin rfl hi rfl 1 (by decide) ⟨rfl, rfl, rfl⟩ rfl hl hdg kk
theorem cn_X8_value (S : CallFix p m c cc nL s args Ts own) (X : gX D vwCl dA (cLive N) A reg s) (Z : gZ D (cLay N) dA (cLive N) A reg H0 M H locs) (hin : ∀ w ∈ wsX80, w ∈ Ts) {a : Nat} (hi : cLive N (50, a, 0)) (hl : (Cond.fieldLinkNest own index "ReplicaFiles$Tree" "value" "[I" "ReplicaFiles").before args s = true) (hdg : decode cc pc = .ok (.getfield index, 3)) (kk : W p l e R s m args below meth c H locs cells slots Q (F0 m (pc + 3) ls (.ref (A (52, a, 0)) :: rest))) : W p l e R s m args below meth c H locs cells slots Q (F0 m pc ls (.ref (A (50, a, 0)) :: rest)) := g_grN (C := RX8) (T := TX8) S X Z hin rfl hi rfl 2 (by decide) ⟨rfl, rfl, rfl⟩ rfl hl hdg kk
theorem cn_X8_size (S : CallFix p m c cc nL s args Ts own) (X : gX D vwCl dA (cLive N) A reg s) (Z : gZ D (cLay N) dA (cLive N) A reg H0 M H locs) (hin : ∀ w ∈ wsX80, w ∈ Ts) {a : Nat} (hi : cLive N (50, a, 0)) (hl : (Cond.fieldLinkNest own index "ReplicaFiles$Tree" "size" "[I" "ReplicaFiles").before args s = true) (hdg : decode cc pc = .ok (.getfield index, 3)) (kk : W p l e R s m args below meth c H locs cells slots Q (F0 m (pc + 3) ls (.ref (A (53, a, 0)) :: rest))) : W p l e R s m args below meth c H locs cells slots Q (F0 m pc ls (.ref (A (50, a, 0)) :: rest)) := g_grN (C := RX8) (T := TX8) S X Z hin rfl hi rfl 3 (by decide) ⟨rfl, rfl, rfl⟩ rfl hl hdg kk
theorem cn_X8_counts (S : CallFix p m c cc nL s args Ts own) (X : gX D vwCl dA (cLive N) A reg s) (Z : gZ D (cLay N) dA (cLive N) A reg H0 M H locs) (hin : ∀ w ∈ wsX80, w ∈ Ts) {a : Nat} (hi : cLive N (50, a, 0)) (hl : (Cond.fieldLinkNest own index "ReplicaFiles$Tree" "counts" "[[I" "ReplicaFiles").before args s = true) (hdg : decode cc pc = .ok (.getfield index, 3)) (kk : W p l e R s m args below meth c H locs cells slots Q (F0 m (pc + 3) ls (.ref (A (54, a, 0)) :: rest))) : W p l e R s m args below meth c H locs cells slots Q (F0 m pc ls (.ref (A (50, a, 0)) :: rest)) := g_grN (C := RX8) (T := TX8) S X Z hin rfl hi rfl 4 (by decide) ⟨rfl, rfl, rfl⟩ rfl hl hdg kk
theorem cn_X8_state (S : CallFix p m c cc nL s args Ts own) (X : gX D vwCl dA (cLive N) A reg s) (Z : gZ D (cLay N) dA (cLive N) A reg H0 M H locs) (hin : ∀ w ∈ wsX80, w ∈ Ts) {a : Nat} (hi : cLive N (50, a, 0)) (hl : (Cond.fieldLinkNest own index "ReplicaFiles$Tree" "state" "[I" "ReplicaFiles").before args s = true) (hdg : decode cc pc = .ok (.getfield index, 3)) (kk : W p l e R s m args below meth c H locs cells slots Q (F0 m (pc + 3) ls (.ref (A (56, a, 0)) :: rest))) : W p l e R s m args below meth c H locs cells slots Q (F0 m pc ls (.ref (A (50, a, 0)) :: rest)) := g_grN (C := RX8) (T := TX8) S X Z hin rfl hi rfl 5 (by decide) ⟨rfl, rfl, rfl⟩ rfl hl hdg kk
theorem cn_X8_goneCounts (S : CallFix p m c cc nL s args Ts own) (X : gX D vwCl dA (cLive N) A reg s) (Z : gZ D (cLay N) dA (cLive N) A reg H0 M H locs) (hin : ∀ w ∈ wsX80, w ∈ Ts) {a : Nat} (hi : cLive N (50, a, 0)) (hl : (Cond.fieldLinkNest own index "ReplicaFiles$Tree" "goneCounts" "[[I" "ReplicaFiles").before args s = true) (hdg : decode cc pc = .ok (.getfield index, 3)) (kk : W p l e R s m args below meth c H locs cells slots Q (F0 m (pc + 3) ls (.ref (A (57, a, 0)) :: rest))) : W p l e R s m args below meth c H locs cells slots Q (F0 m pc ls (.ref (A (50, a, 0)) :: rest)) := g_grN (C := RX8) (T := TX8) S X Z hin rfl hi rfl 6 (by decide) ⟨rfl, rfl, rfl⟩ rfl hl hdg kk
theorem cr_X9_value (S : CallFix p m c cc nL s args Ts RX9) (X : gX D vwCl dA (cLive N) A reg s) (Z : gZ D (cLay N) dA (cLive N) A reg H0 M H locs) (hin : ∀ w ∈ wsX90, w ∈ Ts) {a : Nat} (hi : cLive N (60, a, 0)) (hl : (Cond.fieldLink RX9 index "ReplicaFiles$Versions" "value" "[I").before args s = true) (hdg : decode cc pc = .ok (.getfield index, 3)) (kk : W p l e R s m args below meth c H locs cells slots Q (F0 m (pc + 3) ls (.ref (A (61, a, 0)) :: rest))) : W p l e R s m args below meth c H locs cells slots Q (F0 m pc ls (.ref (A (60, a, 0)) :: rest)) := g_gr (C := RX9) (T := TX9) S X Z hin rfl hi rfl 0 (by decide) ⟨rfl, rfl, rfl⟩ rfl hl hdg kk
theorem cr_X9_size (S : CallFix p m c cc nL s args Ts RX9) (X : gX D vwCl dA (cLive N) A reg s) (Z : gZ D (cLay N) dA (cLive N) A reg H0 M H locs) (hin : ∀ w ∈ wsX90, w ∈ Ts) {a : Nat} (hi : cLive N (60, a, 0)) (hl : (Cond.fieldLink RX9 index "ReplicaFiles$Versions" "size" "[I").before args s = true) (hdg : decode cc pc = .ok (.getfield index, 3)) (kk : W p l e R s m args below meth c H locs cells slots Q (F0 m (pc + 3) ls (.ref (A (62, a, 0)) :: rest))) : W p l e R s m args below meth c H locs cells slots Q (F0 m pc ls (.ref (A (60, a, 0)) :: rest)) := g_gr (C := RX9) (T := TX9) S X Z hin rfl hi rfl 1 (by decide) ⟨rfl, rfl, rfl⟩ rfl hl hdg kk
theorem cr_X9_counts (S : CallFix p m c cc nL s args Ts RX9) (X : gX D vwCl dA (cLive N) A reg s) (Z : gZ D (cLay N) dA (cLive N) A reg H0 M H locs) (hin : ∀ w ∈ wsX90, w ∈ Ts) {a : Nat} (hi : cLive N (60, a, 0)) (hl : (Cond.fieldLink RX9 index "ReplicaFiles$Versions" "counts" "[[I").before args s = true) (hdg : decode cc pc = .ok (.getfield index, 3)) (kk : W p l e R s m args below meth c H locs cells slots Q (F0 m (pc + 3) ls (.ref (A (63, a, 0)) :: rest))) : W p l e R s m args below meth c H locs cells slots Q (F0 m pc ls (.ref (A (60, a, 0)) :: rest)) := g_gr (C := RX9) (T := TX9) S X Z hin rfl hi rfl 2 (by decide) ⟨rfl, rfl, rfl⟩ rfl hl hdg kk
theorem cr_X9_length (S : CallFix p m c cc nL s args Ts RX9) (X : gX D vwCl dA (cLive N) A reg s) (Z : gZ D (cLay N) dA (cLive N) A reg H0 M H locs) (hin : ∀ w ∈ wsX90, w ∈ Ts) {a : Nat} (hi : cLive N (60, a, 0)) (hl : (Cond.fieldLink RX9 index "ReplicaFiles$Versions" "length" "I").before args s = true) (hdg : decode cc pc = .ok (.getfield index, 3)) {β : Type} {kq : Int32 → Option β} {y : β} (h : lt (M (60, a, 0) 3) kq = some y) (kk : ∀ v : Int32, kq v = some y → W p l e R s m args below meth c H locs cells slots Q (F0 m (pc + 3) ls (.int v :: rest))) : W p l e R s m args below meth c H locs cells slots Q (F0 m pc ls (.ref (A (60, a, 0)) :: rest)) := g_gi (C := RX9) (T := TX9) S X Z hin rfl hi rfl 3 (by decide) ⟨rfl, rfl, rfl⟩ rfl hl hdg (kk _ h)
theorem cp_X9_length (S : CallFix p m c cc nL s args Ts RX9) (X : gX D vwCl dA (cLive N) A reg s) (Z : gZ D (cLay N) dA (cLive N) A reg H0 M H locs) (hin : ∀ w ∈ wsX90, w ∈ Ts) {a : Nat} (hi : cLive N (60, a, 0)) (hl : (Cond.fieldLink RX9 index "ReplicaFiles$Versions" "length" "I").before args s = true) (hdg : decode cc pc = .ok (.putfield index, 3)) {x : Int32} {β : Type} {kq : gM → Option β} {y : β} (h : lt (gset M (60, a, 0) 3 x) kq = some y) (kk : ∀ (M1 : gM) (H1 : Heap) (locs1 : List Loc), gZ D (cLay N) dA (cLive N) A reg H0 M1 H1 locs1 → kq M1 = some y → W p l e R s m args below meth c H1 locs1 cells slots Q (F0 m (pc + 3) ls rest)) : W p l e R s m args below meth c H locs cells slots Q (F0 m pc ls (.int x :: .ref (A (60, a, 0)) :: rest)) := g_pi (C := RX9) (T := TX9) (ty := .int) S X Z hin rfl tyX9 tyX9_ok nmX9 hi rfl 3 (by decide) ⟨rfl, rfl, rfl, rfl⟩ rfl hl (by decide) rfl rfl hdg h kk
theorem cn_X9_value (S : CallFix p m c cc nL s args Ts own) (X : gX D vwCl dA (cLive N) A reg s) (Z : gZ D (cLay N) dA (cLive N) A reg H0 M H locs) (hin : ∀ w ∈ wsX90, w ∈ Ts) {a : Nat} (hi : cLive N (60, a, 0)) (hl : (Cond.fieldLinkNest own index "ReplicaFiles$Versions" "value" "[I" "ReplicaFiles").before args s = true) (hdg : decode cc pc = .ok (.getfield index, 3)) (kk : W p l e R s m args below meth c H locs cells slots Q (F0 m (pc + 3) ls (.ref (A (61, a, 0)) :: rest))) : W p l e R s m args below meth c H locs cells slots Q (F0 m pc ls (.ref (A (60, a, 0)) :: rest)) := g_grN (C := RX9) (T := TX9) S X Z hin rfl hi rfl 0 (by decide) ⟨rfl, rfl, rfl⟩ rfl hl hdg kk
theorem cn_X9_size (S : CallFix p m c cc nL s args Ts own) (X : gX D vwCl dA (cLive N) A reg s) (Z : gZ D (cLay N) dA (cLive N) A reg H0 M H locs) (hin : ∀ w ∈ wsX90, w ∈ Ts) {a : Nat} (hi : cLive N (60, a, 0)) (hl : (Cond.fieldLinkNest own index "ReplicaFiles$Versions" "size" "[I" "ReplicaFiles").before args s = true) (hdg : decode cc pc = .ok (.getfield index, 3)) (kk : W p l e R s m args below meth c H locs cells slots Q (F0 m (pc + 3) ls (.ref (A (62, a, 0)) :: rest))) : W p l e R s m args below meth c H locs cells slots Q (F0 m pc ls (.ref (A (60, a, 0)) :: rest)) := g_grN (C := RX9) (T := TX9) S X Z hin rfl hi rfl 1 (by decide) ⟨rfl, rfl, rfl⟩ rfl hl hdg kk
theorem cn_X9_counts (S : CallFix p m c cc nL s args Ts own) (X : gX D vwCl dA (cLive N) A reg s) (Z : gZ D (cLay N) dA (cLive N) A reg H0 M H locs) (hin : ∀ w ∈ wsX90, w ∈ Ts) {a : Nat} (hi : cLive N (60, a, 0)) (hl : (Cond.fieldLinkNest own index "ReplicaFiles$Versions" "counts" "[[I" "ReplicaFiles").before args s = true) (hdg : decode cc pc = .ok (.getfield index, 3)) (kk : W p l e R s m args below meth c H locs cells slots Q (F0 m (pc + 3) ls (.ref (A (63, a, 0)) :: rest))) : W p l e R s m args below meth c H locs cells slots Q (F0 m pc ls (.ref (A (60, a, 0)) :: rest)) := g_grN (C := RX9) (T := TX9) S X Z hin rfl hi rfl 2 (by decide) ⟨rfl, rfl, rfl⟩ rfl hl hdg kk
theorem cn_X9_length (S : CallFix p m c cc nL s args Ts own) (X : gX D vwCl dA (cLive N) A reg s) (Z : gZ D (cLay N) dA (cLive N) A reg H0 M H locs) (hin : ∀ w ∈ wsX90, w ∈ Ts) {a : Nat} (hi : cLive N (60, a, 0)) (hl : (Cond.fieldLinkNest own index "ReplicaFiles$Versions" "length" "I" "ReplicaFiles").before args s = true) (hdg : decode cc pc = .ok (.getfield index, 3)) {β : Type} {kq : Int32 → Option β} {y : β} (h : lt (M (60, a, 0) 3) kq = some y) (kk : ∀ v : Int32, kq v = some y → W p l e R s m args below meth c H locs cells slots Q (F0 m (pc + 3) ls (.int v :: rest))) : W p l e R s m args below meth c H locs cells slots Q (F0 m pc ls (.ref (A (60, a, 0)) :: rest)) := g_giN (C := RX9) (T := TX9) S X Z hin rfl hi rfl 3 (by decide) ⟨rfl, rfl, rfl⟩ rfl hl hdg (kk _ h)
theorem cq_X9_length (S : CallFix p m c cc nL s args Ts own) (X : gX D vwCl dA (cLive N) A reg s) (Z : gZ D (cLay N) dA (cLive N) A reg H0 M H locs) (hin : ∀ w ∈ wsX90, w ∈ Ts) {a : Nat} (hi : cLive N (60, a, 0)) (hl : (Cond.fieldLinkNest own index "ReplicaFiles$Versions" "length" "I" "ReplicaFiles").before args s = true) (hdg : decode cc pc = .ok (.putfield index, 3)) {x : Int32} {β : Type} {kq : gM → Option β} {y : β} (h : lt (gset M (60, a, 0) 3 x) kq = some y) (kk : ∀ (M1 : gM) (H1 : Heap) (locs1 : List Loc), gZ D (cLay N) dA (cLive N) A reg H0 M1 H1 locs1 → kq M1 = some y → W p l e R s m args below meth c H1 locs1 cells slots Q (F0 m (pc + 3) ls rest)) : W p l e R s m args below meth c H locs cells slots Q (F0 m pc ls (.int x :: .ref (A (60, a, 0)) :: rest)) := g_piN (C := RX9) (T := TX9) (ty := .int) S X Z hin rfl tyX9 tyX9_ok nmX9 hi rfl 3 (by decide) ⟨rfl, rfl, rfl, rfl⟩ rfl hl (by decide) rfl rfl hdg h kk
end CR
