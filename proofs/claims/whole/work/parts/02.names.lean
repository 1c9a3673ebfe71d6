def RX0 : String := "TentMiddle$Camp"
def TX0 : u_T := fun k => match k with
  | 0 => ("TentMiddle$Camp", "cold", "[I", true)
  | 1 => ("TentMiddle$Camp", "kind", "[I", true)
  | 2 => ("TentMiddle$Camp", "gives", "[I", true)
  | 3 => ("TentMiddle$Camp", "bag", "[I", true)
  | 4 => ("TentMiddle$Camp", "place", "[I", true)
  | 5 => ("TentMiddle$Camp", "who", "[I", true)
  | 6 => ("TentMiddle$Camp", "trulySlept", "[I", true)
  | 7 => ("TentMiddle$Camp", "trulyAtRim", "[I", true)
  | 8 => ("TentMiddle$Camp", "calm", "[I", true)
  | 9 => ("TentMiddle$Camp", "past", "[I", true)
  | 10 => ("TentMiddle$Camp", "size", "I", false)
  | 11 => ("TentMiddle$Camp", "vent", "I", false)
  | 12 => ("TentMiddle$Camp", "bottle", "I", false)
  | 13 => ("TentMiddle$Camp", "turns", "I", false)
  | 14 => ("TentMiddle$Camp", "hour", "I", false)
  | 15 => ("TentMiddle$Camp", "night", "I", false)
  | _ => ("TentMiddle$Camp", "hours", "I", false)
def tyX0 : Nat → FieldType := fun k => match k with
  | 0 => .array .int
  | 1 => .array .int
  | 2 => .array .int
  | 3 => .array .int
  | 4 => .array .int
  | 5 => .array .int
  | 6 => .array .int
  | 7 => .array .int
  | 8 => .array .int
  | 9 => .array .int
  | 10 => .int
  | 11 => .int
  | 12 => .int
  | 13 => .int
  | 14 => .int
  | 15 => .int
  | _ => .int
theorem nmX0 : ∀ a, a < 17 → ∀ b, b < 17 → a ≠ b → (TX0 a).2.1 ≠ (TX0 b).2.1 := by decide +kernel
theorem tyX0_ok : ∀ k, k < 17 → parseFieldDescriptor (TX0 k).2.2.1 = some (tyX0 k) := by decide +kernel
def RX1 : String := "TentMiddle$Orders"
def TX1 : u_T := fun k => match k with
  | 0 => ("TentMiddle$Orders", "order", "[I", true)
  | _ => ("TentMiddle$Orders", "size", "I", false)
def tyX1 : Nat → FieldType := fun k => match k with
  | 0 => .array .int
  | _ => .int
theorem nmX1 : ∀ a, a < 2 → ∀ b, b < 2 → a ≠ b → (TX1 a).2.1 ≠ (TX1 b).2.1 := by decide +kernel
theorem tyX1_ok : ∀ k, k < 2 → parseFieldDescriptor (TX1 k).2.2.1 = some (tyX1 k) := by decide +kernel
def RX2 : String := "TentMiddle$Plan"
def TX2 : u_T := fun k => match k with
  | 0 => ("TentMiddle$Plan", "numbers", "[I", true)
  | 1 => ("TentMiddle$Plan", "lines", "[I", true)
  | 2 => ("TentMiddle$Plan", "mostOf", "[I", true)
  | 3 => ("TentMiddle$Plan", "sums", "[I", true)
  | 4 => ("TentMiddle$Plan", "chosen", "[I", true)
  | 5 => ("TentMiddle$Plan", "best", "[I", true)
  | 6 => ("TentMiddle$Plan", "bestLeast", "I", false)
  | 7 => ("TentMiddle$Plan", "many", "I", false)
  | _ => ("TentMiddle$Plan", "size", "I", false)
def tyX2 : Nat → FieldType := fun k => match k with
  | 0 => .array .int
  | 1 => .array .int
  | 2 => .array .int
  | 3 => .array .int
  | 4 => .array .int
  | 5 => .array .int
  | 6 => .int
  | 7 => .int
  | _ => .int
theorem nmX2 : ∀ a, a < 9 → ∀ b, b < 9 → a ≠ b → (TX2 a).2.1 ≠ (TX2 b).2.1 := by decide +kernel
theorem tyX2_ok : ∀ k, k < 9 → parseFieldDescriptor (TX2 k).2.2.1 = some (tyX2 k) := by decide +kernel
def RX3 : String := "TentMiddle$Reader"
def TX3 : u_T := fun k => match k with
  | 0 => ("TentMiddle$Reader", "camp", "LTentMiddle$Camp;", true)
  | 1 => ("TentMiddle$Reader", "signs", "[I", true)
  | 2 => ("TentMiddle$Reader", "size", "I", false)
  | _ => ("TentMiddle$Reader", "next", "I", false)
def tyX3 : Nat → FieldType := fun k => match k with
  | 0 => .object "TentMiddle$Camp"
  | 1 => .array .int
  | 2 => .int
  | _ => .int
theorem nmX3 : ∀ a, a < 4 → ∀ b, b < 4 → a ≠ b → (TX3 a).2.1 ≠ (TX3 b).2.1 := by decide +kernel
theorem tyX3_ok : ∀ k, k < 4 → parseFieldDescriptor (TX3 k).2.2.1 = some (tyX3 k) := by decide +kernel
def RX4 : String := "TentMiddle$Shelf"
def TX4 : u_T := fun k => match k with
  | 0 => ("TentMiddle$Shelf", "limit", "I", true)
  | 1 => ("TentMiddle$Shelf", "sizes", "[I", true)
  | _ => ("TentMiddle$Shelf", "cells", "[I", true)
def tyX4 : Nat → FieldType := fun k => match k with
  | 0 => .int
  | 1 => .array .int
  | _ => .array .int
theorem nmX4 : ∀ a, a < 3 → ∀ b, b < 3 → a ≠ b → (TX4 a).2.1 ≠ (TX4 b).2.1 := by decide +kernel
theorem tyX4_ok : ∀ k, k < 3 → parseFieldDescriptor (TX4 k).2.2.1 = some (tyX4 k) := by decide +kernel
def RX5 : String := "TentMiddle"
def TX5 : u_T := fun k => match k with
  | 0 => ("TentMiddle", "rows", "LTentMiddle$Shelf;", true)
  | 1 => ("TentMiddle", "texts", "LTentMiddle$Shelf;", true)
  | 2 => ("TentMiddle", "camp", "LTentMiddle$Camp;", true)
  | 3 => ("TentMiddle", "kept", "[LTentMiddle$Camp;", true)
  | 4 => ("TentMiddle", "trial", "LTentMiddle$Camp;", true)
  | 5 => ("TentMiddle", "reader", "LTentMiddle$Reader;", true)
  | 6 => ("TentMiddle", "orders", "LTentMiddle$Orders;", true)
  | 7 => ("TentMiddle", "plan", "LTentMiddle$Plan;", true)
  | 8 => ("TentMiddle", "findingCounts", "[I", true)
  | 9 => ("TentMiddle", "lastFinding", "I", false)
  | 10 => ("TentMiddle", "told", "I", false)
  | 11 => ("TentMiddle", "chanceUpper", "J", false)
  | _ => ("TentMiddle", "chanceLower", "J", false)
def tyX5 : Nat → FieldType := fun k => match k with
  | 0 => .object "TentMiddle$Shelf"
  | 1 => .object "TentMiddle$Shelf"
  | 2 => .object "TentMiddle$Camp"
  | 3 => .array (.object "TentMiddle$Camp")
  | 4 => .object "TentMiddle$Camp"
  | 5 => .object "TentMiddle$Reader"
  | 6 => .object "TentMiddle$Orders"
  | 7 => .object "TentMiddle$Plan"
  | 8 => .array .int
  | 9 => .int
  | 10 => .int
  | 11 => .long
  | _ => .long
theorem nmX5 : ∀ a, a < 13 → ∀ b, b < 13 → a ≠ b → (TX5 a).2.1 ≠ (TX5 b).2.1 := by decide +kernel
theorem tyX5_ok : ∀ k, k < 13 → parseFieldDescriptor (TX5 k).2.2.1 = some (tyX5 k) := by decide +kernel
def RX6 : String := "TentMiddleModel"
def TX6 : u_T := fun k => match k with
  | 0 => ("TentMiddleModel", "tent", "[I", true)
  | 1 => ("TentMiddleModel", "sleepers", "I", false)
  | 2 => ("TentMiddleModel", "kinds", "[I", true)
  | 3 => ("TentMiddleModel", "gives", "[I", true)
  | 4 => ("TentMiddleModel", "cold", "[I", true)
  | 5 => ("TentMiddleModel", "sizes", "[I", true)
  | 6 => ("TentMiddleModel", "items", "[I", true)
  | 7 => ("TentMiddleModel", "lengths", "[I", true)
  | 8 => ("TentMiddleModel", "bytes", "[I", true)
  | 9 => ("TentMiddleModel", "asked", "I", false)
  | 10 => ("TentMiddleModel", "upper", "J", false)
  | 11 => ("TentMiddleModel", "lower", "J", false)
  | 12 => ("TentMiddleModel", "finding", "I", false)
  | 13 => ("TentMiddleModel", "findings", "[I", true)
  | 14 => ("TentMiddleModel", "from", "I", false)
  | 15 => ("TentMiddleModel", "place", "I", false)
  | 16 => ("TentMiddleModel", "end", "I", false)
  | 17 => ("TentMiddleModel", "readCold", "[I", true)
  | 18 => ("TentMiddleModel", "readSleepers", "[I", true)
  | 19 => ("TentMiddleModel", "readMany", "I", false)
  | 20 => ("TentMiddleModel", "lies", "[I", true)
  | 21 => ("TentMiddleModel", "bags", "[I", true)
  | 22 => ("TentMiddleModel", "turnSet", "I", false)
  | 23 => ("TentMiddleModel", "bottleAt", "I", false)
  | 24 => ("TentMiddleModel", "quiet", "I", false)
  | 25 => ("TentMiddleModel", "other", "I", false)
  | 26 => ("TentMiddleModel", "otherKind", "I", false)
  | 27 => ("TentMiddleModel", "order", "[I", true)
  | _ => ("TentMiddleModel", "sleptIn", "[I", true)
def tyX6 : Nat → FieldType := fun k => match k with
  | 0 => .array .int
  | 1 => .int
  | 2 => .array .int
  | 3 => .array .int
  | 4 => .array .int
  | 5 => .array .int
  | 6 => .array .int
  | 7 => .array .int
  | 8 => .array .int
  | 9 => .int
  | 10 => .long
  | 11 => .long
  | 12 => .int
  | 13 => .array .int
  | 14 => .int
  | 15 => .int
  | 16 => .int
  | 17 => .array .int
  | 18 => .array .int
  | 19 => .int
  | 20 => .array .int
  | 21 => .array .int
  | 22 => .int
  | 23 => .int
  | 24 => .int
  | 25 => .int
  | 26 => .int
  | 27 => .array .int
  | _ => .array .int
theorem nmX6 : ∀ a, a < 29 → ∀ b, b < 29 → a ≠ b → (TX6 a).2.1 ≠ (TX6 b).2.1 := by decide +kernel
theorem tyX6_ok : ∀ k, k < 29 → parseFieldDescriptor (TX6 k).2.2.1 = some (tyX6 k) := by decide +kernel
def mcl : List vw_C := [(RX0, TX0, 17), (RX1, TX1, 2), (RX2, TX2, 9), (RX3, TX3, 4), (RX4, TX4, 3), (RX5, TX5, 13), (RX6, TX6, 29)]
def tyF (a b : Nat) : FieldType × Bool := match a with
  | 0 => (tyX0 b, (TX0 b).2.2.2)
  | 1 => (tyX1 b, (TX1 b).2.2.2)
  | 2 => (tyX2 b, (TX2 b).2.2.2)
  | 3 => (tyX3 b, (TX3 b).2.2.2)
  | 4 => (tyX4 b, (TX4 b).2.2.2)
  | 5 => (tyX5 b, (TX5 b).2.2.2)
  | _ => (tyX6 b, (TX6 b).2.2.2)
theorem tyF_ok {a b : Nat} {C : String} {T : u_T} {N : Nat} {f : FieldType} (h1 : mcl[a]? = some (C, T, N)) (h2 : b < N) (hf : (tyF a b).1 = f ∧ (tyF a b).2 = false) : ∃ ty0 : Nat → FieldType, (∀ k, k < N → parseFieldDescriptor (T k).2.2.1 = some (ty0 k)) ∧ (∀ a, a < N → ∀ b, b < N → a ≠ b → (T a).2.1 ≠ (T b).2.1) ∧ parseFieldDescriptor (T b).2.2.1 = some f ∧ (T b).2.2.2 = false := by
  obtain ⟨rfl, hf⟩ := hf
  match a, h1 with
  | 0, h1 => cases h1; exact ⟨tyX0, tyX0_ok, nmX0, tyX0_ok b h2, hf⟩
  | 1, h1 => cases h1; exact ⟨tyX1, tyX1_ok, nmX1, tyX1_ok b h2, hf⟩
  | 2, h1 => cases h1; exact ⟨tyX2, tyX2_ok, nmX2, tyX2_ok b h2, hf⟩
  | 3, h1 => cases h1; exact ⟨tyX3, tyX3_ok, nmX3, tyX3_ok b h2, hf⟩
  | 4, h1 => cases h1; exact ⟨tyX4, tyX4_ok, nmX4, tyX4_ok b h2, hf⟩
  | 5, h1 => cases h1; exact ⟨tyX5, tyX5_ok, nmX5, tyX5_ok b h2, hf⟩
  | 6, h1 => cases h1; exact ⟨tyX6, tyX6_ok, nmX6, tyX6_ok b h2, hf⟩
  | k + 7, h1 => cases h1
def T1 : List Cond := lw_tbl.filter goodWord
theorem T1_in {i : Nat} {w : Cond} (h : lw_tbl[i]? = some w) (g : goodWord w = true) : w ∈ T1 := List.mem_filter.mpr ⟨List.mem_of_getElem? h, g⟩
theorem T1_in1 {i : Nat} {w : Cond} (h : tables_1_1[i]? = some w) (g : goodWord w = true) : w ∈ T1 := List.mem_filter.mpr ⟨by
  show w ∈ k2_sels lw_privs ++ tables_1
  unfold tables_1
  simp only [List.mem_append]
  have := List.mem_of_getElem? h
  simp only [this, true_or, or_true], g⟩
theorem T1_in2 {i : Nat} {w : Cond} (h : tables_1_2[i]? = some w) (g : goodWord w = true) : w ∈ T1 := List.mem_filter.mpr ⟨by
  show w ∈ k2_sels lw_privs ++ tables_1
  unfold tables_1
  simp only [List.mem_append]
  have := List.mem_of_getElem? h
  simp only [this, true_or, or_true], g⟩
theorem T1_in3 {i : Nat} {w : Cond} (h : tables_1_3[i]? = some w) (g : goodWord w = true) : w ∈ T1 := List.mem_filter.mpr ⟨by
  show w ∈ k2_sels lw_privs ++ tables_1
  unfold tables_1
  simp only [List.mem_append]
  have := List.mem_of_getElem? h
  simp only [this, true_or, or_true], g⟩
theorem T1_in4 {i : Nat} {w : Cond} (h : tables_1_4[i]? = some w) (g : goodWord w = true) : w ∈ T1 := List.mem_filter.mpr ⟨by
  show w ∈ k2_sels lw_privs ++ tables_1
  unfold tables_1
  simp only [List.mem_append]
  have := List.mem_of_getElem? h
  simp only [this, true_or, or_true], g⟩
theorem T1_in5 {i : Nat} {w : Cond} (h : tables_1_5[i]? = some w) (g : goodWord w = true) : w ∈ T1 := List.mem_filter.mpr ⟨by
  show w ∈ k2_sels lw_privs ++ tables_1
  unfold tables_1
  simp only [List.mem_append]
  have := List.mem_of_getElem? h
  simp only [this, true_or, or_true], g⟩
theorem T1_in6 {i : Nat} {w : Cond} (h : tables_1_6[i]? = some w) (g : goodWord w = true) : w ∈ T1 := List.mem_filter.mpr ⟨by
  show w ∈ k2_sels lw_privs ++ tables_1
  unfold tables_1
  simp only [List.mem_append]
  have := List.mem_of_getElem? h
  simp only [this, true_or, or_true], g⟩
theorem T1_inP {i : Nat} {q : MethodName × Nat} (h : lw_privs[i]? = some q) : Cond.selects q.1.cls q.1 q.1 ∈ T1 := List.mem_filter.mpr ⟨List.mem_append_left _ (List.mem_map.mpr ⟨q, List.mem_of_getElem? h, rfl⟩), rfl⟩
set_option maxRecDepth 100000 in
theorem iX0 : ∀ w ∈ u_ws RX0 TX0 17, w ∈ T1 := by
  intro w hw
  obtain ⟨k, hk, rfl⟩ := List.mem_map.mp hw
  have hk : k < 17 := List.mem_range.mp hk
  match k, hk with
  | 0, _ => exact T1_in1 (i := 77) rfl rfl
  | 1, _ => exact T1_in1 (i := 79) rfl rfl
  | 2, _ => exact T1_in1 (i := 81) rfl rfl
  | 3, _ => exact T1_in1 (i := 83) rfl rfl
  | 4, _ => exact T1_in1 (i := 85) rfl rfl
  | 5, _ => exact T1_in1 (i := 87) rfl rfl
  | 6, _ => exact T1_in1 (i := 89) rfl rfl
  | 7, _ => exact T1_in1 (i := 91) rfl rfl
  | 8, _ => exact T1_in1 (i := 93) rfl rfl
  | 9, _ => exact T1_in1 (i := 95) rfl rfl
  | 10, _ => exact T1_in1 (i := 97) rfl rfl
  | 11, _ => exact T1_in1 (i := 99) rfl rfl
  | 12, _ => exact T1_in1 (i := 101) rfl rfl
  | 13, _ => exact T1_in1 (i := 103) rfl rfl
  | 14, _ => exact T1_in1 (i := 105) rfl rfl
  | 15, _ => exact T1_in1 (i := 107) rfl rfl
  | 16, _ => exact T1_in1 (i := 109) rfl rfl
  | k + 17, h => exact absurd h (by omega)
set_option maxRecDepth 100000 in
theorem iX1 : ∀ w ∈ u_ws RX1 TX1 2, w ∈ T1 := by
  intro w hw
  obtain ⟨k, hk, rfl⟩ := List.mem_map.mp hw
  have hk : k < 2 := List.mem_range.mp hk
  match k, hk with
  | 0, _ => exact T1_in1 (i := 144) rfl rfl
  | 1, _ => exact T1_in1 (i := 146) rfl rfl
  | k + 2, h => exact absurd h (by omega)
set_option maxRecDepth 100000 in
theorem iX2 : ∀ w ∈ u_ws RX2 TX2 9, w ∈ T1 := by
  intro w hw
  obtain ⟨k, hk, rfl⟩ := List.mem_map.mp hw
  have hk : k < 9 := List.mem_range.mp hk
  match k, hk with
  | 0, _ => exact T1_in1 (i := 164) rfl rfl
  | 1, _ => exact T1_in1 (i := 166) rfl rfl
  | 2, _ => exact T1_in1 (i := 168) rfl rfl
  | 3, _ => exact T1_in1 (i := 170) rfl rfl
  | 4, _ => exact T1_in1 (i := 172) rfl rfl
  | 5, _ => exact T1_in1 (i := 174) rfl rfl
  | 6, _ => exact T1_in1 (i := 176) rfl rfl
  | 7, _ => exact T1_in1 (i := 178) rfl rfl
  | 8, _ => exact T1_in1 (i := 180) rfl rfl
  | k + 9, h => exact absurd h (by omega)
set_option maxRecDepth 100000 in
theorem iX3 : ∀ w ∈ u_ws RX3 TX3 4, w ∈ T1 := by
  intro w hw
  obtain ⟨k, hk, rfl⟩ := List.mem_map.mp hw
  have hk : k < 4 := List.mem_range.mp hk
  match k, hk with
  | 0, _ => exact T1_in1 (i := 126) rfl rfl
  | 1, _ => exact T1_in1 (i := 128) rfl rfl
  | 2, _ => exact T1_in1 (i := 130) rfl rfl
  | 3, _ => exact T1_in1 (i := 132) rfl rfl
  | k + 4, h => exact absurd h (by omega)
set_option maxRecDepth 100000 in
theorem iX4 : ∀ w ∈ u_ws RX4 TX4 3, w ∈ T1 := by
  intro w hw
  obtain ⟨k, hk, rfl⟩ := List.mem_map.mp hw
  have hk : k < 3 := List.mem_range.mp hk
  match k, hk with
  | 0, _ => exact T1_in1 (i := 33) rfl rfl
  | 1, _ => exact T1_in1 (i := 35) rfl rfl
  | 2, _ => exact T1_in1 (i := 37) rfl rfl
  | k + 3, h => exact absurd h (by omega)
set_option maxRecDepth 100000 in
theorem iX5 : ∀ w ∈ u_ws RX5 TX5 13, w ∈ T1 := by
  intro w hw
  obtain ⟨k, hk, rfl⟩ := List.mem_map.mp hw
  have hk : k < 13 := List.mem_range.mp hk
  match k, hk with
  | 0, _ => exact T1_in1 (i := 196) rfl rfl
  | 1, _ => exact T1_in1 (i := 198) rfl rfl
  | 2, _ => exact T1_in1 (i := 200) rfl rfl
  | 3, _ => exact T1_in1 (i := 202) rfl rfl
  | 4, _ => exact T1_in1 (i := 204) rfl rfl
  | 5, _ => exact T1_in1 (i := 206) rfl rfl
  | 6, _ => exact T1_in1 (i := 208) rfl rfl
  | 7, _ => exact T1_in1 (i := 210) rfl rfl
  | 8, _ => exact T1_in1 (i := 212) rfl rfl
  | 9, _ => exact T1_in1 (i := 214) rfl rfl
  | 10, _ => exact T1_in1 (i := 216) rfl rfl
  | 11, _ => exact T1_in1 (i := 218) rfl rfl
  | 12, _ => exact T1_in1 (i := 220) rfl rfl
  | k + 13, h => exact absurd h (by omega)
set_option maxRecDepth 100000 in
theorem iX6 : ∀ w ∈ u_ws RX6 TX6 29, w ∈ T1 := by
  intro w hw
  obtain ⟨k, hk, rfl⟩ := List.mem_map.mp hw
  have hk : k < 29 := List.mem_range.mp hk
  match k, hk with
  | 0, _ => exact T1_in4 (i := 153) rfl rfl
  | 1, _ => exact T1_in4 (i := 155) rfl rfl
  | 2, _ => exact T1_in4 (i := 157) rfl rfl
  | 3, _ => exact T1_in4 (i := 159) rfl rfl
  | 4, _ => exact T1_in4 (i := 161) rfl rfl
  | 5, _ => exact T1_in4 (i := 163) rfl rfl
  | 6, _ => exact T1_in4 (i := 165) rfl rfl
  | 7, _ => exact T1_in4 (i := 167) rfl rfl
  | 8, _ => exact T1_in4 (i := 169) rfl rfl
  | 9, _ => exact T1_in4 (i := 171) rfl rfl
  | 10, _ => exact T1_in4 (i := 173) rfl rfl
  | 11, _ => exact T1_in4 (i := 175) rfl rfl
  | 12, _ => exact T1_in4 (i := 177) rfl rfl
  | 13, _ => exact T1_in4 (i := 179) rfl rfl
  | 14, _ => exact T1_in4 (i := 181) rfl rfl
  | 15, _ => exact T1_in4 (i := 183) rfl rfl
  | 16, _ => exact T1_in4 (i := 185) rfl rfl
  | 17, _ => exact T1_in4 (i := 187) rfl rfl
  | 18, _ => exact T1_in4 (i := 189) rfl rfl
  | 19, _ => exact T1_in4 (i := 191) rfl rfl
  | 20, _ => exact T1_in4 (i := 193) rfl rfl
  | 21, _ => exact T1_in4 (i := 195) rfl rfl
  | 22, _ => exact T1_in4 (i := 197) rfl rfl
  | 23, _ => exact T1_in4 (i := 199) rfl rfl
  | 24, _ => exact T1_in4 (i := 201) rfl rfl
  | 25, _ => exact T1_in4 (i := 203) rfl rfl
  | 26, _ => exact T1_in4 (i := 205) rfl rfl
  | 27, _ => exact T1_in4 (i := 207) rfl rfl
  | 28, _ => exact T1_in4 (i := 209) rfl rfl
  | k + 29, h => exact absurd h (by omega)
set_option maxRecDepth 100000 in
theorem minW : Cond.static Lib.Math.min.name ∈ T1 ∧ Cond.initialized "java/lang/Math" ∈ T1 ∧ Cond.code Lib.Math.min.name Lib.Math.min.code 2 (some .int) ∈ T1 := ⟨T1_in2 (i := 103) rfl rfl, T1_in1 (i := 10) rfl rfl, T1_in2 (i := 104) rfl rfl⟩
set_option maxRecDepth 100000 in
theorem maxW : Cond.static Lib.Math.max.name ∈ T1 ∧ Cond.initialized "java/lang/Math" ∈ T1 ∧ Cond.code Lib.Math.max.name Lib.Math.max.code 2 (some .int) ∈ T1 := ⟨T1_in3 (i := 238) rfl rfl, T1_in1 (i := 10) rfl rfl, T1_in3 (i := 239) rfl rfl⟩
set_option maxRecDepth 100000 in
theorem cpyW : Cond.native arraycopyName ∈ T1 ∧ Cond.static arraycopyName ∈ T1 ∧ Cond.initialized "java/lang/System" ∈ T1 := ⟨T1_in2 (i := 70) rfl rfl, T1_in2 (i := 69) rfl rfl, T1_in1 (i := 9) rfl rfl⟩
def nwFi : Nat := 334
def nwMi : Nat := 25
def y_Tent_init : MethodName := ⟨"TentMiddle", "<init>", "()V"⟩
def y_Object_init : MethodName := ⟨"java/lang/Object", "<init>", "()V"⟩
def y_Shelf_init : MethodName := ⟨"TentMiddle$Shelf", "<init>", "(II)V"⟩
def y_Arrays_fill2 : MethodName := ⟨"java/util/Arrays", "fill", "([II)V"⟩
def y_Camp_init : MethodName := ⟨"TentMiddle$Camp", "<init>", "(I)V"⟩
def y_Reader_init : MethodName := ⟨"TentMiddle$Reader", "<init>", "()V"⟩
def y_Orders_init : MethodName := ⟨"TentMiddle$Orders", "<init>", "()V"⟩
def y_Plan_init : MethodName := ⟨"TentMiddle$Plan", "<init>", "()V"⟩
def y_Tent_row : MethodName := ⟨"TentMiddle", "row", "(II)I"⟩
def y_Tent_makeIn : MethodName := ⟨"TentMiddle", "makeIn", "(LTentMiddle$Shelf;III)I"⟩
def y_Shelf_isNumber : MethodName := ⟨"TentMiddle$Shelf", "isNumber", "(I)Z"⟩
def y_Tent_found : MethodName := ⟨"TentMiddle", "found", "(I)I"⟩
def y_Shelf_make : MethodName := ⟨"TentMiddle$Shelf", "make", "(III)V"⟩
def y_Arrays_fill4 : MethodName := ⟨"java/util/Arrays", "fill", "([IIII)V"⟩
def y_Arrays_rangeCheck : MethodName := ⟨"java/util/Arrays", "rangeCheck", "(III)V"⟩
def y_Tent_lay : MethodName := ⟨"TentMiddle", "lay", "(III)I"⟩
def y_Tent_refusePlace : MethodName := ⟨"TentMiddle", "refusePlace", "(LTentMiddle$Shelf;II)I"⟩
def y_Tent_refuseMissing : MethodName := ⟨"TentMiddle", "refuseMissing", "(LTentMiddle$Shelf;I)I"⟩
def y_Shelf_isThere : MethodName := ⟨"TentMiddle$Shelf", "isThere", "(I)Z"⟩
def y_Shelf_sizeOf : MethodName := ⟨"TentMiddle$Shelf", "sizeOf", "(I)I"⟩
def y_Shelf_hasPlace : MethodName := ⟨"TentMiddle$Shelf", "hasPlace", "(II)Z"⟩
def y_Shelf_get : MethodName := ⟨"TentMiddle$Shelf", "get", "(II)I"⟩
def y_Shelf_set : MethodName := ⟨"TentMiddle$Shelf", "set", "(III)V"⟩
def y_Tent_at : MethodName := ⟨"TentMiddle", "at", "(II)I"⟩
def y_Tent_tear : MethodName := ⟨"TentMiddle", "tear", "(I)I"⟩
def y_Shelf_remove : MethodName := ⟨"TentMiddle$Shelf", "remove", "(I)V"⟩
def y_Tent_copy : MethodName := ⟨"TentMiddle", "copy", "(IIIII)I"⟩
def y_Shelf_hasSpan : MethodName := ⟨"TentMiddle$Shelf", "hasSpan", "(III)Z"⟩
def y_Shelf_move : MethodName := ⟨"TentMiddle$Shelf", "move", "(IIIII)V"⟩
def y_Tent_mean : MethodName := ⟨"TentMiddle", "mean", "(I)I"⟩
def y_Shelf_sum : MethodName := ⟨"TentMiddle$Shelf", "sum", "(I)J"⟩
def y_Tent_text : MethodName := ⟨"TentMiddle", "text", "(II)I"⟩
def y_Tent_put : MethodName := ⟨"TentMiddle", "put", "(III)I"⟩
def y_Tent_fault : MethodName := ⟨"TentMiddle", "fault", "(I)I"⟩
def y_Reader_read : MethodName := ⟨"TentMiddle$Reader", "read", "(LTentMiddle$Shelf;I)I"⟩
def y_Reader_take : MethodName := ⟨"TentMiddle$Reader", "take", "(LTentMiddle$Shelf;I)V"⟩
def y_Math_min : MethodName := ⟨"java/lang/Math", "min", "(II)I"⟩
def y_Camp_begin : MethodName := ⟨"TentMiddle$Camp", "begin", "()V"⟩
def y_Reader_readCold : MethodName := ⟨"TentMiddle$Reader", "readCold", "()Z"⟩
def y_Reader_skipBlanks : MethodName := ⟨"TentMiddle$Reader", "skipBlanks", "()V"⟩
def y_Reader_sign : MethodName := ⟨"TentMiddle$Reader", "sign", "()I"⟩
def y_Reader_readFigure : MethodName := ⟨"TentMiddle$Reader", "readFigure", "(I)I"⟩
def y_Reader_readSleeper : MethodName := ⟨"TentMiddle$Reader", "readSleeper", "()Z"⟩
def y_Reader_kindOf : MethodName := ⟨"TentMiddle$Reader", "kindOf", "(I)I"⟩
def y_Camp_add : MethodName := ⟨"TentMiddle$Camp", "add", "(III)V"⟩
def y_Tent_tent : MethodName := ⟨"TentMiddle", "tent", "(I)I"⟩
def y_Camp_takeWhole : MethodName := ⟨"TentMiddle$Camp", "takeWhole", "(LTentMiddle$Camp;)V"⟩
def y_Camp_takePresent : MethodName := ⟨"TentMiddle$Camp", "takePresent", "(LTentMiddle$Camp;)V"⟩
def y_Tent_sleeper : MethodName := ⟨"TentMiddle", "sleeper", "(II)I"⟩
def y_Camp_isSleeper : MethodName := ⟨"TentMiddle$Camp", "isSleeper", "(I)Z"⟩
def y_Camp_trait : MethodName := ⟨"TentMiddle$Camp", "trait", "(II)I"⟩
def y_Camp_givenFrom : MethodName := ⟨"TentMiddle$Camp", "givenFrom", "(I)I"⟩
def y_Tent_mark : MethodName := ⟨"TentMiddle", "mark", "(II)I"⟩
def y_Camp_isOf : MethodName := ⟨"TentMiddle$Camp", "isOf", "(II)Z"⟩
def y_Camp_hearersOf : MethodName := ⟨"TentMiddle$Camp", "hearersOf", "(I)I"⟩
def y_Camp_reach : MethodName := ⟨"TentMiddle$Camp", "reach", "(I)I"⟩
def y_Camp_hearsWithin : MethodName := ⟨"TentMiddle$Camp", "hearsWithin", "(III)Z"⟩
def y_Camp_isWithin : MethodName := ⟨"TentMiddle$Camp", "isWithin", "(III)Z"⟩
def y_Camp_snorersNear : MethodName := ⟨"TentMiddle$Camp", "snorersNear", "(I)I"⟩
def y_Camp_givenAway : MethodName := ⟨"TentMiddle$Camp", "givenAway", "(I)I"⟩
def y_Camp_snorers : MethodName := ⟨"TentMiddle$Camp", "snorers", "()I"⟩
def y_Integer_bitCount : MethodName := ⟨"java/lang/Integer", "bitCount", "(I)I"⟩
def y_Tent_vent : MethodName := ⟨"TentMiddle", "vent", "(I)I"⟩
def y_Tent_bottle : MethodName := ⟨"TentMiddle", "bottle", "(I)I"⟩
def y_Tent_turns : MethodName := ⟨"TentMiddle", "turns", "(I)I"⟩
def y_Tent_change : MethodName := ⟨"TentMiddle", "change", "(II)I"⟩
def y_Tent_swap : MethodName := ⟨"TentMiddle", "swap", "([III)V"⟩
def y_Camp_fillPlaces : MethodName := ⟨"TentMiddle$Camp", "fillPlaces", "()V"⟩
def y_Tent_bags : MethodName := ⟨"TentMiddle", "bags", "(II)I"⟩
def y_Tent_lie : MethodName := ⟨"TentMiddle", "lie", "(I)I"⟩
def y_Tent_refuseRowForPlaces : MethodName := ⟨"TentMiddle", "refuseRowForPlaces", "(I)I"⟩
def y_Tent_refuseRowToFill : MethodName := ⟨"TentMiddle", "refuseRowToFill", "(I)I"⟩
def y_Tent_holdsOrder : MethodName := ⟨"TentMiddle", "holdsOrder", "(I)Z"⟩
def y_Orders_readFrom : MethodName := ⟨"TentMiddle$Orders", "readFrom", "(LTentMiddle$Shelf;II)V"⟩
def y_Camp_layBy : MethodName := ⟨"TentMiddle$Camp", "layBy", "([I)V"⟩
def y_Tent_hour : MethodName := ⟨"TentMiddle", "hour", "()I"⟩
def y_Camp_passHour : MethodName := ⟨"TentMiddle$Camp", "passHour", "()I"⟩
def y_Camp_sleepingOnes : MethodName := ⟨"TentMiddle$Camp", "sleepingOnes", "(I)I"⟩
def y_Camp_reasons : MethodName := ⟨"TentMiddle$Camp", "reasons", "(II)I"⟩
def y_Camp_feeling : MethodName := ⟨"TentMiddle$Camp", "feeling", "(II)I"⟩
def y_Camp_steadyFeeling : MethodName := ⟨"TentMiddle$Camp", "steadyFeeling", "(I)I"⟩
def y_Camp_isAtRim : MethodName := ⟨"TentMiddle$Camp", "isAtRim", "(I)Z"⟩
def y_Camp_hourlyFeeling : MethodName := ⟨"TentMiddle$Camp", "hourlyFeeling", "(II)I"⟩
def y_Camp_hearsAny : MethodName := ⟨"TentMiddle$Camp", "hearsAny", "(I)Z"⟩
def y_Camp_soreHours : MethodName := ⟨"TentMiddle$Camp", "soreHours", "()I"⟩
def y_Camp_wokenHours : MethodName := ⟨"TentMiddle$Camp", "wokenHours", "(I)I"⟩
def y_Camp_remember : MethodName := ⟨"TentMiddle$Camp", "remember", "()V"⟩
def y_Tent_night : MethodName := ⟨"TentMiddle", "night", "()I"⟩
def y_Tent_undo : MethodName := ⟨"TentMiddle", "undo", "(I)I"⟩
def y_Camp_recall : MethodName := ⟨"TentMiddle$Camp", "recall", "(I)V"⟩
def y_Tent_now : MethodName := ⟨"TentMiddle", "now", "()I"⟩
def y_Tent_keep : MethodName := ⟨"TentMiddle", "keep", "(I)I"⟩
def y_Tent_on : MethodName := ⟨"TentMiddle", "on", "(I)I"⟩
def y_Tent_isKept : MethodName := ⟨"TentMiddle", "isKept", "(I)Z"⟩
def y_Tent_feels : MethodName := ⟨"TentMiddle", "feels", "(II)I"⟩
def y_Tent_isHour : MethodName := ⟨"TentMiddle", "isHour", "(I)Z"⟩
def y_Tent_why : MethodName := ⟨"TentMiddle", "why", "(II)I"⟩
def y_Tent_sleeps : MethodName := ⟨"TentMiddle", "sleeps", "(I)I"⟩
def y_Camp_coldOnes : MethodName := ⟨"TentMiddle$Camp", "coldOnes", "(I)I"⟩
def y_Tent_slept : MethodName := ⟨"TentMiddle", "slept", "(I)I"⟩
def y_Camp_hoursSlept : MethodName := ⟨"TentMiddle$Camp", "hoursSlept", "(I)I"⟩
def y_Camp_calmHours : MethodName := ⟨"TentMiddle$Camp", "calmHours", "(I)I"⟩
def y_Tent_coldest : MethodName := ⟨"TentMiddle", "coldest", "()I"⟩
def y_Tent_good : MethodName := ⟨"TentMiddle", "good", "(I)I"⟩
def y_Camp_sleptByOthers : MethodName := ⟨"TentMiddle$Camp", "sleptByOthers", "(I)I"⟩
def y_Camp_sleptByAll : MethodName := ⟨"TentMiddle$Camp", "sleptByAll", "()I"⟩
def y_Tent_worth : MethodName := ⟨"TentMiddle", "worth", "()I"⟩
def y_Camp_leastSlept : MethodName := ⟨"TentMiddle$Camp", "leastSlept", "()I"⟩
def y_Tent_best : MethodName := ⟨"TentMiddle", "best", "(I)I"⟩
def y_Tent_seekOrder : MethodName := ⟨"TentMiddle", "seekOrder", "(II)I"⟩
def y_Orders_begin : MethodName := ⟨"TentMiddle$Orders", "begin", "(I)V"⟩
def y_Camp_takeBags : MethodName := ⟨"TentMiddle$Camp", "takeBags", "(LTentMiddle$Camp;[I)V"⟩
def y_Orders_advance : MethodName := ⟨"TentMiddle$Orders", "advance", "()Z"⟩
def y_Orders_goTo : MethodName := ⟨"TentMiddle$Orders", "goTo", "(II)V"⟩
def y_Orders_howMany : MethodName := ⟨"TentMiddle$Orders", "howMany", "(I)I"⟩
def y_Orders_pick : MethodName := ⟨"TentMiddle$Orders", "pick", "(II)I"⟩
def y_Orders_writeTo : MethodName := ⟨"TentMiddle$Orders", "writeTo", "(LTentMiddle$Shelf;I)V"⟩
def y_Tent_fair : MethodName := ⟨"TentMiddle", "fair", "(I)I"⟩
def y_Tent_turning : MethodName := ⟨"TentMiddle", "turning", "()I"⟩
def y_Camp_noteCalm : MethodName := ⟨"TentMiddle$Camp", "noteCalm", "()V"⟩
def y_Camp_sleptOfCalm : MethodName := ⟨"TentMiddle$Camp", "sleptOfCalm", "()I"⟩
def y_Tent_warm : MethodName := ⟨"TentMiddle", "warm", "()I"⟩
def y_Tent_thin : MethodName := ⟨"TentMiddle", "thin", "(I)I"⟩
def y_Tent_nights : MethodName := ⟨"TentMiddle", "nights", "(II)I"⟩
def y_Plan_begin : MethodName := ⟨"TentMiddle$Plan", "begin", "(I)V"⟩
def y_Plan_offer : MethodName := ⟨"TentMiddle$Plan", "offer", "(ILTentMiddle$Camp;)V"⟩
def y_Math_max : MethodName := ⟨"java/lang/Math", "max", "(II)I"⟩
def y_Plan_isNeedless : MethodName := ⟨"TentMiddle$Plan", "isNeedless", "()Z"⟩
def y_Plan_choose : MethodName := ⟨"TentMiddle$Plan", "choose", "(I)I"⟩
def y_Plan_chooseFrom : MethodName := ⟨"TentMiddle$Plan", "chooseFrom", "(III)V"⟩
def y_Plan_bound : MethodName := ⟨"TentMiddle$Plan", "bound", "(II)I"⟩
def y_Plan_writeTo : MethodName := ⟨"TentMiddle$Plan", "writeTo", "(LTentMiddle$Shelf;II)V"⟩
def y_Tent_nth : MethodName := ⟨"TentMiddle", "nth", "(II)I"⟩
def y_Tent_out : MethodName := ⟨"TentMiddle", "out", "(I)I"⟩
def y_Tent_whose : MethodName := ⟨"TentMiddle", "whose", "(I)I"⟩
def y_Tent_suspects : MethodName := ⟨"TentMiddle", "suspects", "(II)I"⟩
def y_Tent_fitsWhatWasHeard : MethodName := ⟨"TentMiddle", "fitsWhatWasHeard", "(III)Z"⟩
def y_Tent_kinds : MethodName := ⟨"TentMiddle", "kinds", "(II)I"⟩
def y_Tent_odds : MethodName := ⟨"TentMiddle", "odds", "(III)I"⟩
def y_Tent_tellPower : MethodName := ⟨"TentMiddle", "tellPower", "(II)V"⟩
def y_Camp_mustStayIn : MethodName := ⟨"TentMiddle$Camp", "mustStayIn", "(I)I"⟩
def y_Tent_lots : MethodName := ⟨"TentMiddle", "lots", "(I)I"⟩
def y_Orders_draw : MethodName := ⟨"TentMiddle$Orders", "draw", "(II)V"⟩
def y_Tent_asked : MethodName := ⟨"TentMiddle", "asked", "()I"⟩
def y_Tent_upper : MethodName := ⟨"TentMiddle", "upper", "()J"⟩
def y_Tent_lower : MethodName := ⟨"TentMiddle", "lower", "()J"⟩
def y_Tent_count : MethodName := ⟨"TentMiddle", "count", "(I)I"⟩
def y_Shelf_howManyThere : MethodName := ⟨"TentMiddle$Shelf", "howManyThere", "()I"⟩
def y_Tent_keptTents : MethodName := ⟨"TentMiddle", "keptTents", "()I"⟩
def y_Tent_finding : MethodName := ⟨"TentMiddle", "finding", "()I"⟩
def y_Tent_findings : MethodName := ⟨"TentMiddle", "findings", "(I)I"⟩
def y_Tent_digest : MethodName := ⟨"TentMiddle", "digest", "()J"⟩
def y_Shelf_digestOn : MethodName := ⟨"TentMiddle$Shelf", "digestOn", "(J)J"⟩
def y_Mod_init : MethodName := ⟨"TentMiddleModel", "<init>", "()V"⟩
def y_Mod_row : MethodName := ⟨"TentMiddleModel", "row", "(II)I"⟩
def y_Mod_isRow : MethodName := ⟨"TentMiddleModel", "isRow", "(I)Z"⟩
def y_Mod_in : MethodName := ⟨"TentMiddleModel", "in", "(JJJ)Z"⟩
def y_Mod_find : MethodName := ⟨"TentMiddleModel", "find", "(I)I"⟩
def y_Mod_makeRow : MethodName := ⟨"TentMiddleModel", "makeRow", "(II)V"⟩
def y_Mod_lay : MethodName := ⟨"TentMiddleModel", "lay", "(III)I"⟩
def y_Mod_refused : MethodName := ⟨"TentMiddleModel", "refused", "(II)I"⟩
def y_Mod_tell : MethodName := ⟨"TentMiddleModel", "tell", "(I)I"⟩
def y_Mod_at : MethodName := ⟨"TentMiddleModel", "at", "(II)I"⟩
def y_Mod_tear : MethodName := ⟨"TentMiddleModel", "tear", "(I)I"⟩
def y_Mod_copy : MethodName := ⟨"TentMiddleModel", "copy", "(IIIII)I"⟩
def y_Mod_isSpan : MethodName := ⟨"TentMiddleModel", "isSpan", "(III)Z"⟩
def y_Mod_mean : MethodName := ⟨"TentMiddleModel", "mean", "(I)I"⟩
def y_Mod_text : MethodName := ⟨"TentMiddleModel", "text", "(II)I"⟩
def y_Mod_isText : MethodName := ⟨"TentMiddleModel", "isText", "(I)Z"⟩
def y_Mod_put : MethodName := ⟨"TentMiddleModel", "put", "(III)I"⟩
def y_Mod_fault : MethodName := ⟨"TentMiddleModel", "fault", "(I)I"⟩
def y_Mod_faultOf : MethodName := ⟨"TentMiddleModel", "faultOf", "(I)I"⟩
def y_Mod_readsCold : MethodName := ⟨"TentMiddleModel", "readsCold", "()Z"⟩
def y_Mod_skip : MethodName := ⟨"TentMiddleModel", "skip", "()V"⟩
def y_Mod_here : MethodName := ⟨"TentMiddleModel", "here", "()I"⟩
def y_Mod_figure : MethodName := ⟨"TentMiddleModel", "figure", "(I)I"⟩
def y_Mod_readsSleeper : MethodName := ⟨"TentMiddleModel", "readsSleeper", "()Z"⟩
def y_Mod_kindHere : MethodName := ⟨"TentMiddleModel", "kindHere", "()I"⟩
def y_Mod_tent : MethodName := ⟨"TentMiddleModel", "tent", "(I)I"⟩
def y_Mod_sleeper : MethodName := ⟨"TentMiddleModel", "sleeper", "(II)I"⟩
def y_Mod_isSleeper : MethodName := ⟨"TentMiddleModel", "isSleeper", "(I)Z"⟩
def y_Mod_toldOf : MethodName := ⟨"TentMiddleModel", "toldOf", "(II)I"⟩
def y_Mod_layNow : MethodName := ⟨"TentMiddleModel", "layNow", "()V"⟩
def y_Mod_givesOf : MethodName := ⟨"TentMiddleModel", "givesOf", "(I)I"⟩
def y_Mod_kindOf : MethodName := ⟨"TentMiddleModel", "kindOf", "(I)I"⟩
def y_Mod_placeOf : MethodName := ⟨"TentMiddleModel", "placeOf", "(I)I"⟩
def y_Mod_mark : MethodName := ⟨"TentMiddleModel", "mark", "(II)I"⟩
def y_Mod_isOf : MethodName := ⟨"TentMiddleModel", "isOf", "(II)Z"⟩
def y_Mod_heardBy : MethodName := ⟨"TentMiddleModel", "heardBy", "(I)I"⟩
def y_Mod_hearsNone : MethodName := ⟨"TentMiddleModel", "hearsNone", "(I)Z"⟩
def y_Mod_reaches : MethodName := ⟨"TentMiddleModel", "reaches", "(II)Z"⟩
def y_Mod_isSnoring : MethodName := ⟨"TentMiddleModel", "isSnoring", "(I)Z"⟩
def y_Mod_snorersNear : MethodName := ⟨"TentMiddleModel", "snorersNear", "(I)I"⟩
def y_Mod_beside : MethodName := ⟨"TentMiddleModel", "beside", "(I)I"⟩
def y_Mod_snorers : MethodName := ⟨"TentMiddleModel", "snorers", "()I"⟩
def y_Mod_bits : MethodName := ⟨"TentMiddleModel", "bits", "(I)I"⟩
def y_Mod_vent : MethodName := ⟨"TentMiddleModel", "vent", "(I)I"⟩
def y_Mod_bottle : MethodName := ⟨"TentMiddleModel", "bottle", "(I)I"⟩
def y_Mod_turns : MethodName := ⟨"TentMiddleModel", "turns", "(I)I"⟩
def y_Mod_change : MethodName := ⟨"TentMiddleModel", "change", "(II)I"⟩
def y_Mod_swap : MethodName := ⟨"TentMiddleModel", "swap", "(II)V"⟩
def y_Mod_bags : MethodName := ⟨"TentMiddleModel", "bags", "(II)I"⟩
def y_Mod_lie : MethodName := ⟨"TentMiddleModel", "lie", "(I)I"⟩
def y_Mod_isOrder : MethodName := ⟨"TentMiddleModel", "isOrder", "(I)Z"⟩
def y_Mod_hour : MethodName := ⟨"TentMiddleModel", "hour", "()I"⟩
def y_Mod_sleepsIn : MethodName := ⟨"TentMiddleModel", "sleepsIn", "(I)I"⟩
def y_Mod_whyNot : MethodName := ⟨"TentMiddleModel", "whyNot", "(II)I"⟩
def y_Mod_feelsIn : MethodName := ⟨"TentMiddleModel", "feelsIn", "(II)I"⟩
def y_Mod_isRim : MethodName := ⟨"TentMiddleModel", "isRim", "(I)Z"⟩
def y_Mod_hears : MethodName := ⟨"TentMiddleModel", "hears", "(I)Z"⟩
def y_Mod_isSore : MethodName := ⟨"TentMiddleModel", "isSore", "(I)Z"⟩
def y_Mod_has : MethodName := ⟨"TentMiddleModel", "has", "(II)Z"⟩
def y_Mod_night : MethodName := ⟨"TentMiddleModel", "night", "()I"⟩
def y_Mod_undo : MethodName := ⟨"TentMiddleModel", "undo", "(I)I"⟩
def y_Mod_now : MethodName := ⟨"TentMiddleModel", "now", "()I"⟩
def y_Mod_keep : MethodName := ⟨"TentMiddleModel", "keep", "(I)I"⟩
def y_Mod_copyTent : MethodName := ⟨"TentMiddleModel", "copyTent", "(II)V"⟩
def y_Mod_on : MethodName := ⟨"TentMiddleModel", "on", "(I)I"⟩
def y_Mod_feels : MethodName := ⟨"TentMiddleModel", "feels", "(II)I"⟩
def y_Mod_isHour : MethodName := ⟨"TentMiddleModel", "isHour", "(I)Z"⟩
def y_Mod_why : MethodName := ⟨"TentMiddleModel", "why", "(II)I"⟩
def y_Mod_sleeps : MethodName := ⟨"TentMiddleModel", "sleeps", "(I)I"⟩
def y_Mod_slept : MethodName := ⟨"TentMiddleModel", "slept", "(I)I"⟩
def y_Mod_sleptBy : MethodName := ⟨"TentMiddleModel", "sleptBy", "(I)I"⟩
def y_Mod_coldest : MethodName := ⟨"TentMiddleModel", "coldest", "()I"⟩
def y_Mod_good : MethodName := ⟨"TentMiddleModel", "good", "(I)I"⟩
def y_Mod_worthNow : MethodName := ⟨"TentMiddleModel", "worthNow", "()I"⟩
def y_Mod_worth : MethodName := ⟨"TentMiddleModel", "worth", "()I"⟩
def y_Mod_leastNow : MethodName := ⟨"TentMiddleModel", "leastNow", "()I"⟩
def y_Mod_best : MethodName := ⟨"TentMiddleModel", "best", "(I)I"⟩
def y_Mod_toBest : MethodName := ⟨"TentMiddleModel", "toBest", "(IZ)I"⟩
def y_Mod_orderMany : MethodName := ⟨"TentMiddleModel", "orderMany", "()I"⟩
def y_Mod_lieBy : MethodName := ⟨"TentMiddleModel", "lieBy", "(I)V"⟩
def y_Mod_layOrder : MethodName := ⟨"TentMiddleModel", "layOrder", "(I)V"⟩
def y_Mod_orderTo : MethodName := ⟨"TentMiddleModel", "orderTo", "(II)V"⟩
def y_Mod_fair : MethodName := ⟨"TentMiddleModel", "fair", "(I)I"⟩
def y_Mod_turning : MethodName := ⟨"TentMiddleModel", "turning", "()I"⟩
def y_Mod_warm : MethodName := ⟨"TentMiddleModel", "warm", "()I"⟩
def y_Mod_thin : MethodName := ⟨"TentMiddleModel", "thin", "(I)I"⟩
def y_Mod_nights : MethodName := ⟨"TentMiddleModel", "nights", "(II)I"⟩
def y_Mod_leastIn : MethodName := ⟨"TentMiddleModel", "leastIn", "(III)I"⟩
def y_Mod_nth : MethodName := ⟨"TentMiddleModel", "nth", "(II)I"⟩
def y_Mod_out : MethodName := ⟨"TentMiddleModel", "out", "(I)I"⟩
def y_Mod_whose : MethodName := ⟨"TentMiddleModel", "whose", "(I)I"⟩
def y_Mod_areHeard : MethodName := ⟨"TentMiddleModel", "areHeard", "(I)Z"⟩
def y_Mod_fits : MethodName := ⟨"TentMiddleModel", "fits", "(III)Z"⟩
def y_Mod_kinds : MethodName := ⟨"TentMiddleModel", "kinds", "(II)I"⟩
def y_Mod_odds : MethodName := ⟨"TentMiddleModel", "odds", "(III)I"⟩
def y_Mod_divisor : MethodName := ⟨"TentMiddleModel", "divisor", "(JJ)J"⟩
def y_Mod_lots : MethodName := ⟨"TentMiddleModel", "lots", "(I)I"⟩
def y_Mod_asked : MethodName := ⟨"TentMiddleModel", "asked", "()I"⟩
def y_Mod_upper : MethodName := ⟨"TentMiddleModel", "upper", "()J"⟩
def y_Mod_lower : MethodName := ⟨"TentMiddleModel", "lower", "()J"⟩
def y_Mod_count : MethodName := ⟨"TentMiddleModel", "count", "(I)I"⟩
def y_Mod_countOf : MethodName := ⟨"TentMiddleModel", "countOf", "(I)I"⟩
def y_Mod_thereOf : MethodName := ⟨"TentMiddleModel", "thereOf", "(I)I"⟩
def y_Mod_finding : MethodName := ⟨"TentMiddleModel", "finding", "()I"⟩
def y_Mod_findings : MethodName := ⟨"TentMiddleModel", "findings", "(I)I"⟩
def y_Mod_digest : MethodName := ⟨"TentMiddleModel", "digest", "()J"⟩
