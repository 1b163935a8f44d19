def nvT0 : u_T := fun k => match k with
  | 0 => ("WhoseName$After", "bargain", "I", false)
  | 1 => ("WhoseName$After", "person", "I", false)
  | 2 => ("WhoseName$After", "day", "I", false)
  | 3 => ("WhoseName$After", "well", "I", false)
  | _ => ("WhoseName$After", "much", "I", false)
def nvY0 : Nat → FieldType := fun k => match k with
  | 0 => .int
  | 1 => .int
  | 2 => .int
  | 3 => .int
  | _ => .int
theorem nvN0 : ∀ a, a < 5 → ∀ b, b < 5 → a ≠ b → (nvT0 a).2.1 ≠ (nvT0 b).2.1 := by decide +kernel
theorem nvYk0 : ∀ k, k < 5 → parseFieldDescriptor (nvT0 k).2.2.1 = some (nvY0 k) := by decide +kernel
theorem nvW0_0 : u_lay "WhoseName$After" nvT0 0 ∈ nv_gt := nv_gt_of 199 (by decide +kernel) (by decide +kernel)
theorem nvW0_1 : u_lay "WhoseName$After" nvT0 1 ∈ nv_gt := nv_gt_of 201 (by decide +kernel) (by decide +kernel)
theorem nvW0_2 : u_lay "WhoseName$After" nvT0 2 ∈ nv_gt := nv_gt_of 203 (by decide +kernel) (by decide +kernel)
theorem nvW0_3 : u_lay "WhoseName$After" nvT0 3 ∈ nv_gt := nv_gt_of 205 (by decide +kernel) (by decide +kernel)
theorem nvW0_4 : u_lay "WhoseName$After" nvT0 4 ∈ nv_gt := nv_gt_of 207 (by decide +kernel) (by decide +kernel)
theorem nvW0 : ∀ w ∈ u_ws "WhoseName$After" nvT0 5, w ∈ nv_gt := by
  intro w hw
  obtain ⟨k, hk, rfl⟩ := List.mem_map.mp hw
  have hk := List.mem_range.mp hk
  match k, hk with
  | 0, _ => exact nvW0_0
  | 1, _ => exact nvW0_1
  | 2, _ => exact nvW0_2
  | 3, _ => exact nvW0_3
  | 4, _ => exact nvW0_4
  | n + 5, h => exact absurd h (by omega)
def nvT1 : u_T := fun k => match k with
  | 0 => ("WhoseName$Back", "leave", "I", false)
  | 1 => ("WhoseName$Back", "sent", "I", false)
  | 2 => ("WhoseName$Back", "person", "I", false)
  | _ => ("WhoseName$Back", "hearing", "I", false)
def nvY1 : Nat → FieldType := fun k => match k with
  | 0 => .int
  | 1 => .int
  | 2 => .int
  | _ => .int
theorem nvN1 : ∀ a, a < 4 → ∀ b, b < 4 → a ≠ b → (nvT1 a).2.1 ≠ (nvT1 b).2.1 := by decide +kernel
theorem nvYk1 : ∀ k, k < 4 → parseFieldDescriptor (nvT1 k).2.2.1 = some (nvY1 k) := by decide +kernel
theorem nvW1_0 : u_lay "WhoseName$Back" nvT1 0 ∈ nv_gt := nv_gt_of 151 (by decide +kernel) (by decide +kernel)
theorem nvW1_1 : u_lay "WhoseName$Back" nvT1 1 ∈ nv_gt := nv_gt_of 153 (by decide +kernel) (by decide +kernel)
theorem nvW1_2 : u_lay "WhoseName$Back" nvT1 2 ∈ nv_gt := nv_gt_of 155 (by decide +kernel) (by decide +kernel)
theorem nvW1_3 : u_lay "WhoseName$Back" nvT1 3 ∈ nv_gt := nv_gt_of 157 (by decide +kernel) (by decide +kernel)
theorem nvW1 : ∀ w ∈ u_ws "WhoseName$Back" nvT1 4, w ∈ nv_gt := by
  intro w hw
  obtain ⟨k, hk, rfl⟩ := List.mem_map.mp hw
  have hk := List.mem_range.mp hk
  match k, hk with
  | 0, _ => exact nvW1_0
  | 1, _ => exact nvW1_1
  | 2, _ => exact nvW1_2
  | 3, _ => exact nvW1_3
  | n + 4, h => exact absurd h (by omega)
def nvT2 : u_T := fun k => match k with
  | 0 => ("WhoseName$Bargain", "number", "I", false)
  | 1 => ("WhoseName$Bargain", "doer", "I", false)
  | 2 => ("WhoseName$Bargain", "named", "I", false)
  | 3 => ("WhoseName$Bargain", "other", "I", false)
  | 4 => ("WhoseName$Bargain", "sort", "I", false)
  | 5 => ("WhoseName$Bargain", "worth", "I", false)
  | _ => ("WhoseName$Bargain", "day", "I", false)
def nvY2 : Nat → FieldType := fun k => match k with
  | 0 => .int
  | 1 => .int
  | 2 => .int
  | 3 => .int
  | 4 => .int
  | 5 => .int
  | _ => .int
theorem nvN2 : ∀ a, a < 7 → ∀ b, b < 7 → a ≠ b → (nvT2 a).2.1 ≠ (nvT2 b).2.1 := by decide +kernel
theorem nvYk2 : ∀ k, k < 7 → parseFieldDescriptor (nvT2 k).2.2.1 = some (nvY2 k) := by decide +kernel
theorem nvW2_0 : u_lay "WhoseName$Bargain" nvT2 0 ∈ nv_gt := nv_gt_of 174 (by decide +kernel) (by decide +kernel)
theorem nvW2_1 : u_lay "WhoseName$Bargain" nvT2 1 ∈ nv_gt := nv_gt_of 176 (by decide +kernel) (by decide +kernel)
theorem nvW2_2 : u_lay "WhoseName$Bargain" nvT2 2 ∈ nv_gt := nv_gt_of 178 (by decide +kernel) (by decide +kernel)
theorem nvW2_3 : u_lay "WhoseName$Bargain" nvT2 3 ∈ nv_gt := nv_gt_of 180 (by decide +kernel) (by decide +kernel)
theorem nvW2_4 : u_lay "WhoseName$Bargain" nvT2 4 ∈ nv_gt := nv_gt_of 182 (by decide +kernel) (by decide +kernel)
theorem nvW2_5 : u_lay "WhoseName$Bargain" nvT2 5 ∈ nv_gt := nv_gt_of 184 (by decide +kernel) (by decide +kernel)
theorem nvW2_6 : u_lay "WhoseName$Bargain" nvT2 6 ∈ nv_gt := nv_gt_of 186 (by decide +kernel) (by decide +kernel)
theorem nvW2 : ∀ w ∈ u_ws "WhoseName$Bargain" nvT2 7, w ∈ nv_gt := by
  intro w hw
  obtain ⟨k, hk, rfl⟩ := List.mem_map.mp hw
  have hk := List.mem_range.mp hk
  match k, hk with
  | 0, _ => exact nvW2_0
  | 1, _ => exact nvW2_1
  | 2, _ => exact nvW2_2
  | 3, _ => exact nvW2_3
  | 4, _ => exact nvW2_4
  | 5, _ => exact nvW2_5
  | 6, _ => exact nvW2_6
  | n + 7, h => exact absurd h (by omega)
def nvT3 : u_T := fun k => match k with
  | 0 => ("WhoseName$Law", "bytes", "[I", true)
  | 1 => ("WhoseName$Law", "words", "[I", true)
  | 2 => ("WhoseName$Law", "size", "I", false)
  | _ => ("WhoseName$Law", "faultPlace", "I", false)
def nvY3 : Nat → FieldType := fun k => match k with
  | 0 => .array .int
  | 1 => .array .int
  | 2 => .int
  | _ => .int
theorem nvN3 : ∀ a, a < 4 → ∀ b, b < 4 → a ≠ b → (nvT3 a).2.1 ≠ (nvT3 b).2.1 := by decide +kernel
theorem nvYk3 : ∀ k, k < 4 → parseFieldDescriptor (nvT3 k).2.2.1 = some (nvY3 k) := by decide +kernel
theorem nvW3_0 : u_lay "WhoseName$Law" nvT3 0 ∈ nv_gt := nv_gt_of 262 (by decide +kernel) (by decide +kernel)
theorem nvW3_1 : u_lay "WhoseName$Law" nvT3 1 ∈ nv_gt := nv_gt_of 264 (by decide +kernel) (by decide +kernel)
theorem nvW3_2 : u_lay "WhoseName$Law" nvT3 2 ∈ nv_gt := nv_gt_of 266 (by decide +kernel) (by decide +kernel)
theorem nvW3_3 : u_lay "WhoseName$Law" nvT3 3 ∈ nv_gt := nv_gt_of 268 (by decide +kernel) (by decide +kernel)
theorem nvW3 : ∀ w ∈ u_ws "WhoseName$Law" nvT3 4, w ∈ nv_gt := by
  intro w hw
  obtain ⟨k, hk, rfl⟩ := List.mem_map.mp hw
  have hk := List.mem_range.mp hk
  match k, hk with
  | 0, _ => exact nvW3_0
  | 1, _ => exact nvW3_1
  | 2, _ => exact nvW3_2
  | 3, _ => exact nvW3_3
  | n + 4, h => exact absurd h (by omega)
def nvT4 : u_T := fun k => match k with
  | 0 => ("WhoseName$Leave", "form", "I", false)
  | 1 => ("WhoseName$Leave", "giver", "I", false)
  | 2 => ("WhoseName$Leave", "holder", "I", false)
  | 3 => ("WhoseName$Leave", "more", "I", false)
  | 4 => ("WhoseName$Leave", "sorts", "I", false)
  | 5 => ("WhoseName$Leave", "limit", "I", false)
  | 6 => ("WhoseName$Leave", "first", "I", false)
  | 7 => ("WhoseName$Leave", "last", "I", false)
  | 8 => ("WhoseName$Leave", "root", "I", false)
  | _ => ("WhoseName$Leave", "passes", "I", false)
def nvY4 : Nat → FieldType := fun k => match k with
  | 0 => .int
  | 1 => .int
  | 2 => .int
  | 3 => .int
  | 4 => .int
  | 5 => .int
  | 6 => .int
  | 7 => .int
  | 8 => .int
  | _ => .int
theorem nvN4 : ∀ a, a < 10 → ∀ b, b < 10 → a ≠ b → (nvT4 a).2.1 ≠ (nvT4 b).2.1 := by decide +kernel
theorem nvYk4 : ∀ k, k < 10 → parseFieldDescriptor (nvT4 k).2.2.1 = some (nvY4 k) := by decide +kernel
theorem nvW4_0 : u_lay "WhoseName$Leave" nvT4 0 ∈ nv_gt := nv_gt_of 120 (by decide +kernel) (by decide +kernel)
theorem nvW4_1 : u_lay "WhoseName$Leave" nvT4 1 ∈ nv_gt := nv_gt_of 122 (by decide +kernel) (by decide +kernel)
theorem nvW4_2 : u_lay "WhoseName$Leave" nvT4 2 ∈ nv_gt := nv_gt_of 124 (by decide +kernel) (by decide +kernel)
theorem nvW4_3 : u_lay "WhoseName$Leave" nvT4 3 ∈ nv_gt := nv_gt_of 126 (by decide +kernel) (by decide +kernel)
theorem nvW4_4 : u_lay "WhoseName$Leave" nvT4 4 ∈ nv_gt := nv_gt_of 128 (by decide +kernel) (by decide +kernel)
theorem nvW4_5 : u_lay "WhoseName$Leave" nvT4 5 ∈ nv_gt := nv_gt_of 130 (by decide +kernel) (by decide +kernel)
theorem nvW4_6 : u_lay "WhoseName$Leave" nvT4 6 ∈ nv_gt := nv_gt_of 132 (by decide +kernel) (by decide +kernel)
theorem nvW4_7 : u_lay "WhoseName$Leave" nvT4 7 ∈ nv_gt := nv_gt_of 134 (by decide +kernel) (by decide +kernel)
theorem nvW4_8 : u_lay "WhoseName$Leave" nvT4 8 ∈ nv_gt := nv_gt_of 136 (by decide +kernel) (by decide +kernel)
theorem nvW4_9 : u_lay "WhoseName$Leave" nvT4 9 ∈ nv_gt := nv_gt_of 138 (by decide +kernel) (by decide +kernel)
theorem nvW4 : ∀ w ∈ u_ws "WhoseName$Leave" nvT4 10, w ∈ nv_gt := by
  intro w hw
  obtain ⟨k, hk, rfl⟩ := List.mem_map.mp hw
  have hk := List.mem_range.mp hk
  match k, hk with
  | 0, _ => exact nvW4_0
  | 1, _ => exact nvW4_1
  | 2, _ => exact nvW4_2
  | 3, _ => exact nvW4_3
  | 4, _ => exact nvW4_4
  | 5, _ => exact nvW4_5
  | 6, _ => exact nvW4_6
  | 7, _ => exact nvW4_7
  | 8, _ => exact nvW4_8
  | 9, _ => exact nvW4_9
  | n + 10, h => exact absurd h (by omega)
def nvT5 : u_T := fun k => match k with
  | 0 => ("WhoseName$Sheet", "items", "[I", true)
  | 1 => ("WhoseName$Sheet", "isLost", "Z", false)
  | 2 => ("WhoseName$Sheet", "kind", "I", false)
  | _ => ("WhoseName$Sheet", "size", "I", false)
def nvY5 : Nat → FieldType := fun k => match k with
  | 0 => .array .int
  | 1 => .boolean
  | 2 => .int
  | _ => .int
theorem nvN5 : ∀ a, a < 4 → ∀ b, b < 4 → a ≠ b → (nvT5 a).2.1 ≠ (nvT5 b).2.1 := by decide +kernel
theorem nvYk5 : ∀ k, k < 4 → parseFieldDescriptor (nvT5 k).2.2.1 = some (nvY5 k) := by decide +kernel
theorem nvW5_0 : u_lay "WhoseName$Sheet" nvT5 0 ∈ nv_gt := nv_gt_of 284 (by decide +kernel) (by decide +kernel)
theorem nvW5_1 : u_lay "WhoseName$Sheet" nvT5 1 ∈ nv_gt := nv_gt_of 286 (by decide +kernel) (by decide +kernel)
theorem nvW5_2 : u_lay "WhoseName$Sheet" nvT5 2 ∈ nv_gt := nv_gt_of 288 (by decide +kernel) (by decide +kernel)
theorem nvW5_3 : u_lay "WhoseName$Sheet" nvT5 3 ∈ nv_gt := nv_gt_of 290 (by decide +kernel) (by decide +kernel)
theorem nvW5 : ∀ w ∈ u_ws "WhoseName$Sheet" nvT5 4, w ∈ nv_gt := by
  intro w hw
  obtain ⟨k, hk, rfl⟩ := List.mem_map.mp hw
  have hk := List.mem_range.mp hk
  match k, hk with
  | 0, _ => exact nvW5_0
  | 1, _ => exact nvW5_1
  | 2, _ => exact nvW5_2
  | 3, _ => exact nvW5_3
  | n + 4, h => exact absurd h (by omega)
def nvT6 : u_T := fun k => match k with
  | 0 => ("WhoseName", "purses", "[I", true)
  | 1 => ("WhoseName", "leaves", "[LWhoseName$Leave;", true)
  | 2 => ("WhoseName", "backs", "[LWhoseName$Back;", true)
  | 3 => ("WhoseName", "bargains", "[LWhoseName$Bargain;", true)
  | 4 => ("WhoseName", "afters", "[LWhoseName$After;", true)
  | 5 => ("WhoseName", "laws", "[LWhoseName$Law;", true)
  | 6 => ("WhoseName", "sheets", "[LWhoseName$Sheet;", true)
  | 7 => ("WhoseName", "leaveCount", "I", false)
  | 8 => ("WhoseName", "backCount", "I", false)
  | 9 => ("WhoseName", "bargainCount", "I", false)
  | 10 => ("WhoseName", "afterCount", "I", false)
  | 11 => ("WhoseName", "latestFinding", "I", false)
  | 12 => ("WhoseName", "endPurses", "[I", true)
  | 13 => ("WhoseName", "endLost", "[I", true)
  | 14 => ("WhoseName", "mixedWords", "[I", true)
  | 15 => ("WhoseName", "openBacks", "[I", true)
  | 16 => ("WhoseName", "boundByWay", "[I", true)
  | _ => ("WhoseName", "openCount", "I", false)
def nvY6 : Nat → FieldType := fun k => match k with
  | 0 => .array .int
  | 1 => .array (.object "WhoseName$Leave")
  | 2 => .array (.object "WhoseName$Back")
  | 3 => .array (.object "WhoseName$Bargain")
  | 4 => .array (.object "WhoseName$After")
  | 5 => .array (.object "WhoseName$Law")
  | 6 => .array (.object "WhoseName$Sheet")
  | 7 => .int
  | 8 => .int
  | 9 => .int
  | 10 => .int
  | 11 => .int
  | 12 => .array .int
  | 13 => .array .int
  | 14 => .array .int
  | 15 => .array .int
  | 16 => .array .int
  | _ => .int
theorem nvN6 : ∀ a, a < 18 → ∀ b, b < 18 → a ≠ b → (nvT6 a).2.1 ≠ (nvT6 b).2.1 := by decide +kernel
theorem nvYk6 : ∀ k, k < 18 → parseFieldDescriptor (nvT6 k).2.2.1 = some (nvY6 k) := by decide +kernel
theorem nvW6_0 : u_lay "WhoseName" nvT6 0 ∈ nv_gt := nv_gt_of 311 (by decide +kernel) (by decide +kernel)
theorem nvW6_1 : u_lay "WhoseName" nvT6 1 ∈ nv_gt := nv_gt_of 313 (by decide +kernel) (by decide +kernel)
theorem nvW6_2 : u_lay "WhoseName" nvT6 2 ∈ nv_gt := nv_gt_of 315 (by decide +kernel) (by decide +kernel)
theorem nvW6_3 : u_lay "WhoseName" nvT6 3 ∈ nv_gt := nv_gt_of 317 (by decide +kernel) (by decide +kernel)
theorem nvW6_4 : u_lay "WhoseName" nvT6 4 ∈ nv_gt := nv_gt_of 319 (by decide +kernel) (by decide +kernel)
theorem nvW6_5 : u_lay "WhoseName" nvT6 5 ∈ nv_gt := nv_gt_of 321 (by decide +kernel) (by decide +kernel)
theorem nvW6_6 : u_lay "WhoseName" nvT6 6 ∈ nv_gt := nv_gt_of 323 (by decide +kernel) (by decide +kernel)
theorem nvW6_7 : u_lay "WhoseName" nvT6 7 ∈ nv_gt := nv_gt_of 325 (by decide +kernel) (by decide +kernel)
theorem nvW6_8 : u_lay "WhoseName" nvT6 8 ∈ nv_gt := nv_gt_of 327 (by decide +kernel) (by decide +kernel)
theorem nvW6_9 : u_lay "WhoseName" nvT6 9 ∈ nv_gt := nv_gt_of 329 (by decide +kernel) (by decide +kernel)
theorem nvW6_10 : u_lay "WhoseName" nvT6 10 ∈ nv_gt := nv_gt_of 331 (by decide +kernel) (by decide +kernel)
theorem nvW6_11 : u_lay "WhoseName" nvT6 11 ∈ nv_gt := nv_gt_of 333 (by decide +kernel) (by decide +kernel)
theorem nvW6_12 : u_lay "WhoseName" nvT6 12 ∈ nv_gt := nv_gt_of 335 (by decide +kernel) (by decide +kernel)
theorem nvW6_13 : u_lay "WhoseName" nvT6 13 ∈ nv_gt := nv_gt_of 337 (by decide +kernel) (by decide +kernel)
theorem nvW6_14 : u_lay "WhoseName" nvT6 14 ∈ nv_gt := nv_gt_of 339 (by decide +kernel) (by decide +kernel)
theorem nvW6_15 : u_lay "WhoseName" nvT6 15 ∈ nv_gt := nv_gt_of 341 (by decide +kernel) (by decide +kernel)
theorem nvW6_16 : u_lay "WhoseName" nvT6 16 ∈ nv_gt := nv_gt_of 343 (by decide +kernel) (by decide +kernel)
theorem nvW6_17 : u_lay "WhoseName" nvT6 17 ∈ nv_gt := nv_gt_of 345 (by decide +kernel) (by decide +kernel)
theorem nvW6 : ∀ w ∈ u_ws "WhoseName" nvT6 18, w ∈ nv_gt := by
  intro w hw
  obtain ⟨k, hk, rfl⟩ := List.mem_map.mp hw
  have hk := List.mem_range.mp hk
  match k, hk with
  | 0, _ => exact nvW6_0
  | 1, _ => exact nvW6_1
  | 2, _ => exact nvW6_2
  | 3, _ => exact nvW6_3
  | 4, _ => exact nvW6_4
  | 5, _ => exact nvW6_5
  | 6, _ => exact nvW6_6
  | 7, _ => exact nvW6_7
  | 8, _ => exact nvW6_8
  | 9, _ => exact nvW6_9
  | 10, _ => exact nvW6_10
  | 11, _ => exact nvW6_11
  | 12, _ => exact nvW6_12
  | 13, _ => exact nvW6_13
  | 14, _ => exact nvW6_14
  | 15, _ => exact nvW6_15
  | 16, _ => exact nvW6_16
  | 17, _ => exact nvW6_17
  | n + 18, h => exact absurd h (by omega)
def nvT7 : u_T := fun k => match k with
  | 0 => ("WhoseNameModel", "forms", "[I", true)
  | 1 => ("WhoseNameModel", "sizes", "[I", true)
  | 2 => ("WhoseNameModel", "items", "[I", true)
  | 3 => ("WhoseNameModel", "moved", "[I", true)
  | 4 => ("WhoseNameModel", "latest", "I", false)
  | 5 => ("WhoseNameModel", "purses", "[I", true)
  | 6 => ("WhoseNameModel", "leaves", "I", false)
  | 7 => ("WhoseNameModel", "leaveForm", "[I", true)
  | 8 => ("WhoseNameModel", "leaveGiver", "[I", true)
  | 9 => ("WhoseNameModel", "leaveHolder", "[I", true)
  | 10 => ("WhoseNameModel", "leaveMore", "[I", true)
  | 11 => ("WhoseNameModel", "leaveSorts", "[I", true)
  | 12 => ("WhoseNameModel", "leaveLimit", "[I", true)
  | 13 => ("WhoseNameModel", "leaveFirst", "[I", true)
  | 14 => ("WhoseNameModel", "leaveLast", "[I", true)
  | 15 => ("WhoseNameModel", "leaveRoot", "[I", true)
  | 16 => ("WhoseNameModel", "leavePassed", "[I", true)
  | 17 => ("WhoseNameModel", "backs", "I", false)
  | 18 => ("WhoseNameModel", "backLeave", "[I", true)
  | 19 => ("WhoseNameModel", "backSent", "[I", true)
  | 20 => ("WhoseNameModel", "backPerson", "[I", true)
  | 21 => ("WhoseNameModel", "backHeard", "[I", true)
  | 22 => ("WhoseNameModel", "hears", "[I", true)
  | 23 => ("WhoseNameModel", "bargains", "I", false)
  | 24 => ("WhoseNameModel", "doers", "[I", true)
  | 25 => ("WhoseNameModel", "nameds", "[I", true)
  | 26 => ("WhoseNameModel", "others", "[I", true)
  | 27 => ("WhoseNameModel", "sorts", "[I", true)
  | 28 => ("WhoseNameModel", "worths", "[I", true)
  | 29 => ("WhoseNameModel", "days", "[I", true)
  | 30 => ("WhoseNameModel", "afters", "I", false)
  | 31 => ("WhoseNameModel", "afterOf", "[I", true)
  | 32 => ("WhoseNameModel", "afterBy", "[I", true)
  | 33 => ("WhoseNameModel", "afterDay", "[I", true)
  | 34 => ("WhoseNameModel", "afterWell", "[I", true)
  | 35 => ("WhoseNameModel", "afterMuch", "[I", true)
  | 36 => ("WhoseNameModel", "text", "[I", true)
  | 37 => ("WhoseNameModel", "typed", "[I", true)
  | 38 => ("WhoseNameModel", "at", "I", false)
  | 39 => ("WhoseNameModel", "rules", "[I", true)
  | 40 => ("WhoseNameModel", "now", "[I", true)
  | 41 => ("WhoseNameModel", "why", "I", false)
  | 42 => ("WhoseNameModel", "ends", "[I", true)
  | 43 => ("WhoseNameModel", "lost", "[I", true)
  | 44 => ("WhoseNameModel", "open", "[I", true)
  | 45 => ("WhoseNameModel", "openMany", "I", false)
  | _ => ("WhoseNameModel", "ways", "[I", true)
def nvY7 : Nat → FieldType := fun k => match k with
  | 0 => .array .int
  | 1 => .array .int
  | 2 => .array .int
  | 3 => .array .int
  | 4 => .int
  | 5 => .array .int
  | 6 => .int
  | 7 => .array .int
  | 8 => .array .int
  | 9 => .array .int
  | 10 => .array .int
  | 11 => .array .int
  | 12 => .array .int
  | 13 => .array .int
  | 14 => .array .int
  | 15 => .array .int
  | 16 => .array .int
  | 17 => .int
  | 18 => .array .int
  | 19 => .array .int
  | 20 => .array .int
  | 21 => .array .int
  | 22 => .array .int
  | 23 => .int
  | 24 => .array .int
  | 25 => .array .int
  | 26 => .array .int
  | 27 => .array .int
  | 28 => .array .int
  | 29 => .array .int
  | 30 => .int
  | 31 => .array .int
  | 32 => .array .int
  | 33 => .array .int
  | 34 => .array .int
  | 35 => .array .int
  | 36 => .array .int
  | 37 => .array .int
  | 38 => .int
  | 39 => .array .int
  | 40 => .array .int
  | 41 => .int
  | 42 => .array .int
  | 43 => .array .int
  | 44 => .array .int
  | 45 => .int
  | _ => .array .int
theorem nvN7 : ∀ a, a < 47 → ∀ b, b < 47 → a ≠ b → (nvT7 a).2.1 ≠ (nvT7 b).2.1 := by decide +kernel
theorem nvYk7 : ∀ k, k < 47 → parseFieldDescriptor (nvT7 k).2.2.1 = some (nvY7 k) := by decide +kernel
theorem nvW7_0 : u_lay "WhoseNameModel" nvT7 0 ∈ nv_gt := nv_gt_of 771 (by decide +kernel) (by decide +kernel)
theorem nvW7_1 : u_lay "WhoseNameModel" nvT7 1 ∈ nv_gt := nv_gt_of 773 (by decide +kernel) (by decide +kernel)
theorem nvW7_2 : u_lay "WhoseNameModel" nvT7 2 ∈ nv_gt := nv_gt_of 775 (by decide +kernel) (by decide +kernel)
theorem nvW7_3 : u_lay "WhoseNameModel" nvT7 3 ∈ nv_gt := nv_gt_of 777 (by decide +kernel) (by decide +kernel)
theorem nvW7_4 : u_lay "WhoseNameModel" nvT7 4 ∈ nv_gt := nv_gt_of 779 (by decide +kernel) (by decide +kernel)
theorem nvW7_5 : u_lay "WhoseNameModel" nvT7 5 ∈ nv_gt := nv_gt_of 781 (by decide +kernel) (by decide +kernel)
theorem nvW7_6 : u_lay "WhoseNameModel" nvT7 6 ∈ nv_gt := nv_gt_of 783 (by decide +kernel) (by decide +kernel)
theorem nvW7_7 : u_lay "WhoseNameModel" nvT7 7 ∈ nv_gt := nv_gt_of 785 (by decide +kernel) (by decide +kernel)
theorem nvW7_8 : u_lay "WhoseNameModel" nvT7 8 ∈ nv_gt := nv_gt_of 787 (by decide +kernel) (by decide +kernel)
theorem nvW7_9 : u_lay "WhoseNameModel" nvT7 9 ∈ nv_gt := nv_gt_of 789 (by decide +kernel) (by decide +kernel)
theorem nvW7_10 : u_lay "WhoseNameModel" nvT7 10 ∈ nv_gt := nv_gt_of 791 (by decide +kernel) (by decide +kernel)
theorem nvW7_11 : u_lay "WhoseNameModel" nvT7 11 ∈ nv_gt := nv_gt_of 793 (by decide +kernel) (by decide +kernel)
theorem nvW7_12 : u_lay "WhoseNameModel" nvT7 12 ∈ nv_gt := nv_gt_of 795 (by decide +kernel) (by decide +kernel)
theorem nvW7_13 : u_lay "WhoseNameModel" nvT7 13 ∈ nv_gt := nv_gt_of 797 (by decide +kernel) (by decide +kernel)
theorem nvW7_14 : u_lay "WhoseNameModel" nvT7 14 ∈ nv_gt := nv_gt_of 799 (by decide +kernel) (by decide +kernel)
theorem nvW7_15 : u_lay "WhoseNameModel" nvT7 15 ∈ nv_gt := nv_gt_of 801 (by decide +kernel) (by decide +kernel)
theorem nvW7_16 : u_lay "WhoseNameModel" nvT7 16 ∈ nv_gt := nv_gt_of 803 (by decide +kernel) (by decide +kernel)
theorem nvW7_17 : u_lay "WhoseNameModel" nvT7 17 ∈ nv_gt := nv_gt_of 805 (by decide +kernel) (by decide +kernel)
theorem nvW7_18 : u_lay "WhoseNameModel" nvT7 18 ∈ nv_gt := nv_gt_of 807 (by decide +kernel) (by decide +kernel)
theorem nvW7_19 : u_lay "WhoseNameModel" nvT7 19 ∈ nv_gt := nv_gt_of 809 (by decide +kernel) (by decide +kernel)
theorem nvW7_20 : u_lay "WhoseNameModel" nvT7 20 ∈ nv_gt := nv_gt_of 811 (by decide +kernel) (by decide +kernel)
theorem nvW7_21 : u_lay "WhoseNameModel" nvT7 21 ∈ nv_gt := nv_gt_of 813 (by decide +kernel) (by decide +kernel)
theorem nvW7_22 : u_lay "WhoseNameModel" nvT7 22 ∈ nv_gt := nv_gt_of 815 (by decide +kernel) (by decide +kernel)
theorem nvW7_23 : u_lay "WhoseNameModel" nvT7 23 ∈ nv_gt := nv_gt_of 817 (by decide +kernel) (by decide +kernel)
theorem nvW7_24 : u_lay "WhoseNameModel" nvT7 24 ∈ nv_gt := nv_gt_of 819 (by decide +kernel) (by decide +kernel)
theorem nvW7_25 : u_lay "WhoseNameModel" nvT7 25 ∈ nv_gt := nv_gt_of 821 (by decide +kernel) (by decide +kernel)
theorem nvW7_26 : u_lay "WhoseNameModel" nvT7 26 ∈ nv_gt := nv_gt_of 823 (by decide +kernel) (by decide +kernel)
theorem nvW7_27 : u_lay "WhoseNameModel" nvT7 27 ∈ nv_gt := nv_gt_of 825 (by decide +kernel) (by decide +kernel)
theorem nvW7_28 : u_lay "WhoseNameModel" nvT7 28 ∈ nv_gt := nv_gt_of 827 (by decide +kernel) (by decide +kernel)
theorem nvW7_29 : u_lay "WhoseNameModel" nvT7 29 ∈ nv_gt := nv_gt_of 829 (by decide +kernel) (by decide +kernel)
theorem nvW7_30 : u_lay "WhoseNameModel" nvT7 30 ∈ nv_gt := nv_gt_of 831 (by decide +kernel) (by decide +kernel)
theorem nvW7_31 : u_lay "WhoseNameModel" nvT7 31 ∈ nv_gt := nv_gt_of 833 (by decide +kernel) (by decide +kernel)
theorem nvW7_32 : u_lay "WhoseNameModel" nvT7 32 ∈ nv_gt := nv_gt_of 835 (by decide +kernel) (by decide +kernel)
theorem nvW7_33 : u_lay "WhoseNameModel" nvT7 33 ∈ nv_gt := nv_gt_of 837 (by decide +kernel) (by decide +kernel)
theorem nvW7_34 : u_lay "WhoseNameModel" nvT7 34 ∈ nv_gt := nv_gt_of 839 (by decide +kernel) (by decide +kernel)
theorem nvW7_35 : u_lay "WhoseNameModel" nvT7 35 ∈ nv_gt := nv_gt_of 841 (by decide +kernel) (by decide +kernel)
theorem nvW7_36 : u_lay "WhoseNameModel" nvT7 36 ∈ nv_gt := nv_gt_of 843 (by decide +kernel) (by decide +kernel)
theorem nvW7_37 : u_lay "WhoseNameModel" nvT7 37 ∈ nv_gt := nv_gt_of 845 (by decide +kernel) (by decide +kernel)
theorem nvW7_38 : u_lay "WhoseNameModel" nvT7 38 ∈ nv_gt := nv_gt_of 847 (by decide +kernel) (by decide +kernel)
theorem nvW7_39 : u_lay "WhoseNameModel" nvT7 39 ∈ nv_gt := nv_gt_of 849 (by decide +kernel) (by decide +kernel)
theorem nvW7_40 : u_lay "WhoseNameModel" nvT7 40 ∈ nv_gt := nv_gt_of 851 (by decide +kernel) (by decide +kernel)
theorem nvW7_41 : u_lay "WhoseNameModel" nvT7 41 ∈ nv_gt := nv_gt_of 853 (by decide +kernel) (by decide +kernel)
theorem nvW7_42 : u_lay "WhoseNameModel" nvT7 42 ∈ nv_gt := nv_gt_of 855 (by decide +kernel) (by decide +kernel)
theorem nvW7_43 : u_lay "WhoseNameModel" nvT7 43 ∈ nv_gt := nv_gt_of 857 (by decide +kernel) (by decide +kernel)
theorem nvW7_44 : u_lay "WhoseNameModel" nvT7 44 ∈ nv_gt := nv_gt_of 859 (by decide +kernel) (by decide +kernel)
theorem nvW7_45 : u_lay "WhoseNameModel" nvT7 45 ∈ nv_gt := nv_gt_of 861 (by decide +kernel) (by decide +kernel)
theorem nvW7_46 : u_lay "WhoseNameModel" nvT7 46 ∈ nv_gt := nv_gt_of 863 (by decide +kernel) (by decide +kernel)
theorem nvW7 : ∀ w ∈ u_ws "WhoseNameModel" nvT7 47, w ∈ nv_gt := by
  intro w hw
  obtain ⟨k, hk, rfl⟩ := List.mem_map.mp hw
  have hk := List.mem_range.mp hk
  match k, hk with
  | 0, _ => exact nvW7_0
  | 1, _ => exact nvW7_1
  | 2, _ => exact nvW7_2
  | 3, _ => exact nvW7_3
  | 4, _ => exact nvW7_4
  | 5, _ => exact nvW7_5
  | 6, _ => exact nvW7_6
  | 7, _ => exact nvW7_7
  | 8, _ => exact nvW7_8
  | 9, _ => exact nvW7_9
  | 10, _ => exact nvW7_10
  | 11, _ => exact nvW7_11
  | 12, _ => exact nvW7_12
  | 13, _ => exact nvW7_13
  | 14, _ => exact nvW7_14
  | 15, _ => exact nvW7_15
  | 16, _ => exact nvW7_16
  | 17, _ => exact nvW7_17
  | 18, _ => exact nvW7_18
  | 19, _ => exact nvW7_19
  | 20, _ => exact nvW7_20
  | 21, _ => exact nvW7_21
  | 22, _ => exact nvW7_22
  | 23, _ => exact nvW7_23
  | 24, _ => exact nvW7_24
  | 25, _ => exact nvW7_25
  | 26, _ => exact nvW7_26
  | 27, _ => exact nvW7_27
  | 28, _ => exact nvW7_28
  | 29, _ => exact nvW7_29
  | 30, _ => exact nvW7_30
  | 31, _ => exact nvW7_31
  | 32, _ => exact nvW7_32
  | 33, _ => exact nvW7_33
  | 34, _ => exact nvW7_34
  | 35, _ => exact nvW7_35
  | 36, _ => exact nvW7_36
  | 37, _ => exact nvW7_37
  | 38, _ => exact nvW7_38
  | 39, _ => exact nvW7_39
  | 40, _ => exact nvW7_40
  | 41, _ => exact nvW7_41
  | 42, _ => exact nvW7_42
  | 43, _ => exact nvW7_43
  | 44, _ => exact nvW7_44
  | 45, _ => exact nvW7_45
  | 46, _ => exact nvW7_46
  | n + 47, h => exact absurd h (by omega)
abbrev nv_cls : List vw_C := [("WhoseName$After", nvT0, 5), ("WhoseName$Back", nvT1, 4), ("WhoseName$Bargain", nvT2, 7), ("WhoseName$Law", nvT3, 4), ("WhoseName$Leave", nvT4, 10), ("WhoseName$Sheet", nvT5, 4), ("WhoseName", nvT6, 18), ("WhoseNameModel", nvT7, 47)]
/-- the shapes of all cells, in the order in which they are made: 0 the WhoseName, 73 the WhoseNameModel -/
def nv_shl : List nv_Sh := [
  .inr (6, [some 1, some 2, some 3, some 4, some 5, some 6, some 7, none, none, none, none, none, some 8, some 9, some 10, some 11, some 12, none]),
  .inl (8, none),
  .inl (12, some (1, 13, 1)),
  .inl (12, some (2, 25, 1)),
  .inl (10, some (3, 37, 1)),
  .inl (12, some (4, 47, 1)),
  .inl (2, some (5, 59, 3)),
  .inl (4, some (6, 65, 2)),
  .inl (8, none),
  .inl (10, none),
  .inl (9, none),
  .inl (6, none),
  .inl (64, none),
  .inr (4, [none, none, none, none, none, none, none, none, none, none]),
  .inr (4, [none, none, none, none, none, none, none, none, none, none]),
  .inr (4, [none, none, none, none, none, none, none, none, none, none]),
  .inr (4, [none, none, none, none, none, none, none, none, none, none]),
  .inr (4, [none, none, none, none, none, none, none, none, none, none]),
  .inr (4, [none, none, none, none, none, none, none, none, none, none]),
  .inr (4, [none, none, none, none, none, none, none, none, none, none]),
  .inr (4, [none, none, none, none, none, none, none, none, none, none]),
  .inr (4, [none, none, none, none, none, none, none, none, none, none]),
  .inr (4, [none, none, none, none, none, none, none, none, none, none]),
  .inr (4, [none, none, none, none, none, none, none, none, none, none]),
  .inr (4, [none, none, none, none, none, none, none, none, none, none]),
  .inr (1, [none, none, none, none]),
  .inr (1, [none, none, none, none]),
  .inr (1, [none, none, none, none]),
  .inr (1, [none, none, none, none]),
  .inr (1, [none, none, none, none]),
  .inr (1, [none, none, none, none]),
  .inr (1, [none, none, none, none]),
  .inr (1, [none, none, none, none]),
  .inr (1, [none, none, none, none]),
  .inr (1, [none, none, none, none]),
  .inr (1, [none, none, none, none]),
  .inr (1, [none, none, none, none]),
  .inr (2, [none, none, none, none, none, none, none]),
  .inr (2, [none, none, none, none, none, none, none]),
  .inr (2, [none, none, none, none, none, none, none]),
  .inr (2, [none, none, none, none, none, none, none]),
  .inr (2, [none, none, none, none, none, none, none]),
  .inr (2, [none, none, none, none, none, none, none]),
  .inr (2, [none, none, none, none, none, none, none]),
  .inr (2, [none, none, none, none, none, none, none]),
  .inr (2, [none, none, none, none, none, none, none]),
  .inr (2, [none, none, none, none, none, none, none]),
  .inr (0, [none, none, none, none, none]),
  .inr (0, [none, none, none, none, none]),
  .inr (0, [none, none, none, none, none]),
  .inr (0, [none, none, none, none, none]),
  .inr (0, [none, none, none, none, none]),
  .inr (0, [none, none, none, none, none]),
  .inr (0, [none, none, none, none, none]),
  .inr (0, [none, none, none, none, none]),
  .inr (0, [none, none, none, none, none]),
  .inr (0, [none, none, none, none, none]),
  .inr (0, [none, none, none, none, none]),
  .inr (0, [none, none, none, none, none]),
  .inr (3, [some 60, some 61, none, none]),
  .inl (60, none),
  .inl (9, none),
  .inr (3, [some 63, some 64, none, none]),
  .inl (60, none),
  .inl (9, none),
  .inr (5, [some 66, none, none, none]),
  .inl (60, none),
  .inr (5, [some 68, none, none, none]),
  .inl (60, none),
  .inr (5, [some 70, none, none, none]),
  .inl (60, none),
  .inr (5, [some 72, none, none, none]),
  .inl (60, none),
  .inr (7, [some 74, some 75, some 76, some 77, none, some 78, none, some 79, some 80, some 81, some 82, some 83, some 84, some 85, some 86, some 87, some 88, none, some 89, some 90, some 91, some 92, some 93, none, some 94, some 95, some 96, some 97, some 98, some 99, none, some 100, some 101, some 102, some 103, some 104, some 105, some 106, none, some 107, some 108, none, some 109, some 110, some 111, none, some 112]),
  .inl (4, none),
  .inl (4, none),
  .inl (240, none),
  .inl (60, none),
  .inl (8, none),
  .inl (13, none),
  .inl (13, none),
  .inl (13, none),
  .inl (13, none),
  .inl (13, none),
  .inl (13, none),
  .inl (13, none),
  .inl (13, none),
  .inl (13, none),
  .inl (13, none),
  .inl (12, none),
  .inl (12, none),
  .inl (12, none),
  .inl (12, none),
  .inl (12, none),
  .inl (10, none),
  .inl (10, none),
  .inl (10, none),
  .inl (10, none),
  .inl (10, none),
  .inl (10, none),
  .inl (12, none),
  .inl (12, none),
  .inl (12, none),
  .inl (12, none),
  .inl (12, none),
  .inl (120, none),
  .inl (2, none),
  .inl (18, none),
  .inl (9, none),
  .inl (8, none),
  .inl (10, none),
  .inl (6, none),
  .inl (64, none)]
def nv_shp (k : Nat) : nv_Sh := nv_shl.getD k (.inl (0, none))
def nv_sz1 : nv_Sh → Nat
  | .inl (n, _) => n
  | .inr (_, fl) => fl.length
def nv_sl : Nat → Nat
  | 0 => 0
  | n + 1 => nv_sl n + nv_sz1 (nv_shp n)
abbrev nv_NN : Nat := 113
def nv_ty : Nat → FieldType
  | 0 => .int
  | 1 => .object "WhoseName$Leave"
  | 2 => .object "WhoseName$Back"
  | 3 => .object "WhoseName$Bargain"
  | 4 => .object "WhoseName$After"
  | 5 => .object "WhoseName$Law"
  | 6 => .object "WhoseName$Sheet"
  | _ => .int
abbrev nv_tys (cA : Nat → ClassId) : List (ClassId × FieldType) := [(cA 0, .int), (cA 1, .object "WhoseName$Leave"), (cA 2, .object "WhoseName$Back"), (cA 3, .object "WhoseName$Bargain"), (cA 4, .object "WhoseName$After"), (cA 5, .object "WhoseName$Law"), (cA 6, .object "WhoseName$Sheet")]
def nv_aon : List String := ["WhoseName$Leave", "WhoseName$Back", "WhoseName$Bargain", "WhoseName$After", "WhoseName$Law", "WhoseName$Sheet"]
def nv_nst : List Cond := [.methodLinkNest "WhoseName" 64 ⟨"WhoseName$Leave", "<init>", "()V"⟩ "WhoseName",
  .methodLinkNest "WhoseName" 65 ⟨"WhoseName$Back", "<init>", "()V"⟩ "WhoseName",
  .methodLinkNest "WhoseName" 66 ⟨"WhoseName$Bargain", "<init>", "()V"⟩ "WhoseName",
  .methodLinkNest "WhoseName" 67 ⟨"WhoseName$After", "<init>", "()V"⟩ "WhoseName",
  .fieldLinkNest "WhoseName$Law" 35 "WhoseName" "LETTER_FIRST" "[I" "WhoseName",
  .fieldLinkNest "WhoseName$Law" 61 "WhoseName" "LETTER_SIGNS" "[C" "WhoseName",
  .fieldLinkNest "WhoseName$Law" 58 "WhoseName" "LETTER_MOST" "[I" "WhoseName",
  .methodLinkNest "WhoseName" 69 ⟨"WhoseName$Sheet", "<init>", "()V"⟩ "WhoseName"]
def nv_stat : Nat → Option (FieldType × String × String × List Int32)
  | 0 => some (.char, "LETTER_SIGNS", "[C", [98, 115, 112, 116, 97, 119, 110, 111, 99])
  | 1 => some (.int, "LETTER_MOST", "[I", [2, 1, 99, 99, 99, 1, 2, 2, 9])
  | 2 => some (.int, "LETTER_FIRST", "[I", [1, 1, 10, 0, 10, 1, 0, 1, 1])
  | 3 => some (.int, "SORT_SETS", "[I", [1, 2, 4, 8, 3, 5, 6, 9, 10, 12, 7, 11, 13, 14, 15])
  | _ => none
abbrev qX0_init : nv_MI := (⟨"WhoseName$After", "<init>", "()V"⟩, prog_2_method_1_code, 1, none)
abbrev qX1_init : nv_MI := (⟨"WhoseName$Back", "<init>", "()V"⟩, prog_3_method_1_code, 1, none)
abbrev qX2_init : nv_MI := (⟨"WhoseName$Bargain", "<init>", "()V"⟩, prog_4_method_1_code, 1, none)
abbrev qX2_isForAnother : nv_MI := (⟨"WhoseName$Bargain", "isForAnother", "()Z"⟩, prog_4_method_2_code, 1, some .boolean)
abbrev qX3_init : nv_MI := (⟨"WhoseName$Law", "<init>", "()V"⟩, prog_5_method_1_code, 1, none)
abbrev qX3_append : nv_MI := (⟨"WhoseName$Law", "append", "(I)V"⟩, prog_5_method_2_code, 2, none)
abbrev qX3_clear : nv_MI := (⟨"WhoseName$Law", "clear", "()V"⟩, prog_5_method_3_code, 1, none)
abbrev qX3_understand : nv_MI := (⟨"WhoseName$Law", "understand", "()V"⟩, prog_5_method_4_code, 1, none)
abbrev qX3_forgetParts : nv_MI := (⟨"WhoseName$Law", "forgetParts", "()V"⟩, prog_5_method_5_code, 1, none)
abbrev qX3_takeParts : nv_MI := (⟨"WhoseName$Law", "takeParts", "()I"⟩, prog_5_method_6_code, 5, some .int)
abbrev qX3_signAt : nv_MI := (⟨"WhoseName$Law", "signAt", "(I)I"⟩, prog_5_method_7_code, 2, some .int)
abbrev qX3_letterOf : nv_MI := (⟨"WhoseName$Law", "letterOf", "(I)I"⟩, prog_5_method_8_code, 2, some .int)
abbrev qX3_isFigureAt : nv_MI := (⟨"WhoseName$Law", "isFigureAt", "(I)Z"⟩, prog_5_method_9_code, 3, some .boolean)
abbrev qX3_figuresFrom : nv_MI := (⟨"WhoseName$Law", "figuresFrom", "(I)I"⟩, prog_5_method_10_code, 2, some .int)
abbrev qX3_numberFrom : nv_MI := (⟨"WhoseName$Law", "numberFrom", "(II)I"⟩, prog_5_method_11_code, 5, some .int)
abbrev qX4_init : nv_MI := (⟨"WhoseName$Leave", "<init>", "()V"⟩, prog_6_method_1_code, 1, none)
abbrev qX5_init : nv_MI := (⟨"WhoseName$Sheet", "<init>", "()V"⟩, prog_7_method_1_code, 1, none)
abbrev qX5_renew : nv_MI := (⟨"WhoseName$Sheet", "renew", "(II)V"⟩, prog_7_method_2_code, 4, none)
abbrev qX5_has : nv_MI := (⟨"WhoseName$Sheet", "has", "(I)Z"⟩, prog_7_method_3_code, 2, some .boolean)
abbrev qX5_hasRow : nv_MI := (⟨"WhoseName$Sheet", "hasRow", "(II)Z"⟩, prog_7_method_4_code, 3, some .boolean)
abbrev qX5_itemAt : nv_MI := (⟨"WhoseName$Sheet", "itemAt", "(I)I"⟩, prog_7_method_5_code, 2, some .int)
abbrev qX5_put : nv_MI := (⟨"WhoseName$Sheet", "put", "(II)V"⟩, prog_7_method_6_code, 3, none)
abbrev qX5_lowestBits : nv_MI := (⟨"WhoseName$Sheet", "lowestBits", "(I)I"⟩, prog_7_method_7_code, 2, some .int)
abbrev qX6_init : nv_MI := (⟨"WhoseName", "<init>", "()V"⟩, prog_1_method_1_code, 2, none)
abbrev qX6_purse : nv_MI := (⟨"WhoseName", "purse", "(II)I"⟩, prog_1_method_2_code, 4, some .int)
abbrev qX6_leave : nv_MI := (⟨"WhoseName", "leave", "(IIIIIIII)I"⟩, prog_1_method_3_code, 10, some .int)
abbrev qX6_setSource : nv_MI := (⟨"WhoseName", "setSource", "(LWhoseName$Leave;I)V"⟩, prog_1_method_4_code, 3, none)
abbrev qX6_mayBeGiven : nv_MI := (⟨"WhoseName", "mayBeGiven", "(IIII)Z"⟩, prog_1_method_5_code, 5, some .boolean)
abbrev qX6_mayBePassed : nv_MI := (⟨"WhoseName", "mayBePassed", "(I)Z"⟩, prog_1_method_6_code, 3, some .boolean)
abbrev qX6_isScope : nv_MI := (⟨"WhoseName", "isScope", "(IIII)Z"⟩, prog_1_method_7_code, 4, some .boolean)
abbrev qX6_back : nv_MI := (⟨"WhoseName", "back", "(IIII)I"⟩, prog_1_method_8_code, 6, some .int)
abbrev qX6_heard : nv_MI := (⟨"WhoseName", "heard", "(II)I"⟩, prog_1_method_9_code, 3, some .int)
abbrev qX6_bargain : nv_MI := (⟨"WhoseName", "bargain", "(IIIIII)I"⟩, prog_1_method_10_code, 8, some .int)
abbrev qX6_read : nv_MI := (⟨"WhoseName", "read", "(I)I"⟩, prog_1_method_11_code, 6, some .int)
abbrev qX6_after : nv_MI := (⟨"WhoseName", "after", "(IIIII)I"⟩, prog_1_method_12_code, 7, some .int)
abbrev qX6_leaveIs : nv_MI := (⟨"WhoseName", "leaveIs", "(II)I"⟩, prog_1_method_13_code, 4, some .int)
abbrev qX6_bargainIs : nv_MI := (⟨"WhoseName", "bargainIs", "(II)I"⟩, prog_1_method_14_code, 4, some .int)
abbrev qX6_type : nv_MI := (⟨"WhoseName", "type", "(II)I"⟩, prog_1_method_15_code, 3, some .int)
abbrev qX6_wipe : nv_MI := (⟨"WhoseName", "wipe", "(I)I"⟩, prog_1_method_16_code, 3, some .int)
abbrev qX6_fault : nv_MI := (⟨"WhoseName", "fault", "(I)I"⟩, prog_1_method_17_code, 2, some .int)
abbrev qX6_law : nv_MI := (⟨"WhoseName", "law", "(II)I"⟩, prog_1_method_18_code, 3, some .int)
abbrev qX6_reaches : nv_MI := (⟨"WhoseName", "reaches", "(IIII)I"⟩, prog_1_method_19_code, 8, some .int)
abbrev qX6_bound : nv_MI := (⟨"WhoseName", "bound", "(III)I"⟩, prog_1_method_20_code, 5, some .int)
abbrev qX6_till : nv_MI := (⟨"WhoseName", "till", "(II)I"⟩, prog_1_method_21_code, 3, some .int)
abbrev qX6_hearingDay : nv_MI := (⟨"WhoseName", "hearingDay", "(II)I"⟩, prog_1_method_22_code, 4, some .int)
abbrev qX6_isEnded : nv_MI := (⟨"WhoseName", "isEnded", "([IILWhoseName$Bargain;I)Z"⟩, prog_1_method_23_code, 8, some .boolean)
abbrev qX6_hearerOf : nv_MI := (⟨"WhoseName", "hearerOf", "([ILWhoseName$Leave;LWhoseName$Bargain;)I"⟩, prog_1_method_24_code, 3, some .int)
abbrev qX6_limitOf : nv_MI := (⟨"WhoseName", "limitOf", "([ILWhoseName$Leave;)I"⟩, prog_1_method_25_code, 2, some .int)
abbrev qX6_stretched : nv_MI := (⟨"WhoseName", "stretched", "([II)I"⟩, prog_1_method_26_code, 2, some .int)
abbrev qX6_hasRoomFor : nv_MI := (⟨"WhoseName", "hasRoomFor", "([ILWhoseName$Leave;LWhoseName$Bargain;)Z"⟩, prog_1_method_27_code, 3, some .boolean)
abbrev qX6_isAimedAt : nv_MI := (⟨"WhoseName", "isAimedAt", "([ILWhoseName$Leave;LWhoseName$Bargain;)Z"⟩, prog_1_method_28_code, 3, some .boolean)
abbrev qX6_reachesIn : nv_MI := (⟨"WhoseName", "reachesIn", "([IILWhoseName$Bargain;I)Z"⟩, prog_1_method_29_code, 8, some .boolean)
abbrev qX6_isWell : nv_MI := (⟨"WhoseName", "isWell", "([ILWhoseName$Bargain;)Z"⟩, prog_1_method_30_code, 5, some .boolean)
abbrev qX6_isSaidByNamed : nv_MI := (⟨"WhoseName", "isSaidByNamed", "(LWhoseName$After;LWhoseName$Bargain;)Z"⟩, prog_1_method_31_code, 2, some .boolean)
abbrev qX6_wasRefusedAhead : nv_MI := (⟨"WhoseName", "wasRefusedAhead", "(ILWhoseName$Bargain;)Z"⟩, prog_1_method_32_code, 7, some .boolean)
abbrev qX6_reasonIn : nv_MI := (⟨"WhoseName", "reasonIn", "([ILWhoseName$Bargain;I)I"⟩, prog_1_method_33_code, 5, some .int)
abbrev qX6_boundBits : nv_MI := (⟨"WhoseName", "boundBits", "([ILWhoseName$Bargain;I)I"⟩, prog_1_method_34_code, 4, some .int)
abbrev qX6_bitsOfReason : nv_MI := (⟨"WhoseName", "bitsOfReason", "([ILWhoseName$Bargain;I)I"⟩, prog_1_method_35_code, 5, some .int)
abbrev qX6_ask : nv_MI := (⟨"WhoseName", "ask", "(III)I"⟩, prog_1_method_36_code, 6, some .int)
abbrev qX6_owes : nv_MI := (⟨"WhoseName", "owes", "(II)I"⟩, prog_1_method_37_code, 4, some .int)
abbrev qX6_end : nv_MI := (⟨"WhoseName", "end", "(III)I"⟩, prog_1_method_38_code, 4, some .int)
abbrev qX6_askOf : nv_MI := (⟨"WhoseName", "askOf", "([ILWhoseName$Bargain;II)I"⟩, prog_1_method_39_code, 4, some .int)
abbrev qX6_owedBy : nv_MI := (⟨"WhoseName", "owedBy", "([ILWhoseName$Bargain;I)I"⟩, prog_1_method_40_code, 6, some .int)
abbrev qX6_settle : nv_MI := (⟨"WhoseName", "settle", "([I)V"⟩, prog_1_method_41_code, 3, none)
abbrev qX6_settleBargain : nv_MI := (⟨"WhoseName", "settleBargain", "([ILWhoseName$Bargain;)V"⟩, prog_1_method_42_code, 11, none)
abbrev qX6_pay : nv_MI := (⟨"WhoseName", "pay", "(III)I"⟩, prog_1_method_43_code, 5, some .int)
abbrev qX6_sure : nv_MI := (⟨"WhoseName", "sure", "(III)I"⟩, prog_1_method_44_code, 7, some .int)
abbrev qX6_hangs : nv_MI := (⟨"WhoseName", "hangs", "(III)I"⟩, prog_1_method_45_code, 6, some .int)
abbrev qX6_wanted : nv_MI := (⟨"WhoseName", "wanted", "(II)I"⟩, prog_1_method_46_code, 6, some .int)
abbrev qX6_turned : nv_MI := (⟨"WhoseName", "turned", "(I)I"⟩, prog_1_method_47_code, 2, some .int)
abbrev qX6_letter : nv_MI := (⟨"WhoseName", "letter", "(IIII)I"⟩, prog_1_method_48_code, 10, some .int)
abbrev qX6_findOpenBacks : nv_MI := (⟨"WhoseName", "findOpenBacks", "()V"⟩, prog_1_method_49_code, 2, none)
abbrev qX6_tryWays : nv_MI := (⟨"WhoseName", "tryWays", "([ILWhoseName$Bargain;)I"⟩, prog_1_method_50_code, 5, some .int)
abbrev qX6_wayOf : nv_MI := (⟨"WhoseName", "wayOf", "(I)I"⟩, prog_1_method_51_code, 4, some .int)
abbrev qX6_isTurnedBy : nv_MI := (⟨"WhoseName", "isTurnedBy", "(II)Z"⟩, prog_1_method_52_code, 5, some .boolean)
abbrev qX6_fewestLetters : nv_MI := (⟨"WhoseName", "fewestLetters", "(LWhoseName$Bargain;)I"⟩, prog_1_method_53_code, 6, some .int)
abbrev qX6_unlikeLetters : nv_MI := (⟨"WhoseName", "unlikeLetters", "()I"⟩, prog_1_method_54_code, 3, some .int)
abbrev qX6_mixLaws : nv_MI := (⟨"WhoseName", "mixLaws", "(I)V"⟩, prog_1_method_55_code, 3, none)
abbrev qX6_bargainsBetween : nv_MI := (⟨"WhoseName", "bargainsBetween", "(II)I"⟩, prog_1_method_56_code, 5, some .int)
abbrev qX6_boundAlready : nv_MI := (⟨"WhoseName", "boundAlready", "([II)I"⟩, prog_1_method_57_code, 5, some .int)
abbrev qX6_reachedByLetter : nv_MI := (⟨"WhoseName", "reachedByLetter", "(IIII)I"⟩, prog_1_method_58_code, 8, some .int)
abbrev qX6_sheet : nv_MI := (⟨"WhoseName", "sheet", "(III)I"⟩, prog_1_method_59_code, 4, some .int)
abbrev qX6_lose : nv_MI := (⟨"WhoseName", "lose", "(I)I"⟩, prog_1_method_60_code, 2, some .int)
abbrev qX6_lay : nv_MI := (⟨"WhoseName", "lay", "(IIII)I"⟩, prog_1_method_61_code, 6, some .int)
abbrev qX6_get : nv_MI := (⟨"WhoseName", "get", "(III)I"⟩, prog_1_method_62_code, 5, some .int)
abbrev qX6_copy : nv_MI := (⟨"WhoseName", "copy", "(IIIII)I"⟩, prog_1_method_63_code, 8, some .int)
abbrev qX6_write : nv_MI := (⟨"WhoseName", "write", "(II)I"⟩, prog_1_method_64_code, 6, some .int)
abbrev qX6_count : nv_MI := (⟨"WhoseName", "count", "(I)I"⟩, prog_1_method_65_code, 2, some .int)
abbrev qX6_digest : nv_MI := (⟨"WhoseName", "digest", "()J"⟩, prog_1_method_66_code, 4, some .long)
abbrev qX6_digestLaw : nv_MI := (⟨"WhoseName", "digestLaw", "(JLWhoseName$Law;)J"⟩, prog_1_method_67_code, 8, some .long)
abbrev qX6_allOpen : nv_MI := (⟨"WhoseName", "allOpen", "()I"⟩, prog_1_method_68_code, 3, some .int)
abbrev qX6_allPurses : nv_MI := (⟨"WhoseName", "allPurses", "()I"⟩, prog_1_method_69_code, 3, some .int)
abbrev qX6_findingAt : nv_MI := (⟨"WhoseName", "findingAt", "(LWhoseName$Sheet;II)I"⟩, prog_1_method_70_code, 3, some .int)
abbrev qX6_find : nv_MI := (⟨"WhoseName", "find", "(I)I"⟩, prog_1_method_71_code, 2, some .int)
abbrev qX6_isWithin : nv_MI := (⟨"WhoseName", "isWithin", "(III)Z"⟩, prog_1_method_72_code, 3, some .boolean)
abbrev qX6_isFlag : nv_MI := (⟨"WhoseName", "isFlag", "(I)Z"⟩, prog_1_method_73_code, 1, some .boolean)
abbrev qX6_isPerson : nv_MI := (⟨"WhoseName", "isPerson", "(I)Z"⟩, prog_1_method_74_code, 1, some .boolean)
abbrev qX6_isDay : nv_MI := (⟨"WhoseName", "isDay", "(I)Z"⟩, prog_1_method_75_code, 1, some .boolean)
abbrev qX6_isAmount : nv_MI := (⟨"WhoseName", "isAmount", "(I)Z"⟩, prog_1_method_76_code, 1, some .boolean)
abbrev qX6_isLaw : nv_MI := (⟨"WhoseName", "isLaw", "(I)Z"⟩, prog_1_method_77_code, 1, some .boolean)
abbrev qX6_isSheet : nv_MI := (⟨"WhoseName", "isSheet", "(I)Z"⟩, prog_1_method_78_code, 1, some .boolean)
abbrev qX6_isKind : nv_MI := (⟨"WhoseName", "isKind", "(I)Z"⟩, prog_1_method_79_code, 1, some .boolean)
abbrev qX6_isLeave : nv_MI := (⟨"WhoseName", "isLeave", "(I)Z"⟩, prog_1_method_80_code, 2, some .boolean)
abbrev qX6_isBack : nv_MI := (⟨"WhoseName", "isBack", "(I)Z"⟩, prog_1_method_81_code, 2, some .boolean)
abbrev qX6_isBargain : nv_MI := (⟨"WhoseName", "isBargain", "(I)Z"⟩, prog_1_method_82_code, 2, some .boolean)
abbrev qX6_hasBit : nv_MI := (⟨"WhoseName", "hasBit", "(II)Z"⟩, prog_1_method_83_code, 2, some .boolean)
abbrev qX6_leastPerson : nv_MI := (⟨"WhoseName", "leastPerson", "(I)I"⟩, prog_1_method_84_code, 2, some .int)
abbrev qX7_init : nv_MI := (⟨"WhoseNameModel", "<init>", "()V"⟩, prog_9_method_1_code, 2, none)
abbrev qX7_in : nv_MI := (⟨"WhoseNameModel", "in", "(JJJ)Z"⟩, prog_9_method_3_code, 6, some .boolean)
abbrev qX7_isTwo : nv_MI := (⟨"WhoseNameModel", "isTwo", "(I)Z"⟩, prog_9_method_4_code, 1, some .boolean)
abbrev qX7_met : nv_MI := (⟨"WhoseNameModel", "met", "(I)I"⟩, prog_9_method_5_code, 2, some .int)
abbrev qX7_isSheet : nv_MI := (⟨"WhoseNameModel", "isSheet", "(I)Z"⟩, prog_9_method_6_code, 1, some .boolean)
abbrev qX7_sheet : nv_MI := (⟨"WhoseNameModel", "sheet", "(III)I"⟩, prog_9_method_7_code, 5, some .int)
abbrev qX7_lose : nv_MI := (⟨"WhoseNameModel", "lose", "(I)I"⟩, prog_9_method_8_code, 2, some .int)
abbrev qX7_lacks : nv_MI := (⟨"WhoseNameModel", "lacks", "(III)I"⟩, prog_9_method_9_code, 4, some .int)
abbrev qX7_cut : nv_MI := (⟨"WhoseNameModel", "cut", "(II)I"⟩, prog_9_method_10_code, 2, some .int)
abbrev qX7_lay : nv_MI := (⟨"WhoseNameModel", "lay", "(IIII)I"⟩, prog_9_method_11_code, 6, some .int)
abbrev qX7_get : nv_MI := (⟨"WhoseNameModel", "get", "(III)I"⟩, prog_9_method_12_code, 4, some .int)
abbrev qX7_copy : nv_MI := (⟨"WhoseNameModel", "copy", "(IIIII)I"⟩, prog_9_method_13_code, 7, some .int)
abbrev qX7_isPerson : nv_MI := (⟨"WhoseNameModel", "isPerson", "(I)Z"⟩, prog_9_method_14_code, 1, some .boolean)
abbrev qX7_isDay : nv_MI := (⟨"WhoseNameModel", "isDay", "(I)Z"⟩, prog_9_method_15_code, 1, some .boolean)
abbrev qX7_purse : nv_MI := (⟨"WhoseNameModel", "purse", "(II)I"⟩, prog_9_method_16_code, 4, some .int)
abbrev qX7_isLeave : nv_MI := (⟨"WhoseNameModel", "isLeave", "(I)Z"⟩, prog_9_method_17_code, 2, some .boolean)
abbrev qX7_isGiven : nv_MI := (⟨"WhoseNameModel", "isGiven", "(IIII)Z"⟩, prog_9_method_18_code, 6, some .boolean)
abbrev qX7_lays : nv_MI := (⟨"WhoseNameModel", "lays", "(IIIIIIII)V"⟩, prog_9_method_19_code, 9, none)
abbrev qX7_leave : nv_MI := (⟨"WhoseNameModel", "leave", "(IIIIIIII)I"⟩, prog_9_method_20_code, 9, some .int)
abbrev qX7_leaveIs : nv_MI := (⟨"WhoseNameModel", "leaveIs", "(II)I"⟩, prog_9_method_21_code, 3, some .int)
abbrev qX7_isBack : nv_MI := (⟨"WhoseNameModel", "isBack", "(I)Z"⟩, prog_9_method_22_code, 2, some .boolean)
abbrev qX7_back : nv_MI := (⟨"WhoseNameModel", "back", "(IIII)I"⟩, prog_9_method_23_code, 5, some .int)
abbrev qX7_heard : nv_MI := (⟨"WhoseNameModel", "heard", "(II)I"⟩, prog_9_method_24_code, 3, some .int)
abbrev qX7_isBargain : nv_MI := (⟨"WhoseNameModel", "isBargain", "(I)Z"⟩, prog_9_method_25_code, 2, some .boolean)
abbrev qX7_bargain : nv_MI := (⟨"WhoseNameModel", "bargain", "(IIIIII)I"⟩, prog_9_method_26_code, 8, some .int)
abbrev qX7_read : nv_MI := (⟨"WhoseNameModel", "read", "(I)I"⟩, prog_9_method_27_code, 5, some .int)
abbrev qX7_after : nv_MI := (⟨"WhoseNameModel", "after", "(IIIII)I"⟩, prog_9_method_28_code, 6, some .int)
abbrev qX7_bargainIs : nv_MI := (⟨"WhoseNameModel", "bargainIs", "(II)I"⟩, prog_9_method_29_code, 3, some .int)
abbrev qX7_type : nv_MI := (⟨"WhoseNameModel", "type", "(II)I"⟩, prog_9_method_30_code, 3, some .int)
abbrev qX7_wipe : nv_MI := (⟨"WhoseNameModel", "wipe", "(I)I"⟩, prog_9_method_31_code, 3, some .int)
abbrev qX7_here : nv_MI := (⟨"WhoseNameModel", "here", "(I)I"⟩, prog_9_method_32_code, 2, some .int)
abbrev qX7_usual : nv_MI := (⟨"WhoseNameModel", "usual", "(I)I"⟩, prog_9_method_33_code, 1, some .int)
abbrev qX7_greatest : nv_MI := (⟨"WhoseNameModel", "greatest", "(I)I"⟩, prog_9_method_34_code, 1, some .int)
abbrev qX7_letterOf : nv_MI := (⟨"WhoseNameModel", "letterOf", "(I)I"⟩, prog_9_method_35_code, 1, some .int)
abbrev qX7_clears : nv_MI := (⟨"WhoseNameModel", "clears", "(I)V"⟩, prog_9_method_36_code, 3, none)
abbrev qX7_readsPart : nv_MI := (⟨"WhoseNameModel", "readsPart", "(I)Z"⟩, prog_9_method_37_code, 5, some .boolean)
abbrev qX7_reads : nv_MI := (⟨"WhoseNameModel", "reads", "(I)I"⟩, prog_9_method_38_code, 3, some .int)
abbrev qX7_fault : nv_MI := (⟨"WhoseNameModel", "fault", "(I)I"⟩, prog_9_method_39_code, 2, some .int)
abbrev qX7_lawOf : nv_MI := (⟨"WhoseNameModel", "lawOf", "(II)I"⟩, prog_9_method_40_code, 3, some .int)
abbrev qX7_law : nv_MI := (⟨"WhoseNameModel", "law", "(II)I"⟩, prog_9_method_41_code, 3, some .int)
abbrev qX7_goes : nv_MI := (⟨"WhoseNameModel", "goes", "(I)V"⟩, prog_9_method_42_code, 3, none)
abbrev qX7_isEnded : nv_MI := (⟨"WhoseNameModel", "isEnded", "(II)Z"⟩, prog_9_method_43_code, 8, some .boolean)
abbrev qX7_limitOf : nv_MI := (⟨"WhoseNameModel", "limitOf", "(I)I"⟩, prog_9_method_44_code, 2, some .int)
abbrev qX7_has : nv_MI := (⟨"WhoseNameModel", "has", "(II)Z"⟩, prog_9_method_45_code, 5, some .boolean)
abbrev qX7_reachesNow : nv_MI := (⟨"WhoseNameModel", "reachesNow", "(II)Z"⟩, prog_9_method_46_code, 7, some .boolean)
abbrev qX7_firstLeave : nv_MI := (⟨"WhoseNameModel", "firstLeave", "(I)I"⟩, prog_9_method_47_code, 3, some .int)
abbrev qX7_isWell : nv_MI := (⟨"WhoseNameModel", "isWell", "(I)Z"⟩, prog_9_method_48_code, 7, some .boolean)
abbrev qX7_boundNow : nv_MI := (⟨"WhoseNameModel", "boundNow", "(I)I"⟩, prog_9_method_49_code, 5, some .int)
abbrev qX7_reaches : nv_MI := (⟨"WhoseNameModel", "reaches", "(IIII)I"⟩, prog_9_method_50_code, 5, some .int)
abbrev qX7_boundOf : nv_MI := (⟨"WhoseNameModel", "boundOf", "(III)I"⟩, prog_9_method_51_code, 5, some .int)
abbrev qX7_bound : nv_MI := (⟨"WhoseNameModel", "bound", "(III)I"⟩, prog_9_method_52_code, 4, some .int)
abbrev qX7_till : nv_MI := (⟨"WhoseNameModel", "till", "(II)I"⟩, prog_9_method_53_code, 4, some .int)
abbrev qX7_askNow : nv_MI := (⟨"WhoseNameModel", "askNow", "(II)I"⟩, prog_9_method_54_code, 4, some .int)
abbrev qX7_ask : nv_MI := (⟨"WhoseNameModel", "ask", "(III)I"⟩, prog_9_method_55_code, 4, some .int)
abbrev qX7_owesNow : nv_MI := (⟨"WhoseNameModel", "owesNow", "(I)I"⟩, prog_9_method_56_code, 4, some .int)
abbrev qX7_owesOf : nv_MI := (⟨"WhoseNameModel", "owesOf", "(II)I"⟩, prog_9_method_57_code, 3, some .int)
abbrev qX7_owes : nv_MI := (⟨"WhoseNameModel", "owes", "(II)I"⟩, prog_9_method_58_code, 3, some .int)
abbrev qX7_pays : nv_MI := (⟨"WhoseNameModel", "pays", "(III)I"⟩, prog_9_method_59_code, 6, some .int)
abbrev qX7_settles : nv_MI := (⟨"WhoseNameModel", "settles", "(I)V"⟩, prog_9_method_60_code, 10, none)
abbrev qX7_findEnd : nv_MI := (⟨"WhoseNameModel", "findEnd", "(I)V"⟩, prog_9_method_61_code, 3, none)
abbrev qX7_end : nv_MI := (⟨"WhoseNameModel", "end", "(III)I"⟩, prog_9_method_62_code, 4, some .int)
abbrev qX7_findOpen : nv_MI := (⟨"WhoseNameModel", "findOpen", "()V"⟩, prog_9_method_63_code, 2, none)
abbrev qX7_findWays : nv_MI := (⟨"WhoseNameModel", "findWays", "(II)V"⟩, prog_9_method_64_code, 5, none)
abbrev qX7_sure : nv_MI := (⟨"WhoseNameModel", "sure", "(III)I"⟩, prog_9_method_65_code, 6, some .int)
abbrev qX7_hangs : nv_MI := (⟨"WhoseNameModel", "hangs", "(III)I"⟩, prog_9_method_66_code, 7, some .int)
abbrev qX7_ones : nv_MI := (⟨"WhoseNameModel", "ones", "(I)I"⟩, prog_9_method_67_code, 3, some .int)
abbrev qX7_isEnough : nv_MI := (⟨"WhoseNameModel", "isEnough", "(I)Z"⟩, prog_9_method_68_code, 4, some .boolean)
abbrev qX7_wanted : nv_MI := (⟨"WhoseNameModel", "wanted", "(II)I"⟩, prog_9_method_69_code, 6, some .int)
abbrev qX7_turnedOf : nv_MI := (⟨"WhoseNameModel", "turnedOf", "(I)I"⟩, prog_9_method_70_code, 6, some .int)
abbrev qX7_turned : nv_MI := (⟨"WhoseNameModel", "turned", "(I)I"⟩, prog_9_method_71_code, 2, some .int)
abbrev qX7_isJust : nv_MI := (⟨"WhoseNameModel", "isJust", "(IIII)Z"⟩, prog_9_method_72_code, 7, some .boolean)
abbrev qX7_isOfBoth : nv_MI := (⟨"WhoseNameModel", "isOfBoth", "(III)Z"⟩, prog_9_method_73_code, 6, some .boolean)
abbrev qX7_letter : nv_MI := (⟨"WhoseNameModel", "letter", "(IIII)I"⟩, prog_9_method_74_code, 9, some .int)
abbrev qX7_write : nv_MI := (⟨"WhoseNameModel", "write", "(II)I"⟩, prog_9_method_75_code, 5, some .int)
abbrev qX7_count : nv_MI := (⟨"WhoseNameModel", "count", "(I)I"⟩, prog_9_method_76_code, 4, some .int)
abbrev qX7_digest : nv_MI := (⟨"WhoseNameModel", "digest", "()J"⟩, prog_9_method_77_code, 5, some .long)
abbrev qJ6_bitCount : nv_MI := (⟨"java/lang/Integer", "bitCount", "(I)I"⟩, prog_10_method_49_code, 1, some .int)
abbrev qJ9_max : nv_MI := (⟨"java/lang/Math", "max", "(II)I"⟩, prog_11_method_65_code, 2, some .int)
abbrev qJ9_min : nv_MI := (⟨"java/lang/Math", "min", "(II)I"⟩, prog_11_method_69_code, 2, some .int)
abbrev qL_law : nv_MI := (x, code, maxLocals, ret)
