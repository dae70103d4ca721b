def wG : List Cond := lw_tbl.filter goodWord
theorem wG_of {w : Cond} (h : w ∈ lw_tbl) (hg : goodWord w = true) : w ∈ wG := List.mem_filter.mpr ⟨h, hg⟩
theorem wG_good {w : Cond} (h : w ∈ wG) : (w.onTables && w.keeps) = true ∨ ∃ ty, w = .arrayClass ty := good_of_word (List.mem_filter.mp h).2
abbrev R_P : String := "PulsePlotter"
def F_P : u_T := fun k => match k with
  | 0 => ("PulsePlotter", "text", "LPulsePlotter$Text;", true)
  | 1 => ("PulsePlotter", "words", "LPulsePlotter$Words;", true)
  | 2 => ("PulsePlotter", "straight", "LPulsePlotter$Straight;", true)
  | 3 => ("PulsePlotter", "arc", "LPulsePlotter$Arc;", true)
  | 4 => ("PulsePlotter", "way", "LPulsePlotter$Way;", false)
  | 5 => ("PulsePlotter", "done", "I", false)
  | 6 => ("PulsePlotter", "left", "I", false)
  | 7 => ("PulsePlotter", "nextLineStart", "I", false)
  | 8 => ("PulsePlotter", "line", "I", false)
  | 9 => ("PulsePlotter", "state", "I", false)
  | 10 => ("PulsePlotter", "ending", "Z", false)
  | 11 => ("PulsePlotter", "x", "I", false)
  | 12 => ("PulsePlotter", "y", "I", false)
  | 13 => ("PulsePlotter", "time", "J", false)
  | 14 => ("PulsePlotter", "pulses", "I", false)
  | 15 => ("PulsePlotter", "last", "I", false)
  | 16 => ("PulsePlotter", "feedRate", "I", false)
  | 17 => ("PulsePlotter", "motion", "I", false)
  | _ => ("PulsePlotter", "relative", "Z", false)
def fy_P : Nat → FieldType := fun k => match k with
  | 0 => .object "PulsePlotter$Text"
  | 1 => .object "PulsePlotter$Words"
  | 2 => .object "PulsePlotter$Straight"
  | 3 => .object "PulsePlotter$Arc"
  | 4 => .object "PulsePlotter$Way"
  | 5 => .int
  | 6 => .int
  | 7 => .int
  | 8 => .int
  | 9 => .int
  | 10 => .boolean
  | 11 => .int
  | 12 => .int
  | 13 => .long
  | 14 => .int
  | 15 => .int
  | 16 => .int
  | 17 => .int
  | _ => .boolean
theorem n_P : ∀ a, a < 19 → ∀ b, b < 19 → a ≠ b → (F_P a).2.1 ≠ (F_P b).2.1 := by decide +kernel
theorem fy_P_ok : ∀ k, k < 19 → parseFieldDescriptor (F_P k).2.2.1 = some (fy_P k) := by decide +kernel
theorem hin_P : ∀ w ∈ u_ws R_P F_P 19, w ∈ wG := by
  intro w h
  obtain ⟨k, hk, rfl⟩ := List.mem_map.mp h
  have hk := List.mem_range.mp hk
  rcases (by omega : k = 0 ∨ k = 1 ∨ k = 2 ∨ k = 3 ∨ k = 4 ∨ k = 5 ∨ k = 6 ∨ k = 7 ∨ k = 8 ∨ k = 9 ∨ k = 10 ∨ k = 11 ∨ k = 12 ∨ k = 13 ∨ k = 14 ∨ k = 15 ∨ k = 16 ∨ k = 17 ∨ k = 18) with rfl | rfl | rfl | rfl | rfl | rfl | rfl | rfl | rfl | rfl | rfl | rfl | rfl | rfl | rfl | rfl | rfl | rfl | rfl
  · exact wG_of (List.mem_append_right _ (List.mem_append_left _ (List.mem_of_getElem? (i := 145) (by rfl)))) rfl
  · exact wG_of (List.mem_append_right _ (List.mem_append_left _ (List.mem_of_getElem? (i := 147) (by rfl)))) rfl
  · exact wG_of (List.mem_append_right _ (List.mem_append_left _ (List.mem_of_getElem? (i := 149) (by rfl)))) rfl
  · exact wG_of (List.mem_append_right _ (List.mem_append_left _ (List.mem_of_getElem? (i := 151) (by rfl)))) rfl
  · exact wG_of (List.mem_append_right _ (List.mem_append_left _ (List.mem_of_getElem? (i := 153) (by rfl)))) rfl
  · exact wG_of (List.mem_append_right _ (List.mem_append_left _ (List.mem_of_getElem? (i := 155) (by rfl)))) rfl
  · exact wG_of (List.mem_append_right _ (List.mem_append_left _ (List.mem_of_getElem? (i := 157) (by rfl)))) rfl
  · exact wG_of (List.mem_append_right _ (List.mem_append_left _ (List.mem_of_getElem? (i := 159) (by rfl)))) rfl
  · exact wG_of (List.mem_append_right _ (List.mem_append_left _ (List.mem_of_getElem? (i := 161) (by rfl)))) rfl
  · exact wG_of (List.mem_append_right _ (List.mem_append_left _ (List.mem_of_getElem? (i := 163) (by rfl)))) rfl
  · exact wG_of (List.mem_append_right _ (List.mem_append_left _ (List.mem_of_getElem? (i := 165) (by rfl)))) rfl
  · exact wG_of (List.mem_append_right _ (List.mem_append_left _ (List.mem_of_getElem? (i := 167) (by rfl)))) rfl
  · exact wG_of (List.mem_append_right _ (List.mem_append_left _ (List.mem_of_getElem? (i := 169) (by rfl)))) rfl
  · exact wG_of (List.mem_append_right _ (List.mem_append_left _ (List.mem_of_getElem? (i := 171) (by rfl)))) rfl
  · exact wG_of (List.mem_append_right _ (List.mem_append_left _ (List.mem_of_getElem? (i := 173) (by rfl)))) rfl
  · exact wG_of (List.mem_append_right _ (List.mem_append_left _ (List.mem_of_getElem? (i := 175) (by rfl)))) rfl
  · exact wG_of (List.mem_append_right _ (List.mem_append_left _ (List.mem_of_getElem? (i := 177) (by rfl)))) rfl
  · exact wG_of (List.mem_append_right _ (List.mem_append_left _ (List.mem_of_getElem? (i := 179) (by rfl)))) rfl
  · exact wG_of (List.mem_append_right _ (List.mem_append_left _ (List.mem_of_getElem? (i := 181) (by rfl)))) rfl
abbrev R_T : String := "PulsePlotter$Text"
def F_T : u_T := fun k => match k with
  | 0 => ("PulsePlotter$Text", "codes", "[C", true)
  | _ => ("PulsePlotter$Text", "size", "I", false)
def fy_T : Nat → FieldType := fun k => match k with
  | 0 => .array .char
  | _ => .int
theorem n_T : ∀ a, a < 2 → ∀ b, b < 2 → a ≠ b → (F_T a).2.1 ≠ (F_T b).2.1 := by decide +kernel
theorem fy_T_ok : ∀ k, k < 2 → parseFieldDescriptor (F_T k).2.2.1 = some (fy_T k) := by decide +kernel
theorem hin_T : ∀ w ∈ u_ws R_T F_T 2, w ∈ wG := by
  intro w h
  obtain ⟨k, hk, rfl⟩ := List.mem_map.mp h
  have hk := List.mem_range.mp hk
  rcases (by omega : k = 0 ∨ k = 1) with rfl | rfl
  · exact wG_of (List.mem_append_right _ (List.mem_append_left _ (List.mem_of_getElem? (i := 30) (by rfl)))) rfl
  · exact wG_of (List.mem_append_right _ (List.mem_append_left _ (List.mem_of_getElem? (i := 32) (by rfl)))) rfl
abbrev R_W : String := "PulsePlotter$Words"
def F_W : u_T := fun k => match k with
  | 0 => ("PulsePlotter$Words", "row", "[C", true)
  | 1 => ("PulsePlotter$Words", "rowSize", "I", false)
  | 2 => ("PulsePlotter$Words", "at", "I", false)
  | 3 => ("PulsePlotter$Words", "present", "[Z", true)
  | 4 => ("PulsePlotter$Words", "numbers", "[I", true)
  | 5 => ("PulsePlotter$Words", "motion", "I", false)
  | _ => ("PulsePlotter$Words", "distances", "I", false)
def fy_W : Nat → FieldType := fun k => match k with
  | 0 => .array .char
  | 1 => .int
  | 2 => .int
  | 3 => .array .boolean
  | 4 => .array .int
  | 5 => .int
  | _ => .int
theorem n_W : ∀ a, a < 7 → ∀ b, b < 7 → a ≠ b → (F_W a).2.1 ≠ (F_W b).2.1 := by decide +kernel
theorem fy_W_ok : ∀ k, k < 7 → parseFieldDescriptor (F_W k).2.2.1 = some (fy_W k) := by decide +kernel
theorem hin_W : ∀ w ∈ u_ws R_W F_W 7, w ∈ wG := by
  intro w h
  obtain ⟨k, hk, rfl⟩ := List.mem_map.mp h
  have hk := List.mem_range.mp hk
  rcases (by omega : k = 0 ∨ k = 1 ∨ k = 2 ∨ k = 3 ∨ k = 4 ∨ k = 5 ∨ k = 6) with rfl | rfl | rfl | rfl | rfl | rfl | rfl
  · exact wG_of (List.mem_append_right _ (List.mem_append_left _ (List.mem_of_getElem? (i := 49) (by rfl)))) rfl
  · exact wG_of (List.mem_append_right _ (List.mem_append_left _ (List.mem_of_getElem? (i := 51) (by rfl)))) rfl
  · exact wG_of (List.mem_append_right _ (List.mem_append_left _ (List.mem_of_getElem? (i := 53) (by rfl)))) rfl
  · exact wG_of (List.mem_append_right _ (List.mem_append_left _ (List.mem_of_getElem? (i := 55) (by rfl)))) rfl
  · exact wG_of (List.mem_append_right _ (List.mem_append_left _ (List.mem_of_getElem? (i := 57) (by rfl)))) rfl
  · exact wG_of (List.mem_append_right _ (List.mem_append_left _ (List.mem_of_getElem? (i := 59) (by rfl)))) rfl
  · exact wG_of (List.mem_append_right _ (List.mem_append_left _ (List.mem_of_getElem? (i := 61) (by rfl)))) rfl
abbrev R_S : String := "PulsePlotter$Straight"
def F_S : u_T := fun k => match k with
  | 0 => ("PulsePlotter$Straight", "startX", "I", false)
  | 1 => ("PulsePlotter$Straight", "startY", "I", false)
  | 2 => ("PulsePlotter$Straight", "dx", "I", false)
  | 3 => ("PulsePlotter$Straight", "dy", "I", false)
  | _ => ("PulsePlotter$Straight", "size", "I", false)
def fy_S : Nat → FieldType := fun k => match k with
  | 0 => .int
  | 1 => .int
  | 2 => .int
  | 3 => .int
  | _ => .int
theorem n_S : ∀ a, a < 5 → ∀ b, b < 5 → a ≠ b → (F_S a).2.1 ≠ (F_S b).2.1 := by decide +kernel
theorem fy_S_ok : ∀ k, k < 5 → parseFieldDescriptor (F_S k).2.2.1 = some (fy_S k) := by decide +kernel
theorem hin_S : ∀ w ∈ u_ws R_S F_S 5, w ∈ wG := by
  intro w h
  obtain ⟨k, hk, rfl⟩ := List.mem_map.mp h
  have hk := List.mem_range.mp hk
  rcases (by omega : k = 0 ∨ k = 1 ∨ k = 2 ∨ k = 3 ∨ k = 4) with rfl | rfl | rfl | rfl | rfl
  · exact wG_of (List.mem_append_right _ (List.mem_append_left _ (List.mem_of_getElem? (i := 80) (by rfl)))) rfl
  · exact wG_of (List.mem_append_right _ (List.mem_append_left _ (List.mem_of_getElem? (i := 82) (by rfl)))) rfl
  · exact wG_of (List.mem_append_right _ (List.mem_append_left _ (List.mem_of_getElem? (i := 84) (by rfl)))) rfl
  · exact wG_of (List.mem_append_right _ (List.mem_append_left _ (List.mem_of_getElem? (i := 86) (by rfl)))) rfl
  · exact wG_of (List.mem_append_right _ (List.mem_append_left _ (List.mem_of_getElem? (i := 88) (by rfl)))) rfl
abbrev R_A : String := "PulsePlotter$Arc"
def F_A : u_T := fun k => match k with
  | 0 => ("PulsePlotter$Arc", "reach", "[I", true)
  | 1 => ("PulsePlotter$Arc", "centreX", "I", false)
  | 2 => ("PulsePlotter$Arc", "centreY", "I", false)
  | 3 => ("PulsePlotter$Arc", "diagonal", "I", false)
  | 4 => ("PulsePlotter$Arc", "side", "I", false)
  | 5 => ("PulsePlotter$Arc", "first", "I", false)
  | 6 => ("PulsePlotter$Arc", "turn", "I", false)
  | _ => ("PulsePlotter$Arc", "size", "I", false)
def fy_A : Nat → FieldType := fun k => match k with
  | 0 => .array .int
  | 1 => .int
  | 2 => .int
  | 3 => .int
  | 4 => .int
  | 5 => .int
  | 6 => .int
  | _ => .int
theorem n_A : ∀ a, a < 8 → ∀ b, b < 8 → a ≠ b → (F_A a).2.1 ≠ (F_A b).2.1 := by decide +kernel
theorem fy_A_ok : ∀ k, k < 8 → parseFieldDescriptor (F_A k).2.2.1 = some (fy_A k) := by decide +kernel
theorem hin_A : ∀ w ∈ u_ws R_A F_A 8, w ∈ wG := by
  intro w h
  obtain ⟨k, hk, rfl⟩ := List.mem_map.mp h
  have hk := List.mem_range.mp hk
  rcases (by omega : k = 0 ∨ k = 1 ∨ k = 2 ∨ k = 3 ∨ k = 4 ∨ k = 5 ∨ k = 6 ∨ k = 7) with rfl | rfl | rfl | rfl | rfl | rfl | rfl | rfl
  · exact wG_of (List.mem_append_right _ (List.mem_append_left _ (List.mem_of_getElem? (i := 105) (by rfl)))) rfl
  · exact wG_of (List.mem_append_right _ (List.mem_append_left _ (List.mem_of_getElem? (i := 107) (by rfl)))) rfl
  · exact wG_of (List.mem_append_right _ (List.mem_append_left _ (List.mem_of_getElem? (i := 109) (by rfl)))) rfl
  · exact wG_of (List.mem_append_right _ (List.mem_append_left _ (List.mem_of_getElem? (i := 111) (by rfl)))) rfl
  · exact wG_of (List.mem_append_right _ (List.mem_append_left _ (List.mem_of_getElem? (i := 113) (by rfl)))) rfl
  · exact wG_of (List.mem_append_right _ (List.mem_append_left _ (List.mem_of_getElem? (i := 115) (by rfl)))) rfl
  · exact wG_of (List.mem_append_right _ (List.mem_append_left _ (List.mem_of_getElem? (i := 117) (by rfl)))) rfl
  · exact wG_of (List.mem_append_right _ (List.mem_append_left _ (List.mem_of_getElem? (i := 119) (by rfl)))) rfl
abbrev R_M : String := "PulsePlotterModel"
def F_M : u_T := fun k => match k with
  | 0 => ("PulsePlotterModel", "text", "[I", true)
  | 1 => ("PulsePlotterModel", "length", "I", false)
  | 2 => ("PulsePlotterModel", "at", "I", false)
  | 3 => ("PulsePlotterModel", "lines", "I", false)
  | 4 => ("PulsePlotterModel", "x", "I", false)
  | 5 => ("PulsePlotterModel", "y", "I", false)
  | 6 => ("PulsePlotterModel", "mode", "I", false)
  | 7 => ("PulsePlotterModel", "feed", "I", false)
  | 8 => ("PulsePlotterModel", "state", "I", false)
  | 9 => ("PulsePlotterModel", "pulses", "I", false)
  | 10 => ("PulsePlotterModel", "last", "I", false)
  | 11 => ("PulsePlotterModel", "shown", "I", false)
  | 12 => ("PulsePlotterModel", "relative", "Z", false)
  | 13 => ("PulsePlotterModel", "ending", "Z", false)
  | 14 => ("PulsePlotterModel", "time", "J", false)
  | 15 => ("PulsePlotterModel", "pause", "J", false)
  | 16 => ("PulsePlotterModel", "kind", "I", false)
  | 17 => ("PulsePlotterModel", "made", "I", false)
  | 18 => ("PulsePlotterModel", "all", "I", false)
  | 19 => ("PulsePlotterModel", "fromX", "I", false)
  | 20 => ("PulsePlotterModel", "fromY", "I", false)
  | 21 => ("PulsePlotterModel", "wayX", "I", false)
  | 22 => ("PulsePlotterModel", "wayY", "I", false)
  | 23 => ("PulsePlotterModel", "px", "[I", true)
  | 24 => ("PulsePlotterModel", "py", "[I", true)
  | 25 => ("PulsePlotterModel", "points", "I", false)
  | 26 => ("PulsePlotterModel", "centreX", "I", false)
  | 27 => ("PulsePlotterModel", "centreY", "I", false)
  | 28 => ("PulsePlotterModel", "number", "[I", true)
  | 29 => ("PulsePlotterModel", "there", "I", false)
  | 30 => ("PulsePlotterModel", "newMode", "I", false)
  | 31 => ("PulsePlotterModel", "newWay", "I", false)
  | 32 => ("PulsePlotterModel", "newFeed", "I", false)
  | _ => ("PulsePlotterModel", "ends", "I", false)
def fy_M : Nat → FieldType := fun k => match k with
  | 0 => .array .int
  | 1 => .int
  | 2 => .int
  | 3 => .int
  | 4 => .int
  | 5 => .int
  | 6 => .int
  | 7 => .int
  | 8 => .int
  | 9 => .int
  | 10 => .int
  | 11 => .int
  | 12 => .boolean
  | 13 => .boolean
  | 14 => .long
  | 15 => .long
  | 16 => .int
  | 17 => .int
  | 18 => .int
  | 19 => .int
  | 20 => .int
  | 21 => .int
  | 22 => .int
  | 23 => .array .int
  | 24 => .array .int
  | 25 => .int
  | 26 => .int
  | 27 => .int
  | 28 => .array .int
  | 29 => .int
  | 30 => .int
  | 31 => .int
  | 32 => .int
  | _ => .int
theorem n_M : ∀ a, a < 34 → ∀ b, b < 34 → a ≠ b → (F_M a).2.1 ≠ (F_M b).2.1 := by decide +kernel
theorem fy_M_ok : ∀ k, k < 34 → parseFieldDescriptor (F_M k).2.2.1 = some (fy_M k) := by decide +kernel
theorem hin_M : ∀ w ∈ u_ws R_M F_M 34, w ∈ wG := by
  intro w h
  obtain ⟨k, hk, rfl⟩ := List.mem_map.mp h
  have hk := List.mem_range.mp hk
  rcases (by omega : k = 0 ∨ k = 1 ∨ k = 2 ∨ k = 3 ∨ k = 4 ∨ k = 5 ∨ k = 6 ∨ k = 7 ∨ k = 8 ∨ k = 9 ∨ k = 10 ∨ k = 11 ∨ k = 12 ∨ k = 13 ∨ k = 14 ∨ k = 15 ∨ k = 16 ∨ k = 17 ∨ k = 18 ∨ k = 19 ∨ k = 20 ∨ k = 21 ∨ k = 22 ∨ k = 23 ∨ k = 24 ∨ k = 25 ∨ k = 26 ∨ k = 27 ∨ k = 28 ∨ k = 29 ∨ k = 30 ∨ k = 31 ∨ k = 32 ∨ k = 33) with rfl | rfl | rfl | rfl | rfl | rfl | rfl | rfl | rfl | rfl | rfl | rfl | rfl | rfl | rfl | rfl | rfl | rfl | rfl | rfl | rfl | rfl | rfl | rfl | rfl | rfl | rfl | rfl | rfl | rfl | rfl | rfl | rfl | rfl
  · exact wG_of (List.mem_append_right _ (List.mem_append_right _ (List.mem_append_right _ (List.mem_append_left _ (List.mem_of_getElem? (i := 77) (by rfl)))))) rfl
  · exact wG_of (List.mem_append_right _ (List.mem_append_right _ (List.mem_append_right _ (List.mem_append_left _ (List.mem_of_getElem? (i := 79) (by rfl)))))) rfl
  · exact wG_of (List.mem_append_right _ (List.mem_append_right _ (List.mem_append_right _ (List.mem_append_left _ (List.mem_of_getElem? (i := 81) (by rfl)))))) rfl
  · exact wG_of (List.mem_append_right _ (List.mem_append_right _ (List.mem_append_right _ (List.mem_append_left _ (List.mem_of_getElem? (i := 83) (by rfl)))))) rfl
  · exact wG_of (List.mem_append_right _ (List.mem_append_right _ (List.mem_append_right _ (List.mem_append_left _ (List.mem_of_getElem? (i := 85) (by rfl)))))) rfl
  · exact wG_of (List.mem_append_right _ (List.mem_append_right _ (List.mem_append_right _ (List.mem_append_left _ (List.mem_of_getElem? (i := 87) (by rfl)))))) rfl
  · exact wG_of (List.mem_append_right _ (List.mem_append_right _ (List.mem_append_right _ (List.mem_append_left _ (List.mem_of_getElem? (i := 89) (by rfl)))))) rfl
  · exact wG_of (List.mem_append_right _ (List.mem_append_right _ (List.mem_append_right _ (List.mem_append_left _ (List.mem_of_getElem? (i := 91) (by rfl)))))) rfl
  · exact wG_of (List.mem_append_right _ (List.mem_append_right _ (List.mem_append_right _ (List.mem_append_left _ (List.mem_of_getElem? (i := 93) (by rfl)))))) rfl
  · exact wG_of (List.mem_append_right _ (List.mem_append_right _ (List.mem_append_right _ (List.mem_append_left _ (List.mem_of_getElem? (i := 95) (by rfl)))))) rfl
  · exact wG_of (List.mem_append_right _ (List.mem_append_right _ (List.mem_append_right _ (List.mem_append_left _ (List.mem_of_getElem? (i := 97) (by rfl)))))) rfl
  · exact wG_of (List.mem_append_right _ (List.mem_append_right _ (List.mem_append_right _ (List.mem_append_left _ (List.mem_of_getElem? (i := 99) (by rfl)))))) rfl
  · exact wG_of (List.mem_append_right _ (List.mem_append_right _ (List.mem_append_right _ (List.mem_append_left _ (List.mem_of_getElem? (i := 101) (by rfl)))))) rfl
  · exact wG_of (List.mem_append_right _ (List.mem_append_right _ (List.mem_append_right _ (List.mem_append_left _ (List.mem_of_getElem? (i := 103) (by rfl)))))) rfl
  · exact wG_of (List.mem_append_right _ (List.mem_append_right _ (List.mem_append_right _ (List.mem_append_left _ (List.mem_of_getElem? (i := 105) (by rfl)))))) rfl
  · exact wG_of (List.mem_append_right _ (List.mem_append_right _ (List.mem_append_right _ (List.mem_append_left _ (List.mem_of_getElem? (i := 107) (by rfl)))))) rfl
  · exact wG_of (List.mem_append_right _ (List.mem_append_right _ (List.mem_append_right _ (List.mem_append_left _ (List.mem_of_getElem? (i := 109) (by rfl)))))) rfl
  · exact wG_of (List.mem_append_right _ (List.mem_append_right _ (List.mem_append_right _ (List.mem_append_left _ (List.mem_of_getElem? (i := 111) (by rfl)))))) rfl
  · exact wG_of (List.mem_append_right _ (List.mem_append_right _ (List.mem_append_right _ (List.mem_append_left _ (List.mem_of_getElem? (i := 113) (by rfl)))))) rfl
  · exact wG_of (List.mem_append_right _ (List.mem_append_right _ (List.mem_append_right _ (List.mem_append_left _ (List.mem_of_getElem? (i := 115) (by rfl)))))) rfl
  · exact wG_of (List.mem_append_right _ (List.mem_append_right _ (List.mem_append_right _ (List.mem_append_left _ (List.mem_of_getElem? (i := 117) (by rfl)))))) rfl
  · exact wG_of (List.mem_append_right _ (List.mem_append_right _ (List.mem_append_right _ (List.mem_append_left _ (List.mem_of_getElem? (i := 119) (by rfl)))))) rfl
  · exact wG_of (List.mem_append_right _ (List.mem_append_right _ (List.mem_append_right _ (List.mem_append_left _ (List.mem_of_getElem? (i := 121) (by rfl)))))) rfl
  · exact wG_of (List.mem_append_right _ (List.mem_append_right _ (List.mem_append_right _ (List.mem_append_left _ (List.mem_of_getElem? (i := 123) (by rfl)))))) rfl
  · exact wG_of (List.mem_append_right _ (List.mem_append_right _ (List.mem_append_right _ (List.mem_append_left _ (List.mem_of_getElem? (i := 125) (by rfl)))))) rfl
  · exact wG_of (List.mem_append_right _ (List.mem_append_right _ (List.mem_append_right _ (List.mem_append_left _ (List.mem_of_getElem? (i := 127) (by rfl)))))) rfl
  · exact wG_of (List.mem_append_right _ (List.mem_append_right _ (List.mem_append_right _ (List.mem_append_left _ (List.mem_of_getElem? (i := 129) (by rfl)))))) rfl
  · exact wG_of (List.mem_append_right _ (List.mem_append_right _ (List.mem_append_right _ (List.mem_append_left _ (List.mem_of_getElem? (i := 131) (by rfl)))))) rfl
  · exact wG_of (List.mem_append_right _ (List.mem_append_right _ (List.mem_append_right _ (List.mem_append_left _ (List.mem_of_getElem? (i := 133) (by rfl)))))) rfl
  · exact wG_of (List.mem_append_right _ (List.mem_append_right _ (List.mem_append_right _ (List.mem_append_left _ (List.mem_of_getElem? (i := 135) (by rfl)))))) rfl
  · exact wG_of (List.mem_append_right _ (List.mem_append_right _ (List.mem_append_right _ (List.mem_append_left _ (List.mem_of_getElem? (i := 137) (by rfl)))))) rfl
  · exact wG_of (List.mem_append_right _ (List.mem_append_right _ (List.mem_append_right _ (List.mem_append_left _ (List.mem_of_getElem? (i := 139) (by rfl)))))) rfl
  · exact wG_of (List.mem_append_right _ (List.mem_append_right _ (List.mem_append_right _ (List.mem_append_left _ (List.mem_of_getElem? (i := 141) (by rfl)))))) rfl
  · exact wG_of (List.mem_append_right _ (List.mem_append_right _ (List.mem_append_right _ (List.mem_append_left _ (List.mem_of_getElem? (i := 143) (by rfl)))))) rfl
abbrev cls : List vw_C := [(R_P, F_P, 19), (R_T, F_T, 2), (R_W, F_W, 7), (R_S, F_S, 5), (R_A, F_A, 8), (R_M, F_M, 34)]
abbrev tys (K : Nat → ClassId) : List (ClassId × FieldType) := [(K 0, .char), (K 1, .char), (K 2, .boolean), (K 3, .int), (K 4, .int), (K 5, .int), (K 6, .int), (K 7, .int), (K 8, .int)]
abbrev o_P (a : Nat → Nat) (p_way : Bool) (p_done p_left p_nextLineStart p_line p_state p_ending p_x p_y : Int32) (p_time : Int64) (p_pulses p_last p_feedRate p_motion p_relative : Int32) : Nat × va_E := (a 0, .inr (0, [.ref (a 1), .ref (a 3), .ref (a 7), .ref (a 8), .ref (bif p_way then a 8 else a 7), .int p_done, .int p_left, .int p_nextLineStart, .int p_line, .int p_state, .int p_ending, .int p_x, .int p_y, .long p_time, .int p_pulses, .int p_last, .int p_feedRate, .int p_motion, .int p_relative]))
abbrev o_T (a : Nat → Nat) (t_size : Int32) : Nat × va_E := (a 1, .inr (1, [.ref (a 2), .int t_size]))
abbrev o_tc (a : Nat → Nat) (K : Nat → ClassId) (f : Nat → Int32) : Nat × va_E := (a 2, .inl (K 0, 400, .inl f))
abbrev o_W (a : Nat → Nat) (w_rowSize w_at w_motion w_distances : Int32) : Nat × va_E := (a 3, .inr (2, [.ref (a 4), .int w_rowSize, .int w_at, .ref (a 5), .ref (a 6), .int w_motion, .int w_distances]))
abbrev o_wr (a : Nat → Nat) (K : Nat → ClassId) (f : Nat → Int32) : Nat × va_E := (a 4, .inl (K 1, 400, .inl f))
abbrev o_wz (a : Nat → Nat) (K : Nat → ClassId) (f : Nat → Int32) : Nat × va_E := (a 5, .inl (K 2, 7, .inl f))
abbrev o_wn (a : Nat → Nat) (K : Nat → ClassId) (f : Nat → Int32) : Nat × va_E := (a 6, .inl (K 3, 7, .inl f))
abbrev o_S (a : Nat → Nat) (s_startX s_startY s_dx s_dy s_size : Int32) : Nat × va_E := (a 7, .inr (3, [.int s_startX, .int s_startY, .int s_dx, .int s_dy, .int s_size]))
abbrev o_A (a : Nat → Nat) (r_centreX r_centreY r_diagonal r_side r_first r_turn r_size : Int32) : Nat × va_E := (a 8, .inr (4, [.ref (a 9), .int r_centreX, .int r_centreY, .int r_diagonal, .int r_side, .int r_first, .int r_turn, .int r_size]))
abbrev o_ar (a : Nat → Nat) (K : Nat → ClassId) (f : Nat → Int32) : Nat × va_E := (a 9, .inl (K 4, 202, .inl f))
abbrev o_M (a : Nat → Nat) (m_length m_at m_lines m_x m_y m_mode m_feed m_state m_pulses m_last m_shown m_relative m_ending : Int32) (m_time m_pause : Int64) (m_kind m_made m_all m_fromX m_fromY m_wayX m_wayY m_points m_centreX m_centreY m_there m_newMode m_newWay m_newFeed m_ends : Int32) : Nat × va_E := (a 10, .inr (5, [.ref (a 11), .int m_length, .int m_at, .int m_lines, .int m_x, .int m_y, .int m_mode, .int m_feed, .int m_state, .int m_pulses, .int m_last, .int m_shown, .int m_relative, .int m_ending, .long m_time, .long m_pause, .int m_kind, .int m_made, .int m_all, .int m_fromX, .int m_fromY, .int m_wayX, .int m_wayY, .ref (a 12), .ref (a 13), .int m_points, .int m_centreX, .int m_centreY, .ref (a 14), .int m_there, .int m_newMode, .int m_newWay, .int m_newFeed, .int m_ends]))
abbrev o_mt (a : Nat → Nat) (K : Nat → ClassId) (f : Nat → Int32) : Nat × va_E := (a 11, .inl (K 5, 400, .inl f))
abbrev o_mx (a : Nat → Nat) (K : Nat → ClassId) (f : Nat → Int32) : Nat × va_E := (a 12, .inl (K 6, 2400, .inl f))
abbrev o_my (a : Nat → Nat) (K : Nat → ClassId) (f : Nat → Int32) : Nat × va_E := (a 13, .inl (K 7, 2400, .inl f))
abbrev o_mn (a : Nat → Nat) (K : Nat → ClassId) (f : Nat → Int32) : Nat × va_E := (a 14, .inl (K 8, 4, .inl f))
abbrev y_Jm_min : MethodName := ⟨"java/lang/Math", "min", "(II)I"⟩
abbrev b_Jm_min : ByteArray := prog_10_method_69_code
theorem kc_Jm_min : Cond.code y_Jm_min b_Jm_min 2 (some .int) ∈ wG := wG_of (List.mem_append_right _ (List.mem_append_left _ (List.mem_of_getElem? (i := 214) (by rfl)))) rfl
theorem ks_Jm_min : Cond.static y_Jm_min ∈ wG := wG_of (List.mem_append_right _ (List.mem_append_left _ (List.mem_of_getElem? (i := 213) (by rfl)))) rfl
abbrev y_Jm_floorMod : MethodName := ⟨"java/lang/Math", "floorMod", "(II)I"⟩
abbrev b_Jm_floorMod : ByteArray := prog_10_method_50_code
theorem kc_Jm_floorMod : Cond.code y_Jm_floorMod b_Jm_floorMod 3 (some .int) ∈ wG := wG_of (List.mem_append_right _ (List.mem_append_left _ (List.mem_of_getElem? (i := 227) (by rfl)))) rfl
theorem ks_Jm_floorMod : Cond.static y_Jm_floorMod ∈ wG := wG_of (List.mem_append_right _ (List.mem_append_left _ (List.mem_of_getElem? (i := 226) (by rfl)))) rfl
abbrev y_Jm_floorDiv : MethodName := ⟨"java/lang/Math", "floorDiv", "(II)I"⟩
abbrev b_Jm_floorDiv : ByteArray := prog_10_method_47_code
theorem kc_Jm_floorDiv : Cond.code y_Jm_floorDiv b_Jm_floorDiv 3 (some .int) ∈ wG := wG_of (List.mem_append_right _ (List.mem_append_right _ (List.mem_append_left _ (List.mem_of_getElem? (i := 1) (by rfl))))) rfl
theorem ks_Jm_floorDiv : Cond.static y_Jm_floorDiv ∈ wG := wG_of (List.mem_append_right _ (List.mem_append_right _ (List.mem_append_left _ (List.mem_of_getElem? (i := 0) (by rfl))))) rfl
abbrev y_Jm_max : MethodName := ⟨"java/lang/Math", "max", "(II)I"⟩
abbrev b_Jm_max : ByteArray := prog_10_method_65_code
theorem kc_Jm_max : Cond.code y_Jm_max b_Jm_max 2 (some .int) ∈ wG := wG_of (List.mem_append_right _ (List.mem_append_right _ (List.mem_append_left _ (List.mem_of_getElem? (i := 84) (by rfl))))) rfl
theorem ks_Jm_max : Cond.static y_Jm_max ∈ wG := wG_of (List.mem_append_right _ (List.mem_append_right _ (List.mem_append_left _ (List.mem_of_getElem? (i := 83) (by rfl))))) rfl
abbrev y_Jm_abs : MethodName := ⟨"java/lang/Math", "abs", "(I)I"⟩
abbrev b_Jm_abs : ByteArray := prog_10_method_59_code
theorem kc_Jm_abs : Cond.code y_Jm_abs b_Jm_abs 1 (some .int) ∈ wG := wG_of (List.mem_append_right _ (List.mem_append_right _ (List.mem_append_left _ (List.mem_of_getElem? (i := 230) (by rfl))))) rfl
theorem ks_Jm_abs : Cond.static y_Jm_abs ∈ wG := wG_of (List.mem_append_right _ (List.mem_append_right _ (List.mem_append_left _ (List.mem_of_getElem? (i := 229) (by rfl))))) rfl
abbrev y_Js_indexOf : MethodName := ⟨"java/lang/String", "indexOf", "(I)I"⟩
abbrev b_Js_indexOf : ByteArray := prog_11_method_79_code
theorem kc_Js_indexOf : Cond.code y_Js_indexOf b_Js_indexOf 2 (some .int) ∈ wG := wG_of (List.mem_append_right _ (List.mem_append_right _ (List.mem_append_left _ (List.mem_of_getElem? (i := 57) (by rfl))))) rfl
theorem kn_Js_indexOf : Cond.instanceMethod y_Js_indexOf ∈ wG := wG_of (List.mem_append_right _ (List.mem_append_right _ (List.mem_append_left _ (List.mem_of_getElem? (i := 55) (by rfl))))) rfl
theorem kv_Js_indexOf : Cond.selects "java/lang/String" y_Js_indexOf y_Js_indexOf ∈ wG := wG_of (List.mem_append_right _ (List.mem_append_right _ (List.mem_append_left _ (List.mem_of_getElem? (i := 56) (by rfl))))) rfl
abbrev y_Js_indexOf2 : MethodName := ⟨"java/lang/String", "indexOf", "(II)I"⟩
abbrev b_Js_indexOf2 : ByteArray := prog_11_method_80_code
theorem kc_Js_indexOf2 : Cond.code y_Js_indexOf2 b_Js_indexOf2 3 (some .int) ∈ wG := wG_of (List.mem_append_right _ (List.mem_append_right _ (List.mem_append_left _ (List.mem_of_getElem? (i := 61) (by rfl))))) rfl
theorem kn_Js_indexOf2 : Cond.instanceMethod y_Js_indexOf2 ∈ wG := wG_of (List.mem_append_right _ (List.mem_append_right _ (List.mem_append_left _ (List.mem_of_getElem? (i := 59) (by rfl))))) rfl
theorem kv_Js_indexOf2 : Cond.selects "java/lang/String" y_Js_indexOf2 y_Js_indexOf2 ∈ wG := wG_of (List.mem_append_right _ (List.mem_append_right _ (List.mem_append_left _ (List.mem_of_getElem? (i := 60) (by rfl))))) rfl
abbrev y_Js_isLatin1 : MethodName := ⟨"java/lang/String", "isLatin1", "()Z"⟩
abbrev b_Js_isLatin1 : ByteArray := prog_11_method_154_code
theorem kc_Js_isLatin1 : Cond.code y_Js_isLatin1 b_Js_isLatin1 1 (some .boolean) ∈ wG := wG_of (List.mem_append_right _ (List.mem_append_right _ (List.mem_append_left _ (List.mem_of_getElem? (i := 65) (by rfl))))) rfl
theorem kn_Js_isLatin1 : Cond.instanceMethod y_Js_isLatin1 ∈ wG := wG_of (List.mem_append_right _ (List.mem_append_right _ (List.mem_append_left _ (List.mem_of_getElem? (i := 63) (by rfl))))) rfl
theorem kv_Js_isLatin1 : Cond.selects "java/lang/String" y_Js_isLatin1 y_Js_isLatin1 ∈ wG := wG_of (List.mem_append_right _ (List.mem_append_right _ (List.mem_append_left _ (List.mem_of_getElem? (i := 64) (by rfl))))) rfl
abbrev y_Js_length : MethodName := ⟨"java/lang/String", "length", "()I"⟩
abbrev b_Js_length : ByteArray := prog_11_method_54_code
theorem kc_Js_length : Cond.code y_Js_length b_Js_length 1 (some .int) ∈ wG := wG_of (List.mem_append_right _ (List.mem_append_right _ (List.mem_append_left _ (List.mem_of_getElem? (i := 71) (by rfl))))) rfl
theorem kn_Js_length : Cond.instanceMethod y_Js_length ∈ wG := wG_of (List.mem_append_right _ (List.mem_append_right _ (List.mem_append_left _ (List.mem_of_getElem? (i := 69) (by rfl))))) rfl
theorem kv_Js_length : Cond.selects "java/lang/String" y_Js_length y_Js_length ∈ wG := wG_of (List.mem_append_right _ (List.mem_append_right _ (List.mem_append_left _ (List.mem_of_getElem? (i := 70) (by rfl))))) rfl
abbrev y_Js_coder : MethodName := ⟨"java/lang/String", "coder", "()B"⟩
abbrev b_Js_coder : ByteArray := prog_11_method_152_code
theorem kc_Js_coder : Cond.code y_Js_coder b_Js_coder 1 (some .byte) ∈ wG := wG_of (List.mem_append_right _ (List.mem_append_right _ (List.mem_append_left _ (List.mem_of_getElem? (i := 75) (by rfl))))) rfl
theorem kn_Js_coder : Cond.instanceMethod y_Js_coder ∈ wG := wG_of (List.mem_append_right _ (List.mem_append_right _ (List.mem_append_left _ (List.mem_of_getElem? (i := 73) (by rfl))))) rfl
theorem kv_Js_coder : Cond.selects "java/lang/String" y_Js_coder y_Js_coder ∈ wG := wG_of (List.mem_append_right _ (List.mem_append_right _ (List.mem_append_left _ (List.mem_of_getElem? (i := 74) (by rfl))))) rfl
abbrev y_Jl_indexOf : MethodName := ⟨"java/lang/StringLatin1", "indexOf", "([BIII)I"⟩
abbrev b_Jl_indexOf : ByteArray := prog_12_method_22_code
theorem kc_Jl_indexOf : Cond.code y_Jl_indexOf b_Jl_indexOf 4 (some .int) ∈ wG := wG_of (List.mem_append_right _ (List.mem_append_right _ (List.mem_append_left _ (List.mem_of_getElem? (i := 78) (by rfl))))) rfl
theorem ks_Jl_indexOf : Cond.static y_Jl_indexOf ∈ wG := wG_of (List.mem_append_right _ (List.mem_append_right _ (List.mem_append_left _ (List.mem_of_getElem? (i := 77) (by rfl))))) rfl
abbrev y_Jl_canEncode : MethodName := ⟨"java/lang/StringLatin1", "canEncode", "(I)Z"⟩
abbrev b_Jl_canEncode : ByteArray := prog_12_method_4_code
theorem kc_Jl_canEncode : Cond.code y_Jl_canEncode b_Jl_canEncode 1 (some .boolean) ∈ wG := wG_of (List.mem_append_right _ (List.mem_append_right _ (List.mem_append_left _ (List.mem_of_getElem? (i := 81) (by rfl))))) rfl
theorem ks_Jl_canEncode : Cond.static y_Jl_canEncode ∈ wG := wG_of (List.mem_append_right _ (List.mem_append_right _ (List.mem_append_left _ (List.mem_of_getElem? (i := 80) (by rfl))))) rfl
abbrev y_Jl_indexOfChar : MethodName := ⟨"java/lang/StringLatin1", "indexOfChar", "([BIII)I"⟩
abbrev b_Jl_indexOfChar : ByteArray := prog_12_method_23_code
theorem kc_Jl_indexOfChar : Cond.code y_Jl_indexOfChar b_Jl_indexOfChar 6 (some .int) ∈ wG := wG_of (List.mem_append_right _ (List.mem_append_right _ (List.mem_append_left _ (List.mem_of_getElem? (i := 88) (by rfl))))) rfl
theorem ks_Jl_indexOfChar : Cond.static y_Jl_indexOfChar ∈ wG := wG_of (List.mem_append_right _ (List.mem_append_right _ (List.mem_append_left _ (List.mem_of_getElem? (i := 87) (by rfl))))) rfl
abbrev y_P_init : MethodName := ⟨"PulsePlotter", "<init>", "()V"⟩
abbrev b_P_init : ByteArray := prog_1_method_1_code
theorem kc_P_init : Cond.code y_P_init b_P_init 1 none ∈ wG := wG_of (List.mem_append_right _ (List.mem_append_left _ (List.mem_of_getElem? (i := 18) (by rfl)))) rfl
theorem kn_P_init : Cond.instanceMethod y_P_init ∈ wG := wG_of (List.mem_append_right _ (List.mem_append_left _ (List.mem_of_getElem? (i := 17) (by rfl)))) rfl
abbrev y_P_feed : MethodName := ⟨"PulsePlotter", "feed", "(I)I"⟩
abbrev b_P_feed : ByteArray := prog_1_method_2_code
theorem kc_P_feed : Cond.code y_P_feed b_P_feed 3 (some .int) ∈ wG := wG_of (List.mem_append_right _ (List.mem_append_left _ (List.mem_of_getElem? (i := 187) (by rfl)))) rfl
theorem kn_P_feed : Cond.instanceMethod y_P_feed ∈ wG := wG_of (List.mem_append_right _ (List.mem_append_left _ (List.mem_of_getElem? (i := 185) (by rfl)))) rfl
theorem kv_P_feed : Cond.selects "PulsePlotter" y_P_feed y_P_feed ∈ wG := wG_of (List.mem_append_right _ (List.mem_append_left _ (List.mem_of_getElem? (i := 186) (by rfl)))) rfl
abbrev y_P_clear : MethodName := ⟨"PulsePlotter", "clear", "()V"⟩
abbrev b_P_clear : ByteArray := prog_1_method_3_code
theorem kc_P_clear : Cond.code y_P_clear b_P_clear 1 none ∈ wG := wG_of (List.mem_append_right _ (List.mem_append_left _ (List.mem_of_getElem? (i := 198) (by rfl)))) rfl
theorem kn_P_clear : Cond.instanceMethod y_P_clear ∈ wG := wG_of (List.mem_append_right _ (List.mem_append_left _ (List.mem_of_getElem? (i := 196) (by rfl)))) rfl
theorem kv_P_clear : Cond.selects "PulsePlotter" y_P_clear y_P_clear ∈ wG := wG_of (List.mem_append_right _ (List.mem_append_left _ (List.mem_of_getElem? (i := 197) (by rfl)))) rfl
abbrev y_P_begin : MethodName := ⟨"PulsePlotter", "begin", "()V"⟩
abbrev b_P_begin : ByteArray := prog_1_method_4_code
theorem kc_P_begin : Cond.code y_P_begin b_P_begin 1 none ∈ wG := wG_of (List.mem_append_right _ (List.mem_append_left _ (List.mem_of_getElem? (i := 125) (by rfl)))) rfl
theorem kn_P_begin : Cond.instanceMethod y_P_begin ∈ wG := wG_of (List.mem_append_right _ (List.mem_append_left _ (List.mem_of_getElem? (i := 123) (by rfl)))) rfl
theorem kv_P_begin : Cond.selects "PulsePlotter" y_P_begin y_P_begin ∈ wG := wG_of (List.mem_append_right _ (List.mem_append_left _ (List.mem_of_getElem? (i := 124) (by rfl)))) rfl
abbrev y_P_run : MethodName := ⟨"PulsePlotter", "run", "(I)I"⟩
abbrev b_P_run : ByteArray := prog_1_method_5_code
theorem kc_P_run : Cond.code y_P_run b_P_run 4 (some .int) ∈ wG := wG_of (List.mem_append_right _ (List.mem_append_left _ (List.mem_of_getElem? (i := 207) (by rfl)))) rfl
theorem kn_P_run : Cond.instanceMethod y_P_run ∈ wG := wG_of (List.mem_append_right _ (List.mem_append_left _ (List.mem_of_getElem? (i := 205) (by rfl)))) rfl
theorem kv_P_run : Cond.selects "PulsePlotter" y_P_run y_P_run ∈ wG := wG_of (List.mem_append_right _ (List.mem_append_left _ (List.mem_of_getElem? (i := 206) (by rfl)))) rfl
abbrev y_P_state : MethodName := ⟨"PulsePlotter", "state", "()I"⟩
abbrev b_P_state : ByteArray := prog_1_method_6_code
theorem kc_P_state : Cond.code y_P_state b_P_state 1 (some .int) ∈ wG := wG_of (List.mem_append_right _ (List.mem_append_right _ (List.mem_append_left _ (List.mem_of_getElem? (i := 236) (by rfl))))) rfl
theorem kn_P_state : Cond.instanceMethod y_P_state ∈ wG := wG_of (List.mem_append_right _ (List.mem_append_right _ (List.mem_append_left _ (List.mem_of_getElem? (i := 234) (by rfl))))) rfl
theorem kv_P_state : Cond.selects "PulsePlotter" y_P_state y_P_state ∈ wG := wG_of (List.mem_append_right _ (List.mem_append_right _ (List.mem_append_left _ (List.mem_of_getElem? (i := 235) (by rfl))))) rfl
abbrev y_P_x : MethodName := ⟨"PulsePlotter", "x", "()I"⟩
abbrev b_P_x : ByteArray := prog_1_method_7_code
theorem kc_P_x : Cond.code y_P_x b_P_x 1 (some .int) ∈ wG := wG_of (List.mem_append_right _ (List.mem_append_right _ (List.mem_append_right _ (List.mem_append_left _ (List.mem_of_getElem? (i := 0) (by rfl)))))) rfl
theorem kn_P_x : Cond.instanceMethod y_P_x ∈ wG := wG_of (List.mem_append_right _ (List.mem_append_right _ (List.mem_append_left _ (List.mem_of_getElem? (i := 238) (by rfl))))) rfl
theorem kv_P_x : Cond.selects "PulsePlotter" y_P_x y_P_x ∈ wG := wG_of (List.mem_append_right _ (List.mem_append_right _ (List.mem_append_left _ (List.mem_of_getElem? (i := 239) (by rfl))))) rfl
abbrev y_P_y : MethodName := ⟨"PulsePlotter", "y", "()I"⟩
abbrev b_P_y : ByteArray := prog_1_method_8_code
theorem kc_P_y : Cond.code y_P_y b_P_y 1 (some .int) ∈ wG := wG_of (List.mem_append_right _ (List.mem_append_right _ (List.mem_append_right _ (List.mem_append_left _ (List.mem_of_getElem? (i := 4) (by rfl)))))) rfl
theorem kn_P_y : Cond.instanceMethod y_P_y ∈ wG := wG_of (List.mem_append_right _ (List.mem_append_right _ (List.mem_append_right _ (List.mem_append_left _ (List.mem_of_getElem? (i := 2) (by rfl)))))) rfl
theorem kv_P_y : Cond.selects "PulsePlotter" y_P_y y_P_y ∈ wG := wG_of (List.mem_append_right _ (List.mem_append_right _ (List.mem_append_right _ (List.mem_append_left _ (List.mem_of_getElem? (i := 3) (by rfl)))))) rfl
abbrev y_P_time : MethodName := ⟨"PulsePlotter", "time", "()J"⟩
abbrev b_P_time : ByteArray := prog_1_method_9_code
theorem kc_P_time : Cond.code y_P_time b_P_time 1 (some .long) ∈ wG := wG_of (List.mem_append_right _ (List.mem_append_right _ (List.mem_append_right _ (List.mem_append_left _ (List.mem_of_getElem? (i := 8) (by rfl)))))) rfl
theorem kn_P_time : Cond.instanceMethod y_P_time ∈ wG := wG_of (List.mem_append_right _ (List.mem_append_right _ (List.mem_append_right _ (List.mem_append_left _ (List.mem_of_getElem? (i := 6) (by rfl)))))) rfl
theorem kv_P_time : Cond.selects "PulsePlotter" y_P_time y_P_time ∈ wG := wG_of (List.mem_append_right _ (List.mem_append_right _ (List.mem_append_right _ (List.mem_append_left _ (List.mem_of_getElem? (i := 7) (by rfl)))))) rfl
abbrev y_P_pulses : MethodName := ⟨"PulsePlotter", "pulses", "()I"⟩
abbrev b_P_pulses : ByteArray := prog_1_method_10_code
theorem kc_P_pulses : Cond.code y_P_pulses b_P_pulses 1 (some .int) ∈ wG := wG_of (List.mem_append_right _ (List.mem_append_right _ (List.mem_append_right _ (List.mem_append_left _ (List.mem_of_getElem? (i := 12) (by rfl)))))) rfl
theorem kn_P_pulses : Cond.instanceMethod y_P_pulses ∈ wG := wG_of (List.mem_append_right _ (List.mem_append_right _ (List.mem_append_right _ (List.mem_append_left _ (List.mem_of_getElem? (i := 10) (by rfl)))))) rfl
theorem kv_P_pulses : Cond.selects "PulsePlotter" y_P_pulses y_P_pulses ∈ wG := wG_of (List.mem_append_right _ (List.mem_append_right _ (List.mem_append_right _ (List.mem_append_left _ (List.mem_of_getElem? (i := 11) (by rfl)))))) rfl
abbrev y_P_last : MethodName := ⟨"PulsePlotter", "last", "()I"⟩
abbrev b_P_last : ByteArray := prog_1_method_11_code
theorem kc_P_last : Cond.code y_P_last b_P_last 1 (some .int) ∈ wG := wG_of (List.mem_append_right _ (List.mem_append_right _ (List.mem_append_right _ (List.mem_append_left _ (List.mem_of_getElem? (i := 16) (by rfl)))))) rfl
theorem kn_P_last : Cond.instanceMethod y_P_last ∈ wG := wG_of (List.mem_append_right _ (List.mem_append_right _ (List.mem_append_right _ (List.mem_append_left _ (List.mem_of_getElem? (i := 14) (by rfl)))))) rfl
theorem kv_P_last : Cond.selects "PulsePlotter" y_P_last y_P_last ∈ wG := wG_of (List.mem_append_right _ (List.mem_append_right _ (List.mem_append_right _ (List.mem_append_left _ (List.mem_of_getElem? (i := 15) (by rfl)))))) rfl
abbrev y_P_line : MethodName := ⟨"PulsePlotter", "line", "()I"⟩
abbrev b_P_line : ByteArray := prog_1_method_12_code
theorem kc_P_line : Cond.code y_P_line b_P_line 1 (some .int) ∈ wG := wG_of (List.mem_append_right _ (List.mem_append_right _ (List.mem_append_right _ (List.mem_append_left _ (List.mem_of_getElem? (i := 20) (by rfl)))))) rfl
theorem kn_P_line : Cond.instanceMethod y_P_line ∈ wG := wG_of (List.mem_append_right _ (List.mem_append_right _ (List.mem_append_right _ (List.mem_append_left _ (List.mem_of_getElem? (i := 18) (by rfl)))))) rfl
theorem kv_P_line : Cond.selects "PulsePlotter" y_P_line y_P_line ∈ wG := wG_of (List.mem_append_right _ (List.mem_append_right _ (List.mem_append_right _ (List.mem_append_left _ (List.mem_of_getElem? (i := 19) (by rfl)))))) rfl
abbrev y_P_feedRate : MethodName := ⟨"PulsePlotter", "feedRate", "()I"⟩
abbrev b_P_feedRate : ByteArray := prog_1_method_13_code
theorem kc_P_feedRate : Cond.code y_P_feedRate b_P_feedRate 1 (some .int) ∈ wG := wG_of (List.mem_append_right _ (List.mem_append_right _ (List.mem_append_right _ (List.mem_append_left _ (List.mem_of_getElem? (i := 24) (by rfl)))))) rfl
theorem kn_P_feedRate : Cond.instanceMethod y_P_feedRate ∈ wG := wG_of (List.mem_append_right _ (List.mem_append_right _ (List.mem_append_right _ (List.mem_append_left _ (List.mem_of_getElem? (i := 22) (by rfl)))))) rfl
theorem kv_P_feedRate : Cond.selects "PulsePlotter" y_P_feedRate y_P_feedRate ∈ wG := wG_of (List.mem_append_right _ (List.mem_append_right _ (List.mem_append_right _ (List.mem_append_left _ (List.mem_of_getElem? (i := 23) (by rfl)))))) rfl
abbrev y_P_mode : MethodName := ⟨"PulsePlotter", "mode", "()I"⟩
abbrev b_P_mode : ByteArray := prog_1_method_14_code
theorem kc_P_mode : Cond.code y_P_mode b_P_mode 1 (some .int) ∈ wG := wG_of (List.mem_append_right _ (List.mem_append_right _ (List.mem_append_right _ (List.mem_append_left _ (List.mem_of_getElem? (i := 28) (by rfl)))))) rfl
theorem kn_P_mode : Cond.instanceMethod y_P_mode ∈ wG := wG_of (List.mem_append_right _ (List.mem_append_right _ (List.mem_append_right _ (List.mem_append_left _ (List.mem_of_getElem? (i := 26) (by rfl)))))) rfl
theorem kv_P_mode : Cond.selects "PulsePlotter" y_P_mode y_P_mode ∈ wG := wG_of (List.mem_append_right _ (List.mem_append_right _ (List.mem_append_right _ (List.mem_append_left _ (List.mem_of_getElem? (i := 27) (by rfl)))))) rfl
abbrev y_P_left : MethodName := ⟨"PulsePlotter", "left", "()I"⟩
abbrev b_P_left : ByteArray := prog_1_method_15_code
theorem kc_P_left : Cond.code y_P_left b_P_left 1 (some .int) ∈ wG := wG_of (List.mem_append_right _ (List.mem_append_right _ (List.mem_append_right _ (List.mem_append_left _ (List.mem_of_getElem? (i := 32) (by rfl)))))) rfl
theorem kn_P_left : Cond.instanceMethod y_P_left ∈ wG := wG_of (List.mem_append_right _ (List.mem_append_right _ (List.mem_append_right _ (List.mem_append_left _ (List.mem_of_getElem? (i := 30) (by rfl)))))) rfl
theorem kv_P_left : Cond.selects "PulsePlotter" y_P_left y_P_left ∈ wG := wG_of (List.mem_append_right _ (List.mem_append_right _ (List.mem_append_right _ (List.mem_append_left _ (List.mem_of_getElem? (i := 31) (by rfl)))))) rfl
abbrev y_P_makePulses : MethodName := ⟨"PulsePlotter", "makePulses", "(I)I"⟩
abbrev b_P_makePulses : ByteArray := prog_1_method_16_code
theorem kc_P_makePulses : Cond.code y_P_makePulses b_P_makePulses 5 (some .int) ∈ wG := wG_of (List.mem_append_right _ (List.mem_append_left _ (List.mem_of_getElem? (i := 211) (by rfl)))) rfl
theorem kn_P_makePulses : Cond.instanceMethod y_P_makePulses ∈ wG := wG_of (List.mem_append_right _ (List.mem_append_left _ (List.mem_of_getElem? (i := 210) (by rfl)))) rfl
theorem kv_P_makePulses : Cond.selects "PulsePlotter" y_P_makePulses y_P_makePulses ∈ wG := wG_of (List.mem_append_left _ (List.mem_of_getElem? (i := 0) (by rfl))) rfl
abbrev y_P_pause : MethodName := ⟨"PulsePlotter", "pause", "()I"⟩
abbrev b_P_pause : ByteArray := prog_1_method_17_code
theorem kc_P_pause : Cond.code y_P_pause b_P_pause 1 (some .int) ∈ wG := wG_of (List.mem_append_right _ (List.mem_append_right _ (List.mem_append_left _ (List.mem_of_getElem? (i := 14) (by rfl))))) rfl
theorem kn_P_pause : Cond.instanceMethod y_P_pause ∈ wG := wG_of (List.mem_append_right _ (List.mem_append_right _ (List.mem_append_left _ (List.mem_of_getElem? (i := 13) (by rfl))))) rfl
theorem kv_P_pause : Cond.selects "PulsePlotter" y_P_pause y_P_pause ∈ wG := wG_of (List.mem_append_left _ (List.mem_of_getElem? (i := 4) (by rfl))) rfl
abbrev y_P_lookAtNextLine : MethodName := ⟨"PulsePlotter", "lookAtNextLine", "()V"⟩
abbrev b_P_lookAtNextLine : ByteArray := prog_1_method_18_code
theorem kc_P_lookAtNextLine : Cond.code y_P_lookAtNextLine b_P_lookAtNextLine 2 none ∈ wG := wG_of (List.mem_append_right _ (List.mem_append_right _ (List.mem_append_left _ (List.mem_of_getElem? (i := 19) (by rfl))))) rfl
theorem kn_P_lookAtNextLine : Cond.instanceMethod y_P_lookAtNextLine ∈ wG := wG_of (List.mem_append_right _ (List.mem_append_right _ (List.mem_append_left _ (List.mem_of_getElem? (i := 18) (by rfl))))) rfl
theorem kv_P_lookAtNextLine : Cond.selects "PulsePlotter" y_P_lookAtNextLine y_P_lookAtNextLine ∈ wG := wG_of (List.mem_append_left _ (List.mem_of_getElem? (i := 5) (by rfl))) rfl
abbrev y_P_applySettings : MethodName := ⟨"PulsePlotter", "applySettings", "()V"⟩
abbrev b_P_applySettings : ByteArray := prog_1_method_19_code
theorem kc_P_applySettings : Cond.code y_P_applySettings b_P_applySettings 1 none ∈ wG := wG_of (List.mem_append_right _ (List.mem_append_right _ (List.mem_append_left _ (List.mem_of_getElem? (i := 157) (by rfl))))) rfl
theorem kn_P_applySettings : Cond.instanceMethod y_P_applySettings ∈ wG := wG_of (List.mem_append_right _ (List.mem_append_right _ (List.mem_append_left _ (List.mem_of_getElem? (i := 156) (by rfl))))) rfl
theorem kv_P_applySettings : Cond.selects "PulsePlotter" y_P_applySettings y_P_applySettings ∈ wG := wG_of (List.mem_append_left _ (List.mem_of_getElem? (i := 12) (by rfl))) rfl
abbrev y_P_startMove : MethodName := ⟨"PulsePlotter", "startMove", "()I"⟩
abbrev b_P_startMove : ByteArray := prog_1_method_20_code
theorem kc_P_startMove : Cond.code y_P_startMove b_P_startMove 6 (some .int) ∈ wG := wG_of (List.mem_append_right _ (List.mem_append_right _ (List.mem_append_left _ (List.mem_of_getElem? (i := 178) (by rfl))))) rfl
theorem kn_P_startMove : Cond.instanceMethod y_P_startMove ∈ wG := wG_of (List.mem_append_right _ (List.mem_append_right _ (List.mem_append_left _ (List.mem_of_getElem? (i := 177) (by rfl))))) rfl
theorem kv_P_startMove : Cond.selects "PulsePlotter" y_P_startMove y_P_startMove ∈ wG := wG_of (List.mem_append_left _ (List.mem_of_getElem? (i := 13) (by rfl))) rfl
abbrev y_P_goal : MethodName := ⟨"PulsePlotter", "goal", "(II)I"⟩
abbrev b_P_goal : ByteArray := prog_1_method_21_code
theorem kc_P_goal : Cond.code y_P_goal b_P_goal 3 (some .int) ∈ wG := wG_of (List.mem_append_right _ (List.mem_append_right _ (List.mem_append_left _ (List.mem_of_getElem? (i := 182) (by rfl))))) rfl
theorem kn_P_goal : Cond.instanceMethod y_P_goal ∈ wG := wG_of (List.mem_append_right _ (List.mem_append_right _ (List.mem_append_left _ (List.mem_of_getElem? (i := 181) (by rfl))))) rfl
theorem kv_P_goal : Cond.selects "PulsePlotter" y_P_goal y_P_goal ∈ wG := wG_of (List.mem_append_left _ (List.mem_of_getElem? (i := 14) (by rfl))) rfl
abbrev y_P_startStraight : MethodName := ⟨"PulsePlotter", "startStraight", "(II)I"⟩
abbrev b_P_startStraight : ByteArray := prog_1_method_22_code
theorem kc_P_startStraight : Cond.code y_P_startStraight b_P_startStraight 3 (some .int) ∈ wG := wG_of (List.mem_append_right _ (List.mem_append_right _ (List.mem_append_left _ (List.mem_of_getElem? (i := 223) (by rfl))))) rfl
theorem kn_P_startStraight : Cond.instanceMethod y_P_startStraight ∈ wG := wG_of (List.mem_append_right _ (List.mem_append_right _ (List.mem_append_left _ (List.mem_of_getElem? (i := 222) (by rfl))))) rfl
theorem kv_P_startStraight : Cond.selects "PulsePlotter" y_P_startStraight y_P_startStraight ∈ wG := wG_of (List.mem_append_left _ (List.mem_of_getElem? (i := 18) (by rfl))) rfl
abbrev y_P_startArc : MethodName := ⟨"PulsePlotter", "startArc", "(II)I"⟩
abbrev b_P_startArc : ByteArray := prog_1_method_23_code
theorem kc_P_startArc : Cond.code y_P_startArc b_P_startArc 11 (some .int) ∈ wG := wG_of (List.mem_append_right _ (List.mem_append_right _ (List.mem_append_left _ (List.mem_of_getElem? (i := 186) (by rfl))))) rfl
theorem kn_P_startArc : Cond.instanceMethod y_P_startArc ∈ wG := wG_of (List.mem_append_right _ (List.mem_append_right _ (List.mem_append_left _ (List.mem_of_getElem? (i := 185) (by rfl))))) rfl
theorem kv_P_startArc : Cond.selects "PulsePlotter" y_P_startArc y_P_startArc ∈ wG := wG_of (List.mem_append_left _ (List.mem_of_getElem? (i := 15) (by rfl))) rfl
abbrev y_P_follow : MethodName := ⟨"PulsePlotter", "follow", "(LPulsePlotter$Way;)V"⟩
abbrev b_P_follow : ByteArray := prog_1_method_24_code
theorem kc_P_follow : Cond.code y_P_follow b_P_follow 2 none ∈ wG := wG_of (List.mem_append_right _ (List.mem_append_right _ (List.mem_append_left _ (List.mem_of_getElem? (i := 210) (by rfl))))) rfl
theorem kn_P_follow : Cond.instanceMethod y_P_follow ∈ wG := wG_of (List.mem_append_right _ (List.mem_append_right _ (List.mem_append_left _ (List.mem_of_getElem? (i := 209) (by rfl))))) rfl
theorem kv_P_follow : Cond.selects "PulsePlotter" y_P_follow y_P_follow ∈ wG := wG_of (List.mem_append_left _ (List.mem_of_getElem? (i := 17) (by rfl))) rfl
abbrev y_P_isOutside : MethodName := ⟨"PulsePlotter", "isOutside", "(I)Z"⟩
abbrev b_P_isOutside : ByteArray := prog_1_method_25_code
theorem kc_P_isOutside : Cond.code y_P_isOutside b_P_isOutside 1 (some .boolean) ∈ wG := wG_of (List.mem_append_right _ (List.mem_append_right _ (List.mem_append_left _ (List.mem_of_getElem? (i := 192) (by rfl))))) rfl
theorem ks_P_isOutside : Cond.static y_P_isOutside ∈ wG := wG_of (List.mem_append_right _ (List.mem_append_right _ (List.mem_append_left _ (List.mem_of_getElem? (i := 191) (by rfl))))) rfl
abbrev y_T_init : MethodName := ⟨"PulsePlotter$Text", "<init>", "()V"⟩
abbrev b_T_init : ByteArray := prog_4_method_1_code
theorem kc_T_init : Cond.code y_T_init b_T_init 1 none ∈ wG := wG_of (List.mem_append_right _ (List.mem_append_left _ (List.mem_of_getElem? (i := 26) (by rfl)))) rfl
theorem kn_T_init : Cond.instanceMethod y_T_init ∈ wG := wG_of (List.mem_append_right _ (List.mem_append_left _ (List.mem_of_getElem? (i := 25) (by rfl)))) rfl
abbrev y_T_size : MethodName := ⟨"PulsePlotter$Text", "size", "()I"⟩
abbrev b_T_size : ByteArray := prog_4_method_2_code
theorem kc_T_size : Cond.code y_T_size b_T_size 1 (some .int) ∈ wG := wG_of (List.mem_append_right _ (List.mem_append_right _ (List.mem_append_left _ (List.mem_of_getElem? (i := 23) (by rfl))))) rfl
theorem kn_T_size : Cond.instanceMethod y_T_size ∈ wG := wG_of (List.mem_append_right _ (List.mem_append_right _ (List.mem_append_left _ (List.mem_of_getElem? (i := 21) (by rfl))))) rfl
theorem kv_T_size : Cond.selects "PulsePlotter$Text" y_T_size y_T_size ∈ wG := wG_of (List.mem_append_right _ (List.mem_append_right _ (List.mem_append_left _ (List.mem_of_getElem? (i := 22) (by rfl))))) rfl
abbrev y_T_empty : MethodName := ⟨"PulsePlotter$Text", "empty", "()V"⟩
abbrev b_T_empty : ByteArray := prog_4_method_3_code
theorem kc_T_empty : Cond.code y_T_empty b_T_empty 1 none ∈ wG := wG_of (List.mem_append_right _ (List.mem_append_left _ (List.mem_of_getElem? (i := 202) (by rfl)))) rfl
theorem kn_T_empty : Cond.instanceMethod y_T_empty ∈ wG := wG_of (List.mem_append_right _ (List.mem_append_left _ (List.mem_of_getElem? (i := 200) (by rfl)))) rfl
theorem kv_T_empty : Cond.selects "PulsePlotter$Text" y_T_empty y_T_empty ∈ wG := wG_of (List.mem_append_right _ (List.mem_append_left _ (List.mem_of_getElem? (i := 201) (by rfl)))) rfl
abbrev y_T_append : MethodName := ⟨"PulsePlotter$Text", "append", "(I)I"⟩
abbrev b_T_append : ByteArray := prog_4_method_4_code
theorem kc_T_append : Cond.code y_T_append b_T_append 4 (some .int) ∈ wG := wG_of (List.mem_append_right _ (List.mem_append_left _ (List.mem_of_getElem? (i := 191) (by rfl)))) rfl
theorem kn_T_append : Cond.instanceMethod y_T_append ∈ wG := wG_of (List.mem_append_right _ (List.mem_append_left _ (List.mem_of_getElem? (i := 189) (by rfl)))) rfl
theorem kv_T_append : Cond.selects "PulsePlotter$Text" y_T_append y_T_append ∈ wG := wG_of (List.mem_append_right _ (List.mem_append_left _ (List.mem_of_getElem? (i := 190) (by rfl)))) rfl
abbrev y_T_codeAt : MethodName := ⟨"PulsePlotter$Text", "codeAt", "(I)C"⟩
abbrev b_T_codeAt : ByteArray := prog_4_method_5_code
theorem kc_T_codeAt : Cond.code y_T_codeAt b_T_codeAt 2 (some .char) ∈ wG := wG_of (List.mem_append_right _ (List.mem_append_right _ (List.mem_append_left _ (List.mem_of_getElem? (i := 31) (by rfl))))) rfl
theorem kn_T_codeAt : Cond.instanceMethod y_T_codeAt ∈ wG := wG_of (List.mem_append_right _ (List.mem_append_right _ (List.mem_append_left _ (List.mem_of_getElem? (i := 29) (by rfl))))) rfl
theorem kv_T_codeAt : Cond.selects "PulsePlotter$Text" y_T_codeAt y_T_codeAt ∈ wG := wG_of (List.mem_append_right _ (List.mem_append_right _ (List.mem_append_left _ (List.mem_of_getElem? (i := 30) (by rfl))))) rfl
abbrev y_T_lineEnd : MethodName := ⟨"PulsePlotter$Text", "lineEnd", "(I)I"⟩
abbrev b_T_lineEnd : ByteArray := prog_4_method_6_code
theorem kc_T_lineEnd : Cond.code y_T_lineEnd b_T_lineEnd 3 (some .int) ∈ wG := wG_of (List.mem_append_right _ (List.mem_append_right _ (List.mem_append_left _ (List.mem_of_getElem? (i := 27) (by rfl))))) rfl
theorem kn_T_lineEnd : Cond.instanceMethod y_T_lineEnd ∈ wG := wG_of (List.mem_append_right _ (List.mem_append_right _ (List.mem_append_left _ (List.mem_of_getElem? (i := 25) (by rfl))))) rfl
theorem kv_T_lineEnd : Cond.selects "PulsePlotter$Text" y_T_lineEnd y_T_lineEnd ∈ wG := wG_of (List.mem_append_right _ (List.mem_append_right _ (List.mem_append_left _ (List.mem_of_getElem? (i := 26) (by rfl))))) rfl
abbrev y_T_packedCode : MethodName := ⟨"PulsePlotter$Text", "packedCode", "(II)I"⟩
abbrev b_T_packedCode : ByteArray := prog_4_method_7_code
theorem kc_T_packedCode : Cond.code y_T_packedCode b_T_packedCode 2 (some .int) ∈ wG := wG_of (List.mem_append_right _ (List.mem_append_left _ (List.mem_of_getElem? (i := 194) (by rfl)))) rfl
theorem ks_T_packedCode : Cond.static y_T_packedCode ∈ wG := wG_of (List.mem_append_right _ (List.mem_append_left _ (List.mem_of_getElem? (i := 193) (by rfl)))) rfl
abbrev y_W_init : MethodName := ⟨"PulsePlotter$Words", "<init>", "()V"⟩
abbrev b_W_init : ByteArray := prog_6_method_1_code
theorem kc_W_init : Cond.code y_W_init b_W_init 1 none ∈ wG := wG_of (List.mem_append_right _ (List.mem_append_left _ (List.mem_of_getElem? (i := 40) (by rfl)))) rfl
theorem kn_W_init : Cond.instanceMethod y_W_init ∈ wG := wG_of (List.mem_append_right _ (List.mem_append_left _ (List.mem_of_getElem? (i := 39) (by rfl)))) rfl
abbrev y_W_has : MethodName := ⟨"PulsePlotter$Words", "has", "(I)Z"⟩
abbrev b_W_has : ByteArray := prog_6_method_2_code
theorem kc_W_has : Cond.code y_W_has b_W_has 2 (some .boolean) ∈ wG := wG_of (List.mem_append_right _ (List.mem_append_right _ (List.mem_append_left _ (List.mem_of_getElem? (i := 161) (by rfl))))) rfl
theorem kn_W_has : Cond.instanceMethod y_W_has ∈ wG := wG_of (List.mem_append_right _ (List.mem_append_right _ (List.mem_append_left _ (List.mem_of_getElem? (i := 159) (by rfl))))) rfl
theorem kv_W_has : Cond.selects "PulsePlotter$Words" y_W_has y_W_has ∈ wG := wG_of (List.mem_append_right _ (List.mem_append_right _ (List.mem_append_left _ (List.mem_of_getElem? (i := 160) (by rfl))))) rfl
abbrev y_W_number : MethodName := ⟨"PulsePlotter$Words", "number", "(I)I"⟩
abbrev b_W_number : ByteArray := prog_6_method_3_code
theorem kc_W_number : Cond.code y_W_number b_W_number 2 (some .int) ∈ wG := wG_of (List.mem_append_right _ (List.mem_append_right _ (List.mem_append_left _ (List.mem_of_getElem? (i := 165) (by rfl))))) rfl
theorem kn_W_number : Cond.instanceMethod y_W_number ∈ wG := wG_of (List.mem_append_right _ (List.mem_append_right _ (List.mem_append_left _ (List.mem_of_getElem? (i := 163) (by rfl))))) rfl
theorem kv_W_number : Cond.selects "PulsePlotter$Words" y_W_number y_W_number ∈ wG := wG_of (List.mem_append_right _ (List.mem_append_right _ (List.mem_append_left _ (List.mem_of_getElem? (i := 164) (by rfl))))) rfl
abbrev y_W_motion : MethodName := ⟨"PulsePlotter$Words", "motion", "()I"⟩
abbrev b_W_motion : ByteArray := prog_6_method_4_code
theorem kc_W_motion : Cond.code y_W_motion b_W_motion 1 (some .int) ∈ wG := wG_of (List.mem_append_right _ (List.mem_append_right _ (List.mem_append_left _ (List.mem_of_getElem? (i := 174) (by rfl))))) rfl
theorem kn_W_motion : Cond.instanceMethod y_W_motion ∈ wG := wG_of (List.mem_append_right _ (List.mem_append_right _ (List.mem_append_left _ (List.mem_of_getElem? (i := 172) (by rfl))))) rfl
theorem kv_W_motion : Cond.selects "PulsePlotter$Words" y_W_motion y_W_motion ∈ wG := wG_of (List.mem_append_right _ (List.mem_append_right _ (List.mem_append_left _ (List.mem_of_getElem? (i := 173) (by rfl))))) rfl
abbrev y_W_distances : MethodName := ⟨"PulsePlotter$Words", "distances", "()I"⟩
abbrev b_W_distances : ByteArray := prog_6_method_5_code
theorem kc_W_distances : Cond.code y_W_distances b_W_distances 1 (some .int) ∈ wG := wG_of (List.mem_append_right _ (List.mem_append_right _ (List.mem_append_left _ (List.mem_of_getElem? (i := 170) (by rfl))))) rfl
theorem kn_W_distances : Cond.instanceMethod y_W_distances ∈ wG := wG_of (List.mem_append_right _ (List.mem_append_right _ (List.mem_append_left _ (List.mem_of_getElem? (i := 168) (by rfl))))) rfl
theorem kv_W_distances : Cond.selects "PulsePlotter$Words" y_W_distances y_W_distances ∈ wG := wG_of (List.mem_append_right _ (List.mem_append_right _ (List.mem_append_left _ (List.mem_of_getElem? (i := 169) (by rfl))))) rfl
abbrev y_W_read : MethodName := ⟨"PulsePlotter$Words", "read", "(LPulsePlotter$Text;II)I"⟩
abbrev b_W_read : ByteArray := prog_6_method_6_code
theorem kc_W_read : Cond.code y_W_read b_W_read 6 (some .int) ∈ wG := wG_of (List.mem_append_right _ (List.mem_append_right _ (List.mem_append_left _ (List.mem_of_getElem? (i := 35) (by rfl))))) rfl
theorem kn_W_read : Cond.instanceMethod y_W_read ∈ wG := wG_of (List.mem_append_right _ (List.mem_append_right _ (List.mem_append_left _ (List.mem_of_getElem? (i := 33) (by rfl))))) rfl
theorem kv_W_read : Cond.selects "PulsePlotter$Words" y_W_read y_W_read ∈ wG := wG_of (List.mem_append_right _ (List.mem_append_right _ (List.mem_append_left _ (List.mem_of_getElem? (i := 34) (by rfl))))) rfl
abbrev y_W_forget : MethodName := ⟨"PulsePlotter$Words", "forget", "()V"⟩
abbrev b_W_forget : ByteArray := prog_6_method_7_code
theorem kc_W_forget : Cond.code y_W_forget b_W_forget 2 none ∈ wG := wG_of (List.mem_append_right _ (List.mem_append_right _ (List.mem_append_left _ (List.mem_of_getElem? (i := 39) (by rfl))))) rfl
theorem kn_W_forget : Cond.instanceMethod y_W_forget ∈ wG := wG_of (List.mem_append_right _ (List.mem_append_right _ (List.mem_append_left _ (List.mem_of_getElem? (i := 38) (by rfl))))) rfl
theorem kv_W_forget : Cond.selects "PulsePlotter$Words" y_W_forget y_W_forget ∈ wG := wG_of (List.mem_append_left _ (List.mem_of_getElem? (i := 6) (by rfl))) rfl
abbrev y_W_takeRow : MethodName := ⟨"PulsePlotter$Words", "takeRow", "(LPulsePlotter$Text;II)V"⟩
abbrev b_W_takeRow : ByteArray := prog_6_method_8_code
theorem kc_W_takeRow : Cond.code y_W_takeRow b_W_takeRow 5 none ∈ wG := wG_of (List.mem_append_right _ (List.mem_append_right _ (List.mem_append_left _ (List.mem_of_getElem? (i := 43) (by rfl))))) rfl
theorem kn_W_takeRow : Cond.instanceMethod y_W_takeRow ∈ wG := wG_of (List.mem_append_right _ (List.mem_append_right _ (List.mem_append_left _ (List.mem_of_getElem? (i := 42) (by rfl))))) rfl
theorem kv_W_takeRow : Cond.selects "PulsePlotter$Words" y_W_takeRow y_W_takeRow ∈ wG := wG_of (List.mem_append_left _ (List.mem_of_getElem? (i := 7) (by rfl))) rfl
abbrev y_W_readWord : MethodName := ⟨"PulsePlotter$Words", "readWord", "()I"⟩
abbrev b_W_readWord : ByteArray := prog_6_method_9_code
theorem kc_W_readWord : Cond.code y_W_readWord b_W_readWord 6 (some .int) ∈ wG := wG_of (List.mem_append_right _ (List.mem_append_right _ (List.mem_append_left _ (List.mem_of_getElem? (i := 48) (by rfl))))) rfl
theorem kn_W_readWord : Cond.instanceMethod y_W_readWord ∈ wG := wG_of (List.mem_append_right _ (List.mem_append_right _ (List.mem_append_left _ (List.mem_of_getElem? (i := 47) (by rfl))))) rfl
theorem kv_W_readWord : Cond.selects "PulsePlotter$Words" y_W_readWord y_W_readWord ∈ wG := wG_of (List.mem_append_left _ (List.mem_of_getElem? (i := 8) (by rfl))) rfl
abbrev y_W_peek : MethodName := ⟨"PulsePlotter$Words", "peek", "()C"⟩
abbrev b_W_peek : ByteArray := prog_6_method_10_code
theorem kc_W_peek : Cond.code y_W_peek b_W_peek 1 (some .char) ∈ wG := wG_of (List.mem_append_right _ (List.mem_append_right _ (List.mem_append_left _ (List.mem_of_getElem? (i := 53) (by rfl))))) rfl
theorem kn_W_peek : Cond.instanceMethod y_W_peek ∈ wG := wG_of (List.mem_append_right _ (List.mem_append_right _ (List.mem_append_left _ (List.mem_of_getElem? (i := 52) (by rfl))))) rfl
theorem kv_W_peek : Cond.selects "PulsePlotter$Words" y_W_peek y_W_peek ∈ wG := wG_of (List.mem_append_left _ (List.mem_of_getElem? (i := 9) (by rfl))) rfl
abbrev y_W_isSigned : MethodName := ⟨"PulsePlotter$Words", "isSigned", "(I)Z"⟩
abbrev b_W_isSigned : ByteArray := prog_6_method_11_code
theorem kc_W_isSigned : Cond.code y_W_isSigned b_W_isSigned 1 (some .boolean) ∈ wG := wG_of (List.mem_append_right _ (List.mem_append_right _ (List.mem_append_left _ (List.mem_of_getElem? (i := 140) (by rfl))))) rfl
theorem ks_W_isSigned : Cond.static y_W_isSigned ∈ wG := wG_of (List.mem_append_right _ (List.mem_append_right _ (List.mem_append_left _ (List.mem_of_getElem? (i := 139) (by rfl))))) rfl
abbrev y_W_isDigit : MethodName := ⟨"PulsePlotter$Words", "isDigit", "(C)Z"⟩
abbrev b_W_isDigit : ByteArray := prog_6_method_12_code
theorem kc_W_isDigit : Cond.code y_W_isDigit b_W_isDigit 1 (some .boolean) ∈ wG := wG_of (List.mem_append_right _ (List.mem_append_right _ (List.mem_append_left _ (List.mem_of_getElem? (i := 143) (by rfl))))) rfl
theorem ks_W_isDigit : Cond.static y_W_isDigit ∈ wG := wG_of (List.mem_append_right _ (List.mem_append_right _ (List.mem_append_left _ (List.mem_of_getElem? (i := 142) (by rfl))))) rfl
abbrev y_W_keepG : MethodName := ⟨"PulsePlotter$Words", "keepG", "(I)I"⟩
abbrev b_W_keepG : ByteArray := prog_6_method_13_code
theorem kc_W_keepG : Cond.code y_W_keepG b_W_keepG 2 (some .int) ∈ wG := wG_of (List.mem_append_right _ (List.mem_append_right _ (List.mem_append_left _ (List.mem_of_getElem? (i := 149) (by rfl))))) rfl
theorem kn_W_keepG : Cond.instanceMethod y_W_keepG ∈ wG := wG_of (List.mem_append_right _ (List.mem_append_right _ (List.mem_append_left _ (List.mem_of_getElem? (i := 148) (by rfl))))) rfl
theorem kv_W_keepG : Cond.selects "PulsePlotter$Words" y_W_keepG y_W_keepG ∈ wG := wG_of (List.mem_append_left _ (List.mem_of_getElem? (i := 10) (by rfl))) rfl
abbrev y_W_keep : MethodName := ⟨"PulsePlotter$Words", "keep", "(II)I"⟩
abbrev b_W_keep : ByteArray := prog_6_method_14_code
theorem kc_W_keep : Cond.code y_W_keep b_W_keep 3 (some .int) ∈ wG := wG_of (List.mem_append_right _ (List.mem_append_right _ (List.mem_append_left _ (List.mem_of_getElem? (i := 153) (by rfl))))) rfl
theorem kn_W_keep : Cond.instanceMethod y_W_keep ∈ wG := wG_of (List.mem_append_right _ (List.mem_append_right _ (List.mem_append_left _ (List.mem_of_getElem? (i := 152) (by rfl))))) rfl
theorem kv_W_keep : Cond.selects "PulsePlotter$Words" y_W_keep y_W_keep ∈ wG := wG_of (List.mem_append_left _ (List.mem_of_getElem? (i := 11) (by rfl))) rfl
abbrev y_S_init : MethodName := ⟨"PulsePlotter$Straight", "<init>", "()V"⟩
abbrev b_S_init : ByteArray := prog_3_method_1_code
theorem kc_S_init : Cond.code y_S_init b_S_init 1 none ∈ wG := wG_of (List.mem_append_right _ (List.mem_append_left _ (List.mem_of_getElem? (i := 70) (by rfl)))) rfl
theorem kn_S_init : Cond.instanceMethod y_S_init ∈ wG := wG_of (List.mem_append_right _ (List.mem_append_left _ (List.mem_of_getElem? (i := 69) (by rfl)))) rfl
abbrev y_S_lay : MethodName := ⟨"PulsePlotter$Straight", "lay", "(IIII)V"⟩
abbrev b_S_lay : ByteArray := prog_3_method_2_code
theorem kc_S_lay : Cond.code y_S_lay b_S_lay 5 none ∈ wG := wG_of (List.mem_append_right _ (List.mem_append_right _ (List.mem_append_left _ (List.mem_of_getElem? (i := 227) (by rfl))))) rfl
theorem kn_S_lay : Cond.instanceMethod y_S_lay ∈ wG := wG_of (List.mem_append_right _ (List.mem_append_right _ (List.mem_append_left _ (List.mem_of_getElem? (i := 225) (by rfl))))) rfl
theorem kv_S_lay : Cond.selects "PulsePlotter$Straight" y_S_lay y_S_lay ∈ wG := wG_of (List.mem_append_right _ (List.mem_append_right _ (List.mem_append_left _ (List.mem_of_getElem? (i := 226) (by rfl))))) rfl
abbrev y_S_size : MethodName := ⟨"PulsePlotter$Straight", "size", "()I"⟩
abbrev b_S_size : ByteArray := prog_3_method_3_code
theorem kc_S_size : Cond.code y_S_size b_S_size 1 (some .int) ∈ wG := wG_of (List.mem_append_right _ (List.mem_append_right _ (List.mem_append_left _ (List.mem_of_getElem? (i := 219) (by rfl))))) rfl
theorem kn_S_size : Cond.instanceMethod y_S_size ∈ wG := wG_of (List.mem_append_right _ (List.mem_append_right _ (List.mem_append_left _ (List.mem_of_getElem? (i := 218) (by rfl))))) rfl
abbrev y_S_xAfter : MethodName := ⟨"PulsePlotter$Straight", "xAfter", "(I)I"⟩
abbrev b_S_xAfter : ByteArray := prog_3_method_4_code
theorem kc_S_xAfter : Cond.code y_S_xAfter b_S_xAfter 2 (some .int) ∈ wG := wG_of (List.mem_append_right _ (List.mem_append_left _ (List.mem_of_getElem? (i := 234) (by rfl)))) rfl
theorem kn_S_xAfter : Cond.instanceMethod y_S_xAfter ∈ wG := wG_of (List.mem_append_right _ (List.mem_append_left _ (List.mem_of_getElem? (i := 233) (by rfl)))) rfl
abbrev y_S_yAfter : MethodName := ⟨"PulsePlotter$Straight", "yAfter", "(I)I"⟩
abbrev b_S_yAfter : ByteArray := prog_3_method_5_code
theorem kc_S_yAfter : Cond.code y_S_yAfter b_S_yAfter 2 (some .int) ∈ wG := wG_of (List.mem_append_right _ (List.mem_append_right _ (List.mem_append_left _ (List.mem_of_getElem? (i := 10) (by rfl))))) rfl
theorem kn_S_yAfter : Cond.instanceMethod y_S_yAfter ∈ wG := wG_of (List.mem_append_right _ (List.mem_append_right _ (List.mem_append_left _ (List.mem_of_getElem? (i := 9) (by rfl))))) rfl
abbrev y_S_part : MethodName := ⟨"PulsePlotter$Straight", "part", "(II)I"⟩
abbrev b_S_part : ByteArray := prog_3_method_6_code
theorem kc_S_part : Cond.code y_S_part b_S_part 3 (some .int) ∈ wG := wG_of (List.mem_append_right _ (List.mem_append_left _ (List.mem_of_getElem? (i := 238) (by rfl)))) rfl
theorem kn_S_part : Cond.instanceMethod y_S_part ∈ wG := wG_of (List.mem_append_right _ (List.mem_append_left _ (List.mem_of_getElem? (i := 237) (by rfl)))) rfl
theorem kv_S_part : Cond.selects "PulsePlotter$Straight" y_S_part y_S_part ∈ wG := wG_of (List.mem_append_left _ (List.mem_of_getElem? (i := 3) (by rfl))) rfl
abbrev y_A_init : MethodName := ⟨"PulsePlotter$Arc", "<init>", "()V"⟩
abbrev b_A_init : ByteArray := prog_2_method_1_code
theorem kc_A_init : Cond.code y_A_init b_A_init 1 none ∈ wG := wG_of (List.mem_append_right _ (List.mem_append_left _ (List.mem_of_getElem? (i := 95) (by rfl)))) rfl
theorem kn_A_init : Cond.instanceMethod y_A_init ∈ wG := wG_of (List.mem_append_right _ (List.mem_append_left _ (List.mem_of_getElem? (i := 94) (by rfl)))) rfl
abbrev y_A_radius : MethodName := ⟨"PulsePlotter$Arc", "radius", "(I)I"⟩
abbrev b_A_radius : ByteArray := prog_2_method_2_code
theorem kc_A_radius : Cond.code y_A_radius b_A_radius 2 (some .int) ∈ wG := wG_of (List.mem_append_right _ (List.mem_append_right _ (List.mem_append_left _ (List.mem_of_getElem? (i := 189) (by rfl))))) rfl
theorem ks_A_radius : Cond.static y_A_radius ∈ wG := wG_of (List.mem_append_right _ (List.mem_append_right _ (List.mem_append_left _ (List.mem_of_getElem? (i := 188) (by rfl))))) rfl
abbrev y_A_lay : MethodName := ⟨"PulsePlotter$Arc", "lay", "(III)V"⟩
abbrev b_A_lay : ByteArray := prog_2_method_3_code
theorem kc_A_lay : Cond.code y_A_lay b_A_lay 6 none ∈ wG := wG_of (List.mem_append_right _ (List.mem_append_right _ (List.mem_append_left _ (List.mem_of_getElem? (i := 196) (by rfl))))) rfl
theorem kn_A_lay : Cond.instanceMethod y_A_lay ∈ wG := wG_of (List.mem_append_right _ (List.mem_append_right _ (List.mem_append_left _ (List.mem_of_getElem? (i := 194) (by rfl))))) rfl
theorem kv_A_lay : Cond.selects "PulsePlotter$Arc" y_A_lay y_A_lay ∈ wG := wG_of (List.mem_append_right _ (List.mem_append_right _ (List.mem_append_left _ (List.mem_of_getElem? (i := 195) (by rfl))))) rfl
abbrev y_A_join : MethodName := ⟨"PulsePlotter$Arc", "join", "(IIIIZ)V"⟩
abbrev b_A_join : ByteArray := prog_2_method_4_code
theorem kc_A_join : Cond.code y_A_join b_A_join 8 none ∈ wG := wG_of (List.mem_append_right _ (List.mem_append_right _ (List.mem_append_left _ (List.mem_of_getElem? (i := 202) (by rfl))))) rfl
theorem kn_A_join : Cond.instanceMethod y_A_join ∈ wG := wG_of (List.mem_append_right _ (List.mem_append_right _ (List.mem_append_left _ (List.mem_of_getElem? (i := 200) (by rfl))))) rfl
theorem kv_A_join : Cond.selects "PulsePlotter$Arc" y_A_join y_A_join ∈ wG := wG_of (List.mem_append_right _ (List.mem_append_right _ (List.mem_append_left _ (List.mem_of_getElem? (i := 201) (by rfl))))) rfl
abbrev y_A_size : MethodName := ⟨"PulsePlotter$Arc", "size", "()I"⟩
abbrev b_A_size : ByteArray := prog_2_method_5_code
theorem kc_A_size : Cond.code y_A_size b_A_size 1 (some .int) ∈ wG := wG_of (List.mem_append_right _ (List.mem_append_right _ (List.mem_append_left _ (List.mem_of_getElem? (i := 216) (by rfl))))) rfl
theorem kn_A_size : Cond.instanceMethod y_A_size ∈ wG := wG_of (List.mem_append_right _ (List.mem_append_right _ (List.mem_append_left _ (List.mem_of_getElem? (i := 215) (by rfl))))) rfl
abbrev y_A_xAfter : MethodName := ⟨"PulsePlotter$Arc", "xAfter", "(I)I"⟩
abbrev b_A_xAfter : ByteArray := prog_2_method_6_code
theorem kc_A_xAfter : Cond.code y_A_xAfter b_A_xAfter 2 (some .int) ∈ wG := wG_of (List.mem_append_right _ (List.mem_append_left _ (List.mem_of_getElem? (i := 220) (by rfl)))) rfl
theorem kn_A_xAfter : Cond.instanceMethod y_A_xAfter ∈ wG := wG_of (List.mem_append_right _ (List.mem_append_left _ (List.mem_of_getElem? (i := 219) (by rfl)))) rfl
abbrev y_A_yAfter : MethodName := ⟨"PulsePlotter$Arc", "yAfter", "(I)I"⟩
abbrev b_A_yAfter : ByteArray := prog_2_method_7_code
theorem kc_A_yAfter : Cond.code y_A_yAfter b_A_yAfter 2 (some .int) ∈ wG := wG_of (List.mem_append_right _ (List.mem_append_right _ (List.mem_append_left _ (List.mem_of_getElem? (i := 7) (by rfl))))) rfl
theorem kn_A_yAfter : Cond.instanceMethod y_A_yAfter ∈ wG := wG_of (List.mem_append_right _ (List.mem_append_right _ (List.mem_append_left _ (List.mem_of_getElem? (i := 6) (by rfl))))) rfl
abbrev y_A_xOf : MethodName := ⟨"PulsePlotter$Arc", "xOf", "(I)I"⟩
abbrev b_A_xOf : ByteArray := prog_2_method_8_code
theorem kc_A_xOf : Cond.code y_A_xOf b_A_xOf 4 (some .int) ∈ wG := wG_of (List.mem_append_right _ (List.mem_append_left _ (List.mem_of_getElem? (i := 224) (by rfl)))) rfl
theorem kn_A_xOf : Cond.instanceMethod y_A_xOf ∈ wG := wG_of (List.mem_append_right _ (List.mem_append_left _ (List.mem_of_getElem? (i := 223) (by rfl)))) rfl
theorem kv_A_xOf : Cond.selects "PulsePlotter$Arc" y_A_xOf y_A_xOf ∈ wG := wG_of (List.mem_append_left _ (List.mem_of_getElem? (i := 1) (by rfl))) rfl
abbrev y_A_numberOf : MethodName := ⟨"PulsePlotter$Arc", "numberOf", "(II)I"⟩
abbrev b_A_numberOf : ByteArray := prog_2_method_9_code
theorem kc_A_numberOf : Cond.code y_A_numberOf b_A_numberOf 8 (some .int) ∈ wG := wG_of (List.mem_append_right _ (List.mem_append_right _ (List.mem_append_left _ (List.mem_of_getElem? (i := 206) (by rfl))))) rfl
theorem kn_A_numberOf : Cond.instanceMethod y_A_numberOf ∈ wG := wG_of (List.mem_append_right _ (List.mem_append_right _ (List.mem_append_left _ (List.mem_of_getElem? (i := 205) (by rfl))))) rfl
theorem kv_A_numberOf : Cond.selects "PulsePlotter$Arc" y_A_numberOf y_A_numberOf ∈ wG := wG_of (List.mem_append_left _ (List.mem_of_getElem? (i := 16) (by rfl))) rfl
abbrev y_A_reachAt : MethodName := ⟨"PulsePlotter$Arc", "reachAt", "(I)I"⟩
abbrev b_A_reachAt : ByteArray := prog_2_method_10_code
theorem kc_A_reachAt : Cond.code y_A_reachAt b_A_reachAt 3 (some .int) ∈ wG := wG_of (List.mem_append_right _ (List.mem_append_left _ (List.mem_of_getElem? (i := 231) (by rfl)))) rfl
theorem kn_A_reachAt : Cond.instanceMethod y_A_reachAt ∈ wG := wG_of (List.mem_append_right _ (List.mem_append_left _ (List.mem_of_getElem? (i := 230) (by rfl)))) rfl
theorem kv_A_reachAt : Cond.selects "PulsePlotter$Arc" y_A_reachAt y_A_reachAt ∈ wG := wG_of (List.mem_append_left _ (List.mem_of_getElem? (i := 2) (by rfl))) rfl
abbrev y_M_init : MethodName := ⟨"PulsePlotterModel", "<init>", "()V"⟩
abbrev b_M_init : ByteArray := prog_8_method_1_code
theorem kc_M_init : Cond.code y_M_init b_M_init 1 none ∈ wG := wG_of (List.mem_append_right _ (List.mem_append_right _ (List.mem_append_right _ (List.mem_append_left _ (List.mem_of_getElem? (i := 37) (by rfl)))))) rfl
theorem kn_M_init : Cond.instanceMethod y_M_init ∈ wG := wG_of (List.mem_append_right _ (List.mem_append_right _ (List.mem_append_right _ (List.mem_append_left _ (List.mem_of_getElem? (i := 36) (by rfl)))))) rfl
abbrev y_M_feed : MethodName := ⟨"PulsePlotterModel", "feed", "(I)I"⟩
abbrev b_M_feed : ByteArray := prog_8_method_2_code
theorem kc_M_feed : Cond.code y_M_feed b_M_feed 4 (some .int) ∈ wG := wG_of (List.mem_append_right _ (List.mem_append_right _ (List.mem_append_right _ (List.mem_append_left _ (List.mem_of_getElem? (i := 149) (by rfl)))))) rfl
theorem kn_M_feed : Cond.instanceMethod y_M_feed ∈ wG := wG_of (List.mem_append_right _ (List.mem_append_right _ (List.mem_append_right _ (List.mem_append_left _ (List.mem_of_getElem? (i := 147) (by rfl)))))) rfl
theorem kv_M_feed : Cond.selects "PulsePlotterModel" y_M_feed y_M_feed ∈ wG := wG_of (List.mem_append_right _ (List.mem_append_right _ (List.mem_append_right _ (List.mem_append_left _ (List.mem_of_getElem? (i := 148) (by rfl)))))) rfl
abbrev y_M_clear : MethodName := ⟨"PulsePlotterModel", "clear", "()V"⟩
abbrev b_M_clear : ByteArray := prog_8_method_3_code
theorem kc_M_clear : Cond.code y_M_clear b_M_clear 1 none ∈ wG := wG_of (List.mem_append_right _ (List.mem_append_right _ (List.mem_append_right _ (List.mem_append_left _ (List.mem_of_getElem? (i := 153) (by rfl)))))) rfl
theorem kn_M_clear : Cond.instanceMethod y_M_clear ∈ wG := wG_of (List.mem_append_right _ (List.mem_append_right _ (List.mem_append_right _ (List.mem_append_left _ (List.mem_of_getElem? (i := 151) (by rfl)))))) rfl
theorem kv_M_clear : Cond.selects "PulsePlotterModel" y_M_clear y_M_clear ∈ wG := wG_of (List.mem_append_right _ (List.mem_append_right _ (List.mem_append_right _ (List.mem_append_left _ (List.mem_of_getElem? (i := 152) (by rfl)))))) rfl
abbrev y_M_begin : MethodName := ⟨"PulsePlotterModel", "begin", "()V"⟩
abbrev b_M_begin : ByteArray := prog_8_method_4_code
theorem kc_M_begin : Cond.code y_M_begin b_M_begin 1 none ∈ wG := wG_of (List.mem_append_right _ (List.mem_append_right _ (List.mem_append_right _ (List.mem_append_left _ (List.mem_of_getElem? (i := 42) (by rfl)))))) rfl
theorem kn_M_begin : Cond.instanceMethod y_M_begin ∈ wG := wG_of (List.mem_append_right _ (List.mem_append_right _ (List.mem_append_right _ (List.mem_append_left _ (List.mem_of_getElem? (i := 40) (by rfl)))))) rfl
theorem kv_M_begin : Cond.selects "PulsePlotterModel" y_M_begin y_M_begin ∈ wG := wG_of (List.mem_append_right _ (List.mem_append_right _ (List.mem_append_right _ (List.mem_append_left _ (List.mem_of_getElem? (i := 41) (by rfl)))))) rfl
abbrev y_M_skip : MethodName := ⟨"PulsePlotterModel", "skip", "(II)I"⟩
abbrev b_M_skip : ByteArray := prog_8_method_5_code
theorem kc_M_skip : Cond.code y_M_skip b_M_skip 4 (some .int) ∈ wG := wG_of (List.mem_append_right _ (List.mem_append_right _ (List.mem_append_right _ (List.mem_append_left _ (List.mem_of_getElem? (i := 171) (by rfl)))))) rfl
theorem kn_M_skip : Cond.instanceMethod y_M_skip ∈ wG := wG_of (List.mem_append_right _ (List.mem_append_right _ (List.mem_append_right _ (List.mem_append_left _ (List.mem_of_getElem? (i := 170) (by rfl)))))) rfl
theorem kv_M_skip : Cond.selects "PulsePlotterModel" y_M_skip y_M_skip ∈ wG := wG_of (List.mem_append_left _ (List.mem_of_getElem? (i := 21) (by rfl))) rfl
abbrev y_M_digit : MethodName := ⟨"PulsePlotterModel", "digit", "(I)Z"⟩
abbrev b_M_digit : ByteArray := prog_8_method_6_code
theorem kc_M_digit : Cond.code y_M_digit b_M_digit 1 (some .boolean) ∈ wG := wG_of (List.mem_append_right _ (List.mem_append_right _ (List.mem_append_right _ (List.mem_append_left _ (List.mem_of_getElem? (i := 177) (by rfl)))))) rfl
theorem ks_M_digit : Cond.static y_M_digit ∈ wG := wG_of (List.mem_append_right _ (List.mem_append_right _ (List.mem_append_right _ (List.mem_append_left _ (List.mem_of_getElem? (i := 176) (by rfl)))))) rfl
abbrev y_M_letter : MethodName := ⟨"PulsePlotterModel", "letter", "(I)I"⟩
abbrev b_M_letter : ByteArray := prog_8_method_7_code
theorem kc_M_letter : Cond.code y_M_letter b_M_letter 1 (some .int) ∈ wG := wG_of (List.mem_append_right _ (List.mem_append_right _ (List.mem_append_right _ (List.mem_append_left _ (List.mem_of_getElem? (i := 174) (by rfl)))))) rfl
theorem ks_M_letter : Cond.static y_M_letter ∈ wG := wG_of (List.mem_append_right _ (List.mem_append_right _ (List.mem_append_right _ (List.mem_append_left _ (List.mem_of_getElem? (i := 173) (by rfl)))))) rfl
abbrev y_M_read : MethodName := ⟨"PulsePlotterModel", "read", "(II)I"⟩
abbrev b_M_read : ByteArray := prog_8_method_8_code
theorem kc_M_read : Cond.code y_M_read b_M_read 12 (some .int) ∈ wG := wG_of (List.mem_append_right _ (List.mem_append_right _ (List.mem_append_right _ (List.mem_append_left _ (List.mem_of_getElem? (i := 167) (by rfl)))))) rfl
theorem kn_M_read : Cond.instanceMethod y_M_read ∈ wG := wG_of (List.mem_append_right _ (List.mem_append_right _ (List.mem_append_right _ (List.mem_append_left _ (List.mem_of_getElem? (i := 166) (by rfl)))))) rfl
theorem kv_M_read : Cond.selects "PulsePlotterModel" y_M_read y_M_read ∈ wG := wG_of (List.mem_append_left _ (List.mem_of_getElem? (i := 20) (by rfl))) rfl
abbrev y_M_keep : MethodName := ⟨"PulsePlotterModel", "keep", "(II)I"⟩
abbrev b_M_keep : ByteArray := prog_8_method_9_code
theorem kc_M_keep : Cond.code y_M_keep b_M_keep 3 (some .int) ∈ wG := wG_of (List.mem_append_right _ (List.mem_append_right _ (List.mem_append_right _ (List.mem_append_left _ (List.mem_of_getElem? (i := 181) (by rfl)))))) rfl
theorem kn_M_keep : Cond.instanceMethod y_M_keep ∈ wG := wG_of (List.mem_append_right _ (List.mem_append_right _ (List.mem_append_right _ (List.mem_append_left _ (List.mem_of_getElem? (i := 180) (by rfl)))))) rfl
theorem kv_M_keep : Cond.selects "PulsePlotterModel" y_M_keep y_M_keep ∈ wG := wG_of (List.mem_append_left _ (List.mem_of_getElem? (i := 22) (by rfl))) rfl
abbrev y_M_goal : MethodName := ⟨"PulsePlotterModel", "goal", "(II)I"⟩
abbrev b_M_goal : ByteArray := prog_8_method_10_code
theorem kc_M_goal : Cond.code y_M_goal b_M_goal 3 (some .int) ∈ wG := wG_of (List.mem_append_right _ (List.mem_append_right _ (List.mem_append_right _ (List.mem_append_left _ (List.mem_of_getElem? (i := 189) (by rfl)))))) rfl
theorem kn_M_goal : Cond.instanceMethod y_M_goal ∈ wG := wG_of (List.mem_append_right _ (List.mem_append_right _ (List.mem_append_right _ (List.mem_append_left _ (List.mem_of_getElem? (i := 188) (by rfl)))))) rfl
theorem kv_M_goal : Cond.selects "PulsePlotterModel" y_M_goal y_M_goal ∈ wG := wG_of (List.mem_append_left _ (List.mem_of_getElem? (i := 24) (by rfl))) rfl
abbrev y_M_inLimits : MethodName := ⟨"PulsePlotterModel", "inLimits", "(I)Z"⟩
abbrev b_M_inLimits : ByteArray := prog_8_method_11_code
theorem kc_M_inLimits : Cond.code y_M_inLimits b_M_inLimits 1 (some .boolean) ∈ wG := wG_of (List.mem_append_right _ (List.mem_append_right _ (List.mem_append_right _ (List.mem_append_left _ (List.mem_of_getElem? (i := 193) (by rfl)))))) rfl
theorem ks_M_inLimits : Cond.static y_M_inLimits ∈ wG := wG_of (List.mem_append_right _ (List.mem_append_right _ (List.mem_append_right _ (List.mem_append_left _ (List.mem_of_getElem? (i := 192) (by rfl)))))) rfl
abbrev y_M_act : MethodName := ⟨"PulsePlotterModel", "act", "()I"⟩
abbrev b_M_act : ByteArray := prog_8_method_12_code
theorem kc_M_act : Cond.code y_M_act b_M_act 6 (some .int) ∈ wG := wG_of (List.mem_append_right _ (List.mem_append_right _ (List.mem_append_right _ (List.mem_append_left _ (List.mem_of_getElem? (i := 185) (by rfl)))))) rfl
theorem kn_M_act : Cond.instanceMethod y_M_act ∈ wG := wG_of (List.mem_append_right _ (List.mem_append_right _ (List.mem_append_right _ (List.mem_append_left _ (List.mem_of_getElem? (i := 184) (by rfl)))))) rfl
theorem kv_M_act : Cond.selects "PulsePlotterModel" y_M_act y_M_act ∈ wG := wG_of (List.mem_append_left _ (List.mem_of_getElem? (i := 23) (by rfl))) rfl
abbrev y_M_arc : MethodName := ⟨"PulsePlotterModel", "arc", "(IIII)I"⟩
abbrev b_M_arc : ByteArray := prog_8_method_13_code
theorem kc_M_arc : Cond.code y_M_arc b_M_arc 10 (some .int) ∈ wG := wG_of (List.mem_append_right _ (List.mem_append_right _ (List.mem_append_right _ (List.mem_append_left _ (List.mem_of_getElem? (i := 197) (by rfl)))))) rfl
theorem kn_M_arc : Cond.instanceMethod y_M_arc ∈ wG := wG_of (List.mem_append_right _ (List.mem_append_right _ (List.mem_append_right _ (List.mem_append_left _ (List.mem_of_getElem? (i := 196) (by rfl)))))) rfl
theorem kv_M_arc : Cond.selects "PulsePlotterModel" y_M_arc y_M_arc ∈ wG := wG_of (List.mem_append_left _ (List.mem_of_getElem? (i := 25) (by rfl))) rfl
abbrev y_M_over : MethodName := ⟨"PulsePlotterModel", "over", "(II)I"⟩
abbrev b_M_over : ByteArray := prog_8_method_14_code
theorem kc_M_over : Cond.code y_M_over b_M_over 5 (some .int) ∈ wG := wG_of (List.mem_append_right _ (List.mem_append_right _ (List.mem_append_right _ (List.mem_append_left _ (List.mem_of_getElem? (i := 205) (by rfl)))))) rfl
theorem ks_M_over : Cond.static y_M_over ∈ wG := wG_of (List.mem_append_right _ (List.mem_append_right _ (List.mem_append_right _ (List.mem_append_left _ (List.mem_of_getElem? (i := 204) (by rfl)))))) rfl
abbrev y_M_point : MethodName := ⟨"PulsePlotterModel", "point", "(II)V"⟩
abbrev b_M_point : ByteArray := prog_8_method_15_code
theorem kc_M_point : Cond.code y_M_point b_M_point 4 none ∈ wG := wG_of (List.mem_append_right _ (List.mem_append_right _ (List.mem_append_right _ (List.mem_append_left _ (List.mem_of_getElem? (i := 209) (by rfl)))))) rfl
theorem kn_M_point : Cond.instanceMethod y_M_point ∈ wG := wG_of (List.mem_append_right _ (List.mem_append_right _ (List.mem_append_right _ (List.mem_append_left _ (List.mem_of_getElem? (i := 208) (by rfl)))))) rfl
theorem kv_M_point : Cond.selects "PulsePlotterModel" y_M_point y_M_point ∈ wG := wG_of (List.mem_append_left _ (List.mem_of_getElem? (i := 27) (by rfl))) rfl
abbrev y_M_lay : MethodName := ⟨"PulsePlotterModel", "lay", "(I)V"⟩
abbrev b_M_lay : ByteArray := prog_8_method_16_code
theorem kc_M_lay : Cond.code y_M_lay b_M_lay 5 none ∈ wG := wG_of (List.mem_append_right _ (List.mem_append_right _ (List.mem_append_right _ (List.mem_append_left _ (List.mem_of_getElem? (i := 202) (by rfl)))))) rfl
theorem kn_M_lay : Cond.instanceMethod y_M_lay ∈ wG := wG_of (List.mem_append_right _ (List.mem_append_right _ (List.mem_append_right _ (List.mem_append_left _ (List.mem_of_getElem? (i := 201) (by rfl)))))) rfl
theorem kv_M_lay : Cond.selects "PulsePlotterModel" y_M_lay y_M_lay ∈ wG := wG_of (List.mem_append_left _ (List.mem_of_getElem? (i := 26) (by rfl))) rfl
abbrev y_M_half : MethodName := ⟨"PulsePlotterModel", "half", "(IIII)I"⟩
abbrev b_M_half : ByteArray := prog_8_method_17_code
theorem kc_M_half : Cond.code y_M_half b_M_half 6 (some .int) ∈ wG := wG_of (List.mem_append_right _ (List.mem_append_right _ (List.mem_append_right _ (List.mem_append_left _ (List.mem_of_getElem? (i := 217) (by rfl)))))) rfl
theorem kn_M_half : Cond.instanceMethod y_M_half ∈ wG := wG_of (List.mem_append_right _ (List.mem_append_right _ (List.mem_append_right _ (List.mem_append_left _ (List.mem_of_getElem? (i := 216) (by rfl)))))) rfl
theorem kv_M_half : Cond.selects "PulsePlotterModel" y_M_half y_M_half ∈ wG := wG_of (List.mem_append_left _ (List.mem_of_getElem? (i := 29) (by rfl))) rfl
abbrev y_M_before : MethodName := ⟨"PulsePlotterModel", "before", "(IIIIII)Z"⟩
abbrev b_M_before : ByteArray := prog_8_method_18_code
theorem kc_M_before : Cond.code y_M_before b_M_before 9 (some .boolean) ∈ wG := wG_of (List.mem_append_right _ (List.mem_append_right _ (List.mem_append_right _ (List.mem_append_left _ (List.mem_of_getElem? (i := 213) (by rfl)))))) rfl
theorem kn_M_before : Cond.instanceMethod y_M_before ∈ wG := wG_of (List.mem_append_right _ (List.mem_append_right _ (List.mem_append_right _ (List.mem_append_left _ (List.mem_of_getElem? (i := 212) (by rfl)))))) rfl
theorem kv_M_before : Cond.selects "PulsePlotterModel" y_M_before y_M_before ∈ wG := wG_of (List.mem_append_left _ (List.mem_of_getElem? (i := 28) (by rfl))) rfl
abbrev y_M_look : MethodName := ⟨"PulsePlotterModel", "look", "()V"⟩
abbrev b_M_look : ByteArray := prog_8_method_19_code
theorem kc_M_look : Cond.code y_M_look b_M_look 4 none ∈ wG := wG_of (List.mem_append_right _ (List.mem_append_right _ (List.mem_append_right _ (List.mem_append_left _ (List.mem_of_getElem? (i := 163) (by rfl)))))) rfl
theorem kn_M_look : Cond.instanceMethod y_M_look ∈ wG := wG_of (List.mem_append_right _ (List.mem_append_right _ (List.mem_append_right _ (List.mem_append_left _ (List.mem_of_getElem? (i := 162) (by rfl)))))) rfl
theorem kv_M_look : Cond.selects "PulsePlotterModel" y_M_look y_M_look ∈ wG := wG_of (List.mem_append_left _ (List.mem_of_getElem? (i := 19) (by rfl))) rfl
abbrev y_M_quotient : MethodName := ⟨"PulsePlotterModel", "quotient", "(II)I"⟩
abbrev b_M_quotient : ByteArray := prog_8_method_20_code
theorem kc_M_quotient : Cond.code y_M_quotient b_M_quotient 2 (some .int) ∈ wG := wG_of (List.mem_append_right _ (List.mem_append_right _ (List.mem_append_right _ (List.mem_append_left _ (List.mem_of_getElem? (i := 224) (by rfl)))))) rfl
theorem ks_M_quotient : Cond.static y_M_quotient ∈ wG := wG_of (List.mem_append_right _ (List.mem_append_right _ (List.mem_append_right _ (List.mem_append_left _ (List.mem_of_getElem? (i := 223) (by rfl)))))) rfl
abbrev y_M_pulse : MethodName := ⟨"PulsePlotterModel", "pulse", "()V"⟩
abbrev b_M_pulse : ByteArray := prog_8_method_21_code
theorem kc_M_pulse : Cond.code y_M_pulse b_M_pulse 8 none ∈ wG := wG_of (List.mem_append_right _ (List.mem_append_right _ (List.mem_append_right _ (List.mem_append_left _ (List.mem_of_getElem? (i := 221) (by rfl)))))) rfl
theorem kn_M_pulse : Cond.instanceMethod y_M_pulse ∈ wG := wG_of (List.mem_append_right _ (List.mem_append_right _ (List.mem_append_right _ (List.mem_append_left _ (List.mem_of_getElem? (i := 220) (by rfl)))))) rfl
theorem kv_M_pulse : Cond.selects "PulsePlotterModel" y_M_pulse y_M_pulse ∈ wG := wG_of (List.mem_append_left _ (List.mem_of_getElem? (i := 30) (by rfl))) rfl
abbrev y_M_run : MethodName := ⟨"PulsePlotterModel", "run", "(I)I"⟩
abbrev b_M_run : ByteArray := prog_8_method_22_code
theorem kc_M_run : Cond.code y_M_run b_M_run 4 (some .int) ∈ wG := wG_of (List.mem_append_right _ (List.mem_append_right _ (List.mem_append_right _ (List.mem_append_left _ (List.mem_of_getElem? (i := 158) (by rfl)))))) rfl
theorem kn_M_run : Cond.instanceMethod y_M_run ∈ wG := wG_of (List.mem_append_right _ (List.mem_append_right _ (List.mem_append_right _ (List.mem_append_left _ (List.mem_of_getElem? (i := 156) (by rfl)))))) rfl
theorem kv_M_run : Cond.selects "PulsePlotterModel" y_M_run y_M_run ∈ wG := wG_of (List.mem_append_right _ (List.mem_append_right _ (List.mem_append_right _ (List.mem_append_left _ (List.mem_of_getElem? (i := 157) (by rfl)))))) rfl
abbrev y_M_state : MethodName := ⟨"PulsePlotterModel", "state", "()I"⟩
abbrev b_M_state : ByteArray := prog_8_method_23_code
theorem kc_M_state : Cond.code y_M_state b_M_state 1 (some .int) ∈ wG := wG_of (List.mem_append_right _ (List.mem_append_right _ (List.mem_append_right _ (List.mem_append_left _ (List.mem_of_getElem? (i := 228) (by rfl)))))) rfl
theorem kn_M_state : Cond.instanceMethod y_M_state ∈ wG := wG_of (List.mem_append_right _ (List.mem_append_right _ (List.mem_append_right _ (List.mem_append_left _ (List.mem_of_getElem? (i := 226) (by rfl)))))) rfl
theorem kv_M_state : Cond.selects "PulsePlotterModel" y_M_state y_M_state ∈ wG := wG_of (List.mem_append_right _ (List.mem_append_right _ (List.mem_append_right _ (List.mem_append_left _ (List.mem_of_getElem? (i := 227) (by rfl)))))) rfl
abbrev y_M_x : MethodName := ⟨"PulsePlotterModel", "x", "()I"⟩
abbrev b_M_x : ByteArray := prog_8_method_24_code
theorem kc_M_x : Cond.code y_M_x b_M_x 1 (some .int) ∈ wG := wG_of (List.mem_append_right _ (List.mem_append_right _ (List.mem_append_right _ (List.mem_append_left _ (List.mem_of_getElem? (i := 232) (by rfl)))))) rfl
theorem kn_M_x : Cond.instanceMethod y_M_x ∈ wG := wG_of (List.mem_append_right _ (List.mem_append_right _ (List.mem_append_right _ (List.mem_append_left _ (List.mem_of_getElem? (i := 230) (by rfl)))))) rfl
theorem kv_M_x : Cond.selects "PulsePlotterModel" y_M_x y_M_x ∈ wG := wG_of (List.mem_append_right _ (List.mem_append_right _ (List.mem_append_right _ (List.mem_append_left _ (List.mem_of_getElem? (i := 231) (by rfl)))))) rfl
abbrev y_M_y : MethodName := ⟨"PulsePlotterModel", "y", "()I"⟩
abbrev b_M_y : ByteArray := prog_8_method_25_code
theorem kc_M_y : Cond.code y_M_y b_M_y 1 (some .int) ∈ wG := wG_of (List.mem_append_right _ (List.mem_append_right _ (List.mem_append_right _ (List.mem_append_left _ (List.mem_of_getElem? (i := 236) (by rfl)))))) rfl
theorem kn_M_y : Cond.instanceMethod y_M_y ∈ wG := wG_of (List.mem_append_right _ (List.mem_append_right _ (List.mem_append_right _ (List.mem_append_left _ (List.mem_of_getElem? (i := 234) (by rfl)))))) rfl
theorem kv_M_y : Cond.selects "PulsePlotterModel" y_M_y y_M_y ∈ wG := wG_of (List.mem_append_right _ (List.mem_append_right _ (List.mem_append_right _ (List.mem_append_left _ (List.mem_of_getElem? (i := 235) (by rfl)))))) rfl
abbrev y_M_time : MethodName := ⟨"PulsePlotterModel", "time", "()J"⟩
abbrev b_M_time : ByteArray := prog_8_method_26_code
theorem kc_M_time : Cond.code y_M_time b_M_time 1 (some .long) ∈ wG := wG_of (List.mem_append_right _ (List.mem_append_right _ (List.mem_append_right _ (List.mem_append_right _ (List.mem_of_getElem? (i := 0) (by rfl)))))) rfl
theorem kn_M_time : Cond.instanceMethod y_M_time ∈ wG := wG_of (List.mem_append_right _ (List.mem_append_right _ (List.mem_append_right _ (List.mem_append_left _ (List.mem_of_getElem? (i := 238) (by rfl)))))) rfl
theorem kv_M_time : Cond.selects "PulsePlotterModel" y_M_time y_M_time ∈ wG := wG_of (List.mem_append_right _ (List.mem_append_right _ (List.mem_append_right _ (List.mem_append_left _ (List.mem_of_getElem? (i := 239) (by rfl)))))) rfl
abbrev y_M_pulses : MethodName := ⟨"PulsePlotterModel", "pulses", "()I"⟩
abbrev b_M_pulses : ByteArray := prog_8_method_27_code
theorem kc_M_pulses : Cond.code y_M_pulses b_M_pulses 1 (some .int) ∈ wG := wG_of (List.mem_append_right _ (List.mem_append_right _ (List.mem_append_right _ (List.mem_append_right _ (List.mem_of_getElem? (i := 4) (by rfl)))))) rfl
theorem kn_M_pulses : Cond.instanceMethod y_M_pulses ∈ wG := wG_of (List.mem_append_right _ (List.mem_append_right _ (List.mem_append_right _ (List.mem_append_right _ (List.mem_of_getElem? (i := 2) (by rfl)))))) rfl
theorem kv_M_pulses : Cond.selects "PulsePlotterModel" y_M_pulses y_M_pulses ∈ wG := wG_of (List.mem_append_right _ (List.mem_append_right _ (List.mem_append_right _ (List.mem_append_right _ (List.mem_of_getElem? (i := 3) (by rfl)))))) rfl
abbrev y_M_last : MethodName := ⟨"PulsePlotterModel", "last", "()I"⟩
abbrev b_M_last : ByteArray := prog_8_method_28_code
theorem kc_M_last : Cond.code y_M_last b_M_last 1 (some .int) ∈ wG := wG_of (List.mem_append_right _ (List.mem_append_right _ (List.mem_append_right _ (List.mem_append_right _ (List.mem_of_getElem? (i := 8) (by rfl)))))) rfl
theorem kn_M_last : Cond.instanceMethod y_M_last ∈ wG := wG_of (List.mem_append_right _ (List.mem_append_right _ (List.mem_append_right _ (List.mem_append_right _ (List.mem_of_getElem? (i := 6) (by rfl)))))) rfl
theorem kv_M_last : Cond.selects "PulsePlotterModel" y_M_last y_M_last ∈ wG := wG_of (List.mem_append_right _ (List.mem_append_right _ (List.mem_append_right _ (List.mem_append_right _ (List.mem_of_getElem? (i := 7) (by rfl)))))) rfl
abbrev y_M_line : MethodName := ⟨"PulsePlotterModel", "line", "()I"⟩
abbrev b_M_line : ByteArray := prog_8_method_29_code
theorem kc_M_line : Cond.code y_M_line b_M_line 1 (some .int) ∈ wG := wG_of (List.mem_append_right _ (List.mem_append_right _ (List.mem_append_right _ (List.mem_append_right _ (List.mem_of_getElem? (i := 12) (by rfl)))))) rfl
theorem kn_M_line : Cond.instanceMethod y_M_line ∈ wG := wG_of (List.mem_append_right _ (List.mem_append_right _ (List.mem_append_right _ (List.mem_append_right _ (List.mem_of_getElem? (i := 10) (by rfl)))))) rfl
theorem kv_M_line : Cond.selects "PulsePlotterModel" y_M_line y_M_line ∈ wG := wG_of (List.mem_append_right _ (List.mem_append_right _ (List.mem_append_right _ (List.mem_append_right _ (List.mem_of_getElem? (i := 11) (by rfl)))))) rfl
abbrev y_M_feedRate : MethodName := ⟨"PulsePlotterModel", "feedRate", "()I"⟩
abbrev b_M_feedRate : ByteArray := prog_8_method_30_code
theorem kc_M_feedRate : Cond.code y_M_feedRate b_M_feedRate 1 (some .int) ∈ wG := wG_of (List.mem_append_right _ (List.mem_append_right _ (List.mem_append_right _ (List.mem_append_right _ (List.mem_of_getElem? (i := 16) (by rfl)))))) rfl
theorem kn_M_feedRate : Cond.instanceMethod y_M_feedRate ∈ wG := wG_of (List.mem_append_right _ (List.mem_append_right _ (List.mem_append_right _ (List.mem_append_right _ (List.mem_of_getElem? (i := 14) (by rfl)))))) rfl
theorem kv_M_feedRate : Cond.selects "PulsePlotterModel" y_M_feedRate y_M_feedRate ∈ wG := wG_of (List.mem_append_right _ (List.mem_append_right _ (List.mem_append_right _ (List.mem_append_right _ (List.mem_of_getElem? (i := 15) (by rfl)))))) rfl
abbrev y_M_mode : MethodName := ⟨"PulsePlotterModel", "mode", "()I"⟩
abbrev b_M_mode : ByteArray := prog_8_method_31_code
theorem kc_M_mode : Cond.code y_M_mode b_M_mode 1 (some .int) ∈ wG := wG_of (List.mem_append_right _ (List.mem_append_right _ (List.mem_append_right _ (List.mem_append_right _ (List.mem_of_getElem? (i := 20) (by rfl)))))) rfl
theorem kn_M_mode : Cond.instanceMethod y_M_mode ∈ wG := wG_of (List.mem_append_right _ (List.mem_append_right _ (List.mem_append_right _ (List.mem_append_right _ (List.mem_of_getElem? (i := 18) (by rfl)))))) rfl
theorem kv_M_mode : Cond.selects "PulsePlotterModel" y_M_mode y_M_mode ∈ wG := wG_of (List.mem_append_right _ (List.mem_append_right _ (List.mem_append_right _ (List.mem_append_right _ (List.mem_of_getElem? (i := 19) (by rfl)))))) rfl
abbrev y_M_left : MethodName := ⟨"PulsePlotterModel", "left", "()I"⟩
abbrev b_M_left : ByteArray := prog_8_method_32_code
theorem kc_M_left : Cond.code y_M_left b_M_left 1 (some .int) ∈ wG := wG_of (List.mem_append_right _ (List.mem_append_right _ (List.mem_append_right _ (List.mem_append_right _ (List.mem_of_getElem? (i := 24) (by rfl)))))) rfl
theorem kn_M_left : Cond.instanceMethod y_M_left ∈ wG := wG_of (List.mem_append_right _ (List.mem_append_right _ (List.mem_append_right _ (List.mem_append_right _ (List.mem_of_getElem? (i := 22) (by rfl)))))) rfl
theorem kv_M_left : Cond.selects "PulsePlotterModel" y_M_left y_M_left ∈ wG := wG_of (List.mem_append_right _ (List.mem_append_right _ (List.mem_append_right _ (List.mem_append_right _ (List.mem_of_getElem? (i := 23) (by rfl)))))) rfl
abbrev y_Y_init : MethodName := ⟨"PulsePlotter$Way", "<init>", "()V"⟩
abbrev b_Y_init : ByteArray := prog_5_method_1_code
theorem kc_Y_init : Cond.code y_Y_init b_Y_init 1 none ∈ wG := wG_of (List.mem_append_right _ (List.mem_append_left _ (List.mem_of_getElem? (i := 73) (by rfl)))) rfl
theorem kn_Y_init : Cond.instanceMethod y_Y_init ∈ wG := wG_of (List.mem_append_right _ (List.mem_append_left _ (List.mem_of_getElem? (i := 72) (by rfl)))) rfl
theorem ki_L : Cond.initialized "PulsePlotterLaw" ∈ wG := wG_of (List.mem_append_right _ (List.mem_append_left _ (List.mem_of_getElem? (i := 0) (by rfl)))) rfl
theorem ki_P : Cond.initialized "PulsePlotter" ∈ wG := wG_of (List.mem_append_right _ (List.mem_append_left _ (List.mem_of_getElem? (i := 1) (by rfl)))) rfl
theorem ki_T : Cond.initialized "PulsePlotter$Text" ∈ wG := wG_of (List.mem_append_right _ (List.mem_append_left _ (List.mem_of_getElem? (i := 2) (by rfl)))) rfl
theorem ki_W : Cond.initialized "PulsePlotter$Words" ∈ wG := wG_of (List.mem_append_right _ (List.mem_append_left _ (List.mem_of_getElem? (i := 3) (by rfl)))) rfl
theorem ki_Y : Cond.initialized "PulsePlotter$Way" ∈ wG := wG_of (List.mem_append_right _ (List.mem_append_left _ (List.mem_of_getElem? (i := 4) (by rfl)))) rfl
theorem ki_S : Cond.initialized "PulsePlotter$Straight" ∈ wG := wG_of (List.mem_append_right _ (List.mem_append_left _ (List.mem_of_getElem? (i := 5) (by rfl)))) rfl
theorem ki_A : Cond.initialized "PulsePlotter$Arc" ∈ wG := wG_of (List.mem_append_right _ (List.mem_append_left _ (List.mem_of_getElem? (i := 6) (by rfl)))) rfl
theorem ki_M : Cond.initialized "PulsePlotterModel" ∈ wG := wG_of (List.mem_append_right _ (List.mem_append_left _ (List.mem_of_getElem? (i := 7) (by rfl)))) rfl
theorem ki_Jm : Cond.initialized "java/lang/Math" ∈ wG := wG_of (List.mem_append_right _ (List.mem_append_left _ (List.mem_of_getElem? (i := 8) (by rfl)))) rfl
theorem ki_Js : Cond.initialized "java/lang/String" ∈ wG := wG_of (List.mem_append_right _ (List.mem_append_left _ (List.mem_of_getElem? (i := 9) (by rfl)))) rfl
theorem ki_Jl : Cond.initialized "java/lang/StringLatin1" ∈ wG := wG_of (List.mem_append_right _ (List.mem_append_left _ (List.mem_of_getElem? (i := 10) (by rfl)))) rfl
theorem k_L_9 : Cond.methodLink "PulsePlotterLaw" 9 ⟨"PulsePlotter", "<init>", "()V"⟩ ∈ wG := wG_of (List.mem_append_right _ (List.mem_append_left _ (List.mem_of_getElem? (i := 16) (by rfl)))) rfl
theorem k_P_1 : Cond.methodLink "PulsePlotter" 1 ⟨"java/lang/Object", "<init>", "()V"⟩ ∈ wG := wG_of (List.mem_append_right _ (List.mem_append_left _ (List.mem_of_getElem? (i := 19) (by rfl)))) rfl
theorem k_T_3 : Cond.methodLink "PulsePlotter$Text" 3 ⟨"java/lang/Object", "<init>", "()V"⟩ ∈ wG := wG_of (List.mem_append_right _ (List.mem_append_left _ (List.mem_of_getElem? (i := 27) (by rfl)))) rfl
theorem k_T_9 : Cond.fieldLink "PulsePlotter$Text" 9 "PulsePlotter$Text" "codes" "[C" ∈ wG := wG_of (List.mem_append_right _ (List.mem_append_left _ (List.mem_of_getElem? (i := 28) (by rfl)))) rfl
theorem k_T_15 : Cond.fieldLink "PulsePlotter$Text" 15 "PulsePlotter$Text" "size" "I" ∈ wG := wG_of (List.mem_append_right _ (List.mem_append_left _ (List.mem_of_getElem? (i := 29) (by rfl)))) rfl
theorem k_W_3 : Cond.methodLink "PulsePlotter$Words" 3 ⟨"java/lang/Object", "<init>", "()V"⟩ ∈ wG := wG_of (List.mem_append_right _ (List.mem_append_left _ (List.mem_of_getElem? (i := 41) (by rfl)))) rfl
theorem k_W_9 : Cond.fieldLink "PulsePlotter$Words" 9 "PulsePlotter$Words" "row" "[C" ∈ wG := wG_of (List.mem_append_right _ (List.mem_append_left _ (List.mem_of_getElem? (i := 42) (by rfl)))) rfl
theorem k_W_15 : Cond.fieldLink "PulsePlotter$Words" 15 "PulsePlotter$Words" "rowSize" "I" ∈ wG := wG_of (List.mem_append_right _ (List.mem_append_left _ (List.mem_of_getElem? (i := 43) (by rfl)))) rfl
theorem k_W_19 : Cond.fieldLink "PulsePlotter$Words" 19 "PulsePlotter$Words" "at" "I" ∈ wG := wG_of (List.mem_append_right _ (List.mem_append_left _ (List.mem_of_getElem? (i := 44) (by rfl)))) rfl
theorem k_W_22 : Cond.fieldLink "PulsePlotter$Words" 22 "PulsePlotter$Words" "present" "[Z" ∈ wG := wG_of (List.mem_append_right _ (List.mem_append_left _ (List.mem_of_getElem? (i := 45) (by rfl)))) rfl
theorem k_W_26 : Cond.fieldLink "PulsePlotter$Words" 26 "PulsePlotter$Words" "numbers" "[I" ∈ wG := wG_of (List.mem_append_right _ (List.mem_append_left _ (List.mem_of_getElem? (i := 46) (by rfl)))) rfl
theorem k_W_30 : Cond.fieldLink "PulsePlotter$Words" 30 "PulsePlotter$Words" "motion" "I" ∈ wG := wG_of (List.mem_append_right _ (List.mem_append_left _ (List.mem_of_getElem? (i := 47) (by rfl)))) rfl
theorem k_W_33 : Cond.fieldLink "PulsePlotter$Words" 33 "PulsePlotter$Words" "distances" "I" ∈ wG := wG_of (List.mem_append_right _ (List.mem_append_left _ (List.mem_of_getElem? (i := 48) (by rfl)))) rfl
theorem k_Y_1 : Cond.methodLink "PulsePlotter$Way" 1 ⟨"java/lang/Object", "<init>", "()V"⟩ ∈ wG := wG_of (List.mem_append_right _ (List.mem_append_left _ (List.mem_of_getElem? (i := 74) (by rfl)))) rfl
theorem k_S_7 : Cond.fieldLink "PulsePlotter$Straight" 7 "PulsePlotter$Straight" "startX" "I" ∈ wG := wG_of (List.mem_append_right _ (List.mem_append_left _ (List.mem_of_getElem? (i := 75) (by rfl)))) rfl
theorem k_S_13 : Cond.fieldLink "PulsePlotter$Straight" 13 "PulsePlotter$Straight" "startY" "I" ∈ wG := wG_of (List.mem_append_right _ (List.mem_append_left _ (List.mem_of_getElem? (i := 76) (by rfl)))) rfl
theorem k_S_16 : Cond.fieldLink "PulsePlotter$Straight" 16 "PulsePlotter$Straight" "dx" "I" ∈ wG := wG_of (List.mem_append_right _ (List.mem_append_left _ (List.mem_of_getElem? (i := 77) (by rfl)))) rfl
theorem k_S_19 : Cond.fieldLink "PulsePlotter$Straight" 19 "PulsePlotter$Straight" "dy" "I" ∈ wG := wG_of (List.mem_append_right _ (List.mem_append_left _ (List.mem_of_getElem? (i := 78) (by rfl)))) rfl
theorem k_S_22 : Cond.fieldLink "PulsePlotter$Straight" 22 "PulsePlotter$Straight" "size" "I" ∈ wG := wG_of (List.mem_append_right _ (List.mem_append_left _ (List.mem_of_getElem? (i := 79) (by rfl)))) rfl
theorem k_A_9 : Cond.fieldLink "PulsePlotter$Arc" 9 "PulsePlotter$Arc" "reach" "[I" ∈ wG := wG_of (List.mem_append_right _ (List.mem_append_left _ (List.mem_of_getElem? (i := 97) (by rfl)))) rfl
theorem k_A_15 : Cond.fieldLink "PulsePlotter$Arc" 15 "PulsePlotter$Arc" "centreX" "I" ∈ wG := wG_of (List.mem_append_right _ (List.mem_append_left _ (List.mem_of_getElem? (i := 98) (by rfl)))) rfl
theorem k_A_19 : Cond.fieldLink "PulsePlotter$Arc" 19 "PulsePlotter$Arc" "centreY" "I" ∈ wG := wG_of (List.mem_append_right _ (List.mem_append_left _ (List.mem_of_getElem? (i := 99) (by rfl)))) rfl
theorem k_A_22 : Cond.fieldLink "PulsePlotter$Arc" 22 "PulsePlotter$Arc" "diagonal" "I" ∈ wG := wG_of (List.mem_append_right _ (List.mem_append_left _ (List.mem_of_getElem? (i := 100) (by rfl)))) rfl
theorem k_A_25 : Cond.fieldLink "PulsePlotter$Arc" 25 "PulsePlotter$Arc" "side" "I" ∈ wG := wG_of (List.mem_append_right _ (List.mem_append_left _ (List.mem_of_getElem? (i := 101) (by rfl)))) rfl
theorem k_A_28 : Cond.fieldLink "PulsePlotter$Arc" 28 "PulsePlotter$Arc" "first" "I" ∈ wG := wG_of (List.mem_append_right _ (List.mem_append_left _ (List.mem_of_getElem? (i := 102) (by rfl)))) rfl
theorem k_A_31 : Cond.fieldLink "PulsePlotter$Arc" 31 "PulsePlotter$Arc" "turn" "I" ∈ wG := wG_of (List.mem_append_right _ (List.mem_append_left _ (List.mem_of_getElem? (i := 103) (by rfl)))) rfl
theorem k_A_34 : Cond.fieldLink "PulsePlotter$Arc" 34 "PulsePlotter$Arc" "size" "I" ∈ wG := wG_of (List.mem_append_right _ (List.mem_append_left _ (List.mem_of_getElem? (i := 104) (by rfl)))) rfl
theorem k_P_41 : Cond.methodLink "PulsePlotter" 41 ⟨"PulsePlotter", "begin", "()V"⟩ ∈ wG := wG_of (List.mem_append_right _ (List.mem_append_left _ (List.mem_of_getElem? (i := 122) (by rfl)))) rfl
theorem k_P_10 : Cond.fieldLink "PulsePlotter" 10 "PulsePlotter" "text" "LPulsePlotter$Text;" ∈ wG := wG_of (List.mem_append_right _ (List.mem_append_left _ (List.mem_of_getElem? (i := 126) (by rfl)))) rfl
theorem k_P_19 : Cond.fieldLink "PulsePlotter" 19 "PulsePlotter" "words" "LPulsePlotter$Words;" ∈ wG := wG_of (List.mem_append_right _ (List.mem_append_left _ (List.mem_of_getElem? (i := 127) (by rfl)))) rfl
theorem k_P_26 : Cond.fieldLink "PulsePlotter" 26 "PulsePlotter" "straight" "LPulsePlotter$Straight;" ∈ wG := wG_of (List.mem_append_right _ (List.mem_append_left _ (List.mem_of_getElem? (i := 128) (by rfl)))) rfl
theorem k_P_33 : Cond.fieldLink "PulsePlotter" 33 "PulsePlotter" "arc" "LPulsePlotter$Arc;" ∈ wG := wG_of (List.mem_append_right _ (List.mem_append_left _ (List.mem_of_getElem? (i := 129) (by rfl)))) rfl
theorem k_P_37 : Cond.fieldLink "PulsePlotter" 37 "PulsePlotter" "way" "LPulsePlotter$Way;" ∈ wG := wG_of (List.mem_append_right _ (List.mem_append_left _ (List.mem_of_getElem? (i := 130) (by rfl)))) rfl
theorem k_P_51 : Cond.fieldLink "PulsePlotter" 51 "PulsePlotter" "done" "I" ∈ wG := wG_of (List.mem_append_right _ (List.mem_append_left _ (List.mem_of_getElem? (i := 131) (by rfl)))) rfl
theorem k_P_55 : Cond.fieldLink "PulsePlotter" 55 "PulsePlotter" "left" "I" ∈ wG := wG_of (List.mem_append_right _ (List.mem_append_left _ (List.mem_of_getElem? (i := 132) (by rfl)))) rfl
theorem k_P_58 : Cond.fieldLink "PulsePlotter" 58 "PulsePlotter" "nextLineStart" "I" ∈ wG := wG_of (List.mem_append_right _ (List.mem_append_left _ (List.mem_of_getElem? (i := 133) (by rfl)))) rfl
theorem k_P_61 : Cond.fieldLink "PulsePlotter" 61 "PulsePlotter" "line" "I" ∈ wG := wG_of (List.mem_append_right _ (List.mem_append_left _ (List.mem_of_getElem? (i := 134) (by rfl)))) rfl
theorem k_P_64 : Cond.fieldLink "PulsePlotter" 64 "PulsePlotter" "state" "I" ∈ wG := wG_of (List.mem_append_right _ (List.mem_append_left _ (List.mem_of_getElem? (i := 135) (by rfl)))) rfl
theorem k_P_67 : Cond.fieldLink "PulsePlotter" 67 "PulsePlotter" "ending" "Z" ∈ wG := wG_of (List.mem_append_right _ (List.mem_append_left _ (List.mem_of_getElem? (i := 136) (by rfl)))) rfl
theorem k_P_71 : Cond.fieldLink "PulsePlotter" 71 "PulsePlotter" "x" "I" ∈ wG := wG_of (List.mem_append_right _ (List.mem_append_left _ (List.mem_of_getElem? (i := 137) (by rfl)))) rfl
theorem k_P_74 : Cond.fieldLink "PulsePlotter" 74 "PulsePlotter" "y" "I" ∈ wG := wG_of (List.mem_append_right _ (List.mem_append_left _ (List.mem_of_getElem? (i := 138) (by rfl)))) rfl
theorem k_P_77 : Cond.fieldLink "PulsePlotter" 77 "PulsePlotter" "time" "J" ∈ wG := wG_of (List.mem_append_right _ (List.mem_append_left _ (List.mem_of_getElem? (i := 139) (by rfl)))) rfl
theorem k_P_81 : Cond.fieldLink "PulsePlotter" 81 "PulsePlotter" "pulses" "I" ∈ wG := wG_of (List.mem_append_right _ (List.mem_append_left _ (List.mem_of_getElem? (i := 140) (by rfl)))) rfl
theorem k_P_84 : Cond.fieldLink "PulsePlotter" 84 "PulsePlotter" "last" "I" ∈ wG := wG_of (List.mem_append_right _ (List.mem_append_left _ (List.mem_of_getElem? (i := 141) (by rfl)))) rfl
theorem k_P_87 : Cond.fieldLink "PulsePlotter" 87 "PulsePlotter" "feedRate" "I" ∈ wG := wG_of (List.mem_append_right _ (List.mem_append_left _ (List.mem_of_getElem? (i := 142) (by rfl)))) rfl
theorem k_P_90 : Cond.fieldLink "PulsePlotter" 90 "PulsePlotter" "motion" "I" ∈ wG := wG_of (List.mem_append_right _ (List.mem_append_left _ (List.mem_of_getElem? (i := 143) (by rfl)))) rfl
theorem k_P_93 : Cond.fieldLink "PulsePlotter" 93 "PulsePlotter" "relative" "Z" ∈ wG := wG_of (List.mem_append_right _ (List.mem_append_left _ (List.mem_of_getElem? (i := 144) (by rfl)))) rfl
theorem k_L_13 : Cond.methodLink "PulsePlotterLaw" 13 ⟨"PulsePlotter", "feed", "(I)I"⟩ ∈ wG := wG_of (List.mem_append_right _ (List.mem_append_left _ (List.mem_of_getElem? (i := 184) (by rfl)))) rfl
theorem k_P_44 : Cond.methodLink "PulsePlotter" 44 ⟨"PulsePlotter$Text", "append", "(I)I"⟩ ∈ wG := wG_of (List.mem_append_right _ (List.mem_append_left _ (List.mem_of_getElem? (i := 188) (by rfl)))) rfl
theorem k_T_19 : Cond.methodLink "PulsePlotter$Text" 19 ⟨"PulsePlotter$Text", "packedCode", "(II)I"⟩ ∈ wG := wG_of (List.mem_append_right _ (List.mem_append_left _ (List.mem_of_getElem? (i := 192) (by rfl)))) rfl
theorem k_L_18 : Cond.methodLink "PulsePlotterLaw" 18 ⟨"PulsePlotter", "clear", "()V"⟩ ∈ wG := wG_of (List.mem_append_right _ (List.mem_append_left _ (List.mem_of_getElem? (i := 195) (by rfl)))) rfl
theorem k_P_48 : Cond.methodLink "PulsePlotter" 48 ⟨"PulsePlotter$Text", "empty", "()V"⟩ ∈ wG := wG_of (List.mem_append_right _ (List.mem_append_left _ (List.mem_of_getElem? (i := 199) (by rfl)))) rfl
theorem k_L_22 : Cond.methodLink "PulsePlotterLaw" 22 ⟨"PulsePlotter", "begin", "()V"⟩ ∈ wG := wG_of (List.mem_append_right _ (List.mem_append_left _ (List.mem_of_getElem? (i := 203) (by rfl)))) rfl
theorem k_L_26 : Cond.methodLink "PulsePlotterLaw" 26 ⟨"PulsePlotter", "run", "(I)I"⟩ ∈ wG := wG_of (List.mem_append_right _ (List.mem_append_left _ (List.mem_of_getElem? (i := 204) (by rfl)))) rfl
theorem k_P_96 : Cond.methodLink "PulsePlotter" 96 ⟨"PulsePlotter", "makePulses", "(I)I"⟩ ∈ wG := wG_of (List.mem_append_right _ (List.mem_append_left _ (List.mem_of_getElem? (i := 208) (by rfl)))) rfl
theorem k_P_102 : Cond.methodLink "PulsePlotter" 102 ⟨"java/lang/Math", "min", "(II)I"⟩ ∈ wG := wG_of (List.mem_append_right _ (List.mem_append_left _ (List.mem_of_getElem? (i := 212) (by rfl)))) rfl
theorem k_P_108 : Cond.methodLink "PulsePlotter" 108 ⟨"PulsePlotter$Way", "xAfter", "(I)I"⟩ ∈ wG := wG_of (List.mem_append_right _ (List.mem_append_left _ (List.mem_of_getElem? (i := 215) (by rfl)))) rfl
theorem k_A_53 : Cond.methodLink "PulsePlotter$Arc" 53 ⟨"PulsePlotter$Arc", "xOf", "(I)I"⟩ ∈ wG := wG_of (List.mem_append_right _ (List.mem_append_left _ (List.mem_of_getElem? (i := 221) (by rfl)))) rfl
theorem k_A_50 : Cond.methodLink "PulsePlotter$Arc" 50 ⟨"java/lang/Math", "floorMod", "(II)I"⟩ ∈ wG := wG_of (List.mem_append_right _ (List.mem_append_left _ (List.mem_of_getElem? (i := 225) (by rfl)))) rfl
theorem k_A_56 : Cond.methodLink "PulsePlotter$Arc" 56 ⟨"PulsePlotter$Arc", "reachAt", "(I)I"⟩ ∈ wG := wG_of (List.mem_append_right _ (List.mem_append_left _ (List.mem_of_getElem? (i := 228) (by rfl)))) rfl
theorem k_S_35 : Cond.methodLink "PulsePlotter$Straight" 35 ⟨"PulsePlotter$Straight", "part", "(II)I"⟩ ∈ wG := wG_of (List.mem_append_right _ (List.mem_append_left _ (List.mem_of_getElem? (i := 235) (by rfl)))) rfl
theorem k_S_38 : Cond.methodLink "PulsePlotter$Straight" 38 ⟨"java/lang/Math", "floorDiv", "(II)I"⟩ ∈ wG := wG_of (List.mem_append_right _ (List.mem_append_left _ (List.mem_of_getElem? (i := 239) (by rfl)))) rfl
theorem k_P_113 : Cond.methodLink "PulsePlotter" 113 ⟨"PulsePlotter$Way", "yAfter", "(I)I"⟩ ∈ wG := wG_of (List.mem_append_right _ (List.mem_append_right _ (List.mem_append_left _ (List.mem_of_getElem? (i := 2) (by rfl))))) rfl
theorem k_P_116 : Cond.methodLink "PulsePlotter" 116 ⟨"PulsePlotter", "pause", "()I"⟩ ∈ wG := wG_of (List.mem_append_right _ (List.mem_append_right _ (List.mem_append_left _ (List.mem_of_getElem? (i := 11) (by rfl))))) rfl
theorem k_P_120 : Cond.constant "PulsePlotter" 120 1000000 ∈ wG := wG_of (List.mem_append_right _ (List.mem_append_right _ (List.mem_append_left _ (List.mem_of_getElem? (i := 15) (by rfl))))) rfl
theorem k_P_99 : Cond.methodLink "PulsePlotter" 99 ⟨"PulsePlotter", "lookAtNextLine", "()V"⟩ ∈ wG := wG_of (List.mem_append_right _ (List.mem_append_right _ (List.mem_append_left _ (List.mem_of_getElem? (i := 16) (by rfl))))) rfl
theorem k_P_121 : Cond.methodLink "PulsePlotter" 121 ⟨"PulsePlotter$Text", "size", "()I"⟩ ∈ wG := wG_of (List.mem_append_right _ (List.mem_append_right _ (List.mem_append_left _ (List.mem_of_getElem? (i := 20) (by rfl))))) rfl
theorem k_P_124 : Cond.methodLink "PulsePlotter" 124 ⟨"PulsePlotter$Text", "lineEnd", "(I)I"⟩ ∈ wG := wG_of (List.mem_append_right _ (List.mem_append_right _ (List.mem_append_left _ (List.mem_of_getElem? (i := 24) (by rfl))))) rfl
theorem k_T_23 : Cond.methodLink "PulsePlotter$Text" 23 ⟨"PulsePlotter$Text", "codeAt", "(I)C"⟩ ∈ wG := wG_of (List.mem_append_right _ (List.mem_append_right _ (List.mem_append_left _ (List.mem_of_getElem? (i := 28) (by rfl))))) rfl
theorem k_P_127 : Cond.methodLink "PulsePlotter" 127 ⟨"PulsePlotter$Words", "read", "(LPulsePlotter$Text;II)I"⟩ ∈ wG := wG_of (List.mem_append_right _ (List.mem_append_right _ (List.mem_append_left _ (List.mem_of_getElem? (i := 32) (by rfl))))) rfl
theorem k_W_40 : Cond.methodLink "PulsePlotter$Words" 40 ⟨"PulsePlotter$Words", "forget", "()V"⟩ ∈ wG := wG_of (List.mem_append_right _ (List.mem_append_right _ (List.mem_append_left _ (List.mem_of_getElem? (i := 36) (by rfl))))) rfl
theorem k_W_43 : Cond.methodLink "PulsePlotter$Words" 43 ⟨"PulsePlotter$Words", "takeRow", "(LPulsePlotter$Text;II)V"⟩ ∈ wG := wG_of (List.mem_append_right _ (List.mem_append_right _ (List.mem_append_left _ (List.mem_of_getElem? (i := 40) (by rfl))))) rfl
theorem k_W_51 : Cond.methodLink "PulsePlotter$Words" 51 ⟨"PulsePlotter$Text", "codeAt", "(I)C"⟩ ∈ wG := wG_of (List.mem_append_right _ (List.mem_append_right _ (List.mem_append_left _ (List.mem_of_getElem? (i := 44) (by rfl))))) rfl
theorem k_W_47 : Cond.methodLink "PulsePlotter$Words" 47 ⟨"PulsePlotter$Words", "readWord", "()I"⟩ ∈ wG := wG_of (List.mem_append_right _ (List.mem_append_right _ (List.mem_append_left _ (List.mem_of_getElem? (i := 45) (by rfl))))) rfl
theorem k_W_59 : Cond.methodLink "PulsePlotter$Words" 59 ⟨"PulsePlotter$Words", "peek", "()C"⟩ ∈ wG := wG_of (List.mem_append_right _ (List.mem_append_right _ (List.mem_append_left _ (List.mem_of_getElem? (i := 50) (by rfl))))) rfl
theorem k_W_63 : Cond.methodLink "PulsePlotter$Words" 63 ⟨"java/lang/String", "indexOf", "(I)I"⟩ ∈ wG := wG_of (List.mem_append_right _ (List.mem_append_right _ (List.mem_append_left _ (List.mem_of_getElem? (i := 54) (by rfl))))) rfl
theorem k_Js_633 : Cond.methodLink "java/lang/String" 633 ⟨"java/lang/String", "indexOf", "(II)I"⟩ ∈ wG := wG_of (List.mem_append_right _ (List.mem_append_right _ (List.mem_append_left _ (List.mem_of_getElem? (i := 58) (by rfl))))) rfl
theorem k_Js_492 : Cond.methodLink "java/lang/String" 492 ⟨"java/lang/String", "isLatin1", "()Z"⟩ ∈ wG := wG_of (List.mem_append_right _ (List.mem_append_right _ (List.mem_append_left _ (List.mem_of_getElem? (i := 62) (by rfl))))) rfl
theorem k_Js_38 : Cond.fieldLink "java/lang/String" 38 "java/lang/String" "COMPACT_STRINGS" "Z" ∈ wG := wG_of (List.mem_append_right _ (List.mem_append_right _ (List.mem_append_left _ (List.mem_of_getElem? (i := 66) (by rfl))))) rfl
theorem k_Js_505 : Cond.methodLink "java/lang/String" 505 ⟨"java/lang/String", "length", "()I"⟩ ∈ wG := wG_of (List.mem_append_right _ (List.mem_append_right _ (List.mem_append_left _ (List.mem_of_getElem? (i := 68) (by rfl))))) rfl
theorem k_Js_335 : Cond.methodLink "java/lang/String" 335 ⟨"java/lang/String", "coder", "()B"⟩ ∈ wG := wG_of (List.mem_append_right _ (List.mem_append_right _ (List.mem_append_left _ (List.mem_of_getElem? (i := 72) (by rfl))))) rfl
theorem k_Js_637 : Cond.methodLink "java/lang/String" 637 ⟨"java/lang/StringLatin1", "indexOf", "([BIII)I"⟩ ∈ wG := wG_of (List.mem_append_right _ (List.mem_append_right _ (List.mem_append_left _ (List.mem_of_getElem? (i := 76) (by rfl))))) rfl
theorem k_Jl_88 : Cond.methodLink "java/lang/StringLatin1" 88 ⟨"java/lang/StringLatin1", "canEncode", "(I)Z"⟩ ∈ wG := wG_of (List.mem_append_right _ (List.mem_append_right _ (List.mem_append_left _ (List.mem_of_getElem? (i := 79) (by rfl))))) rfl
theorem k_Jl_92 : Cond.methodLink "java/lang/StringLatin1" 92 ⟨"java/lang/Math", "max", "(II)I"⟩ ∈ wG := wG_of (List.mem_append_right _ (List.mem_append_right _ (List.mem_append_left _ (List.mem_of_getElem? (i := 82) (by rfl))))) rfl
theorem k_Jl_38 : Cond.methodLink "java/lang/StringLatin1" 38 ⟨"java/lang/Math", "min", "(II)I"⟩ ∈ wG := wG_of (List.mem_append_right _ (List.mem_append_right _ (List.mem_append_left _ (List.mem_of_getElem? (i := 85) (by rfl))))) rfl
theorem k_Jl_95 : Cond.methodLink "java/lang/StringLatin1" 95 ⟨"java/lang/StringLatin1", "indexOfChar", "([BIII)I"⟩ ∈ wG := wG_of (List.mem_append_right _ (List.mem_append_right _ (List.mem_append_left _ (List.mem_of_getElem? (i := 86) (by rfl))))) rfl
theorem k_Js_640 : Cond.methodLink "java/lang/String" 640 ⟨"java/lang/StringUTF16", "indexOf", "([BIII)I"⟩ ∈ wG := wG_of (List.mem_append_right _ (List.mem_append_right _ (List.mem_append_left _ (List.mem_of_getElem? (i := 89) (by rfl))))) rfl
theorem k_Js_1053 : Cond.fieldLink "java/lang/String" 1053 "jdk/internal/util/Preconditions" "SIOOBE_FORMATTER" "Ljava/util/function/BiFunction;" ∈ wG := wG_of (List.mem_append_right _ (List.mem_append_right _ (List.mem_append_left _ (List.mem_of_getElem? (i := 107) (by rfl))))) rfl
theorem k_Js_1062 : Cond.methodLink "java/lang/String" 1062 ⟨"jdk/internal/util/Preconditions", "checkFromToIndex", "(IIILjava/util/function/BiFunction;)I"⟩ ∈ wG := wG_of (List.mem_append_right _ (List.mem_append_right _ (List.mem_append_left _ (List.mem_of_getElem? (i := 109) (by rfl))))) rfl
theorem k_W_69 : Cond.methodLink "PulsePlotter$Words" 69 ⟨"PulsePlotter$Words", "isSigned", "(I)Z"⟩ ∈ wG := wG_of (List.mem_append_right _ (List.mem_append_right _ (List.mem_append_left _ (List.mem_of_getElem? (i := 138) (by rfl))))) rfl
theorem k_W_72 : Cond.methodLink "PulsePlotter$Words" 72 ⟨"PulsePlotter$Words", "isDigit", "(C)Z"⟩ ∈ wG := wG_of (List.mem_append_right _ (List.mem_append_right _ (List.mem_append_left _ (List.mem_of_getElem? (i := 141) (by rfl))))) rfl
theorem k_W_76 : Cond.fieldLink "PulsePlotter$Words" 76 "PulsePlotter$Words" "MOST_DIGITS" "[I" ∈ wG := wG_of (List.mem_append_right _ (List.mem_append_right _ (List.mem_append_left _ (List.mem_of_getElem? (i := 144) (by rfl))))) rfl
theorem k_W_79 : Cond.methodLink "PulsePlotter$Words" 79 ⟨"PulsePlotter$Words", "keepG", "(I)I"⟩ ∈ wG := wG_of (List.mem_append_right _ (List.mem_append_right _ (List.mem_append_left _ (List.mem_of_getElem? (i := 146) (by rfl))))) rfl
theorem k_W_82 : Cond.methodLink "PulsePlotter$Words" 82 ⟨"PulsePlotter$Words", "keep", "(II)I"⟩ ∈ wG := wG_of (List.mem_append_right _ (List.mem_append_right _ (List.mem_append_left _ (List.mem_of_getElem? (i := 150) (by rfl))))) rfl
theorem k_P_131 : Cond.methodLink "PulsePlotter" 131 ⟨"PulsePlotter", "applySettings", "()V"⟩ ∈ wG := wG_of (List.mem_append_right _ (List.mem_append_right _ (List.mem_append_left _ (List.mem_of_getElem? (i := 154) (by rfl))))) rfl
theorem k_P_137 : Cond.methodLink "PulsePlotter" 137 ⟨"PulsePlotter$Words", "has", "(I)Z"⟩ ∈ wG := wG_of (List.mem_append_right _ (List.mem_append_right _ (List.mem_append_left _ (List.mem_of_getElem? (i := 158) (by rfl))))) rfl
theorem k_P_141 : Cond.methodLink "PulsePlotter" 141 ⟨"PulsePlotter$Words", "number", "(I)I"⟩ ∈ wG := wG_of (List.mem_append_right _ (List.mem_append_right _ (List.mem_append_left _ (List.mem_of_getElem? (i := 162) (by rfl))))) rfl
theorem k_W_36 : Cond.methodLink "PulsePlotter$Words" 36 ⟨"PulsePlotter$Words", "has", "(I)Z"⟩ ∈ wG := wG_of (List.mem_append_right _ (List.mem_append_right _ (List.mem_append_left _ (List.mem_of_getElem? (i := 166) (by rfl))))) rfl
theorem k_P_144 : Cond.methodLink "PulsePlotter" 144 ⟨"PulsePlotter$Words", "distances", "()I"⟩ ∈ wG := wG_of (List.mem_append_right _ (List.mem_append_right _ (List.mem_append_left _ (List.mem_of_getElem? (i := 167) (by rfl))))) rfl
theorem k_P_147 : Cond.methodLink "PulsePlotter" 147 ⟨"PulsePlotter$Words", "motion", "()I"⟩ ∈ wG := wG_of (List.mem_append_right _ (List.mem_append_right _ (List.mem_append_left _ (List.mem_of_getElem? (i := 171) (by rfl))))) rfl
theorem k_P_134 : Cond.methodLink "PulsePlotter" 134 ⟨"PulsePlotter", "startMove", "()I"⟩ ∈ wG := wG_of (List.mem_append_right _ (List.mem_append_right _ (List.mem_append_left _ (List.mem_of_getElem? (i := 175) (by rfl))))) rfl
theorem k_P_149 : Cond.methodLink "PulsePlotter" 149 ⟨"PulsePlotter", "goal", "(II)I"⟩ ∈ wG := wG_of (List.mem_append_right _ (List.mem_append_right _ (List.mem_append_left _ (List.mem_of_getElem? (i := 179) (by rfl))))) rfl
theorem k_P_152 : Cond.methodLink "PulsePlotter" 152 ⟨"PulsePlotter", "startArc", "(II)I"⟩ ∈ wG := wG_of (List.mem_append_right _ (List.mem_append_right _ (List.mem_append_left _ (List.mem_of_getElem? (i := 183) (by rfl))))) rfl
theorem k_P_169 : Cond.methodLink "PulsePlotter" 169 ⟨"PulsePlotter$Arc", "radius", "(I)I"⟩ ∈ wG := wG_of (List.mem_append_right _ (List.mem_append_right _ (List.mem_append_left _ (List.mem_of_getElem? (i := 187) (by rfl))))) rfl
theorem k_P_158 : Cond.methodLink "PulsePlotter" 158 ⟨"PulsePlotter", "isOutside", "(I)Z"⟩ ∈ wG := wG_of (List.mem_append_right _ (List.mem_append_right _ (List.mem_append_left _ (List.mem_of_getElem? (i := 190) (by rfl))))) rfl
theorem k_P_172 : Cond.methodLink "PulsePlotter" 172 ⟨"PulsePlotter$Arc", "lay", "(III)V"⟩ ∈ wG := wG_of (List.mem_append_right _ (List.mem_append_right _ (List.mem_append_left _ (List.mem_of_getElem? (i := 193) (by rfl))))) rfl
theorem k_A_37 : Cond.methodLink "PulsePlotter$Arc" 37 ⟨"PulsePlotter$Arc", "radius", "(I)I"⟩ ∈ wG := wG_of (List.mem_append_right _ (List.mem_append_right _ (List.mem_append_left _ (List.mem_of_getElem? (i := 197) (by rfl))))) rfl
theorem k_A_41 : Cond.methodLink "PulsePlotter$Arc" 41 ⟨"java/lang/Math", "max", "(II)I"⟩ ∈ wG := wG_of (List.mem_append_right _ (List.mem_append_right _ (List.mem_append_left _ (List.mem_of_getElem? (i := 198) (by rfl))))) rfl
theorem k_P_175 : Cond.methodLink "PulsePlotter" 175 ⟨"PulsePlotter$Arc", "join", "(IIIIZ)V"⟩ ∈ wG := wG_of (List.mem_append_right _ (List.mem_append_right _ (List.mem_append_left _ (List.mem_of_getElem? (i := 199) (by rfl))))) rfl
theorem k_A_47 : Cond.methodLink "PulsePlotter$Arc" 47 ⟨"PulsePlotter$Arc", "numberOf", "(II)I"⟩ ∈ wG := wG_of (List.mem_append_right _ (List.mem_append_right _ (List.mem_append_left _ (List.mem_of_getElem? (i := 203) (by rfl))))) rfl
theorem k_P_165 : Cond.methodLink "PulsePlotter" 165 ⟨"PulsePlotter", "follow", "(LPulsePlotter$Way;)V"⟩ ∈ wG := wG_of (List.mem_append_right _ (List.mem_append_right _ (List.mem_append_left _ (List.mem_of_getElem? (i := 207) (by rfl))))) rfl
theorem k_P_179 : Cond.methodLink "PulsePlotter" 179 ⟨"PulsePlotter$Way", "size", "()I"⟩ ∈ wG := wG_of (List.mem_append_right _ (List.mem_append_right _ (List.mem_append_left _ (List.mem_of_getElem? (i := 211) (by rfl))))) rfl
theorem k_P_155 : Cond.methodLink "PulsePlotter" 155 ⟨"PulsePlotter", "startStraight", "(II)I"⟩ ∈ wG := wG_of (List.mem_append_right _ (List.mem_append_right _ (List.mem_append_left _ (List.mem_of_getElem? (i := 220) (by rfl))))) rfl
theorem k_P_161 : Cond.methodLink "PulsePlotter" 161 ⟨"PulsePlotter$Straight", "lay", "(IIII)V"⟩ ∈ wG := wG_of (List.mem_append_right _ (List.mem_append_right _ (List.mem_append_left _ (List.mem_of_getElem? (i := 224) (by rfl))))) rfl
theorem k_S_25 : Cond.methodLink "PulsePlotter$Straight" 25 ⟨"java/lang/Math", "abs", "(I)I"⟩ ∈ wG := wG_of (List.mem_append_right _ (List.mem_append_right _ (List.mem_append_left _ (List.mem_of_getElem? (i := 228) (by rfl))))) rfl
theorem k_S_31 : Cond.methodLink "PulsePlotter$Straight" 31 ⟨"java/lang/Math", "max", "(II)I"⟩ ∈ wG := wG_of (List.mem_append_right _ (List.mem_append_right _ (List.mem_append_left _ (List.mem_of_getElem? (i := 231) (by rfl))))) rfl
theorem k_L_30 : Cond.methodLink "PulsePlotterLaw" 30 ⟨"PulsePlotter", "state", "()I"⟩ ∈ wG := wG_of (List.mem_append_right _ (List.mem_append_right _ (List.mem_append_left _ (List.mem_of_getElem? (i := 233) (by rfl))))) rfl
theorem k_L_35 : Cond.methodLink "PulsePlotterLaw" 35 ⟨"PulsePlotter", "x", "()I"⟩ ∈ wG := wG_of (List.mem_append_right _ (List.mem_append_right _ (List.mem_append_left _ (List.mem_of_getElem? (i := 237) (by rfl))))) rfl
theorem k_L_39 : Cond.methodLink "PulsePlotterLaw" 39 ⟨"PulsePlotter", "y", "()I"⟩ ∈ wG := wG_of (List.mem_append_right _ (List.mem_append_right _ (List.mem_append_right _ (List.mem_append_left _ (List.mem_of_getElem? (i := 1) (by rfl)))))) rfl
theorem k_L_43 : Cond.methodLink "PulsePlotterLaw" 43 ⟨"PulsePlotter", "time", "()J"⟩ ∈ wG := wG_of (List.mem_append_right _ (List.mem_append_right _ (List.mem_append_right _ (List.mem_append_left _ (List.mem_of_getElem? (i := 5) (by rfl)))))) rfl
theorem k_L_48 : Cond.methodLink "PulsePlotterLaw" 48 ⟨"PulsePlotter", "pulses", "()I"⟩ ∈ wG := wG_of (List.mem_append_right _ (List.mem_append_right _ (List.mem_append_right _ (List.mem_append_left _ (List.mem_of_getElem? (i := 9) (by rfl)))))) rfl
theorem k_L_52 : Cond.methodLink "PulsePlotterLaw" 52 ⟨"PulsePlotter", "last", "()I"⟩ ∈ wG := wG_of (List.mem_append_right _ (List.mem_append_right _ (List.mem_append_right _ (List.mem_append_left _ (List.mem_of_getElem? (i := 13) (by rfl)))))) rfl
theorem k_L_56 : Cond.methodLink "PulsePlotterLaw" 56 ⟨"PulsePlotter", "line", "()I"⟩ ∈ wG := wG_of (List.mem_append_right _ (List.mem_append_right _ (List.mem_append_right _ (List.mem_append_left _ (List.mem_of_getElem? (i := 17) (by rfl)))))) rfl
theorem k_L_60 : Cond.methodLink "PulsePlotterLaw" 60 ⟨"PulsePlotter", "feedRate", "()I"⟩ ∈ wG := wG_of (List.mem_append_right _ (List.mem_append_right _ (List.mem_append_right _ (List.mem_append_left _ (List.mem_of_getElem? (i := 21) (by rfl)))))) rfl
theorem k_L_64 : Cond.methodLink "PulsePlotterLaw" 64 ⟨"PulsePlotter", "mode", "()I"⟩ ∈ wG := wG_of (List.mem_append_right _ (List.mem_append_right _ (List.mem_append_right _ (List.mem_append_left _ (List.mem_of_getElem? (i := 25) (by rfl)))))) rfl
theorem k_L_68 : Cond.methodLink "PulsePlotterLaw" 68 ⟨"PulsePlotter", "left", "()I"⟩ ∈ wG := wG_of (List.mem_append_right _ (List.mem_append_right _ (List.mem_append_right _ (List.mem_append_left _ (List.mem_of_getElem? (i := 29) (by rfl)))))) rfl
theorem k_L_12 : Cond.methodLink "PulsePlotterLaw" 12 ⟨"PulsePlotterModel", "<init>", "()V"⟩ ∈ wG := wG_of (List.mem_append_right _ (List.mem_append_right _ (List.mem_append_right _ (List.mem_append_left _ (List.mem_of_getElem? (i := 35) (by rfl)))))) rfl
theorem k_M_1 : Cond.methodLink "PulsePlotterModel" 1 ⟨"java/lang/Object", "<init>", "()V"⟩ ∈ wG := wG_of (List.mem_append_right _ (List.mem_append_right _ (List.mem_append_right _ (List.mem_append_left _ (List.mem_of_getElem? (i := 38) (by rfl)))))) rfl
theorem k_M_22 : Cond.methodLink "PulsePlotterModel" 22 ⟨"PulsePlotterModel", "begin", "()V"⟩ ∈ wG := wG_of (List.mem_append_right _ (List.mem_append_right _ (List.mem_append_right _ (List.mem_append_left _ (List.mem_of_getElem? (i := 39) (by rfl)))))) rfl
theorem k_M_7 : Cond.fieldLink "PulsePlotterModel" 7 "PulsePlotterModel" "text" "[I" ∈ wG := wG_of (List.mem_append_right _ (List.mem_append_right _ (List.mem_append_right _ (List.mem_append_left _ (List.mem_of_getElem? (i := 43) (by rfl)))))) rfl
theorem k_M_25 : Cond.fieldLink "PulsePlotterModel" 25 "PulsePlotterModel" "length" "I" ∈ wG := wG_of (List.mem_append_right _ (List.mem_append_right _ (List.mem_append_right _ (List.mem_append_left _ (List.mem_of_getElem? (i := 44) (by rfl)))))) rfl
theorem k_M_29 : Cond.fieldLink "PulsePlotterModel" 29 "PulsePlotterModel" "at" "I" ∈ wG := wG_of (List.mem_append_right _ (List.mem_append_right _ (List.mem_append_right _ (List.mem_append_left _ (List.mem_of_getElem? (i := 45) (by rfl)))))) rfl
theorem k_M_32 : Cond.fieldLink "PulsePlotterModel" 32 "PulsePlotterModel" "lines" "I" ∈ wG := wG_of (List.mem_append_right _ (List.mem_append_right _ (List.mem_append_right _ (List.mem_append_left _ (List.mem_of_getElem? (i := 46) (by rfl)))))) rfl
theorem k_M_35 : Cond.fieldLink "PulsePlotterModel" 35 "PulsePlotterModel" "x" "I" ∈ wG := wG_of (List.mem_append_right _ (List.mem_append_right _ (List.mem_append_right _ (List.mem_append_left _ (List.mem_of_getElem? (i := 47) (by rfl)))))) rfl
theorem k_M_38 : Cond.fieldLink "PulsePlotterModel" 38 "PulsePlotterModel" "y" "I" ∈ wG := wG_of (List.mem_append_right _ (List.mem_append_right _ (List.mem_append_right _ (List.mem_append_left _ (List.mem_of_getElem? (i := 48) (by rfl)))))) rfl
theorem k_M_41 : Cond.fieldLink "PulsePlotterModel" 41 "PulsePlotterModel" "mode" "I" ∈ wG := wG_of (List.mem_append_right _ (List.mem_append_right _ (List.mem_append_right _ (List.mem_append_left _ (List.mem_of_getElem? (i := 49) (by rfl)))))) rfl
theorem k_M_44 : Cond.fieldLink "PulsePlotterModel" 44 "PulsePlotterModel" "feed" "I" ∈ wG := wG_of (List.mem_append_right _ (List.mem_append_right _ (List.mem_append_right _ (List.mem_append_left _ (List.mem_of_getElem? (i := 50) (by rfl)))))) rfl
theorem k_M_47 : Cond.fieldLink "PulsePlotterModel" 47 "PulsePlotterModel" "state" "I" ∈ wG := wG_of (List.mem_append_right _ (List.mem_append_right _ (List.mem_append_right _ (List.mem_append_left _ (List.mem_of_getElem? (i := 51) (by rfl)))))) rfl
theorem k_M_50 : Cond.fieldLink "PulsePlotterModel" 50 "PulsePlotterModel" "pulses" "I" ∈ wG := wG_of (List.mem_append_right _ (List.mem_append_right _ (List.mem_append_right _ (List.mem_append_left _ (List.mem_of_getElem? (i := 52) (by rfl)))))) rfl
theorem k_M_53 : Cond.fieldLink "PulsePlotterModel" 53 "PulsePlotterModel" "last" "I" ∈ wG := wG_of (List.mem_append_right _ (List.mem_append_right _ (List.mem_append_right _ (List.mem_append_left _ (List.mem_of_getElem? (i := 53) (by rfl)))))) rfl
theorem k_M_56 : Cond.fieldLink "PulsePlotterModel" 56 "PulsePlotterModel" "shown" "I" ∈ wG := wG_of (List.mem_append_right _ (List.mem_append_right _ (List.mem_append_right _ (List.mem_append_left _ (List.mem_of_getElem? (i := 54) (by rfl)))))) rfl
theorem k_M_59 : Cond.fieldLink "PulsePlotterModel" 59 "PulsePlotterModel" "relative" "Z" ∈ wG := wG_of (List.mem_append_right _ (List.mem_append_right _ (List.mem_append_right _ (List.mem_append_left _ (List.mem_of_getElem? (i := 55) (by rfl)))))) rfl
theorem k_M_63 : Cond.fieldLink "PulsePlotterModel" 63 "PulsePlotterModel" "ending" "Z" ∈ wG := wG_of (List.mem_append_right _ (List.mem_append_right _ (List.mem_append_right _ (List.mem_append_left _ (List.mem_of_getElem? (i := 56) (by rfl)))))) rfl
theorem k_M_66 : Cond.fieldLink "PulsePlotterModel" 66 "PulsePlotterModel" "time" "J" ∈ wG := wG_of (List.mem_append_right _ (List.mem_append_right _ (List.mem_append_right _ (List.mem_append_left _ (List.mem_of_getElem? (i := 57) (by rfl)))))) rfl
theorem k_M_112 : Cond.fieldLink "PulsePlotterModel" 112 "PulsePlotterModel" "pause" "J" ∈ wG := wG_of (List.mem_append_right _ (List.mem_append_right _ (List.mem_append_right _ (List.mem_append_left _ (List.mem_of_getElem? (i := 58) (by rfl)))))) rfl
theorem k_M_118 : Cond.fieldLink "PulsePlotterModel" 118 "PulsePlotterModel" "kind" "I" ∈ wG := wG_of (List.mem_append_right _ (List.mem_append_right _ (List.mem_append_right _ (List.mem_append_left _ (List.mem_of_getElem? (i := 59) (by rfl)))))) rfl
theorem k_M_70 : Cond.fieldLink "PulsePlotterModel" 70 "PulsePlotterModel" "made" "I" ∈ wG := wG_of (List.mem_append_right _ (List.mem_append_right _ (List.mem_append_right _ (List.mem_append_left _ (List.mem_of_getElem? (i := 60) (by rfl)))))) rfl
theorem k_M_73 : Cond.fieldLink "PulsePlotterModel" 73 "PulsePlotterModel" "all" "I" ∈ wG := wG_of (List.mem_append_right _ (List.mem_append_right _ (List.mem_append_right _ (List.mem_append_left _ (List.mem_of_getElem? (i := 61) (by rfl)))))) rfl
theorem k_M_121 : Cond.fieldLink "PulsePlotterModel" 121 "PulsePlotterModel" "fromX" "I" ∈ wG := wG_of (List.mem_append_right _ (List.mem_append_right _ (List.mem_append_right _ (List.mem_append_left _ (List.mem_of_getElem? (i := 62) (by rfl)))))) rfl
theorem k_M_124 : Cond.fieldLink "PulsePlotterModel" 124 "PulsePlotterModel" "fromY" "I" ∈ wG := wG_of (List.mem_append_right _ (List.mem_append_right _ (List.mem_append_right _ (List.mem_append_left _ (List.mem_of_getElem? (i := 63) (by rfl)))))) rfl
theorem k_M_127 : Cond.fieldLink "PulsePlotterModel" 127 "PulsePlotterModel" "wayX" "I" ∈ wG := wG_of (List.mem_append_right _ (List.mem_append_right _ (List.mem_append_right _ (List.mem_append_left _ (List.mem_of_getElem? (i := 64) (by rfl)))))) rfl
theorem k_M_130 : Cond.fieldLink "PulsePlotterModel" 130 "PulsePlotterModel" "wayY" "I" ∈ wG := wG_of (List.mem_append_right _ (List.mem_append_right _ (List.mem_append_right _ (List.mem_append_left _ (List.mem_of_getElem? (i := 65) (by rfl)))))) rfl
theorem k_M_13 : Cond.fieldLink "PulsePlotterModel" 13 "PulsePlotterModel" "px" "[I" ∈ wG := wG_of (List.mem_append_right _ (List.mem_append_right _ (List.mem_append_right _ (List.mem_append_left _ (List.mem_of_getElem? (i := 66) (by rfl)))))) rfl
theorem k_M_16 : Cond.fieldLink "PulsePlotterModel" 16 "PulsePlotterModel" "py" "[I" ∈ wG := wG_of (List.mem_append_right _ (List.mem_append_right _ (List.mem_append_right _ (List.mem_append_left _ (List.mem_of_getElem? (i := 67) (by rfl)))))) rfl
theorem k_M_148 : Cond.fieldLink "PulsePlotterModel" 148 "PulsePlotterModel" "points" "I" ∈ wG := wG_of (List.mem_append_right _ (List.mem_append_right _ (List.mem_append_right _ (List.mem_append_left _ (List.mem_of_getElem? (i := 68) (by rfl)))))) rfl
theorem k_M_137 : Cond.fieldLink "PulsePlotterModel" 137 "PulsePlotterModel" "centreX" "I" ∈ wG := wG_of (List.mem_append_right _ (List.mem_append_right _ (List.mem_append_right _ (List.mem_append_left _ (List.mem_of_getElem? (i := 69) (by rfl)))))) rfl
theorem k_M_140 : Cond.fieldLink "PulsePlotterModel" 140 "PulsePlotterModel" "centreY" "I" ∈ wG := wG_of (List.mem_append_right _ (List.mem_append_right _ (List.mem_append_right _ (List.mem_append_left _ (List.mem_of_getElem? (i := 70) (by rfl)))))) rfl
theorem k_M_19 : Cond.fieldLink "PulsePlotterModel" 19 "PulsePlotterModel" "number" "[I" ∈ wG := wG_of (List.mem_append_right _ (List.mem_append_right _ (List.mem_append_right _ (List.mem_append_left _ (List.mem_of_getElem? (i := 71) (by rfl)))))) rfl
theorem k_M_76 : Cond.fieldLink "PulsePlotterModel" 76 "PulsePlotterModel" "there" "I" ∈ wG := wG_of (List.mem_append_right _ (List.mem_append_right _ (List.mem_append_right _ (List.mem_append_left _ (List.mem_of_getElem? (i := 72) (by rfl)))))) rfl
theorem k_M_79 : Cond.fieldLink "PulsePlotterModel" 79 "PulsePlotterModel" "newMode" "I" ∈ wG := wG_of (List.mem_append_right _ (List.mem_append_right _ (List.mem_append_right _ (List.mem_append_left _ (List.mem_of_getElem? (i := 73) (by rfl)))))) rfl
theorem k_M_82 : Cond.fieldLink "PulsePlotterModel" 82 "PulsePlotterModel" "newWay" "I" ∈ wG := wG_of (List.mem_append_right _ (List.mem_append_right _ (List.mem_append_right _ (List.mem_append_left _ (List.mem_of_getElem? (i := 74) (by rfl)))))) rfl
theorem k_M_85 : Cond.fieldLink "PulsePlotterModel" 85 "PulsePlotterModel" "newFeed" "I" ∈ wG := wG_of (List.mem_append_right _ (List.mem_append_right _ (List.mem_append_right _ (List.mem_append_left _ (List.mem_of_getElem? (i := 75) (by rfl)))))) rfl
theorem k_M_88 : Cond.fieldLink "PulsePlotterModel" 88 "PulsePlotterModel" "ends" "I" ∈ wG := wG_of (List.mem_append_right _ (List.mem_append_right _ (List.mem_append_right _ (List.mem_append_left _ (List.mem_of_getElem? (i := 76) (by rfl)))))) rfl
theorem k_L_17 : Cond.methodLink "PulsePlotterLaw" 17 ⟨"PulsePlotterModel", "feed", "(I)I"⟩ ∈ wG := wG_of (List.mem_append_right _ (List.mem_append_right _ (List.mem_append_right _ (List.mem_append_left _ (List.mem_of_getElem? (i := 146) (by rfl)))))) rfl
theorem k_L_21 : Cond.methodLink "PulsePlotterLaw" 21 ⟨"PulsePlotterModel", "clear", "()V"⟩ ∈ wG := wG_of (List.mem_append_right _ (List.mem_append_right _ (List.mem_append_right _ (List.mem_append_left _ (List.mem_of_getElem? (i := 150) (by rfl)))))) rfl
theorem k_L_25 : Cond.methodLink "PulsePlotterLaw" 25 ⟨"PulsePlotterModel", "begin", "()V"⟩ ∈ wG := wG_of (List.mem_append_right _ (List.mem_append_right _ (List.mem_append_right _ (List.mem_append_left _ (List.mem_of_getElem? (i := 154) (by rfl)))))) rfl
theorem k_L_29 : Cond.methodLink "PulsePlotterLaw" 29 ⟨"PulsePlotterModel", "run", "(I)I"⟩ ∈ wG := wG_of (List.mem_append_right _ (List.mem_append_right _ (List.mem_append_right _ (List.mem_append_left _ (List.mem_of_getElem? (i := 155) (by rfl)))))) rfl
theorem k_M_111 : Cond.constant "PulsePlotterModel" 111 1000000 ∈ wG := wG_of (List.mem_append_right _ (List.mem_append_right _ (List.mem_append_right _ (List.mem_append_left _ (List.mem_of_getElem? (i := 159) (by rfl)))))) rfl
theorem k_M_175 : Cond.methodLink "PulsePlotterModel" 175 ⟨"PulsePlotterModel", "look", "()V"⟩ ∈ wG := wG_of (List.mem_append_right _ (List.mem_append_right _ (List.mem_append_right _ (List.mem_append_left _ (List.mem_of_getElem? (i := 160) (by rfl)))))) rfl
theorem k_M_165 : Cond.methodLink "PulsePlotterModel" 165 ⟨"PulsePlotterModel", "read", "(II)I"⟩ ∈ wG := wG_of (List.mem_append_right _ (List.mem_append_right _ (List.mem_append_right _ (List.mem_append_left _ (List.mem_of_getElem? (i := 164) (by rfl)))))) rfl
theorem k_M_91 : Cond.methodLink "PulsePlotterModel" 91 ⟨"PulsePlotterModel", "skip", "(II)I"⟩ ∈ wG := wG_of (List.mem_append_right _ (List.mem_append_right _ (List.mem_append_right _ (List.mem_append_left _ (List.mem_of_getElem? (i := 168) (by rfl)))))) rfl
theorem k_M_95 : Cond.methodLink "PulsePlotterModel" 95 ⟨"PulsePlotterModel", "letter", "(I)I"⟩ ∈ wG := wG_of (List.mem_append_right _ (List.mem_append_right _ (List.mem_append_right _ (List.mem_append_left _ (List.mem_of_getElem? (i := 172) (by rfl)))))) rfl
theorem k_M_99 : Cond.methodLink "PulsePlotterModel" 99 ⟨"PulsePlotterModel", "digit", "(I)Z"⟩ ∈ wG := wG_of (List.mem_append_right _ (List.mem_append_right _ (List.mem_append_right _ (List.mem_append_left _ (List.mem_of_getElem? (i := 175) (by rfl)))))) rfl
theorem k_M_103 : Cond.methodLink "PulsePlotterModel" 103 ⟨"PulsePlotterModel", "keep", "(II)I"⟩ ∈ wG := wG_of (List.mem_append_right _ (List.mem_append_right _ (List.mem_append_right _ (List.mem_append_left _ (List.mem_of_getElem? (i := 178) (by rfl)))))) rfl
theorem k_M_168 : Cond.methodLink "PulsePlotterModel" 168 ⟨"PulsePlotterModel", "act", "()I"⟩ ∈ wG := wG_of (List.mem_append_right _ (List.mem_append_right _ (List.mem_append_right _ (List.mem_append_left _ (List.mem_of_getElem? (i := 182) (by rfl)))))) rfl
theorem k_M_106 : Cond.methodLink "PulsePlotterModel" 106 ⟨"PulsePlotterModel", "goal", "(II)I"⟩ ∈ wG := wG_of (List.mem_append_right _ (List.mem_append_right _ (List.mem_append_right _ (List.mem_append_left _ (List.mem_of_getElem? (i := 186) (by rfl)))))) rfl
theorem k_M_109 : Cond.constantLong "PulsePlotterModel" 109 100 ∈ wG := wG_of (List.mem_append_right _ (List.mem_append_right _ (List.mem_append_right _ (List.mem_append_left _ (List.mem_of_getElem? (i := 190) (by rfl)))))) rfl
theorem k_M_115 : Cond.methodLink "PulsePlotterModel" 115 ⟨"PulsePlotterModel", "inLimits", "(I)Z"⟩ ∈ wG := wG_of (List.mem_append_right _ (List.mem_append_right _ (List.mem_append_right _ (List.mem_append_left _ (List.mem_of_getElem? (i := 191) (by rfl)))))) rfl
theorem k_M_133 : Cond.methodLink "PulsePlotterModel" 133 ⟨"PulsePlotterModel", "arc", "(IIII)I"⟩ ∈ wG := wG_of (List.mem_append_right _ (List.mem_append_right _ (List.mem_append_right _ (List.mem_append_left _ (List.mem_of_getElem? (i := 194) (by rfl)))))) rfl
theorem k_M_143 : Cond.constant "PulsePlotterModel" 143 160801 ∈ wG := wG_of (List.mem_append_right _ (List.mem_append_right _ (List.mem_append_right _ (List.mem_append_left _ (List.mem_of_getElem? (i := 198) (by rfl)))))) rfl
theorem k_M_144 : Cond.methodLink "PulsePlotterModel" 144 ⟨"PulsePlotterModel", "lay", "(I)V"⟩ ∈ wG := wG_of (List.mem_append_right _ (List.mem_append_right _ (List.mem_append_right _ (List.mem_append_left _ (List.mem_of_getElem? (i := 199) (by rfl)))))) rfl
theorem k_M_155 : Cond.methodLink "PulsePlotterModel" 155 ⟨"PulsePlotterModel", "over", "(II)I"⟩ ∈ wG := wG_of (List.mem_append_right _ (List.mem_append_right _ (List.mem_append_right _ (List.mem_append_left _ (List.mem_of_getElem? (i := 203) (by rfl)))))) rfl
theorem k_M_158 : Cond.methodLink "PulsePlotterModel" 158 ⟨"PulsePlotterModel", "point", "(II)V"⟩ ∈ wG := wG_of (List.mem_append_right _ (List.mem_append_right _ (List.mem_append_right _ (List.mem_append_left _ (List.mem_of_getElem? (i := 206) (by rfl)))))) rfl
theorem k_M_151 : Cond.methodLink "PulsePlotterModel" 151 ⟨"PulsePlotterModel", "before", "(IIIIII)Z"⟩ ∈ wG := wG_of (List.mem_append_right _ (List.mem_append_right _ (List.mem_append_right _ (List.mem_append_left _ (List.mem_of_getElem? (i := 210) (by rfl)))))) rfl
theorem k_M_162 : Cond.methodLink "PulsePlotterModel" 162 ⟨"PulsePlotterModel", "half", "(IIII)I"⟩ ∈ wG := wG_of (List.mem_append_right _ (List.mem_append_right _ (List.mem_append_right _ (List.mem_append_left _ (List.mem_of_getElem? (i := 214) (by rfl)))))) rfl
theorem k_M_178 : Cond.methodLink "PulsePlotterModel" 178 ⟨"PulsePlotterModel", "pulse", "()V"⟩ ∈ wG := wG_of (List.mem_append_right _ (List.mem_append_right _ (List.mem_append_right _ (List.mem_append_left _ (List.mem_of_getElem? (i := 218) (by rfl)))))) rfl
theorem k_M_172 : Cond.methodLink "PulsePlotterModel" 172 ⟨"PulsePlotterModel", "quotient", "(II)I"⟩ ∈ wG := wG_of (List.mem_append_right _ (List.mem_append_right _ (List.mem_append_right _ (List.mem_append_left _ (List.mem_of_getElem? (i := 222) (by rfl)))))) rfl
theorem k_L_34 : Cond.methodLink "PulsePlotterLaw" 34 ⟨"PulsePlotterModel", "state", "()I"⟩ ∈ wG := wG_of (List.mem_append_right _ (List.mem_append_right _ (List.mem_append_right _ (List.mem_append_left _ (List.mem_of_getElem? (i := 225) (by rfl)))))) rfl
theorem k_L_38 : Cond.methodLink "PulsePlotterLaw" 38 ⟨"PulsePlotterModel", "x", "()I"⟩ ∈ wG := wG_of (List.mem_append_right _ (List.mem_append_right _ (List.mem_append_right _ (List.mem_append_left _ (List.mem_of_getElem? (i := 229) (by rfl)))))) rfl
theorem k_L_42 : Cond.methodLink "PulsePlotterLaw" 42 ⟨"PulsePlotterModel", "y", "()I"⟩ ∈ wG := wG_of (List.mem_append_right _ (List.mem_append_right _ (List.mem_append_right _ (List.mem_append_left _ (List.mem_of_getElem? (i := 233) (by rfl)))))) rfl
theorem k_L_47 : Cond.methodLink "PulsePlotterLaw" 47 ⟨"PulsePlotterModel", "time", "()J"⟩ ∈ wG := wG_of (List.mem_append_right _ (List.mem_append_right _ (List.mem_append_right _ (List.mem_append_left _ (List.mem_of_getElem? (i := 237) (by rfl)))))) rfl
theorem k_L_51 : Cond.methodLink "PulsePlotterLaw" 51 ⟨"PulsePlotterModel", "pulses", "()I"⟩ ∈ wG := wG_of (List.mem_append_right _ (List.mem_append_right _ (List.mem_append_right _ (List.mem_append_right _ (List.mem_of_getElem? (i := 1) (by rfl)))))) rfl
theorem k_L_55 : Cond.methodLink "PulsePlotterLaw" 55 ⟨"PulsePlotterModel", "last", "()I"⟩ ∈ wG := wG_of (List.mem_append_right _ (List.mem_append_right _ (List.mem_append_right _ (List.mem_append_right _ (List.mem_of_getElem? (i := 5) (by rfl)))))) rfl
theorem k_L_59 : Cond.methodLink "PulsePlotterLaw" 59 ⟨"PulsePlotterModel", "line", "()I"⟩ ∈ wG := wG_of (List.mem_append_right _ (List.mem_append_right _ (List.mem_append_right _ (List.mem_append_right _ (List.mem_of_getElem? (i := 9) (by rfl)))))) rfl
theorem k_L_63 : Cond.methodLink "PulsePlotterLaw" 63 ⟨"PulsePlotterModel", "feedRate", "()I"⟩ ∈ wG := wG_of (List.mem_append_right _ (List.mem_append_right _ (List.mem_append_right _ (List.mem_append_right _ (List.mem_of_getElem? (i := 13) (by rfl)))))) rfl
theorem k_L_67 : Cond.methodLink "PulsePlotterLaw" 67 ⟨"PulsePlotterModel", "mode", "()I"⟩ ∈ wG := wG_of (List.mem_append_right _ (List.mem_append_right _ (List.mem_append_right _ (List.mem_append_right _ (List.mem_of_getElem? (i := 17) (by rfl)))))) rfl
theorem k_L_71 : Cond.methodLink "PulsePlotterLaw" 71 ⟨"PulsePlotterModel", "left", "()I"⟩ ∈ wG := wG_of (List.mem_append_right _ (List.mem_append_right _ (List.mem_append_right _ (List.mem_append_right _ (List.mem_of_getElem? (i := 21) (by rfl)))))) rfl
theorem k_Js_15 : Cond.fieldLink "java/lang/String" 15 "java/lang/String" "coder" "B" ∈ wG := wG_of (List.mem_append_right _ (List.mem_append_right _ (List.mem_append_right _ (List.mem_append_right _ (List.mem_of_getElem? (i := 25) (by rfl)))))) rfl
theorem k_Js_9 : Cond.fieldLink "java/lang/String" 9 "java/lang/String" "value" "[B" ∈ wG := wG_of (List.mem_append_right _ (List.mem_append_right _ (List.mem_append_right _ (List.mem_append_right _ (List.mem_of_getElem? (i := 26) (by rfl)))))) rfl
