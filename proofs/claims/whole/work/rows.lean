section
-- ===== PART A: goes FIRST, ahead of the names: the tables' words, and 'selects' of the private methods out of them =====
/-- a private method of a class that the tables say can be made, by its rows of tables_1 -/
def lw_okq (q : MethodName × Nat) : Prop := (q.1.cls ≠ "java/lang/invoke/MethodHandle" ∧ q.1.cls ≠ "java/lang/invoke/VarHandle") ∧ Cond.instantiable q.1.cls q.2 ∈ tables_1 ∧ Cond.privateMethod q.1 ∈ tables_1 ∧ Cond.instanceMethod q.1 ∈ tables_1
theorem lw_p0 : lw_okq (⟨"PulsePlotter", "makePulses", "(I)I"⟩, 19) := ⟨⟨by decide +kernel, by decide +kernel⟩, List.mem_of_getElem? (i := 15) (by decide +kernel), List.mem_of_getElem? (i := 209) (by decide +kernel), List.mem_of_getElem? (i := 210) (by decide +kernel)⟩
theorem lw_p1 : lw_okq (⟨"PulsePlotter$Arc", "xOf", "(I)I"⟩, 8) := ⟨⟨by decide +kernel, by decide +kernel⟩, List.mem_of_getElem? (i := 92) (by decide +kernel), List.mem_of_getElem? (i := 222) (by decide +kernel), List.mem_of_getElem? (i := 223) (by decide +kernel)⟩
theorem lw_p2 : lw_okq (⟨"PulsePlotter$Arc", "reachAt", "(I)I"⟩, 8) := ⟨⟨by decide +kernel, by decide +kernel⟩, List.mem_of_getElem? (i := 92) (by decide +kernel), List.mem_of_getElem? (i := 229) (by decide +kernel), List.mem_of_getElem? (i := 230) (by decide +kernel)⟩
theorem lw_p3 : lw_okq (⟨"PulsePlotter$Straight", "part", "(II)I"⟩, 5) := ⟨⟨by decide +kernel, by decide +kernel⟩, List.mem_of_getElem? (i := 67) (by decide +kernel), List.mem_of_getElem? (i := 236) (by decide +kernel), List.mem_of_getElem? (i := 237) (by decide +kernel)⟩
theorem lw_p4 : lw_okq (⟨"PulsePlotter", "pause", "()I"⟩, 19) := ⟨⟨by decide +kernel, by decide +kernel⟩, List.mem_of_getElem? (i := 15) (by decide +kernel), List.mem_of_getElem? (i := 252) (by decide +kernel), List.mem_of_getElem? (i := 253) (by decide +kernel)⟩
theorem lw_p5 : lw_okq (⟨"PulsePlotter", "lookAtNextLine", "()V"⟩, 19) := ⟨⟨by decide +kernel, by decide +kernel⟩, List.mem_of_getElem? (i := 15) (by decide +kernel), List.mem_of_getElem? (i := 257) (by decide +kernel), List.mem_of_getElem? (i := 258) (by decide +kernel)⟩
theorem lw_p6 : lw_okq (⟨"PulsePlotter$Words", "forget", "()V"⟩, 7) := ⟨⟨by decide +kernel, by decide +kernel⟩, List.mem_of_getElem? (i := 37) (by decide +kernel), List.mem_of_getElem? (i := 277) (by decide +kernel), List.mem_of_getElem? (i := 278) (by decide +kernel)⟩
theorem lw_p7 : lw_okq (⟨"PulsePlotter$Words", "takeRow", "(LPulsePlotter$Text;II)V"⟩, 7) := ⟨⟨by decide +kernel, by decide +kernel⟩, List.mem_of_getElem? (i := 37) (by decide +kernel), List.mem_of_getElem? (i := 281) (by decide +kernel), List.mem_of_getElem? (i := 282) (by decide +kernel)⟩
theorem lw_p8 : lw_okq (⟨"PulsePlotter$Words", "readWord", "()I"⟩, 7) := ⟨⟨by decide +kernel, by decide +kernel⟩, List.mem_of_getElem? (i := 37) (by decide +kernel), List.mem_of_getElem? (i := 286) (by decide +kernel), List.mem_of_getElem? (i := 287) (by decide +kernel)⟩
theorem lw_p9 : lw_okq (⟨"PulsePlotter$Words", "peek", "()C"⟩, 7) := ⟨⟨by decide +kernel, by decide +kernel⟩, List.mem_of_getElem? (i := 37) (by decide +kernel), List.mem_of_getElem? (i := 291) (by decide +kernel), List.mem_of_getElem? (i := 292) (by decide +kernel)⟩
theorem lw_p10 : lw_okq (⟨"PulsePlotter$Words", "keepG", "(I)I"⟩, 7) := ⟨⟨by decide +kernel, by decide +kernel⟩, List.mem_of_getElem? (i := 37) (by decide +kernel), List.mem_of_getElem? (i := 387) (by decide +kernel), List.mem_of_getElem? (i := 388) (by decide +kernel)⟩
theorem lw_p11 : lw_okq (⟨"PulsePlotter$Words", "keep", "(II)I"⟩, 7) := ⟨⟨by decide +kernel, by decide +kernel⟩, List.mem_of_getElem? (i := 37) (by decide +kernel), List.mem_of_getElem? (i := 391) (by decide +kernel), List.mem_of_getElem? (i := 392) (by decide +kernel)⟩
theorem lw_p12 : lw_okq (⟨"PulsePlotter", "applySettings", "()V"⟩, 19) := ⟨⟨by decide +kernel, by decide +kernel⟩, List.mem_of_getElem? (i := 15) (by decide +kernel), List.mem_of_getElem? (i := 395) (by decide +kernel), List.mem_of_getElem? (i := 396) (by decide +kernel)⟩
theorem lw_p13 : lw_okq (⟨"PulsePlotter", "startMove", "()I"⟩, 19) := ⟨⟨by decide +kernel, by decide +kernel⟩, List.mem_of_getElem? (i := 15) (by decide +kernel), List.mem_of_getElem? (i := 416) (by decide +kernel), List.mem_of_getElem? (i := 417) (by decide +kernel)⟩
theorem lw_p14 : lw_okq (⟨"PulsePlotter", "goal", "(II)I"⟩, 19) := ⟨⟨by decide +kernel, by decide +kernel⟩, List.mem_of_getElem? (i := 15) (by decide +kernel), List.mem_of_getElem? (i := 420) (by decide +kernel), List.mem_of_getElem? (i := 421) (by decide +kernel)⟩
theorem lw_p15 : lw_okq (⟨"PulsePlotter", "startArc", "(II)I"⟩, 19) := ⟨⟨by decide +kernel, by decide +kernel⟩, List.mem_of_getElem? (i := 15) (by decide +kernel), List.mem_of_getElem? (i := 424) (by decide +kernel), List.mem_of_getElem? (i := 425) (by decide +kernel)⟩
def lw_privs_1 : List (MethodName × Nat) := [(⟨"PulsePlotter", "makePulses", "(I)I"⟩, 19), (⟨"PulsePlotter$Arc", "xOf", "(I)I"⟩, 8), (⟨"PulsePlotter$Arc", "reachAt", "(I)I"⟩, 8), (⟨"PulsePlotter$Straight", "part", "(II)I"⟩, 5), (⟨"PulsePlotter", "pause", "()I"⟩, 19), (⟨"PulsePlotter", "lookAtNextLine", "()V"⟩, 19), (⟨"PulsePlotter$Words", "forget", "()V"⟩, 7), (⟨"PulsePlotter$Words", "takeRow", "(LPulsePlotter$Text;II)V"⟩, 7), (⟨"PulsePlotter$Words", "readWord", "()I"⟩, 7), (⟨"PulsePlotter$Words", "peek", "()C"⟩, 7), (⟨"PulsePlotter$Words", "keepG", "(I)I"⟩, 7), (⟨"PulsePlotter$Words", "keep", "(II)I"⟩, 7), (⟨"PulsePlotter", "applySettings", "()V"⟩, 19), (⟨"PulsePlotter", "startMove", "()I"⟩, 19), (⟨"PulsePlotter", "goal", "(II)I"⟩, 19), (⟨"PulsePlotter", "startArc", "(II)I"⟩, 19)]
theorem lw_r1 : ∀ q ∈ lw_privs_1, lw_okq q := List.forall_mem_cons.mpr ⟨lw_p0, List.forall_mem_cons.mpr ⟨lw_p1, List.forall_mem_cons.mpr ⟨lw_p2, List.forall_mem_cons.mpr ⟨lw_p3, List.forall_mem_cons.mpr ⟨lw_p4, List.forall_mem_cons.mpr ⟨lw_p5, List.forall_mem_cons.mpr ⟨lw_p6, List.forall_mem_cons.mpr ⟨lw_p7, List.forall_mem_cons.mpr ⟨lw_p8, List.forall_mem_cons.mpr ⟨lw_p9, List.forall_mem_cons.mpr ⟨lw_p10, List.forall_mem_cons.mpr ⟨lw_p11, List.forall_mem_cons.mpr ⟨lw_p12, List.forall_mem_cons.mpr ⟨lw_p13, List.forall_mem_cons.mpr ⟨lw_p14, List.forall_mem_cons.mpr ⟨lw_p15, fun _ h => absurd h List.not_mem_nil⟩⟩⟩⟩⟩⟩⟩⟩⟩⟩⟩⟩⟩⟩⟩⟩
theorem lw_p16 : lw_okq (⟨"PulsePlotter$Arc", "numberOf", "(II)I"⟩, 8) := ⟨⟨by decide +kernel, by decide +kernel⟩, List.mem_of_getElem? (i := 92) (by decide +kernel), List.mem_of_getElem? (i := 444) (by decide +kernel), List.mem_of_getElem? (i := 445) (by decide +kernel)⟩
theorem lw_p17 : lw_okq (⟨"PulsePlotter", "follow", "(LPulsePlotter$Way;)V"⟩, 19) := ⟨⟨by decide +kernel, by decide +kernel⟩, List.mem_of_getElem? (i := 15) (by decide +kernel), List.mem_of_getElem? (i := 448) (by decide +kernel), List.mem_of_getElem? (i := 449) (by decide +kernel)⟩
theorem lw_p18 : lw_okq (⟨"PulsePlotter", "startStraight", "(II)I"⟩, 19) := ⟨⟨by decide +kernel, by decide +kernel⟩, List.mem_of_getElem? (i := 15) (by decide +kernel), List.mem_of_getElem? (i := 461) (by decide +kernel), List.mem_of_getElem? (i := 462) (by decide +kernel)⟩
theorem lw_p19 : lw_okq (⟨"PulsePlotterModel", "look", "()V"⟩, 34) := ⟨⟨by decide +kernel, by decide +kernel⟩, List.mem_of_getElem? (i := 514) (by decide +kernel), List.mem_of_getElem? (i := 641) (by decide +kernel), List.mem_of_getElem? (i := 642) (by decide +kernel)⟩
theorem lw_p20 : lw_okq (⟨"PulsePlotterModel", "read", "(II)I"⟩, 34) := ⟨⟨by decide +kernel, by decide +kernel⟩, List.mem_of_getElem? (i := 514) (by decide +kernel), List.mem_of_getElem? (i := 645) (by decide +kernel), List.mem_of_getElem? (i := 646) (by decide +kernel)⟩
theorem lw_p21 : lw_okq (⟨"PulsePlotterModel", "skip", "(II)I"⟩, 34) := ⟨⟨by decide +kernel, by decide +kernel⟩, List.mem_of_getElem? (i := 514) (by decide +kernel), List.mem_of_getElem? (i := 649) (by decide +kernel), List.mem_of_getElem? (i := 650) (by decide +kernel)⟩
theorem lw_p22 : lw_okq (⟨"PulsePlotterModel", "keep", "(II)I"⟩, 34) := ⟨⟨by decide +kernel, by decide +kernel⟩, List.mem_of_getElem? (i := 514) (by decide +kernel), List.mem_of_getElem? (i := 659) (by decide +kernel), List.mem_of_getElem? (i := 660) (by decide +kernel)⟩
theorem lw_p23 : lw_okq (⟨"PulsePlotterModel", "act", "()I"⟩, 34) := ⟨⟨by decide +kernel, by decide +kernel⟩, List.mem_of_getElem? (i := 514) (by decide +kernel), List.mem_of_getElem? (i := 663) (by decide +kernel), List.mem_of_getElem? (i := 664) (by decide +kernel)⟩
theorem lw_p24 : lw_okq (⟨"PulsePlotterModel", "goal", "(II)I"⟩, 34) := ⟨⟨by decide +kernel, by decide +kernel⟩, List.mem_of_getElem? (i := 514) (by decide +kernel), List.mem_of_getElem? (i := 667) (by decide +kernel), List.mem_of_getElem? (i := 668) (by decide +kernel)⟩
theorem lw_p25 : lw_okq (⟨"PulsePlotterModel", "arc", "(IIII)I"⟩, 34) := ⟨⟨by decide +kernel, by decide +kernel⟩, List.mem_of_getElem? (i := 514) (by decide +kernel), List.mem_of_getElem? (i := 675) (by decide +kernel), List.mem_of_getElem? (i := 676) (by decide +kernel)⟩
theorem lw_p26 : lw_okq (⟨"PulsePlotterModel", "lay", "(I)V"⟩, 34) := ⟨⟨by decide +kernel, by decide +kernel⟩, List.mem_of_getElem? (i := 514) (by decide +kernel), List.mem_of_getElem? (i := 680) (by decide +kernel), List.mem_of_getElem? (i := 681) (by decide +kernel)⟩
theorem lw_p27 : lw_okq (⟨"PulsePlotterModel", "point", "(II)V"⟩, 34) := ⟨⟨by decide +kernel, by decide +kernel⟩, List.mem_of_getElem? (i := 514) (by decide +kernel), List.mem_of_getElem? (i := 687) (by decide +kernel), List.mem_of_getElem? (i := 688) (by decide +kernel)⟩
theorem lw_p28 : lw_okq (⟨"PulsePlotterModel", "before", "(IIIIII)Z"⟩, 34) := ⟨⟨by decide +kernel, by decide +kernel⟩, List.mem_of_getElem? (i := 514) (by decide +kernel), List.mem_of_getElem? (i := 691) (by decide +kernel), List.mem_of_getElem? (i := 692) (by decide +kernel)⟩
theorem lw_p29 : lw_okq (⟨"PulsePlotterModel", "half", "(IIII)I"⟩, 34) := ⟨⟨by decide +kernel, by decide +kernel⟩, List.mem_of_getElem? (i := 514) (by decide +kernel), List.mem_of_getElem? (i := 695) (by decide +kernel), List.mem_of_getElem? (i := 696) (by decide +kernel)⟩
theorem lw_p30 : lw_okq (⟨"PulsePlotterModel", "pulse", "()V"⟩, 34) := ⟨⟨by decide +kernel, by decide +kernel⟩, List.mem_of_getElem? (i := 514) (by decide +kernel), List.mem_of_getElem? (i := 699) (by decide +kernel), List.mem_of_getElem? (i := 700) (by decide +kernel)⟩
def lw_privs_2 : List (MethodName × Nat) := [(⟨"PulsePlotter$Arc", "numberOf", "(II)I"⟩, 8), (⟨"PulsePlotter", "follow", "(LPulsePlotter$Way;)V"⟩, 19), (⟨"PulsePlotter", "startStraight", "(II)I"⟩, 19), (⟨"PulsePlotterModel", "look", "()V"⟩, 34), (⟨"PulsePlotterModel", "read", "(II)I"⟩, 34), (⟨"PulsePlotterModel", "skip", "(II)I"⟩, 34), (⟨"PulsePlotterModel", "keep", "(II)I"⟩, 34), (⟨"PulsePlotterModel", "act", "()I"⟩, 34), (⟨"PulsePlotterModel", "goal", "(II)I"⟩, 34), (⟨"PulsePlotterModel", "arc", "(IIII)I"⟩, 34), (⟨"PulsePlotterModel", "lay", "(I)V"⟩, 34), (⟨"PulsePlotterModel", "point", "(II)V"⟩, 34), (⟨"PulsePlotterModel", "before", "(IIIIII)Z"⟩, 34), (⟨"PulsePlotterModel", "half", "(IIII)I"⟩, 34), (⟨"PulsePlotterModel", "pulse", "()V"⟩, 34)]
theorem lw_r2 : ∀ q ∈ lw_privs_2, lw_okq q := List.forall_mem_cons.mpr ⟨lw_p16, List.forall_mem_cons.mpr ⟨lw_p17, List.forall_mem_cons.mpr ⟨lw_p18, List.forall_mem_cons.mpr ⟨lw_p19, List.forall_mem_cons.mpr ⟨lw_p20, List.forall_mem_cons.mpr ⟨lw_p21, List.forall_mem_cons.mpr ⟨lw_p22, List.forall_mem_cons.mpr ⟨lw_p23, List.forall_mem_cons.mpr ⟨lw_p24, List.forall_mem_cons.mpr ⟨lw_p25, List.forall_mem_cons.mpr ⟨lw_p26, List.forall_mem_cons.mpr ⟨lw_p27, List.forall_mem_cons.mpr ⟨lw_p28, List.forall_mem_cons.mpr ⟨lw_p29, List.forall_mem_cons.mpr ⟨lw_p30, fun _ h => absurd h List.not_mem_nil⟩⟩⟩⟩⟩⟩⟩⟩⟩⟩⟩⟩⟩⟩⟩
def lw_privs : List (MethodName × Nat) := lw_privs_1 ++ (lw_privs_2)
def lw_tbl : List Cond := k2_sels lw_privs ++ tables_1
theorem lw_privs_ok : ∀ q ∈ lw_privs, lw_okq q := by
  show ∀ q ∈ lw_privs_1 ++ (lw_privs_2), lw_okq q
  exact List.forall_mem_append.mpr ⟨lw_r1, lw_r2⟩
end
section
def wG : List Cond := lw_tbl.filter goodWord
theorem wG_of {w : Cond} (h : w ∈ lw_tbl) (hg : goodWord w = true) : w ∈ wG := List.mem_filter.mpr ⟨h, hg⟩
theorem wG_good {w : Cond} (h : w ∈ wG) : (w.onTables && w.keeps) = true ∨ ∃ ty, w = .arrayClass ty := good_of_word (List.mem_filter.mp h).2
abbrev R_P : String := "PulsePlotter"
def F_P : u_T := fun k => match k with
  | 0 => ("PulsePlotter", "text", "LPulsePlotter$Text;", true)
  | 1 => ("PulsePlotter", "words", "LPulsePlotter$Words;", true)
  | 2 => ("PulsePlotter", "straight", "LPulsePlotter$Straight;", true)
  | 3 => ("PulsePlotter", "arc", "LPulsePlotter$Arc;", true)
  | 4 => ("PulsePlotter", "way", "LPulsePlotter$Way;", false)
  | 5 => ("PulsePlotter", "done", "I", false)
  | 6 => ("PulsePlotter", "left", "I", false)
  | 7 => ("PulsePlotter", "nextLineStart", "I", false)
  | 8 => ("PulsePlotter", "line", "I", false)
  | 9 => ("PulsePlotter", "state", "I", false)
  | 10 => ("PulsePlotter", "ending", "Z", false)
  | 11 => ("PulsePlotter", "x", "I", false)
  | 12 => ("PulsePlotter", "y", "I", false)
  | 13 => ("PulsePlotter", "time", "J", false)
  | 14 => ("PulsePlotter", "pulses", "I", false)
  | 15 => ("PulsePlotter", "last", "I", false)
  | 16 => ("PulsePlotter", "feedRate", "I", false)
  | 17 => ("PulsePlotter", "motion", "I", false)
  | _ => ("PulsePlotter", "relative", "Z", false)
def fy_P : Nat → FieldType := fun k => match k with
  | 0 => .object "PulsePlotter$Text"
  | 1 => .object "PulsePlotter$Words"
  | 2 => .object "PulsePlotter$Straight"
  | 3 => .object "PulsePlotter$Arc"
  | 4 => .object "PulsePlotter$Way"
  | 5 => .int
  | 6 => .int
  | 7 => .int
  | 8 => .int
  | 9 => .int
  | 10 => .boolean
  | 11 => .int
  | 12 => .int
  | 13 => .long
  | 14 => .int
  | 15 => .int
  | 16 => .int
  | 17 => .int
  | _ => .boolean
theorem n_P : ∀ a, a < 19 → ∀ b, b < 19 → a ≠ b → (F_P a).2.1 ≠ (F_P b).2.1 := by decide +kernel
theorem fy_P_ok : ∀ k, k < 19 → parseFieldDescriptor (F_P k).2.2.1 = some (fy_P k) := by decide +kernel
theorem hin_P : ∀ w ∈ u_ws R_P F_P 19, w ∈ wG := by
  intro w h
  obtain ⟨k, hk, rfl⟩ := List.mem_map.mp h
  have hk := List.mem_range.mp hk
  rcases (by omega : k = 0 ∨ k = 1 ∨ k = 2 ∨ k = 3 ∨ k = 4 ∨ k = 5 ∨ k = 6 ∨ k = 7 ∨ k = 8 ∨ k = 9 ∨ k = 10 ∨ k = 11 ∨ k = 12 ∨ k = 13 ∨ k = 14 ∨ k = 15 ∨ k = 16 ∨ k = 17 ∨ k = 18) with rfl | rfl | rfl | rfl | rfl | rfl | rfl | rfl | rfl | rfl | rfl | rfl | rfl | rfl | rfl | rfl | rfl | rfl | rfl
  · exact wG_of (List.mem_append_right _ (List.mem_append_left _ (List.mem_of_getElem? (i := 145) (by rfl)))) rfl
  · exact wG_of (List.mem_append_right _ (List.mem_append_left _ (List.mem_of_getElem? (i := 147) (by rfl)))) rfl
  · exact wG_of (List.mem_append_right _ (List.mem_append_left _ (List.mem_of_getElem? (i := 149) (by rfl)))) rfl
  · exact wG_of (List.mem_append_right _ (List.mem_append_left _ (List.mem_of_getElem? (i := 151) (by rfl)))) rfl
  · exact wG_of (List.mem_append_right _ (List.mem_append_left _ (List.mem_of_getElem? (i := 153) (by rfl)))) rfl
  · exact wG_of (List.mem_append_right _ (List.mem_append_left _ (List.mem_of_getElem? (i := 155) (by rfl)))) rfl
  · exact wG_of (List.mem_append_right _ (List.mem_append_left _ (List.mem_of_getElem? (i := 157) (by rfl)))) rfl
  · exact wG_of (List.mem_append_right _ (List.mem_append_left _ (List.mem_of_getElem? (i := 159) (by rfl)))) rfl
  · exact wG_of (List.mem_append_right _ (List.mem_append_left _ (List.mem_of_getElem? (i := 161) (by rfl)))) rfl
  · exact wG_of (List.mem_append_right _ (List.mem_append_left _ (List.mem_of_getElem? (i := 163) (by rfl)))) rfl
  · exact wG_of (List.mem_append_right _ (List.mem_append_left _ (List.mem_of_getElem? (i := 165) (by rfl)))) rfl
  · exact wG_of (List.mem_append_right _ (List.mem_append_left _ (List.mem_of_getElem? (i := 167) (by rfl)))) rfl
  · exact wG_of (List.mem_append_right _ (List.mem_append_left _ (List.mem_of_getElem? (i := 169) (by rfl)))) rfl
  · exact wG_of (List.mem_append_right _ (List.mem_append_left _ (List.mem_of_getElem? (i := 171) (by rfl)))) rfl
  · exact wG_of (List.mem_append_right _ (List.mem_append_left _ (List.mem_of_getElem? (i := 173) (by rfl)))) rfl
  · exact wG_of (List.mem_append_right _ (List.mem_append_left _ (List.mem_of_getElem? (i := 175) (by rfl)))) rfl
  · exact wG_of (List.mem_append_right _ (List.mem_append_left _ (List.mem_of_getElem? (i := 177) (by rfl)))) rfl
  · exact wG_of (List.mem_append_right _ (List.mem_append_left _ (List.mem_of_getElem? (i := 179) (by rfl)))) rfl
  · exact wG_of (List.mem_append_right _ (List.mem_append_left _ (List.mem_of_getElem? (i := 181) (by rfl)))) rfl
abbrev R_T : String := "PulsePlotter$Text"
def F_T : u_T := fun k => match k with
  | 0 => ("PulsePlotter$Text", "codes", "[C", true)
  | _ => ("PulsePlotter$Text", "size", "I", false)
def fy_T : Nat → FieldType := fun k => match k with
  | 0 => .array .char
  | _ => .int
theorem n_T : ∀ a, a < 2 → ∀ b, b < 2 → a ≠ b → (F_T a).2.1 ≠ (F_T b).2.1 := by decide +kernel
theorem fy_T_ok : ∀ k, k < 2 → parseFieldDescriptor (F_T k).2.2.1 = some (fy_T k) := by decide +kernel
theorem hin_T : ∀ w ∈ u_ws R_T F_T 2, w ∈ wG := by
  intro w h
  obtain ⟨k, hk, rfl⟩ := List.mem_map.mp h
  have hk := List.mem_range.mp hk
  rcases (by omega : k = 0 ∨ k = 1) with rfl | rfl
  · exact wG_of (List.mem_append_right _ (List.mem_append_left _ (List.mem_of_getElem? (i := 30) (by rfl)))) rfl
  · exact wG_of (List.mem_append_right _ (List.mem_append_left _ (List.mem_of_getElem? (i := 32) (by rfl)))) rfl
abbrev R_W : String := "PulsePlotter$Words"
def F_W : u_T := fun k => match k with
  | 0 => ("PulsePlotter$Words", "row", "[C", true)
  | 1 => ("PulsePlotter$Words", "rowSize", "I", false)
  | 2 => ("PulsePlotter$Words", "at", "I", false)
  | 3 => ("PulsePlotter$Words", "present", "[Z", true)
  | 4 => ("PulsePlotter$Words", "numbers", "[I", true)
  | 5 => ("PulsePlotter$Words", "motion", "I", false)
  | _ => ("PulsePlotter$Words", "distances", "I", false)
def fy_W : Nat → FieldType := fun k => match k with
  | 0 => .array .char
  | 1 => .int
  | 2 => .int
  | 3 => .array .boolean
  | 4 => .array .int
  | 5 => .int
  | _ => .int
theorem n_W : ∀ a, a < 7 → ∀ b, b < 7 → a ≠ b → (F_W a).2.1 ≠ (F_W b).2.1 := by decide +kernel
theorem fy_W_ok : ∀ k, k < 7 → parseFieldDescriptor (F_W k).2.2.1 = some (fy_W k) := by decide +kernel
theorem hin_W : ∀ w ∈ u_ws R_W F_W 7, w ∈ wG := by
  intro w h
  obtain ⟨k, hk, rfl⟩ := List.mem_map.mp h
  have hk := List.mem_range.mp hk
  rcases (by omega : k = 0 ∨ k = 1 ∨ k = 2 ∨ k = 3 ∨ k = 4 ∨ k = 5 ∨ k = 6) with rfl | rfl | rfl | rfl | rfl | rfl | rfl
  · exact wG_of (List.mem_append_right _ (List.mem_append_left _ (List.mem_of_getElem? (i := 49) (by rfl)))) rfl
  · exact wG_of (List.mem_append_right _ (List.mem_append_left _ (List.mem_of_getElem? (i := 51) (by rfl)))) rfl
  · exact wG_of (List.mem_append_right _ (List.mem_append_left _ (List.mem_of_getElem? (i := 53) (by rfl)))) rfl
  · exact wG_of (List.mem_append_right _ (List.mem_append_left _ (List.mem_of_getElem? (i := 55) (by rfl)))) rfl
  · exact wG_of (List.mem_append_right _ (List.mem_append_left _ (List.mem_of_getElem? (i := 57) (by rfl)))) rfl
  · exact wG_of (List.mem_append_right _ (List.mem_append_left _ (List.mem_of_getElem? (i := 59) (by rfl)))) rfl
  · exact wG_of (List.mem_append_right _ (List.mem_append_left _ (List.mem_of_getElem? (i := 61) (by rfl)))) rfl
abbrev R_S : String := "PulsePlotter$Straight"
def F_S : u_T := fun k => match k with
  | 0 => ("PulsePlotter$Straight", "startX", "I", false)
  | 1 => ("PulsePlotter$Straight", "startY", "I", false)
  | 2 => ("PulsePlotter$Straight", "dx", "I", false)
  | 3 => ("PulsePlotter$Straight", "dy", "I", false)
  | _ => ("PulsePlotter$Straight", "size", "I", false)
def fy_S : Nat → FieldType := fun k => match k with
  | 0 => .int
  | 1 => .int
  | 2 => .int
  | 3 => .int
  | _ => .int
theorem n_S : ∀ a, a < 5 → ∀ b, b < 5 → a ≠ b → (F_S a).2.1 ≠ (F_S b).2.1 := by decide +kernel
theorem fy_S_ok : ∀ k, k < 5 → parseFieldDescriptor (F_S k).2.2.1 = some (fy_S k) := by decide +kernel
theorem hin_S : ∀ w ∈ u_ws R_S F_S 5, w ∈ wG := by
  intro w h
  obtain ⟨k, hk, rfl⟩ := List.mem_map.mp h
  have hk := List.mem_range.mp hk
  rcases (by omega : k = 0 ∨ k = 1 ∨ k = 2 ∨ k = 3 ∨ k = 4) with rfl | rfl | rfl | rfl | rfl
  · exact wG_of (List.mem_append_right _ (List.mem_append_left _ (List.mem_of_getElem? (i := 80) (by rfl)))) rfl
  · exact wG_of (List.mem_append_right _ (List.mem_append_left _ (List.mem_of_getElem? (i := 82) (by rfl)))) rfl
  · exact wG_of (List.mem_append_right _ (List.mem_append_left _ (List.mem_of_getElem? (i := 84) (by rfl)))) rfl
  · exact wG_of (List.mem_append_right _ (List.mem_append_left _ (List.mem_of_getElem? (i := 86) (by rfl)))) rfl
  · exact wG_of (List.mem_append_right _ (List.mem_append_left _ (List.mem_of_getElem? (i := 88) (by rfl)))) rfl
abbrev R_A : String := "PulsePlotter$Arc"
def F_A : u_T := fun k => match k with
  | 0 => ("PulsePlotter$Arc", "reach", "[I", true)
  | 1 => ("PulsePlotter$Arc", "centreX", "I", false)
  | 2 => ("PulsePlotter$Arc", "centreY", "I", false)
  | 3 => ("PulsePlotter$Arc", "diagonal", "I", false)
  | 4 => ("PulsePlotter$Arc", "side", "I", false)
  | 5 => ("PulsePlotter$Arc", "first", "I", false)
  | 6 => ("PulsePlotter$Arc", "turn", "I", false)
  | _ => ("PulsePlotter$Arc", "size", "I", false)
def fy_A : Nat → FieldType := fun k => match k with
  | 0 => .array .int
  | 1 => .int
  | 2 => .int
  | 3 => .int
  | 4 => .int
  | 5 => .int
  | 6 => .int
  | _ => .int
theorem n_A : ∀ a, a < 8 → ∀ b, b < 8 → a ≠ b → (F_A a).2.1 ≠ (F_A b).2.1 := by decide +kernel
theorem fy_A_ok : ∀ k, k < 8 → parseFieldDescriptor (F_A k).2.2.1 = some (fy_A k) := by decide +kernel
theorem hin_A : ∀ w ∈ u_ws R_A F_A 8, w ∈ wG := by
  intro w h
  obtain ⟨k, hk, rfl⟩ := List.mem_map.mp h
  have hk := List.mem_range.mp hk
  rcases (by omega : k = 0 ∨ k = 1 ∨ k = 2 ∨ k = 3 ∨ k = 4 ∨ k = 5 ∨ k = 6 ∨ k = 7) with rfl | rfl | rfl | rfl | rfl | rfl | rfl | rfl
  · exact wG_of (List.mem_append_right _ (List.mem_append_left _ (List.mem_of_getElem? (i := 105) (by rfl)))) rfl
  · exact wG_of (List.mem_append_right _ (List.mem_append_left _ (List.mem_of_getElem? (i := 107) (by rfl)))) rfl
  · exact wG_of (List.mem_append_right _ (List.mem_append_left _ (List.mem_of_getElem? (i := 109) (by rfl)))) rfl
  · exact wG_of (List.mem_append_right _ (List.mem_append_left _ (List.mem_of_getElem? (i := 111) (by rfl)))) rfl
  · exact wG_of (List.mem_append_right _ (List.mem_append_left _ (List.mem_of_getElem? (i := 113) (by rfl)))) rfl
  · exact wG_of (List.mem_append_right _ (List.mem_append_left _ (List.mem_of_getElem? (i := 115) (by rfl)))) rfl
  · exact wG_of (List.mem_append_right _ (List.mem_append_left _ (List.mem_of_getElem? (i := 117) (by rfl)))) rfl
  · exact wG_of (List.mem_append_right _ (List.mem_append_left _ (List.mem_of_getElem? (i := 119) (by rfl)))) rfl
abbrev R_M : String := "PulsePlotterModel"
def F_M : u_T := fun k => match k with
  | 0 => ("PulsePlotterModel", "text", "[I", true)
  | 1 => ("PulsePlotterModel", "length", "I", false)
  | 2 => ("PulsePlotterModel", "at", "I", false)
  | 3 => ("PulsePlotterModel", "lines", "I", false)
  | 4 => ("PulsePlotterModel", "x", "I", false)
  | 5 => ("PulsePlotterModel", "y", "I", false)
  | 6 => ("PulsePlotterModel", "mode", "I", false)
  | 7 => ("PulsePlotterModel", "feed", "I", false)
  | 8 => ("PulsePlotterModel", "state", "I", false)
  | 9 => ("PulsePlotterModel", "pulses", "I", false)
  | 10 => ("PulsePlotterModel", "last", "I", false)
  | 11 => ("PulsePlotterModel", "shown", "I", false)
  | 12 => ("PulsePlotterModel", "relative", "Z", false)
  | 13 => ("PulsePlotterModel", "ending", "Z", false)
  | 14 => ("PulsePlotterModel", "time", "J", false)
  | 15 => ("PulsePlotterModel", "pause", "J", false)
  | 16 => ("PulsePlotterModel", "kind", "I", false)
  | 17 => ("PulsePlotterModel", "made", "I", false)
  | 18 => ("PulsePlotterModel", "all", "I", false)
  | 19 => ("PulsePlotterModel", "fromX", "I", false)
  | 20 => ("PulsePlotterModel", "fromY", "I", false)
  | 21 => ("PulsePlotterModel", "wayX", "I", false)
  | 22 => ("PulsePlotterModel", "wayY", "I", false)
  | 23 => ("PulsePlotterModel", "px", "[I", true)
  | 24 => ("PulsePlotterModel", "py", "[I", true)
  | 25 => ("PulsePlotterModel", "points", "I", false)
  | 26 => ("PulsePlotterModel", "centreX", "I", false)
  | 27 => ("PulsePlotterModel", "centreY", "I", false)
  | 28 => ("PulsePlotterModel", "number", "[I", true)
  | 29 => ("PulsePlotterModel", "there", "I", false)
  | 30 => ("PulsePlotterModel", "newMode", "I", false)
  | 31 => ("PulsePlotterModel", "newWay", "I", false)
  | 32 => ("PulsePlotterModel", "newFeed", "I", false)
  | _ => ("PulsePlotterModel", "ends", "I", false)
def fy_M : Nat → FieldType := fun k => match k with
  | 0 => .array .int
  | 1 => .int
  | 2 => .int
  | 3 => .int
  | 4 => .int
  | 5 => .int
  | 6 => .int
  | 7 => .int
  | 8 => .int
  | 9 => .int
  | 10 => .int
  | 11 => .int
  | 12 => .boolean
  | 13 => .boolean
  | 14 => .long
  | 15 => .long
  | 16 => .int
  | 17 => .int
  | 18 => .int
  | 19 => .int
  | 20 => .int
  | 21 => .int
  | 22 => .int
  | 23 => .array .int
  | 24 => .array .int
  | 25 => .int
  | 26 => .int
  | 27 => .int
  | 28 => .array .int
  | 29 => .int
  | 30 => .int
  | 31 => .int
  | 32 => .int
  | _ => .int
theorem n_M : ∀ a, a < 34 → ∀ b, b < 34 → a ≠ b → (F_M a).2.1 ≠ (F_M b).2.1 := by decide +kernel
theorem fy_M_ok : ∀ k, k < 34 → parseFieldDescriptor (F_M k).2.2.1 = some (fy_M k) := by decide +kernel
theorem hin_M : ∀ w ∈ u_ws R_M F_M 34, w ∈ wG := by
  intro w h
  obtain ⟨k, hk, rfl⟩ := List.mem_map.mp h
  have hk := List.mem_range.mp hk
  rcases (by omega : k = 0 ∨ k = 1 ∨ k = 2 ∨ k = 3 ∨ k = 4 ∨ k = 5 ∨ k = 6 ∨ k = 7 ∨ k = 8 ∨ k = 9 ∨ k = 10 ∨ k = 11 ∨ k = 12 ∨ k = 13 ∨ k = 14 ∨ k = 15 ∨ k = 16 ∨ k = 17 ∨ k = 18 ∨ k = 19 ∨ k = 20 ∨ k = 21 ∨ k = 22 ∨ k = 23 ∨ k = 24 ∨ k = 25 ∨ k = 26 ∨ k = 27 ∨ k = 28 ∨ k = 29 ∨ k = 30 ∨ k = 31 ∨ k = 32 ∨ k = 33) with rfl | rfl | rfl | rfl | rfl | rfl | rfl | rfl | rfl | rfl | rfl | rfl | rfl | rfl | rfl | rfl | rfl | rfl | rfl | rfl | rfl | rfl | rfl | rfl | rfl | rfl | rfl | rfl | rfl | rfl | rfl | rfl | rfl | rfl
  · exact wG_of (List.mem_append_right _ (List.mem_append_right _ (List.mem_append_right _ (List.mem_append_left _ (List.mem_of_getElem? (i := 77) (by rfl)))))) rfl
  · exact wG_of (List.mem_append_right _ (List.mem_append_right _ (List.mem_append_right _ (List.mem_append_left _ (List.mem_of_getElem? (i := 79) (by rfl)))))) rfl
  · exact wG_of (List.mem_append_right _ (List.mem_append_right _ (List.mem_append_right _ (List.mem_append_left _ (List.mem_of_getElem? (i := 81) (by rfl)))))) rfl
  · exact wG_of (List.mem_append_right _ (List.mem_append_right _ (List.mem_append_right _ (List.mem_append_left _ (List.mem_of_getElem? (i := 83) (by rfl)))))) rfl
  · exact wG_of (List.mem_append_right _ (List.mem_append_right _ (List.mem_append_right _ (List.mem_append_left _ (List.mem_of_getElem? (i := 85) (by rfl)))))) rfl
  · exact wG_of (List.mem_append_right _ (List.mem_append_right _ (List.mem_append_right _ (List.mem_append_left _ (List.mem_of_getElem? (i := 87) (by rfl)))))) rfl
  · exact wG_of (List.mem_append_right _ (List.mem_append_right _ (List.mem_append_right _ (List.mem_append_left _ (List.mem_of_getElem? (i := 89) (by rfl)))))) rfl
  · exact wG_of (List.mem_append_right _ (List.mem_append_right _ (List.mem_append_right _ (List.mem_append_left _ (List.mem_of_getElem? (i := 91) (by rfl)))))) rfl
  · exact wG_of (List.mem_append_right _ (List.mem_append_right _ (List.mem_append_right _ (List.mem_append_left _ (List.mem_of_getElem? (i := 93) (by rfl)))))) rfl
  · exact wG_of (List.mem_append_right _ (List.mem_append_right _ (List.mem_append_right _ (List.mem_append_left _ (List.mem_of_getElem? (i := 95) (by rfl)))))) rfl
  · exact wG_of (List.mem_append_right _ (List.mem_append_right _ (List.mem_append_right _ (List.mem_append_left _ (List.mem_of_getElem? (i := 97) (by rfl)))))) rfl
  · exact wG_of (List.mem_append_right _ (List.mem_append_right _ (List.mem_append_right _ (List.mem_append_left _ (List.mem_of_getElem? (i := 99) (by rfl)))))) rfl
  · exact wG_of (List.mem_append_right _ (List.mem_append_right _ (List.mem_append_right _ (List.mem_append_left _ (List.mem_of_getElem? (i := 101) (by rfl)))))) rfl
  · exact wG_of (List.mem_append_right _ (List.mem_append_right _ (List.mem_append_right _ (List.mem_append_left _ (List.mem_of_getElem? (i := 103) (by rfl)))))) rfl
  · exact wG_of (List.mem_append_right _ (List.mem_append_right _ (List.mem_append_right _ (List.mem_append_left _ (List.mem_of_getElem? (i := 105) (by rfl)))))) rfl
  · exact wG_of (List.mem_append_right _ (List.mem_append_right _ (List.mem_append_right _ (List.mem_append_left _ (List.mem_of_getElem? (i := 107) (by rfl)))))) rfl
  · exact wG_of (List.mem_append_right _ (List.mem_append_right _ (List.mem_append_right _ (List.mem_append_left _ (List.mem_of_getElem? (i := 109) (by rfl)))))) rfl
  · exact wG_of (List.mem_append_right _ (List.mem_append_right _ (List.mem_append_right _ (List.mem_append_left _ (List.mem_of_getElem? (i := 111) (by rfl)))))) rfl
  · exact wG_of (List.mem_append_right _ (List.mem_append_right _ (List.mem_append_right _ (List.mem_append_left _ (List.mem_of_getElem? (i := 113) (by rfl)))))) rfl
  · exact wG_of (List.mem_append_right _ (List.mem_append_right _ (List.mem_append_right _ (List.mem_append_left _ (List.mem_of_getElem? (i := 115) (by rfl)))))) rfl
  · exact wG_of (List.mem_append_right _ (List.mem_append_right _ (List.mem_append_right _ (List.mem_append_left _ (List.mem_of_getElem? (i := 117) (by rfl)))))) rfl
  · exact wG_of (List.mem_append_right _ (List.mem_append_right _ (List.mem_append_right _ (List.mem_append_left _ (List.mem_of_getElem? (i := 119) (by rfl)))))) rfl
  · exact wG_of (List.mem_append_right _ (List.mem_append_right _ (List.mem_append_right _ (List.mem_append_left _ (List.mem_of_getElem? (i := 121) (by rfl)))))) rfl
  · exact wG_of (List.mem_append_right _ (List.mem_append_right _ (List.mem_append_right _ (List.mem_append_left _ (List.mem_of_getElem? (i := 123) (by rfl)))))) rfl
  · exact wG_of (List.mem_append_right _ (List.mem_append_right _ (List.mem_append_right _ (List.mem_append_left _ (List.mem_of_getElem? (i := 125) (by rfl)))))) rfl
  · exact wG_of (List.mem_append_right _ (List.mem_append_right _ (List.mem_append_right _ (List.mem_append_left _ (List.mem_of_getElem? (i := 127) (by rfl)))))) rfl
  · exact wG_of (List.mem_append_right _ (List.mem_append_right _ (List.mem_append_right _ (List.mem_append_left _ (List.mem_of_getElem? (i := 129) (by rfl)))))) rfl
  · exact wG_of (List.mem_append_right _ (List.mem_append_right _ (List.mem_append_right _ (List.mem_append_left _ (List.mem_of_getElem? (i := 131) (by rfl)))))) rfl
  · exact wG_of (List.mem_append_right _ (List.mem_append_right _ (List.mem_append_right _ (List.mem_append_left _ (List.mem_of_getElem? (i := 133) (by rfl)))))) rfl
  · exact wG_of (List.mem_append_right _ (List.mem_append_right _ (List.mem_append_right _ (List.mem_append_left _ (List.mem_of_getElem? (i := 135) (by rfl)))))) rfl
  · exact wG_of (List.mem_append_right _ (List.mem_append_right _ (List.mem_append_right _ (List.mem_append_left _ (List.mem_of_getElem? (i := 137) (by rfl)))))) rfl
  · exact wG_of (List.mem_append_right _ (List.mem_append_right _ (List.mem_append_right _ (List.mem_append_left _ (List.mem_of_getElem? (i := 139) (by rfl)))))) rfl
  · exact wG_of (List.mem_append_right _ (List.mem_append_right _ (List.mem_append_right _ (List.mem_append_left _ (List.mem_of_getElem? (i := 141) (by rfl)))))) rfl
  · exact wG_of (List.mem_append_right _ (List.mem_append_right _ (List.mem_append_right _ (List.mem_append_left _ (List.mem_of_getElem? (i := 143) (by rfl)))))) rfl
abbrev cls : List vw_C := [(R_P, F_P, 19), (R_T, F_T, 2), (R_W, F_W, 7), (R_S, F_S, 5), (R_A, F_A, 8), (R_M, F_M, 34)]
abbrev tys (K : Nat → ClassId) : List (ClassId × FieldType) := [(K 0, .char), (K 1, .char), (K 2, .boolean), (K 3, .int), (K 4, .int), (K 5, .int), (K 6, .int), (K 7, .int), (K 8, .int)]
abbrev o_P (a : Nat → Nat) (p_way : Bool) (p_done p_left p_nextLineStart p_line p_state p_ending p_x p_y : Int32) (p_time : Int64) (p_pulses p_last p_feedRate p_motion p_relative : Int32) : Nat × va_E := (a 0, .inr (0, [.ref (a 1), .ref (a 3), .ref (a 7), .ref (a 8), .ref (bif p_way then a 8 else a 7), .int p_done, .int p_left, .int p_nextLineStart, .int p_line, .int p_state, .int p_ending, .int p_x, .int p_y, .long p_time, .int p_pulses, .int p_last, .int p_feedRate, .int p_motion, .int p_relative]))
abbrev o_T (a : Nat → Nat) (t_size : Int32) : Nat × va_E := (a 1, .inr (1, [.ref (a 2), .int t_size]))
abbrev o_tc (a : Nat → Nat) (K : Nat → ClassId) (f : Nat → Int32) : Nat × va_E := (a 2, .inl (K 0, 400, .inl f))
abbrev o_W (a : Nat → Nat) (w_rowSize w_at w_motion w_distances : Int32) : Nat × va_E := (a 3, .inr (2, [.ref (a 4), .int w_rowSize, .int w_at, .ref (a 5), .ref (a 6), .int w_motion, .int w_distances]))
abbrev o_wr (a : Nat → Nat) (K : Nat → ClassId) (f : Nat → Int32) : Nat × va_E := (a 4, .inl (K 1, 400, .inl f))
abbrev o_wz (a : Nat → Nat) (K : Nat → ClassId) (f : Nat → Int32) : Nat × va_E := (a 5, .inl (K 2, 7, .inl f))
abbrev o_wn (a : Nat → Nat) (K : Nat → ClassId) (f : Nat → Int32) : Nat × va_E := (a 6, .inl (K 3, 7, .inl f))
abbrev o_S (a : Nat → Nat) (s_startX s_startY s_dx s_dy s_size : Int32) : Nat × va_E := (a 7, .inr (3, [.int s_startX, .int s_startY, .int s_dx, .int s_dy, .int s_size]))
abbrev o_A (a : Nat → Nat) (r_centreX r_centreY r_diagonal r_side r_first r_turn r_size : Int32) : Nat × va_E := (a 8, .inr (4, [.ref (a 9), .int r_centreX, .int r_centreY, .int r_diagonal, .int r_side, .int r_first, .int r_turn, .int r_size]))
abbrev o_ar (a : Nat → Nat) (K : Nat → ClassId) (f : Nat → Int32) : Nat × va_E := (a 9, .inl (K 4, 202, .inl f))
abbrev o_M (a : Nat → Nat) (m_length m_at m_lines m_x m_y m_mode m_feed m_state m_pulses m_last m_shown m_relative m_ending : Int32) (m_time m_pause : Int64) (m_kind m_made m_all m_fromX m_fromY m_wayX m_wayY m_points m_centreX m_centreY m_there m_newMode m_newWay m_newFeed m_ends : Int32) : Nat × va_E := (a 10, .inr (5, [.ref (a 11), .int m_length, .int m_at, .int m_lines, .int m_x, .int m_y, .int m_mode, .int m_feed, .int m_state, .int m_pulses, .int m_last, .int m_shown, .int m_relative, .int m_ending, .long m_time, .long m_pause, .int m_kind, .int m_made, .int m_all, .int m_fromX, .int m_fromY, .int m_wayX, .int m_wayY, .ref (a 12), .ref (a 13), .int m_points, .int m_centreX, .int m_centreY, .ref (a 14), .int m_there, .int m_newMode, .int m_newWay, .int m_newFeed, .int m_ends]))
abbrev o_mt (a : Nat → Nat) (K : Nat → ClassId) (f : Nat → Int32) : Nat × va_E := (a 11, .inl (K 5, 400, .inl f))
abbrev o_mx (a : Nat → Nat) (K : Nat → ClassId) (f : Nat → Int32) : Nat × va_E := (a 12, .inl (K 6, 2400, .inl f))
abbrev o_my (a : Nat → Nat) (K : Nat → ClassId) (f : Nat → Int32) : Nat × va_E := (a 13, .inl (K 7, 2400, .inl f))
abbrev o_mn (a : Nat → Nat) (K : Nat → ClassId) (f : Nat → Int32) : Nat × va_E := (a 14, .inl (K 8, 4, .inl f))
abbrev y_Jm_abs : MethodName := ⟨"java/lang/Math", "abs", "(I)I"⟩
abbrev b_Jm_abs : ByteArray := prog_10_method_59_code
theorem kc_Jm_abs : Cond.code y_Jm_abs b_Jm_abs 1 (some .int) ∈ wG := wG_of (List.mem_append_right _ (List.mem_append_right _ (List.mem_append_left _ (List.mem_of_getElem? (i := 230) (by rfl))))) rfl
theorem ks_Jm_abs : Cond.static y_Jm_abs ∈ wG := wG_of (List.mem_append_right _ (List.mem_append_right _ (List.mem_append_left _ (List.mem_of_getElem? (i := 229) (by rfl))))) rfl
abbrev y_Jm_floorDiv : MethodName := ⟨"java/lang/Math", "floorDiv", "(II)I"⟩
abbrev b_Jm_floorDiv : ByteArray := prog_10_method_47_code
theorem kc_Jm_floorDiv : Cond.code y_Jm_floorDiv b_Jm_floorDiv 3 (some .int) ∈ wG := wG_of (List.mem_append_right _ (List.mem_append_right _ (List.mem_append_left _ (List.mem_of_getElem? (i := 1) (by rfl))))) rfl
theorem ks_Jm_floorDiv : Cond.static y_Jm_floorDiv ∈ wG := wG_of (List.mem_append_right _ (List.mem_append_right _ (List.mem_append_left _ (List.mem_of_getElem? (i := 0) (by rfl))))) rfl
abbrev y_Jm_floorMod : MethodName := ⟨"java/lang/Math", "floorMod", "(II)I"⟩
abbrev b_Jm_floorMod : ByteArray := prog_10_method_50_code
theorem kc_Jm_floorMod : Cond.code y_Jm_floorMod b_Jm_floorMod 3 (some .int) ∈ wG := wG_of (List.mem_append_right _ (List.mem_append_left _ (List.mem_of_getElem? (i := 227) (by rfl)))) rfl
theorem ks_Jm_floorMod : Cond.static y_Jm_floorMod ∈ wG := wG_of (List.mem_append_right _ (List.mem_append_left _ (List.mem_of_getElem? (i := 226) (by rfl)))) rfl
abbrev y_Jm_max : MethodName := ⟨"java/lang/Math", "max", "(II)I"⟩
abbrev b_Jm_max : ByteArray := prog_10_method_65_code
theorem kc_Jm_max : Cond.code y_Jm_max b_Jm_max 2 (some .int) ∈ wG := wG_of (List.mem_append_right _ (List.mem_append_right _ (List.mem_append_left _ (List.mem_of_getElem? (i := 84) (by rfl))))) rfl
theorem ks_Jm_max : Cond.static y_Jm_max ∈ wG := wG_of (List.mem_append_right _ (List.mem_append_right _ (List.mem_append_left _ (List.mem_of_getElem? (i := 83) (by rfl))))) rfl
abbrev y_Jm_min : MethodName := ⟨"java/lang/Math", "min", "(II)I"⟩
abbrev b_Jm_min : ByteArray := prog_10_method_69_code
theorem kc_Jm_min : Cond.code y_Jm_min b_Jm_min 2 (some .int) ∈ wG := wG_of (List.mem_append_right _ (List.mem_append_left _ (List.mem_of_getElem? (i := 214) (by rfl)))) rfl
theorem ks_Jm_min : Cond.static y_Jm_min ∈ wG := wG_of (List.mem_append_right _ (List.mem_append_left _ (List.mem_of_getElem? (i := 213) (by rfl)))) rfl
abbrev y_P_init : MethodName := ⟨"PulsePlotter", "<init>", "()V"⟩
abbrev b_P_init : ByteArray := prog_1_method_1_code
theorem kc_P_init : Cond.code y_P_init b_P_init 1 none ∈ wG := wG_of (List.mem_append_right _ (List.mem_append_left _ (List.mem_of_getElem? (i := 18) (by rfl)))) rfl
theorem kn_P_init : Cond.instanceMethod y_P_init ∈ wG := wG_of (List.mem_append_right _ (List.mem_append_left _ (List.mem_of_getElem? (i := 17) (by rfl)))) rfl
abbrev y_P_feed : MethodName := ⟨"PulsePlotter", "feed", "(I)I"⟩
abbrev b_P_feed : ByteArray := prog_1_method_2_code
theorem kc_P_feed : Cond.code y_P_feed b_P_feed 3 (some .int) ∈ wG := wG_of (List.mem_append_right _ (List.mem_append_left _ (List.mem_of_getElem? (i := 187) (by rfl)))) rfl
theorem kn_P_feed : Cond.instanceMethod y_P_feed ∈ wG := wG_of (List.mem_append_right _ (List.mem_append_left _ (List.mem_of_getElem? (i := 185) (by rfl)))) rfl
theorem kv_P_feed : Cond.selects "PulsePlotter" y_P_feed y_P_feed ∈ wG := wG_of (List.mem_append_right _ (List.mem_append_left _ (List.mem_of_getElem? (i := 186) (by rfl)))) rfl
abbrev y_P_clear : MethodName := ⟨"PulsePlotter", "clear", "()V"⟩
abbrev b_P_clear : ByteArray := prog_1_method_3_code
theorem kc_P_clear : Cond.code y_P_clear b_P_clear 1 none ∈ wG := wG_of (List.mem_append_right _ (List.mem_append_left _ (List.mem_of_getElem? (i := 198) (by rfl)))) rfl
theorem kn_P_clear : Cond.instanceMethod y_P_clear ∈ wG := wG_of (List.mem_append_right _ (List.mem_append_left _ (List.mem_of_getElem? (i := 196) (by rfl)))) rfl
theorem kv_P_clear : Cond.selects "PulsePlotter" y_P_clear y_P_clear ∈ wG := wG_of (List.mem_append_right _ (List.mem_append_left _ (List.mem_of_getElem? (i := 197) (by rfl)))) rfl
abbrev y_P_begin : MethodName := ⟨"PulsePlotter", "begin", "()V"⟩
abbrev b_P_begin : ByteArray := prog_1_method_4_code
theorem kc_P_begin : Cond.code y_P_begin b_P_begin 1 none ∈ wG := wG_of (List.mem_append_right _ (List.mem_append_left _ (List.mem_of_getElem? (i := 125) (by rfl)))) rfl
theorem kn_P_begin : Cond.instanceMethod y_P_begin ∈ wG := wG_of (List.mem_append_right _ (List.mem_append_left _ (List.mem_of_getElem? (i := 123) (by rfl)))) rfl
theorem kv_P_begin : Cond.selects "PulsePlotter" y_P_begin y_P_begin ∈ wG := wG_of (List.mem_append_right _ (List.mem_append_left _ (List.mem_of_getElem? (i := 124) (by rfl)))) rfl
abbrev y_P_run : MethodName := ⟨"PulsePlotter", "run", "(I)I"⟩
abbrev b_P_run : ByteArray := prog_1_method_5_code
theorem kc_P_run : Cond.code y_P_run b_P_run 4 (some .int) ∈ wG := wG_of (List.mem_append_right _ (List.mem_append_left _ (List.mem_of_getElem? (i := 207) (by rfl)))) rfl
theorem kn_P_run : Cond.instanceMethod y_P_run ∈ wG := wG_of (List.mem_append_right _ (List.mem_append_left _ (List.mem_of_getElem? (i := 205) (by rfl)))) rfl
theorem kv_P_run : Cond.selects "PulsePlotter" y_P_run y_P_run ∈ wG := wG_of (List.mem_append_right _ (List.mem_append_left _ (List.mem_of_getElem? (i := 206) (by rfl)))) rfl
abbrev y_P_state : MethodName := ⟨"PulsePlotter", "state", "()I"⟩
abbrev b_P_state : ByteArray := prog_1_method_6_code
theorem kc_P_state : Cond.code y_P_state b_P_state 1 (some .int) ∈ wG := wG_of (List.mem_append_right _ (List.mem_append_right _ (List.mem_append_left _ (List.mem_of_getElem? (i := 236) (by rfl))))) rfl
theorem kn_P_state : Cond.instanceMethod y_P_state ∈ wG := wG_of (List.mem_append_right _ (List.mem_append_right _ (List.mem_append_left _ (List.mem_of_getElem? (i := 234) (by rfl))))) rfl
theorem kv_P_state : Cond.selects "PulsePlotter" y_P_state y_P_state ∈ wG := wG_of (List.mem_append_right _ (List.mem_append_right _ (List.mem_append_left _ (List.mem_of_getElem? (i := 235) (by rfl))))) rfl
abbrev y_P_x : MethodName := ⟨"PulsePlotter", "x", "()I"⟩
abbrev b_P_x : ByteArray := prog_1_method_7_code
theorem kc_P_x : Cond.code y_P_x b_P_x 1 (some .int) ∈ wG := wG_of (List.mem_append_right _ (List.mem_append_right _ (List.mem_append_right _ (List.mem_append_left _ (List.mem_of_getElem? (i := 0) (by rfl)))))) rfl
theorem kn_P_x : Cond.instanceMethod y_P_x ∈ wG := wG_of (List.mem_append_right _ (List.mem_append_right _ (List.mem_append_left _ (List.mem_of_getElem? (i := 238) (by rfl))))) rfl
theorem kv_P_x : Cond.selects "PulsePlotter" y_P_x y_P_x ∈ wG := wG_of (List.mem_append_right _ (List.mem_append_right _ (List.mem_append_left _ (List.mem_of_getElem? (i := 239) (by rfl))))) rfl
abbrev y_P_y : MethodName := ⟨"PulsePlotter", "y", "()I"⟩
abbrev b_P_y : ByteArray := prog_1_method_8_code
theorem kc_P_y : Cond.code y_P_y b_P_y 1 (some .int) ∈ wG := wG_of (List.mem_append_right _ (List.mem_append_right _ (List.mem_append_right _ (List.mem_append_left _ (List.mem_of_getElem? (i := 4) (by rfl)))))) rfl
theorem kn_P_y : Cond.instanceMethod y_P_y ∈ wG := wG_of (List.mem_append_right _ (List.mem_append_right _ (List.mem_append_right _ (List.mem_append_left _ (List.mem_of_getElem? (i := 2) (by rfl)))))) rfl
theorem kv_P_y : Cond.selects "PulsePlotter" y_P_y y_P_y ∈ wG := wG_of (List.mem_append_right _ (List.mem_append_right _ (List.mem_append_right _ (List.mem_append_left _ (List.mem_of_getElem? (i := 3) (by rfl)))))) rfl
abbrev y_P_time : MethodName := ⟨"PulsePlotter", "time", "()J"⟩
abbrev b_P_time : ByteArray := prog_1_method_9_code
theorem kc_P_time : Cond.code y_P_time b_P_time 1 (some .long) ∈ wG := wG_of (List.mem_append_right _ (List.mem_append_right _ (List.mem_append_right _ (List.mem_append_left _ (List.mem_of_getElem? (i := 8) (by rfl)))))) rfl
theorem kn_P_time : Cond.instanceMethod y_P_time ∈ wG := wG_of (List.mem_append_right _ (List.mem_append_right _ (List.mem_append_right _ (List.mem_append_left _ (List.mem_of_getElem? (i := 6) (by rfl)))))) rfl
theorem kv_P_time : Cond.selects "PulsePlotter" y_P_time y_P_time ∈ wG := wG_of (List.mem_append_right _ (List.mem_append_right _ (List.mem_append_right _ (List.mem_append_left _ (List.mem_of_getElem? (i := 7) (by rfl)))))) rfl
abbrev y_P_pulses : MethodName := ⟨"PulsePlotter", "pulses", "()I"⟩
abbrev b_P_pulses : ByteArray := prog_1_method_10_code
theorem kc_P_pulses : Cond.code y_P_pulses b_P_pulses 1 (some .int) ∈ wG := wG_of (List.mem_append_right _ (List.mem_append_right _ (List.mem_append_right _ (List.mem_append_left _ (List.mem_of_getElem? (i := 12) (by rfl)))))) rfl
theorem kn_P_pulses : Cond.instanceMethod y_P_pulses ∈ wG := wG_of (List.mem_append_right _ (List.mem_append_right _ (List.mem_append_right _ (List.mem_append_left _ (List.mem_of_getElem? (i := 10) (by rfl)))))) rfl
theorem kv_P_pulses : Cond.selects "PulsePlotter" y_P_pulses y_P_pulses ∈ wG := wG_of (List.mem_append_right _ (List.mem_append_right _ (List.mem_append_right _ (List.mem_append_left _ (List.mem_of_getElem? (i := 11) (by rfl)))))) rfl
abbrev y_P_last : MethodName := ⟨"PulsePlotter", "last", "()I"⟩
abbrev b_P_last : ByteArray := prog_1_method_11_code
theorem kc_P_last : Cond.code y_P_last b_P_last 1 (some .int) ∈ wG := wG_of (List.mem_append_right _ (List.mem_append_right _ (List.mem_append_right _ (List.mem_append_left _ (List.mem_of_getElem? (i := 16) (by rfl)))))) rfl
theorem kn_P_last : Cond.instanceMethod y_P_last ∈ wG := wG_of (List.mem_append_right _ (List.mem_append_right _ (List.mem_append_right _ (List.mem_append_left _ (List.mem_of_getElem? (i := 14) (by rfl)))))) rfl
theorem kv_P_last : Cond.selects "PulsePlotter" y_P_last y_P_last ∈ wG := wG_of (List.mem_append_right _ (List.mem_append_right _ (List.mem_append_right _ (List.mem_append_left _ (List.mem_of_getElem? (i := 15) (by rfl)))))) rfl
abbrev y_P_line : MethodName := ⟨"PulsePlotter", "line", "()I"⟩
abbrev b_P_line : ByteArray := prog_1_method_12_code
theorem kc_P_line : Cond.code y_P_line b_P_line 1 (some .int) ∈ wG := wG_of (List.mem_append_right _ (List.mem_append_right _ (List.mem_append_right _ (List.mem_append_left _ (List.mem_of_getElem? (i := 20) (by rfl)))))) rfl
theorem kn_P_line : Cond.instanceMethod y_P_line ∈ wG := wG_of (List.mem_append_right _ (List.mem_append_right _ (List.mem_append_right _ (List.mem_append_left _ (List.mem_of_getElem? (i := 18) (by rfl)))))) rfl
theorem kv_P_line : Cond.selects "PulsePlotter" y_P_line y_P_line ∈ wG := wG_of (List.mem_append_right _ (List.mem_append_right _ (List.mem_append_right _ (List.mem_append_left _ (List.mem_of_getElem? (i := 19) (by rfl)))))) rfl
abbrev y_P_feedRate : MethodName := ⟨"PulsePlotter", "feedRate", "()I"⟩
abbrev b_P_feedRate : ByteArray := prog_1_method_13_code
theorem kc_P_feedRate : Cond.code y_P_feedRate b_P_feedRate 1 (some .int) ∈ wG := wG_of (List.mem_append_right _ (List.mem_append_right _ (List.mem_append_right _ (List.mem_append_left _ (List.mem_of_getElem? (i := 24) (by rfl)))))) rfl
theorem kn_P_feedRate : Cond.instanceMethod y_P_feedRate ∈ wG := wG_of (List.mem_append_right _ (List.mem_append_right _ (List.mem_append_right _ (List.mem_append_left _ (List.mem_of_getElem? (i := 22) (by rfl)))))) rfl
theorem kv_P_feedRate : Cond.selects "PulsePlotter" y_P_feedRate y_P_feedRate ∈ wG := wG_of (List.mem_append_right _ (List.mem_append_right _ (List.mem_append_right _ (List.mem_append_left _ (List.mem_of_getElem? (i := 23) (by rfl)))))) rfl
abbrev y_P_mode : MethodName := ⟨"PulsePlotter", "mode", "()I"⟩
abbrev b_P_mode : ByteArray := prog_1_method_14_code
theorem kc_P_mode : Cond.code y_P_mode b_P_mode 1 (some .int) ∈ wG := wG_of (List.mem_append_right _ (List.mem_append_right _ (List.mem_append_right _ (List.mem_append_left _ (List.mem_of_getElem? (i := 28) (by rfl)))))) rfl
theorem kn_P_mode : Cond.instanceMethod y_P_mode ∈ wG := wG_of (List.mem_append_right _ (List.mem_append_right _ (List.mem_append_right _ (List.mem_append_left _ (List.mem_of_getElem? (i := 26) (by rfl)))))) rfl
theorem kv_P_mode : Cond.selects "PulsePlotter" y_P_mode y_P_mode ∈ wG := wG_of (List.mem_append_right _ (List.mem_append_right _ (List.mem_append_right _ (List.mem_append_left _ (List.mem_of_getElem? (i := 27) (by rfl)))))) rfl
abbrev y_P_left : MethodName := ⟨"PulsePlotter", "left", "()I"⟩
abbrev b_P_left : ByteArray := prog_1_method_15_code
theorem kc_P_left : Cond.code y_P_left b_P_left 1 (some .int) ∈ wG := wG_of (List.mem_append_right _ (List.mem_append_right _ (List.mem_append_right _ (List.mem_append_left _ (List.mem_of_getElem? (i := 32) (by rfl)))))) rfl
theorem kn_P_left : Cond.instanceMethod y_P_left ∈ wG := wG_of (List.mem_append_right _ (List.mem_append_right _ (List.mem_append_right _ (List.mem_append_left _ (List.mem_of_getElem? (i := 30) (by rfl)))))) rfl
theorem kv_P_left : Cond.selects "PulsePlotter" y_P_left y_P_left ∈ wG := wG_of (List.mem_append_right _ (List.mem_append_right _ (List.mem_append_right _ (List.mem_append_left _ (List.mem_of_getElem? (i := 31) (by rfl)))))) rfl
abbrev y_P_makePulses : MethodName := ⟨"PulsePlotter", "makePulses", "(I)I"⟩
abbrev b_P_makePulses : ByteArray := prog_1_method_16_code
theorem kc_P_makePulses : Cond.code y_P_makePulses b_P_makePulses 5 (some .int) ∈ wG := wG_of (List.mem_append_right _ (List.mem_append_left _ (List.mem_of_getElem? (i := 211) (by rfl)))) rfl
theorem kn_P_makePulses : Cond.instanceMethod y_P_makePulses ∈ wG := wG_of (List.mem_append_right _ (List.mem_append_left _ (List.mem_of_getElem? (i := 210) (by rfl)))) rfl
theorem kv_P_makePulses : Cond.selects "PulsePlotter" y_P_makePulses y_P_makePulses ∈ wG := wG_of (List.mem_append_left _ (List.mem_of_getElem? (i := 0) (by rfl))) rfl
abbrev y_P_pause : MethodName := ⟨"PulsePlotter", "pause", "()I"⟩
abbrev b_P_pause : ByteArray := prog_1_method_17_code
theorem kc_P_pause : Cond.code y_P_pause b_P_pause 1 (some .int) ∈ wG := wG_of (List.mem_append_right _ (List.mem_append_right _ (List.mem_append_left _ (List.mem_of_getElem? (i := 14) (by rfl))))) rfl
theorem kn_P_pause : Cond.instanceMethod y_P_pause ∈ wG := wG_of (List.mem_append_right _ (List.mem_append_right _ (List.mem_append_left _ (List.mem_of_getElem? (i := 13) (by rfl))))) rfl
theorem kv_P_pause : Cond.selects "PulsePlotter" y_P_pause y_P_pause ∈ wG := wG_of (List.mem_append_left _ (List.mem_of_getElem? (i := 4) (by rfl))) rfl
abbrev y_P_lookAtNextLine : MethodName := ⟨"PulsePlotter", "lookAtNextLine", "()V"⟩
abbrev b_P_lookAtNextLine : ByteArray := prog_1_method_18_code
theorem kc_P_lookAtNextLine : Cond.code y_P_lookAtNextLine b_P_lookAtNextLine 2 none ∈ wG := wG_of (List.mem_append_right _ (List.mem_append_right _ (List.mem_append_left _ (List.mem_of_getElem? (i := 19) (by rfl))))) rfl
theorem kn_P_lookAtNextLine : Cond.instanceMethod y_P_lookAtNextLine ∈ wG := wG_of (List.mem_append_right _ (List.mem_append_right _ (List.mem_append_left _ (List.mem_of_getElem? (i := 18) (by rfl))))) rfl
theorem kv_P_lookAtNextLine : Cond.selects "PulsePlotter" y_P_lookAtNextLine y_P_lookAtNextLine ∈ wG := wG_of (List.mem_append_left _ (List.mem_of_getElem? (i := 5) (by rfl))) rfl
abbrev y_P_applySettings : MethodName := ⟨"PulsePlotter", "applySettings", "()V"⟩
abbrev b_P_applySettings : ByteArray := prog_1_method_19_code
theorem kc_P_applySettings : Cond.code y_P_applySettings b_P_applySettings 1 none ∈ wG := wG_of (List.mem_append_right _ (List.mem_append_right _ (List.mem_append_left _ (List.mem_of_getElem? (i := 157) (by rfl))))) rfl
theorem kn_P_applySettings : Cond.instanceMethod y_P_applySettings ∈ wG := wG_of (List.mem_append_right _ (List.mem_append_right _ (List.mem_append_left _ (List.mem_of_getElem? (i := 156) (by rfl))))) rfl
theorem kv_P_applySettings : Cond.selects "PulsePlotter" y_P_applySettings y_P_applySettings ∈ wG := wG_of (List.mem_append_left _ (List.mem_of_getElem? (i := 12) (by rfl))) rfl
abbrev y_P_startMove : MethodName := ⟨"PulsePlotter", "startMove", "()I"⟩
abbrev b_P_startMove : ByteArray := prog_1_method_20_code
theorem kc_P_startMove : Cond.code y_P_startMove b_P_startMove 6 (some .int) ∈ wG := wG_of (List.mem_append_right _ (List.mem_append_right _ (List.mem_append_left _ (List.mem_of_getElem? (i := 178) (by rfl))))) rfl
theorem kn_P_startMove : Cond.instanceMethod y_P_startMove ∈ wG := wG_of (List.mem_append_right _ (List.mem_append_right _ (List.mem_append_left _ (List.mem_of_getElem? (i := 177) (by rfl))))) rfl
theorem kv_P_startMove : Cond.selects "PulsePlotter" y_P_startMove y_P_startMove ∈ wG := wG_of (List.mem_append_left _ (List.mem_of_getElem? (i := 13) (by rfl))) rfl
abbrev y_P_goal : MethodName := ⟨"PulsePlotter", "goal", "(II)I"⟩
abbrev b_P_goal : ByteArray := prog_1_method_21_code
theorem kc_P_goal : Cond.code y_P_goal b_P_goal 3 (some .int) ∈ wG := wG_of (List.mem_append_right _ (List.mem_append_right _ (List.mem_append_left _ (List.mem_of_getElem? (i := 182) (by rfl))))) rfl
theorem kn_P_goal : Cond.instanceMethod y_P_goal ∈ wG := wG_of (List.mem_append_right _ (List.mem_append_right _ (List.mem_append_left _ (List.mem_of_getElem? (i := 181) (by rfl))))) rfl
theorem kv_P_goal : Cond.selects "PulsePlotter" y_P_goal y_P_goal ∈ wG := wG_of (List.mem_append_left _ (List.mem_of_getElem? (i := 14) (by rfl))) rfl
abbrev y_P_startStraight : MethodName := ⟨"PulsePlotter", "startStraight", "(II)I"⟩
abbrev b_P_startStraight : ByteArray := prog_1_method_22_code
theorem kc_P_startStraight : Cond.code y_P_startStraight b_P_startStraight 3 (some .int) ∈ wG := wG_of (List.mem_append_right _ (List.mem_append_right _ (List.mem_append_left _ (List.mem_of_getElem? (i := 223) (by rfl))))) rfl
theorem kn_P_startStraight : Cond.instanceMethod y_P_startStraight ∈ wG := wG_of (List.mem_append_right _ (List.mem_append_right _ (List.mem_append_left _ (List.mem_of_getElem? (i := 222) (by rfl))))) rfl
theorem kv_P_startStraight : Cond.selects "PulsePlotter" y_P_startStraight y_P_startStraight ∈ wG := wG_of (List.mem_append_left _ (List.mem_of_getElem? (i := 18) (by rfl))) rfl
abbrev y_P_startArc : MethodName := ⟨"PulsePlotter", "startArc", "(II)I"⟩
abbrev b_P_startArc : ByteArray := prog_1_method_23_code
theorem kc_P_startArc : Cond.code y_P_startArc b_P_startArc 11 (some .int) ∈ wG := wG_of (List.mem_append_right _ (List.mem_append_right _ (List.mem_append_left _ (List.mem_of_getElem? (i := 186) (by rfl))))) rfl
theorem kn_P_startArc : Cond.instanceMethod y_P_startArc ∈ wG := wG_of (List.mem_append_right _ (List.mem_append_right _ (List.mem_append_left _ (List.mem_of_getElem? (i := 185) (by rfl))))) rfl
theorem kv_P_startArc : Cond.selects "PulsePlotter" y_P_startArc y_P_startArc ∈ wG := wG_of (List.mem_append_left _ (List.mem_of_getElem? (i := 15) (by rfl))) rfl
abbrev y_P_follow : MethodName := ⟨"PulsePlotter", "follow", "(LPulsePlotter$Way;)V"⟩
abbrev b_P_follow : ByteArray := prog_1_method_24_code
theorem kc_P_follow : Cond.code y_P_follow b_P_follow 2 none ∈ wG := wG_of (List.mem_append_right _ (List.mem_append_right _ (List.mem_append_left _ (List.mem_of_getElem? (i := 210) (by rfl))))) rfl
theorem kn_P_follow : Cond.instanceMethod y_P_follow ∈ wG := wG_of (List.mem_append_right _ (List.mem_append_right _ (List.mem_append_left _ (List.mem_of_getElem? (i := 209) (by rfl))))) rfl
theorem kv_P_follow : Cond.selects "PulsePlotter" y_P_follow y_P_follow ∈ wG := wG_of (List.mem_append_left _ (List.mem_of_getElem? (i := 17) (by rfl))) rfl
abbrev y_P_isOutside : MethodName := ⟨"PulsePlotter", "isOutside", "(I)Z"⟩
abbrev b_P_isOutside : ByteArray := prog_1_method_25_code
theorem kc_P_isOutside : Cond.code y_P_isOutside b_P_isOutside 1 (some .boolean) ∈ wG := wG_of (List.mem_append_right _ (List.mem_append_right _ (List.mem_append_left _ (List.mem_of_getElem? (i := 192) (by rfl))))) rfl
theorem ks_P_isOutside : Cond.static y_P_isOutside ∈ wG := wG_of (List.mem_append_right _ (List.mem_append_right _ (List.mem_append_left _ (List.mem_of_getElem? (i := 191) (by rfl))))) rfl
abbrev y_T_init : MethodName := ⟨"PulsePlotter$Text", "<init>", "()V"⟩
abbrev b_T_init : ByteArray := prog_4_method_1_code
theorem kc_T_init : Cond.code y_T_init b_T_init 1 none ∈ wG := wG_of (List.mem_append_right _ (List.mem_append_left _ (List.mem_of_getElem? (i := 26) (by rfl)))) rfl
theorem kn_T_init : Cond.instanceMethod y_T_init ∈ wG := wG_of (List.mem_append_right _ (List.mem_append_left _ (List.mem_of_getElem? (i := 25) (by rfl)))) rfl
abbrev y_T_size : MethodName := ⟨"PulsePlotter$Text", "size", "()I"⟩
abbrev b_T_size : ByteArray := prog_4_method_2_code
theorem kc_T_size : Cond.code y_T_size b_T_size 1 (some .int) ∈ wG := wG_of (List.mem_append_right _ (List.mem_append_right _ (List.mem_append_left _ (List.mem_of_getElem? (i := 23) (by rfl))))) rfl
theorem kn_T_size : Cond.instanceMethod y_T_size ∈ wG := wG_of (List.mem_append_right _ (List.mem_append_right _ (List.mem_append_left _ (List.mem_of_getElem? (i := 21) (by rfl))))) rfl
theorem kv_T_size : Cond.selects "PulsePlotter$Text" y_T_size y_T_size ∈ wG := wG_of (List.mem_append_right _ (List.mem_append_right _ (List.mem_append_left _ (List.mem_of_getElem? (i := 22) (by rfl))))) rfl
abbrev y_T_empty : MethodName := ⟨"PulsePlotter$Text", "empty", "()V"⟩
abbrev b_T_empty : ByteArray := prog_4_method_3_code
theorem kc_T_empty : Cond.code y_T_empty b_T_empty 1 none ∈ wG := wG_of (List.mem_append_right _ (List.mem_append_left _ (List.mem_of_getElem? (i := 202) (by rfl)))) rfl
theorem kn_T_empty : Cond.instanceMethod y_T_empty ∈ wG := wG_of (List.mem_append_right _ (List.mem_append_left _ (List.mem_of_getElem? (i := 200) (by rfl)))) rfl
theorem kv_T_empty : Cond.selects "PulsePlotter$Text" y_T_empty y_T_empty ∈ wG := wG_of (List.mem_append_right _ (List.mem_append_left _ (List.mem_of_getElem? (i := 201) (by rfl)))) rfl
abbrev y_T_append : MethodName := ⟨"PulsePlotter$Text", "append", "(I)I"⟩
abbrev b_T_append : ByteArray := prog_4_method_4_code
theorem kc_T_append : Cond.code y_T_append b_T_append 4 (some .int) ∈ wG := wG_of (List.mem_append_right _ (List.mem_append_left _ (List.mem_of_getElem? (i := 191) (by rfl)))) rfl
theorem kn_T_append : Cond.instanceMethod y_T_append ∈ wG := wG_of (List.mem_append_right _ (List.mem_append_left _ (List.mem_of_getElem? (i := 189) (by rfl)))) rfl
theorem kv_T_append : Cond.selects "PulsePlotter$Text" y_T_append y_T_append ∈ wG := wG_of (List.mem_append_right _ (List.mem_append_left _ (List.mem_of_getElem? (i := 190) (by rfl)))) rfl
abbrev y_T_codeAt : MethodName := ⟨"PulsePlotter$Text", "codeAt", "(I)C"⟩
abbrev b_T_codeAt : ByteArray := prog_4_method_5_code
theorem kc_T_codeAt : Cond.code y_T_codeAt b_T_codeAt 2 (some .char) ∈ wG := wG_of (List.mem_append_right _ (List.mem_append_right _ (List.mem_append_left _ (List.mem_of_getElem? (i := 31) (by rfl))))) rfl
theorem kn_T_codeAt : Cond.instanceMethod y_T_codeAt ∈ wG := wG_of (List.mem_append_right _ (List.mem_append_right _ (List.mem_append_left _ (List.mem_of_getElem? (i := 29) (by rfl))))) rfl
theorem kv_T_codeAt : Cond.selects "PulsePlotter$Text" y_T_codeAt y_T_codeAt ∈ wG := wG_of (List.mem_append_right _ (List.mem_append_right _ (List.mem_append_left _ (List.mem_of_getElem? (i := 30) (by rfl))))) rfl
abbrev y_T_lineEnd : MethodName := ⟨"PulsePlotter$Text", "lineEnd", "(I)I"⟩
abbrev b_T_lineEnd : ByteArray := prog_4_method_6_code
theorem kc_T_lineEnd : Cond.code y_T_lineEnd b_T_lineEnd 3 (some .int) ∈ wG := wG_of (List.mem_append_right _ (List.mem_append_right _ (List.mem_append_left _ (List.mem_of_getElem? (i := 27) (by rfl))))) rfl
theorem kn_T_lineEnd : Cond.instanceMethod y_T_lineEnd ∈ wG := wG_of (List.mem_append_right _ (List.mem_append_right _ (List.mem_append_left _ (List.mem_of_getElem? (i := 25) (by rfl))))) rfl
theorem kv_T_lineEnd : Cond.selects "PulsePlotter$Text" y_T_lineEnd y_T_lineEnd ∈ wG := wG_of (List.mem_append_right _ (List.mem_append_right _ (List.mem_append_left _ (List.mem_of_getElem? (i := 26) (by rfl))))) rfl
abbrev y_T_packedCode : MethodName := ⟨"PulsePlotter$Text", "packedCode", "(II)I"⟩
abbrev b_T_packedCode : ByteArray := prog_4_method_7_code
theorem kc_T_packedCode : Cond.code y_T_packedCode b_T_packedCode 2 (some .int) ∈ wG := wG_of (List.mem_append_right _ (List.mem_append_left _ (List.mem_of_getElem? (i := 194) (by rfl)))) rfl
theorem ks_T_packedCode : Cond.static y_T_packedCode ∈ wG := wG_of (List.mem_append_right _ (List.mem_append_left _ (List.mem_of_getElem? (i := 193) (by rfl)))) rfl
abbrev y_W_init : MethodName := ⟨"PulsePlotter$Words", "<init>", "()V"⟩
abbrev b_W_init : ByteArray := prog_6_method_1_code
theorem kc_W_init : Cond.code y_W_init b_W_init 1 none ∈ wG := wG_of (List.mem_append_right _ (List.mem_append_left _ (List.mem_of_getElem? (i := 40) (by rfl)))) rfl
theorem kn_W_init : Cond.instanceMethod y_W_init ∈ wG := wG_of (List.mem_append_right _ (List.mem_append_left _ (List.mem_of_getElem? (i := 39) (by rfl)))) rfl
abbrev y_W_has : MethodName := ⟨"PulsePlotter$Words", "has", "(I)Z"⟩
abbrev b_W_has : ByteArray := prog_6_method_2_code
theorem kc_W_has : Cond.code y_W_has b_W_has 2 (some .boolean) ∈ wG := wG_of (List.mem_append_right _ (List.mem_append_right _ (List.mem_append_left _ (List.mem_of_getElem? (i := 161) (by rfl))))) rfl
theorem kn_W_has : Cond.instanceMethod y_W_has ∈ wG := wG_of (List.mem_append_right _ (List.mem_append_right _ (List.mem_append_left _ (List.mem_of_getElem? (i := 159) (by rfl))))) rfl
theorem kv_W_has : Cond.selects "PulsePlotter$Words" y_W_has y_W_has ∈ wG := wG_of (List.mem_append_right _ (List.mem_append_right _ (List.mem_append_left _ (List.mem_of_getElem? (i := 160) (by rfl))))) rfl
abbrev y_W_number : MethodName := ⟨"PulsePlotter$Words", "number", "(I)I"⟩
abbrev b_W_number : ByteArray := prog_6_method_3_code
theorem kc_W_number : Cond.code y_W_number b_W_number 2 (some .int) ∈ wG := wG_of (List.mem_append_right _ (List.mem_append_right _ (List.mem_append_left _ (List.mem_of_getElem? (i := 165) (by rfl))))) rfl
theorem kn_W_number : Cond.instanceMethod y_W_number ∈ wG := wG_of (List.mem_append_right _ (List.mem_append_right _ (List.mem_append_left _ (List.mem_of_getElem? (i := 163) (by rfl))))) rfl
theorem kv_W_number : Cond.selects "PulsePlotter$Words" y_W_number y_W_number ∈ wG := wG_of (List.mem_append_right _ (List.mem_append_right _ (List.mem_append_left _ (List.mem_of_getElem? (i := 164) (by rfl))))) rfl
abbrev y_W_motion : MethodName := ⟨"PulsePlotter$Words", "motion", "()I"⟩
abbrev b_W_motion : ByteArray := prog_6_method_4_code
theorem kc_W_motion : Cond.code y_W_motion b_W_motion 1 (some .int) ∈ wG := wG_of (List.mem_append_right _ (List.mem_append_right _ (List.mem_append_left _ (List.mem_of_getElem? (i := 174) (by rfl))))) rfl
theorem kn_W_motion : Cond.instanceMethod y_W_motion ∈ wG := wG_of (List.mem_append_right _ (List.mem_append_right _ (List.mem_append_left _ (List.mem_of_getElem? (i := 172) (by rfl))))) rfl
theorem kv_W_motion : Cond.selects "PulsePlotter$Words" y_W_motion y_W_motion ∈ wG := wG_of (List.mem_append_right _ (List.mem_append_right _ (List.mem_append_left _ (List.mem_of_getElem? (i := 173) (by rfl))))) rfl
abbrev y_W_distances : MethodName := ⟨"PulsePlotter$Words", "distances", "()I"⟩
abbrev b_W_distances : ByteArray := prog_6_method_5_code
theorem kc_W_distances : Cond.code y_W_distances b_W_distances 1 (some .int) ∈ wG := wG_of (List.mem_append_right _ (List.mem_append_right _ (List.mem_append_left _ (List.mem_of_getElem? (i := 170) (by rfl))))) rfl
theorem kn_W_distances : Cond.instanceMethod y_W_distances ∈ wG := wG_of (List.mem_append_right _ (List.mem_append_right _ (List.mem_append_left _ (List.mem_of_getElem? (i := 168) (by rfl))))) rfl
theorem kv_W_distances : Cond.selects "PulsePlotter$Words" y_W_distances y_W_distances ∈ wG := wG_of (List.mem_append_right _ (List.mem_append_right _ (List.mem_append_left _ (List.mem_of_getElem? (i := 169) (by rfl))))) rfl
abbrev y_W_read : MethodName := ⟨"PulsePlotter$Words", "read", "(LPulsePlotter$Text;II)I"⟩
abbrev b_W_read : ByteArray := prog_6_method_6_code
theorem kc_W_read : Cond.code y_W_read b_W_read 6 (some .int) ∈ wG := wG_of (List.mem_append_right _ (List.mem_append_right _ (List.mem_append_left _ (List.mem_of_getElem? (i := 35) (by rfl))))) rfl
theorem kn_W_read : Cond.instanceMethod y_W_read ∈ wG := wG_of (List.mem_append_right _ (List.mem_append_right _ (List.mem_append_left _ (List.mem_of_getElem? (i := 33) (by rfl))))) rfl
theorem kv_W_read : Cond.selects "PulsePlotter$Words" y_W_read y_W_read ∈ wG := wG_of (List.mem_append_right _ (List.mem_append_right _ (List.mem_append_left _ (List.mem_of_getElem? (i := 34) (by rfl))))) rfl
abbrev y_W_forget : MethodName := ⟨"PulsePlotter$Words", "forget", "()V"⟩
abbrev b_W_forget : ByteArray := prog_6_method_7_code
theorem kc_W_forget : Cond.code y_W_forget b_W_forget 2 none ∈ wG := wG_of (List.mem_append_right _ (List.mem_append_right _ (List.mem_append_left _ (List.mem_of_getElem? (i := 39) (by rfl))))) rfl
theorem kn_W_forget : Cond.instanceMethod y_W_forget ∈ wG := wG_of (List.mem_append_right _ (List.mem_append_right _ (List.mem_append_left _ (List.mem_of_getElem? (i := 38) (by rfl))))) rfl
theorem kv_W_forget : Cond.selects "PulsePlotter$Words" y_W_forget y_W_forget ∈ wG := wG_of (List.mem_append_left _ (List.mem_of_getElem? (i := 6) (by rfl))) rfl
abbrev y_W_takeRow : MethodName := ⟨"PulsePlotter$Words", "takeRow", "(LPulsePlotter$Text;II)V"⟩
abbrev b_W_takeRow : ByteArray := prog_6_method_8_code
theorem kc_W_takeRow : Cond.code y_W_takeRow b_W_takeRow 5 none ∈ wG := wG_of (List.mem_append_right _ (List.mem_append_right _ (List.mem_append_left _ (List.mem_of_getElem? (i := 43) (by rfl))))) rfl
theorem kn_W_takeRow : Cond.instanceMethod y_W_takeRow ∈ wG := wG_of (List.mem_append_right _ (List.mem_append_right _ (List.mem_append_left _ (List.mem_of_getElem? (i := 42) (by rfl))))) rfl
theorem kv_W_takeRow : Cond.selects "PulsePlotter$Words" y_W_takeRow y_W_takeRow ∈ wG := wG_of (List.mem_append_left _ (List.mem_of_getElem? (i := 7) (by rfl))) rfl
abbrev y_W_readWord : MethodName := ⟨"PulsePlotter$Words", "readWord", "()I"⟩
abbrev b_W_readWord : ByteArray := prog_6_method_9_code
theorem kc_W_readWord : Cond.code y_W_readWord b_W_readWord 6 (some .int) ∈ wG := wG_of (List.mem_append_right _ (List.mem_append_right _ (List.mem_append_left _ (List.mem_of_getElem? (i := 48) (by rfl))))) rfl
theorem kn_W_readWord : Cond.instanceMethod y_W_readWord ∈ wG := wG_of (List.mem_append_right _ (List.mem_append_right _ (List.mem_append_left _ (List.mem_of_getElem? (i := 47) (by rfl))))) rfl
theorem kv_W_readWord : Cond.selects "PulsePlotter$Words" y_W_readWord y_W_readWord ∈ wG := wG_of (List.mem_append_left _ (List.mem_of_getElem? (i := 8) (by rfl))) rfl
abbrev y_W_peek : MethodName := ⟨"PulsePlotter$Words", "peek", "()C"⟩
abbrev b_W_peek : ByteArray := prog_6_method_10_code
theorem kc_W_peek : Cond.code y_W_peek b_W_peek 1 (some .char) ∈ wG := wG_of (List.mem_append_right _ (List.mem_append_right _ (List.mem_append_left _ (List.mem_of_getElem? (i := 53) (by rfl))))) rfl
theorem kn_W_peek : Cond.instanceMethod y_W_peek ∈ wG := wG_of (List.mem_append_right _ (List.mem_append_right _ (List.mem_append_left _ (List.mem_of_getElem? (i := 52) (by rfl))))) rfl
theorem kv_W_peek : Cond.selects "PulsePlotter$Words" y_W_peek y_W_peek ∈ wG := wG_of (List.mem_append_left _ (List.mem_of_getElem? (i := 9) (by rfl))) rfl
abbrev y_W_isSigned : MethodName := ⟨"PulsePlotter$Words", "isSigned", "(I)Z"⟩
abbrev b_W_isSigned : ByteArray := prog_6_method_11_code
theorem kc_W_isSigned : Cond.code y_W_isSigned b_W_isSigned 1 (some .boolean) ∈ wG := wG_of (List.mem_append_right _ (List.mem_append_right _ (List.mem_append_left _ (List.mem_of_getElem? (i := 140) (by rfl))))) rfl
theorem ks_W_isSigned : Cond.static y_W_isSigned ∈ wG := wG_of (List.mem_append_right _ (List.mem_append_right _ (List.mem_append_left _ (List.mem_of_getElem? (i := 139) (by rfl))))) rfl
abbrev y_W_isDigit : MethodName := ⟨"PulsePlotter$Words", "isDigit", "(C)Z"⟩
abbrev b_W_isDigit : ByteArray := prog_6_method_12_code
theorem kc_W_isDigit : Cond.code y_W_isDigit b_W_isDigit 1 (some .boolean) ∈ wG := wG_of (List.mem_append_right _ (List.mem_append_right _ (List.mem_append_left _ (List.mem_of_getElem? (i := 143) (by rfl))))) rfl
theorem ks_W_isDigit : Cond.static y_W_isDigit ∈ wG := wG_of (List.mem_append_right _ (List.mem_append_right _ (List.mem_append_left _ (List.mem_of_getElem? (i := 142) (by rfl))))) rfl
abbrev y_W_keepG : MethodName := ⟨"PulsePlotter$Words", "keepG", "(I)I"⟩
abbrev b_W_keepG : ByteArray := prog_6_method_13_code
theorem kc_W_keepG : Cond.code y_W_keepG b_W_keepG 2 (some .int) ∈ wG := wG_of (List.mem_append_right _ (List.mem_append_right _ (List.mem_append_left _ (List.mem_of_getElem? (i := 149) (by rfl))))) rfl
theorem kn_W_keepG : Cond.instanceMethod y_W_keepG ∈ wG := wG_of (List.mem_append_right _ (List.mem_append_right _ (List.mem_append_left _ (List.mem_of_getElem? (i := 148) (by rfl))))) rfl
theorem kv_W_keepG : Cond.selects "PulsePlotter$Words" y_W_keepG y_W_keepG ∈ wG := wG_of (List.mem_append_left _ (List.mem_of_getElem? (i := 10) (by rfl))) rfl
abbrev y_W_keep : MethodName := ⟨"PulsePlotter$Words", "keep", "(II)I"⟩
abbrev b_W_keep : ByteArray := prog_6_method_14_code
theorem kc_W_keep : Cond.code y_W_keep b_W_keep 3 (some .int) ∈ wG := wG_of (List.mem_append_right _ (List.mem_append_right _ (List.mem_append_left _ (List.mem_of_getElem? (i := 153) (by rfl))))) rfl
theorem kn_W_keep : Cond.instanceMethod y_W_keep ∈ wG := wG_of (List.mem_append_right _ (List.mem_append_right _ (List.mem_append_left _ (List.mem_of_getElem? (i := 152) (by rfl))))) rfl
theorem kv_W_keep : Cond.selects "PulsePlotter$Words" y_W_keep y_W_keep ∈ wG := wG_of (List.mem_append_left _ (List.mem_of_getElem? (i := 11) (by rfl))) rfl
abbrev y_S_init : MethodName := ⟨"PulsePlotter$Straight", "<init>", "()V"⟩
abbrev b_S_init : ByteArray := prog_3_method_1_code
theorem kc_S_init : Cond.code y_S_init b_S_init 1 none ∈ wG := wG_of (List.mem_append_right _ (List.mem_append_left _ (List.mem_of_getElem? (i := 70) (by rfl)))) rfl
theorem kn_S_init : Cond.instanceMethod y_S_init ∈ wG := wG_of (List.mem_append_right _ (List.mem_append_left _ (List.mem_of_getElem? (i := 69) (by rfl)))) rfl
abbrev y_S_lay : MethodName := ⟨"PulsePlotter$Straight", "lay", "(IIII)V"⟩
abbrev b_S_lay : ByteArray := prog_3_method_2_code
theorem kc_S_lay : Cond.code y_S_lay b_S_lay 5 none ∈ wG := wG_of (List.mem_append_right _ (List.mem_append_right _ (List.mem_append_left _ (List.mem_of_getElem? (i := 227) (by rfl))))) rfl
theorem kn_S_lay : Cond.instanceMethod y_S_lay ∈ wG := wG_of (List.mem_append_right _ (List.mem_append_right _ (List.mem_append_left _ (List.mem_of_getElem? (i := 225) (by rfl))))) rfl
theorem kv_S_lay : Cond.selects "PulsePlotter$Straight" y_S_lay y_S_lay ∈ wG := wG_of (List.mem_append_right _ (List.mem_append_right _ (List.mem_append_left _ (List.mem_of_getElem? (i := 226) (by rfl))))) rfl
abbrev y_S_size : MethodName := ⟨"PulsePlotter$Straight", "size", "()I"⟩
abbrev b_S_size : ByteArray := prog_3_method_3_code
theorem kc_S_size : Cond.code y_S_size b_S_size 1 (some .int) ∈ wG := wG_of (List.mem_append_right _ (List.mem_append_right _ (List.mem_append_left _ (List.mem_of_getElem? (i := 219) (by rfl))))) rfl
theorem kn_S_size : Cond.instanceMethod y_S_size ∈ wG := wG_of (List.mem_append_right _ (List.mem_append_right _ (List.mem_append_left _ (List.mem_of_getElem? (i := 218) (by rfl))))) rfl
abbrev y_S_xAfter : MethodName := ⟨"PulsePlotter$Straight", "xAfter", "(I)I"⟩
abbrev b_S_xAfter : ByteArray := prog_3_method_4_code
theorem kc_S_xAfter : Cond.code y_S_xAfter b_S_xAfter 2 (some .int) ∈ wG := wG_of (List.mem_append_right _ (List.mem_append_left _ (List.mem_of_getElem? (i := 234) (by rfl)))) rfl
theorem kn_S_xAfter : Cond.instanceMethod y_S_xAfter ∈ wG := wG_of (List.mem_append_right _ (List.mem_append_left _ (List.mem_of_getElem? (i := 233) (by rfl)))) rfl
abbrev y_S_yAfter : MethodName := ⟨"PulsePlotter$Straight", "yAfter", "(I)I"⟩
abbrev b_S_yAfter : ByteArray := prog_3_method_5_code
theorem kc_S_yAfter : Cond.code y_S_yAfter b_S_yAfter 2 (some .int) ∈ wG := wG_of (List.mem_append_right _ (List.mem_append_right _ (List.mem_append_left _ (List.mem_of_getElem? (i := 10) (by rfl))))) rfl
theorem kn_S_yAfter : Cond.instanceMethod y_S_yAfter ∈ wG := wG_of (List.mem_append_right _ (List.mem_append_right _ (List.mem_append_left _ (List.mem_of_getElem? (i := 9) (by rfl))))) rfl
abbrev y_S_part : MethodName := ⟨"PulsePlotter$Straight", "part", "(II)I"⟩
abbrev b_S_part : ByteArray := prog_3_method_6_code
theorem kc_S_part : Cond.code y_S_part b_S_part 3 (some .int) ∈ wG := wG_of (List.mem_append_right _ (List.mem_append_left _ (List.mem_of_getElem? (i := 238) (by rfl)))) rfl
theorem kn_S_part : Cond.instanceMethod y_S_part ∈ wG := wG_of (List.mem_append_right _ (List.mem_append_left _ (List.mem_of_getElem? (i := 237) (by rfl)))) rfl
theorem kv_S_part : Cond.selects "PulsePlotter$Straight" y_S_part y_S_part ∈ wG := wG_of (List.mem_append_left _ (List.mem_of_getElem? (i := 3) (by rfl))) rfl
abbrev y_A_init : MethodName := ⟨"PulsePlotter$Arc", "<init>", "()V"⟩
abbrev b_A_init : ByteArray := prog_2_method_1_code
theorem kc_A_init : Cond.code y_A_init b_A_init 1 none ∈ wG := wG_of (List.mem_append_right _ (List.mem_append_left _ (List.mem_of_getElem? (i := 95) (by rfl)))) rfl
theorem kn_A_init : Cond.instanceMethod y_A_init ∈ wG := wG_of (List.mem_append_right _ (List.mem_append_left _ (List.mem_of_getElem? (i := 94) (by rfl)))) rfl
abbrev y_A_radius : MethodName := ⟨"PulsePlotter$Arc", "radius", "(I)I"⟩
abbrev b_A_radius : ByteArray := prog_2_method_2_code
theorem kc_A_radius : Cond.code y_A_radius b_A_radius 2 (some .int) ∈ wG := wG_of (List.mem_append_right _ (List.mem_append_right _ (List.mem_append_left _ (List.mem_of_getElem? (i := 189) (by rfl))))) rfl
theorem ks_A_radius : Cond.static y_A_radius ∈ wG := wG_of (List.mem_append_right _ (List.mem_append_right _ (List.mem_append_left _ (List.mem_of_getElem? (i := 188) (by rfl))))) rfl
abbrev y_A_lay : MethodName := ⟨"PulsePlotter$Arc", "lay", "(III)V"⟩
abbrev b_A_lay : ByteArray := prog_2_method_3_code
theorem kc_A_lay : Cond.code y_A_lay b_A_lay 6 none ∈ wG := wG_of (List.mem_append_right _ (List.mem_append_right _ (List.mem_append_left _ (List.mem_of_getElem? (i := 196) (by rfl))))) rfl
theorem kn_A_lay : Cond.instanceMethod y_A_lay ∈ wG := wG_of (List.mem_append_right _ (List.mem_append_right _ (List.mem_append_left _ (List.mem_of_getElem? (i := 194) (by rfl))))) rfl
theorem kv_A_lay : Cond.selects "PulsePlotter$Arc" y_A_lay y_A_lay ∈ wG := wG_of (List.mem_append_right _ (List.mem_append_right _ (List.mem_append_left _ (List.mem_of_getElem? (i := 195) (by rfl))))) rfl
abbrev y_A_join : MethodName := ⟨"PulsePlotter$Arc", "join", "(IIIIZ)V"⟩
abbrev b_A_join : ByteArray := prog_2_method_4_code
theorem kc_A_join : Cond.code y_A_join b_A_join 8 none ∈ wG := wG_of (List.mem_append_right _ (List.mem_append_right _ (List.mem_append_left _ (List.mem_of_getElem? (i := 202) (by rfl))))) rfl
theorem kn_A_join : Cond.instanceMethod y_A_join ∈ wG := wG_of (List.mem_append_right _ (List.mem_append_right _ (List.mem_append_left _ (List.mem_of_getElem? (i := 200) (by rfl))))) rfl
theorem kv_A_join : Cond.selects "PulsePlotter$Arc" y_A_join y_A_join ∈ wG := wG_of (List.mem_append_right _ (List.mem_append_right _ (List.mem_append_left _ (List.mem_of_getElem? (i := 201) (by rfl))))) rfl
abbrev y_A_size : MethodName := ⟨"PulsePlotter$Arc", "size", "()I"⟩
abbrev b_A_size : ByteArray := prog_2_method_5_code
theorem kc_A_size : Cond.code y_A_size b_A_size 1 (some .int) ∈ wG := wG_of (List.mem_append_right _ (List.mem_append_right _ (List.mem_append_left _ (List.mem_of_getElem? (i := 216) (by rfl))))) rfl
theorem kn_A_size : Cond.instanceMethod y_A_size ∈ wG := wG_of (List.mem_append_right _ (List.mem_append_right _ (List.mem_append_left _ (List.mem_of_getElem? (i := 215) (by rfl))))) rfl
abbrev y_A_xAfter : MethodName := ⟨"PulsePlotter$Arc", "xAfter", "(I)I"⟩
abbrev b_A_xAfter : ByteArray := prog_2_method_6_code
theorem kc_A_xAfter : Cond.code y_A_xAfter b_A_xAfter 2 (some .int) ∈ wG := wG_of (List.mem_append_right _ (List.mem_append_left _ (List.mem_of_getElem? (i := 220) (by rfl)))) rfl
theorem kn_A_xAfter : Cond.instanceMethod y_A_xAfter ∈ wG := wG_of (List.mem_append_right _ (List.mem_append_left _ (List.mem_of_getElem? (i := 219) (by rfl)))) rfl
abbrev y_A_yAfter : MethodName := ⟨"PulsePlotter$Arc", "yAfter", "(I)I"⟩
abbrev b_A_yAfter : ByteArray := prog_2_method_7_code
theorem kc_A_yAfter : Cond.code y_A_yAfter b_A_yAfter 2 (some .int) ∈ wG := wG_of (List.mem_append_right _ (List.mem_append_right _ (List.mem_append_left _ (List.mem_of_getElem? (i := 7) (by rfl))))) rfl
theorem kn_A_yAfter : Cond.instanceMethod y_A_yAfter ∈ wG := wG_of (List.mem_append_right _ (List.mem_append_right _ (List.mem_append_left _ (List.mem_of_getElem? (i := 6) (by rfl))))) rfl
abbrev y_A_xOf : MethodName := ⟨"PulsePlotter$Arc", "xOf", "(I)I"⟩
abbrev b_A_xOf : ByteArray := prog_2_method_8_code
theorem kc_A_xOf : Cond.code y_A_xOf b_A_xOf 4 (some .int) ∈ wG := wG_of (List.mem_append_right _ (List.mem_append_left _ (List.mem_of_getElem? (i := 224) (by rfl)))) rfl
theorem kn_A_xOf : Cond.instanceMethod y_A_xOf ∈ wG := wG_of (List.mem_append_right _ (List.mem_append_left _ (List.mem_of_getElem? (i := 223) (by rfl)))) rfl
theorem kv_A_xOf : Cond.selects "PulsePlotter$Arc" y_A_xOf y_A_xOf ∈ wG := wG_of (List.mem_append_left _ (List.mem_of_getElem? (i := 1) (by rfl))) rfl
abbrev y_A_numberOf : MethodName := ⟨"PulsePlotter$Arc", "numberOf", "(II)I"⟩
abbrev b_A_numberOf : ByteArray := prog_2_method_9_code
theorem kc_A_numberOf : Cond.code y_A_numberOf b_A_numberOf 8 (some .int) ∈ wG := wG_of (List.mem_append_right _ (List.mem_append_right _ (List.mem_append_left _ (List.mem_of_getElem? (i := 206) (by rfl))))) rfl
theorem kn_A_numberOf : Cond.instanceMethod y_A_numberOf ∈ wG := wG_of (List.mem_append_right _ (List.mem_append_right _ (List.mem_append_left _ (List.mem_of_getElem? (i := 205) (by rfl))))) rfl
theorem kv_A_numberOf : Cond.selects "PulsePlotter$Arc" y_A_numberOf y_A_numberOf ∈ wG := wG_of (List.mem_append_left _ (List.mem_of_getElem? (i := 16) (by rfl))) rfl
abbrev y_A_reachAt : MethodName := ⟨"PulsePlotter$Arc", "reachAt", "(I)I"⟩
abbrev b_A_reachAt : ByteArray := prog_2_method_10_code
theorem kc_A_reachAt : Cond.code y_A_reachAt b_A_reachAt 3 (some .int) ∈ wG := wG_of (List.mem_append_right _ (List.mem_append_left _ (List.mem_of_getElem? (i := 231) (by rfl)))) rfl
theorem kn_A_reachAt : Cond.instanceMethod y_A_reachAt ∈ wG := wG_of (List.mem_append_right _ (List.mem_append_left _ (List.mem_of_getElem? (i := 230) (by rfl)))) rfl
theorem kv_A_reachAt : Cond.selects "PulsePlotter$Arc" y_A_reachAt y_A_reachAt ∈ wG := wG_of (List.mem_append_left _ (List.mem_of_getElem? (i := 2) (by rfl))) rfl
abbrev y_M_init : MethodName := ⟨"PulsePlotterModel", "<init>", "()V"⟩
abbrev b_M_init : ByteArray := prog_8_method_1_code
theorem kc_M_init : Cond.code y_M_init b_M_init 1 none ∈ wG := wG_of (List.mem_append_right _ (List.mem_append_right _ (List.mem_append_right _ (List.mem_append_left _ (List.mem_of_getElem? (i := 37) (by rfl)))))) rfl
theorem kn_M_init : Cond.instanceMethod y_M_init ∈ wG := wG_of (List.mem_append_right _ (List.mem_append_right _ (List.mem_append_right _ (List.mem_append_left _ (List.mem_of_getElem? (i := 36) (by rfl)))))) rfl
abbrev y_M_feed : MethodName := ⟨"PulsePlotterModel", "feed", "(I)I"⟩
abbrev b_M_feed : ByteArray := prog_8_method_2_code
theorem kc_M_feed : Cond.code y_M_feed b_M_feed 4 (some .int) ∈ wG := wG_of (List.mem_append_right _ (List.mem_append_right _ (List.mem_append_right _ (List.mem_append_left _ (List.mem_of_getElem? (i := 149) (by rfl)))))) rfl
theorem kn_M_feed : Cond.instanceMethod y_M_feed ∈ wG := wG_of (List.mem_append_right _ (List.mem_append_right _ (List.mem_append_right _ (List.mem_append_left _ (List.mem_of_getElem? (i := 147) (by rfl)))))) rfl
theorem kv_M_feed : Cond.selects "PulsePlotterModel" y_M_feed y_M_feed ∈ wG := wG_of (List.mem_append_right _ (List.mem_append_right _ (List.mem_append_right _ (List.mem_append_left _ (List.mem_of_getElem? (i := 148) (by rfl)))))) rfl
abbrev y_M_clear : MethodName := ⟨"PulsePlotterModel", "clear", "()V"⟩
abbrev b_M_clear : ByteArray := prog_8_method_3_code
theorem kc_M_clear : Cond.code y_M_clear b_M_clear 1 none ∈ wG := wG_of (List.mem_append_right _ (List.mem_append_right _ (List.mem_append_right _ (List.mem_append_left _ (List.mem_of_getElem? (i := 153) (by rfl)))))) rfl
theorem kn_M_clear : Cond.instanceMethod y_M_clear ∈ wG := wG_of (List.mem_append_right _ (List.mem_append_right _ (List.mem_append_right _ (List.mem_append_left _ (List.mem_of_getElem? (i := 151) (by rfl)))))) rfl
theorem kv_M_clear : Cond.selects "PulsePlotterModel" y_M_clear y_M_clear ∈ wG := wG_of (List.mem_append_right _ (List.mem_append_right _ (List.mem_append_right _ (List.mem_append_left _ (List.mem_of_getElem? (i := 152) (by rfl)))))) rfl
abbrev y_M_begin : MethodName := ⟨"PulsePlotterModel", "begin", "()V"⟩
abbrev b_M_begin : ByteArray := prog_8_method_4_code
theorem kc_M_begin : Cond.code y_M_begin b_M_begin 1 none ∈ wG := wG_of (List.mem_append_right _ (List.mem_append_right _ (List.mem_append_right _ (List.mem_append_left _ (List.mem_of_getElem? (i := 42) (by rfl)))))) rfl
theorem kn_M_begin : Cond.instanceMethod y_M_begin ∈ wG := wG_of (List.mem_append_right _ (List.mem_append_right _ (List.mem_append_right _ (List.mem_append_left _ (List.mem_of_getElem? (i := 40) (by rfl)))))) rfl
theorem kv_M_begin : Cond.selects "PulsePlotterModel" y_M_begin y_M_begin ∈ wG := wG_of (List.mem_append_right _ (List.mem_append_right _ (List.mem_append_right _ (List.mem_append_left _ (List.mem_of_getElem? (i := 41) (by rfl)))))) rfl
abbrev y_M_skip : MethodName := ⟨"PulsePlotterModel", "skip", "(II)I"⟩
abbrev b_M_skip : ByteArray := prog_8_method_5_code
theorem kc_M_skip : Cond.code y_M_skip b_M_skip 4 (some .int) ∈ wG := wG_of (List.mem_append_right _ (List.mem_append_right _ (List.mem_append_right _ (List.mem_append_left _ (List.mem_of_getElem? (i := 171) (by rfl)))))) rfl
theorem kn_M_skip : Cond.instanceMethod y_M_skip ∈ wG := wG_of (List.mem_append_right _ (List.mem_append_right _ (List.mem_append_right _ (List.mem_append_left _ (List.mem_of_getElem? (i := 170) (by rfl)))))) rfl
theorem kv_M_skip : Cond.selects "PulsePlotterModel" y_M_skip y_M_skip ∈ wG := wG_of (List.mem_append_left _ (List.mem_of_getElem? (i := 21) (by rfl))) rfl
abbrev y_M_digit : MethodName := ⟨"PulsePlotterModel", "digit", "(I)Z"⟩
abbrev b_M_digit : ByteArray := prog_8_method_6_code
theorem kc_M_digit : Cond.code y_M_digit b_M_digit 1 (some .boolean) ∈ wG := wG_of (List.mem_append_right _ (List.mem_append_right _ (List.mem_append_right _ (List.mem_append_left _ (List.mem_of_getElem? (i := 177) (by rfl)))))) rfl
theorem ks_M_digit : Cond.static y_M_digit ∈ wG := wG_of (List.mem_append_right _ (List.mem_append_right _ (List.mem_append_right _ (List.mem_append_left _ (List.mem_of_getElem? (i := 176) (by rfl)))))) rfl
abbrev y_M_letter : MethodName := ⟨"PulsePlotterModel", "letter", "(I)I"⟩
abbrev b_M_letter : ByteArray := prog_8_method_7_code
theorem kc_M_letter : Cond.code y_M_letter b_M_letter 1 (some .int) ∈ wG := wG_of (List.mem_append_right _ (List.mem_append_right _ (List.mem_append_right _ (List.mem_append_left _ (List.mem_of_getElem? (i := 174) (by rfl)))))) rfl
theorem ks_M_letter : Cond.static y_M_letter ∈ wG := wG_of (List.mem_append_right _ (List.mem_append_right _ (List.mem_append_right _ (List.mem_append_left _ (List.mem_of_getElem? (i := 173) (by rfl)))))) rfl
abbrev y_M_read : MethodName := ⟨"PulsePlotterModel", "read", "(II)I"⟩
abbrev b_M_read : ByteArray := prog_8_method_8_code
theorem kc_M_read : Cond.code y_M_read b_M_read 12 (some .int) ∈ wG := wG_of (List.mem_append_right _ (List.mem_append_right _ (List.mem_append_right _ (List.mem_append_left _ (List.mem_of_getElem? (i := 167) (by rfl)))))) rfl
theorem kn_M_read : Cond.instanceMethod y_M_read ∈ wG := wG_of (List.mem_append_right _ (List.mem_append_right _ (List.mem_append_right _ (List.mem_append_left _ (List.mem_of_getElem? (i := 166) (by rfl)))))) rfl
theorem kv_M_read : Cond.selects "PulsePlotterModel" y_M_read y_M_read ∈ wG := wG_of (List.mem_append_left _ (List.mem_of_getElem? (i := 20) (by rfl))) rfl
abbrev y_M_keep : MethodName := ⟨"PulsePlotterModel", "keep", "(II)I"⟩
abbrev b_M_keep : ByteArray := prog_8_method_9_code
theorem kc_M_keep : Cond.code y_M_keep b_M_keep 3 (some .int) ∈ wG := wG_of (List.mem_append_right _ (List.mem_append_right _ (List.mem_append_right _ (List.mem_append_left _ (List.mem_of_getElem? (i := 181) (by rfl)))))) rfl
theorem kn_M_keep : Cond.instanceMethod y_M_keep ∈ wG := wG_of (List.mem_append_right _ (List.mem_append_right _ (List.mem_append_right _ (List.mem_append_left _ (List.mem_of_getElem? (i := 180) (by rfl)))))) rfl
theorem kv_M_keep : Cond.selects "PulsePlotterModel" y_M_keep y_M_keep ∈ wG := wG_of (List.mem_append_left _ (List.mem_of_getElem? (i := 22) (by rfl))) rfl
abbrev y_M_goal : MethodName := ⟨"PulsePlotterModel", "goal", "(II)I"⟩
abbrev b_M_goal : ByteArray := prog_8_method_10_code
theorem kc_M_goal : Cond.code y_M_goal b_M_goal 3 (some .int) ∈ wG := wG_of (List.mem_append_right _ (List.mem_append_right _ (List.mem_append_right _ (List.mem_append_left _ (List.mem_of_getElem? (i := 189) (by rfl)))))) rfl
theorem kn_M_goal : Cond.instanceMethod y_M_goal ∈ wG := wG_of (List.mem_append_right _ (List.mem_append_right _ (List.mem_append_right _ (List.mem_append_left _ (List.mem_of_getElem? (i := 188) (by rfl)))))) rfl
theorem kv_M_goal : Cond.selects "PulsePlotterModel" y_M_goal y_M_goal ∈ wG := wG_of (List.mem_append_left _ (List.mem_of_getElem? (i := 24) (by rfl))) rfl
abbrev y_M_inLimits : MethodName := ⟨"PulsePlotterModel", "inLimits", "(I)Z"⟩
abbrev b_M_inLimits : ByteArray := prog_8_method_11_code
theorem kc_M_inLimits : Cond.code y_M_inLimits b_M_inLimits 1 (some .boolean) ∈ wG := wG_of (List.mem_append_right _ (List.mem_append_right _ (List.mem_append_right _ (List.mem_append_left _ (List.mem_of_getElem? (i := 193) (by rfl)))))) rfl
theorem ks_M_inLimits : Cond.static y_M_inLimits ∈ wG := wG_of (List.mem_append_right _ (List.mem_append_right _ (List.mem_append_right _ (List.mem_append_left _ (List.mem_of_getElem? (i := 192) (by rfl)))))) rfl
abbrev y_M_act : MethodName := ⟨"PulsePlotterModel", "act", "()I"⟩
abbrev b_M_act : ByteArray := prog_8_method_12_code
theorem kc_M_act : Cond.code y_M_act b_M_act 6 (some .int) ∈ wG := wG_of (List.mem_append_right _ (List.mem_append_right _ (List.mem_append_right _ (List.mem_append_left _ (List.mem_of_getElem? (i := 185) (by rfl)))))) rfl
theorem kn_M_act : Cond.instanceMethod y_M_act ∈ wG := wG_of (List.mem_append_right _ (List.mem_append_right _ (List.mem_append_right _ (List.mem_append_left _ (List.mem_of_getElem? (i := 184) (by rfl)))))) rfl
theorem kv_M_act : Cond.selects "PulsePlotterModel" y_M_act y_M_act ∈ wG := wG_of (List.mem_append_left _ (List.mem_of_getElem? (i := 23) (by rfl))) rfl
abbrev y_M_arc : MethodName := ⟨"PulsePlotterModel", "arc", "(IIII)I"⟩
abbrev b_M_arc : ByteArray := prog_8_method_13_code
theorem kc_M_arc : Cond.code y_M_arc b_M_arc 10 (some .int) ∈ wG := wG_of (List.mem_append_right _ (List.mem_append_right _ (List.mem_append_right _ (List.mem_append_left _ (List.mem_of_getElem? (i := 197) (by rfl)))))) rfl
theorem kn_M_arc : Cond.instanceMethod y_M_arc ∈ wG := wG_of (List.mem_append_right _ (List.mem_append_right _ (List.mem_append_right _ (List.mem_append_left _ (List.mem_of_getElem? (i := 196) (by rfl)))))) rfl
theorem kv_M_arc : Cond.selects "PulsePlotterModel" y_M_arc y_M_arc ∈ wG := wG_of (List.mem_append_left _ (List.mem_of_getElem? (i := 25) (by rfl))) rfl
abbrev y_M_over : MethodName := ⟨"PulsePlotterModel", "over", "(II)I"⟩
abbrev b_M_over : ByteArray := prog_8_method_14_code
theorem kc_M_over : Cond.code y_M_over b_M_over 5 (some .int) ∈ wG := wG_of (List.mem_append_right _ (List.mem_append_right _ (List.mem_append_right _ (List.mem_append_left _ (List.mem_of_getElem? (i := 205) (by rfl)))))) rfl
theorem ks_M_over : Cond.static y_M_over ∈ wG := wG_of (List.mem_append_right _ (List.mem_append_right _ (List.mem_append_right _ (List.mem_append_left _ (List.mem_of_getElem? (i := 204) (by rfl)))))) rfl
abbrev y_M_point : MethodName := ⟨"PulsePlotterModel", "point", "(II)V"⟩
abbrev b_M_point : ByteArray := prog_8_method_15_code
theorem kc_M_point : Cond.code y_M_point b_M_point 4 none ∈ wG := wG_of (List.mem_append_right _ (List.mem_append_right _ (List.mem_append_right _ (List.mem_append_left _ (List.mem_of_getElem? (i := 209) (by rfl)))))) rfl
theorem kn_M_point : Cond.instanceMethod y_M_point ∈ wG := wG_of (List.mem_append_right _ (List.mem_append_right _ (List.mem_append_right _ (List.mem_append_left _ (List.mem_of_getElem? (i := 208) (by rfl)))))) rfl
theorem kv_M_point : Cond.selects "PulsePlotterModel" y_M_point y_M_point ∈ wG := wG_of (List.mem_append_left _ (List.mem_of_getElem? (i := 27) (by rfl))) rfl
abbrev y_M_lay : MethodName := ⟨"PulsePlotterModel", "lay", "(I)V"⟩
abbrev b_M_lay : ByteArray := prog_8_method_16_code
theorem kc_M_lay : Cond.code y_M_lay b_M_lay 5 none ∈ wG := wG_of (List.mem_append_right _ (List.mem_append_right _ (List.mem_append_right _ (List.mem_append_left _ (List.mem_of_getElem? (i := 202) (by rfl)))))) rfl
theorem kn_M_lay : Cond.instanceMethod y_M_lay ∈ wG := wG_of (List.mem_append_right _ (List.mem_append_right _ (List.mem_append_right _ (List.mem_append_left _ (List.mem_of_getElem? (i := 201) (by rfl)))))) rfl
theorem kv_M_lay : Cond.selects "PulsePlotterModel" y_M_lay y_M_lay ∈ wG := wG_of (List.mem_append_left _ (List.mem_of_getElem? (i := 26) (by rfl))) rfl
abbrev y_M_half : MethodName := ⟨"PulsePlotterModel", "half", "(IIII)I"⟩
abbrev b_M_half : ByteArray := prog_8_method_17_code
theorem kc_M_half : Cond.code y_M_half b_M_half 6 (some .int) ∈ wG := wG_of (List.mem_append_right _ (List.mem_append_right _ (List.mem_append_right _ (List.mem_append_left _ (List.mem_of_getElem? (i := 217) (by rfl)))))) rfl
theorem kn_M_half : Cond.instanceMethod y_M_half ∈ wG := wG_of (List.mem_append_right _ (List.mem_append_right _ (List.mem_append_right _ (List.mem_append_left _ (List.mem_of_getElem? (i := 216) (by rfl)))))) rfl
theorem kv_M_half : Cond.selects "PulsePlotterModel" y_M_half y_M_half ∈ wG := wG_of (List.mem_append_left _ (List.mem_of_getElem? (i := 29) (by rfl))) rfl
abbrev y_M_before : MethodName := ⟨"PulsePlotterModel", "before", "(IIIIII)Z"⟩
abbrev b_M_before : ByteArray := prog_8_method_18_code
theorem kc_M_before : Cond.code y_M_before b_M_before 9 (some .boolean) ∈ wG := wG_of (List.mem_append_right _ (List.mem_append_right _ (List.mem_append_right _ (List.mem_append_left _ (List.mem_of_getElem? (i := 213) (by rfl)))))) rfl
theorem kn_M_before : Cond.instanceMethod y_M_before ∈ wG := wG_of (List.mem_append_right _ (List.mem_append_right _ (List.mem_append_right _ (List.mem_append_left _ (List.mem_of_getElem? (i := 212) (by rfl)))))) rfl
theorem kv_M_before : Cond.selects "PulsePlotterModel" y_M_before y_M_before ∈ wG := wG_of (List.mem_append_left _ (List.mem_of_getElem? (i := 28) (by rfl))) rfl
abbrev y_M_look : MethodName := ⟨"PulsePlotterModel", "look", "()V"⟩
abbrev b_M_look : ByteArray := prog_8_method_19_code
theorem kc_M_look : Cond.code y_M_look b_M_look 4 none ∈ wG := wG_of (List.mem_append_right _ (List.mem_append_right _ (List.mem_append_right _ (List.mem_append_left _ (List.mem_of_getElem? (i := 163) (by rfl)))))) rfl
theorem kn_M_look : Cond.instanceMethod y_M_look ∈ wG := wG_of (List.mem_append_right _ (List.mem_append_right _ (List.mem_append_right _ (List.mem_append_left _ (List.mem_of_getElem? (i := 162) (by rfl)))))) rfl
theorem kv_M_look : Cond.selects "PulsePlotterModel" y_M_look y_M_look ∈ wG := wG_of (List.mem_append_left _ (List.mem_of_getElem? (i := 19) (by rfl))) rfl
abbrev y_M_quotient : MethodName := ⟨"PulsePlotterModel", "quotient", "(II)I"⟩
abbrev b_M_quotient : ByteArray := prog_8_method_20_code
theorem kc_M_quotient : Cond.code y_M_quotient b_M_quotient 2 (some .int) ∈ wG := wG_of (List.mem_append_right _ (List.mem_append_right _ (List.mem_append_right _ (List.mem_append_left _ (List.mem_of_getElem? (i := 224) (by rfl)))))) rfl
theorem ks_M_quotient : Cond.static y_M_quotient ∈ wG := wG_of (List.mem_append_right _ (List.mem_append_right _ (List.mem_append_right _ (List.mem_append_left _ (List.mem_of_getElem? (i := 223) (by rfl)))))) rfl
abbrev y_M_pulse : MethodName := ⟨"PulsePlotterModel", "pulse", "()V"⟩
abbrev b_M_pulse : ByteArray := prog_8_method_21_code
theorem kc_M_pulse : Cond.code y_M_pulse b_M_pulse 8 none ∈ wG := wG_of (List.mem_append_right _ (List.mem_append_right _ (List.mem_append_right _ (List.mem_append_left _ (List.mem_of_getElem? (i := 221) (by rfl)))))) rfl
theorem kn_M_pulse : Cond.instanceMethod y_M_pulse ∈ wG := wG_of (List.mem_append_right _ (List.mem_append_right _ (List.mem_append_right _ (List.mem_append_left _ (List.mem_of_getElem? (i := 220) (by rfl)))))) rfl
theorem kv_M_pulse : Cond.selects "PulsePlotterModel" y_M_pulse y_M_pulse ∈ wG := wG_of (List.mem_append_left _ (List.mem_of_getElem? (i := 30) (by rfl))) rfl
abbrev y_M_run : MethodName := ⟨"PulsePlotterModel", "run", "(I)I"⟩
abbrev b_M_run : ByteArray := prog_8_method_22_code
theorem kc_M_run : Cond.code y_M_run b_M_run 4 (some .int) ∈ wG := wG_of (List.mem_append_right _ (List.mem_append_right _ (List.mem_append_right _ (List.mem_append_left _ (List.mem_of_getElem? (i := 158) (by rfl)))))) rfl
theorem kn_M_run : Cond.instanceMethod y_M_run ∈ wG := wG_of (List.mem_append_right _ (List.mem_append_right _ (List.mem_append_right _ (List.mem_append_left _ (List.mem_of_getElem? (i := 156) (by rfl)))))) rfl
theorem kv_M_run : Cond.selects "PulsePlotterModel" y_M_run y_M_run ∈ wG := wG_of (List.mem_append_right _ (List.mem_append_right _ (List.mem_append_right _ (List.mem_append_left _ (List.mem_of_getElem? (i := 157) (by rfl)))))) rfl
abbrev y_M_state : MethodName := ⟨"PulsePlotterModel", "state", "()I"⟩
abbrev b_M_state : ByteArray := prog_8_method_23_code
theorem kc_M_state : Cond.code y_M_state b_M_state 1 (some .int) ∈ wG := wG_of (List.mem_append_right _ (List.mem_append_right _ (List.mem_append_right _ (List.mem_append_left _ (List.mem_of_getElem? (i := 228) (by rfl)))))) rfl
theorem kn_M_state : Cond.instanceMethod y_M_state ∈ wG := wG_of (List.mem_append_right _ (List.mem_append_right _ (List.mem_append_right _ (List.mem_append_left _ (List.mem_of_getElem? (i := 226) (by rfl)))))) rfl
theorem kv_M_state : Cond.selects "PulsePlotterModel" y_M_state y_M_state ∈ wG := wG_of (List.mem_append_right _ (List.mem_append_right _ (List.mem_append_right _ (List.mem_append_left _ (List.mem_of_getElem? (i := 227) (by rfl)))))) rfl
abbrev y_M_x : MethodName := ⟨"PulsePlotterModel", "x", "()I"⟩
abbrev b_M_x : ByteArray := prog_8_method_24_code
theorem kc_M_x : Cond.code y_M_x b_M_x 1 (some .int) ∈ wG := wG_of (List.mem_append_right _ (List.mem_append_right _ (List.mem_append_right _ (List.mem_append_left _ (List.mem_of_getElem? (i := 232) (by rfl)))))) rfl
theorem kn_M_x : Cond.instanceMethod y_M_x ∈ wG := wG_of (List.mem_append_right _ (List.mem_append_right _ (List.mem_append_right _ (List.mem_append_left _ (List.mem_of_getElem? (i := 230) (by rfl)))))) rfl
theorem kv_M_x : Cond.selects "PulsePlotterModel" y_M_x y_M_x ∈ wG := wG_of (List.mem_append_right _ (List.mem_append_right _ (List.mem_append_right _ (List.mem_append_left _ (List.mem_of_getElem? (i := 231) (by rfl)))))) rfl
abbrev y_M_y : MethodName := ⟨"PulsePlotterModel", "y", "()I"⟩
abbrev b_M_y : ByteArray := prog_8_method_25_code
theorem kc_M_y : Cond.code y_M_y b_M_y 1 (some .int) ∈ wG := wG_of (List.mem_append_right _ (List.mem_append_right _ (List.mem_append_right _ (List.mem_append_left _ (List.mem_of_getElem? (i := 236) (by rfl)))))) rfl
theorem kn_M_y : Cond.instanceMethod y_M_y ∈ wG := wG_of (List.mem_append_right _ (List.mem_append_right _ (List.mem_append_right _ (List.mem_append_left _ (List.mem_of_getElem? (i := 234) (by rfl)))))) rfl
theorem kv_M_y : Cond.selects "PulsePlotterModel" y_M_y y_M_y ∈ wG := wG_of (List.mem_append_right _ (List.mem_append_right _ (List.mem_append_right _ (List.mem_append_left _ (List.mem_of_getElem? (i := 235) (by rfl)))))) rfl
abbrev y_M_time : MethodName := ⟨"PulsePlotterModel", "time", "()J"⟩
abbrev b_M_time : ByteArray := prog_8_method_26_code
theorem kc_M_time : Cond.code y_M_time b_M_time 1 (some .long) ∈ wG := wG_of (List.mem_append_right _ (List.mem_append_right _ (List.mem_append_right _ (List.mem_append_right _ (List.mem_of_getElem? (i := 0) (by rfl)))))) rfl
theorem kn_M_time : Cond.instanceMethod y_M_time ∈ wG := wG_of (List.mem_append_right _ (List.mem_append_right _ (List.mem_append_right _ (List.mem_append_left _ (List.mem_of_getElem? (i := 238) (by rfl)))))) rfl
theorem kv_M_time : Cond.selects "PulsePlotterModel" y_M_time y_M_time ∈ wG := wG_of (List.mem_append_right _ (List.mem_append_right _ (List.mem_append_right _ (List.mem_append_left _ (List.mem_of_getElem? (i := 239) (by rfl)))))) rfl
abbrev y_M_pulses : MethodName := ⟨"PulsePlotterModel", "pulses", "()I"⟩
abbrev b_M_pulses : ByteArray := prog_8_method_27_code
theorem kc_M_pulses : Cond.code y_M_pulses b_M_pulses 1 (some .int) ∈ wG := wG_of (List.mem_append_right _ (List.mem_append_right _ (List.mem_append_right _ (List.mem_append_right _ (List.mem_of_getElem? (i := 4) (by rfl)))))) rfl
theorem kn_M_pulses : Cond.instanceMethod y_M_pulses ∈ wG := wG_of (List.mem_append_right _ (List.mem_append_right _ (List.mem_append_right _ (List.mem_append_right _ (List.mem_of_getElem? (i := 2) (by rfl)))))) rfl
theorem kv_M_pulses : Cond.selects "PulsePlotterModel" y_M_pulses y_M_pulses ∈ wG := wG_of (List.mem_append_right _ (List.mem_append_right _ (List.mem_append_right _ (List.mem_append_right _ (List.mem_of_getElem? (i := 3) (by rfl)))))) rfl
abbrev y_M_last : MethodName := ⟨"PulsePlotterModel", "last", "()I"⟩
abbrev b_M_last : ByteArray := prog_8_method_28_code
theorem kc_M_last : Cond.code y_M_last b_M_last 1 (some .int) ∈ wG := wG_of (List.mem_append_right _ (List.mem_append_right _ (List.mem_append_right _ (List.mem_append_right _ (List.mem_of_getElem? (i := 8) (by rfl)))))) rfl
theorem kn_M_last : Cond.instanceMethod y_M_last ∈ wG := wG_of (List.mem_append_right _ (List.mem_append_right _ (List.mem_append_right _ (List.mem_append_right _ (List.mem_of_getElem? (i := 6) (by rfl)))))) rfl
theorem kv_M_last : Cond.selects "PulsePlotterModel" y_M_last y_M_last ∈ wG := wG_of (List.mem_append_right _ (List.mem_append_right _ (List.mem_append_right _ (List.mem_append_right _ (List.mem_of_getElem? (i := 7) (by rfl)))))) rfl
abbrev y_M_line : MethodName := ⟨"PulsePlotterModel", "line", "()I"⟩
abbrev b_M_line : ByteArray := prog_8_method_29_code
theorem kc_M_line : Cond.code y_M_line b_M_line 1 (some .int) ∈ wG := wG_of (List.mem_append_right _ (List.mem_append_right _ (List.mem_append_right _ (List.mem_append_right _ (List.mem_of_getElem? (i := 12) (by rfl)))))) rfl
theorem kn_M_line : Cond.instanceMethod y_M_line ∈ wG := wG_of (List.mem_append_right _ (List.mem_append_right _ (List.mem_append_right _ (List.mem_append_right _ (List.mem_of_getElem? (i := 10) (by rfl)))))) rfl
theorem kv_M_line : Cond.selects "PulsePlotterModel" y_M_line y_M_line ∈ wG := wG_of (List.mem_append_right _ (List.mem_append_right _ (List.mem_append_right _ (List.mem_append_right _ (List.mem_of_getElem? (i := 11) (by rfl)))))) rfl
abbrev y_M_feedRate : MethodName := ⟨"PulsePlotterModel", "feedRate", "()I"⟩
abbrev b_M_feedRate : ByteArray := prog_8_method_30_code
theorem kc_M_feedRate : Cond.code y_M_feedRate b_M_feedRate 1 (some .int) ∈ wG := wG_of (List.mem_append_right _ (List.mem_append_right _ (List.mem_append_right _ (List.mem_append_right _ (List.mem_of_getElem? (i := 16) (by rfl)))))) rfl
theorem kn_M_feedRate : Cond.instanceMethod y_M_feedRate ∈ wG := wG_of (List.mem_append_right _ (List.mem_append_right _ (List.mem_append_right _ (List.mem_append_right _ (List.mem_of_getElem? (i := 14) (by rfl)))))) rfl
theorem kv_M_feedRate : Cond.selects "PulsePlotterModel" y_M_feedRate y_M_feedRate ∈ wG := wG_of (List.mem_append_right _ (List.mem_append_right _ (List.mem_append_right _ (List.mem_append_right _ (List.mem_of_getElem? (i := 15) (by rfl)))))) rfl
abbrev y_M_mode : MethodName := ⟨"PulsePlotterModel", "mode", "()I"⟩
abbrev b_M_mode : ByteArray := prog_8_method_31_code
theorem kc_M_mode : Cond.code y_M_mode b_M_mode 1 (some .int) ∈ wG := wG_of (List.mem_append_right _ (List.mem_append_right _ (List.mem_append_right _ (List.mem_append_right _ (List.mem_of_getElem? (i := 20) (by rfl)))))) rfl
theorem kn_M_mode : Cond.instanceMethod y_M_mode ∈ wG := wG_of (List.mem_append_right _ (List.mem_append_right _ (List.mem_append_right _ (List.mem_append_right _ (List.mem_of_getElem? (i := 18) (by rfl)))))) rfl
theorem kv_M_mode : Cond.selects "PulsePlotterModel" y_M_mode y_M_mode ∈ wG := wG_of (List.mem_append_right _ (List.mem_append_right _ (List.mem_append_right _ (List.mem_append_right _ (List.mem_of_getElem? (i := 19) (by rfl)))))) rfl
abbrev y_M_left : MethodName := ⟨"PulsePlotterModel", "left", "()I"⟩
abbrev b_M_left : ByteArray := prog_8_method_32_code
theorem kc_M_left : Cond.code y_M_left b_M_left 1 (some .int) ∈ wG := wG_of (List.mem_append_right _ (List.mem_append_right _ (List.mem_append_right _ (List.mem_append_right _ (List.mem_of_getElem? (i := 24) (by rfl)))))) rfl
theorem kn_M_left : Cond.instanceMethod y_M_left ∈ wG := wG_of (List.mem_append_right _ (List.mem_append_right _ (List.mem_append_right _ (List.mem_append_right _ (List.mem_of_getElem? (i := 22) (by rfl)))))) rfl
theorem kv_M_left : Cond.selects "PulsePlotterModel" y_M_left y_M_left ∈ wG := wG_of (List.mem_append_right _ (List.mem_append_right _ (List.mem_append_right _ (List.mem_append_right _ (List.mem_of_getElem? (i := 23) (by rfl)))))) rfl
abbrev y_Y_init : MethodName := ⟨"PulsePlotter$Way", "<init>", "()V"⟩
abbrev b_Y_init : ByteArray := prog_5_method_1_code
theorem kc_Y_init : Cond.code y_Y_init b_Y_init 1 none ∈ wG := wG_of (List.mem_append_right _ (List.mem_append_left _ (List.mem_of_getElem? (i := 73) (by rfl)))) rfl
theorem kn_Y_init : Cond.instanceMethod y_Y_init ∈ wG := wG_of (List.mem_append_right _ (List.mem_append_left _ (List.mem_of_getElem? (i := 72) (by rfl)))) rfl
theorem ki_L : Cond.initialized "PulsePlotterLaw" ∈ wG := wG_of (List.mem_append_right _ (List.mem_append_left _ (List.mem_of_getElem? (i := 0) (by rfl)))) rfl
theorem ki_P : Cond.initialized "PulsePlotter" ∈ wG := wG_of (List.mem_append_right _ (List.mem_append_left _ (List.mem_of_getElem? (i := 1) (by rfl)))) rfl
theorem ki_T : Cond.initialized "PulsePlotter$Text" ∈ wG := wG_of (List.mem_append_right _ (List.mem_append_left _ (List.mem_of_getElem? (i := 2) (by rfl)))) rfl
theorem ki_W : Cond.initialized "PulsePlotter$Words" ∈ wG := wG_of (List.mem_append_right _ (List.mem_append_left _ (List.mem_of_getElem? (i := 3) (by rfl)))) rfl
theorem ki_Y : Cond.initialized "PulsePlotter$Way" ∈ wG := wG_of (List.mem_append_right _ (List.mem_append_left _ (List.mem_of_getElem? (i := 4) (by rfl)))) rfl
theorem ki_S : Cond.initialized "PulsePlotter$Straight" ∈ wG := wG_of (List.mem_append_right _ (List.mem_append_left _ (List.mem_of_getElem? (i := 5) (by rfl)))) rfl
theorem ki_A : Cond.initialized "PulsePlotter$Arc" ∈ wG := wG_of (List.mem_append_right _ (List.mem_append_left _ (List.mem_of_getElem? (i := 6) (by rfl)))) rfl
theorem ki_M : Cond.initialized "PulsePlotterModel" ∈ wG := wG_of (List.mem_append_right _ (List.mem_append_left _ (List.mem_of_getElem? (i := 7) (by rfl)))) rfl
theorem ki_Jm : Cond.initialized "java/lang/Math" ∈ wG := wG_of (List.mem_append_right _ (List.mem_append_left _ (List.mem_of_getElem? (i := 8) (by rfl)))) rfl
theorem k_L_9 : Cond.methodLink "PulsePlotterLaw" 9 ⟨"PulsePlotter", "<init>", "()V"⟩ ∈ wG := wG_of (List.mem_append_right _ (List.mem_append_left _ (List.mem_of_getElem? (i := 16) (by rfl)))) rfl
theorem k_P_1 : Cond.methodLink "PulsePlotter" 1 ⟨"java/lang/Object", "<init>", "()V"⟩ ∈ wG := wG_of (List.mem_append_right _ (List.mem_append_left _ (List.mem_of_getElem? (i := 19) (by rfl)))) rfl
theorem k_T_3 : Cond.methodLink "PulsePlotter$Text" 3 ⟨"java/lang/Object", "<init>", "()V"⟩ ∈ wG := wG_of (List.mem_append_right _ (List.mem_append_left _ (List.mem_of_getElem? (i := 27) (by rfl)))) rfl
theorem k_T_9 : Cond.fieldLink "PulsePlotter$Text" 9 "PulsePlotter$Text" "codes" "[C" ∈ wG := wG_of (List.mem_append_right _ (List.mem_append_left _ (List.mem_of_getElem? (i := 28) (by rfl)))) rfl
theorem k_T_15 : Cond.fieldLink "PulsePlotter$Text" 15 "PulsePlotter$Text" "size" "I" ∈ wG := wG_of (List.mem_append_right _ (List.mem_append_left _ (List.mem_of_getElem? (i := 29) (by rfl)))) rfl
theorem k_W_3 : Cond.methodLink "PulsePlotter$Words" 3 ⟨"java/lang/Object", "<init>", "()V"⟩ ∈ wG := wG_of (List.mem_append_right _ (List.mem_append_left _ (List.mem_of_getElem? (i := 41) (by rfl)))) rfl
theorem k_W_9 : Cond.fieldLink "PulsePlotter$Words" 9 "PulsePlotter$Words" "row" "[C" ∈ wG := wG_of (List.mem_append_right _ (List.mem_append_left _ (List.mem_of_getElem? (i := 42) (by rfl)))) rfl
theorem k_W_15 : Cond.fieldLink "PulsePlotter$Words" 15 "PulsePlotter$Words" "rowSize" "I" ∈ wG := wG_of (List.mem_append_right _ (List.mem_append_left _ (List.mem_of_getElem? (i := 43) (by rfl)))) rfl
theorem k_W_19 : Cond.fieldLink "PulsePlotter$Words" 19 "PulsePlotter$Words" "at" "I" ∈ wG := wG_of (List.mem_append_right _ (List.mem_append_left _ (List.mem_of_getElem? (i := 44) (by rfl)))) rfl
theorem k_W_22 : Cond.fieldLink "PulsePlotter$Words" 22 "PulsePlotter$Words" "present" "[Z" ∈ wG := wG_of (List.mem_append_right _ (List.mem_append_left _ (List.mem_of_getElem? (i := 45) (by rfl)))) rfl
theorem k_W_26 : Cond.fieldLink "PulsePlotter$Words" 26 "PulsePlotter$Words" "numbers" "[I" ∈ wG := wG_of (List.mem_append_right _ (List.mem_append_left _ (List.mem_of_getElem? (i := 46) (by rfl)))) rfl
theorem k_W_30 : Cond.fieldLink "PulsePlotter$Words" 30 "PulsePlotter$Words" "motion" "I" ∈ wG := wG_of (List.mem_append_right _ (List.mem_append_left _ (List.mem_of_getElem? (i := 47) (by rfl)))) rfl
theorem k_W_33 : Cond.fieldLink "PulsePlotter$Words" 33 "PulsePlotter$Words" "distances" "I" ∈ wG := wG_of (List.mem_append_right _ (List.mem_append_left _ (List.mem_of_getElem? (i := 48) (by rfl)))) rfl
theorem k_Y_1 : Cond.methodLink "PulsePlotter$Way" 1 ⟨"java/lang/Object", "<init>", "()V"⟩ ∈ wG := wG_of (List.mem_append_right _ (List.mem_append_left _ (List.mem_of_getElem? (i := 74) (by rfl)))) rfl
theorem k_S_7 : Cond.fieldLink "PulsePlotter$Straight" 7 "PulsePlotter$Straight" "startX" "I" ∈ wG := wG_of (List.mem_append_right _ (List.mem_append_left _ (List.mem_of_getElem? (i := 75) (by rfl)))) rfl
theorem k_S_13 : Cond.fieldLink "PulsePlotter$Straight" 13 "PulsePlotter$Straight" "startY" "I" ∈ wG := wG_of (List.mem_append_right _ (List.mem_append_left _ (List.mem_of_getElem? (i := 76) (by rfl)))) rfl
theorem k_S_16 : Cond.fieldLink "PulsePlotter$Straight" 16 "PulsePlotter$Straight" "dx" "I" ∈ wG := wG_of (List.mem_append_right _ (List.mem_append_left _ (List.mem_of_getElem? (i := 77) (by rfl)))) rfl
theorem k_S_19 : Cond.fieldLink "PulsePlotter$Straight" 19 "PulsePlotter$Straight" "dy" "I" ∈ wG := wG_of (List.mem_append_right _ (List.mem_append_left _ (List.mem_of_getElem? (i := 78) (by rfl)))) rfl
theorem k_S_22 : Cond.fieldLink "PulsePlotter$Straight" 22 "PulsePlotter$Straight" "size" "I" ∈ wG := wG_of (List.mem_append_right _ (List.mem_append_left _ (List.mem_of_getElem? (i := 79) (by rfl)))) rfl
theorem k_A_9 : Cond.fieldLink "PulsePlotter$Arc" 9 "PulsePlotter$Arc" "reach" "[I" ∈ wG := wG_of (List.mem_append_right _ (List.mem_append_left _ (List.mem_of_getElem? (i := 97) (by rfl)))) rfl
theorem k_A_15 : Cond.fieldLink "PulsePlotter$Arc" 15 "PulsePlotter$Arc" "centreX" "I" ∈ wG := wG_of (List.mem_append_right _ (List.mem_append_left _ (List.mem_of_getElem? (i := 98) (by rfl)))) rfl
theorem k_A_19 : Cond.fieldLink "PulsePlotter$Arc" 19 "PulsePlotter$Arc" "centreY" "I" ∈ wG := wG_of (List.mem_append_right _ (List.mem_append_left _ (List.mem_of_getElem? (i := 99) (by rfl)))) rfl
theorem k_A_22 : Cond.fieldLink "PulsePlotter$Arc" 22 "PulsePlotter$Arc" "diagonal" "I" ∈ wG := wG_of (List.mem_append_right _ (List.mem_append_left _ (List.mem_of_getElem? (i := 100) (by rfl)))) rfl
theorem k_A_25 : Cond.fieldLink "PulsePlotter$Arc" 25 "PulsePlotter$Arc" "side" "I" ∈ wG := wG_of (List.mem_append_right _ (List.mem_append_left _ (List.mem_of_getElem? (i := 101) (by rfl)))) rfl
theorem k_A_28 : Cond.fieldLink "PulsePlotter$Arc" 28 "PulsePlotter$Arc" "first" "I" ∈ wG := wG_of (List.mem_append_right _ (List.mem_append_left _ (List.mem_of_getElem? (i := 102) (by rfl)))) rfl
theorem k_A_31 : Cond.fieldLink "PulsePlotter$Arc" 31 "PulsePlotter$Arc" "turn" "I" ∈ wG := wG_of (List.mem_append_right _ (List.mem_append_left _ (List.mem_of_getElem? (i := 103) (by rfl)))) rfl
theorem k_A_34 : Cond.fieldLink "PulsePlotter$Arc" 34 "PulsePlotter$Arc" "size" "I" ∈ wG := wG_of (List.mem_append_right _ (List.mem_append_left _ (List.mem_of_getElem? (i := 104) (by rfl)))) rfl
theorem k_P_41 : Cond.methodLink "PulsePlotter" 41 ⟨"PulsePlotter", "begin", "()V"⟩ ∈ wG := wG_of (List.mem_append_right _ (List.mem_append_left _ (List.mem_of_getElem? (i := 122) (by rfl)))) rfl
theorem k_P_10 : Cond.fieldLink "PulsePlotter" 10 "PulsePlotter" "text" "LPulsePlotter$Text;" ∈ wG := wG_of (List.mem_append_right _ (List.mem_append_left _ (List.mem_of_getElem? (i := 126) (by rfl)))) rfl
theorem k_P_19 : Cond.fieldLink "PulsePlotter" 19 "PulsePlotter" "words" "LPulsePlotter$Words;" ∈ wG := wG_of (List.mem_append_right _ (List.mem_append_left _ (List.mem_of_getElem? (i := 127) (by rfl)))) rfl
theorem k_P_26 : Cond.fieldLink "PulsePlotter" 26 "PulsePlotter" "straight" "LPulsePlotter$Straight;" ∈ wG := wG_of (List.mem_append_right _ (List.mem_append_left _ (List.mem_of_getElem? (i := 128) (by rfl)))) rfl
theorem k_P_33 : Cond.fieldLink "PulsePlotter" 33 "PulsePlotter" "arc" "LPulsePlotter$Arc;" ∈ wG := wG_of (List.mem_append_right _ (List.mem_append_left _ (List.mem_of_getElem? (i := 129) (by rfl)))) rfl
theorem k_P_37 : Cond.fieldLink "PulsePlotter" 37 "PulsePlotter" "way" "LPulsePlotter$Way;" ∈ wG := wG_of (List.mem_append_right _ (List.mem_append_left _ (List.mem_of_getElem? (i := 130) (by rfl)))) rfl
theorem k_P_51 : Cond.fieldLink "PulsePlotter" 51 "PulsePlotter" "done" "I" ∈ wG := wG_of (List.mem_append_right _ (List.mem_append_left _ (List.mem_of_getElem? (i := 131) (by rfl)))) rfl
theorem k_P_55 : Cond.fieldLink "PulsePlotter" 55 "PulsePlotter" "left" "I" ∈ wG := wG_of (List.mem_append_right _ (List.mem_append_left _ (List.mem_of_getElem? (i := 132) (by rfl)))) rfl
theorem k_P_58 : Cond.fieldLink "PulsePlotter" 58 "PulsePlotter" "nextLineStart" "I" ∈ wG := wG_of (List.mem_append_right _ (List.mem_append_left _ (List.mem_of_getElem? (i := 133) (by rfl)))) rfl
theorem k_P_61 : Cond.fieldLink "PulsePlotter" 61 "PulsePlotter" "line" "I" ∈ wG := wG_of (List.mem_append_right _ (List.mem_append_left _ (List.mem_of_getElem? (i := 134) (by rfl)))) rfl
theorem k_P_64 : Cond.fieldLink "PulsePlotter" 64 "PulsePlotter" "state" "I" ∈ wG := wG_of (List.mem_append_right _ (List.mem_append_left _ (List.mem_of_getElem? (i := 135) (by rfl)))) rfl
theorem k_P_67 : Cond.fieldLink "PulsePlotter" 67 "PulsePlotter" "ending" "Z" ∈ wG := wG_of (List.mem_append_right _ (List.mem_append_left _ (List.mem_of_getElem? (i := 136) (by rfl)))) rfl
theorem k_P_71 : Cond.fieldLink "PulsePlotter" 71 "PulsePlotter" "x" "I" ∈ wG := wG_of (List.mem_append_right _ (List.mem_append_left _ (List.mem_of_getElem? (i := 137) (by rfl)))) rfl
theorem k_P_74 : Cond.fieldLink "PulsePlotter" 74 "PulsePlotter" "y" "I" ∈ wG := wG_of (List.mem_append_right _ (List.mem_append_left _ (List.mem_of_getElem? (i := 138) (by rfl)))) rfl
theorem k_P_77 : Cond.fieldLink "PulsePlotter" 77 "PulsePlotter" "time" "J" ∈ wG := wG_of (List.mem_append_right _ (List.mem_append_left _ (List.mem_of_getElem? (i := 139) (by rfl)))) rfl
theorem k_P_81 : Cond.fieldLink "PulsePlotter" 81 "PulsePlotter" "pulses" "I" ∈ wG := wG_of (List.mem_append_right _ (List.mem_append_left _ (List.mem_of_getElem? (i := 140) (by rfl)))) rfl
theorem k_P_84 : Cond.fieldLink "PulsePlotter" 84 "PulsePlotter" "last" "I" ∈ wG := wG_of (List.mem_append_right _ (List.mem_append_left _ (List.mem_of_getElem? (i := 141) (by rfl)))) rfl
theorem k_P_87 : Cond.fieldLink "PulsePlotter" 87 "PulsePlotter" "feedRate" "I" ∈ wG := wG_of (List.mem_append_right _ (List.mem_append_left _ (List.mem_of_getElem? (i := 142) (by rfl)))) rfl
theorem k_P_90 : Cond.fieldLink "PulsePlotter" 90 "PulsePlotter" "motion" "I" ∈ wG := wG_of (List.mem_append_right _ (List.mem_append_left _ (List.mem_of_getElem? (i := 143) (by rfl)))) rfl
theorem k_P_93 : Cond.fieldLink "PulsePlotter" 93 "PulsePlotter" "relative" "Z" ∈ wG := wG_of (List.mem_append_right _ (List.mem_append_left _ (List.mem_of_getElem? (i := 144) (by rfl)))) rfl
theorem k_L_13 : Cond.methodLink "PulsePlotterLaw" 13 ⟨"PulsePlotter", "feed", "(I)I"⟩ ∈ wG := wG_of (List.mem_append_right _ (List.mem_append_left _ (List.mem_of_getElem? (i := 184) (by rfl)))) rfl
theorem k_P_44 : Cond.methodLink "PulsePlotter" 44 ⟨"PulsePlotter$Text", "append", "(I)I"⟩ ∈ wG := wG_of (List.mem_append_right _ (List.mem_append_left _ (List.mem_of_getElem? (i := 188) (by rfl)))) rfl
theorem k_T_19 : Cond.methodLink "PulsePlotter$Text" 19 ⟨"PulsePlotter$Text", "packedCode", "(II)I"⟩ ∈ wG := wG_of (List.mem_append_right _ (List.mem_append_left _ (List.mem_of_getElem? (i := 192) (by rfl)))) rfl
theorem k_L_18 : Cond.methodLink "PulsePlotterLaw" 18 ⟨"PulsePlotter", "clear", "()V"⟩ ∈ wG := wG_of (List.mem_append_right _ (List.mem_append_left _ (List.mem_of_getElem? (i := 195) (by rfl)))) rfl
theorem k_P_48 : Cond.methodLink "PulsePlotter" 48 ⟨"PulsePlotter$Text", "empty", "()V"⟩ ∈ wG := wG_of (List.mem_append_right _ (List.mem_append_left _ (List.mem_of_getElem? (i := 199) (by rfl)))) rfl
theorem k_L_22 : Cond.methodLink "PulsePlotterLaw" 22 ⟨"PulsePlotter", "begin", "()V"⟩ ∈ wG := wG_of (List.mem_append_right _ (List.mem_append_left _ (List.mem_of_getElem? (i := 203) (by rfl)))) rfl
theorem k_L_26 : Cond.methodLink "PulsePlotterLaw" 26 ⟨"PulsePlotter", "run", "(I)I"⟩ ∈ wG := wG_of (List.mem_append_right _ (List.mem_append_left _ (List.mem_of_getElem? (i := 204) (by rfl)))) rfl
theorem k_P_96 : Cond.methodLink "PulsePlotter" 96 ⟨"PulsePlotter", "makePulses", "(I)I"⟩ ∈ wG := wG_of (List.mem_append_right _ (List.mem_append_left _ (List.mem_of_getElem? (i := 208) (by rfl)))) rfl
theorem k_P_102 : Cond.methodLink "PulsePlotter" 102 ⟨"java/lang/Math", "min", "(II)I"⟩ ∈ wG := wG_of (List.mem_append_right _ (List.mem_append_left _ (List.mem_of_getElem? (i := 212) (by rfl)))) rfl
theorem k_P_108 : Cond.methodLink "PulsePlotter" 108 ⟨"PulsePlotter$Way", "xAfter", "(I)I"⟩ ∈ wG := wG_of (List.mem_append_right _ (List.mem_append_left _ (List.mem_of_getElem? (i := 215) (by rfl)))) rfl
theorem k_A_53 : Cond.methodLink "PulsePlotter$Arc" 53 ⟨"PulsePlotter$Arc", "xOf", "(I)I"⟩ ∈ wG := wG_of (List.mem_append_right _ (List.mem_append_left _ (List.mem_of_getElem? (i := 221) (by rfl)))) rfl
theorem k_A_50 : Cond.methodLink "PulsePlotter$Arc" 50 ⟨"java/lang/Math", "floorMod", "(II)I"⟩ ∈ wG := wG_of (List.mem_append_right _ (List.mem_append_left _ (List.mem_of_getElem? (i := 225) (by rfl)))) rfl
theorem k_A_56 : Cond.methodLink "PulsePlotter$Arc" 56 ⟨"PulsePlotter$Arc", "reachAt", "(I)I"⟩ ∈ wG := wG_of (List.mem_append_right _ (List.mem_append_left _ (List.mem_of_getElem? (i := 228) (by rfl)))) rfl
theorem k_S_35 : Cond.methodLink "PulsePlotter$Straight" 35 ⟨"PulsePlotter$Straight", "part", "(II)I"⟩ ∈ wG := wG_of (List.mem_append_right _ (List.mem_append_left _ (List.mem_of_getElem? (i := 235) (by rfl)))) rfl
theorem k_S_38 : Cond.methodLink "PulsePlotter$Straight" 38 ⟨"java/lang/Math", "floorDiv", "(II)I"⟩ ∈ wG := wG_of (List.mem_append_right _ (List.mem_append_left _ (List.mem_of_getElem? (i := 239) (by rfl)))) rfl
theorem k_P_113 : Cond.methodLink "PulsePlotter" 113 ⟨"PulsePlotter$Way", "yAfter", "(I)I"⟩ ∈ wG := wG_of (List.mem_append_right _ (List.mem_append_right _ (List.mem_append_left _ (List.mem_of_getElem? (i := 2) (by rfl))))) rfl
theorem k_P_116 : Cond.methodLink "PulsePlotter" 116 ⟨"PulsePlotter", "pause", "()I"⟩ ∈ wG := wG_of (List.mem_append_right _ (List.mem_append_right _ (List.mem_append_left _ (List.mem_of_getElem? (i := 11) (by rfl))))) rfl
theorem k_P_120 : Cond.constant "PulsePlotter" 120 1000000 ∈ wG := wG_of (List.mem_append_right _ (List.mem_append_right _ (List.mem_append_left _ (List.mem_of_getElem? (i := 15) (by rfl))))) rfl
theorem k_P_99 : Cond.methodLink "PulsePlotter" 99 ⟨"PulsePlotter", "lookAtNextLine", "()V"⟩ ∈ wG := wG_of (List.mem_append_right _ (List.mem_append_right _ (List.mem_append_left _ (List.mem_of_getElem? (i := 16) (by rfl))))) rfl
theorem k_P_121 : Cond.methodLink "PulsePlotter" 121 ⟨"PulsePlotter$Text", "size", "()I"⟩ ∈ wG := wG_of (List.mem_append_right _ (List.mem_append_right _ (List.mem_append_left _ (List.mem_of_getElem? (i := 20) (by rfl))))) rfl
theorem k_P_124 : Cond.methodLink "PulsePlotter" 124 ⟨"PulsePlotter$Text", "lineEnd", "(I)I"⟩ ∈ wG := wG_of (List.mem_append_right _ (List.mem_append_right _ (List.mem_append_left _ (List.mem_of_getElem? (i := 24) (by rfl))))) rfl
theorem k_T_23 : Cond.methodLink "PulsePlotter$Text" 23 ⟨"PulsePlotter$Text", "codeAt", "(I)C"⟩ ∈ wG := wG_of (List.mem_append_right _ (List.mem_append_right _ (List.mem_append_left _ (List.mem_of_getElem? (i := 28) (by rfl))))) rfl
theorem k_P_127 : Cond.methodLink "PulsePlotter" 127 ⟨"PulsePlotter$Words", "read", "(LPulsePlotter$Text;II)I"⟩ ∈ wG := wG_of (List.mem_append_right _ (List.mem_append_right _ (List.mem_append_left _ (List.mem_of_getElem? (i := 32) (by rfl))))) rfl
theorem k_W_40 : Cond.methodLink "PulsePlotter$Words" 40 ⟨"PulsePlotter$Words", "forget", "()V"⟩ ∈ wG := wG_of (List.mem_append_right _ (List.mem_append_right _ (List.mem_append_left _ (List.mem_of_getElem? (i := 36) (by rfl))))) rfl
theorem k_W_43 : Cond.methodLink "PulsePlotter$Words" 43 ⟨"PulsePlotter$Words", "takeRow", "(LPulsePlotter$Text;II)V"⟩ ∈ wG := wG_of (List.mem_append_right _ (List.mem_append_right _ (List.mem_append_left _ (List.mem_of_getElem? (i := 40) (by rfl))))) rfl
theorem k_W_51 : Cond.methodLink "PulsePlotter$Words" 51 ⟨"PulsePlotter$Text", "codeAt", "(I)C"⟩ ∈ wG := wG_of (List.mem_append_right _ (List.mem_append_right _ (List.mem_append_left _ (List.mem_of_getElem? (i := 44) (by rfl))))) rfl
theorem k_W_47 : Cond.methodLink "PulsePlotter$Words" 47 ⟨"PulsePlotter$Words", "readWord", "()I"⟩ ∈ wG := wG_of (List.mem_append_right _ (List.mem_append_right _ (List.mem_append_left _ (List.mem_of_getElem? (i := 45) (by rfl))))) rfl
theorem k_W_59 : Cond.methodLink "PulsePlotter$Words" 59 ⟨"PulsePlotter$Words", "peek", "()C"⟩ ∈ wG := wG_of (List.mem_append_right _ (List.mem_append_right _ (List.mem_append_left _ (List.mem_of_getElem? (i := 50) (by rfl))))) rfl
theorem k_W_63 : Cond.methodLink "PulsePlotter$Words" 63 ⟨"java/lang/String", "indexOf", "(I)I"⟩ ∈ wG := wG_of (List.mem_append_right _ (List.mem_append_right _ (List.mem_append_left _ (List.mem_of_getElem? (i := 54) (by rfl))))) rfl
theorem k_W_69 : Cond.methodLink "PulsePlotter$Words" 69 ⟨"PulsePlotter$Words", "isSigned", "(I)Z"⟩ ∈ wG := wG_of (List.mem_append_right _ (List.mem_append_right _ (List.mem_append_left _ (List.mem_of_getElem? (i := 138) (by rfl))))) rfl
theorem k_W_72 : Cond.methodLink "PulsePlotter$Words" 72 ⟨"PulsePlotter$Words", "isDigit", "(C)Z"⟩ ∈ wG := wG_of (List.mem_append_right _ (List.mem_append_right _ (List.mem_append_left _ (List.mem_of_getElem? (i := 141) (by rfl))))) rfl
theorem k_W_76 : Cond.fieldLink "PulsePlotter$Words" 76 "PulsePlotter$Words" "MOST_DIGITS" "[I" ∈ wG := wG_of (List.mem_append_right _ (List.mem_append_right _ (List.mem_append_left _ (List.mem_of_getElem? (i := 144) (by rfl))))) rfl
theorem k_W_79 : Cond.methodLink "PulsePlotter$Words" 79 ⟨"PulsePlotter$Words", "keepG", "(I)I"⟩ ∈ wG := wG_of (List.mem_append_right _ (List.mem_append_right _ (List.mem_append_left _ (List.mem_of_getElem? (i := 146) (by rfl))))) rfl
theorem k_W_82 : Cond.methodLink "PulsePlotter$Words" 82 ⟨"PulsePlotter$Words", "keep", "(II)I"⟩ ∈ wG := wG_of (List.mem_append_right _ (List.mem_append_right _ (List.mem_append_left _ (List.mem_of_getElem? (i := 150) (by rfl))))) rfl
theorem k_P_131 : Cond.methodLink "PulsePlotter" 131 ⟨"PulsePlotter", "applySettings", "()V"⟩ ∈ wG := wG_of (List.mem_append_right _ (List.mem_append_right _ (List.mem_append_left _ (List.mem_of_getElem? (i := 154) (by rfl))))) rfl
theorem k_P_137 : Cond.methodLink "PulsePlotter" 137 ⟨"PulsePlotter$Words", "has", "(I)Z"⟩ ∈ wG := wG_of (List.mem_append_right _ (List.mem_append_right _ (List.mem_append_left _ (List.mem_of_getElem? (i := 158) (by rfl))))) rfl
theorem k_P_141 : Cond.methodLink "PulsePlotter" 141 ⟨"PulsePlotter$Words", "number", "(I)I"⟩ ∈ wG := wG_of (List.mem_append_right _ (List.mem_append_right _ (List.mem_append_left _ (List.mem_of_getElem? (i := 162) (by rfl))))) rfl
theorem k_W_36 : Cond.methodLink "PulsePlotter$Words" 36 ⟨"PulsePlotter$Words", "has", "(I)Z"⟩ ∈ wG := wG_of (List.mem_append_right _ (List.mem_append_right _ (List.mem_append_left _ (List.mem_of_getElem? (i := 166) (by rfl))))) rfl
theorem k_P_144 : Cond.methodLink "PulsePlotter" 144 ⟨"PulsePlotter$Words", "distances", "()I"⟩ ∈ wG := wG_of (List.mem_append_right _ (List.mem_append_right _ (List.mem_append_left _ (List.mem_of_getElem? (i := 167) (by rfl))))) rfl
theorem k_P_147 : Cond.methodLink "PulsePlotter" 147 ⟨"PulsePlotter$Words", "motion", "()I"⟩ ∈ wG := wG_of (List.mem_append_right _ (List.mem_append_right _ (List.mem_append_left _ (List.mem_of_getElem? (i := 171) (by rfl))))) rfl
theorem k_P_134 : Cond.methodLink "PulsePlotter" 134 ⟨"PulsePlotter", "startMove", "()I"⟩ ∈ wG := wG_of (List.mem_append_right _ (List.mem_append_right _ (List.mem_append_left _ (List.mem_of_getElem? (i := 175) (by rfl))))) rfl
theorem k_P_149 : Cond.methodLink "PulsePlotter" 149 ⟨"PulsePlotter", "goal", "(II)I"⟩ ∈ wG := wG_of (List.mem_append_right _ (List.mem_append_right _ (List.mem_append_left _ (List.mem_of_getElem? (i := 179) (by rfl))))) rfl
theorem k_P_152 : Cond.methodLink "PulsePlotter" 152 ⟨"PulsePlotter", "startArc", "(II)I"⟩ ∈ wG := wG_of (List.mem_append_right _ (List.mem_append_right _ (List.mem_append_left _ (List.mem_of_getElem? (i := 183) (by rfl))))) rfl
theorem k_P_169 : Cond.methodLink "PulsePlotter" 169 ⟨"PulsePlotter$Arc", "radius", "(I)I"⟩ ∈ wG := wG_of (List.mem_append_right _ (List.mem_append_right _ (List.mem_append_left _ (List.mem_of_getElem? (i := 187) (by rfl))))) rfl
theorem k_P_158 : Cond.methodLink "PulsePlotter" 158 ⟨"PulsePlotter", "isOutside", "(I)Z"⟩ ∈ wG := wG_of (List.mem_append_right _ (List.mem_append_right _ (List.mem_append_left _ (List.mem_of_getElem? (i := 190) (by rfl))))) rfl
theorem k_P_172 : Cond.methodLink "PulsePlotter" 172 ⟨"PulsePlotter$Arc", "lay", "(III)V"⟩ ∈ wG := wG_of (List.mem_append_right _ (List.mem_append_right _ (List.mem_append_left _ (List.mem_of_getElem? (i := 193) (by rfl))))) rfl
theorem k_A_37 : Cond.methodLink "PulsePlotter$Arc" 37 ⟨"PulsePlotter$Arc", "radius", "(I)I"⟩ ∈ wG := wG_of (List.mem_append_right _ (List.mem_append_right _ (List.mem_append_left _ (List.mem_of_getElem? (i := 197) (by rfl))))) rfl
theorem k_A_41 : Cond.methodLink "PulsePlotter$Arc" 41 ⟨"java/lang/Math", "max", "(II)I"⟩ ∈ wG := wG_of (List.mem_append_right _ (List.mem_append_right _ (List.mem_append_left _ (List.mem_of_getElem? (i := 198) (by rfl))))) rfl
theorem k_P_175 : Cond.methodLink "PulsePlotter" 175 ⟨"PulsePlotter$Arc", "join", "(IIIIZ)V"⟩ ∈ wG := wG_of (List.mem_append_right _ (List.mem_append_right _ (List.mem_append_left _ (List.mem_of_getElem? (i := 199) (by rfl))))) rfl
theorem k_A_47 : Cond.methodLink "PulsePlotter$Arc" 47 ⟨"PulsePlotter$Arc", "numberOf", "(II)I"⟩ ∈ wG := wG_of (List.mem_append_right _ (List.mem_append_right _ (List.mem_append_left _ (List.mem_of_getElem? (i := 203) (by rfl))))) rfl
theorem k_P_165 : Cond.methodLink "PulsePlotter" 165 ⟨"PulsePlotter", "follow", "(LPulsePlotter$Way;)V"⟩ ∈ wG := wG_of (List.mem_append_right _ (List.mem_append_right _ (List.mem_append_left _ (List.mem_of_getElem? (i := 207) (by rfl))))) rfl
theorem k_P_179 : Cond.methodLink "PulsePlotter" 179 ⟨"PulsePlotter$Way", "size", "()I"⟩ ∈ wG := wG_of (List.mem_append_right _ (List.mem_append_right _ (List.mem_append_left _ (List.mem_of_getElem? (i := 211) (by rfl))))) rfl
theorem k_P_155 : Cond.methodLink "PulsePlotter" 155 ⟨"PulsePlotter", "startStraight", "(II)I"⟩ ∈ wG := wG_of (List.mem_append_right _ (List.mem_append_right _ (List.mem_append_left _ (List.mem_of_getElem? (i := 220) (by rfl))))) rfl
theorem k_P_161 : Cond.methodLink "PulsePlotter" 161 ⟨"PulsePlotter$Straight", "lay", "(IIII)V"⟩ ∈ wG := wG_of (List.mem_append_right _ (List.mem_append_right _ (List.mem_append_left _ (List.mem_of_getElem? (i := 224) (by rfl))))) rfl
theorem k_S_25 : Cond.methodLink "PulsePlotter$Straight" 25 ⟨"java/lang/Math", "abs", "(I)I"⟩ ∈ wG := wG_of (List.mem_append_right _ (List.mem_append_right _ (List.mem_append_left _ (List.mem_of_getElem? (i := 228) (by rfl))))) rfl
theorem k_S_31 : Cond.methodLink "PulsePlotter$Straight" 31 ⟨"java/lang/Math", "max", "(II)I"⟩ ∈ wG := wG_of (List.mem_append_right _ (List.mem_append_right _ (List.mem_append_left _ (List.mem_of_getElem? (i := 231) (by rfl))))) rfl
theorem k_L_30 : Cond.methodLink "PulsePlotterLaw" 30 ⟨"PulsePlotter", "state", "()I"⟩ ∈ wG := wG_of (List.mem_append_right _ (List.mem_append_right _ (List.mem_append_left _ (List.mem_of_getElem? (i := 233) (by rfl))))) rfl
theorem k_L_35 : Cond.methodLink "PulsePlotterLaw" 35 ⟨"PulsePlotter", "x", "()I"⟩ ∈ wG := wG_of (List.mem_append_right _ (List.mem_append_right _ (List.mem_append_left _ (List.mem_of_getElem? (i := 237) (by rfl))))) rfl
theorem k_L_39 : Cond.methodLink "PulsePlotterLaw" 39 ⟨"PulsePlotter", "y", "()I"⟩ ∈ wG := wG_of (List.mem_append_right _ (List.mem_append_right _ (List.mem_append_right _ (List.mem_append_left _ (List.mem_of_getElem? (i := 1) (by rfl)))))) rfl
theorem k_L_43 : Cond.methodLink "PulsePlotterLaw" 43 ⟨"PulsePlotter", "time", "()J"⟩ ∈ wG := wG_of (List.mem_append_right _ (List.mem_append_right _ (List.mem_append_right _ (List.mem_append_left _ (List.mem_of_getElem? (i := 5) (by rfl)))))) rfl
theorem k_L_48 : Cond.methodLink "PulsePlotterLaw" 48 ⟨"PulsePlotter", "pulses", "()I"⟩ ∈ wG := wG_of (List.mem_append_right _ (List.mem_append_right _ (List.mem_append_right _ (List.mem_append_left _ (List.mem_of_getElem? (i := 9) (by rfl)))))) rfl
theorem k_L_52 : Cond.methodLink "PulsePlotterLaw" 52 ⟨"PulsePlotter", "last", "()I"⟩ ∈ wG := wG_of (List.mem_append_right _ (List.mem_append_right _ (List.mem_append_right _ (List.mem_append_left _ (List.mem_of_getElem? (i := 13) (by rfl)))))) rfl
theorem k_L_56 : Cond.methodLink "PulsePlotterLaw" 56 ⟨"PulsePlotter", "line", "()I"⟩ ∈ wG := wG_of (List.mem_append_right _ (List.mem_append_right _ (List.mem_append_right _ (List.mem_append_left _ (List.mem_of_getElem? (i := 17) (by rfl)))))) rfl
theorem k_L_60 : Cond.methodLink "PulsePlotterLaw" 60 ⟨"PulsePlotter", "feedRate", "()I"⟩ ∈ wG := wG_of (List.mem_append_right _ (List.mem_append_right _ (List.mem_append_right _ (List.mem_append_left _ (List.mem_of_getElem? (i := 21) (by rfl)))))) rfl
theorem k_L_64 : Cond.methodLink "PulsePlotterLaw" 64 ⟨"PulsePlotter", "mode", "()I"⟩ ∈ wG := wG_of (List.mem_append_right _ (List.mem_append_right _ (List.mem_append_right _ (List.mem_append_left _ (List.mem_of_getElem? (i := 25) (by rfl)))))) rfl
theorem k_L_68 : Cond.methodLink "PulsePlotterLaw" 68 ⟨"PulsePlotter", "left", "()I"⟩ ∈ wG := wG_of (List.mem_append_right _ (List.mem_append_right _ (List.mem_append_right _ (List.mem_append_left _ (List.mem_of_getElem? (i := 29) (by rfl)))))) rfl
theorem k_L_12 : Cond.methodLink "PulsePlotterLaw" 12 ⟨"PulsePlotterModel", "<init>", "()V"⟩ ∈ wG := wG_of (List.mem_append_right _ (List.mem_append_right _ (List.mem_append_right _ (List.mem_append_left _ (List.mem_of_getElem? (i := 35) (by rfl)))))) rfl
theorem k_M_1 : Cond.methodLink "PulsePlotterModel" 1 ⟨"java/lang/Object", "<init>", "()V"⟩ ∈ wG := wG_of (List.mem_append_right _ (List.mem_append_right _ (List.mem_append_right _ (List.mem_append_left _ (List.mem_of_getElem? (i := 38) (by rfl)))))) rfl
theorem k_M_22 : Cond.methodLink "PulsePlotterModel" 22 ⟨"PulsePlotterModel", "begin", "()V"⟩ ∈ wG := wG_of (List.mem_append_right _ (List.mem_append_right _ (List.mem_append_right _ (List.mem_append_left _ (List.mem_of_getElem? (i := 39) (by rfl)))))) rfl
theorem k_M_7 : Cond.fieldLink "PulsePlotterModel" 7 "PulsePlotterModel" "text" "[I" ∈ wG := wG_of (List.mem_append_right _ (List.mem_append_right _ (List.mem_append_right _ (List.mem_append_left _ (List.mem_of_getElem? (i := 43) (by rfl)))))) rfl
theorem k_M_25 : Cond.fieldLink "PulsePlotterModel" 25 "PulsePlotterModel" "length" "I" ∈ wG := wG_of (List.mem_append_right _ (List.mem_append_right _ (List.mem_append_right _ (List.mem_append_left _ (List.mem_of_getElem? (i := 44) (by rfl)))))) rfl
theorem k_M_29 : Cond.fieldLink "PulsePlotterModel" 29 "PulsePlotterModel" "at" "I" ∈ wG := wG_of (List.mem_append_right _ (List.mem_append_right _ (List.mem_append_right _ (List.mem_append_left _ (List.mem_of_getElem? (i := 45) (by rfl)))))) rfl
theorem k_M_32 : Cond.fieldLink "PulsePlotterModel" 32 "PulsePlotterModel" "lines" "I" ∈ wG := wG_of (List.mem_append_right _ (List.mem_append_right _ (List.mem_append_right _ (List.mem_append_left _ (List.mem_of_getElem? (i := 46) (by rfl)))))) rfl
theorem k_M_35 : Cond.fieldLink "PulsePlotterModel" 35 "PulsePlotterModel" "x" "I" ∈ wG := wG_of (List.mem_append_right _ (List.mem_append_right _ (List.mem_append_right _ (List.mem_append_left _ (List.mem_of_getElem? (i := 47) (by rfl)))))) rfl
theorem k_M_38 : Cond.fieldLink "PulsePlotterModel" 38 "PulsePlotterModel" "y" "I" ∈ wG := wG_of (List.mem_append_right _ (List.mem_append_right _ (List.mem_append_right _ (List.mem_append_left _ (List.mem_of_getElem? (i := 48) (by rfl)))))) rfl
theorem k_M_41 : Cond.fieldLink "PulsePlotterModel" 41 "PulsePlotterModel" "mode" "I" ∈ wG := wG_of (List.mem_append_right _ (List.mem_append_right _ (List.mem_append_right _ (List.mem_append_left _ (List.mem_of_getElem? (i := 49) (by rfl)))))) rfl
theorem k_M_44 : Cond.fieldLink "PulsePlotterModel" 44 "PulsePlotterModel" "feed" "I" ∈ wG := wG_of (List.mem_append_right _ (List.mem_append_right _ (List.mem_append_right _ (List.mem_append_left _ (List.mem_of_getElem? (i := 50) (by rfl)))))) rfl
theorem k_M_47 : Cond.fieldLink "PulsePlotterModel" 47 "PulsePlotterModel" "state" "I" ∈ wG := wG_of (List.mem_append_right _ (List.mem_append_right _ (List.mem_append_right _ (List.mem_append_left _ (List.mem_of_getElem? (i := 51) (by rfl)))))) rfl
theorem k_M_50 : Cond.fieldLink "PulsePlotterModel" 50 "PulsePlotterModel" "pulses" "I" ∈ wG := wG_of (List.mem_append_right _ (List.mem_append_right _ (List.mem_append_right _ (List.mem_append_left _ (List.mem_of_getElem? (i := 52) (by rfl)))))) rfl
theorem k_M_53 : Cond.fieldLink "PulsePlotterModel" 53 "PulsePlotterModel" "last" "I" ∈ wG := wG_of (List.mem_append_right _ (List.mem_append_right _ (List.mem_append_right _ (List.mem_append_left _ (List.mem_of_getElem? (i := 53) (by rfl)))))) rfl
theorem k_M_56 : Cond.fieldLink "PulsePlotterModel" 56 "PulsePlotterModel" "shown" "I" ∈ wG := wG_of (List.mem_append_right _ (List.mem_append_right _ (List.mem_append_right _ (List.mem_append_left _ (List.mem_of_getElem? (i := 54) (by rfl)))))) rfl
theorem k_M_59 : Cond.fieldLink "PulsePlotterModel" 59 "PulsePlotterModel" "relative" "Z" ∈ wG := wG_of (List.mem_append_right _ (List.mem_append_right _ (List.mem_append_right _ (List.mem_append_left _ (List.mem_of_getElem? (i := 55) (by rfl)))))) rfl
theorem k_M_63 : Cond.fieldLink "PulsePlotterModel" 63 "PulsePlotterModel" "ending" "Z" ∈ wG := wG_of (List.mem_append_right _ (List.mem_append_right _ (List.mem_append_right _ (List.mem_append_left _ (List.mem_of_getElem? (i := 56) (by rfl)))))) rfl
theorem k_M_66 : Cond.fieldLink "PulsePlotterModel" 66 "PulsePlotterModel" "time" "J" ∈ wG := wG_of (List.mem_append_right _ (List.mem_append_right _ (List.mem_append_right _ (List.mem_append_left _ (List.mem_of_getElem? (i := 57) (by rfl)))))) rfl
theorem k_M_112 : Cond.fieldLink "PulsePlotterModel" 112 "PulsePlotterModel" "pause" "J" ∈ wG := wG_of (List.mem_append_right _ (List.mem_append_right _ (List.mem_append_right _ (List.mem_append_left _ (List.mem_of_getElem? (i := 58) (by rfl)))))) rfl
theorem k_M_118 : Cond.fieldLink "PulsePlotterModel" 118 "PulsePlotterModel" "kind" "I" ∈ wG := wG_of (List.mem_append_right _ (List.mem_append_right _ (List.mem_append_right _ (List.mem_append_left _ (List.mem_of_getElem? (i := 59) (by rfl)))))) rfl
theorem k_M_70 : Cond.fieldLink "PulsePlotterModel" 70 "PulsePlotterModel" "made" "I" ∈ wG := wG_of (List.mem_append_right _ (List.mem_append_right _ (List.mem_append_right _ (List.mem_append_left _ (List.mem_of_getElem? (i := 60) (by rfl)))))) rfl
theorem k_M_73 : Cond.fieldLink "PulsePlotterModel" 73 "PulsePlotterModel" "all" "I" ∈ wG := wG_of (List.mem_append_right _ (List.mem_append_right _ (List.mem_append_right _ (List.mem_append_left _ (List.mem_of_getElem? (i := 61) (by rfl)))))) rfl
theorem k_M_121 : Cond.fieldLink "PulsePlotterModel" 121 "PulsePlotterModel" "fromX" "I" ∈ wG := wG_of (List.mem_append_right _ (List.mem_append_right _ (List.mem_append_right _ (List.mem_append_left _ (List.mem_of_getElem? (i := 62) (by rfl)))))) rfl
theorem k_M_124 : Cond.fieldLink "PulsePlotterModel" 124 "PulsePlotterModel" "fromY" "I" ∈ wG := wG_of (List.mem_append_right _ (List.mem_append_right _ (List.mem_append_right _ (List.mem_append_left _ (List.mem_of_getElem? (i := 63) (by rfl)))))) rfl
theorem k_M_127 : Cond.fieldLink "PulsePlotterModel" 127 "PulsePlotterModel" "wayX" "I" ∈ wG := wG_of (List.mem_append_right _ (List.mem_append_right _ (List.mem_append_right _ (List.mem_append_left _ (List.mem_of_getElem? (i := 64) (by rfl)))))) rfl
theorem k_M_130 : Cond.fieldLink "PulsePlotterModel" 130 "PulsePlotterModel" "wayY" "I" ∈ wG := wG_of (List.mem_append_right _ (List.mem_append_right _ (List.mem_append_right _ (List.mem_append_left _ (List.mem_of_getElem? (i := 65) (by rfl)))))) rfl
theorem k_M_13 : Cond.fieldLink "PulsePlotterModel" 13 "PulsePlotterModel" "px" "[I" ∈ wG := wG_of (List.mem_append_right _ (List.mem_append_right _ (List.mem_append_right _ (List.mem_append_left _ (List.mem_of_getElem? (i := 66) (by rfl)))))) rfl
theorem k_M_16 : Cond.fieldLink "PulsePlotterModel" 16 "PulsePlotterModel" "py" "[I" ∈ wG := wG_of (List.mem_append_right _ (List.mem_append_right _ (List.mem_append_right _ (List.mem_append_left _ (List.mem_of_getElem? (i := 67) (by rfl)))))) rfl
theorem k_M_148 : Cond.fieldLink "PulsePlotterModel" 148 "PulsePlotterModel" "points" "I" ∈ wG := wG_of (List.mem_append_right _ (List.mem_append_right _ (List.mem_append_right _ (List.mem_append_left _ (List.mem_of_getElem? (i := 68) (by rfl)))))) rfl
theorem k_M_137 : Cond.fieldLink "PulsePlotterModel" 137 "PulsePlotterModel" "centreX" "I" ∈ wG := wG_of (List.mem_append_right _ (List.mem_append_right _ (List.mem_append_right _ (List.mem_append_left _ (List.mem_of_getElem? (i := 69) (by rfl)))))) rfl
theorem k_M_140 : Cond.fieldLink "PulsePlotterModel" 140 "PulsePlotterModel" "centreY" "I" ∈ wG := wG_of (List.mem_append_right _ (List.mem_append_right _ (List.mem_append_right _ (List.mem_append_left _ (List.mem_of_getElem? (i := 70) (by rfl)))))) rfl
theorem k_M_19 : Cond.fieldLink "PulsePlotterModel" 19 "PulsePlotterModel" "number" "[I" ∈ wG := wG_of (List.mem_append_right _ (List.mem_append_right _ (List.mem_append_right _ (List.mem_append_left _ (List.mem_of_getElem? (i := 71) (by rfl)))))) rfl
theorem k_M_76 : Cond.fieldLink "PulsePlotterModel" 76 "PulsePlotterModel" "there" "I" ∈ wG := wG_of (List.mem_append_right _ (List.mem_append_right _ (List.mem_append_right _ (List.mem_append_left _ (List.mem_of_getElem? (i := 72) (by rfl)))))) rfl
theorem k_M_79 : Cond.fieldLink "PulsePlotterModel" 79 "PulsePlotterModel" "newMode" "I" ∈ wG := wG_of (List.mem_append_right _ (List.mem_append_right _ (List.mem_append_right _ (List.mem_append_left _ (List.mem_of_getElem? (i := 73) (by rfl)))))) rfl
theorem k_M_82 : Cond.fieldLink "PulsePlotterModel" 82 "PulsePlotterModel" "newWay" "I" ∈ wG := wG_of (List.mem_append_right _ (List.mem_append_right _ (List.mem_append_right _ (List.mem_append_left _ (List.mem_of_getElem? (i := 74) (by rfl)))))) rfl
theorem k_M_85 : Cond.fieldLink "PulsePlotterModel" 85 "PulsePlotterModel" "newFeed" "I" ∈ wG := wG_of (List.mem_append_right _ (List.mem_append_right _ (List.mem_append_right _ (List.mem_append_left _ (List.mem_of_getElem? (i := 75) (by rfl)))))) rfl
theorem k_M_88 : Cond.fieldLink "PulsePlotterModel" 88 "PulsePlotterModel" "ends" "I" ∈ wG := wG_of (List.mem_append_right _ (List.mem_append_right _ (List.mem_append_right _ (List.mem_append_left _ (List.mem_of_getElem? (i := 76) (by rfl)))))) rfl
theorem k_L_17 : Cond.methodLink "PulsePlotterLaw" 17 ⟨"PulsePlotterModel", "feed", "(I)I"⟩ ∈ wG := wG_of (List.mem_append_right _ (List.mem_append_right _ (List.mem_append_right _ (List.mem_append_left _ (List.mem_of_getElem? (i := 146) (by rfl)))))) rfl
theorem k_L_21 : Cond.methodLink "PulsePlotterLaw" 21 ⟨"PulsePlotterModel", "clear", "()V"⟩ ∈ wG := wG_of (List.mem_append_right _ (List.mem_append_right _ (List.mem_append_right _ (List.mem_append_left _ (List.mem_of_getElem? (i := 150) (by rfl)))))) rfl
theorem k_L_25 : Cond.methodLink "PulsePlotterLaw" 25 ⟨"PulsePlotterModel", "begin", "()V"⟩ ∈ wG := wG_of (List.mem_append_right _ (List.mem_append_right _ (List.mem_append_right _ (List.mem_append_left _ (List.mem_of_getElem? (i := 154) (by rfl)))))) rfl
theorem k_L_29 : Cond.methodLink "PulsePlotterLaw" 29 ⟨"PulsePlotterModel", "run", "(I)I"⟩ ∈ wG := wG_of (List.mem_append_right _ (List.mem_append_right _ (List.mem_append_right _ (List.mem_append_left _ (List.mem_of_getElem? (i := 155) (by rfl)))))) rfl
theorem k_M_111 : Cond.constant "PulsePlotterModel" 111 1000000 ∈ wG := wG_of (List.mem_append_right _ (List.mem_append_right _ (List.mem_append_right _ (List.mem_append_left _ (List.mem_of_getElem? (i := 159) (by rfl)))))) rfl
theorem k_M_175 : Cond.methodLink "PulsePlotterModel" 175 ⟨"PulsePlotterModel", "look", "()V"⟩ ∈ wG := wG_of (List.mem_append_right _ (List.mem_append_right _ (List.mem_append_right _ (List.mem_append_left _ (List.mem_of_getElem? (i := 160) (by rfl)))))) rfl
theorem k_M_165 : Cond.methodLink "PulsePlotterModel" 165 ⟨"PulsePlotterModel", "read", "(II)I"⟩ ∈ wG := wG_of (List.mem_append_right _ (List.mem_append_right _ (List.mem_append_right _ (List.mem_append_left _ (List.mem_of_getElem? (i := 164) (by rfl)))))) rfl
theorem k_M_91 : Cond.methodLink "PulsePlotterModel" 91 ⟨"PulsePlotterModel", "skip", "(II)I"⟩ ∈ wG := wG_of (List.mem_append_right _ (List.mem_append_right _ (List.mem_append_right _ (List.mem_append_left _ (List.mem_of_getElem? (i := 168) (by rfl)))))) rfl
theorem k_M_95 : Cond.methodLink "PulsePlotterModel" 95 ⟨"PulsePlotterModel", "letter", "(I)I"⟩ ∈ wG := wG_of (List.mem_append_right _ (List.mem_append_right _ (List.mem_append_right _ (List.mem_append_left _ (List.mem_of_getElem? (i := 172) (by rfl)))))) rfl
theorem k_M_99 : Cond.methodLink "PulsePlotterModel" 99 ⟨"PulsePlotterModel", "digit", "(I)Z"⟩ ∈ wG := wG_of (List.mem_append_right _ (List.mem_append_right _ (List.mem_append_right _ (List.mem_append_left _ (List.mem_of_getElem? (i := 175) (by rfl)))))) rfl
theorem k_M_103 : Cond.methodLink "PulsePlotterModel" 103 ⟨"PulsePlotterModel", "keep", "(II)I"⟩ ∈ wG := wG_of (List.mem_append_right _ (List.mem_append_right _ (List.mem_append_right _ (List.mem_append_left _ (List.mem_of_getElem? (i := 178) (by rfl)))))) rfl
theorem k_M_168 : Cond.methodLink "PulsePlotterModel" 168 ⟨"PulsePlotterModel", "act", "()I"⟩ ∈ wG := wG_of (List.mem_append_right _ (List.mem_append_right _ (List.mem_append_right _ (List.mem_append_left _ (List.mem_of_getElem? (i := 182) (by rfl)))))) rfl
theorem k_M_106 : Cond.methodLink "PulsePlotterModel" 106 ⟨"PulsePlotterModel", "goal", "(II)I"⟩ ∈ wG := wG_of (List.mem_append_right _ (List.mem_append_right _ (List.mem_append_right _ (List.mem_append_left _ (List.mem_of_getElem? (i := 186) (by rfl)))))) rfl
theorem k_M_109 : Cond.constantLong "PulsePlotterModel" 109 100 ∈ wG := wG_of (List.mem_append_right _ (List.mem_append_right _ (List.mem_append_right _ (List.mem_append_left _ (List.mem_of_getElem? (i := 190) (by rfl)))))) rfl
theorem k_M_115 : Cond.methodLink "PulsePlotterModel" 115 ⟨"PulsePlotterModel", "inLimits", "(I)Z"⟩ ∈ wG := wG_of (List.mem_append_right _ (List.mem_append_right _ (List.mem_append_right _ (List.mem_append_left _ (List.mem_of_getElem? (i := 191) (by rfl)))))) rfl
theorem k_M_133 : Cond.methodLink "PulsePlotterModel" 133 ⟨"PulsePlotterModel", "arc", "(IIII)I"⟩ ∈ wG := wG_of (List.mem_append_right _ (List.mem_append_right _ (List.mem_append_right _ (List.mem_append_left _ (List.mem_of_getElem? (i := 194) (by rfl)))))) rfl
theorem k_M_143 : Cond.constant "PulsePlotterModel" 143 160801 ∈ wG := wG_of (List.mem_append_right _ (List.mem_append_right _ (List.mem_append_right _ (List.mem_append_left _ (List.mem_of_getElem? (i := 198) (by rfl)))))) rfl
theorem k_M_144 : Cond.methodLink "PulsePlotterModel" 144 ⟨"PulsePlotterModel", "lay", "(I)V"⟩ ∈ wG := wG_of (List.mem_append_right _ (List.mem_append_right _ (List.mem_append_right _ (List.mem_append_left _ (List.mem_of_getElem? (i := 199) (by rfl)))))) rfl
theorem k_M_155 : Cond.methodLink "PulsePlotterModel" 155 ⟨"PulsePlotterModel", "over", "(II)I"⟩ ∈ wG := wG_of (List.mem_append_right _ (List.mem_append_right _ (List.mem_append_right _ (List.mem_append_left _ (List.mem_of_getElem? (i := 203) (by rfl)))))) rfl
theorem k_M_158 : Cond.methodLink "PulsePlotterModel" 158 ⟨"PulsePlotterModel", "point", "(II)V"⟩ ∈ wG := wG_of (List.mem_append_right _ (List.mem_append_right _ (List.mem_append_right _ (List.mem_append_left _ (List.mem_of_getElem? (i := 206) (by rfl)))))) rfl
theorem k_M_151 : Cond.methodLink "PulsePlotterModel" 151 ⟨"PulsePlotterModel", "before", "(IIIIII)Z"⟩ ∈ wG := wG_of (List.mem_append_right _ (List.mem_append_right _ (List.mem_append_right _ (List.mem_append_left _ (List.mem_of_getElem? (i := 210) (by rfl)))))) rfl
theorem k_M_162 : Cond.methodLink "PulsePlotterModel" 162 ⟨"PulsePlotterModel", "half", "(IIII)I"⟩ ∈ wG := wG_of (List.mem_append_right _ (List.mem_append_right _ (List.mem_append_right _ (List.mem_append_left _ (List.mem_of_getElem? (i := 214) (by rfl)))))) rfl
theorem k_M_178 : Cond.methodLink "PulsePlotterModel" 178 ⟨"PulsePlotterModel", "pulse", "()V"⟩ ∈ wG := wG_of (List.mem_append_right _ (List.mem_append_right _ (List.mem_append_right _ (List.mem_append_left _ (List.mem_of_getElem? (i := 218) (by rfl)))))) rfl
theorem k_M_172 : Cond.methodLink "PulsePlotterModel" 172 ⟨"PulsePlotterModel", "quotient", "(II)I"⟩ ∈ wG := wG_of (List.mem_append_right _ (List.mem_append_right _ (List.mem_append_right _ (List.mem_append_left _ (List.mem_of_getElem? (i := 222) (by rfl)))))) rfl
theorem k_L_34 : Cond.methodLink "PulsePlotterLaw" 34 ⟨"PulsePlotterModel", "state", "()I"⟩ ∈ wG := wG_of (List.mem_append_right _ (List.mem_append_right _ (List.mem_append_right _ (List.mem_append_left _ (List.mem_of_getElem? (i := 225) (by rfl)))))) rfl
theorem k_L_38 : Cond.methodLink "PulsePlotterLaw" 38 ⟨"PulsePlotterModel", "x", "()I"⟩ ∈ wG := wG_of (List.mem_append_right _ (List.mem_append_right _ (List.mem_append_right _ (List.mem_append_left _ (List.mem_of_getElem? (i := 229) (by rfl)))))) rfl
theorem k_L_42 : Cond.methodLink "PulsePlotterLaw" 42 ⟨"PulsePlotterModel", "y", "()I"⟩ ∈ wG := wG_of (List.mem_append_right _ (List.mem_append_right _ (List.mem_append_right _ (List.mem_append_left _ (List.mem_of_getElem? (i := 233) (by rfl)))))) rfl
theorem k_L_47 : Cond.methodLink "PulsePlotterLaw" 47 ⟨"PulsePlotterModel", "time", "()J"⟩ ∈ wG := wG_of (List.mem_append_right _ (List.mem_append_right _ (List.mem_append_right _ (List.mem_append_left _ (List.mem_of_getElem? (i := 237) (by rfl)))))) rfl
theorem k_L_51 : Cond.methodLink "PulsePlotterLaw" 51 ⟨"PulsePlotterModel", "pulses", "()I"⟩ ∈ wG := wG_of (List.mem_append_right _ (List.mem_append_right _ (List.mem_append_right _ (List.mem_append_right _ (List.mem_of_getElem? (i := 1) (by rfl)))))) rfl
theorem k_L_55 : Cond.methodLink "PulsePlotterLaw" 55 ⟨"PulsePlotterModel", "last", "()I"⟩ ∈ wG := wG_of (List.mem_append_right _ (List.mem_append_right _ (List.mem_append_right _ (List.mem_append_right _ (List.mem_of_getElem? (i := 5) (by rfl)))))) rfl
theorem k_L_59 : Cond.methodLink "PulsePlotterLaw" 59 ⟨"PulsePlotterModel", "line", "()I"⟩ ∈ wG := wG_of (List.mem_append_right _ (List.mem_append_right _ (List.mem_append_right _ (List.mem_append_right _ (List.mem_of_getElem? (i := 9) (by rfl)))))) rfl
theorem k_L_63 : Cond.methodLink "PulsePlotterLaw" 63 ⟨"PulsePlotterModel", "feedRate", "()I"⟩ ∈ wG := wG_of (List.mem_append_right _ (List.mem_append_right _ (List.mem_append_right _ (List.mem_append_right _ (List.mem_of_getElem? (i := 13) (by rfl)))))) rfl
theorem k_L_67 : Cond.methodLink "PulsePlotterLaw" 67 ⟨"PulsePlotterModel", "mode", "()I"⟩ ∈ wG := wG_of (List.mem_append_right _ (List.mem_append_right _ (List.mem_append_right _ (List.mem_append_right _ (List.mem_of_getElem? (i := 17) (by rfl)))))) rfl
theorem k_L_71 : Cond.methodLink "PulsePlotterLaw" 71 ⟨"PulsePlotterModel", "left", "()I"⟩ ∈ wG := wG_of (List.mem_append_right _ (List.mem_append_right _ (List.mem_append_right _ (List.mem_append_right _ (List.mem_of_getElem? (i := 21) (by rfl)))))) rfl
end
section
/-! what stays as it was at the start: the abstract methods' words, the table of digits, the letters' text -/
abbrev xT : Type := Nat × Nat × Nat
def mdg (j : Nat) : Int32 := ([2, 2, 4, 4, 4, 4, 5] : List Int32).getD j 0
def ltb : List (List Int32) := [[71, 77, 88, 89, 73, 74, 70]]
def xS (X : xT) (A : Nat → Prop) (U : State) (H : Heap) : Prop :=
  va_Nw (.declares ⟨"PulsePlotter$Way", "xAfter", "(I)I"⟩) U ∧ va_Nw (.declares ⟨"PulsePlotter$Way", "yAfter", "(I)I"⟩) U ∧ va_Nw (.declares ⟨"PulsePlotter$Way", "size", "()I"⟩) U ∧
  va_Z "PulsePlotter$Words" "MOST_DIGITS" "[I" (.ref X.1) A U H ∧ va_T .int X.1 7 (fun j => .int (mdg j)) A U H ∧
  vk_R "PulsePlotter$Words" 57 "GMXYIJF" X.2.1 U ∧ vk_S 1 [7] ltb (fun _ => X.2.1) (fun _ => X.2.2) A U H ∧ va_Z "java/lang/String" "COMPACT_STRINGS" "Z" (.int 1) A U H
theorem xS.callee {X : xT} {A B : Nat → Prop} {s U : State} {H : Heap} {locs : List Loc} (h : xS X A s s.heap) (hS : va_S A s.heap H locs) (hAB : ∀ q, B q → A q) (hU : U.heap = H) (hW : s.WarmedH U.vm) : xS X B U U.heap := by
  subst hU
  obtain ⟨h1, h2, h3, h4, h5, h6, h7, h8⟩ := h
  exact ⟨h1.warmD hW, h2.warmD hW, h3.warmD hW, ((h4.kept hS.2.1).narrow hAB).moved hW.alike, ((h5.kept hS.2.1).narrow hAB).moved hW.alike, h6.warm hW, ((h7.kept hS.2.1).narrow hAB).moved hW.alike, ((h8.kept hS.2.1).narrow hAB).moved hW.alike⟩
theorem xS.calling {X : xT} {A : Nat → Prop} {U : State} {g : JFrame} {mk : MethodId} {a : Array Value} (h : xS X A U U.heap) : xS X A (U.calling g mk a) (U.calling g mk a).heap := by
  obtain ⟨h1, h2, h3, h4, h5, h6, h7, h8⟩ := h
  exact ⟨h1.same rfl rfl, h2.same rfl rfl, h3.same rfl rfl, h4.moved (Vm.Alike.refl U.vm), h5.moved (Vm.Alike.refl U.vm), h6.same rfl, h7.moved (Vm.Alike.refl U.vm), h8.moved (Vm.Alike.refl U.vm)⟩
/-! what a call asks, by the words of wG -/
section CW
variable {R : Room} {s : State} {args : Array Value} {own C : String} {idx maxL n fr lo : Nat} {x y : MethodName} {bytes : ByteArray} {ret : Option FieldType}
theorem wG_pay (hts : ∀ w ∈ wG, w.before args s = true) (hc : Cond.code y bytes maxL ret ∈ wG) : ∀ w ∈ Cond.code y bytes maxL ret :: wG, ∀ (a' : Array Value) (U : State), s.WarmedH U.vm → w.before a' U = true := fun w hw a' U hW => by
  have h : w ∈ wG := (List.mem_cons.mp hw).elim (fun e => e ▸ hc) id
  exact word_at hW (wG_good h) (hts w h)
theorem desc_n {d : String} (h : (parseMethodDescriptor d).map (fun d => d.parameters.length) = some n) : ∀ sig, parseMethodDescriptor d = some sig → n = sig.parameters.length := fun sig h2 => by
  rw [h2] at h
  exact (Option.some.inj h).symm
theorem my_cwB (hts : ∀ w ∈ wG, w.before args s = true) (hc : Cond.code y bytes maxL ret ∈ wG) (hl : Cond.methodLink own idx y ∈ wG) (hini : Cond.initialized y.cls ∈ wG)
    (hd : y.cls ≠ "java/lang/invoke/MethodHandle" ∧ y.cls ≠ "java/lang/invoke/VarHandle" ∧ (parseMethodDescriptor y.desc).map (fun d => d.parameters.length) = some n) (hR : fr + 1 ≤ R.frames ∧ 8 + (maxL + 11) + lo ≤ R.locals) :
    CallB R s args own idx y bytes maxL ret (Cond.code y bytes maxL ret :: wG) { frames := fr, cells := 0, slots := 0, locals := lo } 0 0 n :=
  ⟨rfl, rfl, hR.1, hR.2, wG_pay hts hc, List.mem_cons_self, hts _ hc, hts _ hini, ⟨hd.1, hd.2.1⟩, desc_n hd.2.2, hts _ hl⟩
theorem my_cwV (hts : ∀ w ∈ wG, w.before args s = true) (hc : Cond.code y bytes maxL ret ∈ wG) (hl : Cond.methodLink own idx y ∈ wG) (hi : Cond.instanceMethod y ∈ wG) (hs : Cond.selects C y y ∈ wG) (hini : Cond.initialized y.cls ∈ wG)
    (hd : y.cls ≠ "java/lang/invoke/MethodHandle" ∧ y.cls ≠ "java/lang/invoke/VarHandle" ∧ (parseMethodDescriptor y.desc).map (fun d => d.parameters.length) = some n) (hR : fr + 1 ≤ R.frames ∧ 8 + (maxL + 11) + lo ≤ R.locals) :
    CallW R s args own C idx y bytes maxL ret (Cond.code y bytes maxL ret :: wG) { frames := fr, cells := 0, slots := 0, locals := lo } 0 0 n :=
  ⟨my_cwB hts hc hl hini hd hR, hts _ hi, hts _ hs⟩
theorem my_cwS (hts : ∀ w ∈ wG, w.before args s = true) (hc : Cond.code y bytes maxL ret ∈ wG) (hl : Cond.methodLink own idx y ∈ wG) (hi : Cond.static y ∈ wG) (hini : Cond.initialized y.cls ∈ wG)
    (hd : y.cls ≠ "java/lang/invoke/MethodHandle" ∧ y.cls ≠ "java/lang/invoke/VarHandle" ∧ (parseMethodDescriptor y.desc).map (fun d => d.parameters.length) = some n) (hR : fr + 1 ≤ R.frames ∧ 8 + (maxL + 11) + lo ≤ R.locals) :
    CallB R s args own idx y bytes maxL ret (Cond.code y bytes maxL ret :: wG) { frames := fr, cells := 0, slots := 0, locals := lo } 0 0 n ∧ (Cond.static y).before args s = true :=
  ⟨my_cwB hts hc hl hini hd hR, hts _ hi⟩
theorem my_cwA {owner : String} (hts : ∀ w ∈ wG, w.before args s = true) (hc : Cond.code y bytes maxL ret ∈ wG) (hl : Cond.methodLink own idx x ∈ wG) (hs : Cond.selects C x y ∈ wG) (hi : Cond.instanceMethod y ∈ wG) (hini : Cond.initialized y.cls ∈ wG) (hsm : Cond.sameMethod x.cls owner x.name x.desc ∈ wG) (hz : va_Nw (.declares ⟨owner, x.name, x.desc⟩) s)
    (ho : owner ≠ "java/lang/invoke/MethodHandle" ∧ owner ≠ "java/lang/invoke/VarHandle") (hd : (parseMethodDescriptor x.desc).map (fun d => d.parameters.length) = some n) (hR : fr + 1 ≤ R.frames ∧ 8 + (maxL + 11) + lo ≤ R.locals) :
    va_CU R s args own C owner idx x y bytes maxL ret (Cond.code y bytes maxL ret :: wG) { frames := fr, cells := 0, slots := 0, locals := lo } 0 0 n :=
  ⟨⟨rfl, rfl, hR.1, hR.2, wG_pay hts hc, List.mem_cons_self⟩, hts _ hc, hts _ hini, ho, desc_n hd, hts _ hl, hts _ hsm, va_Decl.abs hz, hts _ hs, hts _ hi⟩
end CW
/-! contracts in one form: a world of cells with a tail, a predicate P ahead, 'post' behind; who may write: the world's cells and new ones -/
def bZ (v : Int32) : Prop := v = 0 ∨ v = 1
def cZ (v : Int32) : Prop := narrow .char (.int v) = .int v
theorem bZ.nar {v : Int32} (h : bZ v) : narrow .boolean (.int v) = .int v := by
  rcases h with rfl | rfl <;> decide +kernel
theorem bZ.fit {v : Int32} (h : bZ v) : fits .boolean (.int v) = true := by
  rcases h with rfl | rfl <;> decide +kernel
theorem iinc_1 (x : Int32) : x + Int32.ofInt 1 = x + (1 : Int32) := rfl
theorem iinc_2 (x : Int32) : x + Int32.ofInt 2 = x + (2 : Int32) := rfl
theorem iinc_m1 (x : Int32) : x + Int32.ofInt (-1) = x + (-1 : Int32) := by
  have h : Int32.ofInt (-1) = (-1 : Int32) := by decide +kernel
  rw [h]
theorem my_free {A : Nat → Prop} {ws : va_W} {H0 H : Heap} {locs : List Loc} (hD : va_D A ws) (hS : va_S A H0 H locs) (hA : ∀ q, H0.size ≤ q → A q) : ∀ q, va_A ws H.size q → A q := fun q h => by
  rcases h with ⟨k, e, h⟩ | h
  · exact hD.2 k (q, e) h
  · exact hA q (Nat.le_trans hS.1 h)
def sP (D : va_G) (cl : List vw_C) (ty : List (ClassId × FieldType)) (X : xT) (W0 : va_W) (sz : Nat) (P : Prop) (U : State) : Prop := U.heap.size = sz ∧ va_P D cl W0 U.heap ∧ va_K D cl ty U ∧ xS X (va_A W0 sz) U U.heap ∧ va_D (fun _ => True) W0 ∧ P
abbrev sB (D : va_G) (cl : List vw_C) {S : Type} (W0 : va_W) (W1 : S → va_W) (sz : Nat) : S → State → Prop := fun u t => va_P D cl (W1 u) t.heap ∧ va_D (va_A W0 sz) (W1 u)
section MC
variable {D : va_G} {cl : List vw_C} {ty : List (ClassId × FieldType)} {X : xT} {W0 : va_W} {sz : Nat} {P : Prop} {av : List Value}
theorem sP.blind : FrameBlind (va_Pc av (sP D cl ty X W0 sz P)) := fun a U g mk q => by
  obtain ⟨q0, q1, qP, qK, qX, qD, qw⟩ := q
  exact ⟨q0, q1, qP, va_K.moved (u := U) (U := U.calling g mk a) (Vm.Alike.refl U.vm) qK, qX.calling, qD, qw⟩
variable {s : State} {H : Heap} {A : Nat → Prop} {locs : List Loc}
theorem my_pre (hK : va_K D cl ty s) (hP : va_P D cl W0 H) (hX : xS X A s s.heap) (hD : va_D A W0) (hS : va_S A s.heap H locs) (hA : ∀ q, s.heap.size ≤ q → A q) (hw : P) : ∀ U : State, U.heap = H → s.WarmedH U.vm → sP D cl ty X W0 H.size P U := fun U hU hW =>
  ⟨by rw [hU], by rw [hU]; exact hP, va_K.moved hW.alike hK, hX.callee hS (my_free hD hS hA) hU hW, hD.weaken (fun _ _ _ _ => trivial), hw⟩
theorem my_preV {As : List Value} {b ci : Nat} {q : vw_C} {fs : List Value} (hK : va_K D cl ty s) (hP : va_P D cl W0 H) (hX : xS X A s s.heap) (hD : va_D A W0) (hS : va_S A s.heap H locs) (hA : ∀ q, s.heap.size ≤ q → A q) (q0 : Nat) (he : W0[q0]? = some (b, .inr (ci, fs))) (hc : cl[ci]? = some q) (hw : P) :
    PreV s H q.1 b (va_Pc (.ref b :: As) (sP D cl ty X W0 H.size P)) As := ⟨sP.blind, va_recv hK hP hc he, fun U hU hW => ⟨rfl, my_pre hK hP hX hD hS hA hw U hU hW⟩⟩
theorem my_preS {As : List Value} (hK : va_K D cl ty s) (hP : va_P D cl W0 H) (hX : xS X A s s.heap) (hD : va_D A W0) (hS : va_S A s.heap H locs) (hA : ∀ q, s.heap.size ≤ q → A q) (hw : P) :
    PreS s H (va_Pc As (sP D cl ty X W0 H.size P)) As := ⟨sP.blind, fun U hU hW => ⟨rfl, my_pre hK hP hX hD hS hA hw U hU hW⟩⟩
variable {p : Program} {l : Launch} {e : Env} {R : Room} {m : MethodId} {args : Array Value} {below : List Frame} {meth : Method} {c : Code} {cells slots : Nat} {Q : State → Prop} {pc : Nat} {ls : Array Slot} {rest st0 : List Value} {a : Array Value}
theorem my_calli {S : Type} {post : Int32 → S → Prop} {W1 : S → va_W} (hr : va_Run p l e R s m args below meth c H locs cells slots 0 0 (F0 m pc ls st0) rest (va_Qi post (sB D cl W0 W1 H.size) (va_A W0 H.size) a) (va_A W0 H.size)) (hD : va_D A W0) (hS : va_S A s.heap H locs) (hA : ∀ q, s.heap.size ≤ q → A q)
    (kk : ∀ (r : Int32) (u : S) (H1 : Heap) (locs1 : List Loc), post r u → va_P D cl (W1 u) H1 → va_D A (W1 u) → va_S A s.heap H1 locs1 → W p l e R s m args below meth c H1 locs1 cells slots Q (F0 m (pc + 3) ls (.int r :: rest))) : W p l e R s m args below meth c H locs cells slots Q (F0 m pc ls st0) :=
  va_calli hr hS (fun q _ h => my_free hD hS hA q h) (my_free hD hS hA) (fun r u _ H1 locs1 ht _ hq hB _ _ hS1 => kk r u H1 locs1 hq (by rw [← ht]; exact hB.1) (hB.2.weaken (fun _ _ _ h => my_free hD hS hA _ h)) hS1)
theorem my_calll {S : Type} {post : Int64 → S → Prop} {W1 : S → va_W} (hr : va_Run p l e R s m args below meth c H locs cells slots 0 0 (F0 m pc ls st0) rest (va_Ql post (sB D cl W0 W1 H.size) (va_A W0 H.size) a) (va_A W0 H.size)) (hD : va_D A W0) (hS : va_S A s.heap H locs) (hA : ∀ q, s.heap.size ≤ q → A q)
    (kk : ∀ (r : Int64) (u : S) (H1 : Heap) (locs1 : List Loc), post r u → va_P D cl (W1 u) H1 → va_D A (W1 u) → va_S A s.heap H1 locs1 → W p l e R s m args below meth c H1 locs1 cells slots Q (F0 m (pc + 3) ls (.long r :: rest))) : W p l e R s m args below meth c H locs cells slots Q (F0 m pc ls st0) :=
  va_calll hr hS (fun q _ h => my_free hD hS hA q h) (my_free hD hS hA) (fun r u _ H1 locs1 ht _ hq hB _ _ hS1 => kk r u H1 locs1 hq (by rw [← ht]; exact hB.1) (hB.2.weaken (fun _ _ _ h => my_free hD hS hA _ h)) hS1)
theorem my_callv {S : Type} {post : S → Prop} {W1 : S → va_W} (hr : va_Run p l e R s m args below meth c H locs cells slots 0 0 (F0 m pc ls st0) rest (va_Qv post (sB D cl W0 W1 H.size) (va_A W0 H.size) a) (va_A W0 H.size)) (hD : va_D A W0) (hS : va_S A s.heap H locs) (hA : ∀ q, s.heap.size ≤ q → A q)
    (kk : ∀ (u : S) (H1 : Heap) (locs1 : List Loc), post u → va_P D cl (W1 u) H1 → va_D A (W1 u) → va_S A s.heap H1 locs1 → W p l e R s m args below meth c H1 locs1 cells slots Q (F0 m (pc + 3) ls rest)) : W p l e R s m args below meth c H locs cells slots Q (F0 m pc ls st0) :=
  va_callv hr hS (fun q _ h => my_free hD hS hA q h) (my_free hD hS hA) (fun u _ H1 locs1 ht _ hq hB _ _ hS1 => kk u H1 locs1 hq (by rw [← ht]; exact hB.1) (hB.2.weaken (fun _ _ _ h => my_free hD hS hA _ h)) hS1)
end MC
abbrev MXi (r : FieldType) (l : Launch) (y : MethodName) (cc : ByteArray) (maxL : Nat) (rm : Room) (D : va_G) (cl : List vw_C) (ty : List (ClassId × FieldType)) (X : xT) (av : List Value) (W0 : va_W) {S : Type} (W1 : S → va_W) (P : Prop) (post : Int32 → S → Prop) : Prop :=
  ∀ sz : Nat, Met l y (.code y cc maxL (some r) :: wG) rm (va_Pc av (sP D cl ty X W0 sz P)) (va_Qi post (sB D cl W0 W1 sz) (va_A W0 sz)) 0 0 (va_A W0 sz)
abbrev MI := @MXi .int
abbrev MZ := @MXi .boolean
abbrev MC := @MXi .char
abbrev ML (l : Launch) (y : MethodName) (cc : ByteArray) (maxL : Nat) (rm : Room) (D : va_G) (cl : List vw_C) (ty : List (ClassId × FieldType)) (X : xT) (av : List Value) (W0 : va_W) {S : Type} (W1 : S → va_W) (P : Prop) (post : Int64 → S → Prop) : Prop :=
  ∀ sz : Nat, Met l y (.code y cc maxL (some .long) :: wG) rm (va_Pc av (sP D cl ty X W0 sz P)) (va_Ql post (sB D cl W0 W1 sz) (va_A W0 sz)) 0 0 (va_A W0 sz)
abbrev MV (l : Launch) (y : MethodName) (cc : ByteArray) (maxL : Nat) (rm : Room) (D : va_G) (cl : List vw_C) (ty : List (ClassId × FieldType)) (X : xT) (av : List Value) (W0 : va_W) {S : Type} (W1 : S → va_W) (P : Prop) (post : S → Prop) : Prop :=
  ∀ sz : Nat, Met l y (.code y cc maxL none :: wG) rm (va_Pc av (sP D cl ty X W0 sz P)) (va_Qv post (sB D cl W0 W1 sz) (va_A W0 sz)) 0 0 (va_A W0 sz)
section MO
variable {l : Launch} {y : MethodName} {cc : ByteArray} {maxL : Nat} {rm : Room} {D : va_G} {cl : List vw_C} {ty : List (ClassId × FieldType)} {X : xT} {av : List Value} {W0 : va_W} {S : Type} {W1 : S → va_W} {P : Prop}
abbrev myB (l : Launch) (y : MethodName) (cc : ByteArray) (maxL : Nat) (rm : Room) (D : va_G) (cl : List vw_C) (ty : List (ClassId × FieldType)) (X : xT) (av : List Value) (W0 : va_W) (P : Prop) (Rt : (p : Program) → (e : Env) → (s : State) → (m : MethodId) → (args : Array Value) → (below : List Frame) → (meth : Method) → (c : Code) → (A : Nat → Prop) → (QQ : State → Prop) → Prop) : Prop :=
  ∀ (p : Program) (e : Env) (s : State) (m : MethodId) (args : Array Value) (below : List Frame) (meth : Method) (c : Code) (A : Nat → Prop) (QQ : State → Prop) (H : Heap) (locs : List Loc) (ls : Array Slot),
    p.tables.exec = Jvm.exec → c.code = cc → (∀ w ∈ wG, w.before args s = true) → s.vm.findClass y.cls = some m.cls → c.maxLocals = maxL → va_K D cl ty s → xS X A s s.heap → (∀ q, s.heap.size ≤ q → A q) → va_P D cl W0 H → va_D A W0 → va_S A s.heap H locs → lv_has ls maxL (lv_args 0 av) → P →
    Rt p e s m args below meth c A QQ → W p l e rm s m args below meth c H locs 0 0 QQ (F0 m 0 ls [])
theorem my_of_I {post : Int32 → S → Prop} (hy : plainFor y = true) (hn : (lg_sl av).length ≤ maxL)
    (body : myB l y cc maxL rm D cl ty X av W0 P (fun p e s m args below meth c A QQ => ∀ (H : Heap) (locs : List Loc) (ls : Array Slot) (pc : Nat) (v : Int32) (u : S), decode cc pc = .ok (.ireturn, 1) → va_P D cl (W1 u) H → va_D A (W1 u) → va_S A s.heap H locs → post v u → W p l e rm s m args below meth c H locs 0 0 QQ (F0 m pc ls [.int v]))) :
    MI l y cc maxL rm D cl ty X av W0 W1 P post := by
  intro sz
  refine va_MetF (cc := cc) (maxL := maxL) (ret := some .int) hy rfl ?_
  intro p e s m args below meth c s₁ B hml hv
  obtain ⟨rfl, hsz, hP, hK, hX, hD0, hw⟩ := hv
  subst hsz
  have hts := atoms_spec (ws := .code y cc maxL (some .int) :: wG) B.pre
  have hD := hD0.self (sz := s.heap.size)
  have hl := lv_entry av (n := maxL) hn
  rw [lg_entry_eq]
  have hlocks := B.notSynchronized
  exact body p e s m _ below meth c (va_A W0 s.heap.size) _ _ _ _ B.exec B.bytes (fun w h => hts w (List.mem_cons_of_mem _ h)) (findClass_of_methodNamed B.named) hml hK hX (fun q h => Or.inr h) hP hD va_S.rf hl hw
    (fun H locs ls pc v u hdg hP hD hS hq => W.iret B.exec B.bytes B.returns (fun t ht hW => ⟨⟨v, u, rfl, hq, by rw [ht]; exact hP, hD⟩, hS.F ht⟩) hS.2.2 hdg hlocks)
theorem my_of_L {post : Int64 → S → Prop} (hy : plainFor y = true) (hn : (lg_sl av).length ≤ maxL)
    (body : myB l y cc maxL rm D cl ty X av W0 P (fun p e s m args below meth c A QQ => ∀ (H : Heap) (locs : List Loc) (ls : Array Slot) (pc : Nat) (v : Int64) (u : S), decode cc pc = .ok (.lreturn, 1) → va_P D cl (W1 u) H → va_D A (W1 u) → va_S A s.heap H locs → post v u → W p l e rm s m args below meth c H locs 0 0 QQ (F0 m pc ls [.long v]))) :
    ML l y cc maxL rm D cl ty X av W0 W1 P post := by
  intro sz
  refine va_MetF (cc := cc) (maxL := maxL) (ret := some .long) hy rfl ?_
  intro p e s m args below meth c s₁ B hml hv
  obtain ⟨rfl, hsz, hP, hK, hX, hD0, hw⟩ := hv
  subst hsz
  have hts := atoms_spec (ws := .code y cc maxL (some .long) :: wG) B.pre
  have hD := hD0.self (sz := s.heap.size)
  have hl := lv_entry av (n := maxL) hn
  rw [lg_entry_eq]
  have hlocks := B.notSynchronized
  exact body p e s m _ below meth c (va_A W0 s.heap.size) _ _ _ _ B.exec B.bytes (fun w h => hts w (List.mem_cons_of_mem _ h)) (findClass_of_methodNamed B.named) hml hK hX (fun q h => Or.inr h) hP hD va_S.rf hl hw
    (fun H locs ls pc v u hdg hP hD hS hq => W.lret B.exec B.bytes B.returns (fun t ht hW => ⟨⟨v, u, rfl, hq, by rw [ht]; exact hP, hD⟩, hS.F ht⟩) hS.2.2 hdg hlocks)
theorem my_of_V {post : S → Prop} (hy : plainFor y = true) (hn : (lg_sl av).length ≤ maxL)
    (body : myB l y cc maxL rm D cl ty X av W0 P (fun p e s m args below meth c A QQ => ∀ (H : Heap) (locs : List Loc) (ls : Array Slot) (pc : Nat) (u : S), decode cc pc = .ok (.return_, 1) → va_P D cl (W1 u) H → va_D A (W1 u) → va_S A s.heap H locs → post u → W p l e rm s m args below meth c H locs 0 0 QQ (F0 m pc ls []))) :
    MV l y cc maxL rm D cl ty X av W0 W1 P post := by
  intro sz
  refine va_MetF (cc := cc) (maxL := maxL) (ret := none) hy rfl ?_
  intro p e s m args below meth c s₁ B hml hv
  obtain ⟨rfl, hsz, hP, hK, hX, hD0, hw⟩ := hv
  subst hsz
  have hts := atoms_spec (ws := .code y cc maxL none :: wG) B.pre
  have hD := hD0.self (sz := s.heap.size)
  have hl := lv_entry av (n := maxL) hn
  rw [lg_entry_eq]
  have hlocks := B.notSynchronized
  exact body p e s m _ below meth c (va_A W0 s.heap.size) _ _ _ _ B.exec B.bytes (fun w h => hts w (List.mem_cons_of_mem _ h)) (findClass_of_methodNamed B.named) hml hK hX (fun q h => Or.inr h) hP hD va_S.rf hl hw
    (fun H locs ls pc u hdg hP hD hS hq => W.vret B.exec B.bytes B.returns (fun t ht hW => ⟨⟨u, rfl, hq, by rw [ht]; exact hP, hD⟩, hS.F ht⟩) hS.2.2 hdg hlocks)
theorem my_of_Z {post : Int32 → S → Prop} (hy : plainFor y = true) (hn : (lg_sl av).length ≤ maxL)
    (body : myB l y cc maxL rm D cl ty X av W0 P (fun p e s m args below meth c A QQ => ∀ (H : Heap) (locs : List Loc) (ls : Array Slot) (pc : Nat) (v : Int32) (u : S), decode cc pc = .ok (.ireturn, 1) → bZ v → va_P D cl (W1 u) H → va_D A (W1 u) → va_S A s.heap H locs → post v u → W p l e rm s m args below meth c H locs 0 0 QQ (F0 m pc ls [.int v]))) :
    MZ l y cc maxL rm D cl ty X av W0 W1 P post := by
  intro sz
  refine va_MetF (cc := cc) (maxL := maxL) (ret := some .boolean) hy rfl ?_
  intro p e s m args below meth c s₁ B hml hv
  obtain ⟨rfl, hsz, hP, hK, hX, hD0, hw⟩ := hv
  subst hsz
  have hts := atoms_spec (ws := .code y cc maxL (some .boolean) :: wG) B.pre
  have hD := hD0.self (sz := s.heap.size)
  have hl := lv_entry av (n := maxL) hn
  rw [lg_entry_eq]
  have hlocks := B.notSynchronized
  exact body p e s m _ below meth c (va_A W0 s.heap.size) _ _ _ _ B.exec B.bytes (fun w h => hts w (List.mem_cons_of_mem _ h)) (findClass_of_methodNamed B.named) hml hK hX (fun q h => Or.inr h) hP hD va_S.rf hl hw
    (fun H locs ls pc v u hdg hz hP hD hS hq => W.zret B.exec B.bytes B.returns hz.nar (fun t ht hW => ⟨⟨v, u, rfl, hq, by rw [ht]; exact hP, hD⟩, hS.F ht⟩) hS.2.2 hdg hlocks)
theorem my_of_C {post : Int32 → S → Prop} (hy : plainFor y = true) (hn : (lg_sl av).length ≤ maxL)
    (body : myB l y cc maxL rm D cl ty X av W0 P (fun p e s m args below meth c A QQ => ∀ (H : Heap) (locs : List Loc) (ls : Array Slot) (pc : Nat) (v : Int32) (u : S), decode cc pc = .ok (.ireturn, 1) → cZ v → va_P D cl (W1 u) H → va_D A (W1 u) → va_S A s.heap H locs → post v u → W p l e rm s m args below meth c H locs 0 0 QQ (F0 m pc ls [.int v]))) :
    MC l y cc maxL rm D cl ty X av W0 W1 P post := by
  intro sz
  refine va_MetF (cc := cc) (maxL := maxL) (ret := some .char) hy rfl ?_
  intro p e s m args below meth c s₁ B hml hv
  obtain ⟨rfl, hsz, hP, hK, hX, hD0, hw⟩ := hv
  subst hsz
  have hts := atoms_spec (ws := .code y cc maxL (some .char) :: wG) B.pre
  have hD := hD0.self (sz := s.heap.size)
  have hl := lv_entry av (n := maxL) hn
  rw [lg_entry_eq]
  have hlocks := B.notSynchronized
  exact body p e s m _ below meth c (va_A W0 s.heap.size) _ _ _ _ B.exec B.bytes (fun w h => hts w (List.mem_cons_of_mem _ h)) (findClass_of_methodNamed B.named) hml hK hX (fun q h => Or.inr h) hP hD va_S.rf hl hw
    (fun H locs ls pc v u hdg hz hP hD hS hq => W.zret B.exec B.bytes B.returns hz (fun t ht hW => ⟨⟨v, u, rfl, hq, by rw [ht]; exact hP, hD⟩, hS.F ht⟩) hS.2.2 hdg hlocks)
end MO
section FR
variable {p : Program} {l : Launch} {e : Env} {R : Room} {s : State} {m : MethodId} {args : Array Value} {below : List Frame} {meth : Method} {c : Code} {H : Heap} {locs : List Loc} {cells slots : Nat} {Q : State → Prop}
variable {cc : ByteArray} {pc : Nat} {ls : Array Slot} {rest : List Value} {D : va_G} {A : Nat → Prop} {a : Nat} {ty : List (ClassId × FieldType)} {ws : va_W} {H0 : Heap} {fs : List Value}
theorem g_P_text (hx : p.tables.exec = Jvm.exec) (hb : c.code = cc) (hts : ∀ w ∈ wG, w.before args s = true) (hown : s.vm.findClass R_P = some m.cls) (hK : va_K D cls ty s) (hP : va_P D cls ws H) (q0 : Nat) (he : ws[q0]? = some (a, .inr (0, fs))) {v : Value} (hv : fs[0]? = some v) (hdg : decode cc pc = .ok (.getfield 10, 3)) (kk : W p l e R s m args below meth c H locs cells slots Q (F0 m (pc + 3) ls (v :: rest))) : W p l e R s m args below meth c H locs cells slots Q (F0 m pc ls (.ref a :: rest)) :=
  va_get (C := R_P) (T := F_P) (N := 19) hx hb hts hin_P hown hK hP q0 he rfl 0 (by decide) (hts _ k_P_10) (fun _ h => h) hv hdg kk
theorem g_P_words (hx : p.tables.exec = Jvm.exec) (hb : c.code = cc) (hts : ∀ w ∈ wG, w.before args s = true) (hown : s.vm.findClass R_P = some m.cls) (hK : va_K D cls ty s) (hP : va_P D cls ws H) (q0 : Nat) (he : ws[q0]? = some (a, .inr (0, fs))) {v : Value} (hv : fs[1]? = some v) (hdg : decode cc pc = .ok (.getfield 19, 3)) (kk : W p l e R s m args below meth c H locs cells slots Q (F0 m (pc + 3) ls (v :: rest))) : W p l e R s m args below meth c H locs cells slots Q (F0 m pc ls (.ref a :: rest)) :=
  va_get (C := R_P) (T := F_P) (N := 19) hx hb hts hin_P hown hK hP q0 he rfl 1 (by decide) (hts _ k_P_19) (fun _ h => h) hv hdg kk
theorem g_P_straight (hx : p.tables.exec = Jvm.exec) (hb : c.code = cc) (hts : ∀ w ∈ wG, w.before args s = true) (hown : s.vm.findClass R_P = some m.cls) (hK : va_K D cls ty s) (hP : va_P D cls ws H) (q0 : Nat) (he : ws[q0]? = some (a, .inr (0, fs))) {v : Value} (hv : fs[2]? = some v) (hdg : decode cc pc = .ok (.getfield 26, 3)) (kk : W p l e R s m args below meth c H locs cells slots Q (F0 m (pc + 3) ls (v :: rest))) : W p l e R s m args below meth c H locs cells slots Q (F0 m pc ls (.ref a :: rest)) :=
  va_get (C := R_P) (T := F_P) (N := 19) hx hb hts hin_P hown hK hP q0 he rfl 2 (by decide) (hts _ k_P_26) (fun _ h => h) hv hdg kk
theorem g_P_arc (hx : p.tables.exec = Jvm.exec) (hb : c.code = cc) (hts : ∀ w ∈ wG, w.before args s = true) (hown : s.vm.findClass R_P = some m.cls) (hK : va_K D cls ty s) (hP : va_P D cls ws H) (q0 : Nat) (he : ws[q0]? = some (a, .inr (0, fs))) {v : Value} (hv : fs[3]? = some v) (hdg : decode cc pc = .ok (.getfield 33, 3)) (kk : W p l e R s m args below meth c H locs cells slots Q (F0 m (pc + 3) ls (v :: rest))) : W p l e R s m args below meth c H locs cells slots Q (F0 m pc ls (.ref a :: rest)) :=
  va_get (C := R_P) (T := F_P) (N := 19) hx hb hts hin_P hown hK hP q0 he rfl 3 (by decide) (hts _ k_P_33) (fun _ h => h) hv hdg kk
theorem g_P_way (hx : p.tables.exec = Jvm.exec) (hb : c.code = cc) (hts : ∀ w ∈ wG, w.before args s = true) (hown : s.vm.findClass R_P = some m.cls) (hK : va_K D cls ty s) (hP : va_P D cls ws H) (q0 : Nat) (he : ws[q0]? = some (a, .inr (0, fs))) {v : Value} (hv : fs[4]? = some v) (hdg : decode cc pc = .ok (.getfield 37, 3)) (kk : W p l e R s m args below meth c H locs cells slots Q (F0 m (pc + 3) ls (v :: rest))) : W p l e R s m args below meth c H locs cells slots Q (F0 m pc ls (.ref a :: rest)) :=
  va_get (C := R_P) (T := F_P) (N := 19) hx hb hts hin_P hown hK hP q0 he rfl 4 (by decide) (hts _ k_P_37) (fun _ h => h) hv hdg kk
theorem u_P_way (hx : p.tables.exec = Jvm.exec) (hb : c.code = cc) (hts : ∀ w ∈ wG, w.before args s = true) (hown : s.vm.findClass R_P = some m.cls) (hK : va_K D cls ty s) (hP : va_P D cls ws H) (hD : va_D A ws) (hS : va_S A H0 H locs) (q0 : Nat) (he : ws[q0]? = some (a, .inr (0, fs))) (hn : fs.length = 19) {x : Nat} (hdg : decode cc pc = .ok (.putfield 37, 3)) (kk : ∀ (H1 : Heap) (locs1 : List Loc), va_P D cls (ws.set q0 (a, .inr (0, fs.set 4 (.ref x)))) H1 → va_D A (ws.set q0 (a, .inr (0, fs.set 4 (.ref x)))) → va_S A H0 H1 locs1 → W p l e R s m args below meth c H1 locs1 cells slots Q (F0 m (pc + 3) ls rest)) : W p l e R s m args below meth c H locs cells slots Q (F0 m pc ls (.ref x :: .ref a :: rest)) :=
  va_put (C := R_P) (T := F_P) (N := 19) hx hb hts hin_P fy_P fy_P_ok n_P hown hK hP hD hS q0 he rfl 4 (by decide) (hts _ k_P_37) (fun _ h => h) rfl (fy_P_ok 4 (by decide)) rfl rfl (by omega) hdg kk
theorem g_P_done (hx : p.tables.exec = Jvm.exec) (hb : c.code = cc) (hts : ∀ w ∈ wG, w.before args s = true) (hown : s.vm.findClass R_P = some m.cls) (hK : va_K D cls ty s) (hP : va_P D cls ws H) (q0 : Nat) (he : ws[q0]? = some (a, .inr (0, fs))) {v : Value} (hv : fs[5]? = some v) (hdg : decode cc pc = .ok (.getfield 51, 3)) (kk : W p l e R s m args below meth c H locs cells slots Q (F0 m (pc + 3) ls (v :: rest))) : W p l e R s m args below meth c H locs cells slots Q (F0 m pc ls (.ref a :: rest)) :=
  va_get (C := R_P) (T := F_P) (N := 19) hx hb hts hin_P hown hK hP q0 he rfl 5 (by decide) (hts _ k_P_51) (fun _ h => h) hv hdg kk
theorem u_P_done (hx : p.tables.exec = Jvm.exec) (hb : c.code = cc) (hts : ∀ w ∈ wG, w.before args s = true) (hown : s.vm.findClass R_P = some m.cls) (hK : va_K D cls ty s) (hP : va_P D cls ws H) (hD : va_D A ws) (hS : va_S A H0 H locs) (q0 : Nat) (he : ws[q0]? = some (a, .inr (0, fs))) (hn : fs.length = 19) {x : Int32} (hdg : decode cc pc = .ok (.putfield 51, 3)) (kk : ∀ (H1 : Heap) (locs1 : List Loc), va_P D cls (ws.set q0 (a, .inr (0, fs.set 5 (.int x)))) H1 → va_D A (ws.set q0 (a, .inr (0, fs.set 5 (.int x)))) → va_S A H0 H1 locs1 → W p l e R s m args below meth c H1 locs1 cells slots Q (F0 m (pc + 3) ls rest)) : W p l e R s m args below meth c H locs cells slots Q (F0 m pc ls (.int x :: .ref a :: rest)) :=
  va_put (C := R_P) (T := F_P) (N := 19) hx hb hts hin_P fy_P fy_P_ok n_P hown hK hP hD hS q0 he rfl 5 (by decide) (hts _ k_P_51) (fun _ h => h) rfl (fy_P_ok 5 (by decide)) rfl rfl (by omega) hdg kk
theorem g_P_left (hx : p.tables.exec = Jvm.exec) (hb : c.code = cc) (hts : ∀ w ∈ wG, w.before args s = true) (hown : s.vm.findClass R_P = some m.cls) (hK : va_K D cls ty s) (hP : va_P D cls ws H) (q0 : Nat) (he : ws[q0]? = some (a, .inr (0, fs))) {v : Value} (hv : fs[6]? = some v) (hdg : decode cc pc = .ok (.getfield 55, 3)) (kk : W p l e R s m args below meth c H locs cells slots Q (F0 m (pc + 3) ls (v :: rest))) : W p l e R s m args below meth c H locs cells slots Q (F0 m pc ls (.ref a :: rest)) :=
  va_get (C := R_P) (T := F_P) (N := 19) hx hb hts hin_P hown hK hP q0 he rfl 6 (by decide) (hts _ k_P_55) (fun _ h => h) hv hdg kk
theorem u_P_left (hx : p.tables.exec = Jvm.exec) (hb : c.code = cc) (hts : ∀ w ∈ wG, w.before args s = true) (hown : s.vm.findClass R_P = some m.cls) (hK : va_K D cls ty s) (hP : va_P D cls ws H) (hD : va_D A ws) (hS : va_S A H0 H locs) (q0 : Nat) (he : ws[q0]? = some (a, .inr (0, fs))) (hn : fs.length = 19) {x : Int32} (hdg : decode cc pc = .ok (.putfield 55, 3)) (kk : ∀ (H1 : Heap) (locs1 : List Loc), va_P D cls (ws.set q0 (a, .inr (0, fs.set 6 (.int x)))) H1 → va_D A (ws.set q0 (a, .inr (0, fs.set 6 (.int x)))) → va_S A H0 H1 locs1 → W p l e R s m args below meth c H1 locs1 cells slots Q (F0 m (pc + 3) ls rest)) : W p l e R s m args below meth c H locs cells slots Q (F0 m pc ls (.int x :: .ref a :: rest)) :=
  va_put (C := R_P) (T := F_P) (N := 19) hx hb hts hin_P fy_P fy_P_ok n_P hown hK hP hD hS q0 he rfl 6 (by decide) (hts _ k_P_55) (fun _ h => h) rfl (fy_P_ok 6 (by decide)) rfl rfl (by omega) hdg kk
theorem g_P_nextLineStart (hx : p.tables.exec = Jvm.exec) (hb : c.code = cc) (hts : ∀ w ∈ wG, w.before args s = true) (hown : s.vm.findClass R_P = some m.cls) (hK : va_K D cls ty s) (hP : va_P D cls ws H) (q0 : Nat) (he : ws[q0]? = some (a, .inr (0, fs))) {v : Value} (hv : fs[7]? = some v) (hdg : decode cc pc = .ok (.getfield 58, 3)) (kk : W p l e R s m args below meth c H locs cells slots Q (F0 m (pc + 3) ls (v :: rest))) : W p l e R s m args below meth c H locs cells slots Q (F0 m pc ls (.ref a :: rest)) :=
  va_get (C := R_P) (T := F_P) (N := 19) hx hb hts hin_P hown hK hP q0 he rfl 7 (by decide) (hts _ k_P_58) (fun _ h => h) hv hdg kk
theorem u_P_nextLineStart (hx : p.tables.exec = Jvm.exec) (hb : c.code = cc) (hts : ∀ w ∈ wG, w.before args s = true) (hown : s.vm.findClass R_P = some m.cls) (hK : va_K D cls ty s) (hP : va_P D cls ws H) (hD : va_D A ws) (hS : va_S A H0 H locs) (q0 : Nat) (he : ws[q0]? = some (a, .inr (0, fs))) (hn : fs.length = 19) {x : Int32} (hdg : decode cc pc = .ok (.putfield 58, 3)) (kk : ∀ (H1 : Heap) (locs1 : List Loc), va_P D cls (ws.set q0 (a, .inr (0, fs.set 7 (.int x)))) H1 → va_D A (ws.set q0 (a, .inr (0, fs.set 7 (.int x)))) → va_S A H0 H1 locs1 → W p l e R s m args below meth c H1 locs1 cells slots Q (F0 m (pc + 3) ls rest)) : W p l e R s m args below meth c H locs cells slots Q (F0 m pc ls (.int x :: .ref a :: rest)) :=
  va_put (C := R_P) (T := F_P) (N := 19) hx hb hts hin_P fy_P fy_P_ok n_P hown hK hP hD hS q0 he rfl 7 (by decide) (hts _ k_P_58) (fun _ h => h) rfl (fy_P_ok 7 (by decide)) rfl rfl (by omega) hdg kk
theorem g_P_line (hx : p.tables.exec = Jvm.exec) (hb : c.code = cc) (hts : ∀ w ∈ wG, w.before args s = true) (hown : s.vm.findClass R_P = some m.cls) (hK : va_K D cls ty s) (hP : va_P D cls ws H) (q0 : Nat) (he : ws[q0]? = some (a, .inr (0, fs))) {v : Value} (hv : fs[8]? = some v) (hdg : decode cc pc = .ok (.getfield 61, 3)) (kk : W p l e R s m args below meth c H locs cells slots Q (F0 m (pc + 3) ls (v :: rest))) : W p l e R s m args below meth c H locs cells slots Q (F0 m pc ls (.ref a :: rest)) :=
  va_get (C := R_P) (T := F_P) (N := 19) hx hb hts hin_P hown hK hP q0 he rfl 8 (by decide) (hts _ k_P_61) (fun _ h => h) hv hdg kk
theorem u_P_line (hx : p.tables.exec = Jvm.exec) (hb : c.code = cc) (hts : ∀ w ∈ wG, w.before args s = true) (hown : s.vm.findClass R_P = some m.cls) (hK : va_K D cls ty s) (hP : va_P D cls ws H) (hD : va_D A ws) (hS : va_S A H0 H locs) (q0 : Nat) (he : ws[q0]? = some (a, .inr (0, fs))) (hn : fs.length = 19) {x : Int32} (hdg : decode cc pc = .ok (.putfield 61, 3)) (kk : ∀ (H1 : Heap) (locs1 : List Loc), va_P D cls (ws.set q0 (a, .inr (0, fs.set 8 (.int x)))) H1 → va_D A (ws.set q0 (a, .inr (0, fs.set 8 (.int x)))) → va_S A H0 H1 locs1 → W p l e R s m args below meth c H1 locs1 cells slots Q (F0 m (pc + 3) ls rest)) : W p l e R s m args below meth c H locs cells slots Q (F0 m pc ls (.int x :: .ref a :: rest)) :=
  va_put (C := R_P) (T := F_P) (N := 19) hx hb hts hin_P fy_P fy_P_ok n_P hown hK hP hD hS q0 he rfl 8 (by decide) (hts _ k_P_61) (fun _ h => h) rfl (fy_P_ok 8 (by decide)) rfl rfl (by omega) hdg kk
theorem g_P_state (hx : p.tables.exec = Jvm.exec) (hb : c.code = cc) (hts : ∀ w ∈ wG, w.before args s = true) (hown : s.vm.findClass R_P = some m.cls) (hK : va_K D cls ty s) (hP : va_P D cls ws H) (q0 : Nat) (he : ws[q0]? = some (a, .inr (0, fs))) {v : Value} (hv : fs[9]? = some v) (hdg : decode cc pc = .ok (.getfield 64, 3)) (kk : W p l e R s m args below meth c H locs cells slots Q (F0 m (pc + 3) ls (v :: rest))) : W p l e R s m args below meth c H locs cells slots Q (F0 m pc ls (.ref a :: rest)) :=
  va_get (C := R_P) (T := F_P) (N := 19) hx hb hts hin_P hown hK hP q0 he rfl 9 (by decide) (hts _ k_P_64) (fun _ h => h) hv hdg kk
theorem u_P_state (hx : p.tables.exec = Jvm.exec) (hb : c.code = cc) (hts : ∀ w ∈ wG, w.before args s = true) (hown : s.vm.findClass R_P = some m.cls) (hK : va_K D cls ty s) (hP : va_P D cls ws H) (hD : va_D A ws) (hS : va_S A H0 H locs) (q0 : Nat) (he : ws[q0]? = some (a, .inr (0, fs))) (hn : fs.length = 19) {x : Int32} (hdg : decode cc pc = .ok (.putfield 64, 3)) (kk : ∀ (H1 : Heap) (locs1 : List Loc), va_P D cls (ws.set q0 (a, .inr (0, fs.set 9 (.int x)))) H1 → va_D A (ws.set q0 (a, .inr (0, fs.set 9 (.int x)))) → va_S A H0 H1 locs1 → W p l e R s m args below meth c H1 locs1 cells slots Q (F0 m (pc + 3) ls rest)) : W p l e R s m args below meth c H locs cells slots Q (F0 m pc ls (.int x :: .ref a :: rest)) :=
  va_put (C := R_P) (T := F_P) (N := 19) hx hb hts hin_P fy_P fy_P_ok n_P hown hK hP hD hS q0 he rfl 9 (by decide) (hts _ k_P_64) (fun _ h => h) rfl (fy_P_ok 9 (by decide)) rfl rfl (by omega) hdg kk
theorem g_P_ending (hx : p.tables.exec = Jvm.exec) (hb : c.code = cc) (hts : ∀ w ∈ wG, w.before args s = true) (hown : s.vm.findClass R_P = some m.cls) (hK : va_K D cls ty s) (hP : va_P D cls ws H) (q0 : Nat) (he : ws[q0]? = some (a, .inr (0, fs))) {v : Value} (hv : fs[10]? = some v) (hdg : decode cc pc = .ok (.getfield 67, 3)) (kk : W p l e R s m args below meth c H locs cells slots Q (F0 m (pc + 3) ls (v :: rest))) : W p l e R s m args below meth c H locs cells slots Q (F0 m pc ls (.ref a :: rest)) :=
  va_get (C := R_P) (T := F_P) (N := 19) hx hb hts hin_P hown hK hP q0 he rfl 10 (by decide) (hts _ k_P_67) (fun _ h => h) hv hdg kk
theorem u_P_ending (hx : p.tables.exec = Jvm.exec) (hb : c.code = cc) (hts : ∀ w ∈ wG, w.before args s = true) (hown : s.vm.findClass R_P = some m.cls) (hK : va_K D cls ty s) (hP : va_P D cls ws H) (hD : va_D A ws) (hS : va_S A H0 H locs) (q0 : Nat) (he : ws[q0]? = some (a, .inr (0, fs))) (hn : fs.length = 19) {x : Int32} (hz : bZ x) (hdg : decode cc pc = .ok (.putfield 67, 3)) (kk : ∀ (H1 : Heap) (locs1 : List Loc), va_P D cls (ws.set q0 (a, .inr (0, fs.set 10 (.int x)))) H1 → va_D A (ws.set q0 (a, .inr (0, fs.set 10 (.int x)))) → va_S A H0 H1 locs1 → W p l e R s m args below meth c H1 locs1 cells slots Q (F0 m (pc + 3) ls rest)) : W p l e R s m args below meth c H locs cells slots Q (F0 m pc ls (.int x :: .ref a :: rest)) :=
  va_put (C := R_P) (T := F_P) (N := 19) hx hb hts hin_P fy_P fy_P_ok n_P hown hK hP hD hS q0 he rfl 10 (by decide) (hts _ k_P_67) (fun _ h => h) rfl (fy_P_ok 10 (by decide)) hz.nar hz.fit (by omega) hdg kk
theorem g_P_x (hx : p.tables.exec = Jvm.exec) (hb : c.code = cc) (hts : ∀ w ∈ wG, w.before args s = true) (hown : s.vm.findClass R_P = some m.cls) (hK : va_K D cls ty s) (hP : va_P D cls ws H) (q0 : Nat) (he : ws[q0]? = some (a, .inr (0, fs))) {v : Value} (hv : fs[11]? = some v) (hdg : decode cc pc = .ok (.getfield 71, 3)) (kk : W p l e R s m args below meth c H locs cells slots Q (F0 m (pc + 3) ls (v :: rest))) : W p l e R s m args below meth c H locs cells slots Q (F0 m pc ls (.ref a :: rest)) :=
  va_get (C := R_P) (T := F_P) (N := 19) hx hb hts hin_P hown hK hP q0 he rfl 11 (by decide) (hts _ k_P_71) (fun _ h => h) hv hdg kk
theorem u_P_x (hx : p.tables.exec = Jvm.exec) (hb : c.code = cc) (hts : ∀ w ∈ wG, w.before args s = true) (hown : s.vm.findClass R_P = some m.cls) (hK : va_K D cls ty s) (hP : va_P D cls ws H) (hD : va_D A ws) (hS : va_S A H0 H locs) (q0 : Nat) (he : ws[q0]? = some (a, .inr (0, fs))) (hn : fs.length = 19) {x : Int32} (hdg : decode cc pc = .ok (.putfield 71, 3)) (kk : ∀ (H1 : Heap) (locs1 : List Loc), va_P D cls (ws.set q0 (a, .inr (0, fs.set 11 (.int x)))) H1 → va_D A (ws.set q0 (a, .inr (0, fs.set 11 (.int x)))) → va_S A H0 H1 locs1 → W p l e R s m args below meth c H1 locs1 cells slots Q (F0 m (pc + 3) ls rest)) : W p l e R s m args below meth c H locs cells slots Q (F0 m pc ls (.int x :: .ref a :: rest)) :=
  va_put (C := R_P) (T := F_P) (N := 19) hx hb hts hin_P fy_P fy_P_ok n_P hown hK hP hD hS q0 he rfl 11 (by decide) (hts _ k_P_71) (fun _ h => h) rfl (fy_P_ok 11 (by decide)) rfl rfl (by omega) hdg kk
theorem g_P_y (hx : p.tables.exec = Jvm.exec) (hb : c.code = cc) (hts : ∀ w ∈ wG, w.before args s = true) (hown : s.vm.findClass R_P = some m.cls) (hK : va_K D cls ty s) (hP : va_P D cls ws H) (q0 : Nat) (he : ws[q0]? = some (a, .inr (0, fs))) {v : Value} (hv : fs[12]? = some v) (hdg : decode cc pc = .ok (.getfield 74, 3)) (kk : W p l e R s m args below meth c H locs cells slots Q (F0 m (pc + 3) ls (v :: rest))) : W p l e R s m args below meth c H locs cells slots Q (F0 m pc ls (.ref a :: rest)) :=
  va_get (C := R_P) (T := F_P) (N := 19) hx hb hts hin_P hown hK hP q0 he rfl 12 (by decide) (hts _ k_P_74) (fun _ h => h) hv hdg kk
theorem u_P_y (hx : p.tables.exec = Jvm.exec) (hb : c.code = cc) (hts : ∀ w ∈ wG, w.before args s = true) (hown : s.vm.findClass R_P = some m.cls) (hK : va_K D cls ty s) (hP : va_P D cls ws H) (hD : va_D A ws) (hS : va_S A H0 H locs) (q0 : Nat) (he : ws[q0]? = some (a, .inr (0, fs))) (hn : fs.length = 19) {x : Int32} (hdg : decode cc pc = .ok (.putfield 74, 3)) (kk : ∀ (H1 : Heap) (locs1 : List Loc), va_P D cls (ws.set q0 (a, .inr (0, fs.set 12 (.int x)))) H1 → va_D A (ws.set q0 (a, .inr (0, fs.set 12 (.int x)))) → va_S A H0 H1 locs1 → W p l e R s m args below meth c H1 locs1 cells slots Q (F0 m (pc + 3) ls rest)) : W p l e R s m args below meth c H locs cells slots Q (F0 m pc ls (.int x :: .ref a :: rest)) :=
  va_put (C := R_P) (T := F_P) (N := 19) hx hb hts hin_P fy_P fy_P_ok n_P hown hK hP hD hS q0 he rfl 12 (by decide) (hts _ k_P_74) (fun _ h => h) rfl (fy_P_ok 12 (by decide)) rfl rfl (by omega) hdg kk
theorem g_P_time (hx : p.tables.exec = Jvm.exec) (hb : c.code = cc) (hts : ∀ w ∈ wG, w.before args s = true) (hown : s.vm.findClass R_P = some m.cls) (hK : va_K D cls ty s) (hP : va_P D cls ws H) (q0 : Nat) (he : ws[q0]? = some (a, .inr (0, fs))) {v : Value} (hv : fs[13]? = some v) (hdg : decode cc pc = .ok (.getfield 77, 3)) (kk : W p l e R s m args below meth c H locs cells slots Q (F0 m (pc + 3) ls (v :: rest))) : W p l e R s m args below meth c H locs cells slots Q (F0 m pc ls (.ref a :: rest)) :=
  va_get (C := R_P) (T := F_P) (N := 19) hx hb hts hin_P hown hK hP q0 he rfl 13 (by decide) (hts _ k_P_77) (fun _ h => h) hv hdg kk
theorem u_P_time (hx : p.tables.exec = Jvm.exec) (hb : c.code = cc) (hts : ∀ w ∈ wG, w.before args s = true) (hown : s.vm.findClass R_P = some m.cls) (hK : va_K D cls ty s) (hP : va_P D cls ws H) (hD : va_D A ws) (hS : va_S A H0 H locs) (q0 : Nat) (he : ws[q0]? = some (a, .inr (0, fs))) (hn : fs.length = 19) {x : Int64} (hdg : decode cc pc = .ok (.putfield 77, 3)) (kk : ∀ (H1 : Heap) (locs1 : List Loc), va_P D cls (ws.set q0 (a, .inr (0, fs.set 13 (.long x)))) H1 → va_D A (ws.set q0 (a, .inr (0, fs.set 13 (.long x)))) → va_S A H0 H1 locs1 → W p l e R s m args below meth c H1 locs1 cells slots Q (F0 m (pc + 3) ls rest)) : W p l e R s m args below meth c H locs cells slots Q (F0 m pc ls (.long x :: .ref a :: rest)) :=
  va_put (C := R_P) (T := F_P) (N := 19) hx hb hts hin_P fy_P fy_P_ok n_P hown hK hP hD hS q0 he rfl 13 (by decide) (hts _ k_P_77) (fun _ h => h) rfl (fy_P_ok 13 (by decide)) rfl rfl (by omega) hdg kk
theorem g_P_pulses (hx : p.tables.exec = Jvm.exec) (hb : c.code = cc) (hts : ∀ w ∈ wG, w.before args s = true) (hown : s.vm.findClass R_P = some m.cls) (hK : va_K D cls ty s) (hP : va_P D cls ws H) (q0 : Nat) (he : ws[q0]? = some (a, .inr (0, fs))) {v : Value} (hv : fs[14]? = some v) (hdg : decode cc pc = .ok (.getfield 81, 3)) (kk : W p l e R s m args below meth c H locs cells slots Q (F0 m (pc + 3) ls (v :: rest))) : W p l e R s m args below meth c H locs cells slots Q (F0 m pc ls (.ref a :: rest)) :=
  va_get (C := R_P) (T := F_P) (N := 19) hx hb hts hin_P hown hK hP q0 he rfl 14 (by decide) (hts _ k_P_81) (fun _ h => h) hv hdg kk
theorem u_P_pulses (hx : p.tables.exec = Jvm.exec) (hb : c.code = cc) (hts : ∀ w ∈ wG, w.before args s = true) (hown : s.vm.findClass R_P = some m.cls) (hK : va_K D cls ty s) (hP : va_P D cls ws H) (hD : va_D A ws) (hS : va_S A H0 H locs) (q0 : Nat) (he : ws[q0]? = some (a, .inr (0, fs))) (hn : fs.length = 19) {x : Int32} (hdg : decode cc pc = .ok (.putfield 81, 3)) (kk : ∀ (H1 : Heap) (locs1 : List Loc), va_P D cls (ws.set q0 (a, .inr (0, fs.set 14 (.int x)))) H1 → va_D A (ws.set q0 (a, .inr (0, fs.set 14 (.int x)))) → va_S A H0 H1 locs1 → W p l e R s m args below meth c H1 locs1 cells slots Q (F0 m (pc + 3) ls rest)) : W p l e R s m args below meth c H locs cells slots Q (F0 m pc ls (.int x :: .ref a :: rest)) :=
  va_put (C := R_P) (T := F_P) (N := 19) hx hb hts hin_P fy_P fy_P_ok n_P hown hK hP hD hS q0 he rfl 14 (by decide) (hts _ k_P_81) (fun _ h => h) rfl (fy_P_ok 14 (by decide)) rfl rfl (by omega) hdg kk
theorem g_P_last (hx : p.tables.exec = Jvm.exec) (hb : c.code = cc) (hts : ∀ w ∈ wG, w.before args s = true) (hown : s.vm.findClass R_P = some m.cls) (hK : va_K D cls ty s) (hP : va_P D cls ws H) (q0 : Nat) (he : ws[q0]? = some (a, .inr (0, fs))) {v : Value} (hv : fs[15]? = some v) (hdg : decode cc pc = .ok (.getfield 84, 3)) (kk : W p l e R s m args below meth c H locs cells slots Q (F0 m (pc + 3) ls (v :: rest))) : W p l e R s m args below meth c H locs cells slots Q (F0 m pc ls (.ref a :: rest)) :=
  va_get (C := R_P) (T := F_P) (N := 19) hx hb hts hin_P hown hK hP q0 he rfl 15 (by decide) (hts _ k_P_84) (fun _ h => h) hv hdg kk
theorem u_P_last (hx : p.tables.exec = Jvm.exec) (hb : c.code = cc) (hts : ∀ w ∈ wG, w.before args s = true) (hown : s.vm.findClass R_P = some m.cls) (hK : va_K D cls ty s) (hP : va_P D cls ws H) (hD : va_D A ws) (hS : va_S A H0 H locs) (q0 : Nat) (he : ws[q0]? = some (a, .inr (0, fs))) (hn : fs.length = 19) {x : Int32} (hdg : decode cc pc = .ok (.putfield 84, 3)) (kk : ∀ (H1 : Heap) (locs1 : List Loc), va_P D cls (ws.set q0 (a, .inr (0, fs.set 15 (.int x)))) H1 → va_D A (ws.set q0 (a, .inr (0, fs.set 15 (.int x)))) → va_S A H0 H1 locs1 → W p l e R s m args below meth c H1 locs1 cells slots Q (F0 m (pc + 3) ls rest)) : W p l e R s m args below meth c H locs cells slots Q (F0 m pc ls (.int x :: .ref a :: rest)) :=
  va_put (C := R_P) (T := F_P) (N := 19) hx hb hts hin_P fy_P fy_P_ok n_P hown hK hP hD hS q0 he rfl 15 (by decide) (hts _ k_P_84) (fun _ h => h) rfl (fy_P_ok 15 (by decide)) rfl rfl (by omega) hdg kk
theorem g_P_feedRate (hx : p.tables.exec = Jvm.exec) (hb : c.code = cc) (hts : ∀ w ∈ wG, w.before args s = true) (hown : s.vm.findClass R_P = some m.cls) (hK : va_K D cls ty s) (hP : va_P D cls ws H) (q0 : Nat) (he : ws[q0]? = some (a, .inr (0, fs))) {v : Value} (hv : fs[16]? = some v) (hdg : decode cc pc = .ok (.getfield 87, 3)) (kk : W p l e R s m args below meth c H locs cells slots Q (F0 m (pc + 3) ls (v :: rest))) : W p l e R s m args below meth c H locs cells slots Q (F0 m pc ls (.ref a :: rest)) :=
  va_get (C := R_P) (T := F_P) (N := 19) hx hb hts hin_P hown hK hP q0 he rfl 16 (by decide) (hts _ k_P_87) (fun _ h => h) hv hdg kk
theorem u_P_feedRate (hx : p.tables.exec = Jvm.exec) (hb : c.code = cc) (hts : ∀ w ∈ wG, w.before args s = true) (hown : s.vm.findClass R_P = some m.cls) (hK : va_K D cls ty s) (hP : va_P D cls ws H) (hD : va_D A ws) (hS : va_S A H0 H locs) (q0 : Nat) (he : ws[q0]? = some (a, .inr (0, fs))) (hn : fs.length = 19) {x : Int32} (hdg : decode cc pc = .ok (.putfield 87, 3)) (kk : ∀ (H1 : Heap) (locs1 : List Loc), va_P D cls (ws.set q0 (a, .inr (0, fs.set 16 (.int x)))) H1 → va_D A (ws.set q0 (a, .inr (0, fs.set 16 (.int x)))) → va_S A H0 H1 locs1 → W p l e R s m args below meth c H1 locs1 cells slots Q (F0 m (pc + 3) ls rest)) : W p l e R s m args below meth c H locs cells slots Q (F0 m pc ls (.int x :: .ref a :: rest)) :=
  va_put (C := R_P) (T := F_P) (N := 19) hx hb hts hin_P fy_P fy_P_ok n_P hown hK hP hD hS q0 he rfl 16 (by decide) (hts _ k_P_87) (fun _ h => h) rfl (fy_P_ok 16 (by decide)) rfl rfl (by omega) hdg kk
theorem g_P_motion (hx : p.tables.exec = Jvm.exec) (hb : c.code = cc) (hts : ∀ w ∈ wG, w.before args s = true) (hown : s.vm.findClass R_P = some m.cls) (hK : va_K D cls ty s) (hP : va_P D cls ws H) (q0 : Nat) (he : ws[q0]? = some (a, .inr (0, fs))) {v : Value} (hv : fs[17]? = some v) (hdg : decode cc pc = .ok (.getfield 90, 3)) (kk : W p l e R s m args below meth c H locs cells slots Q (F0 m (pc + 3) ls (v :: rest))) : W p l e R s m args below meth c H locs cells slots Q (F0 m pc ls (.ref a :: rest)) :=
  va_get (C := R_P) (T := F_P) (N := 19) hx hb hts hin_P hown hK hP q0 he rfl 17 (by decide) (hts _ k_P_90) (fun _ h => h) hv hdg kk
theorem u_P_motion (hx : p.tables.exec = Jvm.exec) (hb : c.code = cc) (hts : ∀ w ∈ wG, w.before args s = true) (hown : s.vm.findClass R_P = some m.cls) (hK : va_K D cls ty s) (hP : va_P D cls ws H) (hD : va_D A ws) (hS : va_S A H0 H locs) (q0 : Nat) (he : ws[q0]? = some (a, .inr (0, fs))) (hn : fs.length = 19) {x : Int32} (hdg : decode cc pc = .ok (.putfield 90, 3)) (kk : ∀ (H1 : Heap) (locs1 : List Loc), va_P D cls (ws.set q0 (a, .inr (0, fs.set 17 (.int x)))) H1 → va_D A (ws.set q0 (a, .inr (0, fs.set 17 (.int x)))) → va_S A H0 H1 locs1 → W p l e R s m args below meth c H1 locs1 cells slots Q (F0 m (pc + 3) ls rest)) : W p l e R s m args below meth c H locs cells slots Q (F0 m pc ls (.int x :: .ref a :: rest)) :=
  va_put (C := R_P) (T := F_P) (N := 19) hx hb hts hin_P fy_P fy_P_ok n_P hown hK hP hD hS q0 he rfl 17 (by decide) (hts _ k_P_90) (fun _ h => h) rfl (fy_P_ok 17 (by decide)) rfl rfl (by omega) hdg kk
theorem g_P_relative (hx : p.tables.exec = Jvm.exec) (hb : c.code = cc) (hts : ∀ w ∈ wG, w.before args s = true) (hown : s.vm.findClass R_P = some m.cls) (hK : va_K D cls ty s) (hP : va_P D cls ws H) (q0 : Nat) (he : ws[q0]? = some (a, .inr (0, fs))) {v : Value} (hv : fs[18]? = some v) (hdg : decode cc pc = .ok (.getfield 93, 3)) (kk : W p l e R s m args below meth c H locs cells slots Q (F0 m (pc + 3) ls (v :: rest))) : W p l e R s m args below meth c H locs cells slots Q (F0 m pc ls (.ref a :: rest)) :=
  va_get (C := R_P) (T := F_P) (N := 19) hx hb hts hin_P hown hK hP q0 he rfl 18 (by decide) (hts _ k_P_93) (fun _ h => h) hv hdg kk
theorem u_P_relative (hx : p.tables.exec = Jvm.exec) (hb : c.code = cc) (hts : ∀ w ∈ wG, w.before args s = true) (hown : s.vm.findClass R_P = some m.cls) (hK : va_K D cls ty s) (hP : va_P D cls ws H) (hD : va_D A ws) (hS : va_S A H0 H locs) (q0 : Nat) (he : ws[q0]? = some (a, .inr (0, fs))) (hn : fs.length = 19) {x : Int32} (hz : bZ x) (hdg : decode cc pc = .ok (.putfield 93, 3)) (kk : ∀ (H1 : Heap) (locs1 : List Loc), va_P D cls (ws.set q0 (a, .inr (0, fs.set 18 (.int x)))) H1 → va_D A (ws.set q0 (a, .inr (0, fs.set 18 (.int x)))) → va_S A H0 H1 locs1 → W p l e R s m args below meth c H1 locs1 cells slots Q (F0 m (pc + 3) ls rest)) : W p l e R s m args below meth c H locs cells slots Q (F0 m pc ls (.int x :: .ref a :: rest)) :=
  va_put (C := R_P) (T := F_P) (N := 19) hx hb hts hin_P fy_P fy_P_ok n_P hown hK hP hD hS q0 he rfl 18 (by decide) (hts _ k_P_93) (fun _ h => h) rfl (fy_P_ok 18 (by decide)) hz.nar hz.fit (by omega) hdg kk
theorem g_T_codes (hx : p.tables.exec = Jvm.exec) (hb : c.code = cc) (hts : ∀ w ∈ wG, w.before args s = true) (hown : s.vm.findClass R_T = some m.cls) (hK : va_K D cls ty s) (hP : va_P D cls ws H) (q0 : Nat) (he : ws[q0]? = some (a, .inr (1, fs))) {v : Value} (hv : fs[0]? = some v) (hdg : decode cc pc = .ok (.getfield 9, 3)) (kk : W p l e R s m args below meth c H locs cells slots Q (F0 m (pc + 3) ls (v :: rest))) : W p l e R s m args below meth c H locs cells slots Q (F0 m pc ls (.ref a :: rest)) :=
  va_get (C := R_T) (T := F_T) (N := 2) hx hb hts hin_T hown hK hP q0 he rfl 0 (by decide) (hts _ k_T_9) (fun _ h => h) hv hdg kk
theorem g_T_size (hx : p.tables.exec = Jvm.exec) (hb : c.code = cc) (hts : ∀ w ∈ wG, w.before args s = true) (hown : s.vm.findClass R_T = some m.cls) (hK : va_K D cls ty s) (hP : va_P D cls ws H) (q0 : Nat) (he : ws[q0]? = some (a, .inr (1, fs))) {v : Value} (hv : fs[1]? = some v) (hdg : decode cc pc = .ok (.getfield 15, 3)) (kk : W p l e R s m args below meth c H locs cells slots Q (F0 m (pc + 3) ls (v :: rest))) : W p l e R s m args below meth c H locs cells slots Q (F0 m pc ls (.ref a :: rest)) :=
  va_get (C := R_T) (T := F_T) (N := 2) hx hb hts hin_T hown hK hP q0 he rfl 1 (by decide) (hts _ k_T_15) (fun _ h => h) hv hdg kk
theorem u_T_size (hx : p.tables.exec = Jvm.exec) (hb : c.code = cc) (hts : ∀ w ∈ wG, w.before args s = true) (hown : s.vm.findClass R_T = some m.cls) (hK : va_K D cls ty s) (hP : va_P D cls ws H) (hD : va_D A ws) (hS : va_S A H0 H locs) (q0 : Nat) (he : ws[q0]? = some (a, .inr (1, fs))) (hn : fs.length = 2) {x : Int32} (hdg : decode cc pc = .ok (.putfield 15, 3)) (kk : ∀ (H1 : Heap) (locs1 : List Loc), va_P D cls (ws.set q0 (a, .inr (1, fs.set 1 (.int x)))) H1 → va_D A (ws.set q0 (a, .inr (1, fs.set 1 (.int x)))) → va_S A H0 H1 locs1 → W p l e R s m args below meth c H1 locs1 cells slots Q (F0 m (pc + 3) ls rest)) : W p l e R s m args below meth c H locs cells slots Q (F0 m pc ls (.int x :: .ref a :: rest)) :=
  va_put (C := R_T) (T := F_T) (N := 2) hx hb hts hin_T fy_T fy_T_ok n_T hown hK hP hD hS q0 he rfl 1 (by decide) (hts _ k_T_15) (fun _ h => h) rfl (fy_T_ok 1 (by decide)) rfl rfl (by omega) hdg kk
theorem g_W_row (hx : p.tables.exec = Jvm.exec) (hb : c.code = cc) (hts : ∀ w ∈ wG, w.before args s = true) (hown : s.vm.findClass R_W = some m.cls) (hK : va_K D cls ty s) (hP : va_P D cls ws H) (q0 : Nat) (he : ws[q0]? = some (a, .inr (2, fs))) {v : Value} (hv : fs[0]? = some v) (hdg : decode cc pc = .ok (.getfield 9, 3)) (kk : W p l e R s m args below meth c H locs cells slots Q (F0 m (pc + 3) ls (v :: rest))) : W p l e R s m args below meth c H locs cells slots Q (F0 m pc ls (.ref a :: rest)) :=
  va_get (C := R_W) (T := F_W) (N := 7) hx hb hts hin_W hown hK hP q0 he rfl 0 (by decide) (hts _ k_W_9) (fun _ h => h) hv hdg kk
theorem g_W_rowSize (hx : p.tables.exec = Jvm.exec) (hb : c.code = cc) (hts : ∀ w ∈ wG, w.before args s = true) (hown : s.vm.findClass R_W = some m.cls) (hK : va_K D cls ty s) (hP : va_P D cls ws H) (q0 : Nat) (he : ws[q0]? = some (a, .inr (2, fs))) {v : Value} (hv : fs[1]? = some v) (hdg : decode cc pc = .ok (.getfield 15, 3)) (kk : W p l e R s m args below meth c H locs cells slots Q (F0 m (pc + 3) ls (v :: rest))) : W p l e R s m args below meth c H locs cells slots Q (F0 m pc ls (.ref a :: rest)) :=
  va_get (C := R_W) (T := F_W) (N := 7) hx hb hts hin_W hown hK hP q0 he rfl 1 (by decide) (hts _ k_W_15) (fun _ h => h) hv hdg kk
theorem u_W_rowSize (hx : p.tables.exec = Jvm.exec) (hb : c.code = cc) (hts : ∀ w ∈ wG, w.before args s = true) (hown : s.vm.findClass R_W = some m.cls) (hK : va_K D cls ty s) (hP : va_P D cls ws H) (hD : va_D A ws) (hS : va_S A H0 H locs) (q0 : Nat) (he : ws[q0]? = some (a, .inr (2, fs))) (hn : fs.length = 7) {x : Int32} (hdg : decode cc pc = .ok (.putfield 15, 3)) (kk : ∀ (H1 : Heap) (locs1 : List Loc), va_P D cls (ws.set q0 (a, .inr (2, fs.set 1 (.int x)))) H1 → va_D A (ws.set q0 (a, .inr (2, fs.set 1 (.int x)))) → va_S A H0 H1 locs1 → W p l e R s m args below meth c H1 locs1 cells slots Q (F0 m (pc + 3) ls rest)) : W p l e R s m args below meth c H locs cells slots Q (F0 m pc ls (.int x :: .ref a :: rest)) :=
  va_put (C := R_W) (T := F_W) (N := 7) hx hb hts hin_W fy_W fy_W_ok n_W hown hK hP hD hS q0 he rfl 1 (by decide) (hts _ k_W_15) (fun _ h => h) rfl (fy_W_ok 1 (by decide)) rfl rfl (by omega) hdg kk
theorem g_W_at (hx : p.tables.exec = Jvm.exec) (hb : c.code = cc) (hts : ∀ w ∈ wG, w.before args s = true) (hown : s.vm.findClass R_W = some m.cls) (hK : va_K D cls ty s) (hP : va_P D cls ws H) (q0 : Nat) (he : ws[q0]? = some (a, .inr (2, fs))) {v : Value} (hv : fs[2]? = some v) (hdg : decode cc pc = .ok (.getfield 19, 3)) (kk : W p l e R s m args below meth c H locs cells slots Q (F0 m (pc + 3) ls (v :: rest))) : W p l e R s m args below meth c H locs cells slots Q (F0 m pc ls (.ref a :: rest)) :=
  va_get (C := R_W) (T := F_W) (N := 7) hx hb hts hin_W hown hK hP q0 he rfl 2 (by decide) (hts _ k_W_19) (fun _ h => h) hv hdg kk
theorem u_W_at (hx : p.tables.exec = Jvm.exec) (hb : c.code = cc) (hts : ∀ w ∈ wG, w.before args s = true) (hown : s.vm.findClass R_W = some m.cls) (hK : va_K D cls ty s) (hP : va_P D cls ws H) (hD : va_D A ws) (hS : va_S A H0 H locs) (q0 : Nat) (he : ws[q0]? = some (a, .inr (2, fs))) (hn : fs.length = 7) {x : Int32} (hdg : decode cc pc = .ok (.putfield 19, 3)) (kk : ∀ (H1 : Heap) (locs1 : List Loc), va_P D cls (ws.set q0 (a, .inr (2, fs.set 2 (.int x)))) H1 → va_D A (ws.set q0 (a, .inr (2, fs.set 2 (.int x)))) → va_S A H0 H1 locs1 → W p l e R s m args below meth c H1 locs1 cells slots Q (F0 m (pc + 3) ls rest)) : W p l e R s m args below meth c H locs cells slots Q (F0 m pc ls (.int x :: .ref a :: rest)) :=
  va_put (C := R_W) (T := F_W) (N := 7) hx hb hts hin_W fy_W fy_W_ok n_W hown hK hP hD hS q0 he rfl 2 (by decide) (hts _ k_W_19) (fun _ h => h) rfl (fy_W_ok 2 (by decide)) rfl rfl (by omega) hdg kk
theorem g_W_present (hx : p.tables.exec = Jvm.exec) (hb : c.code = cc) (hts : ∀ w ∈ wG, w.before args s = true) (hown : s.vm.findClass R_W = some m.cls) (hK : va_K D cls ty s) (hP : va_P D cls ws H) (q0 : Nat) (he : ws[q0]? = some (a, .inr (2, fs))) {v : Value} (hv : fs[3]? = some v) (hdg : decode cc pc = .ok (.getfield 22, 3)) (kk : W p l e R s m args below meth c H locs cells slots Q (F0 m (pc + 3) ls (v :: rest))) : W p l e R s m args below meth c H locs cells slots Q (F0 m pc ls (.ref a :: rest)) :=
  va_get (C := R_W) (T := F_W) (N := 7) hx hb hts hin_W hown hK hP q0 he rfl 3 (by decide) (hts _ k_W_22) (fun _ h => h) hv hdg kk
theorem g_W_numbers (hx : p.tables.exec = Jvm.exec) (hb : c.code = cc) (hts : ∀ w ∈ wG, w.before args s = true) (hown : s.vm.findClass R_W = some m.cls) (hK : va_K D cls ty s) (hP : va_P D cls ws H) (q0 : Nat) (he : ws[q0]? = some (a, .inr (2, fs))) {v : Value} (hv : fs[4]? = some v) (hdg : decode cc pc = .ok (.getfield 26, 3)) (kk : W p l e R s m args below meth c H locs cells slots Q (F0 m (pc + 3) ls (v :: rest))) : W p l e R s m args below meth c H locs cells slots Q (F0 m pc ls (.ref a :: rest)) :=
  va_get (C := R_W) (T := F_W) (N := 7) hx hb hts hin_W hown hK hP q0 he rfl 4 (by decide) (hts _ k_W_26) (fun _ h => h) hv hdg kk
theorem g_W_motion (hx : p.tables.exec = Jvm.exec) (hb : c.code = cc) (hts : ∀ w ∈ wG, w.before args s = true) (hown : s.vm.findClass R_W = some m.cls) (hK : va_K D cls ty s) (hP : va_P D cls ws H) (q0 : Nat) (he : ws[q0]? = some (a, .inr (2, fs))) {v : Value} (hv : fs[5]? = some v) (hdg : decode cc pc = .ok (.getfield 30, 3)) (kk : W p l e R s m args below meth c H locs cells slots Q (F0 m (pc + 3) ls (v :: rest))) : W p l e R s m args below meth c H locs cells slots Q (F0 m pc ls (.ref a :: rest)) :=
  va_get (C := R_W) (T := F_W) (N := 7) hx hb hts hin_W hown hK hP q0 he rfl 5 (by decide) (hts _ k_W_30) (fun _ h => h) hv hdg kk
theorem u_W_motion (hx : p.tables.exec = Jvm.exec) (hb : c.code = cc) (hts : ∀ w ∈ wG, w.before args s = true) (hown : s.vm.findClass R_W = some m.cls) (hK : va_K D cls ty s) (hP : va_P D cls ws H) (hD : va_D A ws) (hS : va_S A H0 H locs) (q0 : Nat) (he : ws[q0]? = some (a, .inr (2, fs))) (hn : fs.length = 7) {x : Int32} (hdg : decode cc pc = .ok (.putfield 30, 3)) (kk : ∀ (H1 : Heap) (locs1 : List Loc), va_P D cls (ws.set q0 (a, .inr (2, fs.set 5 (.int x)))) H1 → va_D A (ws.set q0 (a, .inr (2, fs.set 5 (.int x)))) → va_S A H0 H1 locs1 → W p l e R s m args below meth c H1 locs1 cells slots Q (F0 m (pc + 3) ls rest)) : W p l e R s m args below meth c H locs cells slots Q (F0 m pc ls (.int x :: .ref a :: rest)) :=
  va_put (C := R_W) (T := F_W) (N := 7) hx hb hts hin_W fy_W fy_W_ok n_W hown hK hP hD hS q0 he rfl 5 (by decide) (hts _ k_W_30) (fun _ h => h) rfl (fy_W_ok 5 (by decide)) rfl rfl (by omega) hdg kk
theorem g_W_distances (hx : p.tables.exec = Jvm.exec) (hb : c.code = cc) (hts : ∀ w ∈ wG, w.before args s = true) (hown : s.vm.findClass R_W = some m.cls) (hK : va_K D cls ty s) (hP : va_P D cls ws H) (q0 : Nat) (he : ws[q0]? = some (a, .inr (2, fs))) {v : Value} (hv : fs[6]? = some v) (hdg : decode cc pc = .ok (.getfield 33, 3)) (kk : W p l e R s m args below meth c H locs cells slots Q (F0 m (pc + 3) ls (v :: rest))) : W p l e R s m args below meth c H locs cells slots Q (F0 m pc ls (.ref a :: rest)) :=
  va_get (C := R_W) (T := F_W) (N := 7) hx hb hts hin_W hown hK hP q0 he rfl 6 (by decide) (hts _ k_W_33) (fun _ h => h) hv hdg kk
theorem u_W_distances (hx : p.tables.exec = Jvm.exec) (hb : c.code = cc) (hts : ∀ w ∈ wG, w.before args s = true) (hown : s.vm.findClass R_W = some m.cls) (hK : va_K D cls ty s) (hP : va_P D cls ws H) (hD : va_D A ws) (hS : va_S A H0 H locs) (q0 : Nat) (he : ws[q0]? = some (a, .inr (2, fs))) (hn : fs.length = 7) {x : Int32} (hdg : decode cc pc = .ok (.putfield 33, 3)) (kk : ∀ (H1 : Heap) (locs1 : List Loc), va_P D cls (ws.set q0 (a, .inr (2, fs.set 6 (.int x)))) H1 → va_D A (ws.set q0 (a, .inr (2, fs.set 6 (.int x)))) → va_S A H0 H1 locs1 → W p l e R s m args below meth c H1 locs1 cells slots Q (F0 m (pc + 3) ls rest)) : W p l e R s m args below meth c H locs cells slots Q (F0 m pc ls (.int x :: .ref a :: rest)) :=
  va_put (C := R_W) (T := F_W) (N := 7) hx hb hts hin_W fy_W fy_W_ok n_W hown hK hP hD hS q0 he rfl 6 (by decide) (hts _ k_W_33) (fun _ h => h) rfl (fy_W_ok 6 (by decide)) rfl rfl (by omega) hdg kk
theorem g_S_startX (hx : p.tables.exec = Jvm.exec) (hb : c.code = cc) (hts : ∀ w ∈ wG, w.before args s = true) (hown : s.vm.findClass R_S = some m.cls) (hK : va_K D cls ty s) (hP : va_P D cls ws H) (q0 : Nat) (he : ws[q0]? = some (a, .inr (3, fs))) {v : Value} (hv : fs[0]? = some v) (hdg : decode cc pc = .ok (.getfield 7, 3)) (kk : W p l e R s m args below meth c H locs cells slots Q (F0 m (pc + 3) ls (v :: rest))) : W p l e R s m args below meth c H locs cells slots Q (F0 m pc ls (.ref a :: rest)) :=
  va_get (C := R_S) (T := F_S) (N := 5) hx hb hts hin_S hown hK hP q0 he rfl 0 (by decide) (hts _ k_S_7) (fun _ h => h) hv hdg kk
theorem u_S_startX (hx : p.tables.exec = Jvm.exec) (hb : c.code = cc) (hts : ∀ w ∈ wG, w.before args s = true) (hown : s.vm.findClass R_S = some m.cls) (hK : va_K D cls ty s) (hP : va_P D cls ws H) (hD : va_D A ws) (hS : va_S A H0 H locs) (q0 : Nat) (he : ws[q0]? = some (a, .inr (3, fs))) (hn : fs.length = 5) {x : Int32} (hdg : decode cc pc = .ok (.putfield 7, 3)) (kk : ∀ (H1 : Heap) (locs1 : List Loc), va_P D cls (ws.set q0 (a, .inr (3, fs.set 0 (.int x)))) H1 → va_D A (ws.set q0 (a, .inr (3, fs.set 0 (.int x)))) → va_S A H0 H1 locs1 → W p l e R s m args below meth c H1 locs1 cells slots Q (F0 m (pc + 3) ls rest)) : W p l e R s m args below meth c H locs cells slots Q (F0 m pc ls (.int x :: .ref a :: rest)) :=
  va_put (C := R_S) (T := F_S) (N := 5) hx hb hts hin_S fy_S fy_S_ok n_S hown hK hP hD hS q0 he rfl 0 (by decide) (hts _ k_S_7) (fun _ h => h) rfl (fy_S_ok 0 (by decide)) rfl rfl (by omega) hdg kk
theorem g_S_startY (hx : p.tables.exec = Jvm.exec) (hb : c.code = cc) (hts : ∀ w ∈ wG, w.before args s = true) (hown : s.vm.findClass R_S = some m.cls) (hK : va_K D cls ty s) (hP : va_P D cls ws H) (q0 : Nat) (he : ws[q0]? = some (a, .inr (3, fs))) {v : Value} (hv : fs[1]? = some v) (hdg : decode cc pc = .ok (.getfield 13, 3)) (kk : W p l e R s m args below meth c H locs cells slots Q (F0 m (pc + 3) ls (v :: rest))) : W p l e R s m args below meth c H locs cells slots Q (F0 m pc ls (.ref a :: rest)) :=
  va_get (C := R_S) (T := F_S) (N := 5) hx hb hts hin_S hown hK hP q0 he rfl 1 (by decide) (hts _ k_S_13) (fun _ h => h) hv hdg kk
theorem u_S_startY (hx : p.tables.exec = Jvm.exec) (hb : c.code = cc) (hts : ∀ w ∈ wG, w.before args s = true) (hown : s.vm.findClass R_S = some m.cls) (hK : va_K D cls ty s) (hP : va_P D cls ws H) (hD : va_D A ws) (hS : va_S A H0 H locs) (q0 : Nat) (he : ws[q0]? = some (a, .inr (3, fs))) (hn : fs.length = 5) {x : Int32} (hdg : decode cc pc = .ok (.putfield 13, 3)) (kk : ∀ (H1 : Heap) (locs1 : List Loc), va_P D cls (ws.set q0 (a, .inr (3, fs.set 1 (.int x)))) H1 → va_D A (ws.set q0 (a, .inr (3, fs.set 1 (.int x)))) → va_S A H0 H1 locs1 → W p l e R s m args below meth c H1 locs1 cells slots Q (F0 m (pc + 3) ls rest)) : W p l e R s m args below meth c H locs cells slots Q (F0 m pc ls (.int x :: .ref a :: rest)) :=
  va_put (C := R_S) (T := F_S) (N := 5) hx hb hts hin_S fy_S fy_S_ok n_S hown hK hP hD hS q0 he rfl 1 (by decide) (hts _ k_S_13) (fun _ h => h) rfl (fy_S_ok 1 (by decide)) rfl rfl (by omega) hdg kk
theorem g_S_dx (hx : p.tables.exec = Jvm.exec) (hb : c.code = cc) (hts : ∀ w ∈ wG, w.before args s = true) (hown : s.vm.findClass R_S = some m.cls) (hK : va_K D cls ty s) (hP : va_P D cls ws H) (q0 : Nat) (he : ws[q0]? = some (a, .inr (3, fs))) {v : Value} (hv : fs[2]? = some v) (hdg : decode cc pc = .ok (.getfield 16, 3)) (kk : W p l e R s m args below meth c H locs cells slots Q (F0 m (pc + 3) ls (v :: rest))) : W p l e R s m args below meth c H locs cells slots Q (F0 m pc ls (.ref a :: rest)) :=
  va_get (C := R_S) (T := F_S) (N := 5) hx hb hts hin_S hown hK hP q0 he rfl 2 (by decide) (hts _ k_S_16) (fun _ h => h) hv hdg kk
theorem u_S_dx (hx : p.tables.exec = Jvm.exec) (hb : c.code = cc) (hts : ∀ w ∈ wG, w.before args s = true) (hown : s.vm.findClass R_S = some m.cls) (hK : va_K D cls ty s) (hP : va_P D cls ws H) (hD : va_D A ws) (hS : va_S A H0 H locs) (q0 : Nat) (he : ws[q0]? = some (a, .inr (3, fs))) (hn : fs.length = 5) {x : Int32} (hdg : decode cc pc = .ok (.putfield 16, 3)) (kk : ∀ (H1 : Heap) (locs1 : List Loc), va_P D cls (ws.set q0 (a, .inr (3, fs.set 2 (.int x)))) H1 → va_D A (ws.set q0 (a, .inr (3, fs.set 2 (.int x)))) → va_S A H0 H1 locs1 → W p l e R s m args below meth c H1 locs1 cells slots Q (F0 m (pc + 3) ls rest)) : W p l e R s m args below meth c H locs cells slots Q (F0 m pc ls (.int x :: .ref a :: rest)) :=
  va_put (C := R_S) (T := F_S) (N := 5) hx hb hts hin_S fy_S fy_S_ok n_S hown hK hP hD hS q0 he rfl 2 (by decide) (hts _ k_S_16) (fun _ h => h) rfl (fy_S_ok 2 (by decide)) rfl rfl (by omega) hdg kk
theorem g_S_dy (hx : p.tables.exec = Jvm.exec) (hb : c.code = cc) (hts : ∀ w ∈ wG, w.before args s = true) (hown : s.vm.findClass R_S = some m.cls) (hK : va_K D cls ty s) (hP : va_P D cls ws H) (q0 : Nat) (he : ws[q0]? = some (a, .inr (3, fs))) {v : Value} (hv : fs[3]? = some v) (hdg : decode cc pc = .ok (.getfield 19, 3)) (kk : W p l e R s m args below meth c H locs cells slots Q (F0 m (pc + 3) ls (v :: rest))) : W p l e R s m args below meth c H locs cells slots Q (F0 m pc ls (.ref a :: rest)) :=
  va_get (C := R_S) (T := F_S) (N := 5) hx hb hts hin_S hown hK hP q0 he rfl 3 (by decide) (hts _ k_S_19) (fun _ h => h) hv hdg kk
theorem u_S_dy (hx : p.tables.exec = Jvm.exec) (hb : c.code = cc) (hts : ∀ w ∈ wG, w.before args s = true) (hown : s.vm.findClass R_S = some m.cls) (hK : va_K D cls ty s) (hP : va_P D cls ws H) (hD : va_D A ws) (hS : va_S A H0 H locs) (q0 : Nat) (he : ws[q0]? = some (a, .inr (3, fs))) (hn : fs.length = 5) {x : Int32} (hdg : decode cc pc = .ok (.putfield 19, 3)) (kk : ∀ (H1 : Heap) (locs1 : List Loc), va_P D cls (ws.set q0 (a, .inr (3, fs.set 3 (.int x)))) H1 → va_D A (ws.set q0 (a, .inr (3, fs.set 3 (.int x)))) → va_S A H0 H1 locs1 → W p l e R s m args below meth c H1 locs1 cells slots Q (F0 m (pc + 3) ls rest)) : W p l e R s m args below meth c H locs cells slots Q (F0 m pc ls (.int x :: .ref a :: rest)) :=
  va_put (C := R_S) (T := F_S) (N := 5) hx hb hts hin_S fy_S fy_S_ok n_S hown hK hP hD hS q0 he rfl 3 (by decide) (hts _ k_S_19) (fun _ h => h) rfl (fy_S_ok 3 (by decide)) rfl rfl (by omega) hdg kk
theorem g_S_size (hx : p.tables.exec = Jvm.exec) (hb : c.code = cc) (hts : ∀ w ∈ wG, w.before args s = true) (hown : s.vm.findClass R_S = some m.cls) (hK : va_K D cls ty s) (hP : va_P D cls ws H) (q0 : Nat) (he : ws[q0]? = some (a, .inr (3, fs))) {v : Value} (hv : fs[4]? = some v) (hdg : decode cc pc = .ok (.getfield 22, 3)) (kk : W p l e R s m args below meth c H locs cells slots Q (F0 m (pc + 3) ls (v :: rest))) : W p l e R s m args below meth c H locs cells slots Q (F0 m pc ls (.ref a :: rest)) :=
  va_get (C := R_S) (T := F_S) (N := 5) hx hb hts hin_S hown hK hP q0 he rfl 4 (by decide) (hts _ k_S_22) (fun _ h => h) hv hdg kk
theorem u_S_size (hx : p.tables.exec = Jvm.exec) (hb : c.code = cc) (hts : ∀ w ∈ wG, w.before args s = true) (hown : s.vm.findClass R_S = some m.cls) (hK : va_K D cls ty s) (hP : va_P D cls ws H) (hD : va_D A ws) (hS : va_S A H0 H locs) (q0 : Nat) (he : ws[q0]? = some (a, .inr (3, fs))) (hn : fs.length = 5) {x : Int32} (hdg : decode cc pc = .ok (.putfield 22, 3)) (kk : ∀ (H1 : Heap) (locs1 : List Loc), va_P D cls (ws.set q0 (a, .inr (3, fs.set 4 (.int x)))) H1 → va_D A (ws.set q0 (a, .inr (3, fs.set 4 (.int x)))) → va_S A H0 H1 locs1 → W p l e R s m args below meth c H1 locs1 cells slots Q (F0 m (pc + 3) ls rest)) : W p l e R s m args below meth c H locs cells slots Q (F0 m pc ls (.int x :: .ref a :: rest)) :=
  va_put (C := R_S) (T := F_S) (N := 5) hx hb hts hin_S fy_S fy_S_ok n_S hown hK hP hD hS q0 he rfl 4 (by decide) (hts _ k_S_22) (fun _ h => h) rfl (fy_S_ok 4 (by decide)) rfl rfl (by omega) hdg kk
theorem g_A_reach (hx : p.tables.exec = Jvm.exec) (hb : c.code = cc) (hts : ∀ w ∈ wG, w.before args s = true) (hown : s.vm.findClass R_A = some m.cls) (hK : va_K D cls ty s) (hP : va_P D cls ws H) (q0 : Nat) (he : ws[q0]? = some (a, .inr (4, fs))) {v : Value} (hv : fs[0]? = some v) (hdg : decode cc pc = .ok (.getfield 9, 3)) (kk : W p l e R s m args below meth c H locs cells slots Q (F0 m (pc + 3) ls (v :: rest))) : W p l e R s m args below meth c H locs cells slots Q (F0 m pc ls (.ref a :: rest)) :=
  va_get (C := R_A) (T := F_A) (N := 8) hx hb hts hin_A hown hK hP q0 he rfl 0 (by decide) (hts _ k_A_9) (fun _ h => h) hv hdg kk
theorem g_A_centreX (hx : p.tables.exec = Jvm.exec) (hb : c.code = cc) (hts : ∀ w ∈ wG, w.before args s = true) (hown : s.vm.findClass R_A = some m.cls) (hK : va_K D cls ty s) (hP : va_P D cls ws H) (q0 : Nat) (he : ws[q0]? = some (a, .inr (4, fs))) {v : Value} (hv : fs[1]? = some v) (hdg : decode cc pc = .ok (.getfield 15, 3)) (kk : W p l e R s m args below meth c H locs cells slots Q (F0 m (pc + 3) ls (v :: rest))) : W p l e R s m args below meth c H locs cells slots Q (F0 m pc ls (.ref a :: rest)) :=
  va_get (C := R_A) (T := F_A) (N := 8) hx hb hts hin_A hown hK hP q0 he rfl 1 (by decide) (hts _ k_A_15) (fun _ h => h) hv hdg kk
theorem u_A_centreX (hx : p.tables.exec = Jvm.exec) (hb : c.code = cc) (hts : ∀ w ∈ wG, w.before args s = true) (hown : s.vm.findClass R_A = some m.cls) (hK : va_K D cls ty s) (hP : va_P D cls ws H) (hD : va_D A ws) (hS : va_S A H0 H locs) (q0 : Nat) (he : ws[q0]? = some (a, .inr (4, fs))) (hn : fs.length = 8) {x : Int32} (hdg : decode cc pc = .ok (.putfield 15, 3)) (kk : ∀ (H1 : Heap) (locs1 : List Loc), va_P D cls (ws.set q0 (a, .inr (4, fs.set 1 (.int x)))) H1 → va_D A (ws.set q0 (a, .inr (4, fs.set 1 (.int x)))) → va_S A H0 H1 locs1 → W p l e R s m args below meth c H1 locs1 cells slots Q (F0 m (pc + 3) ls rest)) : W p l e R s m args below meth c H locs cells slots Q (F0 m pc ls (.int x :: .ref a :: rest)) :=
  va_put (C := R_A) (T := F_A) (N := 8) hx hb hts hin_A fy_A fy_A_ok n_A hown hK hP hD hS q0 he rfl 1 (by decide) (hts _ k_A_15) (fun _ h => h) rfl (fy_A_ok 1 (by decide)) rfl rfl (by omega) hdg kk
theorem g_A_centreY (hx : p.tables.exec = Jvm.exec) (hb : c.code = cc) (hts : ∀ w ∈ wG, w.before args s = true) (hown : s.vm.findClass R_A = some m.cls) (hK : va_K D cls ty s) (hP : va_P D cls ws H) (q0 : Nat) (he : ws[q0]? = some (a, .inr (4, fs))) {v : Value} (hv : fs[2]? = some v) (hdg : decode cc pc = .ok (.getfield 19, 3)) (kk : W p l e R s m args below meth c H locs cells slots Q (F0 m (pc + 3) ls (v :: rest))) : W p l e R s m args below meth c H locs cells slots Q (F0 m pc ls (.ref a :: rest)) :=
  va_get (C := R_A) (T := F_A) (N := 8) hx hb hts hin_A hown hK hP q0 he rfl 2 (by decide) (hts _ k_A_19) (fun _ h => h) hv hdg kk
theorem u_A_centreY (hx : p.tables.exec = Jvm.exec) (hb : c.code = cc) (hts : ∀ w ∈ wG, w.before args s = true) (hown : s.vm.findClass R_A = some m.cls) (hK : va_K D cls ty s) (hP : va_P D cls ws H) (hD : va_D A ws) (hS : va_S A H0 H locs) (q0 : Nat) (he : ws[q0]? = some (a, .inr (4, fs))) (hn : fs.length = 8) {x : Int32} (hdg : decode cc pc = .ok (.putfield 19, 3)) (kk : ∀ (H1 : Heap) (locs1 : List Loc), va_P D cls (ws.set q0 (a, .inr (4, fs.set 2 (.int x)))) H1 → va_D A (ws.set q0 (a, .inr (4, fs.set 2 (.int x)))) → va_S A H0 H1 locs1 → W p l e R s m args below meth c H1 locs1 cells slots Q (F0 m (pc + 3) ls rest)) : W p l e R s m args below meth c H locs cells slots Q (F0 m pc ls (.int x :: .ref a :: rest)) :=
  va_put (C := R_A) (T := F_A) (N := 8) hx hb hts hin_A fy_A fy_A_ok n_A hown hK hP hD hS q0 he rfl 2 (by decide) (hts _ k_A_19) (fun _ h => h) rfl (fy_A_ok 2 (by decide)) rfl rfl (by omega) hdg kk
theorem g_A_diagonal (hx : p.tables.exec = Jvm.exec) (hb : c.code = cc) (hts : ∀ w ∈ wG, w.before args s = true) (hown : s.vm.findClass R_A = some m.cls) (hK : va_K D cls ty s) (hP : va_P D cls ws H) (q0 : Nat) (he : ws[q0]? = some (a, .inr (4, fs))) {v : Value} (hv : fs[3]? = some v) (hdg : decode cc pc = .ok (.getfield 22, 3)) (kk : W p l e R s m args below meth c H locs cells slots Q (F0 m (pc + 3) ls (v :: rest))) : W p l e R s m args below meth c H locs cells slots Q (F0 m pc ls (.ref a :: rest)) :=
  va_get (C := R_A) (T := F_A) (N := 8) hx hb hts hin_A hown hK hP q0 he rfl 3 (by decide) (hts _ k_A_22) (fun _ h => h) hv hdg kk
theorem u_A_diagonal (hx : p.tables.exec = Jvm.exec) (hb : c.code = cc) (hts : ∀ w ∈ wG, w.before args s = true) (hown : s.vm.findClass R_A = some m.cls) (hK : va_K D cls ty s) (hP : va_P D cls ws H) (hD : va_D A ws) (hS : va_S A H0 H locs) (q0 : Nat) (he : ws[q0]? = some (a, .inr (4, fs))) (hn : fs.length = 8) {x : Int32} (hdg : decode cc pc = .ok (.putfield 22, 3)) (kk : ∀ (H1 : Heap) (locs1 : List Loc), va_P D cls (ws.set q0 (a, .inr (4, fs.set 3 (.int x)))) H1 → va_D A (ws.set q0 (a, .inr (4, fs.set 3 (.int x)))) → va_S A H0 H1 locs1 → W p l e R s m args below meth c H1 locs1 cells slots Q (F0 m (pc + 3) ls rest)) : W p l e R s m args below meth c H locs cells slots Q (F0 m pc ls (.int x :: .ref a :: rest)) :=
  va_put (C := R_A) (T := F_A) (N := 8) hx hb hts hin_A fy_A fy_A_ok n_A hown hK hP hD hS q0 he rfl 3 (by decide) (hts _ k_A_22) (fun _ h => h) rfl (fy_A_ok 3 (by decide)) rfl rfl (by omega) hdg kk
theorem g_A_side (hx : p.tables.exec = Jvm.exec) (hb : c.code = cc) (hts : ∀ w ∈ wG, w.before args s = true) (hown : s.vm.findClass R_A = some m.cls) (hK : va_K D cls ty s) (hP : va_P D cls ws H) (q0 : Nat) (he : ws[q0]? = some (a, .inr (4, fs))) {v : Value} (hv : fs[4]? = some v) (hdg : decode cc pc = .ok (.getfield 25, 3)) (kk : W p l e R s m args below meth c H locs cells slots Q (F0 m (pc + 3) ls (v :: rest))) : W p l e R s m args below meth c H locs cells slots Q (F0 m pc ls (.ref a :: rest)) :=
  va_get (C := R_A) (T := F_A) (N := 8) hx hb hts hin_A hown hK hP q0 he rfl 4 (by decide) (hts _ k_A_25) (fun _ h => h) hv hdg kk
theorem u_A_side (hx : p.tables.exec = Jvm.exec) (hb : c.code = cc) (hts : ∀ w ∈ wG, w.before args s = true) (hown : s.vm.findClass R_A = some m.cls) (hK : va_K D cls ty s) (hP : va_P D cls ws H) (hD : va_D A ws) (hS : va_S A H0 H locs) (q0 : Nat) (he : ws[q0]? = some (a, .inr (4, fs))) (hn : fs.length = 8) {x : Int32} (hdg : decode cc pc = .ok (.putfield 25, 3)) (kk : ∀ (H1 : Heap) (locs1 : List Loc), va_P D cls (ws.set q0 (a, .inr (4, fs.set 4 (.int x)))) H1 → va_D A (ws.set q0 (a, .inr (4, fs.set 4 (.int x)))) → va_S A H0 H1 locs1 → W p l e R s m args below meth c H1 locs1 cells slots Q (F0 m (pc + 3) ls rest)) : W p l e R s m args below meth c H locs cells slots Q (F0 m pc ls (.int x :: .ref a :: rest)) :=
  va_put (C := R_A) (T := F_A) (N := 8) hx hb hts hin_A fy_A fy_A_ok n_A hown hK hP hD hS q0 he rfl 4 (by decide) (hts _ k_A_25) (fun _ h => h) rfl (fy_A_ok 4 (by decide)) rfl rfl (by omega) hdg kk
theorem g_A_first (hx : p.tables.exec = Jvm.exec) (hb : c.code = cc) (hts : ∀ w ∈ wG, w.before args s = true) (hown : s.vm.findClass R_A = some m.cls) (hK : va_K D cls ty s) (hP : va_P D cls ws H) (q0 : Nat) (he : ws[q0]? = some (a, .inr (4, fs))) {v : Value} (hv : fs[5]? = some v) (hdg : decode cc pc = .ok (.getfield 28, 3)) (kk : W p l e R s m args below meth c H locs cells slots Q (F0 m (pc + 3) ls (v :: rest))) : W p l e R s m args below meth c H locs cells slots Q (F0 m pc ls (.ref a :: rest)) :=
  va_get (C := R_A) (T := F_A) (N := 8) hx hb hts hin_A hown hK hP q0 he rfl 5 (by decide) (hts _ k_A_28) (fun _ h => h) hv hdg kk
theorem u_A_first (hx : p.tables.exec = Jvm.exec) (hb : c.code = cc) (hts : ∀ w ∈ wG, w.before args s = true) (hown : s.vm.findClass R_A = some m.cls) (hK : va_K D cls ty s) (hP : va_P D cls ws H) (hD : va_D A ws) (hS : va_S A H0 H locs) (q0 : Nat) (he : ws[q0]? = some (a, .inr (4, fs))) (hn : fs.length = 8) {x : Int32} (hdg : decode cc pc = .ok (.putfield 28, 3)) (kk : ∀ (H1 : Heap) (locs1 : List Loc), va_P D cls (ws.set q0 (a, .inr (4, fs.set 5 (.int x)))) H1 → va_D A (ws.set q0 (a, .inr (4, fs.set 5 (.int x)))) → va_S A H0 H1 locs1 → W p l e R s m args below meth c H1 locs1 cells slots Q (F0 m (pc + 3) ls rest)) : W p l e R s m args below meth c H locs cells slots Q (F0 m pc ls (.int x :: .ref a :: rest)) :=
  va_put (C := R_A) (T := F_A) (N := 8) hx hb hts hin_A fy_A fy_A_ok n_A hown hK hP hD hS q0 he rfl 5 (by decide) (hts _ k_A_28) (fun _ h => h) rfl (fy_A_ok 5 (by decide)) rfl rfl (by omega) hdg kk
theorem g_A_turn (hx : p.tables.exec = Jvm.exec) (hb : c.code = cc) (hts : ∀ w ∈ wG, w.before args s = true) (hown : s.vm.findClass R_A = some m.cls) (hK : va_K D cls ty s) (hP : va_P D cls ws H) (q0 : Nat) (he : ws[q0]? = some (a, .inr (4, fs))) {v : Value} (hv : fs[6]? = some v) (hdg : decode cc pc = .ok (.getfield 31, 3)) (kk : W p l e R s m args below meth c H locs cells slots Q (F0 m (pc + 3) ls (v :: rest))) : W p l e R s m args below meth c H locs cells slots Q (F0 m pc ls (.ref a :: rest)) :=
  va_get (C := R_A) (T := F_A) (N := 8) hx hb hts hin_A hown hK hP q0 he rfl 6 (by decide) (hts _ k_A_31) (fun _ h => h) hv hdg kk
theorem u_A_turn (hx : p.tables.exec = Jvm.exec) (hb : c.code = cc) (hts : ∀ w ∈ wG, w.before args s = true) (hown : s.vm.findClass R_A = some m.cls) (hK : va_K D cls ty s) (hP : va_P D cls ws H) (hD : va_D A ws) (hS : va_S A H0 H locs) (q0 : Nat) (he : ws[q0]? = some (a, .inr (4, fs))) (hn : fs.length = 8) {x : Int32} (hdg : decode cc pc = .ok (.putfield 31, 3)) (kk : ∀ (H1 : Heap) (locs1 : List Loc), va_P D cls (ws.set q0 (a, .inr (4, fs.set 6 (.int x)))) H1 → va_D A (ws.set q0 (a, .inr (4, fs.set 6 (.int x)))) → va_S A H0 H1 locs1 → W p l e R s m args below meth c H1 locs1 cells slots Q (F0 m (pc + 3) ls rest)) : W p l e R s m args below meth c H locs cells slots Q (F0 m pc ls (.int x :: .ref a :: rest)) :=
  va_put (C := R_A) (T := F_A) (N := 8) hx hb hts hin_A fy_A fy_A_ok n_A hown hK hP hD hS q0 he rfl 6 (by decide) (hts _ k_A_31) (fun _ h => h) rfl (fy_A_ok 6 (by decide)) rfl rfl (by omega) hdg kk
theorem g_A_size (hx : p.tables.exec = Jvm.exec) (hb : c.code = cc) (hts : ∀ w ∈ wG, w.before args s = true) (hown : s.vm.findClass R_A = some m.cls) (hK : va_K D cls ty s) (hP : va_P D cls ws H) (q0 : Nat) (he : ws[q0]? = some (a, .inr (4, fs))) {v : Value} (hv : fs[7]? = some v) (hdg : decode cc pc = .ok (.getfield 34, 3)) (kk : W p l e R s m args below meth c H locs cells slots Q (F0 m (pc + 3) ls (v :: rest))) : W p l e R s m args below meth c H locs cells slots Q (F0 m pc ls (.ref a :: rest)) :=
  va_get (C := R_A) (T := F_A) (N := 8) hx hb hts hin_A hown hK hP q0 he rfl 7 (by decide) (hts _ k_A_34) (fun _ h => h) hv hdg kk
theorem u_A_size (hx : p.tables.exec = Jvm.exec) (hb : c.code = cc) (hts : ∀ w ∈ wG, w.before args s = true) (hown : s.vm.findClass R_A = some m.cls) (hK : va_K D cls ty s) (hP : va_P D cls ws H) (hD : va_D A ws) (hS : va_S A H0 H locs) (q0 : Nat) (he : ws[q0]? = some (a, .inr (4, fs))) (hn : fs.length = 8) {x : Int32} (hdg : decode cc pc = .ok (.putfield 34, 3)) (kk : ∀ (H1 : Heap) (locs1 : List Loc), va_P D cls (ws.set q0 (a, .inr (4, fs.set 7 (.int x)))) H1 → va_D A (ws.set q0 (a, .inr (4, fs.set 7 (.int x)))) → va_S A H0 H1 locs1 → W p l e R s m args below meth c H1 locs1 cells slots Q (F0 m (pc + 3) ls rest)) : W p l e R s m args below meth c H locs cells slots Q (F0 m pc ls (.int x :: .ref a :: rest)) :=
  va_put (C := R_A) (T := F_A) (N := 8) hx hb hts hin_A fy_A fy_A_ok n_A hown hK hP hD hS q0 he rfl 7 (by decide) (hts _ k_A_34) (fun _ h => h) rfl (fy_A_ok 7 (by decide)) rfl rfl (by omega) hdg kk
theorem g_M_text (hx : p.tables.exec = Jvm.exec) (hb : c.code = cc) (hts : ∀ w ∈ wG, w.before args s = true) (hown : s.vm.findClass R_M = some m.cls) (hK : va_K D cls ty s) (hP : va_P D cls ws H) (q0 : Nat) (he : ws[q0]? = some (a, .inr (5, fs))) {v : Value} (hv : fs[0]? = some v) (hdg : decode cc pc = .ok (.getfield 7, 3)) (kk : W p l e R s m args below meth c H locs cells slots Q (F0 m (pc + 3) ls (v :: rest))) : W p l e R s m args below meth c H locs cells slots Q (F0 m pc ls (.ref a :: rest)) :=
  va_get (C := R_M) (T := F_M) (N := 34) hx hb hts hin_M hown hK hP q0 he rfl 0 (by decide) (hts _ k_M_7) (fun _ h => h) hv hdg kk
theorem g_M_length (hx : p.tables.exec = Jvm.exec) (hb : c.code = cc) (hts : ∀ w ∈ wG, w.before args s = true) (hown : s.vm.findClass R_M = some m.cls) (hK : va_K D cls ty s) (hP : va_P D cls ws H) (q0 : Nat) (he : ws[q0]? = some (a, .inr (5, fs))) {v : Value} (hv : fs[1]? = some v) (hdg : decode cc pc = .ok (.getfield 25, 3)) (kk : W p l e R s m args below meth c H locs cells slots Q (F0 m (pc + 3) ls (v :: rest))) : W p l e R s m args below meth c H locs cells slots Q (F0 m pc ls (.ref a :: rest)) :=
  va_get (C := R_M) (T := F_M) (N := 34) hx hb hts hin_M hown hK hP q0 he rfl 1 (by decide) (hts _ k_M_25) (fun _ h => h) hv hdg kk
theorem u_M_length (hx : p.tables.exec = Jvm.exec) (hb : c.code = cc) (hts : ∀ w ∈ wG, w.before args s = true) (hown : s.vm.findClass R_M = some m.cls) (hK : va_K D cls ty s) (hP : va_P D cls ws H) (hD : va_D A ws) (hS : va_S A H0 H locs) (q0 : Nat) (he : ws[q0]? = some (a, .inr (5, fs))) (hn : fs.length = 34) {x : Int32} (hdg : decode cc pc = .ok (.putfield 25, 3)) (kk : ∀ (H1 : Heap) (locs1 : List Loc), va_P D cls (ws.set q0 (a, .inr (5, fs.set 1 (.int x)))) H1 → va_D A (ws.set q0 (a, .inr (5, fs.set 1 (.int x)))) → va_S A H0 H1 locs1 → W p l e R s m args below meth c H1 locs1 cells slots Q (F0 m (pc + 3) ls rest)) : W p l e R s m args below meth c H locs cells slots Q (F0 m pc ls (.int x :: .ref a :: rest)) :=
  va_put (C := R_M) (T := F_M) (N := 34) hx hb hts hin_M fy_M fy_M_ok n_M hown hK hP hD hS q0 he rfl 1 (by decide) (hts _ k_M_25) (fun _ h => h) rfl (fy_M_ok 1 (by decide)) rfl rfl (by omega) hdg kk
theorem g_M_at (hx : p.tables.exec = Jvm.exec) (hb : c.code = cc) (hts : ∀ w ∈ wG, w.before args s = true) (hown : s.vm.findClass R_M = some m.cls) (hK : va_K D cls ty s) (hP : va_P D cls ws H) (q0 : Nat) (he : ws[q0]? = some (a, .inr (5, fs))) {v : Value} (hv : fs[2]? = some v) (hdg : decode cc pc = .ok (.getfield 29, 3)) (kk : W p l e R s m args below meth c H locs cells slots Q (F0 m (pc + 3) ls (v :: rest))) : W p l e R s m args below meth c H locs cells slots Q (F0 m pc ls (.ref a :: rest)) :=
  va_get (C := R_M) (T := F_M) (N := 34) hx hb hts hin_M hown hK hP q0 he rfl 2 (by decide) (hts _ k_M_29) (fun _ h => h) hv hdg kk
theorem u_M_at (hx : p.tables.exec = Jvm.exec) (hb : c.code = cc) (hts : ∀ w ∈ wG, w.before args s = true) (hown : s.vm.findClass R_M = some m.cls) (hK : va_K D cls ty s) (hP : va_P D cls ws H) (hD : va_D A ws) (hS : va_S A H0 H locs) (q0 : Nat) (he : ws[q0]? = some (a, .inr (5, fs))) (hn : fs.length = 34) {x : Int32} (hdg : decode cc pc = .ok (.putfield 29, 3)) (kk : ∀ (H1 : Heap) (locs1 : List Loc), va_P D cls (ws.set q0 (a, .inr (5, fs.set 2 (.int x)))) H1 → va_D A (ws.set q0 (a, .inr (5, fs.set 2 (.int x)))) → va_S A H0 H1 locs1 → W p l e R s m args below meth c H1 locs1 cells slots Q (F0 m (pc + 3) ls rest)) : W p l e R s m args below meth c H locs cells slots Q (F0 m pc ls (.int x :: .ref a :: rest)) :=
  va_put (C := R_M) (T := F_M) (N := 34) hx hb hts hin_M fy_M fy_M_ok n_M hown hK hP hD hS q0 he rfl 2 (by decide) (hts _ k_M_29) (fun _ h => h) rfl (fy_M_ok 2 (by decide)) rfl rfl (by omega) hdg kk
theorem g_M_lines (hx : p.tables.exec = Jvm.exec) (hb : c.code = cc) (hts : ∀ w ∈ wG, w.before args s = true) (hown : s.vm.findClass R_M = some m.cls) (hK : va_K D cls ty s) (hP : va_P D cls ws H) (q0 : Nat) (he : ws[q0]? = some (a, .inr (5, fs))) {v : Value} (hv : fs[3]? = some v) (hdg : decode cc pc = .ok (.getfield 32, 3)) (kk : W p l e R s m args below meth c H locs cells slots Q (F0 m (pc + 3) ls (v :: rest))) : W p l e R s m args below meth c H locs cells slots Q (F0 m pc ls (.ref a :: rest)) :=
  va_get (C := R_M) (T := F_M) (N := 34) hx hb hts hin_M hown hK hP q0 he rfl 3 (by decide) (hts _ k_M_32) (fun _ h => h) hv hdg kk
theorem u_M_lines (hx : p.tables.exec = Jvm.exec) (hb : c.code = cc) (hts : ∀ w ∈ wG, w.before args s = true) (hown : s.vm.findClass R_M = some m.cls) (hK : va_K D cls ty s) (hP : va_P D cls ws H) (hD : va_D A ws) (hS : va_S A H0 H locs) (q0 : Nat) (he : ws[q0]? = some (a, .inr (5, fs))) (hn : fs.length = 34) {x : Int32} (hdg : decode cc pc = .ok (.putfield 32, 3)) (kk : ∀ (H1 : Heap) (locs1 : List Loc), va_P D cls (ws.set q0 (a, .inr (5, fs.set 3 (.int x)))) H1 → va_D A (ws.set q0 (a, .inr (5, fs.set 3 (.int x)))) → va_S A H0 H1 locs1 → W p l e R s m args below meth c H1 locs1 cells slots Q (F0 m (pc + 3) ls rest)) : W p l e R s m args below meth c H locs cells slots Q (F0 m pc ls (.int x :: .ref a :: rest)) :=
  va_put (C := R_M) (T := F_M) (N := 34) hx hb hts hin_M fy_M fy_M_ok n_M hown hK hP hD hS q0 he rfl 3 (by decide) (hts _ k_M_32) (fun _ h => h) rfl (fy_M_ok 3 (by decide)) rfl rfl (by omega) hdg kk
theorem g_M_x (hx : p.tables.exec = Jvm.exec) (hb : c.code = cc) (hts : ∀ w ∈ wG, w.before args s = true) (hown : s.vm.findClass R_M = some m.cls) (hK : va_K D cls ty s) (hP : va_P D cls ws H) (q0 : Nat) (he : ws[q0]? = some (a, .inr (5, fs))) {v : Value} (hv : fs[4]? = some v) (hdg : decode cc pc = .ok (.getfield 35, 3)) (kk : W p l e R s m args below meth c H locs cells slots Q (F0 m (pc + 3) ls (v :: rest))) : W p l e R s m args below meth c H locs cells slots Q (F0 m pc ls (.ref a :: rest)) :=
  va_get (C := R_M) (T := F_M) (N := 34) hx hb hts hin_M hown hK hP q0 he rfl 4 (by decide) (hts _ k_M_35) (fun _ h => h) hv hdg kk
theorem u_M_x (hx : p.tables.exec = Jvm.exec) (hb : c.code = cc) (hts : ∀ w ∈ wG, w.before args s = true) (hown : s.vm.findClass R_M = some m.cls) (hK : va_K D cls ty s) (hP : va_P D cls ws H) (hD : va_D A ws) (hS : va_S A H0 H locs) (q0 : Nat) (he : ws[q0]? = some (a, .inr (5, fs))) (hn : fs.length = 34) {x : Int32} (hdg : decode cc pc = .ok (.putfield 35, 3)) (kk : ∀ (H1 : Heap) (locs1 : List Loc), va_P D cls (ws.set q0 (a, .inr (5, fs.set 4 (.int x)))) H1 → va_D A (ws.set q0 (a, .inr (5, fs.set 4 (.int x)))) → va_S A H0 H1 locs1 → W p l e R s m args below meth c H1 locs1 cells slots Q (F0 m (pc + 3) ls rest)) : W p l e R s m args below meth c H locs cells slots Q (F0 m pc ls (.int x :: .ref a :: rest)) :=
  va_put (C := R_M) (T := F_M) (N := 34) hx hb hts hin_M fy_M fy_M_ok n_M hown hK hP hD hS q0 he rfl 4 (by decide) (hts _ k_M_35) (fun _ h => h) rfl (fy_M_ok 4 (by decide)) rfl rfl (by omega) hdg kk
theorem g_M_y (hx : p.tables.exec = Jvm.exec) (hb : c.code = cc) (hts : ∀ w ∈ wG, w.before args s = true) (hown : s.vm.findClass R_M = some m.cls) (hK : va_K D cls ty s) (hP : va_P D cls ws H) (q0 : Nat) (he : ws[q0]? = some (a, .inr (5, fs))) {v : Value} (hv : fs[5]? = some v) (hdg : decode cc pc = .ok (.getfield 38, 3)) (kk : W p l e R s m args below meth c H locs cells slots Q (F0 m (pc + 3) ls (v :: rest))) : W p l e R s m args below meth c H locs cells slots Q (F0 m pc ls (.ref a :: rest)) :=
  va_get (C := R_M) (T := F_M) (N := 34) hx hb hts hin_M hown hK hP q0 he rfl 5 (by decide) (hts _ k_M_38) (fun _ h => h) hv hdg kk
theorem u_M_y (hx : p.tables.exec = Jvm.exec) (hb : c.code = cc) (hts : ∀ w ∈ wG, w.before args s = true) (hown : s.vm.findClass R_M = some m.cls) (hK : va_K D cls ty s) (hP : va_P D cls ws H) (hD : va_D A ws) (hS : va_S A H0 H locs) (q0 : Nat) (he : ws[q0]? = some (a, .inr (5, fs))) (hn : fs.length = 34) {x : Int32} (hdg : decode cc pc = .ok (.putfield 38, 3)) (kk : ∀ (H1 : Heap) (locs1 : List Loc), va_P D cls (ws.set q0 (a, .inr (5, fs.set 5 (.int x)))) H1 → va_D A (ws.set q0 (a, .inr (5, fs.set 5 (.int x)))) → va_S A H0 H1 locs1 → W p l e R s m args below meth c H1 locs1 cells slots Q (F0 m (pc + 3) ls rest)) : W p l e R s m args below meth c H locs cells slots Q (F0 m pc ls (.int x :: .ref a :: rest)) :=
  va_put (C := R_M) (T := F_M) (N := 34) hx hb hts hin_M fy_M fy_M_ok n_M hown hK hP hD hS q0 he rfl 5 (by decide) (hts _ k_M_38) (fun _ h => h) rfl (fy_M_ok 5 (by decide)) rfl rfl (by omega) hdg kk
theorem g_M_mode (hx : p.tables.exec = Jvm.exec) (hb : c.code = cc) (hts : ∀ w ∈ wG, w.before args s = true) (hown : s.vm.findClass R_M = some m.cls) (hK : va_K D cls ty s) (hP : va_P D cls ws H) (q0 : Nat) (he : ws[q0]? = some (a, .inr (5, fs))) {v : Value} (hv : fs[6]? = some v) (hdg : decode cc pc = .ok (.getfield 41, 3)) (kk : W p l e R s m args below meth c H locs cells slots Q (F0 m (pc + 3) ls (v :: rest))) : W p l e R s m args below meth c H locs cells slots Q (F0 m pc ls (.ref a :: rest)) :=
  va_get (C := R_M) (T := F_M) (N := 34) hx hb hts hin_M hown hK hP q0 he rfl 6 (by decide) (hts _ k_M_41) (fun _ h => h) hv hdg kk
theorem u_M_mode (hx : p.tables.exec = Jvm.exec) (hb : c.code = cc) (hts : ∀ w ∈ wG, w.before args s = true) (hown : s.vm.findClass R_M = some m.cls) (hK : va_K D cls ty s) (hP : va_P D cls ws H) (hD : va_D A ws) (hS : va_S A H0 H locs) (q0 : Nat) (he : ws[q0]? = some (a, .inr (5, fs))) (hn : fs.length = 34) {x : Int32} (hdg : decode cc pc = .ok (.putfield 41, 3)) (kk : ∀ (H1 : Heap) (locs1 : List Loc), va_P D cls (ws.set q0 (a, .inr (5, fs.set 6 (.int x)))) H1 → va_D A (ws.set q0 (a, .inr (5, fs.set 6 (.int x)))) → va_S A H0 H1 locs1 → W p l e R s m args below meth c H1 locs1 cells slots Q (F0 m (pc + 3) ls rest)) : W p l e R s m args below meth c H locs cells slots Q (F0 m pc ls (.int x :: .ref a :: rest)) :=
  va_put (C := R_M) (T := F_M) (N := 34) hx hb hts hin_M fy_M fy_M_ok n_M hown hK hP hD hS q0 he rfl 6 (by decide) (hts _ k_M_41) (fun _ h => h) rfl (fy_M_ok 6 (by decide)) rfl rfl (by omega) hdg kk
theorem g_M_feed (hx : p.tables.exec = Jvm.exec) (hb : c.code = cc) (hts : ∀ w ∈ wG, w.before args s = true) (hown : s.vm.findClass R_M = some m.cls) (hK : va_K D cls ty s) (hP : va_P D cls ws H) (q0 : Nat) (he : ws[q0]? = some (a, .inr (5, fs))) {v : Value} (hv : fs[7]? = some v) (hdg : decode cc pc = .ok (.getfield 44, 3)) (kk : W p l e R s m args below meth c H locs cells slots Q (F0 m (pc + 3) ls (v :: rest))) : W p l e R s m args below meth c H locs cells slots Q (F0 m pc ls (.ref a :: rest)) :=
  va_get (C := R_M) (T := F_M) (N := 34) hx hb hts hin_M hown hK hP q0 he rfl 7 (by decide) (hts _ k_M_44) (fun _ h => h) hv hdg kk
theorem u_M_feed (hx : p.tables.exec = Jvm.exec) (hb : c.code = cc) (hts : ∀ w ∈ wG, w.before args s = true) (hown : s.vm.findClass R_M = some m.cls) (hK : va_K D cls ty s) (hP : va_P D cls ws H) (hD : va_D A ws) (hS : va_S A H0 H locs) (q0 : Nat) (he : ws[q0]? = some (a, .inr (5, fs))) (hn : fs.length = 34) {x : Int32} (hdg : decode cc pc = .ok (.putfield 44, 3)) (kk : ∀ (H1 : Heap) (locs1 : List Loc), va_P D cls (ws.set q0 (a, .inr (5, fs.set 7 (.int x)))) H1 → va_D A (ws.set q0 (a, .inr (5, fs.set 7 (.int x)))) → va_S A H0 H1 locs1 → W p l e R s m args below meth c H1 locs1 cells slots Q (F0 m (pc + 3) ls rest)) : W p l e R s m args below meth c H locs cells slots Q (F0 m pc ls (.int x :: .ref a :: rest)) :=
  va_put (C := R_M) (T := F_M) (N := 34) hx hb hts hin_M fy_M fy_M_ok n_M hown hK hP hD hS q0 he rfl 7 (by decide) (hts _ k_M_44) (fun _ h => h) rfl (fy_M_ok 7 (by decide)) rfl rfl (by omega) hdg kk
theorem g_M_state (hx : p.tables.exec = Jvm.exec) (hb : c.code = cc) (hts : ∀ w ∈ wG, w.before args s = true) (hown : s.vm.findClass R_M = some m.cls) (hK : va_K D cls ty s) (hP : va_P D cls ws H) (q0 : Nat) (he : ws[q0]? = some (a, .inr (5, fs))) {v : Value} (hv : fs[8]? = some v) (hdg : decode cc pc = .ok (.getfield 47, 3)) (kk : W p l e R s m args below meth c H locs cells slots Q (F0 m (pc + 3) ls (v :: rest))) : W p l e R s m args below meth c H locs cells slots Q (F0 m pc ls (.ref a :: rest)) :=
  va_get (C := R_M) (T := F_M) (N := 34) hx hb hts hin_M hown hK hP q0 he rfl 8 (by decide) (hts _ k_M_47) (fun _ h => h) hv hdg kk
theorem u_M_state (hx : p.tables.exec = Jvm.exec) (hb : c.code = cc) (hts : ∀ w ∈ wG, w.before args s = true) (hown : s.vm.findClass R_M = some m.cls) (hK : va_K D cls ty s) (hP : va_P D cls ws H) (hD : va_D A ws) (hS : va_S A H0 H locs) (q0 : Nat) (he : ws[q0]? = some (a, .inr (5, fs))) (hn : fs.length = 34) {x : Int32} (hdg : decode cc pc = .ok (.putfield 47, 3)) (kk : ∀ (H1 : Heap) (locs1 : List Loc), va_P D cls (ws.set q0 (a, .inr (5, fs.set 8 (.int x)))) H1 → va_D A (ws.set q0 (a, .inr (5, fs.set 8 (.int x)))) → va_S A H0 H1 locs1 → W p l e R s m args below meth c H1 locs1 cells slots Q (F0 m (pc + 3) ls rest)) : W p l e R s m args below meth c H locs cells slots Q (F0 m pc ls (.int x :: .ref a :: rest)) :=
  va_put (C := R_M) (T := F_M) (N := 34) hx hb hts hin_M fy_M fy_M_ok n_M hown hK hP hD hS q0 he rfl 8 (by decide) (hts _ k_M_47) (fun _ h => h) rfl (fy_M_ok 8 (by decide)) rfl rfl (by omega) hdg kk
theorem g_M_pulses (hx : p.tables.exec = Jvm.exec) (hb : c.code = cc) (hts : ∀ w ∈ wG, w.before args s = true) (hown : s.vm.findClass R_M = some m.cls) (hK : va_K D cls ty s) (hP : va_P D cls ws H) (q0 : Nat) (he : ws[q0]? = some (a, .inr (5, fs))) {v : Value} (hv : fs[9]? = some v) (hdg : decode cc pc = .ok (.getfield 50, 3)) (kk : W p l e R s m args below meth c H locs cells slots Q (F0 m (pc + 3) ls (v :: rest))) : W p l e R s m args below meth c H locs cells slots Q (F0 m pc ls (.ref a :: rest)) :=
  va_get (C := R_M) (T := F_M) (N := 34) hx hb hts hin_M hown hK hP q0 he rfl 9 (by decide) (hts _ k_M_50) (fun _ h => h) hv hdg kk
theorem u_M_pulses (hx : p.tables.exec = Jvm.exec) (hb : c.code = cc) (hts : ∀ w ∈ wG, w.before args s = true) (hown : s.vm.findClass R_M = some m.cls) (hK : va_K D cls ty s) (hP : va_P D cls ws H) (hD : va_D A ws) (hS : va_S A H0 H locs) (q0 : Nat) (he : ws[q0]? = some (a, .inr (5, fs))) (hn : fs.length = 34) {x : Int32} (hdg : decode cc pc = .ok (.putfield 50, 3)) (kk : ∀ (H1 : Heap) (locs1 : List Loc), va_P D cls (ws.set q0 (a, .inr (5, fs.set 9 (.int x)))) H1 → va_D A (ws.set q0 (a, .inr (5, fs.set 9 (.int x)))) → va_S A H0 H1 locs1 → W p l e R s m args below meth c H1 locs1 cells slots Q (F0 m (pc + 3) ls rest)) : W p l e R s m args below meth c H locs cells slots Q (F0 m pc ls (.int x :: .ref a :: rest)) :=
  va_put (C := R_M) (T := F_M) (N := 34) hx hb hts hin_M fy_M fy_M_ok n_M hown hK hP hD hS q0 he rfl 9 (by decide) (hts _ k_M_50) (fun _ h => h) rfl (fy_M_ok 9 (by decide)) rfl rfl (by omega) hdg kk
theorem g_M_last (hx : p.tables.exec = Jvm.exec) (hb : c.code = cc) (hts : ∀ w ∈ wG, w.before args s = true) (hown : s.vm.findClass R_M = some m.cls) (hK : va_K D cls ty s) (hP : va_P D cls ws H) (q0 : Nat) (he : ws[q0]? = some (a, .inr (5, fs))) {v : Value} (hv : fs[10]? = some v) (hdg : decode cc pc = .ok (.getfield 53, 3)) (kk : W p l e R s m args below meth c H locs cells slots Q (F0 m (pc + 3) ls (v :: rest))) : W p l e R s m args below meth c H locs cells slots Q (F0 m pc ls (.ref a :: rest)) :=
  va_get (C := R_M) (T := F_M) (N := 34) hx hb hts hin_M hown hK hP q0 he rfl 10 (by decide) (hts _ k_M_53) (fun _ h => h) hv hdg kk
theorem u_M_last (hx : p.tables.exec = Jvm.exec) (hb : c.code = cc) (hts : ∀ w ∈ wG, w.before args s = true) (hown : s.vm.findClass R_M = some m.cls) (hK : va_K D cls ty s) (hP : va_P D cls ws H) (hD : va_D A ws) (hS : va_S A H0 H locs) (q0 : Nat) (he : ws[q0]? = some (a, .inr (5, fs))) (hn : fs.length = 34) {x : Int32} (hdg : decode cc pc = .ok (.putfield 53, 3)) (kk : ∀ (H1 : Heap) (locs1 : List Loc), va_P D cls (ws.set q0 (a, .inr (5, fs.set 10 (.int x)))) H1 → va_D A (ws.set q0 (a, .inr (5, fs.set 10 (.int x)))) → va_S A H0 H1 locs1 → W p l e R s m args below meth c H1 locs1 cells slots Q (F0 m (pc + 3) ls rest)) : W p l e R s m args below meth c H locs cells slots Q (F0 m pc ls (.int x :: .ref a :: rest)) :=
  va_put (C := R_M) (T := F_M) (N := 34) hx hb hts hin_M fy_M fy_M_ok n_M hown hK hP hD hS q0 he rfl 10 (by decide) (hts _ k_M_53) (fun _ h => h) rfl (fy_M_ok 10 (by decide)) rfl rfl (by omega) hdg kk
theorem g_M_shown (hx : p.tables.exec = Jvm.exec) (hb : c.code = cc) (hts : ∀ w ∈ wG, w.before args s = true) (hown : s.vm.findClass R_M = some m.cls) (hK : va_K D cls ty s) (hP : va_P D cls ws H) (q0 : Nat) (he : ws[q0]? = some (a, .inr (5, fs))) {v : Value} (hv : fs[11]? = some v) (hdg : decode cc pc = .ok (.getfield 56, 3)) (kk : W p l e R s m args below meth c H locs cells slots Q (F0 m (pc + 3) ls (v :: rest))) : W p l e R s m args below meth c H locs cells slots Q (F0 m pc ls (.ref a :: rest)) :=
  va_get (C := R_M) (T := F_M) (N := 34) hx hb hts hin_M hown hK hP q0 he rfl 11 (by decide) (hts _ k_M_56) (fun _ h => h) hv hdg kk
theorem u_M_shown (hx : p.tables.exec = Jvm.exec) (hb : c.code = cc) (hts : ∀ w ∈ wG, w.before args s = true) (hown : s.vm.findClass R_M = some m.cls) (hK : va_K D cls ty s) (hP : va_P D cls ws H) (hD : va_D A ws) (hS : va_S A H0 H locs) (q0 : Nat) (he : ws[q0]? = some (a, .inr (5, fs))) (hn : fs.length = 34) {x : Int32} (hdg : decode cc pc = .ok (.putfield 56, 3)) (kk : ∀ (H1 : Heap) (locs1 : List Loc), va_P D cls (ws.set q0 (a, .inr (5, fs.set 11 (.int x)))) H1 → va_D A (ws.set q0 (a, .inr (5, fs.set 11 (.int x)))) → va_S A H0 H1 locs1 → W p l e R s m args below meth c H1 locs1 cells slots Q (F0 m (pc + 3) ls rest)) : W p l e R s m args below meth c H locs cells slots Q (F0 m pc ls (.int x :: .ref a :: rest)) :=
  va_put (C := R_M) (T := F_M) (N := 34) hx hb hts hin_M fy_M fy_M_ok n_M hown hK hP hD hS q0 he rfl 11 (by decide) (hts _ k_M_56) (fun _ h => h) rfl (fy_M_ok 11 (by decide)) rfl rfl (by omega) hdg kk
theorem g_M_relative (hx : p.tables.exec = Jvm.exec) (hb : c.code = cc) (hts : ∀ w ∈ wG, w.before args s = true) (hown : s.vm.findClass R_M = some m.cls) (hK : va_K D cls ty s) (hP : va_P D cls ws H) (q0 : Nat) (he : ws[q0]? = some (a, .inr (5, fs))) {v : Value} (hv : fs[12]? = some v) (hdg : decode cc pc = .ok (.getfield 59, 3)) (kk : W p l e R s m args below meth c H locs cells slots Q (F0 m (pc + 3) ls (v :: rest))) : W p l e R s m args below meth c H locs cells slots Q (F0 m pc ls (.ref a :: rest)) :=
  va_get (C := R_M) (T := F_M) (N := 34) hx hb hts hin_M hown hK hP q0 he rfl 12 (by decide) (hts _ k_M_59) (fun _ h => h) hv hdg kk
theorem u_M_relative (hx : p.tables.exec = Jvm.exec) (hb : c.code = cc) (hts : ∀ w ∈ wG, w.before args s = true) (hown : s.vm.findClass R_M = some m.cls) (hK : va_K D cls ty s) (hP : va_P D cls ws H) (hD : va_D A ws) (hS : va_S A H0 H locs) (q0 : Nat) (he : ws[q0]? = some (a, .inr (5, fs))) (hn : fs.length = 34) {x : Int32} (hz : bZ x) (hdg : decode cc pc = .ok (.putfield 59, 3)) (kk : ∀ (H1 : Heap) (locs1 : List Loc), va_P D cls (ws.set q0 (a, .inr (5, fs.set 12 (.int x)))) H1 → va_D A (ws.set q0 (a, .inr (5, fs.set 12 (.int x)))) → va_S A H0 H1 locs1 → W p l e R s m args below meth c H1 locs1 cells slots Q (F0 m (pc + 3) ls rest)) : W p l e R s m args below meth c H locs cells slots Q (F0 m pc ls (.int x :: .ref a :: rest)) :=
  va_put (C := R_M) (T := F_M) (N := 34) hx hb hts hin_M fy_M fy_M_ok n_M hown hK hP hD hS q0 he rfl 12 (by decide) (hts _ k_M_59) (fun _ h => h) rfl (fy_M_ok 12 (by decide)) hz.nar hz.fit (by omega) hdg kk
theorem g_M_ending (hx : p.tables.exec = Jvm.exec) (hb : c.code = cc) (hts : ∀ w ∈ wG, w.before args s = true) (hown : s.vm.findClass R_M = some m.cls) (hK : va_K D cls ty s) (hP : va_P D cls ws H) (q0 : Nat) (he : ws[q0]? = some (a, .inr (5, fs))) {v : Value} (hv : fs[13]? = some v) (hdg : decode cc pc = .ok (.getfield 63, 3)) (kk : W p l e R s m args below meth c H locs cells slots Q (F0 m (pc + 3) ls (v :: rest))) : W p l e R s m args below meth c H locs cells slots Q (F0 m pc ls (.ref a :: rest)) :=
  va_get (C := R_M) (T := F_M) (N := 34) hx hb hts hin_M hown hK hP q0 he rfl 13 (by decide) (hts _ k_M_63) (fun _ h => h) hv hdg kk
theorem u_M_ending (hx : p.tables.exec = Jvm.exec) (hb : c.code = cc) (hts : ∀ w ∈ wG, w.before args s = true) (hown : s.vm.findClass R_M = some m.cls) (hK : va_K D cls ty s) (hP : va_P D cls ws H) (hD : va_D A ws) (hS : va_S A H0 H locs) (q0 : Nat) (he : ws[q0]? = some (a, .inr (5, fs))) (hn : fs.length = 34) {x : Int32} (hz : bZ x) (hdg : decode cc pc = .ok (.putfield 63, 3)) (kk : ∀ (H1 : Heap) (locs1 : List Loc), va_P D cls (ws.set q0 (a, .inr (5, fs.set 13 (.int x)))) H1 → va_D A (ws.set q0 (a, .inr (5, fs.set 13 (.int x)))) → va_S A H0 H1 locs1 → W p l e R s m args below meth c H1 locs1 cells slots Q (F0 m (pc + 3) ls rest)) : W p l e R s m args below meth c H locs cells slots Q (F0 m pc ls (.int x :: .ref a :: rest)) :=
  va_put (C := R_M) (T := F_M) (N := 34) hx hb hts hin_M fy_M fy_M_ok n_M hown hK hP hD hS q0 he rfl 13 (by decide) (hts _ k_M_63) (fun _ h => h) rfl (fy_M_ok 13 (by decide)) hz.nar hz.fit (by omega) hdg kk
theorem g_M_time (hx : p.tables.exec = Jvm.exec) (hb : c.code = cc) (hts : ∀ w ∈ wG, w.before args s = true) (hown : s.vm.findClass R_M = some m.cls) (hK : va_K D cls ty s) (hP : va_P D cls ws H) (q0 : Nat) (he : ws[q0]? = some (a, .inr (5, fs))) {v : Value} (hv : fs[14]? = some v) (hdg : decode cc pc = .ok (.getfield 66, 3)) (kk : W p l e R s m args below meth c H locs cells slots Q (F0 m (pc + 3) ls (v :: rest))) : W p l e R s m args below meth c H locs cells slots Q (F0 m pc ls (.ref a :: rest)) :=
  va_get (C := R_M) (T := F_M) (N := 34) hx hb hts hin_M hown hK hP q0 he rfl 14 (by decide) (hts _ k_M_66) (fun _ h => h) hv hdg kk
theorem u_M_time (hx : p.tables.exec = Jvm.exec) (hb : c.code = cc) (hts : ∀ w ∈ wG, w.before args s = true) (hown : s.vm.findClass R_M = some m.cls) (hK : va_K D cls ty s) (hP : va_P D cls ws H) (hD : va_D A ws) (hS : va_S A H0 H locs) (q0 : Nat) (he : ws[q0]? = some (a, .inr (5, fs))) (hn : fs.length = 34) {x : Int64} (hdg : decode cc pc = .ok (.putfield 66, 3)) (kk : ∀ (H1 : Heap) (locs1 : List Loc), va_P D cls (ws.set q0 (a, .inr (5, fs.set 14 (.long x)))) H1 → va_D A (ws.set q0 (a, .inr (5, fs.set 14 (.long x)))) → va_S A H0 H1 locs1 → W p l e R s m args below meth c H1 locs1 cells slots Q (F0 m (pc + 3) ls rest)) : W p l e R s m args below meth c H locs cells slots Q (F0 m pc ls (.long x :: .ref a :: rest)) :=
  va_put (C := R_M) (T := F_M) (N := 34) hx hb hts hin_M fy_M fy_M_ok n_M hown hK hP hD hS q0 he rfl 14 (by decide) (hts _ k_M_66) (fun _ h => h) rfl (fy_M_ok 14 (by decide)) rfl rfl (by omega) hdg kk
theorem g_M_pause (hx : p.tables.exec = Jvm.exec) (hb : c.code = cc) (hts : ∀ w ∈ wG, w.before args s = true) (hown : s.vm.findClass R_M = some m.cls) (hK : va_K D cls ty s) (hP : va_P D cls ws H) (q0 : Nat) (he : ws[q0]? = some (a, .inr (5, fs))) {v : Value} (hv : fs[15]? = some v) (hdg : decode cc pc = .ok (.getfield 112, 3)) (kk : W p l e R s m args below meth c H locs cells slots Q (F0 m (pc + 3) ls (v :: rest))) : W p l e R s m args below meth c H locs cells slots Q (F0 m pc ls (.ref a :: rest)) :=
  va_get (C := R_M) (T := F_M) (N := 34) hx hb hts hin_M hown hK hP q0 he rfl 15 (by decide) (hts _ k_M_112) (fun _ h => h) hv hdg kk
theorem u_M_pause (hx : p.tables.exec = Jvm.exec) (hb : c.code = cc) (hts : ∀ w ∈ wG, w.before args s = true) (hown : s.vm.findClass R_M = some m.cls) (hK : va_K D cls ty s) (hP : va_P D cls ws H) (hD : va_D A ws) (hS : va_S A H0 H locs) (q0 : Nat) (he : ws[q0]? = some (a, .inr (5, fs))) (hn : fs.length = 34) {x : Int64} (hdg : decode cc pc = .ok (.putfield 112, 3)) (kk : ∀ (H1 : Heap) (locs1 : List Loc), va_P D cls (ws.set q0 (a, .inr (5, fs.set 15 (.long x)))) H1 → va_D A (ws.set q0 (a, .inr (5, fs.set 15 (.long x)))) → va_S A H0 H1 locs1 → W p l e R s m args below meth c H1 locs1 cells slots Q (F0 m (pc + 3) ls rest)) : W p l e R s m args below meth c H locs cells slots Q (F0 m pc ls (.long x :: .ref a :: rest)) :=
  va_put (C := R_M) (T := F_M) (N := 34) hx hb hts hin_M fy_M fy_M_ok n_M hown hK hP hD hS q0 he rfl 15 (by decide) (hts _ k_M_112) (fun _ h => h) rfl (fy_M_ok 15 (by decide)) rfl rfl (by omega) hdg kk
theorem g_M_kind (hx : p.tables.exec = Jvm.exec) (hb : c.code = cc) (hts : ∀ w ∈ wG, w.before args s = true) (hown : s.vm.findClass R_M = some m.cls) (hK : va_K D cls ty s) (hP : va_P D cls ws H) (q0 : Nat) (he : ws[q0]? = some (a, .inr (5, fs))) {v : Value} (hv : fs[16]? = some v) (hdg : decode cc pc = .ok (.getfield 118, 3)) (kk : W p l e R s m args below meth c H locs cells slots Q (F0 m (pc + 3) ls (v :: rest))) : W p l e R s m args below meth c H locs cells slots Q (F0 m pc ls (.ref a :: rest)) :=
  va_get (C := R_M) (T := F_M) (N := 34) hx hb hts hin_M hown hK hP q0 he rfl 16 (by decide) (hts _ k_M_118) (fun _ h => h) hv hdg kk
theorem u_M_kind (hx : p.tables.exec = Jvm.exec) (hb : c.code = cc) (hts : ∀ w ∈ wG, w.before args s = true) (hown : s.vm.findClass R_M = some m.cls) (hK : va_K D cls ty s) (hP : va_P D cls ws H) (hD : va_D A ws) (hS : va_S A H0 H locs) (q0 : Nat) (he : ws[q0]? = some (a, .inr (5, fs))) (hn : fs.length = 34) {x : Int32} (hdg : decode cc pc = .ok (.putfield 118, 3)) (kk : ∀ (H1 : Heap) (locs1 : List Loc), va_P D cls (ws.set q0 (a, .inr (5, fs.set 16 (.int x)))) H1 → va_D A (ws.set q0 (a, .inr (5, fs.set 16 (.int x)))) → va_S A H0 H1 locs1 → W p l e R s m args below meth c H1 locs1 cells slots Q (F0 m (pc + 3) ls rest)) : W p l e R s m args below meth c H locs cells slots Q (F0 m pc ls (.int x :: .ref a :: rest)) :=
  va_put (C := R_M) (T := F_M) (N := 34) hx hb hts hin_M fy_M fy_M_ok n_M hown hK hP hD hS q0 he rfl 16 (by decide) (hts _ k_M_118) (fun _ h => h) rfl (fy_M_ok 16 (by decide)) rfl rfl (by omega) hdg kk
theorem g_M_made (hx : p.tables.exec = Jvm.exec) (hb : c.code = cc) (hts : ∀ w ∈ wG, w.before args s = true) (hown : s.vm.findClass R_M = some m.cls) (hK : va_K D cls ty s) (hP : va_P D cls ws H) (q0 : Nat) (he : ws[q0]? = some (a, .inr (5, fs))) {v : Value} (hv : fs[17]? = some v) (hdg : decode cc pc = .ok (.getfield 70, 3)) (kk : W p l e R s m args below meth c H locs cells slots Q (F0 m (pc + 3) ls (v :: rest))) : W p l e R s m args below meth c H locs cells slots Q (F0 m pc ls (.ref a :: rest)) :=
  va_get (C := R_M) (T := F_M) (N := 34) hx hb hts hin_M hown hK hP q0 he rfl 17 (by decide) (hts _ k_M_70) (fun _ h => h) hv hdg kk
theorem u_M_made (hx : p.tables.exec = Jvm.exec) (hb : c.code = cc) (hts : ∀ w ∈ wG, w.before args s = true) (hown : s.vm.findClass R_M = some m.cls) (hK : va_K D cls ty s) (hP : va_P D cls ws H) (hD : va_D A ws) (hS : va_S A H0 H locs) (q0 : Nat) (he : ws[q0]? = some (a, .inr (5, fs))) (hn : fs.length = 34) {x : Int32} (hdg : decode cc pc = .ok (.putfield 70, 3)) (kk : ∀ (H1 : Heap) (locs1 : List Loc), va_P D cls (ws.set q0 (a, .inr (5, fs.set 17 (.int x)))) H1 → va_D A (ws.set q0 (a, .inr (5, fs.set 17 (.int x)))) → va_S A H0 H1 locs1 → W p l e R s m args below meth c H1 locs1 cells slots Q (F0 m (pc + 3) ls rest)) : W p l e R s m args below meth c H locs cells slots Q (F0 m pc ls (.int x :: .ref a :: rest)) :=
  va_put (C := R_M) (T := F_M) (N := 34) hx hb hts hin_M fy_M fy_M_ok n_M hown hK hP hD hS q0 he rfl 17 (by decide) (hts _ k_M_70) (fun _ h => h) rfl (fy_M_ok 17 (by decide)) rfl rfl (by omega) hdg kk
theorem g_M_all (hx : p.tables.exec = Jvm.exec) (hb : c.code = cc) (hts : ∀ w ∈ wG, w.before args s = true) (hown : s.vm.findClass R_M = some m.cls) (hK : va_K D cls ty s) (hP : va_P D cls ws H) (q0 : Nat) (he : ws[q0]? = some (a, .inr (5, fs))) {v : Value} (hv : fs[18]? = some v) (hdg : decode cc pc = .ok (.getfield 73, 3)) (kk : W p l e R s m args below meth c H locs cells slots Q (F0 m (pc + 3) ls (v :: rest))) : W p l e R s m args below meth c H locs cells slots Q (F0 m pc ls (.ref a :: rest)) :=
  va_get (C := R_M) (T := F_M) (N := 34) hx hb hts hin_M hown hK hP q0 he rfl 18 (by decide) (hts _ k_M_73) (fun _ h => h) hv hdg kk
theorem u_M_all (hx : p.tables.exec = Jvm.exec) (hb : c.code = cc) (hts : ∀ w ∈ wG, w.before args s = true) (hown : s.vm.findClass R_M = some m.cls) (hK : va_K D cls ty s) (hP : va_P D cls ws H) (hD : va_D A ws) (hS : va_S A H0 H locs) (q0 : Nat) (he : ws[q0]? = some (a, .inr (5, fs))) (hn : fs.length = 34) {x : Int32} (hdg : decode cc pc = .ok (.putfield 73, 3)) (kk : ∀ (H1 : Heap) (locs1 : List Loc), va_P D cls (ws.set q0 (a, .inr (5, fs.set 18 (.int x)))) H1 → va_D A (ws.set q0 (a, .inr (5, fs.set 18 (.int x)))) → va_S A H0 H1 locs1 → W p l e R s m args below meth c H1 locs1 cells slots Q (F0 m (pc + 3) ls rest)) : W p l e R s m args below meth c H locs cells slots Q (F0 m pc ls (.int x :: .ref a :: rest)) :=
  va_put (C := R_M) (T := F_M) (N := 34) hx hb hts hin_M fy_M fy_M_ok n_M hown hK hP hD hS q0 he rfl 18 (by decide) (hts _ k_M_73) (fun _ h => h) rfl (fy_M_ok 18 (by decide)) rfl rfl (by omega) hdg kk
theorem g_M_fromX (hx : p.tables.exec = Jvm.exec) (hb : c.code = cc) (hts : ∀ w ∈ wG, w.before args s = true) (hown : s.vm.findClass R_M = some m.cls) (hK : va_K D cls ty s) (hP : va_P D cls ws H) (q0 : Nat) (he : ws[q0]? = some (a, .inr (5, fs))) {v : Value} (hv : fs[19]? = some v) (hdg : decode cc pc = .ok (.getfield 121, 3)) (kk : W p l e R s m args below meth c H locs cells slots Q (F0 m (pc + 3) ls (v :: rest))) : W p l e R s m args below meth c H locs cells slots Q (F0 m pc ls (.ref a :: rest)) :=
  va_get (C := R_M) (T := F_M) (N := 34) hx hb hts hin_M hown hK hP q0 he rfl 19 (by decide) (hts _ k_M_121) (fun _ h => h) hv hdg kk
theorem u_M_fromX (hx : p.tables.exec = Jvm.exec) (hb : c.code = cc) (hts : ∀ w ∈ wG, w.before args s = true) (hown : s.vm.findClass R_M = some m.cls) (hK : va_K D cls ty s) (hP : va_P D cls ws H) (hD : va_D A ws) (hS : va_S A H0 H locs) (q0 : Nat) (he : ws[q0]? = some (a, .inr (5, fs))) (hn : fs.length = 34) {x : Int32} (hdg : decode cc pc = .ok (.putfield 121, 3)) (kk : ∀ (H1 : Heap) (locs1 : List Loc), va_P D cls (ws.set q0 (a, .inr (5, fs.set 19 (.int x)))) H1 → va_D A (ws.set q0 (a, .inr (5, fs.set 19 (.int x)))) → va_S A H0 H1 locs1 → W p l e R s m args below meth c H1 locs1 cells slots Q (F0 m (pc + 3) ls rest)) : W p l e R s m args below meth c H locs cells slots Q (F0 m pc ls (.int x :: .ref a :: rest)) :=
  va_put (C := R_M) (T := F_M) (N := 34) hx hb hts hin_M fy_M fy_M_ok n_M hown hK hP hD hS q0 he rfl 19 (by decide) (hts _ k_M_121) (fun _ h => h) rfl (fy_M_ok 19 (by decide)) rfl rfl (by omega) hdg kk
theorem g_M_fromY (hx : p.tables.exec = Jvm.exec) (hb : c.code = cc) (hts : ∀ w ∈ wG, w.before args s = true) (hown : s.vm.findClass R_M = some m.cls) (hK : va_K D cls ty s) (hP : va_P D cls ws H) (q0 : Nat) (he : ws[q0]? = some (a, .inr (5, fs))) {v : Value} (hv : fs[20]? = some v) (hdg : decode cc pc = .ok (.getfield 124, 3)) (kk : W p l e R s m args below meth c H locs cells slots Q (F0 m (pc + 3) ls (v :: rest))) : W p l e R s m args below meth c H locs cells slots Q (F0 m pc ls (.ref a :: rest)) :=
  va_get (C := R_M) (T := F_M) (N := 34) hx hb hts hin_M hown hK hP q0 he rfl 20 (by decide) (hts _ k_M_124) (fun _ h => h) hv hdg kk
theorem u_M_fromY (hx : p.tables.exec = Jvm.exec) (hb : c.code = cc) (hts : ∀ w ∈ wG, w.before args s = true) (hown : s.vm.findClass R_M = some m.cls) (hK : va_K D cls ty s) (hP : va_P D cls ws H) (hD : va_D A ws) (hS : va_S A H0 H locs) (q0 : Nat) (he : ws[q0]? = some (a, .inr (5, fs))) (hn : fs.length = 34) {x : Int32} (hdg : decode cc pc = .ok (.putfield 124, 3)) (kk : ∀ (H1 : Heap) (locs1 : List Loc), va_P D cls (ws.set q0 (a, .inr (5, fs.set 20 (.int x)))) H1 → va_D A (ws.set q0 (a, .inr (5, fs.set 20 (.int x)))) → va_S A H0 H1 locs1 → W p l e R s m args below meth c H1 locs1 cells slots Q (F0 m (pc + 3) ls rest)) : W p l e R s m args below meth c H locs cells slots Q (F0 m pc ls (.int x :: .ref a :: rest)) :=
  va_put (C := R_M) (T := F_M) (N := 34) hx hb hts hin_M fy_M fy_M_ok n_M hown hK hP hD hS q0 he rfl 20 (by decide) (hts _ k_M_124) (fun _ h => h) rfl (fy_M_ok 20 (by decide)) rfl rfl (by omega) hdg kk
theorem g_M_wayX (hx : p.tables.exec = Jvm.exec) (hb : c.code = cc) (hts : ∀ w ∈ wG, w.before args s = true) (hown : s.vm.findClass R_M = some m.cls) (hK : va_K D cls ty s) (hP : va_P D cls ws H) (q0 : Nat) (he : ws[q0]? = some (a, .inr (5, fs))) {v : Value} (hv : fs[21]? = some v) (hdg : decode cc pc = .ok (.getfield 127, 3)) (kk : W p l e R s m args below meth c H locs cells slots Q (F0 m (pc + 3) ls (v :: rest))) : W p l e R s m args below meth c H locs cells slots Q (F0 m pc ls (.ref a :: rest)) :=
  va_get (C := R_M) (T := F_M) (N := 34) hx hb hts hin_M hown hK hP q0 he rfl 21 (by decide) (hts _ k_M_127) (fun _ h => h) hv hdg kk
theorem u_M_wayX (hx : p.tables.exec = Jvm.exec) (hb : c.code = cc) (hts : ∀ w ∈ wG, w.before args s = true) (hown : s.vm.findClass R_M = some m.cls) (hK : va_K D cls ty s) (hP : va_P D cls ws H) (hD : va_D A ws) (hS : va_S A H0 H locs) (q0 : Nat) (he : ws[q0]? = some (a, .inr (5, fs))) (hn : fs.length = 34) {x : Int32} (hdg : decode cc pc = .ok (.putfield 127, 3)) (kk : ∀ (H1 : Heap) (locs1 : List Loc), va_P D cls (ws.set q0 (a, .inr (5, fs.set 21 (.int x)))) H1 → va_D A (ws.set q0 (a, .inr (5, fs.set 21 (.int x)))) → va_S A H0 H1 locs1 → W p l e R s m args below meth c H1 locs1 cells slots Q (F0 m (pc + 3) ls rest)) : W p l e R s m args below meth c H locs cells slots Q (F0 m pc ls (.int x :: .ref a :: rest)) :=
  va_put (C := R_M) (T := F_M) (N := 34) hx hb hts hin_M fy_M fy_M_ok n_M hown hK hP hD hS q0 he rfl 21 (by decide) (hts _ k_M_127) (fun _ h => h) rfl (fy_M_ok 21 (by decide)) rfl rfl (by omega) hdg kk
theorem g_M_wayY (hx : p.tables.exec = Jvm.exec) (hb : c.code = cc) (hts : ∀ w ∈ wG, w.before args s = true) (hown : s.vm.findClass R_M = some m.cls) (hK : va_K D cls ty s) (hP : va_P D cls ws H) (q0 : Nat) (he : ws[q0]? = some (a, .inr (5, fs))) {v : Value} (hv : fs[22]? = some v) (hdg : decode cc pc = .ok (.getfield 130, 3)) (kk : W p l e R s m args below meth c H locs cells slots Q (F0 m (pc + 3) ls (v :: rest))) : W p l e R s m args below meth c H locs cells slots Q (F0 m pc ls (.ref a :: rest)) :=
  va_get (C := R_M) (T := F_M) (N := 34) hx hb hts hin_M hown hK hP q0 he rfl 22 (by decide) (hts _ k_M_130) (fun _ h => h) hv hdg kk
theorem u_M_wayY (hx : p.tables.exec = Jvm.exec) (hb : c.code = cc) (hts : ∀ w ∈ wG, w.before args s = true) (hown : s.vm.findClass R_M = some m.cls) (hK : va_K D cls ty s) (hP : va_P D cls ws H) (hD : va_D A ws) (hS : va_S A H0 H locs) (q0 : Nat) (he : ws[q0]? = some (a, .inr (5, fs))) (hn : fs.length = 34) {x : Int32} (hdg : decode cc pc = .ok (.putfield 130, 3)) (kk : ∀ (H1 : Heap) (locs1 : List Loc), va_P D cls (ws.set q0 (a, .inr (5, fs.set 22 (.int x)))) H1 → va_D A (ws.set q0 (a, .inr (5, fs.set 22 (.int x)))) → va_S A H0 H1 locs1 → W p l e R s m args below meth c H1 locs1 cells slots Q (F0 m (pc + 3) ls rest)) : W p l e R s m args below meth c H locs cells slots Q (F0 m pc ls (.int x :: .ref a :: rest)) :=
  va_put (C := R_M) (T := F_M) (N := 34) hx hb hts hin_M fy_M fy_M_ok n_M hown hK hP hD hS q0 he rfl 22 (by decide) (hts _ k_M_130) (fun _ h => h) rfl (fy_M_ok 22 (by decide)) rfl rfl (by omega) hdg kk
theorem g_M_px (hx : p.tables.exec = Jvm.exec) (hb : c.code = cc) (hts : ∀ w ∈ wG, w.before args s = true) (hown : s.vm.findClass R_M = some m.cls) (hK : va_K D cls ty s) (hP : va_P D cls ws H) (q0 : Nat) (he : ws[q0]? = some (a, .inr (5, fs))) {v : Value} (hv : fs[23]? = some v) (hdg : decode cc pc = .ok (.getfield 13, 3)) (kk : W p l e R s m args below meth c H locs cells slots Q (F0 m (pc + 3) ls (v :: rest))) : W p l e R s m args below meth c H locs cells slots Q (F0 m pc ls (.ref a :: rest)) :=
  va_get (C := R_M) (T := F_M) (N := 34) hx hb hts hin_M hown hK hP q0 he rfl 23 (by decide) (hts _ k_M_13) (fun _ h => h) hv hdg kk
theorem g_M_py (hx : p.tables.exec = Jvm.exec) (hb : c.code = cc) (hts : ∀ w ∈ wG, w.before args s = true) (hown : s.vm.findClass R_M = some m.cls) (hK : va_K D cls ty s) (hP : va_P D cls ws H) (q0 : Nat) (he : ws[q0]? = some (a, .inr (5, fs))) {v : Value} (hv : fs[24]? = some v) (hdg : decode cc pc = .ok (.getfield 16, 3)) (kk : W p l e R s m args below meth c H locs cells slots Q (F0 m (pc + 3) ls (v :: rest))) : W p l e R s m args below meth c H locs cells slots Q (F0 m pc ls (.ref a :: rest)) :=
  va_get (C := R_M) (T := F_M) (N := 34) hx hb hts hin_M hown hK hP q0 he rfl 24 (by decide) (hts _ k_M_16) (fun _ h => h) hv hdg kk
theorem g_M_points (hx : p.tables.exec = Jvm.exec) (hb : c.code = cc) (hts : ∀ w ∈ wG, w.before args s = true) (hown : s.vm.findClass R_M = some m.cls) (hK : va_K D cls ty s) (hP : va_P D cls ws H) (q0 : Nat) (he : ws[q0]? = some (a, .inr (5, fs))) {v : Value} (hv : fs[25]? = some v) (hdg : decode cc pc = .ok (.getfield 148, 3)) (kk : W p l e R s m args below meth c H locs cells slots Q (F0 m (pc + 3) ls (v :: rest))) : W p l e R s m args below meth c H locs cells slots Q (F0 m pc ls (.ref a :: rest)) :=
  va_get (C := R_M) (T := F_M) (N := 34) hx hb hts hin_M hown hK hP q0 he rfl 25 (by decide) (hts _ k_M_148) (fun _ h => h) hv hdg kk
theorem u_M_points (hx : p.tables.exec = Jvm.exec) (hb : c.code = cc) (hts : ∀ w ∈ wG, w.before args s = true) (hown : s.vm.findClass R_M = some m.cls) (hK : va_K D cls ty s) (hP : va_P D cls ws H) (hD : va_D A ws) (hS : va_S A H0 H locs) (q0 : Nat) (he : ws[q0]? = some (a, .inr (5, fs))) (hn : fs.length = 34) {x : Int32} (hdg : decode cc pc = .ok (.putfield 148, 3)) (kk : ∀ (H1 : Heap) (locs1 : List Loc), va_P D cls (ws.set q0 (a, .inr (5, fs.set 25 (.int x)))) H1 → va_D A (ws.set q0 (a, .inr (5, fs.set 25 (.int x)))) → va_S A H0 H1 locs1 → W p l e R s m args below meth c H1 locs1 cells slots Q (F0 m (pc + 3) ls rest)) : W p l e R s m args below meth c H locs cells slots Q (F0 m pc ls (.int x :: .ref a :: rest)) :=
  va_put (C := R_M) (T := F_M) (N := 34) hx hb hts hin_M fy_M fy_M_ok n_M hown hK hP hD hS q0 he rfl 25 (by decide) (hts _ k_M_148) (fun _ h => h) rfl (fy_M_ok 25 (by decide)) rfl rfl (by omega) hdg kk
theorem g_M_centreX (hx : p.tables.exec = Jvm.exec) (hb : c.code = cc) (hts : ∀ w ∈ wG, w.before args s = true) (hown : s.vm.findClass R_M = some m.cls) (hK : va_K D cls ty s) (hP : va_P D cls ws H) (q0 : Nat) (he : ws[q0]? = some (a, .inr (5, fs))) {v : Value} (hv : fs[26]? = some v) (hdg : decode cc pc = .ok (.getfield 137, 3)) (kk : W p l e R s m args below meth c H locs cells slots Q (F0 m (pc + 3) ls (v :: rest))) : W p l e R s m args below meth c H locs cells slots Q (F0 m pc ls (.ref a :: rest)) :=
  va_get (C := R_M) (T := F_M) (N := 34) hx hb hts hin_M hown hK hP q0 he rfl 26 (by decide) (hts _ k_M_137) (fun _ h => h) hv hdg kk
theorem u_M_centreX (hx : p.tables.exec = Jvm.exec) (hb : c.code = cc) (hts : ∀ w ∈ wG, w.before args s = true) (hown : s.vm.findClass R_M = some m.cls) (hK : va_K D cls ty s) (hP : va_P D cls ws H) (hD : va_D A ws) (hS : va_S A H0 H locs) (q0 : Nat) (he : ws[q0]? = some (a, .inr (5, fs))) (hn : fs.length = 34) {x : Int32} (hdg : decode cc pc = .ok (.putfield 137, 3)) (kk : ∀ (H1 : Heap) (locs1 : List Loc), va_P D cls (ws.set q0 (a, .inr (5, fs.set 26 (.int x)))) H1 → va_D A (ws.set q0 (a, .inr (5, fs.set 26 (.int x)))) → va_S A H0 H1 locs1 → W p l e R s m args below meth c H1 locs1 cells slots Q (F0 m (pc + 3) ls rest)) : W p l e R s m args below meth c H locs cells slots Q (F0 m pc ls (.int x :: .ref a :: rest)) :=
  va_put (C := R_M) (T := F_M) (N := 34) hx hb hts hin_M fy_M fy_M_ok n_M hown hK hP hD hS q0 he rfl 26 (by decide) (hts _ k_M_137) (fun _ h => h) rfl (fy_M_ok 26 (by decide)) rfl rfl (by omega) hdg kk
theorem g_M_centreY (hx : p.tables.exec = Jvm.exec) (hb : c.code = cc) (hts : ∀ w ∈ wG, w.before args s = true) (hown : s.vm.findClass R_M = some m.cls) (hK : va_K D cls ty s) (hP : va_P D cls ws H) (q0 : Nat) (he : ws[q0]? = some (a, .inr (5, fs))) {v : Value} (hv : fs[27]? = some v) (hdg : decode cc pc = .ok (.getfield 140, 3)) (kk : W p l e R s m args below meth c H locs cells slots Q (F0 m (pc + 3) ls (v :: rest))) : W p l e R s m args below meth c H locs cells slots Q (F0 m pc ls (.ref a :: rest)) :=
  va_get (C := R_M) (T := F_M) (N := 34) hx hb hts hin_M hown hK hP q0 he rfl 27 (by decide) (hts _ k_M_140) (fun _ h => h) hv hdg kk
theorem u_M_centreY (hx : p.tables.exec = Jvm.exec) (hb : c.code = cc) (hts : ∀ w ∈ wG, w.before args s = true) (hown : s.vm.findClass R_M = some m.cls) (hK : va_K D cls ty s) (hP : va_P D cls ws H) (hD : va_D A ws) (hS : va_S A H0 H locs) (q0 : Nat) (he : ws[q0]? = some (a, .inr (5, fs))) (hn : fs.length = 34) {x : Int32} (hdg : decode cc pc = .ok (.putfield 140, 3)) (kk : ∀ (H1 : Heap) (locs1 : List Loc), va_P D cls (ws.set q0 (a, .inr (5, fs.set 27 (.int x)))) H1 → va_D A (ws.set q0 (a, .inr (5, fs.set 27 (.int x)))) → va_S A H0 H1 locs1 → W p l e R s m args below meth c H1 locs1 cells slots Q (F0 m (pc + 3) ls rest)) : W p l e R s m args below meth c H locs cells slots Q (F0 m pc ls (.int x :: .ref a :: rest)) :=
  va_put (C := R_M) (T := F_M) (N := 34) hx hb hts hin_M fy_M fy_M_ok n_M hown hK hP hD hS q0 he rfl 27 (by decide) (hts _ k_M_140) (fun _ h => h) rfl (fy_M_ok 27 (by decide)) rfl rfl (by omega) hdg kk
theorem g_M_number (hx : p.tables.exec = Jvm.exec) (hb : c.code = cc) (hts : ∀ w ∈ wG, w.before args s = true) (hown : s.vm.findClass R_M = some m.cls) (hK : va_K D cls ty s) (hP : va_P D cls ws H) (q0 : Nat) (he : ws[q0]? = some (a, .inr (5, fs))) {v : Value} (hv : fs[28]? = some v) (hdg : decode cc pc = .ok (.getfield 19, 3)) (kk : W p l e R s m args below meth c H locs cells slots Q (F0 m (pc + 3) ls (v :: rest))) : W p l e R s m args below meth c H locs cells slots Q (F0 m pc ls (.ref a :: rest)) :=
  va_get (C := R_M) (T := F_M) (N := 34) hx hb hts hin_M hown hK hP q0 he rfl 28 (by decide) (hts _ k_M_19) (fun _ h => h) hv hdg kk
theorem g_M_there (hx : p.tables.exec = Jvm.exec) (hb : c.code = cc) (hts : ∀ w ∈ wG, w.before args s = true) (hown : s.vm.findClass R_M = some m.cls) (hK : va_K D cls ty s) (hP : va_P D cls ws H) (q0 : Nat) (he : ws[q0]? = some (a, .inr (5, fs))) {v : Value} (hv : fs[29]? = some v) (hdg : decode cc pc = .ok (.getfield 76, 3)) (kk : W p l e R s m args below meth c H locs cells slots Q (F0 m (pc + 3) ls (v :: rest))) : W p l e R s m args below meth c H locs cells slots Q (F0 m pc ls (.ref a :: rest)) :=
  va_get (C := R_M) (T := F_M) (N := 34) hx hb hts hin_M hown hK hP q0 he rfl 29 (by decide) (hts _ k_M_76) (fun _ h => h) hv hdg kk
theorem u_M_there (hx : p.tables.exec = Jvm.exec) (hb : c.code = cc) (hts : ∀ w ∈ wG, w.before args s = true) (hown : s.vm.findClass R_M = some m.cls) (hK : va_K D cls ty s) (hP : va_P D cls ws H) (hD : va_D A ws) (hS : va_S A H0 H locs) (q0 : Nat) (he : ws[q0]? = some (a, .inr (5, fs))) (hn : fs.length = 34) {x : Int32} (hdg : decode cc pc = .ok (.putfield 76, 3)) (kk : ∀ (H1 : Heap) (locs1 : List Loc), va_P D cls (ws.set q0 (a, .inr (5, fs.set 29 (.int x)))) H1 → va_D A (ws.set q0 (a, .inr (5, fs.set 29 (.int x)))) → va_S A H0 H1 locs1 → W p l e R s m args below meth c H1 locs1 cells slots Q (F0 m (pc + 3) ls rest)) : W p l e R s m args below meth c H locs cells slots Q (F0 m pc ls (.int x :: .ref a :: rest)) :=
  va_put (C := R_M) (T := F_M) (N := 34) hx hb hts hin_M fy_M fy_M_ok n_M hown hK hP hD hS q0 he rfl 29 (by decide) (hts _ k_M_76) (fun _ h => h) rfl (fy_M_ok 29 (by decide)) rfl rfl (by omega) hdg kk
theorem g_M_newMode (hx : p.tables.exec = Jvm.exec) (hb : c.code = cc) (hts : ∀ w ∈ wG, w.before args s = true) (hown : s.vm.findClass R_M = some m.cls) (hK : va_K D cls ty s) (hP : va_P D cls ws H) (q0 : Nat) (he : ws[q0]? = some (a, .inr (5, fs))) {v : Value} (hv : fs[30]? = some v) (hdg : decode cc pc = .ok (.getfield 79, 3)) (kk : W p l e R s m args below meth c H locs cells slots Q (F0 m (pc + 3) ls (v :: rest))) : W p l e R s m args below meth c H locs cells slots Q (F0 m pc ls (.ref a :: rest)) :=
  va_get (C := R_M) (T := F_M) (N := 34) hx hb hts hin_M hown hK hP q0 he rfl 30 (by decide) (hts _ k_M_79) (fun _ h => h) hv hdg kk
theorem u_M_newMode (hx : p.tables.exec = Jvm.exec) (hb : c.code = cc) (hts : ∀ w ∈ wG, w.before args s = true) (hown : s.vm.findClass R_M = some m.cls) (hK : va_K D cls ty s) (hP : va_P D cls ws H) (hD : va_D A ws) (hS : va_S A H0 H locs) (q0 : Nat) (he : ws[q0]? = some (a, .inr (5, fs))) (hn : fs.length = 34) {x : Int32} (hdg : decode cc pc = .ok (.putfield 79, 3)) (kk : ∀ (H1 : Heap) (locs1 : List Loc), va_P D cls (ws.set q0 (a, .inr (5, fs.set 30 (.int x)))) H1 → va_D A (ws.set q0 (a, .inr (5, fs.set 30 (.int x)))) → va_S A H0 H1 locs1 → W p l e R s m args below meth c H1 locs1 cells slots Q (F0 m (pc + 3) ls rest)) : W p l e R s m args below meth c H locs cells slots Q (F0 m pc ls (.int x :: .ref a :: rest)) :=
  va_put (C := R_M) (T := F_M) (N := 34) hx hb hts hin_M fy_M fy_M_ok n_M hown hK hP hD hS q0 he rfl 30 (by decide) (hts _ k_M_79) (fun _ h => h) rfl (fy_M_ok 30 (by decide)) rfl rfl (by omega) hdg kk
theorem g_M_newWay (hx : p.tables.exec = Jvm.exec) (hb : c.code = cc) (hts : ∀ w ∈ wG, w.before args s = true) (hown : s.vm.findClass R_M = some m.cls) (hK : va_K D cls ty s) (hP : va_P D cls ws H) (q0 : Nat) (he : ws[q0]? = some (a, .inr (5, fs))) {v : Value} (hv : fs[31]? = some v) (hdg : decode cc pc = .ok (.getfield 82, 3)) (kk : W p l e R s m args below meth c H locs cells slots Q (F0 m (pc + 3) ls (v :: rest))) : W p l e R s m args below meth c H locs cells slots Q (F0 m pc ls (.ref a :: rest)) :=
  va_get (C := R_M) (T := F_M) (N := 34) hx hb hts hin_M hown hK hP q0 he rfl 31 (by decide) (hts _ k_M_82) (fun _ h => h) hv hdg kk
theorem u_M_newWay (hx : p.tables.exec = Jvm.exec) (hb : c.code = cc) (hts : ∀ w ∈ wG, w.before args s = true) (hown : s.vm.findClass R_M = some m.cls) (hK : va_K D cls ty s) (hP : va_P D cls ws H) (hD : va_D A ws) (hS : va_S A H0 H locs) (q0 : Nat) (he : ws[q0]? = some (a, .inr (5, fs))) (hn : fs.length = 34) {x : Int32} (hdg : decode cc pc = .ok (.putfield 82, 3)) (kk : ∀ (H1 : Heap) (locs1 : List Loc), va_P D cls (ws.set q0 (a, .inr (5, fs.set 31 (.int x)))) H1 → va_D A (ws.set q0 (a, .inr (5, fs.set 31 (.int x)))) → va_S A H0 H1 locs1 → W p l e R s m args below meth c H1 locs1 cells slots Q (F0 m (pc + 3) ls rest)) : W p l e R s m args below meth c H locs cells slots Q (F0 m pc ls (.int x :: .ref a :: rest)) :=
  va_put (C := R_M) (T := F_M) (N := 34) hx hb hts hin_M fy_M fy_M_ok n_M hown hK hP hD hS q0 he rfl 31 (by decide) (hts _ k_M_82) (fun _ h => h) rfl (fy_M_ok 31 (by decide)) rfl rfl (by omega) hdg kk
theorem g_M_newFeed (hx : p.tables.exec = Jvm.exec) (hb : c.code = cc) (hts : ∀ w ∈ wG, w.before args s = true) (hown : s.vm.findClass R_M = some m.cls) (hK : va_K D cls ty s) (hP : va_P D cls ws H) (q0 : Nat) (he : ws[q0]? = some (a, .inr (5, fs))) {v : Value} (hv : fs[32]? = some v) (hdg : decode cc pc = .ok (.getfield 85, 3)) (kk : W p l e R s m args below meth c H locs cells slots Q (F0 m (pc + 3) ls (v :: rest))) : W p l e R s m args below meth c H locs cells slots Q (F0 m pc ls (.ref a :: rest)) :=
  va_get (C := R_M) (T := F_M) (N := 34) hx hb hts hin_M hown hK hP q0 he rfl 32 (by decide) (hts _ k_M_85) (fun _ h => h) hv hdg kk
theorem u_M_newFeed (hx : p.tables.exec = Jvm.exec) (hb : c.code = cc) (hts : ∀ w ∈ wG, w.before args s = true) (hown : s.vm.findClass R_M = some m.cls) (hK : va_K D cls ty s) (hP : va_P D cls ws H) (hD : va_D A ws) (hS : va_S A H0 H locs) (q0 : Nat) (he : ws[q0]? = some (a, .inr (5, fs))) (hn : fs.length = 34) {x : Int32} (hdg : decode cc pc = .ok (.putfield 85, 3)) (kk : ∀ (H1 : Heap) (locs1 : List Loc), va_P D cls (ws.set q0 (a, .inr (5, fs.set 32 (.int x)))) H1 → va_D A (ws.set q0 (a, .inr (5, fs.set 32 (.int x)))) → va_S A H0 H1 locs1 → W p l e R s m args below meth c H1 locs1 cells slots Q (F0 m (pc + 3) ls rest)) : W p l e R s m args below meth c H locs cells slots Q (F0 m pc ls (.int x :: .ref a :: rest)) :=
  va_put (C := R_M) (T := F_M) (N := 34) hx hb hts hin_M fy_M fy_M_ok n_M hown hK hP hD hS q0 he rfl 32 (by decide) (hts _ k_M_85) (fun _ h => h) rfl (fy_M_ok 32 (by decide)) rfl rfl (by omega) hdg kk
theorem g_M_ends (hx : p.tables.exec = Jvm.exec) (hb : c.code = cc) (hts : ∀ w ∈ wG, w.before args s = true) (hown : s.vm.findClass R_M = some m.cls) (hK : va_K D cls ty s) (hP : va_P D cls ws H) (q0 : Nat) (he : ws[q0]? = some (a, .inr (5, fs))) {v : Value} (hv : fs[33]? = some v) (hdg : decode cc pc = .ok (.getfield 88, 3)) (kk : W p l e R s m args below meth c H locs cells slots Q (F0 m (pc + 3) ls (v :: rest))) : W p l e R s m args below meth c H locs cells slots Q (F0 m pc ls (.ref a :: rest)) :=
  va_get (C := R_M) (T := F_M) (N := 34) hx hb hts hin_M hown hK hP q0 he rfl 33 (by decide) (hts _ k_M_88) (fun _ h => h) hv hdg kk
theorem u_M_ends (hx : p.tables.exec = Jvm.exec) (hb : c.code = cc) (hts : ∀ w ∈ wG, w.before args s = true) (hown : s.vm.findClass R_M = some m.cls) (hK : va_K D cls ty s) (hP : va_P D cls ws H) (hD : va_D A ws) (hS : va_S A H0 H locs) (q0 : Nat) (he : ws[q0]? = some (a, .inr (5, fs))) (hn : fs.length = 34) {x : Int32} (hdg : decode cc pc = .ok (.putfield 88, 3)) (kk : ∀ (H1 : Heap) (locs1 : List Loc), va_P D cls (ws.set q0 (a, .inr (5, fs.set 33 (.int x)))) H1 → va_D A (ws.set q0 (a, .inr (5, fs.set 33 (.int x)))) → va_S A H0 H1 locs1 → W p l e R s m args below meth c H1 locs1 cells slots Q (F0 m (pc + 3) ls rest)) : W p l e R s m args below meth c H locs cells slots Q (F0 m pc ls (.int x :: .ref a :: rest)) :=
  va_put (C := R_M) (T := F_M) (N := 34) hx hb hts hin_M fy_M fy_M_ok n_M hown hK hP hD hS q0 he rfl 33 (by decide) (hts _ k_M_88) (fun _ h => h) rfl (fy_M_ok 33 (by decide)) rfl rfl (by omega) hdg kk
end FR
theorem cw_P_41 {R : Room} {s : State} {args : Array Value} {fr lo : Nat} (hts : ∀ w ∈ wG, w.before args s = true) (hR : fr + 1 ≤ R.frames ∧ 8 + (1 + 11) + lo ≤ R.locals) : CallW R s args "PulsePlotter" "PulsePlotter" 41 y_P_begin b_P_begin 1 none (.code y_P_begin b_P_begin 1 none :: wG) { frames := fr, cells := 0, slots := 0, locals := lo } 0 0 0 :=
  my_cwV hts kc_P_begin k_P_41 kn_P_begin kv_P_begin ki_P ⟨by decide +kernel, by decide +kernel, by decide +kernel⟩ hR
theorem cw_P_44 {R : Room} {s : State} {args : Array Value} {fr lo : Nat} (hts : ∀ w ∈ wG, w.before args s = true) (hR : fr + 1 ≤ R.frames ∧ 8 + (4 + 11) + lo ≤ R.locals) : CallW R s args "PulsePlotter" "PulsePlotter$Text" 44 y_T_append b_T_append 4 (some .int) (.code y_T_append b_T_append 4 (some .int) :: wG) { frames := fr, cells := 0, slots := 0, locals := lo } 0 0 1 :=
  my_cwV hts kc_T_append k_P_44 kn_T_append kv_T_append ki_T ⟨by decide +kernel, by decide +kernel, by decide +kernel⟩ hR
theorem cw_P_48 {R : Room} {s : State} {args : Array Value} {fr lo : Nat} (hts : ∀ w ∈ wG, w.before args s = true) (hR : fr + 1 ≤ R.frames ∧ 8 + (1 + 11) + lo ≤ R.locals) : CallW R s args "PulsePlotter" "PulsePlotter$Text" 48 y_T_empty b_T_empty 1 none (.code y_T_empty b_T_empty 1 none :: wG) { frames := fr, cells := 0, slots := 0, locals := lo } 0 0 0 :=
  my_cwV hts kc_T_empty k_P_48 kn_T_empty kv_T_empty ki_T ⟨by decide +kernel, by decide +kernel, by decide +kernel⟩ hR
theorem cw_P_96 {R : Room} {s : State} {args : Array Value} {fr lo : Nat} (hts : ∀ w ∈ wG, w.before args s = true) (hR : fr + 1 ≤ R.frames ∧ 8 + (5 + 11) + lo ≤ R.locals) : CallW R s args "PulsePlotter" "PulsePlotter" 96 y_P_makePulses b_P_makePulses 5 (some .int) (.code y_P_makePulses b_P_makePulses 5 (some .int) :: wG) { frames := fr, cells := 0, slots := 0, locals := lo } 0 0 1 :=
  my_cwV hts kc_P_makePulses k_P_96 kn_P_makePulses kv_P_makePulses ki_P ⟨by decide +kernel, by decide +kernel, by decide +kernel⟩ hR
theorem cw_P_99 {R : Room} {s : State} {args : Array Value} {fr lo : Nat} (hts : ∀ w ∈ wG, w.before args s = true) (hR : fr + 1 ≤ R.frames ∧ 8 + (2 + 11) + lo ≤ R.locals) : CallW R s args "PulsePlotter" "PulsePlotter" 99 y_P_lookAtNextLine b_P_lookAtNextLine 2 none (.code y_P_lookAtNextLine b_P_lookAtNextLine 2 none :: wG) { frames := fr, cells := 0, slots := 0, locals := lo } 0 0 0 :=
  my_cwV hts kc_P_lookAtNextLine k_P_99 kn_P_lookAtNextLine kv_P_lookAtNextLine ki_P ⟨by decide +kernel, by decide +kernel, by decide +kernel⟩ hR
theorem cw_P_102 {R : Room} {s : State} {args : Array Value} {fr lo : Nat} (hts : ∀ w ∈ wG, w.before args s = true) (hR : fr + 1 ≤ R.frames ∧ 8 + (2 + 11) + lo ≤ R.locals) : CallB R s args "PulsePlotter" 102 y_Jm_min b_Jm_min 2 (some .int) (.code y_Jm_min b_Jm_min 2 (some .int) :: wG) { frames := fr, cells := 0, slots := 0, locals := lo } 0 0 2 ∧ (Cond.static y_Jm_min).before args s = true :=
  my_cwS hts kc_Jm_min k_P_102 ks_Jm_min ki_Jm ⟨by decide +kernel, by decide +kernel, by decide +kernel⟩ hR
theorem kw_P_108_A : Cond.selects "PulsePlotter$Arc" ⟨"PulsePlotter$Way", "xAfter", "(I)I"⟩ y_A_xAfter ∈ wG := wG_of (List.mem_append_right _ (List.mem_append_left _ (List.mem_of_getElem? (i := 218) (by rfl)))) rfl
theorem cw_P_108_A {R : Room} {s : State} {args : Array Value} {fr lo : Nat} (hts : ∀ w ∈ wG, w.before args s = true) {X : xT} {A : Nat → Prop} {H : Heap} (hX : xS X A s H) (hR : fr + 1 ≤ R.frames ∧ 8 + (2 + 11) + lo ≤ R.locals) : va_CU R s args "PulsePlotter" "PulsePlotter$Arc" "PulsePlotter$Way" 108 ⟨"PulsePlotter$Way", "xAfter", "(I)I"⟩ y_A_xAfter b_A_xAfter 2 (some .int) (.code y_A_xAfter b_A_xAfter 2 (some .int) :: wG) { frames := fr, cells := 0, slots := 0, locals := lo } 0 0 1 :=
  my_cwA hts kc_A_xAfter k_P_108 kw_P_108_A kn_A_xAfter ki_A (wG_of (List.mem_append_right _ (List.mem_append_left _ (List.mem_of_getElem? (i := 217) (by rfl)))) rfl) hX.1 ⟨by decide +kernel, by decide +kernel⟩ (by decide +kernel) hR
theorem kw_P_108_S : Cond.selects "PulsePlotter$Straight" ⟨"PulsePlotter$Way", "xAfter", "(I)I"⟩ y_S_xAfter ∈ wG := wG_of (List.mem_append_right _ (List.mem_append_left _ (List.mem_of_getElem? (i := 232) (by rfl)))) rfl
theorem cw_P_108_S {R : Room} {s : State} {args : Array Value} {fr lo : Nat} (hts : ∀ w ∈ wG, w.before args s = true) {X : xT} {A : Nat → Prop} {H : Heap} (hX : xS X A s H) (hR : fr + 1 ≤ R.frames ∧ 8 + (2 + 11) + lo ≤ R.locals) : va_CU R s args "PulsePlotter" "PulsePlotter$Straight" "PulsePlotter$Way" 108 ⟨"PulsePlotter$Way", "xAfter", "(I)I"⟩ y_S_xAfter b_S_xAfter 2 (some .int) (.code y_S_xAfter b_S_xAfter 2 (some .int) :: wG) { frames := fr, cells := 0, slots := 0, locals := lo } 0 0 1 :=
  my_cwA hts kc_S_xAfter k_P_108 kw_P_108_S kn_S_xAfter ki_S (wG_of (List.mem_append_right _ (List.mem_append_left _ (List.mem_of_getElem? (i := 217) (by rfl)))) rfl) hX.1 ⟨by decide +kernel, by decide +kernel⟩ (by decide +kernel) hR
theorem kw_P_113_A : Cond.selects "PulsePlotter$Arc" ⟨"PulsePlotter$Way", "yAfter", "(I)I"⟩ y_A_yAfter ∈ wG := wG_of (List.mem_append_right _ (List.mem_append_right _ (List.mem_append_left _ (List.mem_of_getElem? (i := 5) (by rfl))))) rfl
theorem cw_P_113_A {R : Room} {s : State} {args : Array Value} {fr lo : Nat} (hts : ∀ w ∈ wG, w.before args s = true) {X : xT} {A : Nat → Prop} {H : Heap} (hX : xS X A s H) (hR : fr + 1 ≤ R.frames ∧ 8 + (2 + 11) + lo ≤ R.locals) : va_CU R s args "PulsePlotter" "PulsePlotter$Arc" "PulsePlotter$Way" 113 ⟨"PulsePlotter$Way", "yAfter", "(I)I"⟩ y_A_yAfter b_A_yAfter 2 (some .int) (.code y_A_yAfter b_A_yAfter 2 (some .int) :: wG) { frames := fr, cells := 0, slots := 0, locals := lo } 0 0 1 :=
  my_cwA hts kc_A_yAfter k_P_113 kw_P_113_A kn_A_yAfter ki_A (wG_of (List.mem_append_right _ (List.mem_append_right _ (List.mem_append_left _ (List.mem_of_getElem? (i := 4) (by rfl))))) rfl) hX.2.1 ⟨by decide +kernel, by decide +kernel⟩ (by decide +kernel) hR
theorem kw_P_113_S : Cond.selects "PulsePlotter$Straight" ⟨"PulsePlotter$Way", "yAfter", "(I)I"⟩ y_S_yAfter ∈ wG := wG_of (List.mem_append_right _ (List.mem_append_right _ (List.mem_append_left _ (List.mem_of_getElem? (i := 8) (by rfl))))) rfl
theorem cw_P_113_S {R : Room} {s : State} {args : Array Value} {fr lo : Nat} (hts : ∀ w ∈ wG, w.before args s = true) {X : xT} {A : Nat → Prop} {H : Heap} (hX : xS X A s H) (hR : fr + 1 ≤ R.frames ∧ 8 + (2 + 11) + lo ≤ R.locals) : va_CU R s args "PulsePlotter" "PulsePlotter$Straight" "PulsePlotter$Way" 113 ⟨"PulsePlotter$Way", "yAfter", "(I)I"⟩ y_S_yAfter b_S_yAfter 2 (some .int) (.code y_S_yAfter b_S_yAfter 2 (some .int) :: wG) { frames := fr, cells := 0, slots := 0, locals := lo } 0 0 1 :=
  my_cwA hts kc_S_yAfter k_P_113 kw_P_113_S kn_S_yAfter ki_S (wG_of (List.mem_append_right _ (List.mem_append_right _ (List.mem_append_left _ (List.mem_of_getElem? (i := 4) (by rfl))))) rfl) hX.2.1 ⟨by decide +kernel, by decide +kernel⟩ (by decide +kernel) hR
theorem cw_P_116 {R : Room} {s : State} {args : Array Value} {fr lo : Nat} (hts : ∀ w ∈ wG, w.before args s = true) (hR : fr + 1 ≤ R.frames ∧ 8 + (1 + 11) + lo ≤ R.locals) : CallW R s args "PulsePlotter" "PulsePlotter" 116 y_P_pause b_P_pause 1 (some .int) (.code y_P_pause b_P_pause 1 (some .int) :: wG) { frames := fr, cells := 0, slots := 0, locals := lo } 0 0 0 :=
  my_cwV hts kc_P_pause k_P_116 kn_P_pause kv_P_pause ki_P ⟨by decide +kernel, by decide +kernel, by decide +kernel⟩ hR
theorem cw_P_121 {R : Room} {s : State} {args : Array Value} {fr lo : Nat} (hts : ∀ w ∈ wG, w.before args s = true) (hR : fr + 1 ≤ R.frames ∧ 8 + (1 + 11) + lo ≤ R.locals) : CallW R s args "PulsePlotter" "PulsePlotter$Text" 121 y_T_size b_T_size 1 (some .int) (.code y_T_size b_T_size 1 (some .int) :: wG) { frames := fr, cells := 0, slots := 0, locals := lo } 0 0 0 :=
  my_cwV hts kc_T_size k_P_121 kn_T_size kv_T_size ki_T ⟨by decide +kernel, by decide +kernel, by decide +kernel⟩ hR
theorem cw_P_124 {R : Room} {s : State} {args : Array Value} {fr lo : Nat} (hts : ∀ w ∈ wG, w.before args s = true) (hR : fr + 1 ≤ R.frames ∧ 8 + (3 + 11) + lo ≤ R.locals) : CallW R s args "PulsePlotter" "PulsePlotter$Text" 124 y_T_lineEnd b_T_lineEnd 3 (some .int) (.code y_T_lineEnd b_T_lineEnd 3 (some .int) :: wG) { frames := fr, cells := 0, slots := 0, locals := lo } 0 0 1 :=
  my_cwV hts kc_T_lineEnd k_P_124 kn_T_lineEnd kv_T_lineEnd ki_T ⟨by decide +kernel, by decide +kernel, by decide +kernel⟩ hR
theorem cw_P_127 {R : Room} {s : State} {args : Array Value} {fr lo : Nat} (hts : ∀ w ∈ wG, w.before args s = true) (hR : fr + 1 ≤ R.frames ∧ 8 + (6 + 11) + lo ≤ R.locals) : CallW R s args "PulsePlotter" "PulsePlotter$Words" 127 y_W_read b_W_read 6 (some .int) (.code y_W_read b_W_read 6 (some .int) :: wG) { frames := fr, cells := 0, slots := 0, locals := lo } 0 0 3 :=
  my_cwV hts kc_W_read k_P_127 kn_W_read kv_W_read ki_W ⟨by decide +kernel, by decide +kernel, by decide +kernel⟩ hR
theorem cw_P_131 {R : Room} {s : State} {args : Array Value} {fr lo : Nat} (hts : ∀ w ∈ wG, w.before args s = true) (hR : fr + 1 ≤ R.frames ∧ 8 + (1 + 11) + lo ≤ R.locals) : CallW R s args "PulsePlotter" "PulsePlotter" 131 y_P_applySettings b_P_applySettings 1 none (.code y_P_applySettings b_P_applySettings 1 none :: wG) { frames := fr, cells := 0, slots := 0, locals := lo } 0 0 0 :=
  my_cwV hts kc_P_applySettings k_P_131 kn_P_applySettings kv_P_applySettings ki_P ⟨by decide +kernel, by decide +kernel, by decide +kernel⟩ hR
theorem cw_P_134 {R : Room} {s : State} {args : Array Value} {fr lo : Nat} (hts : ∀ w ∈ wG, w.before args s = true) (hR : fr + 1 ≤ R.frames ∧ 8 + (6 + 11) + lo ≤ R.locals) : CallW R s args "PulsePlotter" "PulsePlotter" 134 y_P_startMove b_P_startMove 6 (some .int) (.code y_P_startMove b_P_startMove 6 (some .int) :: wG) { frames := fr, cells := 0, slots := 0, locals := lo } 0 0 0 :=
  my_cwV hts kc_P_startMove k_P_134 kn_P_startMove kv_P_startMove ki_P ⟨by decide +kernel, by decide +kernel, by decide +kernel⟩ hR
theorem cw_P_137 {R : Room} {s : State} {args : Array Value} {fr lo : Nat} (hts : ∀ w ∈ wG, w.before args s = true) (hR : fr + 1 ≤ R.frames ∧ 8 + (2 + 11) + lo ≤ R.locals) : CallW R s args "PulsePlotter" "PulsePlotter$Words" 137 y_W_has b_W_has 2 (some .boolean) (.code y_W_has b_W_has 2 (some .boolean) :: wG) { frames := fr, cells := 0, slots := 0, locals := lo } 0 0 1 :=
  my_cwV hts kc_W_has k_P_137 kn_W_has kv_W_has ki_W ⟨by decide +kernel, by decide +kernel, by decide +kernel⟩ hR
theorem cw_P_141 {R : Room} {s : State} {args : Array Value} {fr lo : Nat} (hts : ∀ w ∈ wG, w.before args s = true) (hR : fr + 1 ≤ R.frames ∧ 8 + (2 + 11) + lo ≤ R.locals) : CallW R s args "PulsePlotter" "PulsePlotter$Words" 141 y_W_number b_W_number 2 (some .int) (.code y_W_number b_W_number 2 (some .int) :: wG) { frames := fr, cells := 0, slots := 0, locals := lo } 0 0 1 :=
  my_cwV hts kc_W_number k_P_141 kn_W_number kv_W_number ki_W ⟨by decide +kernel, by decide +kernel, by decide +kernel⟩ hR
theorem cw_P_144 {R : Room} {s : State} {args : Array Value} {fr lo : Nat} (hts : ∀ w ∈ wG, w.before args s = true) (hR : fr + 1 ≤ R.frames ∧ 8 + (1 + 11) + lo ≤ R.locals) : CallW R s args "PulsePlotter" "PulsePlotter$Words" 144 y_W_distances b_W_distances 1 (some .int) (.code y_W_distances b_W_distances 1 (some .int) :: wG) { frames := fr, cells := 0, slots := 0, locals := lo } 0 0 0 :=
  my_cwV hts kc_W_distances k_P_144 kn_W_distances kv_W_distances ki_W ⟨by decide +kernel, by decide +kernel, by decide +kernel⟩ hR
theorem cw_P_147 {R : Room} {s : State} {args : Array Value} {fr lo : Nat} (hts : ∀ w ∈ wG, w.before args s = true) (hR : fr + 1 ≤ R.frames ∧ 8 + (1 + 11) + lo ≤ R.locals) : CallW R s args "PulsePlotter" "PulsePlotter$Words" 147 y_W_motion b_W_motion 1 (some .int) (.code y_W_motion b_W_motion 1 (some .int) :: wG) { frames := fr, cells := 0, slots := 0, locals := lo } 0 0 0 :=
  my_cwV hts kc_W_motion k_P_147 kn_W_motion kv_W_motion ki_W ⟨by decide +kernel, by decide +kernel, by decide +kernel⟩ hR
theorem cw_P_149 {R : Room} {s : State} {args : Array Value} {fr lo : Nat} (hts : ∀ w ∈ wG, w.before args s = true) (hR : fr + 1 ≤ R.frames ∧ 8 + (3 + 11) + lo ≤ R.locals) : CallW R s args "PulsePlotter" "PulsePlotter" 149 y_P_goal b_P_goal 3 (some .int) (.code y_P_goal b_P_goal 3 (some .int) :: wG) { frames := fr, cells := 0, slots := 0, locals := lo } 0 0 2 :=
  my_cwV hts kc_P_goal k_P_149 kn_P_goal kv_P_goal ki_P ⟨by decide +kernel, by decide +kernel, by decide +kernel⟩ hR
theorem cw_P_152 {R : Room} {s : State} {args : Array Value} {fr lo : Nat} (hts : ∀ w ∈ wG, w.before args s = true) (hR : fr + 1 ≤ R.frames ∧ 8 + (11 + 11) + lo ≤ R.locals) : CallW R s args "PulsePlotter" "PulsePlotter" 152 y_P_startArc b_P_startArc 11 (some .int) (.code y_P_startArc b_P_startArc 11 (some .int) :: wG) { frames := fr, cells := 0, slots := 0, locals := lo } 0 0 2 :=
  my_cwV hts kc_P_startArc k_P_152 kn_P_startArc kv_P_startArc ki_P ⟨by decide +kernel, by decide +kernel, by decide +kernel⟩ hR
theorem cw_P_155 {R : Room} {s : State} {args : Array Value} {fr lo : Nat} (hts : ∀ w ∈ wG, w.before args s = true) (hR : fr + 1 ≤ R.frames ∧ 8 + (3 + 11) + lo ≤ R.locals) : CallW R s args "PulsePlotter" "PulsePlotter" 155 y_P_startStraight b_P_startStraight 3 (some .int) (.code y_P_startStraight b_P_startStraight 3 (some .int) :: wG) { frames := fr, cells := 0, slots := 0, locals := lo } 0 0 2 :=
  my_cwV hts kc_P_startStraight k_P_155 kn_P_startStraight kv_P_startStraight ki_P ⟨by decide +kernel, by decide +kernel, by decide +kernel⟩ hR
theorem cw_P_158 {R : Room} {s : State} {args : Array Value} {fr lo : Nat} (hts : ∀ w ∈ wG, w.before args s = true) (hR : fr + 1 ≤ R.frames ∧ 8 + (1 + 11) + lo ≤ R.locals) : CallB R s args "PulsePlotter" 158 y_P_isOutside b_P_isOutside 1 (some .boolean) (.code y_P_isOutside b_P_isOutside 1 (some .boolean) :: wG) { frames := fr, cells := 0, slots := 0, locals := lo } 0 0 1 ∧ (Cond.static y_P_isOutside).before args s = true :=
  my_cwS hts kc_P_isOutside k_P_158 ks_P_isOutside ki_P ⟨by decide +kernel, by decide +kernel, by decide +kernel⟩ hR
theorem cw_P_161 {R : Room} {s : State} {args : Array Value} {fr lo : Nat} (hts : ∀ w ∈ wG, w.before args s = true) (hR : fr + 1 ≤ R.frames ∧ 8 + (5 + 11) + lo ≤ R.locals) : CallW R s args "PulsePlotter" "PulsePlotter$Straight" 161 y_S_lay b_S_lay 5 none (.code y_S_lay b_S_lay 5 none :: wG) { frames := fr, cells := 0, slots := 0, locals := lo } 0 0 4 :=
  my_cwV hts kc_S_lay k_P_161 kn_S_lay kv_S_lay ki_S ⟨by decide +kernel, by decide +kernel, by decide +kernel⟩ hR
theorem cw_P_165 {R : Room} {s : State} {args : Array Value} {fr lo : Nat} (hts : ∀ w ∈ wG, w.before args s = true) (hR : fr + 1 ≤ R.frames ∧ 8 + (2 + 11) + lo ≤ R.locals) : CallW R s args "PulsePlotter" "PulsePlotter" 165 y_P_follow b_P_follow 2 none (.code y_P_follow b_P_follow 2 none :: wG) { frames := fr, cells := 0, slots := 0, locals := lo } 0 0 1 :=
  my_cwV hts kc_P_follow k_P_165 kn_P_follow kv_P_follow ki_P ⟨by decide +kernel, by decide +kernel, by decide +kernel⟩ hR
theorem cw_P_169 {R : Room} {s : State} {args : Array Value} {fr lo : Nat} (hts : ∀ w ∈ wG, w.before args s = true) (hR : fr + 1 ≤ R.frames ∧ 8 + (2 + 11) + lo ≤ R.locals) : CallB R s args "PulsePlotter" 169 y_A_radius b_A_radius 2 (some .int) (.code y_A_radius b_A_radius 2 (some .int) :: wG) { frames := fr, cells := 0, slots := 0, locals := lo } 0 0 1 ∧ (Cond.static y_A_radius).before args s = true :=
  my_cwS hts kc_A_radius k_P_169 ks_A_radius ki_A ⟨by decide +kernel, by decide +kernel, by decide +kernel⟩ hR
theorem cw_P_172 {R : Room} {s : State} {args : Array Value} {fr lo : Nat} (hts : ∀ w ∈ wG, w.before args s = true) (hR : fr + 1 ≤ R.frames ∧ 8 + (6 + 11) + lo ≤ R.locals) : CallW R s args "PulsePlotter" "PulsePlotter$Arc" 172 y_A_lay b_A_lay 6 none (.code y_A_lay b_A_lay 6 none :: wG) { frames := fr, cells := 0, slots := 0, locals := lo } 0 0 3 :=
  my_cwV hts kc_A_lay k_P_172 kn_A_lay kv_A_lay ki_A ⟨by decide +kernel, by decide +kernel, by decide +kernel⟩ hR
theorem cw_P_175 {R : Room} {s : State} {args : Array Value} {fr lo : Nat} (hts : ∀ w ∈ wG, w.before args s = true) (hR : fr + 1 ≤ R.frames ∧ 8 + (8 + 11) + lo ≤ R.locals) : CallW R s args "PulsePlotter" "PulsePlotter$Arc" 175 y_A_join b_A_join 8 none (.code y_A_join b_A_join 8 none :: wG) { frames := fr, cells := 0, slots := 0, locals := lo } 0 0 5 :=
  my_cwV hts kc_A_join k_P_175 kn_A_join kv_A_join ki_A ⟨by decide +kernel, by decide +kernel, by decide +kernel⟩ hR
theorem kw_P_179_A : Cond.selects "PulsePlotter$Arc" ⟨"PulsePlotter$Way", "size", "()I"⟩ y_A_size ∈ wG := wG_of (List.mem_append_right _ (List.mem_append_right _ (List.mem_append_left _ (List.mem_of_getElem? (i := 214) (by rfl))))) rfl
theorem cw_P_179_A {R : Room} {s : State} {args : Array Value} {fr lo : Nat} (hts : ∀ w ∈ wG, w.before args s = true) {X : xT} {A : Nat → Prop} {H : Heap} (hX : xS X A s H) (hR : fr + 1 ≤ R.frames ∧ 8 + (1 + 11) + lo ≤ R.locals) : va_CU R s args "PulsePlotter" "PulsePlotter$Arc" "PulsePlotter$Way" 179 ⟨"PulsePlotter$Way", "size", "()I"⟩ y_A_size b_A_size 1 (some .int) (.code y_A_size b_A_size 1 (some .int) :: wG) { frames := fr, cells := 0, slots := 0, locals := lo } 0 0 0 :=
  my_cwA hts kc_A_size k_P_179 kw_P_179_A kn_A_size ki_A (wG_of (List.mem_append_right _ (List.mem_append_right _ (List.mem_append_left _ (List.mem_of_getElem? (i := 213) (by rfl))))) rfl) hX.2.2.1 ⟨by decide +kernel, by decide +kernel⟩ (by decide +kernel) hR
theorem kw_P_179_S : Cond.selects "PulsePlotter$Straight" ⟨"PulsePlotter$Way", "size", "()I"⟩ y_S_size ∈ wG := wG_of (List.mem_append_right _ (List.mem_append_right _ (List.mem_append_left _ (List.mem_of_getElem? (i := 217) (by rfl))))) rfl
theorem cw_P_179_S {R : Room} {s : State} {args : Array Value} {fr lo : Nat} (hts : ∀ w ∈ wG, w.before args s = true) {X : xT} {A : Nat → Prop} {H : Heap} (hX : xS X A s H) (hR : fr + 1 ≤ R.frames ∧ 8 + (1 + 11) + lo ≤ R.locals) : va_CU R s args "PulsePlotter" "PulsePlotter$Straight" "PulsePlotter$Way" 179 ⟨"PulsePlotter$Way", "size", "()I"⟩ y_S_size b_S_size 1 (some .int) (.code y_S_size b_S_size 1 (some .int) :: wG) { frames := fr, cells := 0, slots := 0, locals := lo } 0 0 0 :=
  my_cwA hts kc_S_size k_P_179 kw_P_179_S kn_S_size ki_S (wG_of (List.mem_append_right _ (List.mem_append_right _ (List.mem_append_left _ (List.mem_of_getElem? (i := 213) (by rfl))))) rfl) hX.2.2.1 ⟨by decide +kernel, by decide +kernel⟩ (by decide +kernel) hR
theorem cw_T_19 {R : Room} {s : State} {args : Array Value} {fr lo : Nat} (hts : ∀ w ∈ wG, w.before args s = true) (hR : fr + 1 ≤ R.frames ∧ 8 + (2 + 11) + lo ≤ R.locals) : CallB R s args "PulsePlotter$Text" 19 y_T_packedCode b_T_packedCode 2 (some .int) (.code y_T_packedCode b_T_packedCode 2 (some .int) :: wG) { frames := fr, cells := 0, slots := 0, locals := lo } 0 0 2 ∧ (Cond.static y_T_packedCode).before args s = true :=
  my_cwS hts kc_T_packedCode k_T_19 ks_T_packedCode ki_T ⟨by decide +kernel, by decide +kernel, by decide +kernel⟩ hR
theorem cw_T_23 {R : Room} {s : State} {args : Array Value} {fr lo : Nat} (hts : ∀ w ∈ wG, w.before args s = true) (hR : fr + 1 ≤ R.frames ∧ 8 + (2 + 11) + lo ≤ R.locals) : CallW R s args "PulsePlotter$Text" "PulsePlotter$Text" 23 y_T_codeAt b_T_codeAt 2 (some .char) (.code y_T_codeAt b_T_codeAt 2 (some .char) :: wG) { frames := fr, cells := 0, slots := 0, locals := lo } 0 0 1 :=
  my_cwV hts kc_T_codeAt k_T_23 kn_T_codeAt kv_T_codeAt ki_T ⟨by decide +kernel, by decide +kernel, by decide +kernel⟩ hR
theorem cw_W_36 {R : Room} {s : State} {args : Array Value} {fr lo : Nat} (hts : ∀ w ∈ wG, w.before args s = true) (hR : fr + 1 ≤ R.frames ∧ 8 + (2 + 11) + lo ≤ R.locals) : CallW R s args "PulsePlotter$Words" "PulsePlotter$Words" 36 y_W_has b_W_has 2 (some .boolean) (.code y_W_has b_W_has 2 (some .boolean) :: wG) { frames := fr, cells := 0, slots := 0, locals := lo } 0 0 1 :=
  my_cwV hts kc_W_has k_W_36 kn_W_has kv_W_has ki_W ⟨by decide +kernel, by decide +kernel, by decide +kernel⟩ hR
theorem cw_W_40 {R : Room} {s : State} {args : Array Value} {fr lo : Nat} (hts : ∀ w ∈ wG, w.before args s = true) (hR : fr + 1 ≤ R.frames ∧ 8 + (2 + 11) + lo ≤ R.locals) : CallW R s args "PulsePlotter$Words" "PulsePlotter$Words" 40 y_W_forget b_W_forget 2 none (.code y_W_forget b_W_forget 2 none :: wG) { frames := fr, cells := 0, slots := 0, locals := lo } 0 0 0 :=
  my_cwV hts kc_W_forget k_W_40 kn_W_forget kv_W_forget ki_W ⟨by decide +kernel, by decide +kernel, by decide +kernel⟩ hR
theorem cw_W_43 {R : Room} {s : State} {args : Array Value} {fr lo : Nat} (hts : ∀ w ∈ wG, w.before args s = true) (hR : fr + 1 ≤ R.frames ∧ 8 + (5 + 11) + lo ≤ R.locals) : CallW R s args "PulsePlotter$Words" "PulsePlotter$Words" 43 y_W_takeRow b_W_takeRow 5 none (.code y_W_takeRow b_W_takeRow 5 none :: wG) { frames := fr, cells := 0, slots := 0, locals := lo } 0 0 3 :=
  my_cwV hts kc_W_takeRow k_W_43 kn_W_takeRow kv_W_takeRow ki_W ⟨by decide +kernel, by decide +kernel, by decide +kernel⟩ hR
theorem cw_W_47 {R : Room} {s : State} {args : Array Value} {fr lo : Nat} (hts : ∀ w ∈ wG, w.before args s = true) (hR : fr + 1 ≤ R.frames ∧ 8 + (6 + 11) + lo ≤ R.locals) : CallW R s args "PulsePlotter$Words" "PulsePlotter$Words" 47 y_W_readWord b_W_readWord 6 (some .int) (.code y_W_readWord b_W_readWord 6 (some .int) :: wG) { frames := fr, cells := 0, slots := 0, locals := lo } 0 0 0 :=
  my_cwV hts kc_W_readWord k_W_47 kn_W_readWord kv_W_readWord ki_W ⟨by decide +kernel, by decide +kernel, by decide +kernel⟩ hR
theorem cw_W_51 {R : Room} {s : State} {args : Array Value} {fr lo : Nat} (hts : ∀ w ∈ wG, w.before args s = true) (hR : fr + 1 ≤ R.frames ∧ 8 + (2 + 11) + lo ≤ R.locals) : CallW R s args "PulsePlotter$Words" "PulsePlotter$Text" 51 y_T_codeAt b_T_codeAt 2 (some .char) (.code y_T_codeAt b_T_codeAt 2 (some .char) :: wG) { frames := fr, cells := 0, slots := 0, locals := lo } 0 0 1 :=
  my_cwV hts kc_T_codeAt k_W_51 kn_T_codeAt kv_T_codeAt ki_T ⟨by decide +kernel, by decide +kernel, by decide +kernel⟩ hR
theorem cw_W_59 {R : Room} {s : State} {args : Array Value} {fr lo : Nat} (hts : ∀ w ∈ wG, w.before args s = true) (hR : fr + 1 ≤ R.frames ∧ 8 + (1 + 11) + lo ≤ R.locals) : CallW R s args "PulsePlotter$Words" "PulsePlotter$Words" 59 y_W_peek b_W_peek 1 (some .char) (.code y_W_peek b_W_peek 1 (some .char) :: wG) { frames := fr, cells := 0, slots := 0, locals := lo } 0 0 0 :=
  my_cwV hts kc_W_peek k_W_59 kn_W_peek kv_W_peek ki_W ⟨by decide +kernel, by decide +kernel, by decide +kernel⟩ hR
theorem cw_W_69 {R : Room} {s : State} {args : Array Value} {fr lo : Nat} (hts : ∀ w ∈ wG, w.before args s = true) (hR : fr + 1 ≤ R.frames ∧ 8 + (1 + 11) + lo ≤ R.locals) : CallB R s args "PulsePlotter$Words" 69 y_W_isSigned b_W_isSigned 1 (some .boolean) (.code y_W_isSigned b_W_isSigned 1 (some .boolean) :: wG) { frames := fr, cells := 0, slots := 0, locals := lo } 0 0 1 ∧ (Cond.static y_W_isSigned).before args s = true :=
  my_cwS hts kc_W_isSigned k_W_69 ks_W_isSigned ki_W ⟨by decide +kernel, by decide +kernel, by decide +kernel⟩ hR
theorem cw_W_72 {R : Room} {s : State} {args : Array Value} {fr lo : Nat} (hts : ∀ w ∈ wG, w.before args s = true) (hR : fr + 1 ≤ R.frames ∧ 8 + (1 + 11) + lo ≤ R.locals) : CallB R s args "PulsePlotter$Words" 72 y_W_isDigit b_W_isDigit 1 (some .boolean) (.code y_W_isDigit b_W_isDigit 1 (some .boolean) :: wG) { frames := fr, cells := 0, slots := 0, locals := lo } 0 0 1 ∧ (Cond.static y_W_isDigit).before args s = true :=
  my_cwS hts kc_W_isDigit k_W_72 ks_W_isDigit ki_W ⟨by decide +kernel, by decide +kernel, by decide +kernel⟩ hR
theorem cw_W_79 {R : Room} {s : State} {args : Array Value} {fr lo : Nat} (hts : ∀ w ∈ wG, w.before args s = true) (hR : fr + 1 ≤ R.frames ∧ 8 + (2 + 11) + lo ≤ R.locals) : CallW R s args "PulsePlotter$Words" "PulsePlotter$Words" 79 y_W_keepG b_W_keepG 2 (some .int) (.code y_W_keepG b_W_keepG 2 (some .int) :: wG) { frames := fr, cells := 0, slots := 0, locals := lo } 0 0 1 :=
  my_cwV hts kc_W_keepG k_W_79 kn_W_keepG kv_W_keepG ki_W ⟨by decide +kernel, by decide +kernel, by decide +kernel⟩ hR
theorem cw_W_82 {R : Room} {s : State} {args : Array Value} {fr lo : Nat} (hts : ∀ w ∈ wG, w.before args s = true) (hR : fr + 1 ≤ R.frames ∧ 8 + (3 + 11) + lo ≤ R.locals) : CallW R s args "PulsePlotter$Words" "PulsePlotter$Words" 82 y_W_keep b_W_keep 3 (some .int) (.code y_W_keep b_W_keep 3 (some .int) :: wG) { frames := fr, cells := 0, slots := 0, locals := lo } 0 0 2 :=
  my_cwV hts kc_W_keep k_W_82 kn_W_keep kv_W_keep ki_W ⟨by decide +kernel, by decide +kernel, by decide +kernel⟩ hR
theorem cw_S_25 {R : Room} {s : State} {args : Array Value} {fr lo : Nat} (hts : ∀ w ∈ wG, w.before args s = true) (hR : fr + 1 ≤ R.frames ∧ 8 + (1 + 11) + lo ≤ R.locals) : CallB R s args "PulsePlotter$Straight" 25 y_Jm_abs b_Jm_abs 1 (some .int) (.code y_Jm_abs b_Jm_abs 1 (some .int) :: wG) { frames := fr, cells := 0, slots := 0, locals := lo } 0 0 1 ∧ (Cond.static y_Jm_abs).before args s = true :=
  my_cwS hts kc_Jm_abs k_S_25 ks_Jm_abs ki_Jm ⟨by decide +kernel, by decide +kernel, by decide +kernel⟩ hR
theorem cw_S_31 {R : Room} {s : State} {args : Array Value} {fr lo : Nat} (hts : ∀ w ∈ wG, w.before args s = true) (hR : fr + 1 ≤ R.frames ∧ 8 + (2 + 11) + lo ≤ R.locals) : CallB R s args "PulsePlotter$Straight" 31 y_Jm_max b_Jm_max 2 (some .int) (.code y_Jm_max b_Jm_max 2 (some .int) :: wG) { frames := fr, cells := 0, slots := 0, locals := lo } 0 0 2 ∧ (Cond.static y_Jm_max).before args s = true :=
  my_cwS hts kc_Jm_max k_S_31 ks_Jm_max ki_Jm ⟨by decide +kernel, by decide +kernel, by decide +kernel⟩ hR
theorem cw_S_35 {R : Room} {s : State} {args : Array Value} {fr lo : Nat} (hts : ∀ w ∈ wG, w.before args s = true) (hR : fr + 1 ≤ R.frames ∧ 8 + (3 + 11) + lo ≤ R.locals) : CallW R s args "PulsePlotter$Straight" "PulsePlotter$Straight" 35 y_S_part b_S_part 3 (some .int) (.code y_S_part b_S_part 3 (some .int) :: wG) { frames := fr, cells := 0, slots := 0, locals := lo } 0 0 2 :=
  my_cwV hts kc_S_part k_S_35 kn_S_part kv_S_part ki_S ⟨by decide +kernel, by decide +kernel, by decide +kernel⟩ hR
theorem cw_S_38 {R : Room} {s : State} {args : Array Value} {fr lo : Nat} (hts : ∀ w ∈ wG, w.before args s = true) (hR : fr + 1 ≤ R.frames ∧ 8 + (3 + 11) + lo ≤ R.locals) : CallB R s args "PulsePlotter$Straight" 38 y_Jm_floorDiv b_Jm_floorDiv 3 (some .int) (.code y_Jm_floorDiv b_Jm_floorDiv 3 (some .int) :: wG) { frames := fr, cells := 0, slots := 0, locals := lo } 0 0 2 ∧ (Cond.static y_Jm_floorDiv).before args s = true :=
  my_cwS hts kc_Jm_floorDiv k_S_38 ks_Jm_floorDiv ki_Jm ⟨by decide +kernel, by decide +kernel, by decide +kernel⟩ hR
theorem cw_A_37 {R : Room} {s : State} {args : Array Value} {fr lo : Nat} (hts : ∀ w ∈ wG, w.before args s = true) (hR : fr + 1 ≤ R.frames ∧ 8 + (2 + 11) + lo ≤ R.locals) : CallB R s args "PulsePlotter$Arc" 37 y_A_radius b_A_radius 2 (some .int) (.code y_A_radius b_A_radius 2 (some .int) :: wG) { frames := fr, cells := 0, slots := 0, locals := lo } 0 0 1 ∧ (Cond.static y_A_radius).before args s = true :=
  my_cwS hts kc_A_radius k_A_37 ks_A_radius ki_A ⟨by decide +kernel, by decide +kernel, by decide +kernel⟩ hR
theorem cw_A_41 {R : Room} {s : State} {args : Array Value} {fr lo : Nat} (hts : ∀ w ∈ wG, w.before args s = true) (hR : fr + 1 ≤ R.frames ∧ 8 + (2 + 11) + lo ≤ R.locals) : CallB R s args "PulsePlotter$Arc" 41 y_Jm_max b_Jm_max 2 (some .int) (.code y_Jm_max b_Jm_max 2 (some .int) :: wG) { frames := fr, cells := 0, slots := 0, locals := lo } 0 0 2 ∧ (Cond.static y_Jm_max).before args s = true :=
  my_cwS hts kc_Jm_max k_A_41 ks_Jm_max ki_Jm ⟨by decide +kernel, by decide +kernel, by decide +kernel⟩ hR
theorem cw_A_47 {R : Room} {s : State} {args : Array Value} {fr lo : Nat} (hts : ∀ w ∈ wG, w.before args s = true) (hR : fr + 1 ≤ R.frames ∧ 8 + (8 + 11) + lo ≤ R.locals) : CallW R s args "PulsePlotter$Arc" "PulsePlotter$Arc" 47 y_A_numberOf b_A_numberOf 8 (some .int) (.code y_A_numberOf b_A_numberOf 8 (some .int) :: wG) { frames := fr, cells := 0, slots := 0, locals := lo } 0 0 2 :=
  my_cwV hts kc_A_numberOf k_A_47 kn_A_numberOf kv_A_numberOf ki_A ⟨by decide +kernel, by decide +kernel, by decide +kernel⟩ hR
theorem cw_A_50 {R : Room} {s : State} {args : Array Value} {fr lo : Nat} (hts : ∀ w ∈ wG, w.before args s = true) (hR : fr + 1 ≤ R.frames ∧ 8 + (3 + 11) + lo ≤ R.locals) : CallB R s args "PulsePlotter$Arc" 50 y_Jm_floorMod b_Jm_floorMod 3 (some .int) (.code y_Jm_floorMod b_Jm_floorMod 3 (some .int) :: wG) { frames := fr, cells := 0, slots := 0, locals := lo } 0 0 2 ∧ (Cond.static y_Jm_floorMod).before args s = true :=
  my_cwS hts kc_Jm_floorMod k_A_50 ks_Jm_floorMod ki_Jm ⟨by decide +kernel, by decide +kernel, by decide +kernel⟩ hR
theorem cw_A_53 {R : Room} {s : State} {args : Array Value} {fr lo : Nat} (hts : ∀ w ∈ wG, w.before args s = true) (hR : fr + 1 ≤ R.frames ∧ 8 + (4 + 11) + lo ≤ R.locals) : CallW R s args "PulsePlotter$Arc" "PulsePlotter$Arc" 53 y_A_xOf b_A_xOf 4 (some .int) (.code y_A_xOf b_A_xOf 4 (some .int) :: wG) { frames := fr, cells := 0, slots := 0, locals := lo } 0 0 1 :=
  my_cwV hts kc_A_xOf k_A_53 kn_A_xOf kv_A_xOf ki_A ⟨by decide +kernel, by decide +kernel, by decide +kernel⟩ hR
theorem cw_A_56 {R : Room} {s : State} {args : Array Value} {fr lo : Nat} (hts : ∀ w ∈ wG, w.before args s = true) (hR : fr + 1 ≤ R.frames ∧ 8 + (3 + 11) + lo ≤ R.locals) : CallW R s args "PulsePlotter$Arc" "PulsePlotter$Arc" 56 y_A_reachAt b_A_reachAt 3 (some .int) (.code y_A_reachAt b_A_reachAt 3 (some .int) :: wG) { frames := fr, cells := 0, slots := 0, locals := lo } 0 0 1 :=
  my_cwV hts kc_A_reachAt k_A_56 kn_A_reachAt kv_A_reachAt ki_A ⟨by decide +kernel, by decide +kernel, by decide +kernel⟩ hR
theorem cw_M_22 {R : Room} {s : State} {args : Array Value} {fr lo : Nat} (hts : ∀ w ∈ wG, w.before args s = true) (hR : fr + 1 ≤ R.frames ∧ 8 + (1 + 11) + lo ≤ R.locals) : CallW R s args "PulsePlotterModel" "PulsePlotterModel" 22 y_M_begin b_M_begin 1 none (.code y_M_begin b_M_begin 1 none :: wG) { frames := fr, cells := 0, slots := 0, locals := lo } 0 0 0 :=
  my_cwV hts kc_M_begin k_M_22 kn_M_begin kv_M_begin ki_M ⟨by decide +kernel, by decide +kernel, by decide +kernel⟩ hR
theorem cw_M_91 {R : Room} {s : State} {args : Array Value} {fr lo : Nat} (hts : ∀ w ∈ wG, w.before args s = true) (hR : fr + 1 ≤ R.frames ∧ 8 + (4 + 11) + lo ≤ R.locals) : CallW R s args "PulsePlotterModel" "PulsePlotterModel" 91 y_M_skip b_M_skip 4 (some .int) (.code y_M_skip b_M_skip 4 (some .int) :: wG) { frames := fr, cells := 0, slots := 0, locals := lo } 0 0 2 :=
  my_cwV hts kc_M_skip k_M_91 kn_M_skip kv_M_skip ki_M ⟨by decide +kernel, by decide +kernel, by decide +kernel⟩ hR
theorem cw_M_95 {R : Room} {s : State} {args : Array Value} {fr lo : Nat} (hts : ∀ w ∈ wG, w.before args s = true) (hR : fr + 1 ≤ R.frames ∧ 8 + (1 + 11) + lo ≤ R.locals) : CallB R s args "PulsePlotterModel" 95 y_M_letter b_M_letter 1 (some .int) (.code y_M_letter b_M_letter 1 (some .int) :: wG) { frames := fr, cells := 0, slots := 0, locals := lo } 0 0 1 ∧ (Cond.static y_M_letter).before args s = true :=
  my_cwS hts kc_M_letter k_M_95 ks_M_letter ki_M ⟨by decide +kernel, by decide +kernel, by decide +kernel⟩ hR
theorem cw_M_99 {R : Room} {s : State} {args : Array Value} {fr lo : Nat} (hts : ∀ w ∈ wG, w.before args s = true) (hR : fr + 1 ≤ R.frames ∧ 8 + (1 + 11) + lo ≤ R.locals) : CallB R s args "PulsePlotterModel" 99 y_M_digit b_M_digit 1 (some .boolean) (.code y_M_digit b_M_digit 1 (some .boolean) :: wG) { frames := fr, cells := 0, slots := 0, locals := lo } 0 0 1 ∧ (Cond.static y_M_digit).before args s = true :=
  my_cwS hts kc_M_digit k_M_99 ks_M_digit ki_M ⟨by decide +kernel, by decide +kernel, by decide +kernel⟩ hR
theorem cw_M_103 {R : Room} {s : State} {args : Array Value} {fr lo : Nat} (hts : ∀ w ∈ wG, w.before args s = true) (hR : fr + 1 ≤ R.frames ∧ 8 + (3 + 11) + lo ≤ R.locals) : CallW R s args "PulsePlotterModel" "PulsePlotterModel" 103 y_M_keep b_M_keep 3 (some .int) (.code y_M_keep b_M_keep 3 (some .int) :: wG) { frames := fr, cells := 0, slots := 0, locals := lo } 0 0 2 :=
  my_cwV hts kc_M_keep k_M_103 kn_M_keep kv_M_keep ki_M ⟨by decide +kernel, by decide +kernel, by decide +kernel⟩ hR
theorem cw_M_106 {R : Room} {s : State} {args : Array Value} {fr lo : Nat} (hts : ∀ w ∈ wG, w.before args s = true) (hR : fr + 1 ≤ R.frames ∧ 8 + (3 + 11) + lo ≤ R.locals) : CallW R s args "PulsePlotterModel" "PulsePlotterModel" 106 y_M_goal b_M_goal 3 (some .int) (.code y_M_goal b_M_goal 3 (some .int) :: wG) { frames := fr, cells := 0, slots := 0, locals := lo } 0 0 2 :=
  my_cwV hts kc_M_goal k_M_106 kn_M_goal kv_M_goal ki_M ⟨by decide +kernel, by decide +kernel, by decide +kernel⟩ hR
theorem cw_M_115 {R : Room} {s : State} {args : Array Value} {fr lo : Nat} (hts : ∀ w ∈ wG, w.before args s = true) (hR : fr + 1 ≤ R.frames ∧ 8 + (1 + 11) + lo ≤ R.locals) : CallB R s args "PulsePlotterModel" 115 y_M_inLimits b_M_inLimits 1 (some .boolean) (.code y_M_inLimits b_M_inLimits 1 (some .boolean) :: wG) { frames := fr, cells := 0, slots := 0, locals := lo } 0 0 1 ∧ (Cond.static y_M_inLimits).before args s = true :=
  my_cwS hts kc_M_inLimits k_M_115 ks_M_inLimits ki_M ⟨by decide +kernel, by decide +kernel, by decide +kernel⟩ hR
theorem cw_M_133 {R : Room} {s : State} {args : Array Value} {fr lo : Nat} (hts : ∀ w ∈ wG, w.before args s = true) (hR : fr + 1 ≤ R.frames ∧ 8 + (10 + 11) + lo ≤ R.locals) : CallW R s args "PulsePlotterModel" "PulsePlotterModel" 133 y_M_arc b_M_arc 10 (some .int) (.code y_M_arc b_M_arc 10 (some .int) :: wG) { frames := fr, cells := 0, slots := 0, locals := lo } 0 0 4 :=
  my_cwV hts kc_M_arc k_M_133 kn_M_arc kv_M_arc ki_M ⟨by decide +kernel, by decide +kernel, by decide +kernel⟩ hR
theorem cw_M_144 {R : Room} {s : State} {args : Array Value} {fr lo : Nat} (hts : ∀ w ∈ wG, w.before args s = true) (hR : fr + 1 ≤ R.frames ∧ 8 + (5 + 11) + lo ≤ R.locals) : CallW R s args "PulsePlotterModel" "PulsePlotterModel" 144 y_M_lay b_M_lay 5 none (.code y_M_lay b_M_lay 5 none :: wG) { frames := fr, cells := 0, slots := 0, locals := lo } 0 0 1 :=
  my_cwV hts kc_M_lay k_M_144 kn_M_lay kv_M_lay ki_M ⟨by decide +kernel, by decide +kernel, by decide +kernel⟩ hR
theorem cw_M_151 {R : Room} {s : State} {args : Array Value} {fr lo : Nat} (hts : ∀ w ∈ wG, w.before args s = true) (hR : fr + 1 ≤ R.frames ∧ 8 + (9 + 11) + lo ≤ R.locals) : CallW R s args "PulsePlotterModel" "PulsePlotterModel" 151 y_M_before b_M_before 9 (some .boolean) (.code y_M_before b_M_before 9 (some .boolean) :: wG) { frames := fr, cells := 0, slots := 0, locals := lo } 0 0 6 :=
  my_cwV hts kc_M_before k_M_151 kn_M_before kv_M_before ki_M ⟨by decide +kernel, by decide +kernel, by decide +kernel⟩ hR
theorem cw_M_155 {R : Room} {s : State} {args : Array Value} {fr lo : Nat} (hts : ∀ w ∈ wG, w.before args s = true) (hR : fr + 1 ≤ R.frames ∧ 8 + (5 + 11) + lo ≤ R.locals) : CallB R s args "PulsePlotterModel" 155 y_M_over b_M_over 5 (some .int) (.code y_M_over b_M_over 5 (some .int) :: wG) { frames := fr, cells := 0, slots := 0, locals := lo } 0 0 2 ∧ (Cond.static y_M_over).before args s = true :=
  my_cwS hts kc_M_over k_M_155 ks_M_over ki_M ⟨by decide +kernel, by decide +kernel, by decide +kernel⟩ hR
theorem cw_M_158 {R : Room} {s : State} {args : Array Value} {fr lo : Nat} (hts : ∀ w ∈ wG, w.before args s = true) (hR : fr + 1 ≤ R.frames ∧ 8 + (4 + 11) + lo ≤ R.locals) : CallW R s args "PulsePlotterModel" "PulsePlotterModel" 158 y_M_point b_M_point 4 none (.code y_M_point b_M_point 4 none :: wG) { frames := fr, cells := 0, slots := 0, locals := lo } 0 0 2 :=
  my_cwV hts kc_M_point k_M_158 kn_M_point kv_M_point ki_M ⟨by decide +kernel, by decide +kernel, by decide +kernel⟩ hR
theorem cw_M_162 {R : Room} {s : State} {args : Array Value} {fr lo : Nat} (hts : ∀ w ∈ wG, w.before args s = true) (hR : fr + 1 ≤ R.frames ∧ 8 + (6 + 11) + lo ≤ R.locals) : CallW R s args "PulsePlotterModel" "PulsePlotterModel" 162 y_M_half b_M_half 6 (some .int) (.code y_M_half b_M_half 6 (some .int) :: wG) { frames := fr, cells := 0, slots := 0, locals := lo } 0 0 4 :=
  my_cwV hts kc_M_half k_M_162 kn_M_half kv_M_half ki_M ⟨by decide +kernel, by decide +kernel, by decide +kernel⟩ hR
theorem cw_M_165 {R : Room} {s : State} {args : Array Value} {fr lo : Nat} (hts : ∀ w ∈ wG, w.before args s = true) (hR : fr + 1 ≤ R.frames ∧ 8 + (12 + 11) + lo ≤ R.locals) : CallW R s args "PulsePlotterModel" "PulsePlotterModel" 165 y_M_read b_M_read 12 (some .int) (.code y_M_read b_M_read 12 (some .int) :: wG) { frames := fr, cells := 0, slots := 0, locals := lo } 0 0 2 :=
  my_cwV hts kc_M_read k_M_165 kn_M_read kv_M_read ki_M ⟨by decide +kernel, by decide +kernel, by decide +kernel⟩ hR
theorem cw_M_168 {R : Room} {s : State} {args : Array Value} {fr lo : Nat} (hts : ∀ w ∈ wG, w.before args s = true) (hR : fr + 1 ≤ R.frames ∧ 8 + (6 + 11) + lo ≤ R.locals) : CallW R s args "PulsePlotterModel" "PulsePlotterModel" 168 y_M_act b_M_act 6 (some .int) (.code y_M_act b_M_act 6 (some .int) :: wG) { frames := fr, cells := 0, slots := 0, locals := lo } 0 0 0 :=
  my_cwV hts kc_M_act k_M_168 kn_M_act kv_M_act ki_M ⟨by decide +kernel, by decide +kernel, by decide +kernel⟩ hR
theorem cw_M_172 {R : Room} {s : State} {args : Array Value} {fr lo : Nat} (hts : ∀ w ∈ wG, w.before args s = true) (hR : fr + 1 ≤ R.frames ∧ 8 + (2 + 11) + lo ≤ R.locals) : CallB R s args "PulsePlotterModel" 172 y_M_quotient b_M_quotient 2 (some .int) (.code y_M_quotient b_M_quotient 2 (some .int) :: wG) { frames := fr, cells := 0, slots := 0, locals := lo } 0 0 2 ∧ (Cond.static y_M_quotient).before args s = true :=
  my_cwS hts kc_M_quotient k_M_172 ks_M_quotient ki_M ⟨by decide +kernel, by decide +kernel, by decide +kernel⟩ hR
theorem cw_M_175 {R : Room} {s : State} {args : Array Value} {fr lo : Nat} (hts : ∀ w ∈ wG, w.before args s = true) (hR : fr + 1 ≤ R.frames ∧ 8 + (4 + 11) + lo ≤ R.locals) : CallW R s args "PulsePlotterModel" "PulsePlotterModel" 175 y_M_look b_M_look 4 none (.code y_M_look b_M_look 4 none :: wG) { frames := fr, cells := 0, slots := 0, locals := lo } 0 0 0 :=
  my_cwV hts kc_M_look k_M_175 kn_M_look kv_M_look ki_M ⟨by decide +kernel, by decide +kernel, by decide +kernel⟩ hR
theorem cw_M_178 {R : Room} {s : State} {args : Array Value} {fr lo : Nat} (hts : ∀ w ∈ wG, w.before args s = true) (hR : fr + 1 ≤ R.frames ∧ 8 + (8 + 11) + lo ≤ R.locals) : CallW R s args "PulsePlotterModel" "PulsePlotterModel" 178 y_M_pulse b_M_pulse 8 none (.code y_M_pulse b_M_pulse 8 none :: wG) { frames := fr, cells := 0, slots := 0, locals := lo } 0 0 0 :=
  my_cwV hts kc_M_pulse k_M_178 kn_M_pulse kv_M_pulse ki_M ⟨by decide +kernel, by decide +kernel, by decide +kernel⟩ hR
theorem cw_L_13 {R : Room} {s : State} {args : Array Value} {fr lo : Nat} (hts : ∀ w ∈ wG, w.before args s = true) (hR : fr + 1 ≤ R.frames ∧ 8 + (3 + 11) + lo ≤ R.locals) : CallW R s args "PulsePlotterLaw" "PulsePlotter" 13 y_P_feed b_P_feed 3 (some .int) (.code y_P_feed b_P_feed 3 (some .int) :: wG) { frames := fr, cells := 0, slots := 0, locals := lo } 0 0 1 :=
  my_cwV hts kc_P_feed k_L_13 kn_P_feed kv_P_feed ki_P ⟨by decide +kernel, by decide +kernel, by decide +kernel⟩ hR
theorem cw_L_17 {R : Room} {s : State} {args : Array Value} {fr lo : Nat} (hts : ∀ w ∈ wG, w.before args s = true) (hR : fr + 1 ≤ R.frames ∧ 8 + (4 + 11) + lo ≤ R.locals) : CallW R s args "PulsePlotterLaw" "PulsePlotterModel" 17 y_M_feed b_M_feed 4 (some .int) (.code y_M_feed b_M_feed 4 (some .int) :: wG) { frames := fr, cells := 0, slots := 0, locals := lo } 0 0 1 :=
  my_cwV hts kc_M_feed k_L_17 kn_M_feed kv_M_feed ki_M ⟨by decide +kernel, by decide +kernel, by decide +kernel⟩ hR
theorem cw_L_18 {R : Room} {s : State} {args : Array Value} {fr lo : Nat} (hts : ∀ w ∈ wG, w.before args s = true) (hR : fr + 1 ≤ R.frames ∧ 8 + (1 + 11) + lo ≤ R.locals) : CallW R s args "PulsePlotterLaw" "PulsePlotter" 18 y_P_clear b_P_clear 1 none (.code y_P_clear b_P_clear 1 none :: wG) { frames := fr, cells := 0, slots := 0, locals := lo } 0 0 0 :=
  my_cwV hts kc_P_clear k_L_18 kn_P_clear kv_P_clear ki_P ⟨by decide +kernel, by decide +kernel, by decide +kernel⟩ hR
theorem cw_L_21 {R : Room} {s : State} {args : Array Value} {fr lo : Nat} (hts : ∀ w ∈ wG, w.before args s = true) (hR : fr + 1 ≤ R.frames ∧ 8 + (1 + 11) + lo ≤ R.locals) : CallW R s args "PulsePlotterLaw" "PulsePlotterModel" 21 y_M_clear b_M_clear 1 none (.code y_M_clear b_M_clear 1 none :: wG) { frames := fr, cells := 0, slots := 0, locals := lo } 0 0 0 :=
  my_cwV hts kc_M_clear k_L_21 kn_M_clear kv_M_clear ki_M ⟨by decide +kernel, by decide +kernel, by decide +kernel⟩ hR
theorem cw_L_22 {R : Room} {s : State} {args : Array Value} {fr lo : Nat} (hts : ∀ w ∈ wG, w.before args s = true) (hR : fr + 1 ≤ R.frames ∧ 8 + (1 + 11) + lo ≤ R.locals) : CallW R s args "PulsePlotterLaw" "PulsePlotter" 22 y_P_begin b_P_begin 1 none (.code y_P_begin b_P_begin 1 none :: wG) { frames := fr, cells := 0, slots := 0, locals := lo } 0 0 0 :=
  my_cwV hts kc_P_begin k_L_22 kn_P_begin kv_P_begin ki_P ⟨by decide +kernel, by decide +kernel, by decide +kernel⟩ hR
theorem cw_L_25 {R : Room} {s : State} {args : Array Value} {fr lo : Nat} (hts : ∀ w ∈ wG, w.before args s = true) (hR : fr + 1 ≤ R.frames ∧ 8 + (1 + 11) + lo ≤ R.locals) : CallW R s args "PulsePlotterLaw" "PulsePlotterModel" 25 y_M_begin b_M_begin 1 none (.code y_M_begin b_M_begin 1 none :: wG) { frames := fr, cells := 0, slots := 0, locals := lo } 0 0 0 :=
  my_cwV hts kc_M_begin k_L_25 kn_M_begin kv_M_begin ki_M ⟨by decide +kernel, by decide +kernel, by decide +kernel⟩ hR
theorem cw_L_26 {R : Room} {s : State} {args : Array Value} {fr lo : Nat} (hts : ∀ w ∈ wG, w.before args s = true) (hR : fr + 1 ≤ R.frames ∧ 8 + (4 + 11) + lo ≤ R.locals) : CallW R s args "PulsePlotterLaw" "PulsePlotter" 26 y_P_run b_P_run 4 (some .int) (.code y_P_run b_P_run 4 (some .int) :: wG) { frames := fr, cells := 0, slots := 0, locals := lo } 0 0 1 :=
  my_cwV hts kc_P_run k_L_26 kn_P_run kv_P_run ki_P ⟨by decide +kernel, by decide +kernel, by decide +kernel⟩ hR
theorem cw_L_29 {R : Room} {s : State} {args : Array Value} {fr lo : Nat} (hts : ∀ w ∈ wG, w.before args s = true) (hR : fr + 1 ≤ R.frames ∧ 8 + (4 + 11) + lo ≤ R.locals) : CallW R s args "PulsePlotterLaw" "PulsePlotterModel" 29 y_M_run b_M_run 4 (some .int) (.code y_M_run b_M_run 4 (some .int) :: wG) { frames := fr, cells := 0, slots := 0, locals := lo } 0 0 1 :=
  my_cwV hts kc_M_run k_L_29 kn_M_run kv_M_run ki_M ⟨by decide +kernel, by decide +kernel, by decide +kernel⟩ hR
theorem cw_L_30 {R : Room} {s : State} {args : Array Value} {fr lo : Nat} (hts : ∀ w ∈ wG, w.before args s = true) (hR : fr + 1 ≤ R.frames ∧ 8 + (1 + 11) + lo ≤ R.locals) : CallW R s args "PulsePlotterLaw" "PulsePlotter" 30 y_P_state b_P_state 1 (some .int) (.code y_P_state b_P_state 1 (some .int) :: wG) { frames := fr, cells := 0, slots := 0, locals := lo } 0 0 0 :=
  my_cwV hts kc_P_state k_L_30 kn_P_state kv_P_state ki_P ⟨by decide +kernel, by decide +kernel, by decide +kernel⟩ hR
theorem cw_L_34 {R : Room} {s : State} {args : Array Value} {fr lo : Nat} (hts : ∀ w ∈ wG, w.before args s = true) (hR : fr + 1 ≤ R.frames ∧ 8 + (1 + 11) + lo ≤ R.locals) : CallW R s args "PulsePlotterLaw" "PulsePlotterModel" 34 y_M_state b_M_state 1 (some .int) (.code y_M_state b_M_state 1 (some .int) :: wG) { frames := fr, cells := 0, slots := 0, locals := lo } 0 0 0 :=
  my_cwV hts kc_M_state k_L_34 kn_M_state kv_M_state ki_M ⟨by decide +kernel, by decide +kernel, by decide +kernel⟩ hR
theorem cw_L_35 {R : Room} {s : State} {args : Array Value} {fr lo : Nat} (hts : ∀ w ∈ wG, w.before args s = true) (hR : fr + 1 ≤ R.frames ∧ 8 + (1 + 11) + lo ≤ R.locals) : CallW R s args "PulsePlotterLaw" "PulsePlotter" 35 y_P_x b_P_x 1 (some .int) (.code y_P_x b_P_x 1 (some .int) :: wG) { frames := fr, cells := 0, slots := 0, locals := lo } 0 0 0 :=
  my_cwV hts kc_P_x k_L_35 kn_P_x kv_P_x ki_P ⟨by decide +kernel, by decide +kernel, by decide +kernel⟩ hR
theorem cw_L_38 {R : Room} {s : State} {args : Array Value} {fr lo : Nat} (hts : ∀ w ∈ wG, w.before args s = true) (hR : fr + 1 ≤ R.frames ∧ 8 + (1 + 11) + lo ≤ R.locals) : CallW R s args "PulsePlotterLaw" "PulsePlotterModel" 38 y_M_x b_M_x 1 (some .int) (.code y_M_x b_M_x 1 (some .int) :: wG) { frames := fr, cells := 0, slots := 0, locals := lo } 0 0 0 :=
  my_cwV hts kc_M_x k_L_38 kn_M_x kv_M_x ki_M ⟨by decide +kernel, by decide +kernel, by decide +kernel⟩ hR
theorem cw_L_39 {R : Room} {s : State} {args : Array Value} {fr lo : Nat} (hts : ∀ w ∈ wG, w.before args s = true) (hR : fr + 1 ≤ R.frames ∧ 8 + (1 + 11) + lo ≤ R.locals) : CallW R s args "PulsePlotterLaw" "PulsePlotter" 39 y_P_y b_P_y 1 (some .int) (.code y_P_y b_P_y 1 (some .int) :: wG) { frames := fr, cells := 0, slots := 0, locals := lo } 0 0 0 :=
  my_cwV hts kc_P_y k_L_39 kn_P_y kv_P_y ki_P ⟨by decide +kernel, by decide +kernel, by decide +kernel⟩ hR
theorem cw_L_42 {R : Room} {s : State} {args : Array Value} {fr lo : Nat} (hts : ∀ w ∈ wG, w.before args s = true) (hR : fr + 1 ≤ R.frames ∧ 8 + (1 + 11) + lo ≤ R.locals) : CallW R s args "PulsePlotterLaw" "PulsePlotterModel" 42 y_M_y b_M_y 1 (some .int) (.code y_M_y b_M_y 1 (some .int) :: wG) { frames := fr, cells := 0, slots := 0, locals := lo } 0 0 0 :=
  my_cwV hts kc_M_y k_L_42 kn_M_y kv_M_y ki_M ⟨by decide +kernel, by decide +kernel, by decide +kernel⟩ hR
theorem cw_L_43 {R : Room} {s : State} {args : Array Value} {fr lo : Nat} (hts : ∀ w ∈ wG, w.before args s = true) (hR : fr + 1 ≤ R.frames ∧ 8 + (1 + 11) + lo ≤ R.locals) : CallW R s args "PulsePlotterLaw" "PulsePlotter" 43 y_P_time b_P_time 1 (some .long) (.code y_P_time b_P_time 1 (some .long) :: wG) { frames := fr, cells := 0, slots := 0, locals := lo } 0 0 0 :=
  my_cwV hts kc_P_time k_L_43 kn_P_time kv_P_time ki_P ⟨by decide +kernel, by decide +kernel, by decide +kernel⟩ hR
theorem cw_L_47 {R : Room} {s : State} {args : Array Value} {fr lo : Nat} (hts : ∀ w ∈ wG, w.before args s = true) (hR : fr + 1 ≤ R.frames ∧ 8 + (1 + 11) + lo ≤ R.locals) : CallW R s args "PulsePlotterLaw" "PulsePlotterModel" 47 y_M_time b_M_time 1 (some .long) (.code y_M_time b_M_time 1 (some .long) :: wG) { frames := fr, cells := 0, slots := 0, locals := lo } 0 0 0 :=
  my_cwV hts kc_M_time k_L_47 kn_M_time kv_M_time ki_M ⟨by decide +kernel, by decide +kernel, by decide +kernel⟩ hR
theorem cw_L_48 {R : Room} {s : State} {args : Array Value} {fr lo : Nat} (hts : ∀ w ∈ wG, w.before args s = true) (hR : fr + 1 ≤ R.frames ∧ 8 + (1 + 11) + lo ≤ R.locals) : CallW R s args "PulsePlotterLaw" "PulsePlotter" 48 y_P_pulses b_P_pulses 1 (some .int) (.code y_P_pulses b_P_pulses 1 (some .int) :: wG) { frames := fr, cells := 0, slots := 0, locals := lo } 0 0 0 :=
  my_cwV hts kc_P_pulses k_L_48 kn_P_pulses kv_P_pulses ki_P ⟨by decide +kernel, by decide +kernel, by decide +kernel⟩ hR
theorem cw_L_51 {R : Room} {s : State} {args : Array Value} {fr lo : Nat} (hts : ∀ w ∈ wG, w.before args s = true) (hR : fr + 1 ≤ R.frames ∧ 8 + (1 + 11) + lo ≤ R.locals) : CallW R s args "PulsePlotterLaw" "PulsePlotterModel" 51 y_M_pulses b_M_pulses 1 (some .int) (.code y_M_pulses b_M_pulses 1 (some .int) :: wG) { frames := fr, cells := 0, slots := 0, locals := lo } 0 0 0 :=
  my_cwV hts kc_M_pulses k_L_51 kn_M_pulses kv_M_pulses ki_M ⟨by decide +kernel, by decide +kernel, by decide +kernel⟩ hR
theorem cw_L_52 {R : Room} {s : State} {args : Array Value} {fr lo : Nat} (hts : ∀ w ∈ wG, w.before args s = true) (hR : fr + 1 ≤ R.frames ∧ 8 + (1 + 11) + lo ≤ R.locals) : CallW R s args "PulsePlotterLaw" "PulsePlotter" 52 y_P_last b_P_last 1 (some .int) (.code y_P_last b_P_last 1 (some .int) :: wG) { frames := fr, cells := 0, slots := 0, locals := lo } 0 0 0 :=
  my_cwV hts kc_P_last k_L_52 kn_P_last kv_P_last ki_P ⟨by decide +kernel, by decide +kernel, by decide +kernel⟩ hR
theorem cw_L_55 {R : Room} {s : State} {args : Array Value} {fr lo : Nat} (hts : ∀ w ∈ wG, w.before args s = true) (hR : fr + 1 ≤ R.frames ∧ 8 + (1 + 11) + lo ≤ R.locals) : CallW R s args "PulsePlotterLaw" "PulsePlotterModel" 55 y_M_last b_M_last 1 (some .int) (.code y_M_last b_M_last 1 (some .int) :: wG) { frames := fr, cells := 0, slots := 0, locals := lo } 0 0 0 :=
  my_cwV hts kc_M_last k_L_55 kn_M_last kv_M_last ki_M ⟨by decide +kernel, by decide +kernel, by decide +kernel⟩ hR
theorem cw_L_56 {R : Room} {s : State} {args : Array Value} {fr lo : Nat} (hts : ∀ w ∈ wG, w.before args s = true) (hR : fr + 1 ≤ R.frames ∧ 8 + (1 + 11) + lo ≤ R.locals) : CallW R s args "PulsePlotterLaw" "PulsePlotter" 56 y_P_line b_P_line 1 (some .int) (.code y_P_line b_P_line 1 (some .int) :: wG) { frames := fr, cells := 0, slots := 0, locals := lo } 0 0 0 :=
  my_cwV hts kc_P_line k_L_56 kn_P_line kv_P_line ki_P ⟨by decide +kernel, by decide +kernel, by decide +kernel⟩ hR
theorem cw_L_59 {R : Room} {s : State} {args : Array Value} {fr lo : Nat} (hts : ∀ w ∈ wG, w.before args s = true) (hR : fr + 1 ≤ R.frames ∧ 8 + (1 + 11) + lo ≤ R.locals) : CallW R s args "PulsePlotterLaw" "PulsePlotterModel" 59 y_M_line b_M_line 1 (some .int) (.code y_M_line b_M_line 1 (some .int) :: wG) { frames := fr, cells := 0, slots := 0, locals := lo } 0 0 0 :=
  my_cwV hts kc_M_line k_L_59 kn_M_line kv_M_line ki_M ⟨by decide +kernel, by decide +kernel, by decide +kernel⟩ hR
theorem cw_L_60 {R : Room} {s : State} {args : Array Value} {fr lo : Nat} (hts : ∀ w ∈ wG, w.before args s = true) (hR : fr + 1 ≤ R.frames ∧ 8 + (1 + 11) + lo ≤ R.locals) : CallW R s args "PulsePlotterLaw" "PulsePlotter" 60 y_P_feedRate b_P_feedRate 1 (some .int) (.code y_P_feedRate b_P_feedRate 1 (some .int) :: wG) { frames := fr, cells := 0, slots := 0, locals := lo } 0 0 0 :=
  my_cwV hts kc_P_feedRate k_L_60 kn_P_feedRate kv_P_feedRate ki_P ⟨by decide +kernel, by decide +kernel, by decide +kernel⟩ hR
theorem cw_L_63 {R : Room} {s : State} {args : Array Value} {fr lo : Nat} (hts : ∀ w ∈ wG, w.before args s = true) (hR : fr + 1 ≤ R.frames ∧ 8 + (1 + 11) + lo ≤ R.locals) : CallW R s args "PulsePlotterLaw" "PulsePlotterModel" 63 y_M_feedRate b_M_feedRate 1 (some .int) (.code y_M_feedRate b_M_feedRate 1 (some .int) :: wG) { frames := fr, cells := 0, slots := 0, locals := lo } 0 0 0 :=
  my_cwV hts kc_M_feedRate k_L_63 kn_M_feedRate kv_M_feedRate ki_M ⟨by decide +kernel, by decide +kernel, by decide +kernel⟩ hR
theorem cw_L_64 {R : Room} {s : State} {args : Array Value} {fr lo : Nat} (hts : ∀ w ∈ wG, w.before args s = true) (hR : fr + 1 ≤ R.frames ∧ 8 + (1 + 11) + lo ≤ R.locals) : CallW R s args "PulsePlotterLaw" "PulsePlotter" 64 y_P_mode b_P_mode 1 (some .int) (.code y_P_mode b_P_mode 1 (some .int) :: wG) { frames := fr, cells := 0, slots := 0, locals := lo } 0 0 0 :=
  my_cwV hts kc_P_mode k_L_64 kn_P_mode kv_P_mode ki_P ⟨by decide +kernel, by decide +kernel, by decide +kernel⟩ hR
theorem cw_L_67 {R : Room} {s : State} {args : Array Value} {fr lo : Nat} (hts : ∀ w ∈ wG, w.before args s = true) (hR : fr + 1 ≤ R.frames ∧ 8 + (1 + 11) + lo ≤ R.locals) : CallW R s args "PulsePlotterLaw" "PulsePlotterModel" 67 y_M_mode b_M_mode 1 (some .int) (.code y_M_mode b_M_mode 1 (some .int) :: wG) { frames := fr, cells := 0, slots := 0, locals := lo } 0 0 0 :=
  my_cwV hts kc_M_mode k_L_67 kn_M_mode kv_M_mode ki_M ⟨by decide +kernel, by decide +kernel, by decide +kernel⟩ hR
theorem cw_L_68 {R : Room} {s : State} {args : Array Value} {fr lo : Nat} (hts : ∀ w ∈ wG, w.before args s = true) (hR : fr + 1 ≤ R.frames ∧ 8 + (1 + 11) + lo ≤ R.locals) : CallW R s args "PulsePlotterLaw" "PulsePlotter" 68 y_P_left b_P_left 1 (some .int) (.code y_P_left b_P_left 1 (some .int) :: wG) { frames := fr, cells := 0, slots := 0, locals := lo } 0 0 0 :=
  my_cwV hts kc_P_left k_L_68 kn_P_left kv_P_left ki_P ⟨by decide +kernel, by decide +kernel, by decide +kernel⟩ hR
theorem cw_L_71 {R : Room} {s : State} {args : Array Value} {fr lo : Nat} (hts : ∀ w ∈ wG, w.before args s = true) (hR : fr + 1 ≤ R.frames ∧ 8 + (1 + 11) + lo ≤ R.locals) : CallW R s args "PulsePlotterLaw" "PulsePlotterModel" 71 y_M_left b_M_left 1 (some .int) (.code y_M_left b_M_left 1 (some .int) :: wG) { frames := fr, cells := 0, slots := 0, locals := lo } 0 0 0 :=
  my_cwV hts kc_M_left k_L_71 kn_M_left kv_M_left ki_M ⟨by decide +kernel, by decide +kernel, by decide +kernel⟩ hR
end
section
theorem d_Jm_abs_0 : decode b_Jm_abs 0 = .ok (.iload_n 0, 1) := by decide +kernel
theorem d_Jm_abs_1 : decode b_Jm_abs 1 = .ok (.ifCond .ge 8, 3) := by decide +kernel
theorem d_Jm_abs_4 : decode b_Jm_abs 4 = .ok (.iload_n 0, 1) := by decide +kernel
theorem d_Jm_abs_5 : decode b_Jm_abs 5 = .ok (.ineg, 1) := by decide +kernel
theorem d_Jm_abs_6 : decode b_Jm_abs 6 = .ok (.goto 4, 3) := by decide +kernel
theorem d_Jm_abs_9 : decode b_Jm_abs 9 = .ok (.iload_n 0, 1) := by decide +kernel
theorem d_Jm_abs_10 : decode b_Jm_abs 10 = .ok (.ireturn, 1) := by decide +kernel
theorem d_Jm_floorDiv_0 : decode b_Jm_floorDiv 0 = .ok (.iload_n 0, 1) := by decide +kernel
theorem d_Jm_floorDiv_1 : decode b_Jm_floorDiv 1 = .ok (.iload_n 1, 1) := by decide +kernel
theorem d_Jm_floorDiv_2 : decode b_Jm_floorDiv 2 = .ok (.idiv, 1) := by decide +kernel
theorem d_Jm_floorDiv_3 : decode b_Jm_floorDiv 3 = .ok (.istore_n 2, 1) := by decide +kernel
theorem d_Jm_floorDiv_4 : decode b_Jm_floorDiv 4 = .ok (.iload_n 0, 1) := by decide +kernel
theorem d_Jm_floorDiv_5 : decode b_Jm_floorDiv 5 = .ok (.iload_n 1, 1) := by decide +kernel
theorem d_Jm_floorDiv_6 : decode b_Jm_floorDiv 6 = .ok (.ixor, 1) := by decide +kernel
theorem d_Jm_floorDiv_7 : decode b_Jm_floorDiv 7 = .ok (.ifCond .ge 14, 3) := by decide +kernel
theorem d_Jm_floorDiv_10 : decode b_Jm_floorDiv 10 = .ok (.iload_n 2, 1) := by decide +kernel
theorem d_Jm_floorDiv_11 : decode b_Jm_floorDiv 11 = .ok (.iload_n 1, 1) := by decide +kernel
theorem d_Jm_floorDiv_12 : decode b_Jm_floorDiv 12 = .ok (.imul, 1) := by decide +kernel
theorem d_Jm_floorDiv_13 : decode b_Jm_floorDiv 13 = .ok (.iload_n 0, 1) := by decide +kernel
theorem d_Jm_floorDiv_14 : decode b_Jm_floorDiv 14 = .ok (.if_icmp .eq 7, 3) := by decide +kernel
theorem d_Jm_floorDiv_17 : decode b_Jm_floorDiv 17 = .ok (.iload_n 2, 1) := by decide +kernel
theorem d_Jm_floorDiv_18 : decode b_Jm_floorDiv 18 = .ok (.iconst 1, 1) := by decide +kernel
theorem d_Jm_floorDiv_19 : decode b_Jm_floorDiv 19 = .ok (.isub, 1) := by decide +kernel
theorem d_Jm_floorDiv_20 : decode b_Jm_floorDiv 20 = .ok (.ireturn, 1) := by decide +kernel
theorem d_Jm_floorDiv_21 : decode b_Jm_floorDiv 21 = .ok (.iload_n 2, 1) := by decide +kernel
theorem d_Jm_floorDiv_22 : decode b_Jm_floorDiv 22 = .ok (.ireturn, 1) := by decide +kernel
theorem d_Jm_floorMod_0 : decode b_Jm_floorMod 0 = .ok (.iload_n 0, 1) := by decide +kernel
theorem d_Jm_floorMod_1 : decode b_Jm_floorMod 1 = .ok (.iload_n 1, 1) := by decide +kernel
theorem d_Jm_floorMod_2 : decode b_Jm_floorMod 2 = .ok (.irem, 1) := by decide +kernel
theorem d_Jm_floorMod_3 : decode b_Jm_floorMod 3 = .ok (.istore_n 2, 1) := by decide +kernel
theorem d_Jm_floorMod_4 : decode b_Jm_floorMod 4 = .ok (.iload_n 0, 1) := by decide +kernel
theorem d_Jm_floorMod_5 : decode b_Jm_floorMod 5 = .ok (.iload_n 1, 1) := by decide +kernel
theorem d_Jm_floorMod_6 : decode b_Jm_floorMod 6 = .ok (.ixor, 1) := by decide +kernel
theorem d_Jm_floorMod_7 : decode b_Jm_floorMod 7 = .ok (.ifCond .ge 11, 3) := by decide +kernel
theorem d_Jm_floorMod_10 : decode b_Jm_floorMod 10 = .ok (.iload_n 2, 1) := by decide +kernel
theorem d_Jm_floorMod_11 : decode b_Jm_floorMod 11 = .ok (.ifCond .eq 7, 3) := by decide +kernel
theorem d_Jm_floorMod_14 : decode b_Jm_floorMod 14 = .ok (.iload_n 2, 1) := by decide +kernel
theorem d_Jm_floorMod_15 : decode b_Jm_floorMod 15 = .ok (.iload_n 1, 1) := by decide +kernel
theorem d_Jm_floorMod_16 : decode b_Jm_floorMod 16 = .ok (.iadd, 1) := by decide +kernel
theorem d_Jm_floorMod_17 : decode b_Jm_floorMod 17 = .ok (.ireturn, 1) := by decide +kernel
theorem d_Jm_floorMod_18 : decode b_Jm_floorMod 18 = .ok (.iload_n 2, 1) := by decide +kernel
theorem d_Jm_floorMod_19 : decode b_Jm_floorMod 19 = .ok (.ireturn, 1) := by decide +kernel
theorem d_Jm_max_0 : decode b_Jm_max 0 = .ok (.iload_n 0, 1) := by decide +kernel
theorem d_Jm_max_1 : decode b_Jm_max 1 = .ok (.iload_n 1, 1) := by decide +kernel
theorem d_Jm_max_2 : decode b_Jm_max 2 = .ok (.if_icmp .lt 7, 3) := by decide +kernel
theorem d_Jm_max_5 : decode b_Jm_max 5 = .ok (.iload_n 0, 1) := by decide +kernel
theorem d_Jm_max_6 : decode b_Jm_max 6 = .ok (.goto 4, 3) := by decide +kernel
theorem d_Jm_max_9 : decode b_Jm_max 9 = .ok (.iload_n 1, 1) := by decide +kernel
theorem d_Jm_max_10 : decode b_Jm_max 10 = .ok (.ireturn, 1) := by decide +kernel
theorem d_Jm_min_0 : decode b_Jm_min 0 = .ok (.iload_n 0, 1) := by decide +kernel
theorem d_Jm_min_1 : decode b_Jm_min 1 = .ok (.iload_n 1, 1) := by decide +kernel
theorem d_Jm_min_2 : decode b_Jm_min 2 = .ok (.if_icmp .gt 7, 3) := by decide +kernel
theorem d_Jm_min_5 : decode b_Jm_min 5 = .ok (.iload_n 0, 1) := by decide +kernel
theorem d_Jm_min_6 : decode b_Jm_min 6 = .ok (.goto 4, 3) := by decide +kernel
theorem d_Jm_min_9 : decode b_Jm_min 9 = .ok (.iload_n 1, 1) := by decide +kernel
theorem d_Jm_min_10 : decode b_Jm_min 10 = .ok (.ireturn, 1) := by decide +kernel
def wp_Jm_min (x0 x1 : Int32) (Q : Int32 → Prop) : Prop := ((x1 < x0 → (Q x1)) ∧ (¬ x1 < x0 → (Q x0)))
abbrev rm_Jm_min : Room := { frames := 0, cells := 0, slots := 0, locals := 0 }
set_option maxRecDepth 100000 in
set_option maxHeartbeats 4000000 in
theorem c_Jm_min (l : Launch) {D : va_G} {X : xT} {K : Nat → ClassId} {tl : va_W} {x0 x1 : Int32} {Q : Int32 → Prop} : MI l y_Jm_min b_Jm_min 2 rm_Jm_min D cls (tys K) X [.int x0, .int x1] (tl) (fun _ : Unit => tl) (wp_Jm_min x0 x1 Q) (fun r _ => Q r) := by
  refine my_of_I (by decide +kernel) (Nat.le_of_ble_eq_true rfl) (fun p e s m args below meth c A QQ H locs ls hx hb hts hown hml hK hX hA hP hD hS hl hw hret => ?_)
  replace hl : lv_has ls 2 [(0, .int x0), (1, .int x1)] := hl
  unfold wp_Jm_min at hw
  refine lv_iload_n hx hb d_Jm_min_0 rfl (lv_at hl 0 rfl) ?_
  refine lv_iload_n hx hb d_Jm_min_1 rfl (lv_at hl 1 rfl) ?_
  refine lv_icmp_gt (tgt := 9) hx hb d_Jm_min_2 (by decide) (fun hc => ?_) (fun hc => ?_)
  · replace hw := hw.1 hc
    refine lv_iload_n hx hb d_Jm_min_9 rfl (lv_at hl 1 rfl) ?_
    exact hret H locs ls 10 (x1) (()) d_Jm_min_10 hP hD hS hw
  · replace hw := hw.2 hc
    refine lv_iload_n hx hb d_Jm_min_5 rfl (lv_at hl 0 rfl) ?_
    refine lv_goto (tgt := 10) hx hb d_Jm_min_6 (by decide) ?_
    exact hret H locs ls 10 (x0) (()) d_Jm_min_10 hP hD hS hw
def wp_Jm_max (x0 x1 : Int32) (Q : Int32 → Prop) : Prop := ((x0 < x1 → (Q x1)) ∧ (¬ x0 < x1 → (Q x0)))
abbrev rm_Jm_max : Room := { frames := 0, cells := 0, slots := 0, locals := 0 }
set_option maxRecDepth 100000 in
set_option maxHeartbeats 4000000 in
theorem c_Jm_max (l : Launch) {D : va_G} {X : xT} {K : Nat → ClassId} {tl : va_W} {x0 x1 : Int32} {Q : Int32 → Prop} : MI l y_Jm_max b_Jm_max 2 rm_Jm_max D cls (tys K) X [.int x0, .int x1] (tl) (fun _ : Unit => tl) (wp_Jm_max x0 x1 Q) (fun r _ => Q r) := by
  refine my_of_I (by decide +kernel) (Nat.le_of_ble_eq_true rfl) (fun p e s m args below meth c A QQ H locs ls hx hb hts hown hml hK hX hA hP hD hS hl hw hret => ?_)
  replace hl : lv_has ls 2 [(0, .int x0), (1, .int x1)] := hl
  unfold wp_Jm_max at hw
  refine lv_iload_n hx hb d_Jm_max_0 rfl (lv_at hl 0 rfl) ?_
  refine lv_iload_n hx hb d_Jm_max_1 rfl (lv_at hl 1 rfl) ?_
  refine lv_icmp_lt (tgt := 9) hx hb d_Jm_max_2 (by decide) (fun hc => ?_) (fun hc => ?_)
  · replace hw := hw.1 hc
    refine lv_iload_n hx hb d_Jm_max_9 rfl (lv_at hl 1 rfl) ?_
    exact hret H locs ls 10 (x1) (()) d_Jm_max_10 hP hD hS hw
  · replace hw := hw.2 hc
    refine lv_iload_n hx hb d_Jm_max_5 rfl (lv_at hl 0 rfl) ?_
    refine lv_goto (tgt := 10) hx hb d_Jm_max_6 (by decide) ?_
    exact hret H locs ls 10 (x0) (()) d_Jm_max_10 hP hD hS hw
def wp_Jm_abs (x0 : Int32) (Q : Int32 → Prop) : Prop := ((0 ≤ x0 → (Q x0)) ∧ (¬ 0 ≤ x0 → (Q (-x0))))
abbrev rm_Jm_abs : Room := { frames := 0, cells := 0, slots := 0, locals := 0 }
set_option maxRecDepth 100000 in
set_option maxHeartbeats 4000000 in
theorem c_Jm_abs (l : Launch) {D : va_G} {X : xT} {K : Nat → ClassId} {tl : va_W} {x0 : Int32} {Q : Int32 → Prop} : MI l y_Jm_abs b_Jm_abs 1 rm_Jm_abs D cls (tys K) X [.int x0] (tl) (fun _ : Unit => tl) (wp_Jm_abs x0 Q) (fun r _ => Q r) := by
  refine my_of_I (by decide +kernel) (Nat.le_of_ble_eq_true rfl) (fun p e s m args below meth c A QQ H locs ls hx hb hts hown hml hK hX hA hP hD hS hl hw hret => ?_)
  replace hl : lv_has ls 1 [(0, .int x0)] := hl
  unfold wp_Jm_abs at hw
  refine lv_iload_n hx hb d_Jm_abs_0 rfl (lv_at hl 0 rfl) ?_
  refine lv_if_ge (tgt := 9) hx hb d_Jm_abs_1 (by decide) (fun hc => ?_) (fun hc => ?_)
  · replace hw := hw.1 hc
    refine lv_iload_n hx hb d_Jm_abs_9 rfl (lv_at hl 0 rfl) ?_
    exact hret H locs ls 10 (x0) (()) d_Jm_abs_10 hP hD hS hw
  · replace hw := hw.2 hc
    refine lv_iload_n hx hb d_Jm_abs_4 rfl (lv_at hl 0 rfl) ?_
    refine lv_ineg hx hb d_Jm_abs_5 ?_
    refine lv_goto (tgt := 10) hx hb d_Jm_abs_6 (by decide) ?_
    exact hret H locs ls 10 (-x0) (()) d_Jm_abs_10 hP hD hS hw
def wp_Jm_floorDiv (x0 x1 : Int32) (Q : Int32 → Prop) : Prop := (¬ x1 = 0 ∧ ((0 ≤ (x0 ^^^ x1) → (Q (x0 / x1))) ∧ (¬ 0 ≤ (x0 ^^^ x1) → ((((x0 / x1) * x1) = x0 → (Q (x0 / x1))) ∧ (¬ ((x0 / x1) * x1) = x0 → (Q ((x0 / x1) - (1 : Int32))))))))
abbrev rm_Jm_floorDiv : Room := { frames := 0, cells := 0, slots := 0, locals := 0 }
set_option maxRecDepth 100000 in
set_option maxHeartbeats 4000000 in
theorem c_Jm_floorDiv (l : Launch) {D : va_G} {X : xT} {K : Nat → ClassId} {tl : va_W} {x0 x1 : Int32} {Q : Int32 → Prop} : MI l y_Jm_floorDiv b_Jm_floorDiv 3 rm_Jm_floorDiv D cls (tys K) X [.int x0, .int x1] (tl) (fun _ : Unit => tl) (wp_Jm_floorDiv x0 x1 Q) (fun r _ => Q r) := by
  refine my_of_I (by decide +kernel) (Nat.le_of_ble_eq_true rfl) (fun p e s m args below meth c A QQ H locs ls hx hb hts hown hml hK hX hA hP hD hS hl hw hret => ?_)
  replace hl : lv_has ls 3 [(0, .int x0), (1, .int x1)] := hl
  unfold wp_Jm_floorDiv at hw
  refine lv_iload_n hx hb d_Jm_floorDiv_0 rfl (lv_at hl 0 rfl) ?_
  refine lv_iload_n hx hb d_Jm_floorDiv_1 rfl (lv_at hl 1 rfl) ?_
  refine lv_idiv hx hb d_Jm_floorDiv_2 hw.1 ?_
  replace hw := hw.2
  refine lv_istore_n (lv' := [(2, .int (x0 / x1)), (0, .int x0), (1, .int x1)]) hx hb d_Jm_floorDiv_3 rfl hl (Nat.le_of_ble_eq_true rfl) rfl (fun ls hl => ?_)
  refine lv_iload_n hx hb d_Jm_floorDiv_4 rfl (lv_at hl 1 rfl) ?_
  refine lv_iload_n hx hb d_Jm_floorDiv_5 rfl (lv_at hl 2 rfl) ?_
  refine lv_ixor hx hb d_Jm_floorDiv_6 ?_
  refine lv_if_ge (tgt := 21) hx hb d_Jm_floorDiv_7 (by decide) (fun hc => ?_) (fun hc => ?_)
  · replace hw := hw.1 hc
    refine lv_iload_n hx hb d_Jm_floorDiv_21 rfl (lv_at hl 0 rfl) ?_
    exact hret H locs ls 22 (x0 / x1) (()) d_Jm_floorDiv_22 hP hD hS hw
  · replace hw := hw.2 hc
    refine lv_iload_n hx hb d_Jm_floorDiv_10 rfl (lv_at hl 0 rfl) ?_
    refine lv_iload_n hx hb d_Jm_floorDiv_11 rfl (lv_at hl 2 rfl) ?_
    refine lv_imul hx hb d_Jm_floorDiv_12 ?_
    refine lv_iload_n hx hb d_Jm_floorDiv_13 rfl (lv_at hl 1 rfl) ?_
    refine lv_icmp_eq (tgt := 21) hx hb d_Jm_floorDiv_14 (by decide) (fun hc => ?_) (fun hc => ?_)
    · replace hw := hw.1 hc
      refine lv_iload_n hx hb d_Jm_floorDiv_21 rfl (lv_at hl 0 rfl) ?_
      exact hret H locs ls 22 (x0 / x1) (()) d_Jm_floorDiv_22 hP hD hS hw
    · replace hw := hw.2 hc
      refine lv_iload_n hx hb d_Jm_floorDiv_17 rfl (lv_at hl 0 rfl) ?_
      refine lv_iconst (v := (1 : Int32)) hx hb d_Jm_floorDiv_18 (by decide) ?_
      refine lv_isub hx hb d_Jm_floorDiv_19 ?_
      exact hret H locs ls 20 ((x0 / x1) - (1 : Int32)) (()) d_Jm_floorDiv_20 hP hD hS hw
def wp_Jm_floorMod (x0 x1 : Int32) (Q : Int32 → Prop) : Prop := (¬ x1 = 0 ∧ ((0 ≤ (x0 ^^^ x1) → (Q (x0 - x0 / x1 * x1))) ∧ (¬ 0 ≤ (x0 ^^^ x1) → (((x0 - x0 / x1 * x1) = 0 → (Q (x0 - x0 / x1 * x1))) ∧ (¬ (x0 - x0 / x1 * x1) = 0 → (Q ((x0 - x0 / x1 * x1) + x1)))))))
abbrev rm_Jm_floorMod : Room := { frames := 0, cells := 0, slots := 0, locals := 0 }
set_option maxRecDepth 100000 in
set_option maxHeartbeats 4000000 in
theorem c_Jm_floorMod (l : Launch) {D : va_G} {X : xT} {K : Nat → ClassId} {tl : va_W} {x0 x1 : Int32} {Q : Int32 → Prop} : MI l y_Jm_floorMod b_Jm_floorMod 3 rm_Jm_floorMod D cls (tys K) X [.int x0, .int x1] (tl) (fun _ : Unit => tl) (wp_Jm_floorMod x0 x1 Q) (fun r _ => Q r) := by
  refine my_of_I (by decide +kernel) (Nat.le_of_ble_eq_true rfl) (fun p e s m args below meth c A QQ H locs ls hx hb hts hown hml hK hX hA hP hD hS hl hw hret => ?_)
  replace hl : lv_has ls 3 [(0, .int x0), (1, .int x1)] := hl
  unfold wp_Jm_floorMod at hw
  refine lv_iload_n hx hb d_Jm_floorMod_0 rfl (lv_at hl 0 rfl) ?_
  refine lv_iload_n hx hb d_Jm_floorMod_1 rfl (lv_at hl 1 rfl) ?_
  refine lv_irem hx hb d_Jm_floorMod_2 hw.1 ?_
  replace hw := hw.2
  refine lv_istore_n (lv' := [(2, .int (x0 - x0 / x1 * x1)), (0, .int x0), (1, .int x1)]) hx hb d_Jm_floorMod_3 rfl hl (Nat.le_of_ble_eq_true rfl) rfl (fun ls hl => ?_)
  refine lv_iload_n hx hb d_Jm_floorMod_4 rfl (lv_at hl 1 rfl) ?_
  refine lv_iload_n hx hb d_Jm_floorMod_5 rfl (lv_at hl 2 rfl) ?_
  refine lv_ixor hx hb d_Jm_floorMod_6 ?_
  refine lv_if_ge (tgt := 18) hx hb d_Jm_floorMod_7 (by decide) (fun hc => ?_) (fun hc => ?_)
  · replace hw := hw.1 hc
    refine lv_iload_n hx hb d_Jm_floorMod_18 rfl (lv_at hl 0 rfl) ?_
    exact hret H locs ls 19 (x0 - x0 / x1 * x1) (()) d_Jm_floorMod_19 hP hD hS hw
  · replace hw := hw.2 hc
    refine lv_iload_n hx hb d_Jm_floorMod_10 rfl (lv_at hl 0 rfl) ?_
    refine lv_if_eq (tgt := 18) hx hb d_Jm_floorMod_11 (by decide) (fun hc => ?_) (fun hc => ?_)
    · replace hw := hw.1 hc
      refine lv_iload_n hx hb d_Jm_floorMod_18 rfl (lv_at hl 0 rfl) ?_
      exact hret H locs ls 19 (x0 - x0 / x1 * x1) (()) d_Jm_floorMod_19 hP hD hS hw
    · replace hw := hw.2 hc
      refine lv_iload_n hx hb d_Jm_floorMod_14 rfl (lv_at hl 0 rfl) ?_
      refine lv_iload_n hx hb d_Jm_floorMod_15 rfl (lv_at hl 2 rfl) ?_
      refine lv_iadd hx hb d_Jm_floorMod_16 ?_
      exact hret H locs ls 17 ((x0 - x0 / x1 * x1) + x1) (()) d_Jm_floorMod_17 hP hD hS hw
end
section
theorem d_T_init_0 : decode b_T_init 0 = .ok (.aload_n 0, 1) := by decide +kernel
theorem d_T_init_1 : decode b_T_init 1 = .ok (.invokespecial 3, 3) := by decide +kernel
theorem d_T_init_4 : decode b_T_init 4 = .ok (.aload_n 0, 1) := by decide +kernel
theorem d_T_init_5 : decode b_T_init 5 = .ok (.sipush 400, 3) := by decide +kernel
theorem d_T_init_8 : decode b_T_init 8 = .ok (.newarray .char, 2) := by decide +kernel
theorem d_T_init_10 : decode b_T_init 10 = .ok (.putfield 9, 3) := by decide +kernel
theorem d_T_init_13 : decode b_T_init 13 = .ok (.aload_n 0, 1) := by decide +kernel
theorem d_T_init_14 : decode b_T_init 14 = .ok (.iconst 0, 1) := by decide +kernel
theorem d_T_init_15 : decode b_T_init 15 = .ok (.putfield 15, 3) := by decide +kernel
theorem d_T_init_18 : decode b_T_init 18 = .ok (.return_, 1) := by decide +kernel
theorem d_T_size_0 : decode b_T_size 0 = .ok (.aload_n 0, 1) := by decide +kernel
theorem d_T_size_1 : decode b_T_size 1 = .ok (.getfield 15, 3) := by decide +kernel
theorem d_T_size_4 : decode b_T_size 4 = .ok (.ireturn, 1) := by decide +kernel
theorem d_T_empty_0 : decode b_T_empty 0 = .ok (.aload_n 0, 1) := by decide +kernel
theorem d_T_empty_1 : decode b_T_empty 1 = .ok (.iconst 0, 1) := by decide +kernel
theorem d_T_empty_2 : decode b_T_empty 2 = .ok (.putfield 15, 3) := by decide +kernel
theorem d_T_empty_5 : decode b_T_empty 5 = .ok (.return_, 1) := by decide +kernel
theorem d_T_append_0 : decode b_T_append 0 = .ok (.iconst 0, 1) := by decide +kernel
theorem d_T_append_1 : decode b_T_append 1 = .ok (.istore_n 2, 1) := by decide +kernel
theorem d_T_append_2 : decode b_T_append 2 = .ok (.iload_n 2, 1) := by decide +kernel
theorem d_T_append_3 : decode b_T_append 3 = .ok (.iconst 4, 1) := by decide +kernel
theorem d_T_append_4 : decode b_T_append 4 = .ok (.if_icmp .ge 17, 3) := by decide +kernel
theorem d_T_append_7 : decode b_T_append 7 = .ok (.iload_n 1, 1) := by decide +kernel
theorem d_T_append_8 : decode b_T_append 8 = .ok (.iload_n 2, 1) := by decide +kernel
theorem d_T_append_9 : decode b_T_append 9 = .ok (.invokestatic 19, 3) := by decide +kernel
theorem d_T_append_12 : decode b_T_append 12 = .ok (.ifCond .eq 9, 3) := by decide +kernel
theorem d_T_append_15 : decode b_T_append 15 = .ok (.iinc 2 1, 3) := by decide +kernel
theorem d_T_append_18 : decode b_T_append 18 = .ok (.goto (-16), 3) := by decide +kernel
theorem d_T_append_21 : decode b_T_append 21 = .ok (.aload_n 0, 1) := by decide +kernel
theorem d_T_append_22 : decode b_T_append 22 = .ok (.getfield 15, 3) := by decide +kernel
theorem d_T_append_25 : decode b_T_append 25 = .ok (.iload_n 2, 1) := by decide +kernel
theorem d_T_append_26 : decode b_T_append 26 = .ok (.iadd, 1) := by decide +kernel
theorem d_T_append_27 : decode b_T_append 27 = .ok (.sipush 400, 3) := by decide +kernel
theorem d_T_append_30 : decode b_T_append 30 = .ok (.if_icmp .le 5, 3) := by decide +kernel
theorem d_T_append_33 : decode b_T_append 33 = .ok (.iconst (-1), 1) := by decide +kernel
theorem d_T_append_34 : decode b_T_append 34 = .ok (.ireturn, 1) := by decide +kernel
theorem d_T_append_35 : decode b_T_append 35 = .ok (.iconst 0, 1) := by decide +kernel
theorem d_T_append_36 : decode b_T_append 36 = .ok (.istore_n 3, 1) := by decide +kernel
theorem d_T_append_37 : decode b_T_append 37 = .ok (.iload_n 3, 1) := by decide +kernel
theorem d_T_append_38 : decode b_T_append 38 = .ok (.iload_n 2, 1) := by decide +kernel
theorem d_T_append_39 : decode b_T_append 39 = .ok (.if_icmp .ge 26, 3) := by decide +kernel
theorem d_T_append_42 : decode b_T_append 42 = .ok (.aload_n 0, 1) := by decide +kernel
theorem d_T_append_43 : decode b_T_append 43 = .ok (.getfield 9, 3) := by decide +kernel
theorem d_T_append_46 : decode b_T_append 46 = .ok (.aload_n 0, 1) := by decide +kernel
theorem d_T_append_47 : decode b_T_append 47 = .ok (.getfield 15, 3) := by decide +kernel
theorem d_T_append_50 : decode b_T_append 50 = .ok (.iload_n 3, 1) := by decide +kernel
theorem d_T_append_51 : decode b_T_append 51 = .ok (.iadd, 1) := by decide +kernel
theorem d_T_append_52 : decode b_T_append 52 = .ok (.iload_n 1, 1) := by decide +kernel
theorem d_T_append_53 : decode b_T_append 53 = .ok (.iload_n 3, 1) := by decide +kernel
theorem d_T_append_54 : decode b_T_append 54 = .ok (.invokestatic 19, 3) := by decide +kernel
theorem d_T_append_57 : decode b_T_append 57 = .ok (.i2c, 1) := by decide +kernel
theorem d_T_append_58 : decode b_T_append 58 = .ok (.castore, 1) := by decide +kernel
theorem d_T_append_59 : decode b_T_append 59 = .ok (.iinc 3 1, 3) := by decide +kernel
theorem d_T_append_62 : decode b_T_append 62 = .ok (.goto (-25), 3) := by decide +kernel
theorem d_T_append_65 : decode b_T_append 65 = .ok (.aload_n 0, 1) := by decide +kernel
theorem d_T_append_66 : decode b_T_append 66 = .ok (.dup, 1) := by decide +kernel
theorem d_T_append_67 : decode b_T_append 67 = .ok (.getfield 15, 3) := by decide +kernel
theorem d_T_append_70 : decode b_T_append 70 = .ok (.iload_n 2, 1) := by decide +kernel
theorem d_T_append_71 : decode b_T_append 71 = .ok (.iadd, 1) := by decide +kernel
theorem d_T_append_72 : decode b_T_append 72 = .ok (.putfield 15, 3) := by decide +kernel
theorem d_T_append_75 : decode b_T_append 75 = .ok (.iload_n 2, 1) := by decide +kernel
theorem d_T_append_76 : decode b_T_append 76 = .ok (.ireturn, 1) := by decide +kernel
theorem d_T_codeAt_0 : decode b_T_codeAt 0 = .ok (.iload_n 1, 1) := by decide +kernel
theorem d_T_codeAt_1 : decode b_T_codeAt 1 = .ok (.ifCond .lt 20, 3) := by decide +kernel
theorem d_T_codeAt_4 : decode b_T_codeAt 4 = .ok (.iload_n 1, 1) := by decide +kernel
theorem d_T_codeAt_5 : decode b_T_codeAt 5 = .ok (.aload_n 0, 1) := by decide +kernel
theorem d_T_codeAt_6 : decode b_T_codeAt 6 = .ok (.getfield 15, 3) := by decide +kernel
theorem d_T_codeAt_9 : decode b_T_codeAt 9 = .ok (.if_icmp .ge 12, 3) := by decide +kernel
theorem d_T_codeAt_12 : decode b_T_codeAt 12 = .ok (.aload_n 0, 1) := by decide +kernel
theorem d_T_codeAt_13 : decode b_T_codeAt 13 = .ok (.getfield 9, 3) := by decide +kernel
theorem d_T_codeAt_16 : decode b_T_codeAt 16 = .ok (.iload_n 1, 1) := by decide +kernel
theorem d_T_codeAt_17 : decode b_T_codeAt 17 = .ok (.caload, 1) := by decide +kernel
theorem d_T_codeAt_18 : decode b_T_codeAt 18 = .ok (.goto 4, 3) := by decide +kernel
theorem d_T_codeAt_21 : decode b_T_codeAt 21 = .ok (.iconst 0, 1) := by decide +kernel
theorem d_T_codeAt_22 : decode b_T_codeAt 22 = .ok (.ireturn, 1) := by decide +kernel
theorem d_T_lineEnd_0 : decode b_T_lineEnd 0 = .ok (.iload_n 1, 1) := by decide +kernel
theorem d_T_lineEnd_1 : decode b_T_lineEnd 1 = .ok (.istore_n 2, 1) := by decide +kernel
theorem d_T_lineEnd_2 : decode b_T_lineEnd 2 = .ok (.iload_n 2, 1) := by decide +kernel
theorem d_T_lineEnd_3 : decode b_T_lineEnd 3 = .ok (.aload_n 0, 1) := by decide +kernel
theorem d_T_lineEnd_4 : decode b_T_lineEnd 4 = .ok (.getfield 15, 3) := by decide +kernel
theorem d_T_lineEnd_7 : decode b_T_lineEnd 7 = .ok (.if_icmp .ge 19, 3) := by decide +kernel
theorem d_T_lineEnd_10 : decode b_T_lineEnd 10 = .ok (.aload_n 0, 1) := by decide +kernel
theorem d_T_lineEnd_11 : decode b_T_lineEnd 11 = .ok (.iload_n 2, 1) := by decide +kernel
theorem d_T_lineEnd_12 : decode b_T_lineEnd 12 = .ok (.invokevirtual 23, 3) := by decide +kernel
theorem d_T_lineEnd_15 : decode b_T_lineEnd 15 = .ok (.bipush 10, 2) := by decide +kernel
theorem d_T_lineEnd_17 : decode b_T_lineEnd 17 = .ok (.if_icmp .eq 9, 3) := by decide +kernel
theorem d_T_lineEnd_20 : decode b_T_lineEnd 20 = .ok (.iinc 2 1, 3) := by decide +kernel
theorem d_T_lineEnd_23 : decode b_T_lineEnd 23 = .ok (.goto (-21), 3) := by decide +kernel
theorem d_T_lineEnd_26 : decode b_T_lineEnd 26 = .ok (.iload_n 2, 1) := by decide +kernel
theorem d_T_lineEnd_27 : decode b_T_lineEnd 27 = .ok (.ireturn, 1) := by decide +kernel
theorem d_T_packedCode_0 : decode b_T_packedCode 0 = .ok (.iload_n 0, 1) := by decide +kernel
theorem d_T_packedCode_1 : decode b_T_packedCode 1 = .ok (.bipush 8, 2) := by decide +kernel
theorem d_T_packedCode_3 : decode b_T_packedCode 3 = .ok (.iload_n 1, 1) := by decide +kernel
theorem d_T_packedCode_4 : decode b_T_packedCode 4 = .ok (.imul, 1) := by decide +kernel
theorem d_T_packedCode_5 : decode b_T_packedCode 5 = .ok (.ishr, 1) := by decide +kernel
theorem d_T_packedCode_6 : decode b_T_packedCode 6 = .ok (.sipush 255, 3) := by decide +kernel
theorem d_T_packedCode_9 : decode b_T_packedCode 9 = .ok (.iand, 1) := by decide +kernel
theorem d_T_packedCode_10 : decode b_T_packedCode 10 = .ok (.ireturn, 1) := by decide +kernel
def wp_T_packedCode (x0 x1 : Int32) (Q : Int32 → Prop) : Prop := (Q ((x0 >>> (((8 : Int32) * x1) &&& 31)) &&& (255 : Int32)))
abbrev rm_T_packedCode : Room := { frames := 0, cells := 0, slots := 0, locals := 0 }
set_option maxRecDepth 100000 in
set_option maxHeartbeats 4000000 in
theorem c_T_packedCode (l : Launch) {D : va_G} {X : xT} {K : Nat → ClassId} {tl : va_W} {x0 x1 : Int32} {Q : Int32 → Prop} : MI l y_T_packedCode b_T_packedCode 2 rm_T_packedCode D cls (tys K) X [.int x0, .int x1] (tl) (fun _ : Unit => tl) (wp_T_packedCode x0 x1 Q) (fun r _ => Q r) := by
  refine my_of_I (by decide +kernel) (Nat.le_of_ble_eq_true rfl) (fun p e s m args below meth c A QQ H locs ls hx hb hts hown hml hK hX hA hP hD hS hl hw hret => ?_)
  replace hl : lv_has ls 2 [(0, .int x0), (1, .int x1)] := hl
  unfold wp_T_packedCode at hw
  refine lv_iload_n hx hb d_T_packedCode_0 rfl (lv_at hl 0 rfl) ?_
  refine lv_bipush (v := (8 : Int32)) hx hb d_T_packedCode_1 (by decide) ?_
  refine lv_iload_n hx hb d_T_packedCode_3 rfl (lv_at hl 1 rfl) ?_
  refine lv_imul hx hb d_T_packedCode_4 ?_
  refine lv_ishr hx hb d_T_packedCode_5 ?_
  refine lv_sipush (v := (255 : Int32)) hx hb d_T_packedCode_6 (by decide) ?_
  refine lv_iand hx hb d_T_packedCode_9 ?_
  exact hret H locs ls 10 ((x0 >>> (((8 : Int32) * x1) &&& 31)) &&& (255 : Int32)) (()) d_T_packedCode_10 hP hD hS hw
def wp_T_size (t_size : Int32) (Q : Int32 → Prop) : Prop := (Q t_size)
abbrev rm_T_size : Room := { frames := 0, cells := 0, slots := 0, locals := 0 }
set_option maxRecDepth 100000 in
set_option maxHeartbeats 4000000 in
theorem c_T_size (l : Launch) {D : va_G} {X : xT} {a : Nat → Nat} {K : Nat → ClassId} {tl : va_W} {e0 : Nat × va_E} {t_size : Int32} {Q : Int32 → Prop} : MI l y_T_size b_T_size 1 rm_T_size D cls (tys K) X [.ref (a 1)] (e0 :: (o_T a t_size) :: tl) (fun _ : Unit => e0 :: (o_T a t_size) :: tl) (wp_T_size t_size Q) (fun r _ => Q r) := by
  refine my_of_I (by decide +kernel) (Nat.le_of_ble_eq_true rfl) (fun p e s m args below meth c A QQ H locs ls hx hb hts hown hml hK hX hA hP hD hS hl hw hret => ?_)
  replace hl : lv_has ls 1 [(0, .ref (a 1))] := hl
  unfold wp_T_size at hw
  refine lv_aload_n hx hb d_T_size_0 rfl (lv_at hl 0 rfl) ?_
  refine g_T_size hx hb hts hown hK hP 1 rfl rfl d_T_size_1 ?_
  exact hret H locs ls 4 (t_size) (()) d_T_size_4 hP hD hS hw
def wp_T_empty (t_size : Int32) (Q : Int32 → Prop) : Prop := (Q (0 : Int32))
abbrev rm_T_empty : Room := { frames := 0, cells := 0, slots := 0, locals := 0 }
set_option maxRecDepth 100000 in
set_option maxHeartbeats 4000000 in
theorem c_T_empty (l : Launch) {D : va_G} {X : xT} {a : Nat → Nat} {K : Nat → ClassId} {tl : va_W} {e0 : Nat × va_E} {t_size : Int32} {Q : Int32 → Prop} : MV l y_T_empty b_T_empty 1 rm_T_empty D cls (tys K) X [.ref (a 1)] (e0 :: (o_T a t_size) :: tl) (fun u : Int32 => e0 :: (o_T a u) :: tl) (wp_T_empty t_size Q) (fun u => Q u) := by
  refine my_of_V (by decide +kernel) (Nat.le_of_ble_eq_true rfl) (fun p e s m args below meth c A QQ H locs ls hx hb hts hown hml hK hX hA hP hD hS hl hw hret => ?_)
  replace hl : lv_has ls 1 [(0, .ref (a 1))] := hl
  unfold wp_T_empty at hw
  refine lv_aload_n hx hb d_T_empty_0 rfl (lv_at hl 0 rfl) ?_
  refine lv_iconst (v := (0 : Int32)) hx hb d_T_empty_1 (by decide) ?_
  refine u_T_size hx hb hts hown hK hP hD hS 1 rfl rfl d_T_empty_2 (fun H locs hP hD hS => ?_)
  have hP : va_P D cls (e0 :: (o_T a (0 : Int32)) :: tl) H := hP
  have hD : va_D A (e0 :: (o_T a (0 : Int32)) :: tl) := hD
  exact hret H locs ls 5 ((0 : Int32)) d_T_empty_5 hP hD hS hw
def wq_T_append_37 (Q : Int32 → Int32 → (Nat → Int32) → Prop)  : Nat → Int32 → Int32 → Int32 → Int32 → (Nat → Int32) → Prop
  | 0, _, _, _, _, _ => False
  | n + 1, x1, x2, x3, t_size, tc => ((x2 ≤ x3 → (Q x2 (t_size + x2) tc)) ∧ (¬ x2 ≤ x3 → (wp_T_packedCode x1 x3 (fun r54 => (vp_in (t_size + x3) 400 ∧ (wq_T_append_37 Q n x1 x2 (x3 + (1 : Int32)) t_size (upd tc (t_size + x3).toNatClampNeg (vp_nar .char ((r54.toUInt32 % 65536).toInt32)))))))))
def wq_T_append_21 (Q : Int32 → Int32 → (Nat → Int32) → Prop) (x1 x2 t_size : Int32) (tc : Nat → Int32) : Prop := (((t_size + x2) ≤ (400 : Int32) → (∃ n : Nat, wq_T_append_37 Q n x1 x2 (0 : Int32) t_size tc)) ∧ (¬ (t_size + x2) ≤ (400 : Int32) → (Q (-1 : Int32) t_size tc)))
def wq_T_append_2 (Q : Int32 → Int32 → (Nat → Int32) → Prop)  : Nat → Int32 → Int32 → Int32 → (Nat → Int32) → Prop
  | 0, _, _, _, _ => False
  | n + 1, x1, x2, t_size, tc => (((4 : Int32) ≤ x2 → (wq_T_append_21 Q x1 x2 t_size tc)) ∧ (¬ (4 : Int32) ≤ x2 → (wp_T_packedCode x1 x2 (fun r9 => ((r9 = 0 → (wq_T_append_21 Q x1 x2 t_size tc)) ∧ (¬ r9 = 0 → (wq_T_append_2 Q n x1 (x2 + (1 : Int32)) t_size tc)))))))
def wp_T_append (x1 t_size : Int32) (tc : Nat → Int32) (Q : Int32 → Int32 → (Nat → Int32) → Prop) : Prop := (∃ n : Nat, wq_T_append_2 Q n x1 (0 : Int32) t_size tc)
abbrev rm_T_append : Room := { frames := 1, cells := 0, slots := 0, locals := 21 }
set_option maxRecDepth 100000 in
set_option maxHeartbeats 4000000 in
theorem c_T_append (l : Launch) {D : va_G} {X : xT} {a : Nat → Nat} {K : Nat → ClassId} {tl : va_W} {e0 : Nat × va_E} {x1 t_size : Int32} {tc : Nat → Int32} {Q : Int32 → Int32 → (Nat → Int32) → Prop} : MI l y_T_append b_T_append 4 rm_T_append D cls (tys K) X [.ref (a 1), .int x1] (e0 :: (o_T a t_size) :: (o_tc a K tc) :: tl) (fun u : Int32 × (Nat → Int32) => e0 :: (o_T a u.1) :: (o_tc a K u.2) :: tl) (wp_T_append x1 t_size tc Q) (fun r u => Q r u.1 u.2) := by
  refine my_of_I (by decide +kernel) (Nat.le_of_ble_eq_true rfl) (fun p e s m args below meth c A QQ H locs ls hx hb hts hown hml hK hX hA hP hD hS hl hw hret => ?_)
  replace hl : lv_has ls 4 [(0, .ref (a 1)), (1, .int x1)] := hl
  have J37 : ∀ (n : Nat) (H : Heap) (locs : List Loc) (ls : Array Slot) (x1 x2 x3 t_size : Int32) (tc : Nat → Int32), va_P D cls (e0 :: (o_T a t_size) :: (o_tc a K tc) :: tl) H → va_D A (e0 :: (o_T a t_size) :: (o_tc a K tc) :: tl) → va_S A s.heap H locs → lv_has ls 4 [(0, .ref (a 1)), (1, .int x1), (2, .int x2), (3, .int x3)] → wq_T_append_37 Q n x1 x2 x3 t_size tc → W p l e rm_T_append s m args below meth c H locs 0 0 QQ (F0 m 37 ls []) := by
    intro n
    induction n with
    | zero => intro H locs ls x1 x2 x3 t_size tc hP hD hS hl hw; exact False.elim hw
    | succ n ih =>
      intro H locs ls x1 x2 x3 t_size tc hP hD hS hl hw
      unfold wq_T_append_37 at hw
      refine lv_iload_n hx hb d_T_append_37 rfl (lv_at hl 3 rfl) ?_
      refine lv_iload_n hx hb d_T_append_38 rfl (lv_at hl 2 rfl) ?_
      refine lv_icmp_ge (tgt := 65) hx hb d_T_append_39 (by decide) (fun hc => ?_) (fun hc => ?_)
      · replace hw := hw.1 hc
        refine lv_aload_n hx hb d_T_append_65 rfl (lv_at hl 0 rfl) ?_
        refine lv_dup hx hb d_T_append_66 rfl ?_
        refine g_T_size hx hb hts hown hK hP 1 rfl rfl d_T_append_67 ?_
        refine lv_iload_n hx hb d_T_append_70 rfl (lv_at hl 2 rfl) ?_
        refine lv_iadd hx hb d_T_append_71 ?_
        refine u_T_size hx hb hts hown hK hP hD hS 1 rfl rfl d_T_append_72 (fun H locs hP hD hS => ?_)
        have hP : va_P D cls (e0 :: (o_T a (t_size + x2)) :: (o_tc a K tc) :: tl) H := hP
        have hD : va_D A (e0 :: (o_T a (t_size + x2)) :: (o_tc a K tc) :: tl) := hD
        refine lv_iload_n hx hb d_T_append_75 rfl (lv_at hl 2 rfl) ?_
        exact hret H locs ls 76 (x2) ((t_size + x2, tc)) d_T_append_76 hP hD hS hw
      · replace hw := hw.2 hc
        refine lv_aload_n hx hb d_T_append_42 rfl (lv_at hl 0 rfl) ?_
        refine g_T_codes hx hb hts hown hK hP 1 rfl rfl d_T_append_43 ?_
        refine lv_aload_n hx hb d_T_append_46 rfl (lv_at hl 0 rfl) ?_
        refine g_T_size hx hb hts hown hK hP 1 rfl rfl d_T_append_47 ?_
        refine lv_iload_n hx hb d_T_append_50 rfl (lv_at hl 3 rfl) ?_
        refine lv_iadd hx hb d_T_append_51 ?_
        refine lv_iload_n hx hb d_T_append_52 rfl (lv_at hl 1 rfl) ?_
        refine lv_iload_n hx hb d_T_append_53 rfl (lv_at hl 3 rfl) ?_
        refine my_calli (va_runS (As := [.int x1, .int x3]) (rest := [.int (t_size + x3), .ref (a 2)]) ⟨hx, hb, hml, hown, hts⟩ (c_T_packedCode l H.size) (cw_T_19 hts ⟨Nat.le_of_ble_eq_true rfl, Nat.le_of_ble_eq_true rfl⟩) (my_preS hK hP hX hD hS hA hw) rfl rfl hl.1 rfl (lv_room (Nat.le_of_ble_eq_true rfl)) d_T_append_54 ⟨Nat.le_refl _, Nat.le_refl _⟩) hD hS hA (fun r54 _ H locs hw hP hD hS => ?_)
        have hP : va_P D cls (e0 :: (o_T a t_size) :: (o_tc a K tc) :: tl) H := hP
        have hD : va_D A (e0 :: (o_T a t_size) :: (o_tc a K tc) :: tl) := hD
        refine lv_i2c (v := (r54.toUInt32 % 65536).toInt32) hx hb d_T_append_57 rfl ?_
        refine va_cast hx hb hK hP hD hS 2 0 rfl rfl hw.1 d_T_append_58 (fun H locs hP hD hS => ?_)
        replace hw := hw.2
        have hP : va_P D cls (e0 :: (o_T a t_size) :: (o_tc a K (upd tc (t_size + x3).toNatClampNeg (vp_nar .char ((r54.toUInt32 % 65536).toInt32)))) :: tl) H := hP
        have hD : va_D A (e0 :: (o_T a t_size) :: (o_tc a K (upd tc (t_size + x3).toNatClampNeg (vp_nar .char ((r54.toUInt32 % 65536).toInt32)))) :: tl) := hD
        refine lv_iinc (k := 3) (v := x3 + (1 : Int32)) (lv' := [(3, .int (x3 + (1 : Int32))), (0, .ref (a 1)), (1, .int x1), (2, .int x2)]) hx hb d_T_append_59 hl rfl (iinc_1 _) (Nat.le_of_ble_eq_true rfl) rfl (fun ls hl => ?_)
        refine lv_goto (tgt := 37) hx hb d_T_append_62 (by decide) ?_
        exact ih H locs ls x1 x2 (x3 + (1 : Int32)) t_size (upd tc (t_size + x3).toNatClampNeg (vp_nar .char ((r54.toUInt32 % 65536).toInt32))) hP hD hS (lv_sub hl [1, 2, 3, 0] rfl) hw
  have J21 : ∀ (H : Heap) (locs : List Loc) (ls : Array Slot) (x1 x2 t_size : Int32) (tc : Nat → Int32), va_P D cls (e0 :: (o_T a t_size) :: (o_tc a K tc) :: tl) H → va_D A (e0 :: (o_T a t_size) :: (o_tc a K tc) :: tl) → va_S A s.heap H locs → lv_has ls 4 [(0, .ref (a 1)), (1, .int x1), (2, .int x2)] → wq_T_append_21 Q x1 x2 t_size tc → W p l e rm_T_append s m args below meth c H locs 0 0 QQ (F0 m 21 ls []) := by
    intro H locs ls x1 x2 t_size tc hP hD hS hl hw
    unfold wq_T_append_21 at hw
    refine lv_aload_n hx hb d_T_append_21 rfl (lv_at hl 0 rfl) ?_
    refine g_T_size hx hb hts hown hK hP 1 rfl rfl d_T_append_22 ?_
    refine lv_iload_n hx hb d_T_append_25 rfl (lv_at hl 2 rfl) ?_
    refine lv_iadd hx hb d_T_append_26 ?_
    refine lv_sipush (v := (400 : Int32)) hx hb d_T_append_27 (by decide) ?_
    refine lv_icmp_le (tgt := 35) hx hb d_T_append_30 (by decide) (fun hc => ?_) (fun hc => ?_)
    · replace hw := hw.1 hc
      refine lv_iconst (v := (0 : Int32)) hx hb d_T_append_35 (by decide) ?_
      refine lv_istore_n (lv' := [(3, .int (0 : Int32)), (0, .ref (a 1)), (1, .int x1), (2, .int x2)]) hx hb d_T_append_36 rfl hl (Nat.le_of_ble_eq_true rfl) rfl (fun ls hl => ?_)
      obtain ⟨n, hw⟩ := hw
      exact J37 n H locs ls x1 x2 (0 : Int32) t_size tc hP hD hS (lv_sub hl [1, 2, 3, 0] rfl) hw
    · replace hw := hw.2 hc
      refine lv_iconst (v := (-1 : Int32)) hx hb d_T_append_33 (by decide) ?_
      exact hret H locs ls 34 ((-1 : Int32)) ((t_size, tc)) d_T_append_34 hP hD hS hw
  have J2 : ∀ (n : Nat) (H : Heap) (locs : List Loc) (ls : Array Slot) (x1 x2 t_size : Int32) (tc : Nat → Int32), va_P D cls (e0 :: (o_T a t_size) :: (o_tc a K tc) :: tl) H → va_D A (e0 :: (o_T a t_size) :: (o_tc a K tc) :: tl) → va_S A s.heap H locs → lv_has ls 4 [(0, .ref (a 1)), (1, .int x1), (2, .int x2)] → wq_T_append_2 Q n x1 x2 t_size tc → W p l e rm_T_append s m args below meth c H locs 0 0 QQ (F0 m 2 ls []) := by
    intro n
    induction n with
    | zero => intro H locs ls x1 x2 t_size tc hP hD hS hl hw; exact False.elim hw
    | succ n ih =>
      intro H locs ls x1 x2 t_size tc hP hD hS hl hw
      unfold wq_T_append_2 at hw
      refine lv_iload_n hx hb d_T_append_2 rfl (lv_at hl 2 rfl) ?_
      refine lv_iconst (v := (4 : Int32)) hx hb d_T_append_3 (by decide) ?_
      refine lv_icmp_ge (tgt := 21) hx hb d_T_append_4 (by decide) (fun hc => ?_) (fun hc => ?_)
      · replace hw := hw.1 hc
        exact J21 H locs ls x1 x2 t_size tc hP hD hS (lv_sub hl [0, 1, 2] rfl) hw
      · replace hw := hw.2 hc
        refine lv_iload_n hx hb d_T_append_7 rfl (lv_at hl 1 rfl) ?_
        refine lv_iload_n hx hb d_T_append_8 rfl (lv_at hl 2 rfl) ?_
        refine my_calli (va_runS (As := [.int x1, .int x2]) (rest := []) ⟨hx, hb, hml, hown, hts⟩ (c_T_packedCode l H.size) (cw_T_19 hts ⟨Nat.le_of_ble_eq_true rfl, Nat.le_of_ble_eq_true rfl⟩) (my_preS hK hP hX hD hS hA hw) rfl rfl hl.1 rfl (lv_room (Nat.le_of_ble_eq_true rfl)) d_T_append_9 ⟨Nat.le_refl _, Nat.le_refl _⟩) hD hS hA (fun r9 _ H locs hw hP hD hS => ?_)
        have hP : va_P D cls (e0 :: (o_T a t_size) :: (o_tc a K tc) :: tl) H := hP
        have hD : va_D A (e0 :: (o_T a t_size) :: (o_tc a K tc) :: tl) := hD
        refine lv_if_eq (tgt := 21) hx hb d_T_append_12 (by decide) (fun hc => ?_) (fun hc => ?_)
        · replace hw := hw.1 hc
          exact J21 H locs ls x1 x2 t_size tc hP hD hS (lv_sub hl [0, 1, 2] rfl) hw
        · replace hw := hw.2 hc
          refine lv_iinc (k := 2) (v := x2 + (1 : Int32)) (lv' := [(2, .int (x2 + (1 : Int32))), (0, .ref (a 1)), (1, .int x1)]) hx hb d_T_append_15 hl rfl (iinc_1 _) (Nat.le_of_ble_eq_true rfl) rfl (fun ls hl => ?_)
          refine lv_goto (tgt := 2) hx hb d_T_append_18 (by decide) ?_
          exact ih H locs ls x1 (x2 + (1 : Int32)) t_size tc hP hD hS (lv_sub hl [1, 2, 0] rfl) hw
  unfold wp_T_append at hw
  refine lv_iconst (v := (0 : Int32)) hx hb d_T_append_0 (by decide) ?_
  refine lv_istore_n (lv' := [(2, .int (0 : Int32)), (0, .ref (a 1)), (1, .int x1)]) hx hb d_T_append_1 rfl hl (Nat.le_of_ble_eq_true rfl) rfl (fun ls hl => ?_)
  obtain ⟨n, hw⟩ := hw
  exact J2 n H locs ls x1 (0 : Int32) t_size tc hP hD hS (lv_sub hl [1, 2, 0] rfl) hw
def wp_T_codeAt (x1 t_size : Int32) (tc : Nat → Int32) (Q : Int32 → Prop) : Prop := ((x1 < 0 → (Q (0 : Int32))) ∧ (¬ x1 < 0 → ((t_size ≤ x1 → (Q (0 : Int32))) ∧ (¬ t_size ≤ x1 → (vp_in x1 400 ∧ (cZ (tc x1.toNatClampNeg) ∧ Q (tc x1.toNatClampNeg)))))))
abbrev rm_T_codeAt : Room := { frames := 0, cells := 0, slots := 0, locals := 0 }
set_option maxRecDepth 100000 in
set_option maxHeartbeats 4000000 in
theorem c_T_codeAt (l : Launch) {D : va_G} {X : xT} {a : Nat → Nat} {K : Nat → ClassId} {tl : va_W} {e0 : Nat × va_E} {x1 t_size : Int32} {tc : Nat → Int32} {Q : Int32 → Prop} : MC l y_T_codeAt b_T_codeAt 2 rm_T_codeAt D cls (tys K) X [.ref (a 1), .int x1] (e0 :: (o_T a t_size) :: (o_tc a K tc) :: tl) (fun _ : Unit => e0 :: (o_T a t_size) :: (o_tc a K tc) :: tl) (wp_T_codeAt x1 t_size tc Q) (fun r _ => Q r) := by
  refine my_of_C (by decide +kernel) (Nat.le_of_ble_eq_true rfl) (fun p e s m args below meth c A QQ H locs ls hx hb hts hown hml hK hX hA hP hD hS hl hw hret => ?_)
  replace hl : lv_has ls 2 [(0, .ref (a 1)), (1, .int x1)] := hl
  unfold wp_T_codeAt at hw
  refine lv_iload_n hx hb d_T_codeAt_0 rfl (lv_at hl 1 rfl) ?_
  refine lv_if_lt (tgt := 21) hx hb d_T_codeAt_1 (by decide) (fun hc => ?_) (fun hc => ?_)
  · replace hw := hw.1 hc
    refine lv_iconst (v := (0 : Int32)) hx hb d_T_codeAt_21 (by decide) ?_
    exact hret H locs ls 22 ((0 : Int32)) (()) d_T_codeAt_22 (by unfold cZ; decide +kernel) hP hD hS hw
  · replace hw := hw.2 hc
    refine lv_iload_n hx hb d_T_codeAt_4 rfl (lv_at hl 1 rfl) ?_
    refine lv_aload_n hx hb d_T_codeAt_5 rfl (lv_at hl 0 rfl) ?_
    refine g_T_size hx hb hts hown hK hP 1 rfl rfl d_T_codeAt_6 ?_
    refine lv_icmp_ge (tgt := 21) hx hb d_T_codeAt_9 (by decide) (fun hc => ?_) (fun hc => ?_)
    · replace hw := hw.1 hc
      refine lv_iconst (v := (0 : Int32)) hx hb d_T_codeAt_21 (by decide) ?_
      exact hret H locs ls 22 ((0 : Int32)) (()) d_T_codeAt_22 (by unfold cZ; decide +kernel) hP hD hS hw
    · replace hw := hw.2 hc
      refine lv_aload_n hx hb d_T_codeAt_12 rfl (lv_at hl 0 rfl) ?_
      refine g_T_codes hx hb hts hown hK hP 1 rfl rfl d_T_codeAt_13 ?_
      refine lv_iload_n hx hb d_T_codeAt_16 rfl (lv_at hl 1 rfl) ?_
      refine va_cald hx hb hK hP 2 0 rfl rfl hw.1 d_T_codeAt_17 ?_
      replace hw := hw.2
      refine lv_goto (tgt := 22) hx hb d_T_codeAt_18 (by decide) ?_
      exact hret H locs ls 22 (tc x1.toNatClampNeg) (()) d_T_codeAt_22 hw.1 hP hD hS hw.2
def wq_T_lineEnd_2 (Q : Int32 → Prop) (t_size : Int32) (tc : Nat → Int32) : Nat → Int32 → Prop
  | 0, _ => False
  | n + 1, x2 => ((t_size ≤ x2 → (Q x2)) ∧ (¬ t_size ≤ x2 → (wp_T_codeAt x2 t_size tc (fun r12 => ((r12 = (10 : Int32) → (Q x2)) ∧ (¬ r12 = (10 : Int32) → (wq_T_lineEnd_2 Q t_size tc n (x2 + (1 : Int32)))))))))
def wp_T_lineEnd (x1 t_size : Int32) (tc : Nat → Int32) (Q : Int32 → Prop) : Prop := (∃ n : Nat, wq_T_lineEnd_2 Q t_size tc n x1)
abbrev rm_T_lineEnd : Room := { frames := 1, cells := 0, slots := 0, locals := 21 }
set_option maxRecDepth 100000 in
set_option maxHeartbeats 4000000 in
theorem c_T_lineEnd (l : Launch) {D : va_G} {X : xT} {a : Nat → Nat} {K : Nat → ClassId} {tl : va_W} {e0 : Nat × va_E} {x1 t_size : Int32} {tc : Nat → Int32} {Q : Int32 → Prop} : MI l y_T_lineEnd b_T_lineEnd 3 rm_T_lineEnd D cls (tys K) X [.ref (a 1), .int x1] (e0 :: (o_T a t_size) :: (o_tc a K tc) :: tl) (fun _ : Unit => e0 :: (o_T a t_size) :: (o_tc a K tc) :: tl) (wp_T_lineEnd x1 t_size tc Q) (fun r _ => Q r) := by
  refine my_of_I (by decide +kernel) (Nat.le_of_ble_eq_true rfl) (fun p e s m args below meth c A QQ H locs ls hx hb hts hown hml hK hX hA hP hD hS hl hw hret => ?_)
  replace hl : lv_has ls 3 [(0, .ref (a 1)), (1, .int x1)] := hl
  have J2 : ∀ (n : Nat) (H : Heap) (locs : List Loc) (ls : Array Slot) (x2 : Int32), va_P D cls (e0 :: (o_T a t_size) :: (o_tc a K tc) :: tl) H → va_D A (e0 :: (o_T a t_size) :: (o_tc a K tc) :: tl) → va_S A s.heap H locs → lv_has ls 3 [(0, .ref (a 1)), (2, .int x2)] → wq_T_lineEnd_2 Q t_size tc n x2 → W p l e rm_T_lineEnd s m args below meth c H locs 0 0 QQ (F0 m 2 ls []) := by
    intro n
    induction n with
    | zero => intro H locs ls x2 hP hD hS hl hw; exact False.elim hw
    | succ n ih =>
      intro H locs ls x2 hP hD hS hl hw
      unfold wq_T_lineEnd_2 at hw
      refine lv_iload_n hx hb d_T_lineEnd_2 rfl (lv_at hl 1 rfl) ?_
      refine lv_aload_n hx hb d_T_lineEnd_3 rfl (lv_at hl 0 rfl) ?_
      refine g_T_size hx hb hts hown hK hP 1 rfl rfl d_T_lineEnd_4 ?_
      refine lv_icmp_ge (tgt := 26) hx hb d_T_lineEnd_7 (by decide) (fun hc => ?_) (fun hc => ?_)
      · replace hw := hw.1 hc
        refine lv_iload_n hx hb d_T_lineEnd_26 rfl (lv_at hl 1 rfl) ?_
        exact hret H locs ls 27 (x2) (()) d_T_lineEnd_27 hP hD hS hw
      · replace hw := hw.2 hc
        refine lv_aload_n hx hb d_T_lineEnd_10 rfl (lv_at hl 0 rfl) ?_
        refine lv_iload_n hx hb d_T_lineEnd_11 rfl (lv_at hl 1 rfl) ?_
        refine my_calli (va_runV (As := [.int x2]) (rest := []) ⟨hx, hb, hml, hown, hts⟩ (c_T_codeAt l H.size) (cw_T_23 hts ⟨Nat.le_of_ble_eq_true rfl, Nat.le_of_ble_eq_true rfl⟩) (my_preV hK hP hX hD hS hA 1 rfl rfl hw) rfl rfl hl.1 rfl (lv_room (Nat.le_of_ble_eq_true rfl)) d_T_lineEnd_12 ⟨Nat.le_refl _, Nat.le_refl _⟩) hD hS hA (fun r12 _ H locs hw hP hD hS => ?_)
        have hP : va_P D cls (e0 :: (o_T a t_size) :: (o_tc a K tc) :: tl) H := hP
        have hD : va_D A (e0 :: (o_T a t_size) :: (o_tc a K tc) :: tl) := hD
        refine lv_bipush (v := (10 : Int32)) hx hb d_T_lineEnd_15 (by decide) ?_
        refine lv_icmp_eq (tgt := 26) hx hb d_T_lineEnd_17 (by decide) (fun hc => ?_) (fun hc => ?_)
        · replace hw := hw.1 hc
          refine lv_iload_n hx hb d_T_lineEnd_26 rfl (lv_at hl 1 rfl) ?_
          exact hret H locs ls 27 (x2) (()) d_T_lineEnd_27 hP hD hS hw
        · replace hw := hw.2 hc
          refine lv_iinc (k := 1) (v := x2 + (1 : Int32)) (lv' := [(2, .int (x2 + (1 : Int32))), (0, .ref (a 1))]) hx hb d_T_lineEnd_20 hl rfl (iinc_1 _) (Nat.le_of_ble_eq_true rfl) rfl (fun ls hl => ?_)
          refine lv_goto (tgt := 2) hx hb d_T_lineEnd_23 (by decide) ?_
          exact ih H locs ls (x2 + (1 : Int32)) hP hD hS (lv_sub hl [1, 0] rfl) hw
  unfold wp_T_lineEnd at hw
  refine lv_iload_n hx hb d_T_lineEnd_0 rfl (lv_at hl 1 rfl) ?_
  refine lv_istore_n (lv' := [(2, .int x1), (0, .ref (a 1)), (1, .int x1)]) hx hb d_T_lineEnd_1 rfl hl (Nat.le_of_ble_eq_true rfl) rfl (fun ls hl => ?_)
  obtain ⟨n, hw⟩ := hw
  exact J2 n H locs ls x1 hP hD hS (lv_sub hl [1, 0] rfl) hw
end
