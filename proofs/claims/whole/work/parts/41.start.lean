section XST
variable {s : State} {b : Nat}
theorem xS_start (hts : ∀ w ∈ lw_tbl, w.before #[Value.ref b] s = true) (hgv : (Jvm.Cond.and given_1 narrow_1).before #[Value.ref b] s = true) : ∃ X : xT, xS X (fun q => s.heap.size ≤ q) s s.heap := by
  have hs := flat_of_before _ hgv
  have hA : ∀ a : Nat, a < s.heap.size → ¬ (fun q => s.heap.size ≤ q) a := fun a h => by show ¬ s.heap.size ≤ a; omega
  obtain ⟨t, ht, hT⟩ := va_Tof (tm := .static "PulsePlotter$Words" "MOST_DIGITS" "[I") (ty := .int) (N := 7) (f := fun j => .int (mdg j)) (A := fun q => s.heap.size ≤ q) (by omega) (hs (.arrayOf (.static "PulsePlotter$Words" "MOST_DIGITS" "[I") .int) (by decide +kernel)) (va_eqt (hs (.eq (.length (.static "PulsePlotter$Words" "MOST_DIGITS" "[I")) (.int 7)) (by decide +kernel))) (fun j hj => by
    rcases (by omega : j = 0 ∨ j = 1 ∨ j = 2 ∨ j = 3 ∨ j = 4 ∨ j = 5 ∨ j = 6) with rfl | rfl | rfl | rfl | rfl | rfl | rfl
    · exact va_eqt (hs (.eq (.elem (.static "PulsePlotter$Words" "MOST_DIGITS" "[I") (.int 0)) (.int 2)) (by decide +kernel))
    · exact va_eqt (hs (.eq (.elem (.static "PulsePlotter$Words" "MOST_DIGITS" "[I") (.int 1)) (.int 2)) (by decide +kernel))
    · exact va_eqt (hs (.eq (.elem (.static "PulsePlotter$Words" "MOST_DIGITS" "[I") (.int 2)) (.int 4)) (by decide +kernel))
    · exact va_eqt (hs (.eq (.elem (.static "PulsePlotter$Words" "MOST_DIGITS" "[I") (.int 3)) (.int 4)) (by decide +kernel))
    · exact va_eqt (hs (.eq (.elem (.static "PulsePlotter$Words" "MOST_DIGITS" "[I") (.int 4)) (.int 4)) (by decide +kernel))
    · exact va_eqt (hs (.eq (.elem (.static "PulsePlotter$Words" "MOST_DIGITS" "[I") (.int 5)) (.int 4)) (by decide +kernel))
    · exact va_eqt (hs (.eq (.elem (.static "PulsePlotter$Words" "MOST_DIGITS" "[I") (.int 6)) (.int 5)) (by decide +kernel))) hA
  obtain ⟨adK, adV, hSS, hev⟩ := vk_Sof (N := 1) (tm := fun _ => (.string "PulsePlotter$Words" 57)) (len := [7]) (byt := ltb) (A := fun q => s.heap.size ≤ q) (fun i hi => by rcases (by omega : i = 0) with rfl; show 7 < 2 ^ 31; omega) (fun i hi => hs (.exactly (.string "PulsePlotter$Words" 57) "java/lang/String") (by decide +kernel)) (fun i hi => hs (.eq (.field (.string "PulsePlotter$Words" 57) "java/lang/String" "coder" "B") (.int 0)) (by decide +kernel))
    (fun i hi => hs (.arrayOf (.field (.string "PulsePlotter$Words" 57) "java/lang/String" "value" "[B") .byte) (by decide +kernel)) (fun i hi => by rcases (by omega : i = 0) with rfl; exact hs (.eq (.length (.field (.string "PulsePlotter$Words" 57) "java/lang/String" "value" "[B")) (.int 7)) (by decide +kernel)) (fun i hi j hj => by
      rcases (by omega : i = 0) with rfl
      have hj7 : j < 7 := hj
      rcases (by omega : j = 0 ∨ j = 1 ∨ j = 2 ∨ j = 3 ∨ j = 4 ∨ j = 5 ∨ j = 6) with rfl | rfl | rfl | rfl | rfl | rfl | rfl
      · exact hs (.eq (.elem (.field (.string "PulsePlotter$Words" 57) "java/lang/String" "value" "[B") (.int 0)) (.int 71)) (by decide +kernel)
      · exact hs (.eq (.elem (.field (.string "PulsePlotter$Words" 57) "java/lang/String" "value" "[B") (.int 1)) (.int 77)) (by decide +kernel)
      · exact hs (.eq (.elem (.field (.string "PulsePlotter$Words" 57) "java/lang/String" "value" "[B") (.int 2)) (.int 88)) (by decide +kernel)
      · exact hs (.eq (.elem (.field (.string "PulsePlotter$Words" 57) "java/lang/String" "value" "[B") (.int 3)) (.int 89)) (by decide +kernel)
      · exact hs (.eq (.elem (.field (.string "PulsePlotter$Words" 57) "java/lang/String" "value" "[B") (.int 4)) (.int 73)) (by decide +kernel)
      · exact hs (.eq (.elem (.field (.string "PulsePlotter$Words" 57) "java/lang/String" "value" "[B") (.int 5)) (.int 74)) (by decide +kernel)
      · exact hs (.eq (.elem (.field (.string "PulsePlotter$Words" 57) "java/lang/String" "value" "[B") (.int 6)) (.int 70)) (by decide +kernel)) (fun i j hi hj hij => absurd (by omega : i = j) hij) hA
  refine ⟨(t, adK 0, adV 0), va_Nw.of rfl (hts _ (List.mem_append_right _ (List.mem_append_left _ (List.mem_of_getElem? (i := 216) (by rfl))))), va_Nw.of rfl (hts _ (List.mem_append_right _ (List.mem_append_right _ (List.mem_append_left _ (List.mem_of_getElem? (i := 3) (by rfl)))))), va_Nw.of rfl (hts _ (List.mem_append_right _ (List.mem_append_right _ (List.mem_append_left _ (List.mem_of_getElem? (i := 212) (by rfl)))))), va_Zref (hts _ (List.mem_append_right _ (List.mem_append_right _ (List.mem_append_left _ (List.mem_of_getElem? (i := 145) (by rfl)))))) (hts _ (List.mem_append_right _ (List.mem_append_left _ (List.mem_of_getElem? (i := 3) (by rfl))))) ht hA, hT, vk_R.of (hts _ (List.mem_append_right _ (List.mem_append_right _ (List.mem_append_left _ (List.mem_of_getElem? (i := 49) (by rfl)))))) (hev 0 (by decide)), ?_, va_Zof (hts _ (List.mem_append_right _ (List.mem_append_right _ (List.mem_append_left _ (List.mem_of_getElem? (i := 67) (by rfl)))))) (hts _ (List.mem_append_right _ (List.mem_append_left _ (List.mem_of_getElem? (i := 9) (by rfl))))) (va_eqi (hs (.eq (.static "java/lang/String" "COMPACT_STRINGS" "Z") (.int 1)) (by decide +kernel))) hA⟩
  exact ⟨fun i hi => by rcases (by omega : i = 0) with rfl; exact hSS.1 0 (by decide), fun i j hi hj _ => by omega⟩
theorem nS_start (hts : ∀ w ∈ lw_tbl, w.before #[Value.ref b] s = true) : nS s := ⟨va_Nw.of rfl (hts _ (List.mem_append_right _ (List.mem_append_left _ (List.mem_of_getElem? (i := 24) (by rfl))))), va_Nw.of rfl (hts _ (List.mem_append_right _ (List.mem_append_left _ (List.mem_of_getElem? (i := 38) (by rfl))))), va_Nw.of rfl (hts _ (List.mem_append_right _ (List.mem_append_left _ (List.mem_of_getElem? (i := 68) (by rfl))))), va_Nw.of rfl (hts _ (List.mem_append_right _ (List.mem_append_left _ (List.mem_of_getElem? (i := 93) (by rfl))))), va_Nw.of rfl (hts _ (List.mem_append_right _ (List.mem_append_left _ (List.mem_of_getElem? (i := 71) (by rfl))))), va_Nw.of rfl (hts _ (List.mem_append_right _ (List.mem_append_left _ (List.mem_of_getElem? (i := 96) (by rfl)))))⟩
theorem vK_start (hts : ∀ w ∈ wG, w.before #[Value.ref b] s = true) : ∃ D : va_G, va_K D cls [] s := by
  obtain ⟨c0, i0, h0⟩ := u_known (T := F_P) hts hin_P (hts _ kt_P)
  obtain ⟨c1, i1, h1⟩ := u_known (T := F_T) hts hin_T (hts _ kt_T)
  obtain ⟨c2, i2, h2⟩ := u_known (T := F_W) hts hin_W (hts _ kt_W)
  obtain ⟨c3, i3, h3⟩ := u_known (T := F_S) hts hin_S (hts _ kt_S)
  obtain ⟨c4, i4, h4⟩ := u_known (T := F_A) hts hin_A (hts _ kt_A)
  obtain ⟨c5, i5, h5⟩ := u_known (T := F_M) hts hin_M (hts _ kt_M)
  refine ⟨(fun c => ([c0, c1, c2, c3, c4, c5] : List ClassId).getD c c0, fun c => ([i0, i1, i2, i3, i4, i5] : List (Nat → Nat)).getD c i0), fun c q hq => ?_, fun k q h => by simp at h⟩
  match c, hq with
  | 0, hq => cases hq; exact h0
  | 1, hq => cases hq; exact h1
  | 2, hq => cases hq; exact h2
  | 3, hq => cases hq; exact h3
  | 4, hq => cases hq; exact h4
  | 5, hq => cases hq; exact h5
  | c + 6, hq => simp at hq
end XST
