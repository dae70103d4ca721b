section XST
variable {s : State} {b : Nat}
theorem xS_start (hts : ∀ w ∈ lw_tbl, w.before #[Value.ref b] s = true) (hgv : (Jvm.Cond.and given_1 narrow_1).before #[Value.ref b] s = true) : ∃ X : xT, xS X (fun q => s.heap.size ≤ q) s s.heap := by
  have hs := flat_of_before _ hgv
  have hA : ∀ a : Nat, a < s.heap.size → ¬ (fun q => s.heap.size ≤ q) a := fun a h => by show ¬ s.heap.size ≤ a; omega
  obtain ⟨t, ht, hT⟩ := va_Tof (tm := .static "PulsePlotter$Words" "MOST_DIGITS" "[I") (ty := .int) (N := 7) (f := fun j => .int (mdg j)) (A := fun q => s.heap.size ≤ q) (by decide) (hs (.arrayOf (.static "PulsePlotter$Words" "MOST_DIGITS" "[I") .int) (by decide +kernel)) (va_eqt (hs (.eq (.length (.static "PulsePlotter$Words" "MOST_DIGITS" "[I")) (.int 7)) (by decide +kernel))) (fun j hj => by
    rcases (by omega : j = 0 ∨ j = 1 ∨ j = 2 ∨ j = 3 ∨ j = 4 ∨ j = 5 ∨ j = 6) with rfl | rfl | rfl | rfl | rfl | rfl | rfl
    · exact va_eqt (hs (.eq (.elem (.static "PulsePlotter$Words" "MOST_DIGITS" "[I") (.int 0)) (.int 2)) (by decide +kernel))
    · exact va_eqt (hs (.eq (.elem (.static "PulsePlotter$Words" "MOST_DIGITS" "[I") (.int 1)) (.int 2)) (by decide +kernel))
    · exact va_eqt (hs (.eq (.elem (.static "PulsePlotter$Words" "MOST_DIGITS" "[I") (.int 2)) (.int 4)) (by decide +kernel))
    · exact va_eqt (hs (.eq (.elem (.static "PulsePlotter$Words" "MOST_DIGITS" "[I") (.int 3)) (.int 4)) (by decide +kernel))
    · exact va_eqt (hs (.eq (.elem (.static "PulsePlotter$Words" "MOST_DIGITS" "[I") (.int 4)) (.int 4)) (by decide +kernel))
    · exact va_eqt (hs (.eq (.elem (.static "PulsePlotter$Words" "MOST_DIGITS" "[I") (.int 5)) (.int 4)) (by decide +kernel))
    · exact va_eqt (hs (.eq (.elem (.static "PulsePlotter$Words" "MOST_DIGITS" "[I") (.int 6)) (.int 5)) (by decide +kernel))) hA
  obtain ⟨adK, adV, hSS, hev⟩ := vk_Sof (N := 1) (tm := fun _ => (.string "PulsePlotter$Words" 57)) (len := [7]) (byt := ltb) (A := fun q => s.heap.size ≤ q) (fun i hi => by rcases (by omega : i = 0) with rfl; decide) (fun i hi => hs (.exactly (.string "PulsePlotter$Words" 57) "java/lang/String") (by decide +kernel)) (fun i hi => hs (.eq (.field (.string "PulsePlotter$Words" 57) "java/lang/String" "coder" "B") (.int 0)) (by decide +kernel))
    (fun i hi => hs (.arrayOf (.field (.string "PulsePlotter$Words" 57) "java/lang/String" "value" "[B") .byte) (by decide +kernel)) (fun i hi => by rcases (by omega : i = 0) with rfl; exact hs (.eq (.length (.field (.string "PulsePlotter$Words" 57) "java/lang/String" "value" "[B")) (.int 7)) (by decide +kernel)) (fun i hi j hj => by
      rcases (by omega : i = 0) with rfl
      have hj7 : j < 7 := hj
      rcases (by omega : j = 0 ∨ j = 1 ∨ j = 2 ∨ j = 3 ∨ j = 4 ∨ j = 5 ∨ j = 6) with rfl | rfl | rfl | rfl | rfl | rfl | rfl
      · exact hs (.eq (.elem (.field (.string "PulsePlotter$Words" 57) "java/lang/String" "value" "[B") (.int 0)) (.int 71)) (by decide +kernel)
      · exact hs (.eq (.elem (.field (.string "PulsePlotter$Words" 57) "java/lang/String" "value" "[B") (.int 1)) (.int 77)) (by decide +kernel)
      · exact hs (.eq (.elem (.field (.string "PulsePlotter$Words" 57) "java/lang/String" "value" "[B") (.int 2)) (.int 88)) (by decide +kernel)
      · exact hs (.eq (.elem (.field (.string "PulsePlotter$Words" 57) "java/lang/String" "value" "[B") (.int 3)) (.int 89)) (by decide +kernel)
      · exact hs (.eq (.elem (.field (.string "PulsePlotter$Words" 57) "java/lang/String" "value" "[B") (.int 4)) (.int 73)) (by decide +kernel)
      · exact hs (.eq (.elem (.field (.string "PulsePlotter$Words" 57) "java/lang/String" "value" "[B") (.int 5)) (.int 74)) (by decide +kernel)
      · exact hs (.eq (.elem (.field (.string "PulsePlotter$Words" 57) "java/lang/String" "value" "[B") (.int 6)) (.int 70)) (by decide +kernel)) (fun i j hi hj hij => absurd (by omega : i = j) hij) hA
  refine ⟨(t, adK 0, adV 0), va_Nw.of rfl (hts _ (List.mem_append_right _ (List.mem_append_left _ (List.mem_of_getElem? (i := 216) (by rfl))))), va_Nw.of rfl (hts _ (List.mem_append_right _ (List.mem_append_right _ (List.mem_append_left _ (List.mem_of_getElem? (i := 3) (by rfl)))))), va_Nw.of rfl (hts _ (List.mem_append_right _ (List.mem_append_right _ (List.mem_append_left _ (List.mem_of_getElem? (i := 212) (by rfl)))))), va_Zref (hts _ (List.mem_append_right _ (List.mem_append_right _ (List.mem_append_left _ (List.mem_of_getElem? (i := 145) (by rfl)))))) (hts _ (List.mem_append_right _ (List.mem_append_left _ (List.mem_of_getElem? (i := 3) (by rfl))))) ht hA, hT, vk_R.of (hts _ (List.mem_append_right _ (List.mem_append_right _ (List.mem_append_left _ (List.mem_of_getElem? (i := 49) (by rfl)))))) (hev 0 (by decide)), ?_, va_Zof (hts _ (List.mem_append_right _ (List.mem_append_right _ (List.mem_append_left _ (List.mem_of_getElem? (i := 67) (by rfl)))))) (hts _ (List.mem_append_right _ (List.mem_append_left _ (List.mem_of_getElem? (i := 9) (by rfl))))) (va_eqi (hs (.eq (.static "java/lang/String" "COMPACT_STRINGS" "Z") (.int 1)) (by decide +kernel))) hA⟩
  exact ⟨fun i hi => by rcases (by omega : i = 0) with rfl; exact hSS.1 0 (by decide), fun i j hi hj _ => by omega⟩
theorem nS_start (hts : ∀ w ∈ lw_tbl, w.before #[Value.ref b] s = true) : nS s := ⟨va_Nw.of rfl (hts _ (List.mem_append_right _ (List.mem_append_left _ (List.mem_of_getElem? (i := 24) (by rfl))))), va_Nw.of rfl (hts _ (List.mem_append_right _ (List.mem_append_left _ (List.mem_of_getElem? (i := 38) (by rfl))))), va_Nw.of rfl (hts _ (List.mem_append_right _ (List.mem_append_left _ (List.mem_of_getElem? (i := 68) (by rfl))))), va_Nw.of rfl (hts _ (List.mem_append_right _ (List.mem_append_left _ (List.mem_of_getElem? (i := 93) (by rfl))))), va_Nw.of rfl (hts _ (List.mem_append_right _ (List.mem_append_left _ (List.mem_of_getElem? (i := 71) (by rfl))))), va_Nw.of rfl (hts _ (List.mem_append_right _ (List.mem_append_left _ (List.mem_of_getElem? (i := 96) (by rfl)))))⟩
theorem vK_start (hts : ∀ w ∈ wG, w.before #[Value.ref b] s = true) : ∃ D : va_G, va_K D cls [] s := by
  obtain ⟨c0, i0, h0⟩ := u_known (T := F_P) hts hin_P (hts _ kt_P)
  obtain ⟨c1, i1, h1⟩ := u_known (T := F_T) hts hin_T (hts _ kt_T)
  obtain ⟨c2, i2, h2⟩ := u_known (T := F_W) hts hin_W (hts _ kt_W)
  obtain ⟨c3, i3, h3⟩ := u_known (T := F_S) hts hin_S (hts _ kt_S)
  obtain ⟨c4, i4, h4⟩ := u_known (T := F_A) hts hin_A (hts _ kt_A)
  obtain ⟨c5, i5, h5⟩ := u_known (T := F_M) hts hin_M (hts _ kt_M)
  refine ⟨(fun c => ([c0, c1, c2, c3, c4, c5] : List ClassId).getD c c0, fun c => ([i0, i1, i2, i3, i4, i5] : List (Nat → Nat)).getD c i0), fun c q hq => ?_, fun k q h => by simp at h⟩
  match c, hq with
  | 0, hq => cases hq; exact h0
  | 1, hq => cases hq; exact h1
  | 2, hq => cases hq; exact h2
  | 3, hq => cases hq; exact h3
  | 4, hq => cases hq; exact h4
  | 5, hq => cases hq; exact h5
  | c + 6, hq => simp at hq
end XST
set_option maxRecDepth 100000 in
set_option maxHeartbeats 8000000 in
theorem whole_open (Rel : Bool → Int32 → Int32 → Int32 → Int32 → Int32 → Int32 → Int32 → Int32 → Int64 → Int32 → Int32 → Int32 → Int32 → Int32 → Int32 → (Nat → Int32) → Int32 → Int32 → Int32 → Int32 → (Nat → Int32) → (Nat → Int32) → (Nat → Int32) → Int32 → Int32 → Int32 → Int32 → Int32 → Int32 → Int32 → Int32 → Int32 → Int32 → Int32 → Int32 → (Nat → Int32) → Int32 → Int32 → Int32 → Int32 → Int32 → Int32 → Int32 → Int32 → Int32 → Int32 → Int32 → Int32 → Int32 → Int64 → Int64 → Int32 → Int32 → Int32 → Int32 → Int32 → Int32 → Int32 → Int32 → Int32 → Int32 → Int32 → Int32 → Int32 → Int32 → Int32 → (Nat → Int32) → (Nat → Int32) → (Nat → Int32) → (Nat → Int32) → Prop) (hR : RelOK Rel) (hR0 : Rel false 0 0 0 0 0 0 0 0 0 0 4 0 0 0 0 (fun _ => 0) 0 0 (-1) (-1) (fun _ => 0) (fun _ => 0) (fun _ => 0) 0 0 0 0 0 0 0 0 1 0 1 0 (fun _ => 0) 0 0 0 0 0 0 0 0 0 4 0 0 0 0 0 0 0 0 0 0 0 0 0 0 0 0 0 0 0 0 (fun _ => 0) (fun _ => 0) (fun _ => 0) (fun _ => 0)) {p : Program} {e : Env} {s : State} {m : MethodId} {below : List Frame} {meth : Method} {c : Code} (l : Launch) {b L : Nat} {xs : Nat → Int32} (hL : L ≤ 1024) (C0 : lw_At p s m meth c b L xs) : W p l e room_1 s m #[Value.ref b] below meth c s.heap [] 0 0 (lw_Z below #[Value.ref b] s) (entryFrame m ([Value.ref b] : List Value).toArray 4) := by
  obtain ⟨hx, hb, hr, hml, hown, hts0, hXs, hbl, hlocks, hgv⟩ := C0
  have hts : ∀ w ∈ wG, w.before #[Value.ref b] s = true := fun w h => hts0 w (List.mem_filter.mp h).1
  obtain ⟨X, hX⟩ := xS_start hts0 hgv
  have hN := nS_start hts0
  obtain ⟨D, hK⟩ := vK_start hts
  generalize hAe : (fun q => s.heap.size ≤ q) = A at hX
  have hA : ∀ q, s.heap.size ≤ q → A q := fun q h => by rw [← hAe]; exact h
  have hA2 : ∀ q, A q → s.heap.size ≤ q := fun q h => by rw [← hAe] at h; exact h
  have hS : va_S A s.heap s.heap [] := va_S.rf
  have hP : va_P D cls [] s.heap := fun k q h => by simp at h
  have hD : va_D A [] := ⟨fun i j p q h => by simp at h, fun k q h => by simp at h⟩
  have hl := lv_entry ([.ref b]) (n := 4) (Nat.le_of_ble_eq_true rfl)
  rw [lg_entry_eq]
  generalize (lg_sl ([.ref b]) ++ List.replicate (4 - (lg_sl ([.ref b])).length) Slot.unset).toArray = ls at hl ⊢
  have hl : lv_has ls 4 [(0, .ref b)] := hl
  refine va_new (ci := 0) (fs := [.null, .null, .null, .null, .null, .int 0, .int 0, .int 0, .int 0, .int 0, .int 0, .int 0, .int 0, .long 0, .int 0, .int 0, .int 0, .int 0, .int 0]) (C := R_P) (T := F_P) (N := 19) hx hb hts hin_P fy_P fy_P_ok hown (hts _ k_L_7) (hts _ kt_P) (hts _ ki_P) hK hP hD hS hA rfl (fun j hj => by rcases (by omega : j = 0 ∨ j = 1 ∨ j = 2 ∨ j = 3 ∨ j = 4 ∨ j = 5 ∨ j = 6 ∨ j = 7 ∨ j = 8 ∨ j = 9 ∨ j = 10 ∨ j = 11 ∨ j = 12 ∨ j = 13 ∨ j = 14 ∨ j = 15 ∨ j = 16 ∨ j = 17 ∨ j = 18) with rfl | rfl | rfl | rfl | rfl | rfl | rfl | rfl | rfl | rfl | rfl | rfl | rfl | rfl | rfl | rfl | rfl | rfl | rfl <;> rfl) (Nat.le_of_ble_eq_true rfl) (Nat.le_of_ble_eq_true rfl) d_L_law_0 (fun qP H hP hD hS => ?_)
  have hP : va_P D cls [(qP, .inr (0, [.null, .null, .null, .null, .null, .int 0, .int 0, .int 0, .int 0, .int 0, .int 0, .int 0, .int 0, .long 0, .int 0, .int 0, .int 0, .int 0, .int 0]))] H := hP
  have hD : va_D A [(qP, .inr (0, [.null, .null, .null, .null, .null, .int 0, .int 0, .int 0, .int 0, .int 0, .int 0, .int 0, .int 0, .long 0, .int 0, .int 0, .int 0, .int 0, .int 0]))] := hD
  refine lv_dup hx hb d_L_law_3 rfl ?_
  have hPc := hP
  have hDc := hD
  have hKc := hK
  have hFc := my_free hD hS hA
  refine va_callv (va_runI (As := []) (rest := [.ref qP]) ⟨hx, hb, hml, hown, hts⟩ (c_P_init l (D := D) (X := X) (h := qP) H.size) (my_ciI hts kc_P_init ki_P kn_P_init k_L_9 rfl ⟨by decide +kernel, by decide +kernel, by decide +kernel⟩ ⟨Nat.le_of_ble_eq_true rfl, Nat.le_of_ble_eq_true rfl⟩) (my_preK hKc hPc hX hDc hS hFc hN) rfl rfl hl.1 rfl (lv_room (Nat.le_of_ble_eq_true rfl)) d_L_law_4 ⟨Nat.le_of_ble_eq_true rfl, Nat.le_of_ble_eq_true rfl⟩) hS (fun q _ h => hFc q h) hFc (fun _ t H1 locs ht hvm _ hB hz1 hk1 hS => ?_)
  obtain ⟨a, k0, k1, k2, k3, k4, rfl, hP1, hK1, hD1⟩ := hB
  rw [ht] at hP1
  replace hK1 := va_K.moved hvm.symm hK1
  replace hD := hD1.weaken (fun _ _ _ h => hFc _ h)
  generalize H1 = H at hP1 hS ⊢
  replace hP := hP1
  replace hK := hK1
  refine lv_astore_n (lv' := [(1, .ref (a 0)), (0, .ref b)]) hx hb d_L_law_7 rfl hl (Nat.le_of_ble_eq_true rfl) rfl (fun ls hl => ?_)
  refine va_new (ci := 5) (fs := [.null, .int 0, .int 0, .int 0, .int 0, .int 0, .int 0, .int 0, .int 0, .int 0, .int 0, .int 0, .int 0, .int 0, .long 0, .long 0, .int 0, .int 0, .int 0, .int 0, .int 0, .int 0, .int 0, .null, .null, .int 0, .int 0, .int 0, .null, .int 0, .int 0, .int 0, .int 0, .int 0]) (C := R_M) (T := F_M) (N := 34) hx hb hts hin_M fy_M fy_M_ok hown (hts _ k_L_10) (hts _ kt_M) (hts _ ki_M) hK hP hD hS hA rfl (fun j hj => by rcases (by omega : j = 0 ∨ j = 1 ∨ j = 2 ∨ j = 3 ∨ j = 4 ∨ j = 5 ∨ j = 6 ∨ j = 7 ∨ j = 8 ∨ j = 9 ∨ j = 10 ∨ j = 11 ∨ j = 12 ∨ j = 13 ∨ j = 14 ∨ j = 15 ∨ j = 16 ∨ j = 17 ∨ j = 18 ∨ j = 19 ∨ j = 20 ∨ j = 21 ∨ j = 22 ∨ j = 23 ∨ j = 24 ∨ j = 25 ∨ j = 26 ∨ j = 27 ∨ j = 28 ∨ j = 29 ∨ j = 30 ∨ j = 31 ∨ j = 32 ∨ j = 33) with rfl | rfl | rfl | rfl | rfl | rfl | rfl | rfl | rfl | rfl | rfl | rfl | rfl | rfl | rfl | rfl | rfl | rfl | rfl | rfl | rfl | rfl | rfl | rfl | rfl | rfl | rfl | rfl | rfl | rfl | rfl | rfl | rfl | rfl <;> rfl) (Nat.le_of_ble_eq_true rfl) (Nat.le_of_ble_eq_true rfl) d_L_law_8 (fun qM H hP hD hS => ?_)
  have hP : va_P D cls [o_P a false 0 0 0 0 0 0 0 0 0 0 4 0 0 0, o_T a 0, o_tc a (mkK [k0, k1, k2, k3, k4] k4) (fun _ => 0), o_W a 0 0 (-1) (-1), o_wr a (mkK [k0, k1, k2, k3, k4] k4) (fun _ => 0), o_wz a (mkK [k0, k1, k2, k3, k4] k4) (fun _ => 0), o_wn a (mkK [k0, k1, k2, k3, k4] k4) (fun _ => 0), o_S a 0 0 0 0 0, o_A a 0 0 0 1 0 1 0, o_ar a (mkK [k0, k1, k2, k3, k4] k4) (fun _ => 0), (qM, .inr (5, [.null, .int 0, .int 0, .int 0, .int 0, .int 0, .int 0, .int 0, .int 0, .int 0, .int 0, .int 0, .int 0, .int 0, .long 0, .long 0, .int 0, .int 0, .int 0, .int 0, .int 0, .int 0, .int 0, .null, .null, .int 0, .int 0, .int 0, .null, .int 0, .int 0, .int 0, .int 0, .int 0]))] H := hP
  have hD : va_D A [o_P a false 0 0 0 0 0 0 0 0 0 0 4 0 0 0, o_T a 0, o_tc a (mkK [k0, k1, k2, k3, k4] k4) (fun _ => 0), o_W a 0 0 (-1) (-1), o_wr a (mkK [k0, k1, k2, k3, k4] k4) (fun _ => 0), o_wz a (mkK [k0, k1, k2, k3, k4] k4) (fun _ => 0), o_wn a (mkK [k0, k1, k2, k3, k4] k4) (fun _ => 0), o_S a 0 0 0 0 0, o_A a 0 0 0 1 0 1 0, o_ar a (mkK [k0, k1, k2, k3, k4] k4) (fun _ => 0), (qM, .inr (5, [.null, .int 0, .int 0, .int 0, .int 0, .int 0, .int 0, .int 0, .int 0, .int 0, .int 0, .int 0, .int 0, .int 0, .long 0, .long 0, .int 0, .int 0, .int 0, .int 0, .int 0, .int 0, .int 0, .null, .null, .int 0, .int 0, .int 0, .null, .int 0, .int 0, .int 0, .int 0, .int 0]))] := hD
  refine lv_dup hx hb d_L_law_11 rfl ?_
  have hPc := hP.sub (ws' := [(qM, .inr (5, [.null, .int 0, .int 0, .int 0, .int 0, .int 0, .int 0, .int 0, .int 0, .int 0, .int 0, .int 0, .int 0, .int 0, .long 0, .long 0, .int 0, .int 0, .int 0, .int 0, .int 0, .int 0, .int 0, .null, .null, .int 0, .int 0, .int 0, .null, .int 0, .int 0, .int 0, .int 0, .int 0]))]) [10] rfl
  have hDc := hD.sub (ws' := [(qM, .inr (5, [.null, .int 0, .int 0, .int 0, .int 0, .int 0, .int 0, .int 0, .int 0, .int 0, .int 0, .int 0, .int 0, .int 0, .long 0, .long 0, .int 0, .int 0, .int 0, .int 0, .int 0, .int 0, .int 0, .null, .null, .int 0, .int 0, .int 0, .null, .int 0, .int 0, .int 0, .int 0, .int 0]))]) [10] (by decide) rfl
  have hKc := hK
  have hFc := va_free (wc := [(qM, .inr (5, [.null, .int 0, .int 0, .int 0, .int 0, .int 0, .int 0, .int 0, .int 0, .int 0, .int 0, .int 0, .int 0, .int 0, .long 0, .long 0, .int 0, .int 0, .int 0, .int 0, .int 0, .int 0, .int 0, .null, .null, .int 0, .int 0, .int 0, .null, .int 0, .int 0, .int 0, .int 0, .int 0]))]) hD hS hA [10] rfl
  refine va_callv (va_runI (As := []) (rest := [.ref qM]) ⟨hx, hb, hml, hown, hts⟩ (c_M_init l (D := D) (X := X) (h := qM) H.size) (my_ciI hts kc_M_init ki_M kn_M_init k_L_12 rfl ⟨by decide +kernel, by decide +kernel, by decide +kernel⟩ ⟨Nat.le_of_ble_eq_true rfl, Nat.le_of_ble_eq_true rfl⟩) (my_preK hKc hPc hX hDc hS hFc hN) rfl rfl hl.1 rfl (lv_room (Nat.le_of_ble_eq_true rfl)) d_L_law_12 ⟨Nat.le_of_ble_eq_true rfl, Nat.le_of_ble_eq_true rfl⟩) hS (fun q _ h => hFc q h) hFc (fun _ t H1 locs ht hvm _ hB hz1 hk1 hS => ?_)
  obtain ⟨a2, k5, k6, k7, k8, rfl, hP1, hK1, hD1⟩ := hB
  rw [ht] at hP1
  replace hK1 := va_K.moved hvm.symm hK1
  obtain ⟨hP, hD⟩ := va_join (wr := [o_P a false 0 0 0 0 0 0 0 0 0 0 4 0 0 0, o_T a 0, o_tc a (mkK [k0, k1, k2, k3, k4] k4) (fun _ => 0), o_W a 0 0 (-1) (-1), o_wr a (mkK [k0, k1, k2, k3, k4] k4) (fun _ => 0), o_wz a (mkK [k0, k1, k2, k3, k4] k4) (fun _ => 0), o_wn a (mkK [k0, k1, k2, k3, k4] k4) (fun _ => 0), o_S a 0 0 0 0 0, o_A a 0 0 0 1 0 1 0, o_ar a (mkK [k0, k1, k2, k3, k4] k4) (fun _ => 0)]) (w1 := [o_M a2 0 0 0 0 0 0 0 0 0 4 0 0 0 0 0 0 0 0 0 0 0 0 0 0 0 0 0 0 0 0, o_mt a2 (mkK [k0, k1, k2, k3, k4, k5, k6, k7, k8] k4) (fun _ => 0), o_mx a2 (mkK [k0, k1, k2, k3, k4, k5, k6, k7, k8] k4) (fun _ => 0), o_my a2 (mkK [k0, k1, k2, k3, k4, k5, k6, k7, k8] k4) (fun _ => 0), o_mn a2 (mkK [k0, k1, k2, k3, k4, k5, k6, k7, k8] k4) (fun _ => 0)]) hP hD [10] [0, 1, 2, 3, 4, 5, 6, 7, 8, 9] rfl rfl (by decide) (by decide) hk1 hFc hP1 hD1
  generalize H1 = H at hP hS ⊢
  refine lv_astore_n (lv' := [(2, .ref (a2 10)), (1, .ref (a 0)), (0, .ref b)]) hx hb d_L_law_15 rfl hl (Nat.le_of_ble_eq_true rfl) rfl (fun ls hl => ?_)
  refine lv_iconst (v := 0) hx hb d_L_law_16 (by decide) ?_
  refine lv_istore_n (lv' := [(3, .int 0), (2, .ref (a2 10)), (1, .ref (a 0)), (0, .ref b)]) hx hb d_L_law_17 rfl hl (Nat.le_of_ble_eq_true rfl) rfl (fun ls hl => ?_)
  have hbA : ¬ A b := fun h => by have := hA2 b h; omega
  exact law_loop Rel hR (a := (mkA [a 0, a 1, a 2, a 3, a 4, a 5, a 6, a 7, a 8, a 9, a2 10, a2 11, a2 12, a2 13, a2 14])) (K := (mkK [k0, k1, k2, k3, k4, k5, k6, k7, k8] k4)) (X := X) (D := D) l hL hx hb hr hml hown hts hXs hbl hbA hlocks hK1 hX hA hA2 (L + 2) 0 H locs ls false 0 0 0 0 0 0 0 0 0 0 4 0 0 0 0 (fun _ => 0) 0 0 (-1) (-1) (fun _ => 0) (fun _ => 0) (fun _ => 0) 0 0 0 0 0 0 0 0 1 0 1 0 (fun _ => 0) 0 0 0 0 0 0 0 0 0 4 0 0 0 0 0 0 0 0 0 0 0 0 0 0 0 0 0 0 0 0 (fun _ => 0) (fun _ => 0) (fun _ => 0) (fun _ => 0) (by omega) (by omega) hP hD hS (lv_sub hl [3, 2, 1, 0] rfl) hR0
