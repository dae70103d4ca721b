theorem d_Jm_min_0 : decode b_Jm_min 0 = .ok (.iload_n 0, 1) := by decide +kernel
theorem d_Jm_min_1 : decode b_Jm_min 1 = .ok (.iload_n 1, 1) := by decide +kernel
theorem d_Jm_min_2 : decode b_Jm_min 2 = .ok (.if_icmp .gt 7, 3) := by decide +kernel
theorem d_Jm_min_5 : decode b_Jm_min 5 = .ok (.iload_n 0, 1) := by decide +kernel
theorem d_Jm_min_6 : decode b_Jm_min 6 = .ok (.goto 4, 3) := by decide +kernel
theorem d_Jm_min_9 : decode b_Jm_min 9 = .ok (.iload_n 1, 1) := by decide +kernel
theorem d_Jm_min_10 : decode b_Jm_min 10 = .ok (.ireturn, 1) := by decide +kernel
theorem d_Jm_floorMod_0 : decode b_Jm_floorMod 0 = .ok (.iload_n 0, 1) := by decide +kernel
theorem d_Jm_floorMod_1 : decode b_Jm_floorMod 1 = .ok (.iload_n 1, 1) := by decide +kernel
theorem d_Jm_floorMod_2 : decode b_Jm_floorMod 2 = .ok (.irem, 1) := by decide +kernel
theorem d_Jm_floorMod_3 : decode b_Jm_floorMod 3 = .ok (.istore_n 2, 1) := by decide +kernel
theorem d_Jm_floorMod_4 : decode b_Jm_floorMod 4 = .ok (.iload_n 0, 1) := by decide +kernel
theorem d_Jm_floorMod_5 : decode b_Jm_floorMod 5 = .ok (.iload_n 1, 1) := by decide +kernel
theorem d_Jm_floorMod_6 : decode b_Jm_floorMod 6 = .ok (.ixor, 1) := by decide +kernel
theorem d_Jm_floorMod_7 : decode b_Jm_floorMod 7 = .ok (.ifCond .ge 11, 3) := by decide +kernel
theorem d_Jm_floorMod_10 : decode b_Jm_floorMod 10 = .ok (.iload_n 2, 1) := by decide +kernel
theorem d_Jm_floorMod_11 : decode b_Jm_floorMod 11 = .ok (.ifCond .eq 7, 3) := by decide +kernel
theorem d_Jm_floorMod_14 : decode b_Jm_floorMod 14 = .ok (.iload_n 2, 1) := by decide +kernel
theorem d_Jm_floorMod_15 : decode b_Jm_floorMod 15 = .ok (.iload_n 1, 1) := by decide +kernel
theorem d_Jm_floorMod_16 : decode b_Jm_floorMod 16 = .ok (.iadd, 1) := by decide +kernel
theorem d_Jm_floorMod_17 : decode b_Jm_floorMod 17 = .ok (.ireturn, 1) := by decide +kernel
theorem d_Jm_floorMod_18 : decode b_Jm_floorMod 18 = .ok (.iload_n 2, 1) := by decide +kernel
theorem d_Jm_floorMod_19 : decode b_Jm_floorMod 19 = .ok (.ireturn, 1) := by decide +kernel
theorem d_Jm_floorDiv_0 : decode b_Jm_floorDiv 0 = .ok (.iload_n 0, 1) := by decide +kernel
theorem d_Jm_floorDiv_1 : decode b_Jm_floorDiv 1 = .ok (.iload_n 1, 1) := by decide +kernel
theorem d_Jm_floorDiv_2 : decode b_Jm_floorDiv 2 = .ok (.idiv, 1) := by decide +kernel
theorem d_Jm_floorDiv_3 : decode b_Jm_floorDiv 3 = .ok (.istore_n 2, 1) := by decide +kernel
theorem d_Jm_floorDiv_4 : decode b_Jm_floorDiv 4 = .ok (.iload_n 0, 1) := by decide +kernel
theorem d_Jm_floorDiv_5 : decode b_Jm_floorDiv 5 = .ok (.iload_n 1, 1) := by decide +kernel
theorem d_Jm_floorDiv_6 : decode b_Jm_floorDiv 6 = .ok (.ixor, 1) := by decide +kernel
theorem d_Jm_floorDiv_7 : decode b_Jm_floorDiv 7 = .ok (.ifCond .ge 14, 3) := by decide +kernel
theorem d_Jm_floorDiv_10 : decode b_Jm_floorDiv 10 = .ok (.iload_n 2, 1) := by decide +kernel
theorem d_Jm_floorDiv_11 : decode b_Jm_floorDiv 11 = .ok (.iload_n 1, 1) := by decide +kernel
theorem d_Jm_floorDiv_12 : decode b_Jm_floorDiv 12 = .ok (.imul, 1) := by decide +kernel
theorem d_Jm_floorDiv_13 : decode b_Jm_floorDiv 13 = .ok (.iload_n 0, 1) := by decide +kernel
theorem d_Jm_floorDiv_14 : decode b_Jm_floorDiv 14 = .ok (.if_icmp .eq 7, 3) := by decide +kernel
theorem d_Jm_floorDiv_17 : decode b_Jm_floorDiv 17 = .ok (.iload_n 2, 1) := by decide +kernel
theorem d_Jm_floorDiv_18 : decode b_Jm_floorDiv 18 = .ok (.iconst 1, 1) := by decide +kernel
theorem d_Jm_floorDiv_19 : decode b_Jm_floorDiv 19 = .ok (.isub, 1) := by decide +kernel
theorem d_Jm_floorDiv_20 : decode b_Jm_floorDiv 20 = .ok (.ireturn, 1) := by decide +kernel
theorem d_Jm_floorDiv_21 : decode b_Jm_floorDiv 21 = .ok (.iload_n 2, 1) := by decide +kernel
theorem d_Jm_floorDiv_22 : decode b_Jm_floorDiv 22 = .ok (.ireturn, 1) := by decide +kernel
theorem d_Jm_max_0 : decode b_Jm_max 0 = .ok (.iload_n 0, 1) := by decide +kernel
theorem d_Jm_max_1 : decode b_Jm_max 1 = .ok (.iload_n 1, 1) := by decide +kernel
theorem d_Jm_max_2 : decode b_Jm_max 2 = .ok (.if_icmp .lt 7, 3) := by decide +kernel
theorem d_Jm_max_5 : decode b_Jm_max 5 = .ok (.iload_n 0, 1) := by decide +kernel
theorem d_Jm_max_6 : decode b_Jm_max 6 = .ok (.goto 4, 3) := by decide +kernel
theorem d_Jm_max_9 : decode b_Jm_max 9 = .ok (.iload_n 1, 1) := by decide +kernel
theorem d_Jm_max_10 : decode b_Jm_max 10 = .ok (.ireturn, 1) := by decide +kernel
theorem d_Jm_abs_0 : decode b_Jm_abs 0 = .ok (.iload_n 0, 1) := by decide +kernel
theorem d_Jm_abs_1 : decode b_Jm_abs 1 = .ok (.ifCond .ge 8, 3) := by decide +kernel
theorem d_Jm_abs_4 : decode b_Jm_abs 4 = .ok (.iload_n 0, 1) := by decide +kernel
theorem d_Jm_abs_5 : decode b_Jm_abs 5 = .ok (.ineg, 1) := by decide +kernel
theorem d_Jm_abs_6 : decode b_Jm_abs 6 = .ok (.goto 4, 3) := by decide +kernel
theorem d_Jm_abs_9 : decode b_Jm_abs 9 = .ok (.iload_n 0, 1) := by decide +kernel
theorem d_Jm_abs_10 : decode b_Jm_abs 10 = .ok (.ireturn, 1) := by decide +kernel
def wp_Jm_min (x0 x1 : Int32) (Q : Int32 → Prop) : Prop := ((x1 < x0 → (Q x1)) ∧ (¬ x1 < x0 → (Q x0)))
abbrev rm_Jm_min : Room := { frames := 0, cells := 0, slots := 0, locals := 0 }
set_option maxRecDepth 100000 in
set_option maxHeartbeats 4000000 in
theorem c_Jm_min (l : Launch) {D : va_G} {X : xT} {K : Nat → ClassId} {tl : va_W} {x0 x1 : Int32} {Q : Int32 → Prop} : MI l y_Jm_min b_Jm_min 2 rm_Jm_min D cls (tys K) X [.int x0, .int x1] (tl) (fun _ : Unit => tl) (wp_Jm_min x0 x1 Q) (fun r _ => Q r) := by
  refine my_of_I (by decide +kernel) (Nat.le_of_ble_eq_true rfl) (fun p e s m args below meth c A QQ H locs ls hx hb hts hown hml hK hX hA hP hD hS hl hw hret => ?_)
  replace hl : lv_has ls 2 [(0, .int x0), (1, .int x1)] := hl
  unfold wp_Jm_min at hw
  refine lv_iload_n hx hb d_Jm_min_0 rfl (lv_at hl 0 rfl) ?_
  refine lv_iload_n hx hb d_Jm_min_1 rfl (lv_at hl 1 rfl) ?_
  refine lv_icmp_gt (tgt := 9) hx hb d_Jm_min_2 (by decide) (fun hc => ?_) (fun hc => ?_)
  · replace hw := hw.1 hc
    refine lv_iload_n hx hb d_Jm_min_9 rfl (lv_at hl 1 rfl) ?_
    exact hret H locs ls 10 (x1) (()) d_Jm_min_10 hP hD hS hw
  · replace hw := hw.2 hc
    refine lv_iload_n hx hb d_Jm_min_5 rfl (lv_at hl 0 rfl) ?_
    refine lv_goto (tgt := 10) hx hb d_Jm_min_6 (by decide) ?_
    exact hret H locs ls 10 (x0) (()) d_Jm_min_10 hP hD hS hw
def wp_Jm_max (x0 x1 : Int32) (Q : Int32 → Prop) : Prop := ((x0 < x1 → (Q x1)) ∧ (¬ x0 < x1 → (Q x0)))
abbrev rm_Jm_max : Room := { frames := 0, cells := 0, slots := 0, locals := 0 }
set_option maxRecDepth 100000 in
set_option maxHeartbeats 4000000 in
theorem c_Jm_max (l : Launch) {D : va_G} {X : xT} {K : Nat → ClassId} {tl : va_W} {x0 x1 : Int32} {Q : Int32 → Prop} : MI l y_Jm_max b_Jm_max 2 rm_Jm_max D cls (tys K) X [.int x0, .int x1] (tl) (fun _ : Unit => tl) (wp_Jm_max x0 x1 Q) (fun r _ => Q r) := by
  refine my_of_I (by decide +kernel) (Nat.le_of_ble_eq_true rfl) (fun p e s m args below meth c A QQ H locs ls hx hb hts hown hml hK hX hA hP hD hS hl hw hret => ?_)
  replace hl : lv_has ls 2 [(0, .int x0), (1, .int x1)] := hl
  unfold wp_Jm_max at hw
  refine lv_iload_n hx hb d_Jm_max_0 rfl (lv_at hl 0 rfl) ?_
  refine lv_iload_n hx hb d_Jm_max_1 rfl (lv_at hl 1 rfl) ?_
  refine lv_icmp_lt (tgt := 9) hx hb d_Jm_max_2 (by decide) (fun hc => ?_) (fun hc => ?_)
  · replace hw := hw.1 hc
    refine lv_iload_n hx hb d_Jm_max_9 rfl (lv_at hl 1 rfl) ?_
    exact hret H locs ls 10 (x1) (()) d_Jm_max_10 hP hD hS hw
  · replace hw := hw.2 hc
    refine lv_iload_n hx hb d_Jm_max_5 rfl (lv_at hl 0 rfl) ?_
    refine lv_goto (tgt := 10) hx hb d_Jm_max_6 (by decide) ?_
    exact hret H locs ls 10 (x0) (()) d_Jm_max_10 hP hD hS hw
def wp_Jm_abs (x0 : Int32) (Q : Int32 → Prop) : Prop := ((0 ≤ x0 → (Q x0)) ∧ (¬ 0 ≤ x0 → (Q (-x0))))
abbrev rm_Jm_abs : Room := { frames := 0, cells := 0, slots := 0, locals := 0 }
set_option maxRecDepth 100000 in
set_option maxHeartbeats 4000000 in
theorem c_Jm_abs (l : Launch) {D : va_G} {X : xT} {K : Nat → ClassId} {tl : va_W} {x0 : Int32} {Q : Int32 → Prop} : MI l y_Jm_abs b_Jm_abs 1 rm_Jm_abs D cls (tys K) X [.int x0] (tl) (fun _ : Unit => tl) (wp_Jm_abs x0 Q) (fun r _ => Q r) := by
  refine my_of_I (by decide +kernel) (Nat.le_of_ble_eq_true rfl) (fun p e s m args below meth c A QQ H locs ls hx hb hts hown hml hK hX hA hP hD hS hl hw hret => ?_)
  replace hl : lv_has ls 1 [(0, .int x0)] := hl
  unfold wp_Jm_abs at hw
  refine lv_iload_n hx hb d_Jm_abs_0 rfl (lv_at hl 0 rfl) ?_
  refine lv_if_ge (tgt := 9) hx hb d_Jm_abs_1 (by decide) (fun hc => ?_) (fun hc => ?_)
  · replace hw := hw.1 hc
    refine lv_iload_n hx hb d_Jm_abs_9 rfl (lv_at hl 0 rfl) ?_
    exact hret H locs ls 10 (x0) (()) d_Jm_abs_10 hP hD hS hw
  · replace hw := hw.2 hc
    refine lv_iload_n hx hb d_Jm_abs_4 rfl (lv_at hl 0 rfl) ?_
    refine lv_ineg hx hb d_Jm_abs_5 ?_
    refine lv_goto (tgt := 10) hx hb d_Jm_abs_6 (by decide) ?_
    exact hret H locs ls 10 (-x0) (()) d_Jm_abs_10 hP hD hS hw
def wp_Jm_floorDiv (x0 x1 : Int32) (Q : Int32 → Prop) : Prop := (¬ x1 = 0 ∧ ((0 ≤ (x0 ^^^ x1) → (Q (x0 / x1))) ∧ (¬ 0 ≤ (x0 ^^^ x1) → ((((x0 / x1) * x1) = x0 → (Q (x0 / x1))) ∧ (¬ ((x0 / x1) * x1) = x0 → (Q ((x0 / x1) - (1 : Int32))))))))
abbrev rm_Jm_floorDiv : Room := { frames := 0, cells := 0, slots := 0, locals := 0 }
set_option maxRecDepth 100000 in
set_option maxHeartbeats 4000000 in
theorem c_Jm_floorDiv (l : Launch) {D : va_G} {X : xT} {K : Nat → ClassId} {tl : va_W} {x0 x1 : Int32} {Q : Int32 → Prop} : MI l y_Jm_floorDiv b_Jm_floorDiv 3 rm_Jm_floorDiv D cls (tys K) X [.int x0, .int x1] (tl) (fun _ : Unit => tl) (wp_Jm_floorDiv x0 x1 Q) (fun r _ => Q r) := by
  refine my_of_I (by decide +kernel) (Nat.le_of_ble_eq_true rfl) (fun p e s m args below meth c A QQ H locs ls hx hb hts hown hml hK hX hA hP hD hS hl hw hret => ?_)
  replace hl : lv_has ls 3 [(0, .int x0), (1, .int x1)] := hl
  unfold wp_Jm_floorDiv at hw
  refine lv_iload_n hx hb d_Jm_floorDiv_0 rfl (lv_at hl 0 rfl) ?_
  refine lv_iload_n hx hb d_Jm_floorDiv_1 rfl (lv_at hl 1 rfl) ?_
  refine lv_idiv hx hb d_Jm_floorDiv_2 hw.1 ?_
  replace hw := hw.2
  refine lv_istore_n (lv' := [(2, .int (x0 / x1)), (0, .int x0), (1, .int x1)]) hx hb d_Jm_floorDiv_3 rfl hl (Nat.le_of_ble_eq_true rfl) rfl (fun ls hl => ?_)
  refine lv_iload_n hx hb d_Jm_floorDiv_4 rfl (lv_at hl 1 rfl) ?_
  refine lv_iload_n hx hb d_Jm_floorDiv_5 rfl (lv_at hl 2 rfl) ?_
  refine lv_ixor hx hb d_Jm_floorDiv_6 ?_
  refine lv_if_ge (tgt := 21) hx hb d_Jm_floorDiv_7 (by decide) (fun hc => ?_) (fun hc => ?_)
  · replace hw := hw.1 hc
    refine lv_iload_n hx hb d_Jm_floorDiv_21 rfl (lv_at hl 0 rfl) ?_
    exact hret H locs ls 22 (x0 / x1) (()) d_Jm_floorDiv_22 hP hD hS hw
  · replace hw := hw.2 hc
    refine lv_iload_n hx hb d_Jm_floorDiv_10 rfl (lv_at hl 0 rfl) ?_
    refine lv_iload_n hx hb d_Jm_floorDiv_11 rfl (lv_at hl 2 rfl) ?_
    refine lv_imul hx hb d_Jm_floorDiv_12 ?_
    refine lv_iload_n hx hb d_Jm_floorDiv_13 rfl (lv_at hl 1 rfl) ?_
    refine lv_icmp_eq (tgt := 21) hx hb d_Jm_floorDiv_14 (by decide) (fun hc => ?_) (fun hc => ?_)
    · replace hw := hw.1 hc
      refine lv_iload_n hx hb d_Jm_floorDiv_21 rfl (lv_at hl 0 rfl) ?_
      exact hret H locs ls 22 (x0 / x1) (()) d_Jm_floorDiv_22 hP hD hS hw
    · replace hw := hw.2 hc
      refine lv_iload_n hx hb d_Jm_floorDiv_17 rfl (lv_at hl 0 rfl) ?_
      refine lv_iconst (v := (1 : Int32)) hx hb d_Jm_floorDiv_18 (by decide) ?_
      refine lv_isub hx hb d_Jm_floorDiv_19 ?_
      exact hret H locs ls 20 ((x0 / x1) - (1 : Int32)) (()) d_Jm_floorDiv_20 hP hD hS hw
def wp_Jm_floorMod (x0 x1 : Int32) (Q : Int32 → Prop) : Prop := (¬ x1 = 0 ∧ ((0 ≤ (x0 ^^^ x1) → (Q (x0 - x0 / x1 * x1))) ∧ (¬ 0 ≤ (x0 ^^^ x1) → (((x0 - x0 / x1 * x1) = 0 → (Q (x0 - x0 / x1 * x1))) ∧ (¬ (x0 - x0 / x1 * x1) = 0 → (Q ((x0 - x0 / x1 * x1) + x1)))))))
abbrev rm_Jm_floorMod : Room := { frames := 0, cells := 0, slots := 0, locals := 0 }
set_option maxRecDepth 100000 in
set_option maxHeartbeats 4000000 in
theorem c_Jm_floorMod (l : Launch) {D : va_G} {X : xT} {K : Nat → ClassId} {tl : va_W} {x0 x1 : Int32} {Q : Int32 → Prop} : MI l y_Jm_floorMod b_Jm_floorMod 3 rm_Jm_floorMod D cls (tys K) X [.int x0, .int x1] (tl) (fun _ : Unit => tl) (wp_Jm_floorMod x0 x1 Q) (fun r _ => Q r) := by
  refine my_of_I (by decide +kernel) (Nat.le_of_ble_eq_true rfl) (fun p e s m args below meth c A QQ H locs ls hx hb hts hown hml hK hX hA hP hD hS hl hw hret => ?_)
  replace hl : lv_has ls 3 [(0, .int x0), (1, .int x1)] := hl
  unfold wp_Jm_floorMod at hw
  refine lv_iload_n hx hb d_Jm_floorMod_0 rfl (lv_at hl 0 rfl) ?_
  refine lv_iload_n hx hb d_Jm_floorMod_1 rfl (lv_at hl 1 rfl) ?_
  refine lv_irem hx hb d_Jm_floorMod_2 hw.1 ?_
  replace hw := hw.2
  refine lv_istore_n (lv' := [(2, .int (x0 - x0 / x1 * x1)), (0, .int x0), (1, .int x1)]) hx hb d_Jm_floorMod_3 rfl hl (Nat.le_of_ble_eq_true rfl) rfl (fun ls hl => ?_)
  refine lv_iload_n hx hb d_Jm_floorMod_4 rfl (lv_at hl 1 rfl) ?_
  refine lv_iload_n hx hb d_Jm_floorMod_5 rfl (lv_at hl 2 rfl) ?_
  refine lv_ixor hx hb d_Jm_floorMod_6 ?_
  refine lv_if_ge (tgt := 18) hx hb d_Jm_floorMod_7 (by decide) (fun hc => ?_) (fun hc => ?_)
  · replace hw := hw.1 hc
    refine lv_iload_n hx hb d_Jm_floorMod_18 rfl (lv_at hl 0 rfl) ?_
    exact hret H locs ls 19 (x0 - x0 / x1 * x1) (()) d_Jm_floorMod_19 hP hD hS hw
  · replace hw := hw.2 hc
    refine lv_iload_n hx hb d_Jm_floorMod_10 rfl (lv_at hl 0 rfl) ?_
    refine lv_if_eq (tgt := 18) hx hb d_Jm_floorMod_11 (by decide) (fun hc => ?_) (fun hc => ?_)
    · replace hw := hw.1 hc
      refine lv_iload_n hx hb d_Jm_floorMod_18 rfl (lv_at hl 0 rfl) ?_
      exact hret H locs ls 19 (x0 - x0 / x1 * x1) (()) d_Jm_floorMod_19 hP hD hS hw
    · replace hw := hw.2 hc
      refine lv_iload_n hx hb d_Jm_floorMod_14 rfl (lv_at hl 0 rfl) ?_
      refine lv_iload_n hx hb d_Jm_floorMod_15 rfl (lv_at hl 2 rfl) ?_
      refine lv_iadd hx hb d_Jm_floorMod_16 ?_
      exact hret H locs ls 17 ((x0 - x0 / x1 * x1) + x1) (()) d_Jm_floorMod_17 hP hD hS hw
