theorem d_S_init_0 : decode b_S_init 0 = .ok (.aload_n 0, 1) := by decide +kernel
theorem d_S_init_1 : decode b_S_init 1 = .ok (.invokespecial 1, 3) := by decide +kernel
theorem d_S_init_4 : decode b_S_init 4 = .ok (.aload_n 0, 1) := by decide +kernel
theorem d_S_init_5 : decode b_S_init 5 = .ok (.iconst 0, 1) := by decide +kernel
theorem d_S_init_6 : decode b_S_init 6 = .ok (.putfield 7, 3) := by decide +kernel
theorem d_S_init_9 : decode b_S_init 9 = .ok (.aload_n 0, 1) := by decide +kernel
theorem d_S_init_10 : decode b_S_init 10 = .ok (.iconst 0, 1) := by decide +kernel
theorem d_S_init_11 : decode b_S_init 11 = .ok (.putfield 13, 3) := by decide +kernel
theorem d_S_init_14 : decode b_S_init 14 = .ok (.aload_n 0, 1) := by decide +kernel
theorem d_S_init_15 : decode b_S_init 15 = .ok (.iconst 0, 1) := by decide +kernel
theorem d_S_init_16 : decode b_S_init 16 = .ok (.putfield 16, 3) := by decide +kernel
theorem d_S_init_19 : decode b_S_init 19 = .ok (.aload_n 0, 1) := by decide +kernel
theorem d_S_init_20 : decode b_S_init 20 = .ok (.iconst 0, 1) := by decide +kernel
theorem d_S_init_21 : decode b_S_init 21 = .ok (.putfield 19, 3) := by decide +kernel
theorem d_S_init_24 : decode b_S_init 24 = .ok (.aload_n 0, 1) := by decide +kernel
theorem d_S_init_25 : decode b_S_init 25 = .ok (.iconst 0, 1) := by decide +kernel
theorem d_S_init_26 : decode b_S_init 26 = .ok (.putfield 22, 3) := by decide +kernel
theorem d_S_init_29 : decode b_S_init 29 = .ok (.return_, 1) := by decide +kernel
theorem d_S_lay_0 : decode b_S_lay 0 = .ok (.aload_n 0, 1) := by decide +kernel
theorem d_S_lay_1 : decode b_S_lay 1 = .ok (.iload_n 1, 1) := by decide +kernel
theorem d_S_lay_2 : decode b_S_lay 2 = .ok (.putfield 7, 3) := by decide +kernel
theorem d_S_lay_5 : decode b_S_lay 5 = .ok (.aload_n 0, 1) := by decide +kernel
theorem d_S_lay_6 : decode b_S_lay 6 = .ok (.iload_n 2, 1) := by decide +kernel
theorem d_S_lay_7 : decode b_S_lay 7 = .ok (.putfield 13, 3) := by decide +kernel
theorem d_S_lay_10 : decode b_S_lay 10 = .ok (.aload_n 0, 1) := by decide +kernel
theorem d_S_lay_11 : decode b_S_lay 11 = .ok (.iload_n 3, 1) := by decide +kernel
theorem d_S_lay_12 : decode b_S_lay 12 = .ok (.putfield 16, 3) := by decide +kernel
theorem d_S_lay_15 : decode b_S_lay 15 = .ok (.aload_n 0, 1) := by decide +kernel
theorem d_S_lay_16 : decode b_S_lay 16 = .ok (.iload 4, 2) := by decide +kernel
theorem d_S_lay_18 : decode b_S_lay 18 = .ok (.putfield 19, 3) := by decide +kernel
theorem d_S_lay_21 : decode b_S_lay 21 = .ok (.aload_n 0, 1) := by decide +kernel
theorem d_S_lay_22 : decode b_S_lay 22 = .ok (.iload_n 3, 1) := by decide +kernel
theorem d_S_lay_23 : decode b_S_lay 23 = .ok (.invokestatic 25, 3) := by decide +kernel
theorem d_S_lay_26 : decode b_S_lay 26 = .ok (.iload 4, 2) := by decide +kernel
theorem d_S_lay_28 : decode b_S_lay 28 = .ok (.invokestatic 25, 3) := by decide +kernel
theorem d_S_lay_31 : decode b_S_lay 31 = .ok (.invokestatic 31, 3) := by decide +kernel
theorem d_S_lay_34 : decode b_S_lay 34 = .ok (.putfield 22, 3) := by decide +kernel
theorem d_S_lay_37 : decode b_S_lay 37 = .ok (.return_, 1) := by decide +kernel
theorem d_S_size_0 : decode b_S_size 0 = .ok (.aload_n 0, 1) := by decide +kernel
theorem d_S_size_1 : decode b_S_size 1 = .ok (.getfield 22, 3) := by decide +kernel
theorem d_S_size_4 : decode b_S_size 4 = .ok (.ireturn, 1) := by decide +kernel
theorem d_S_xAfter_0 : decode b_S_xAfter 0 = .ok (.aload_n 0, 1) := by decide +kernel
theorem d_S_xAfter_1 : decode b_S_xAfter 1 = .ok (.getfield 7, 3) := by decide +kernel
theorem d_S_xAfter_4 : decode b_S_xAfter 4 = .ok (.aload_n 0, 1) := by decide +kernel
theorem d_S_xAfter_5 : decode b_S_xAfter 5 = .ok (.iload_n 1, 1) := by decide +kernel
theorem d_S_xAfter_6 : decode b_S_xAfter 6 = .ok (.aload_n 0, 1) := by decide +kernel
theorem d_S_xAfter_7 : decode b_S_xAfter 7 = .ok (.getfield 16, 3) := by decide +kernel
theorem d_S_xAfter_10 : decode b_S_xAfter 10 = .ok (.invokevirtual 35, 3) := by decide +kernel
theorem d_S_xAfter_13 : decode b_S_xAfter 13 = .ok (.iadd, 1) := by decide +kernel
theorem d_S_xAfter_14 : decode b_S_xAfter 14 = .ok (.ireturn, 1) := by decide +kernel
theorem d_S_yAfter_0 : decode b_S_yAfter 0 = .ok (.aload_n 0, 1) := by decide +kernel
theorem d_S_yAfter_1 : decode b_S_yAfter 1 = .ok (.getfield 13, 3) := by decide +kernel
theorem d_S_yAfter_4 : decode b_S_yAfter 4 = .ok (.aload_n 0, 1) := by decide +kernel
theorem d_S_yAfter_5 : decode b_S_yAfter 5 = .ok (.iload_n 1, 1) := by decide +kernel
theorem d_S_yAfter_6 : decode b_S_yAfter 6 = .ok (.aload_n 0, 1) := by decide +kernel
theorem d_S_yAfter_7 : decode b_S_yAfter 7 = .ok (.getfield 19, 3) := by decide +kernel
theorem d_S_yAfter_10 : decode b_S_yAfter 10 = .ok (.invokevirtual 35, 3) := by decide +kernel
theorem d_S_yAfter_13 : decode b_S_yAfter 13 = .ok (.iadd, 1) := by decide +kernel
theorem d_S_yAfter_14 : decode b_S_yAfter 14 = .ok (.ireturn, 1) := by decide +kernel
theorem d_S_part_0 : decode b_S_part 0 = .ok (.aload_n 0, 1) := by decide +kernel
theorem d_S_part_1 : decode b_S_part 1 = .ok (.getfield 22, 3) := by decide +kernel
theorem d_S_part_4 : decode b_S_part 4 = .ok (.iconst 1, 1) := by decide +kernel
theorem d_S_part_5 : decode b_S_part 5 = .ok (.if_icmp .ge 7, 3) := by decide +kernel
theorem d_S_part_8 : decode b_S_part 8 = .ok (.iconst 0, 1) := by decide +kernel
theorem d_S_part_9 : decode b_S_part 9 = .ok (.goto 22, 3) := by decide +kernel
theorem d_S_part_12 : decode b_S_part 12 = .ok (.iconst 2, 1) := by decide +kernel
theorem d_S_part_13 : decode b_S_part 13 = .ok (.iload_n 1, 1) := by decide +kernel
theorem d_S_part_14 : decode b_S_part 14 = .ok (.imul, 1) := by decide +kernel
theorem d_S_part_15 : decode b_S_part 15 = .ok (.iload_n 2, 1) := by decide +kernel
theorem d_S_part_16 : decode b_S_part 16 = .ok (.imul, 1) := by decide +kernel
theorem d_S_part_17 : decode b_S_part 17 = .ok (.aload_n 0, 1) := by decide +kernel
theorem d_S_part_18 : decode b_S_part 18 = .ok (.getfield 22, 3) := by decide +kernel
theorem d_S_part_21 : decode b_S_part 21 = .ok (.iadd, 1) := by decide +kernel
theorem d_S_part_22 : decode b_S_part 22 = .ok (.iconst 2, 1) := by decide +kernel
theorem d_S_part_23 : decode b_S_part 23 = .ok (.aload_n 0, 1) := by decide +kernel
theorem d_S_part_24 : decode b_S_part 24 = .ok (.getfield 22, 3) := by decide +kernel
theorem d_S_part_27 : decode b_S_part 27 = .ok (.imul, 1) := by decide +kernel
theorem d_S_part_28 : decode b_S_part 28 = .ok (.invokestatic 38, 3) := by decide +kernel
theorem d_S_part_31 : decode b_S_part 31 = .ok (.ireturn, 1) := by decide +kernel
def wp_S_part (x1 x2 s_size : Int32) (Q : Int32 → Prop) : Prop := (((1 : Int32) ≤ s_size → (wp_Jm_floorDiv ((((2 : Int32) * x1) * x2) + s_size) ((2 : Int32) * s_size) (fun r28 => (Q r28)))) ∧ (¬ (1 : Int32) ≤ s_size → (Q (0 : Int32))))
abbrev rm_S_part : Room := { frames := 1, cells := 0, slots := 0, locals := 22 }
set_option maxRecDepth 100000 in
set_option maxHeartbeats 4000000 in
theorem c_S_part (l : Launch) {D : va_G} {X : xT} {a : Nat → Nat} {K : Nat → ClassId} {tl : va_W} {e0 e1 e2 e3 e4 e5 e6 : Nat × va_E} {x1 x2 s_startX s_startY s_dx s_dy s_size : Int32} {Q : Int32 → Prop} : MI l y_S_part b_S_part 3 rm_S_part D cls (tys K) X [.ref (a 7), .int x1, .int x2] (e0 :: e1 :: e2 :: e3 :: e4 :: e5 :: e6 :: (o_S a s_startX s_startY s_dx s_dy s_size) :: tl) (fun _ : Unit => e0 :: e1 :: e2 :: e3 :: e4 :: e5 :: e6 :: (o_S a s_startX s_startY s_dx s_dy s_size) :: tl) (wp_S_part x1 x2 s_size Q) (fun r _ => Q r) := by
  refine my_of_I (by decide +kernel) (Nat.le_of_ble_eq_true rfl) (fun p e s m args below meth c A QQ H locs ls hx hb hts hown hml hK hX hA hP hD hS hl hw hret => ?_)
  replace hl : lv_has ls 3 [(0, .ref (a 7)), (1, .int x1), (2, .int x2)] := hl
  unfold wp_S_part at hw
  refine lv_aload_n hx hb d_S_part_0 rfl (lv_at hl 0 rfl) ?_
  refine g_S_size hx hb hts hown hK hP 7 rfl rfl d_S_part_1 ?_
  refine lv_iconst (v := (1 : Int32)) hx hb d_S_part_4 (by decide) ?_
  refine lv_icmp_ge (tgt := 12) hx hb d_S_part_5 (by decide) (fun hc => ?_) (fun hc => ?_)
  · replace hw := hw.1 hc
    refine lv_iconst (v := (2 : Int32)) hx hb d_S_part_12 (by decide) ?_
    refine lv_iload_n hx hb d_S_part_13 rfl (lv_at hl 1 rfl) ?_
    refine lv_imul hx hb d_S_part_14 ?_
    refine lv_iload_n hx hb d_S_part_15 rfl (lv_at hl 2 rfl) ?_
    refine lv_imul hx hb d_S_part_16 ?_
    refine lv_aload_n hx hb d_S_part_17 rfl (lv_at hl 0 rfl) ?_
    refine g_S_size hx hb hts hown hK hP 7 rfl rfl d_S_part_18 ?_
    refine lv_iadd hx hb d_S_part_21 ?_
    refine lv_iconst (v := (2 : Int32)) hx hb d_S_part_22 (by decide) ?_
    refine lv_aload_n hx hb d_S_part_23 rfl (lv_at hl 0 rfl) ?_
    refine g_S_size hx hb hts hown hK hP 7 rfl rfl d_S_part_24 ?_
    refine lv_imul hx hb d_S_part_27 ?_
    refine my_calli (va_runS (As := [.int ((((2 : Int32) * x1) * x2) + s_size), .int ((2 : Int32) * s_size)]) (rest := []) ⟨hx, hb, hml, hown, hts⟩ (c_Jm_floorDiv l H.size) (cw_S_38 hts ⟨Nat.le_of_ble_eq_true rfl, Nat.le_of_ble_eq_true rfl⟩) (my_preS hK hP hX hD hS hA hw) rfl rfl hl.1 rfl (lv_room (Nat.le_of_ble_eq_true rfl)) d_S_part_28 ⟨Nat.le_refl _, Nat.le_refl _⟩) hD hS hA (fun r28 _ H locs hw hP hD hS => ?_)
    have hP : va_P D cls (e0 :: e1 :: e2 :: e3 :: e4 :: e5 :: e6 :: (o_S a s_startX s_startY s_dx s_dy s_size) :: tl) H := hP
    have hD : va_D A (e0 :: e1 :: e2 :: e3 :: e4 :: e5 :: e6 :: (o_S a s_startX s_startY s_dx s_dy s_size) :: tl) := hD
    exact hret H locs ls 31 (r28) (()) d_S_part_31 hP hD hS hw
  · replace hw := hw.2 hc
    refine lv_iconst (v := (0 : Int32)) hx hb d_S_part_8 (by decide) ?_
    refine lv_goto (tgt := 31) hx hb d_S_part_9 (by decide) ?_
    exact hret H locs ls 31 ((0 : Int32)) (()) d_S_part_31 hP hD hS hw
def wp_S_size (s_size : Int32) (Q : Int32 → Prop) : Prop := (Q s_size)
abbrev rm_S_size : Room := { frames := 0, cells := 0, slots := 0, locals := 0 }
set_option maxRecDepth 100000 in
set_option maxHeartbeats 4000000 in
theorem c_S_size (l : Launch) {D : va_G} {X : xT} {a : Nat → Nat} {K : Nat → ClassId} {tl : va_W} {e0 e1 e2 e3 e4 e5 e6 : Nat × va_E} {s_startX s_startY s_dx s_dy s_size : Int32} {Q : Int32 → Prop} : MI l y_S_size b_S_size 1 rm_S_size D cls (tys K) X [.ref (a 7)] (e0 :: e1 :: e2 :: e3 :: e4 :: e5 :: e6 :: (o_S a s_startX s_startY s_dx s_dy s_size) :: tl) (fun _ : Unit => e0 :: e1 :: e2 :: e3 :: e4 :: e5 :: e6 :: (o_S a s_startX s_startY s_dx s_dy s_size) :: tl) (wp_S_size s_size Q) (fun r _ => Q r) := by
  refine my_of_I (by decide +kernel) (Nat.le_of_ble_eq_true rfl) (fun p e s m args below meth c A QQ H locs ls hx hb hts hown hml hK hX hA hP hD hS hl hw hret => ?_)
  replace hl : lv_has ls 1 [(0, .ref (a 7))] := hl
  unfold wp_S_size at hw
  refine lv_aload_n hx hb d_S_size_0 rfl (lv_at hl 0 rfl) ?_
  refine g_S_size hx hb hts hown hK hP 7 rfl rfl d_S_size_1 ?_
  exact hret H locs ls 4 (s_size) (()) d_S_size_4 hP hD hS hw
def wp_S_xAfter (x1 s_startX s_dx s_size : Int32) (Q : Int32 → Prop) : Prop := (wp_S_part x1 s_dx s_size (fun r10 => (Q (s_startX + r10))))
abbrev rm_S_xAfter : Room := { frames := 2, cells := 0, slots := 0, locals := 44 }
set_option maxRecDepth 100000 in
set_option maxHeartbeats 4000000 in
theorem c_S_xAfter (l : Launch) {D : va_G} {X : xT} {a : Nat → Nat} {K : Nat → ClassId} {tl : va_W} {e0 e1 e2 e3 e4 e5 e6 : Nat × va_E} {x1 s_startX s_startY s_dx s_dy s_size : Int32} {Q : Int32 → Prop} : MI l y_S_xAfter b_S_xAfter 2 rm_S_xAfter D cls (tys K) X [.ref (a 7), .int x1] (e0 :: e1 :: e2 :: e3 :: e4 :: e5 :: e6 :: (o_S a s_startX s_startY s_dx s_dy s_size) :: tl) (fun _ : Unit => e0 :: e1 :: e2 :: e3 :: e4 :: e5 :: e6 :: (o_S a s_startX s_startY s_dx s_dy s_size) :: tl) (wp_S_xAfter x1 s_startX s_dx s_size Q) (fun r _ => Q r) := by
  refine my_of_I (by decide +kernel) (Nat.le_of_ble_eq_true rfl) (fun p e s m args below meth c A QQ H locs ls hx hb hts hown hml hK hX hA hP hD hS hl hw hret => ?_)
  replace hl : lv_has ls 2 [(0, .ref (a 7)), (1, .int x1)] := hl
  unfold wp_S_xAfter at hw
  refine lv_aload_n hx hb d_S_xAfter_0 rfl (lv_at hl 0 rfl) ?_
  refine g_S_startX hx hb hts hown hK hP 7 rfl rfl d_S_xAfter_1 ?_
  refine lv_aload_n hx hb d_S_xAfter_4 rfl (lv_at hl 0 rfl) ?_
  refine lv_iload_n hx hb d_S_xAfter_5 rfl (lv_at hl 1 rfl) ?_
  refine lv_aload_n hx hb d_S_xAfter_6 rfl (lv_at hl 0 rfl) ?_
  refine g_S_dx hx hb hts hown hK hP 7 rfl rfl d_S_xAfter_7 ?_
  refine my_calli (va_runV (As := [.int x1, .int s_dx]) (rest := [.int s_startX]) ⟨hx, hb, hml, hown, hts⟩ (c_S_part l H.size) (cw_S_35 hts ⟨Nat.le_of_ble_eq_true rfl, Nat.le_of_ble_eq_true rfl⟩) (my_preV hK hP hX hD hS hA 7 rfl rfl hw) rfl rfl hl.1 rfl (lv_room (Nat.le_of_ble_eq_true rfl)) d_S_xAfter_10 ⟨Nat.le_refl _, Nat.le_refl _⟩) hD hS hA (fun r10 _ H locs hw hP hD hS => ?_)
  have hP : va_P D cls (e0 :: e1 :: e2 :: e3 :: e4 :: e5 :: e6 :: (o_S a s_startX s_startY s_dx s_dy s_size) :: tl) H := hP
  have hD : va_D A (e0 :: e1 :: e2 :: e3 :: e4 :: e5 :: e6 :: (o_S a s_startX s_startY s_dx s_dy s_size) :: tl) := hD
  refine lv_iadd hx hb d_S_xAfter_13 ?_
  exact hret H locs ls 14 (s_startX + r10) (()) d_S_xAfter_14 hP hD hS hw
def wp_S_yAfter (x1 s_startY s_dy s_size : Int32) (Q : Int32 → Prop) : Prop := (wp_S_part x1 s_dy s_size (fun r10 => (Q (s_startY + r10))))
abbrev rm_S_yAfter : Room := { frames := 2, cells := 0, slots := 0, locals := 44 }
set_option maxRecDepth 100000 in
set_option maxHeartbeats 4000000 in
theorem c_S_yAfter (l : Launch) {D : va_G} {X : xT} {a : Nat → Nat} {K : Nat → ClassId} {tl : va_W} {e0 e1 e2 e3 e4 e5 e6 : Nat × va_E} {x1 s_startX s_startY s_dx s_dy s_size : Int32} {Q : Int32 → Prop} : MI l y_S_yAfter b_S_yAfter 2 rm_S_yAfter D cls (tys K) X [.ref (a 7), .int x1] (e0 :: e1 :: e2 :: e3 :: e4 :: e5 :: e6 :: (o_S a s_startX s_startY s_dx s_dy s_size) :: tl) (fun _ : Unit => e0 :: e1 :: e2 :: e3 :: e4 :: e5 :: e6 :: (o_S a s_startX s_startY s_dx s_dy s_size) :: tl) (wp_S_yAfter x1 s_startY s_dy s_size Q) (fun r _ => Q r) := by
  refine my_of_I (by decide +kernel) (Nat.le_of_ble_eq_true rfl) (fun p e s m args below meth c A QQ H locs ls hx hb hts hown hml hK hX hA hP hD hS hl hw hret => ?_)
  replace hl : lv_has ls 2 [(0, .ref (a 7)), (1, .int x1)] := hl
  unfold wp_S_yAfter at hw
  refine lv_aload_n hx hb d_S_yAfter_0 rfl (lv_at hl 0 rfl) ?_
  refine g_S_startY hx hb hts hown hK hP 7 rfl rfl d_S_yAfter_1 ?_
  refine lv_aload_n hx hb d_S_yAfter_4 rfl (lv_at hl 0 rfl) ?_
  refine lv_iload_n hx hb d_S_yAfter_5 rfl (lv_at hl 1 rfl) ?_
  refine lv_aload_n hx hb d_S_yAfter_6 rfl (lv_at hl 0 rfl) ?_
  refine g_S_dy hx hb hts hown hK hP 7 rfl rfl d_S_yAfter_7 ?_
  refine my_calli (va_runV (As := [.int x1, .int s_dy]) (rest := [.int s_startY]) ⟨hx, hb, hml, hown, hts⟩ (c_S_part l H.size) (cw_S_35 hts ⟨Nat.le_of_ble_eq_true rfl, Nat.le_of_ble_eq_true rfl⟩) (my_preV hK hP hX hD hS hA 7 rfl rfl hw) rfl rfl hl.1 rfl (lv_room (Nat.le_of_ble_eq_true rfl)) d_S_yAfter_10 ⟨Nat.le_refl _, Nat.le_refl _⟩) hD hS hA (fun r10 _ H locs hw hP hD hS => ?_)
  have hP : va_P D cls (e0 :: e1 :: e2 :: e3 :: e4 :: e5 :: e6 :: (o_S a s_startX s_startY s_dx s_dy s_size) :: tl) H := hP
  have hD : va_D A (e0 :: e1 :: e2 :: e3 :: e4 :: e5 :: e6 :: (o_S a s_startX s_startY s_dx s_dy s_size) :: tl) := hD
  refine lv_iadd hx hb d_S_yAfter_13 ?_
  exact hret H locs ls 14 (s_startY + r10) (()) d_S_yAfter_14 hP hD hS hw
def wp_S_lay (x1 x2 x3 x4 s_startX s_startY s_dx s_dy s_size : Int32) (Q : Int32 → Int32 → Int32 → Int32 → Int32 → Prop) : Prop := (wp_Jm_abs x3 (fun r23 => (wp_Jm_abs x4 (fun r28 => (wp_Jm_max r23 r28 (fun r31 => (Q x1 x2 x3 x4 r31)))))))
abbrev rm_S_lay : Room := { frames := 1, cells := 0, slots := 0, locals := 21 }
set_option maxRecDepth 100000 in
set_option maxHeartbeats 4000000 in
theorem c_S_lay (l : Launch) {D : va_G} {X : xT} {a : Nat → Nat} {K : Nat → ClassId} {tl : va_W} {e0 e1 e2 e3 e4 e5 e6 : Nat × va_E} {x1 x2 x3 x4 s_startX s_startY s_dx s_dy s_size : Int32} {Q : Int32 → Int32 → Int32 → Int32 → Int32 → Prop} : MV l y_S_lay b_S_lay 5 rm_S_lay D cls (tys K) X [.ref (a 7), .int x1, .int x2, .int x3, .int x4] (e0 :: e1 :: e2 :: e3 :: e4 :: e5 :: e6 :: (o_S a s_startX s_startY s_dx s_dy s_size) :: tl) (fun u : Int32 × Int32 × Int32 × Int32 × Int32 => e0 :: e1 :: e2 :: e3 :: e4 :: e5 :: e6 :: (o_S a u.1 u.2.1 u.2.2.1 u.2.2.2.1 u.2.2.2.2) :: tl) (wp_S_lay x1 x2 x3 x4 s_startX s_startY s_dx s_dy s_size Q) (fun u => Q u.1 u.2.1 u.2.2.1 u.2.2.2.1 u.2.2.2.2) := by
  refine my_of_V (by decide +kernel) (Nat.le_of_ble_eq_true rfl) (fun p e s m args below meth c A QQ H locs ls hx hb hts hown hml hK hX hA hP hD hS hl hw hret => ?_)
  replace hl : lv_has ls 5 [(0, .ref (a 7)), (1, .int x1), (2, .int x2), (3, .int x3), (4, .int x4)] := hl
  unfold wp_S_lay at hw
  refine lv_aload_n hx hb d_S_lay_0 rfl (lv_at hl 0 rfl) ?_
  refine lv_iload_n hx hb d_S_lay_1 rfl (lv_at hl 1 rfl) ?_
  refine u_S_startX hx hb hts hown hK hP hD hS 7 rfl rfl d_S_lay_2 (fun H locs hP hD hS => ?_)
  have hP : va_P D cls (e0 :: e1 :: e2 :: e3 :: e4 :: e5 :: e6 :: (o_S a x1 s_startY s_dx s_dy s_size) :: tl) H := hP
  have hD : va_D A (e0 :: e1 :: e2 :: e3 :: e4 :: e5 :: e6 :: (o_S a x1 s_startY s_dx s_dy s_size) :: tl) := hD
  refine lv_aload_n hx hb d_S_lay_5 rfl (lv_at hl 0 rfl) ?_
  refine lv_iload_n hx hb d_S_lay_6 rfl (lv_at hl 2 rfl) ?_
  refine u_S_startY hx hb hts hown hK hP hD hS 7 rfl rfl d_S_lay_7 (fun H locs hP hD hS => ?_)
  have hP : va_P D cls (e0 :: e1 :: e2 :: e3 :: e4 :: e5 :: e6 :: (o_S a x1 x2 s_dx s_dy s_size) :: tl) H := hP
  have hD : va_D A (e0 :: e1 :: e2 :: e3 :: e4 :: e5 :: e6 :: (o_S a x1 x2 s_dx s_dy s_size) :: tl) := hD
  refine lv_aload_n hx hb d_S_lay_10 rfl (lv_at hl 0 rfl) ?_
  refine lv_iload_n hx hb d_S_lay_11 rfl (lv_at hl 3 rfl) ?_
  refine u_S_dx hx hb hts hown hK hP hD hS 7 rfl rfl d_S_lay_12 (fun H locs hP hD hS => ?_)
  have hP : va_P D cls (e0 :: e1 :: e2 :: e3 :: e4 :: e5 :: e6 :: (o_S a x1 x2 x3 s_dy s_size) :: tl) H := hP
  have hD : va_D A (e0 :: e1 :: e2 :: e3 :: e4 :: e5 :: e6 :: (o_S a x1 x2 x3 s_dy s_size) :: tl) := hD
  refine lv_aload_n hx hb d_S_lay_15 rfl (lv_at hl 0 rfl) ?_
  refine lv_iload hx hb d_S_lay_16 (lv_at hl 4 rfl) ?_
  refine u_S_dy hx hb hts hown hK hP hD hS 7 rfl rfl d_S_lay_18 (fun H locs hP hD hS => ?_)
  have hP : va_P D cls (e0 :: e1 :: e2 :: e3 :: e4 :: e5 :: e6 :: (o_S a x1 x2 x3 x4 s_size) :: tl) H := hP
  have hD : va_D A (e0 :: e1 :: e2 :: e3 :: e4 :: e5 :: e6 :: (o_S a x1 x2 x3 x4 s_size) :: tl) := hD
  refine lv_aload_n hx hb d_S_lay_21 rfl (lv_at hl 0 rfl) ?_
  refine lv_iload_n hx hb d_S_lay_22 rfl (lv_at hl 3 rfl) ?_
  refine my_calli (va_runS (As := [.int x3]) (rest := [.ref (a 7)]) ⟨hx, hb, hml, hown, hts⟩ (c_Jm_abs l H.size) (cw_S_25 hts ⟨Nat.le_of_ble_eq_true rfl, Nat.le_of_ble_eq_true rfl⟩) (my_preS hK hP hX hD hS hA hw) rfl rfl hl.1 rfl (lv_room (Nat.le_of_ble_eq_true rfl)) d_S_lay_23 ⟨Nat.le_refl _, Nat.le_refl _⟩) hD hS hA (fun r23 _ H locs hw hP hD hS => ?_)
  have hP : va_P D cls (e0 :: e1 :: e2 :: e3 :: e4 :: e5 :: e6 :: (o_S a x1 x2 x3 x4 s_size) :: tl) H := hP
  have hD : va_D A (e0 :: e1 :: e2 :: e3 :: e4 :: e5 :: e6 :: (o_S a x1 x2 x3 x4 s_size) :: tl) := hD
  refine lv_iload hx hb d_S_lay_26 (lv_at hl 4 rfl) ?_
  refine my_calli (va_runS (As := [.int x4]) (rest := [.int r23, .ref (a 7)]) ⟨hx, hb, hml, hown, hts⟩ (c_Jm_abs l H.size) (cw_S_25 hts ⟨Nat.le_of_ble_eq_true rfl, Nat.le_of_ble_eq_true rfl⟩) (my_preS hK hP hX hD hS hA hw) rfl rfl hl.1 rfl (lv_room (Nat.le_of_ble_eq_true rfl)) d_S_lay_28 ⟨Nat.le_refl _, Nat.le_refl _⟩) hD hS hA (fun r28 _ H locs hw hP hD hS => ?_)
  have hP : va_P D cls (e0 :: e1 :: e2 :: e3 :: e4 :: e5 :: e6 :: (o_S a x1 x2 x3 x4 s_size) :: tl) H := hP
  have hD : va_D A (e0 :: e1 :: e2 :: e3 :: e4 :: e5 :: e6 :: (o_S a x1 x2 x3 x4 s_size) :: tl) := hD
  refine my_calli (va_runS (As := [.int r23, .int r28]) (rest := [.ref (a 7)]) ⟨hx, hb, hml, hown, hts⟩ (c_Jm_max l H.size) (cw_S_31 hts ⟨Nat.le_of_ble_eq_true rfl, Nat.le_of_ble_eq_true rfl⟩) (my_preS hK hP hX hD hS hA hw) rfl rfl hl.1 rfl (lv_room (Nat.le_of_ble_eq_true rfl)) d_S_lay_31 ⟨Nat.le_refl _, Nat.le_refl _⟩) hD hS hA (fun r31 _ H locs hw hP hD hS => ?_)
  have hP : va_P D cls (e0 :: e1 :: e2 :: e3 :: e4 :: e5 :: e6 :: (o_S a x1 x2 x3 x4 s_size) :: tl) H := hP
  have hD : va_D A (e0 :: e1 :: e2 :: e3 :: e4 :: e5 :: e6 :: (o_S a x1 x2 x3 x4 s_size) :: tl) := hD
  refine u_S_size hx hb hts hown hK hP hD hS 7 rfl rfl d_S_lay_34 (fun H locs hP hD hS => ?_)
  have hP : va_P D cls (e0 :: e1 :: e2 :: e3 :: e4 :: e5 :: e6 :: (o_S a x1 x2 x3 x4 r31) :: tl) H := hP
  have hD : va_D A (e0 :: e1 :: e2 :: e3 :: e4 :: e5 :: e6 :: (o_S a x1 x2 x3 x4 r31) :: tl) := hD
  exact hret H locs ls 37 ((x1, x2, x3, x4, r31)) d_S_lay_37 hP hD hS hw
