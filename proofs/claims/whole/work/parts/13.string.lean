theorem d_Js_indexOf_0 : decode b_Js_indexOf 0 = .ok (.aload_n 0, 1) := by decide +kernel
theorem d_Js_indexOf_1 : decode b_Js_indexOf 1 = .ok (.iload_n 1, 1) := by decide +kernel
theorem d_Js_indexOf_2 : decode b_Js_indexOf 2 = .ok (.iconst 0, 1) := by decide +kernel
theorem d_Js_indexOf_3 : decode b_Js_indexOf 3 = .ok (.invokevirtual 633, 3) := by decide +kernel
theorem d_Js_indexOf_6 : decode b_Js_indexOf 6 = .ok (.ireturn, 1) := by decide +kernel
theorem d_Js_indexOf2_0 : decode b_Js_indexOf2 0 = .ok (.aload_n 0, 1) := by decide +kernel
theorem d_Js_indexOf2_1 : decode b_Js_indexOf2 1 = .ok (.invokevirtual 492, 3) := by decide +kernel
theorem d_Js_indexOf2_4 : decode b_Js_indexOf2 4 = .ok (.ifCond .eq 19, 3) := by decide +kernel
theorem d_Js_indexOf2_7 : decode b_Js_indexOf2 7 = .ok (.aload_n 0, 1) := by decide +kernel
theorem d_Js_indexOf2_8 : decode b_Js_indexOf2 8 = .ok (.getfield 9, 3) := by decide +kernel
theorem d_Js_indexOf2_11 : decode b_Js_indexOf2 11 = .ok (.iload_n 1, 1) := by decide +kernel
theorem d_Js_indexOf2_12 : decode b_Js_indexOf2 12 = .ok (.iload_n 2, 1) := by decide +kernel
theorem d_Js_indexOf2_13 : decode b_Js_indexOf2 13 = .ok (.aload_n 0, 1) := by decide +kernel
theorem d_Js_indexOf2_14 : decode b_Js_indexOf2 14 = .ok (.invokevirtual 505, 3) := by decide +kernel
theorem d_Js_indexOf2_17 : decode b_Js_indexOf2 17 = .ok (.invokestatic 637, 3) := by decide +kernel
theorem d_Js_indexOf2_20 : decode b_Js_indexOf2 20 = .ok (.goto 16, 3) := by decide +kernel
theorem d_Js_indexOf2_23 : decode b_Js_indexOf2 23 = .ok (.aload_n 0, 1) := by decide +kernel
theorem d_Js_indexOf2_24 : decode b_Js_indexOf2 24 = .ok (.getfield 9, 3) := by decide +kernel
theorem d_Js_indexOf2_27 : decode b_Js_indexOf2 27 = .ok (.iload_n 1, 1) := by decide +kernel
theorem d_Js_indexOf2_28 : decode b_Js_indexOf2 28 = .ok (.iload_n 2, 1) := by decide +kernel
theorem d_Js_indexOf2_29 : decode b_Js_indexOf2 29 = .ok (.aload_n 0, 1) := by decide +kernel
theorem d_Js_indexOf2_30 : decode b_Js_indexOf2 30 = .ok (.invokevirtual 505, 3) := by decide +kernel
theorem d_Js_indexOf2_33 : decode b_Js_indexOf2 33 = .ok (.invokestatic 640, 3) := by decide +kernel
theorem d_Js_indexOf2_36 : decode b_Js_indexOf2 36 = .ok (.ireturn, 1) := by decide +kernel
theorem d_Js_isLatin1_0 : decode b_Js_isLatin1 0 = .ok (.getstatic 38, 3) := by decide +kernel
theorem d_Js_isLatin1_3 : decode b_Js_isLatin1 3 = .ok (.ifCond .eq 14, 3) := by decide +kernel
theorem d_Js_isLatin1_6 : decode b_Js_isLatin1 6 = .ok (.aload_n 0, 1) := by decide +kernel
theorem d_Js_isLatin1_7 : decode b_Js_isLatin1 7 = .ok (.getfield 15, 3) := by decide +kernel
theorem d_Js_isLatin1_10 : decode b_Js_isLatin1 10 = .ok (.ifCond .ne 7, 3) := by decide +kernel
theorem d_Js_isLatin1_13 : decode b_Js_isLatin1 13 = .ok (.iconst 1, 1) := by decide +kernel
theorem d_Js_isLatin1_14 : decode b_Js_isLatin1 14 = .ok (.goto 4, 3) := by decide +kernel
theorem d_Js_isLatin1_17 : decode b_Js_isLatin1 17 = .ok (.iconst 0, 1) := by decide +kernel
theorem d_Js_isLatin1_18 : decode b_Js_isLatin1 18 = .ok (.ireturn, 1) := by decide +kernel
theorem d_Js_length_0 : decode b_Js_length 0 = .ok (.aload_n 0, 1) := by decide +kernel
theorem d_Js_length_1 : decode b_Js_length 1 = .ok (.getfield 9, 3) := by decide +kernel
theorem d_Js_length_4 : decode b_Js_length 4 = .ok (.arraylength, 1) := by decide +kernel
theorem d_Js_length_5 : decode b_Js_length 5 = .ok (.aload_n 0, 1) := by decide +kernel
theorem d_Js_length_6 : decode b_Js_length 6 = .ok (.invokevirtual 335, 3) := by decide +kernel
theorem d_Js_length_9 : decode b_Js_length 9 = .ok (.ishr, 1) := by decide +kernel
theorem d_Js_length_10 : decode b_Js_length 10 = .ok (.ireturn, 1) := by decide +kernel
theorem d_Js_coder_0 : decode b_Js_coder 0 = .ok (.getstatic 38, 3) := by decide +kernel
theorem d_Js_coder_3 : decode b_Js_coder 3 = .ok (.ifCond .eq 10, 3) := by decide +kernel
theorem d_Js_coder_6 : decode b_Js_coder 6 = .ok (.aload_n 0, 1) := by decide +kernel
theorem d_Js_coder_7 : decode b_Js_coder 7 = .ok (.getfield 15, 3) := by decide +kernel
theorem d_Js_coder_10 : decode b_Js_coder 10 = .ok (.goto 4, 3) := by decide +kernel
theorem d_Js_coder_13 : decode b_Js_coder 13 = .ok (.iconst 1, 1) := by decide +kernel
theorem d_Js_coder_14 : decode b_Js_coder 14 = .ok (.ireturn, 1) := by decide +kernel
theorem d_Jl_indexOf_0 : decode b_Jl_indexOf 0 = .ok (.iload_n 1, 1) := by decide +kernel
theorem d_Jl_indexOf_1 : decode b_Jl_indexOf 1 = .ok (.invokestatic 88, 3) := by decide +kernel
theorem d_Jl_indexOf_4 : decode b_Jl_indexOf 4 = .ok (.ifCond .ne 5, 3) := by decide +kernel
theorem d_Jl_indexOf_7 : decode b_Jl_indexOf 7 = .ok (.iconst (-1), 1) := by decide +kernel
theorem d_Jl_indexOf_8 : decode b_Jl_indexOf 8 = .ok (.ireturn, 1) := by decide +kernel
theorem d_Jl_indexOf_9 : decode b_Jl_indexOf 9 = .ok (.iload_n 2, 1) := by decide +kernel
theorem d_Jl_indexOf_10 : decode b_Jl_indexOf 10 = .ok (.iconst 0, 1) := by decide +kernel
theorem d_Jl_indexOf_11 : decode b_Jl_indexOf 11 = .ok (.invokestatic 92, 3) := by decide +kernel
theorem d_Jl_indexOf_14 : decode b_Jl_indexOf 14 = .ok (.istore_n 2, 1) := by decide +kernel
theorem d_Jl_indexOf_15 : decode b_Jl_indexOf 15 = .ok (.iload_n 3, 1) := by decide +kernel
theorem d_Jl_indexOf_16 : decode b_Jl_indexOf 16 = .ok (.aload_n 0, 1) := by decide +kernel
theorem d_Jl_indexOf_17 : decode b_Jl_indexOf 17 = .ok (.arraylength, 1) := by decide +kernel
theorem d_Jl_indexOf_18 : decode b_Jl_indexOf 18 = .ok (.invokestatic 38, 3) := by decide +kernel
theorem d_Jl_indexOf_21 : decode b_Jl_indexOf 21 = .ok (.istore_n 3, 1) := by decide +kernel
theorem d_Jl_indexOf_22 : decode b_Jl_indexOf 22 = .ok (.iload_n 2, 1) := by decide +kernel
theorem d_Jl_indexOf_23 : decode b_Jl_indexOf 23 = .ok (.iload_n 3, 1) := by decide +kernel
theorem d_Jl_indexOf_24 : decode b_Jl_indexOf 24 = .ok (.if_icmp .lt 5, 3) := by decide +kernel
theorem d_Jl_indexOf_27 : decode b_Jl_indexOf 27 = .ok (.iconst (-1), 1) := by decide +kernel
theorem d_Jl_indexOf_28 : decode b_Jl_indexOf 28 = .ok (.ireturn, 1) := by decide +kernel
theorem d_Jl_indexOf_29 : decode b_Jl_indexOf 29 = .ok (.aload_n 0, 1) := by decide +kernel
theorem d_Jl_indexOf_30 : decode b_Jl_indexOf 30 = .ok (.iload_n 1, 1) := by decide +kernel
theorem d_Jl_indexOf_31 : decode b_Jl_indexOf 31 = .ok (.iload_n 2, 1) := by decide +kernel
theorem d_Jl_indexOf_32 : decode b_Jl_indexOf 32 = .ok (.iload_n 3, 1) := by decide +kernel
theorem d_Jl_indexOf_33 : decode b_Jl_indexOf 33 = .ok (.invokestatic 95, 3) := by decide +kernel
theorem d_Jl_indexOf_36 : decode b_Jl_indexOf 36 = .ok (.ireturn, 1) := by decide +kernel
theorem d_Jl_canEncode_0 : decode b_Jl_canEncode 0 = .ok (.iload_n 0, 1) := by decide +kernel
theorem d_Jl_canEncode_1 : decode b_Jl_canEncode 1 = .ok (.ifCond .lt 14, 3) := by decide +kernel
theorem d_Jl_canEncode_4 : decode b_Jl_canEncode 4 = .ok (.iload_n 0, 1) := by decide +kernel
theorem d_Jl_canEncode_5 : decode b_Jl_canEncode 5 = .ok (.sipush 255, 3) := by decide +kernel
theorem d_Jl_canEncode_8 : decode b_Jl_canEncode 8 = .ok (.if_icmp .gt 7, 3) := by decide +kernel
theorem d_Jl_canEncode_11 : decode b_Jl_canEncode 11 = .ok (.iconst 1, 1) := by decide +kernel
theorem d_Jl_canEncode_12 : decode b_Jl_canEncode 12 = .ok (.goto 4, 3) := by decide +kernel
theorem d_Jl_canEncode_15 : decode b_Jl_canEncode 15 = .ok (.iconst 0, 1) := by decide +kernel
theorem d_Jl_canEncode_16 : decode b_Jl_canEncode 16 = .ok (.ireturn, 1) := by decide +kernel
theorem d_Jl_indexOfChar_0 : decode b_Jl_indexOfChar 0 = .ok (.iload_n 1, 1) := by decide +kernel
theorem d_Jl_indexOfChar_1 : decode b_Jl_indexOfChar 1 = .ok (.i2b, 1) := by decide +kernel
theorem d_Jl_indexOfChar_2 : decode b_Jl_indexOfChar 2 = .ok (.istore 4, 2) := by decide +kernel
theorem d_Jl_indexOfChar_4 : decode b_Jl_indexOfChar 4 = .ok (.iload_n 2, 1) := by decide +kernel
theorem d_Jl_indexOfChar_5 : decode b_Jl_indexOfChar 5 = .ok (.istore 5, 2) := by decide +kernel
theorem d_Jl_indexOfChar_7 : decode b_Jl_indexOfChar 7 = .ok (.iload 5, 2) := by decide +kernel
theorem d_Jl_indexOfChar_9 : decode b_Jl_indexOfChar 9 = .ok (.iload_n 3, 1) := by decide +kernel
theorem d_Jl_indexOfChar_10 : decode b_Jl_indexOfChar 10 = .ok (.if_icmp .ge 21, 3) := by decide +kernel
theorem d_Jl_indexOfChar_13 : decode b_Jl_indexOfChar 13 = .ok (.aload_n 0, 1) := by decide +kernel
theorem d_Jl_indexOfChar_14 : decode b_Jl_indexOfChar 14 = .ok (.iload 5, 2) := by decide +kernel
theorem d_Jl_indexOfChar_16 : decode b_Jl_indexOfChar 16 = .ok (.baload, 1) := by decide +kernel
theorem d_Jl_indexOfChar_17 : decode b_Jl_indexOfChar 17 = .ok (.iload 4, 2) := by decide +kernel
theorem d_Jl_indexOfChar_19 : decode b_Jl_indexOfChar 19 = .ok (.if_icmp .ne 6, 3) := by decide +kernel
theorem d_Jl_indexOfChar_22 : decode b_Jl_indexOfChar 22 = .ok (.iload 5, 2) := by decide +kernel
theorem d_Jl_indexOfChar_24 : decode b_Jl_indexOfChar 24 = .ok (.ireturn, 1) := by decide +kernel
theorem d_Jl_indexOfChar_25 : decode b_Jl_indexOfChar 25 = .ok (.iinc 5 1, 3) := by decide +kernel
theorem d_Jl_indexOfChar_28 : decode b_Jl_indexOfChar 28 = .ok (.goto (-21), 3) := by decide +kernel
theorem d_Jl_indexOfChar_31 : decode b_Jl_indexOfChar 31 = .ok (.iconst (-1), 1) := by decide +kernel
theorem d_Jl_indexOfChar_32 : decode b_Jl_indexOfChar 32 = .ok (.ireturn, 1) := by decide +kernel
def wp_Jl_canEncode (x0 : Int32) (Q : Int32 → Prop) : Prop := ((x0 < 0 → (Q (0 : Int32))) ∧ (¬ x0 < 0 → (((255 : Int32) < x0 → (Q (0 : Int32))) ∧ (¬ (255 : Int32) < x0 → (Q (1 : Int32))))))
abbrev rm_Jl_canEncode : Room := { frames := 0, cells := 0, slots := 0, locals := 0 }
set_option maxRecDepth 100000 in
set_option maxHeartbeats 4000000 in
theorem c_Jl_canEncode (l : Launch) {D : va_G} {X : xT} {K : Nat → ClassId} {tl : va_W} {x0 : Int32} {Q : Int32 → Prop} : MZ l y_Jl_canEncode b_Jl_canEncode 1 rm_Jl_canEncode D cls (tys K) X [.int x0] (tl) (fun _ : Unit => tl) (wp_Jl_canEncode x0 Q) (fun r _ => Q r) := by
  refine my_of_Z (by decide +kernel) (Nat.le_of_ble_eq_true rfl) (fun p e s m args below meth c A QQ H locs ls hx hb hts hown hml hK hX hA hP hD hS hl hw hret => ?_)
  replace hl : lv_has ls 1 [(0, .int x0)] := hl
  unfold wp_Jl_canEncode at hw
  refine lv_iload_n hx hb d_Jl_canEncode_0 rfl (lv_at hl 0 rfl) ?_
  refine lv_if_lt (tgt := 15) hx hb d_Jl_canEncode_1 (by decide) (fun hc => ?_) (fun hc => ?_)
  · replace hw := hw.1 hc
    refine lv_iconst (v := (0 : Int32)) hx hb d_Jl_canEncode_15 (by decide) ?_
    exact hret H locs ls 16 ((0 : Int32)) (()) d_Jl_canEncode_16 (Or.inl rfl) hP hD hS hw
  · replace hw := hw.2 hc
    refine lv_iload_n hx hb d_Jl_canEncode_4 rfl (lv_at hl 0 rfl) ?_
    refine lv_sipush (v := (255 : Int32)) hx hb d_Jl_canEncode_5 (by decide) ?_
    refine lv_icmp_gt (tgt := 15) hx hb d_Jl_canEncode_8 (by decide) (fun hc => ?_) (fun hc => ?_)
    · replace hw := hw.1 hc
      refine lv_iconst (v := (0 : Int32)) hx hb d_Jl_canEncode_15 (by decide) ?_
      exact hret H locs ls 16 ((0 : Int32)) (()) d_Jl_canEncode_16 (Or.inl rfl) hP hD hS hw
    · replace hw := hw.2 hc
      refine lv_iconst (v := (1 : Int32)) hx hb d_Jl_canEncode_11 (by decide) ?_
      refine lv_goto (tgt := 16) hx hb d_Jl_canEncode_12 (by decide) ?_
      exact hret H locs ls 16 ((1 : Int32)) (()) d_Jl_canEncode_16 (Or.inr rfl) hP hD hS hw
def wq_Jl_indexOfChar_7 (Q : Int32 → Prop)  : Nat → Int32 → Int32 → Int32 → Prop
  | 0, _, _, _ => False
  | n7 + 1, x3, x4, x5 => ((x3 ≤ x5 → (Q (-1 : Int32))) ∧ (¬ x3 ≤ x5 → (vp_in x5 7 ∧ ((¬ (lts x5.toNatClampNeg) = x4 → (wq_Jl_indexOfChar_7 Q n7 x3 x4 (x5 + (1 : Int32)))) ∧ ((lts x5.toNatClampNeg) = x4 → (Q x5))))))
def wp_Jl_indexOfChar (x1 x2 x3 : Int32) (Q : Int32 → Prop) : Prop := (∃ n7 : Nat, wq_Jl_indexOfChar_7 Q n7 x3 x1.toInt8.toInt32 x2)
abbrev rm_Jl_indexOfChar : Room := { frames := 0, cells := 0, slots := 0, locals := 0 }
set_option maxRecDepth 100000 in
set_option maxHeartbeats 4000000 in
theorem c_Jl_indexOfChar (l : Launch) {D : va_G} {X : xT} {K : Nat → ClassId} {tl : va_W} {x1 x2 x3 : Int32} {Q : Int32 → Prop} : MI l y_Jl_indexOfChar b_Jl_indexOfChar 6 rm_Jl_indexOfChar D cls (tys K) X [.ref X.2.2, .int x1, .int x2, .int x3] (tl) (fun _ : Unit => tl) (wp_Jl_indexOfChar x1 x2 x3 Q) (fun r _ => Q r) := by
  refine my_of_I (by decide +kernel) (Nat.le_of_ble_eq_true rfl) (fun p e s m args below meth c A QQ H locs ls hx hb hts hown hml hK hX hA hP hD hS hl hw hret => ?_)
  replace hl : lv_has ls 6 [(0, .ref X.2.2), (1, .int x1), (2, .int x2), (3, .int x3)] := hl
  have J7 : ∀ (n7 : Nat) (H : Heap) (locs : List Loc) (ls : Array Slot) (x3 x4 x5 : Int32), va_P D cls (tl) H → va_D A (tl) → va_S A s.heap H locs → lv_has ls 6 [(0, .ref X.2.2), (3, .int x3), (4, .int x4), (5, .int x5)] → wq_Jl_indexOfChar_7 Q n7 x3 x4 x5 → W p l e rm_Jl_indexOfChar s m args below meth c H locs 0 0 QQ (F0 m 7 ls []) := by
    intro n7
    induction n7 with
    | zero => intro H locs ls x3 x4 x5 hP hD hS hl hw; exact False.elim hw
    | succ n7 ih =>
      intro H locs ls x3 x4 x5 hP hD hS hl hw
      unfold wq_Jl_indexOfChar_7 at hw
      refine lv_iload hx hb d_Jl_indexOfChar_7 (lv_at hl 3 rfl) ?_
      refine lv_iload_n hx hb d_Jl_indexOfChar_9 rfl (lv_at hl 1 rfl) ?_
      refine lv_icmp_ge (tgt := 31) hx hb d_Jl_indexOfChar_10 (by decide) (fun hc => ?_) (fun hc => ?_)
      · replace hw := hw.1 hc
        refine lv_iconst (v := (-1 : Int32)) hx hb d_Jl_indexOfChar_31 (by decide) ?_
        exact hret H locs ls 32 ((-1 : Int32)) (()) d_Jl_indexOfChar_32 hP hD hS hw
      · replace hw := hw.2 hc
        refine lv_aload_n hx hb d_Jl_indexOfChar_13 rfl (lv_at hl 0 rfl) ?_
        refine lv_iload hx hb d_Jl_indexOfChar_14 (lv_at hl 3 rfl) ?_
        refine va_tb (v := .int (lts x5.toNatClampNeg)) hx hb (hX.2.2.2.2.2.2.1.1 0 (by decide)).2.2.2 hS hw.1 rfl d_Jl_indexOfChar_16 ?_
        replace hw := hw.2
        refine lv_iload hx hb d_Jl_indexOfChar_17 (lv_at hl 2 rfl) ?_
        refine lv_icmp_ne (tgt := 25) hx hb d_Jl_indexOfChar_19 (by decide) (fun hc => ?_) (fun hc => ?_)
        · replace hw := hw.1 hc
          refine lv_iinc (k := 3) (v := x5 + (1 : Int32)) (lv' := [(5, .int (x5 + (1 : Int32))), (0, .ref X.2.2), (3, .int x3), (4, .int x4)]) hx hb d_Jl_indexOfChar_25 hl rfl (iinc_1 _) (Nat.le_of_ble_eq_true rfl) rfl (fun ls hl => ?_)
          refine lv_goto (tgt := 7) hx hb d_Jl_indexOfChar_28 (by decide) ?_
          exact ih H locs ls x3 x4 (x5 + (1 : Int32)) hP hD hS (lv_sub hl [1, 2, 3, 0] rfl) hw
        · replace hw := hw.2 hc
          refine lv_iload hx hb d_Jl_indexOfChar_22 (lv_at hl 3 rfl) ?_
          exact hret H locs ls 24 (x5) (()) d_Jl_indexOfChar_24 hP hD hS hw
  unfold wp_Jl_indexOfChar at hw
  refine lv_iload_n hx hb d_Jl_indexOfChar_0 rfl (lv_at hl 1 rfl) ?_
  refine lv_i2b (v := x1.toInt8.toInt32) hx hb d_Jl_indexOfChar_1 rfl ?_
  refine lv_istore (lv' := [(4, .int x1.toInt8.toInt32), (0, .ref X.2.2), (1, .int x1), (2, .int x2), (3, .int x3)]) hx hb d_Jl_indexOfChar_2 hl (Nat.le_of_ble_eq_true rfl) rfl (fun ls hl => ?_)
  refine lv_iload_n hx hb d_Jl_indexOfChar_4 rfl (lv_at hl 3 rfl) ?_
  refine lv_istore (lv' := [(5, .int x2), (4, .int x1.toInt8.toInt32), (0, .ref X.2.2), (1, .int x1), (2, .int x2), (3, .int x3)]) hx hb d_Jl_indexOfChar_5 hl (Nat.le_of_ble_eq_true rfl) rfl (fun ls hl => ?_)
  obtain ⟨n7, hw⟩ := hw
  exact J7 n7 H locs ls x3 x1.toInt8.toInt32 x2 hP hD hS (lv_sub hl [2, 5, 1, 0] rfl) hw
def wp_Jl_indexOf (x1 x2 x3 : Int32) (Q : Int32 → Prop) : Prop := (wp_Jl_canEncode x1 (fun r1 => ((¬ r1 = 0 → (wp_Jm_max x2 (0 : Int32) (fun r11 => (wp_Jm_min x3 (7 : Int32) (fun r18 => ((r11 < r18 → (wp_Jl_indexOfChar x1 r11 r18 (fun r33 => (Q r33)))) ∧ (¬ r11 < r18 → (Q (-1 : Int32))))))))) ∧ (r1 = 0 → (Q (-1 : Int32))))))
abbrev rm_Jl_indexOf : Room := { frames := 1, cells := 0, slots := 0, locals := 25 }
set_option maxRecDepth 100000 in
set_option maxHeartbeats 4000000 in
theorem c_Jl_indexOf (l : Launch) {D : va_G} {X : xT} {K : Nat → ClassId} {tl : va_W} {x1 x2 x3 : Int32} {Q : Int32 → Prop} : MI l y_Jl_indexOf b_Jl_indexOf 4 rm_Jl_indexOf D cls (tys K) X [.ref X.2.2, .int x1, .int x2, .int x3] (tl) (fun _ : Unit => tl) (wp_Jl_indexOf x1 x2 x3 Q) (fun r _ => Q r) := by
  refine my_of_I (by decide +kernel) (Nat.le_of_ble_eq_true rfl) (fun p e s m args below meth c A QQ H locs ls hx hb hts hown hml hK hX hA hP hD hS hl hw hret => ?_)
  replace hl : lv_has ls 4 [(0, .ref X.2.2), (1, .int x1), (2, .int x2), (3, .int x3)] := hl
  unfold wp_Jl_indexOf at hw
  refine lv_iload_n hx hb d_Jl_indexOf_0 rfl (lv_at hl 1 rfl) ?_
  refine my_calli (va_runS (As := [.int x1]) (rest := []) ⟨hx, hb, hml, hown, hts⟩ (c_Jl_canEncode l H.size) (cw_Jl_88 hts ⟨Nat.le_of_ble_eq_true rfl, Nat.le_of_ble_eq_true rfl⟩) (my_preS hK hP hX hD hS hA hw) rfl rfl hl.1 rfl (lv_room (Nat.le_of_ble_eq_true rfl)) d_Jl_indexOf_1 ⟨Nat.le_refl _, Nat.le_refl _⟩) hD hS hA (fun r1 _ H locs hw hP hD hS => ?_)
  have hP : va_P D cls (tl) H := hP
  have hD : va_D A (tl) := hD
  refine lv_if_ne (tgt := 9) hx hb d_Jl_indexOf_4 (by decide) (fun hc => ?_) (fun hc => ?_)
  · replace hw := hw.1 hc
    refine lv_iload_n hx hb d_Jl_indexOf_9 rfl (lv_at hl 2 rfl) ?_
    refine lv_iconst (v := (0 : Int32)) hx hb d_Jl_indexOf_10 (by decide) ?_
    refine my_calli (va_runS (As := [.int x2, .int (0 : Int32)]) (rest := []) ⟨hx, hb, hml, hown, hts⟩ (c_Jm_max l H.size) (cw_Jl_92 hts ⟨Nat.le_of_ble_eq_true rfl, Nat.le_of_ble_eq_true rfl⟩) (my_preS hK hP hX hD hS hA hw) rfl rfl hl.1 rfl (lv_room (Nat.le_of_ble_eq_true rfl)) d_Jl_indexOf_11 ⟨Nat.le_refl _, Nat.le_refl _⟩) hD hS hA (fun r11 _ H locs hw hP hD hS => ?_)
    have hP : va_P D cls (tl) H := hP
    have hD : va_D A (tl) := hD
    refine lv_istore_n (lv' := [(2, .int r11), (0, .ref X.2.2), (1, .int x1), (3, .int x3)]) hx hb d_Jl_indexOf_14 rfl hl (Nat.le_of_ble_eq_true rfl) rfl (fun ls hl => ?_)
    refine lv_iload_n hx hb d_Jl_indexOf_15 rfl (lv_at hl 3 rfl) ?_
    refine lv_aload_n hx hb d_Jl_indexOf_16 rfl (lv_at hl 1 rfl) ?_
    refine va_tlen (v := (7 : Int32)) hx hb (hX.2.2.2.2.2.2.1.1 0 (by decide)).2.2.2 hS (by rfl) d_Jl_indexOf_17 ?_
    refine my_calli (va_runS (As := [.int x3, .int (7 : Int32)]) (rest := []) ⟨hx, hb, hml, hown, hts⟩ (c_Jm_min l H.size) (cw_Jl_38 hts ⟨Nat.le_of_ble_eq_true rfl, Nat.le_of_ble_eq_true rfl⟩) (my_preS hK hP hX hD hS hA hw) rfl rfl hl.1 rfl (lv_room (Nat.le_of_ble_eq_true rfl)) d_Jl_indexOf_18 ⟨Nat.le_refl _, Nat.le_refl _⟩) hD hS hA (fun r18 _ H locs hw hP hD hS => ?_)
    have hP : va_P D cls (tl) H := hP
    have hD : va_D A (tl) := hD
    refine lv_istore_n (lv' := [(3, .int r18), (2, .int r11), (0, .ref X.2.2), (1, .int x1)]) hx hb d_Jl_indexOf_21 rfl hl (Nat.le_of_ble_eq_true rfl) rfl (fun ls hl => ?_)
    refine lv_iload_n hx hb d_Jl_indexOf_22 rfl (lv_at hl 1 rfl) ?_
    refine lv_iload_n hx hb d_Jl_indexOf_23 rfl (lv_at hl 0 rfl) ?_
    refine lv_icmp_lt (tgt := 29) hx hb d_Jl_indexOf_24 (by decide) (fun hc => ?_) (fun hc => ?_)
    · replace hw := hw.1 hc
      refine lv_aload_n hx hb d_Jl_indexOf_29 rfl (lv_at hl 2 rfl) ?_
      refine lv_iload_n hx hb d_Jl_indexOf_30 rfl (lv_at hl 3 rfl) ?_
      refine lv_iload_n hx hb d_Jl_indexOf_31 rfl (lv_at hl 1 rfl) ?_
      refine lv_iload_n hx hb d_Jl_indexOf_32 rfl (lv_at hl 0 rfl) ?_
      refine my_calli (va_runS (As := [.ref X.2.2, .int x1, .int r11, .int r18]) (rest := []) ⟨hx, hb, hml, hown, hts⟩ (c_Jl_indexOfChar l H.size) (cw_Jl_95 hts ⟨Nat.le_of_ble_eq_true rfl, Nat.le_of_ble_eq_true rfl⟩) (my_preS hK hP hX hD hS hA hw) rfl rfl hl.1 rfl (lv_room (Nat.le_of_ble_eq_true rfl)) d_Jl_indexOf_33 ⟨Nat.le_refl _, Nat.le_refl _⟩) hD hS hA (fun r33 _ H locs hw hP hD hS => ?_)
      have hP : va_P D cls (tl) H := hP
      have hD : va_D A (tl) := hD
      exact hret H locs ls 36 (r33) (()) d_Jl_indexOf_36 hP hD hS hw
    · replace hw := hw.2 hc
      refine lv_iconst (v := (-1 : Int32)) hx hb d_Jl_indexOf_27 (by decide) ?_
      exact hret H locs ls 28 ((-1 : Int32)) (()) d_Jl_indexOf_28 hP hD hS hw
  · replace hw := hw.2 hc
    refine lv_iconst (v := (-1 : Int32)) hx hb d_Jl_indexOf_7 (by decide) ?_
    exact hret H locs ls 8 ((-1 : Int32)) (()) d_Jl_indexOf_8 hP hD hS hw
def wp_Js_coder  (Q : Int32 → Prop) : Prop := (((1 : Int32) = 0 → (Q (1 : Int32))) ∧ (¬ (1 : Int32) = 0 → (Q (0 : Int32))))
abbrev rm_Js_coder : Room := { frames := 0, cells := 0, slots := 0, locals := 0 }
set_option maxRecDepth 100000 in
set_option maxHeartbeats 4000000 in
theorem c_Js_coder (l : Launch) {D : va_G} {X : xT} {K : Nat → ClassId} {tl : va_W}  {Q : Int32 → Prop} : MB l y_Js_coder b_Js_coder 1 rm_Js_coder D cls (tys K) X [.ref X.2.1] (tl) (fun _ : Unit => tl) (wp_Js_coder  Q) (fun r _ => Q r) := by
  refine my_of_B (by decide +kernel) (Nat.le_of_ble_eq_true rfl) (fun p e s m args below meth c A QQ H locs ls hx hb hts hown hml hK hX hA hP hD hS hl hw hret => ?_)
  replace hl : lv_has ls 1 [(0, .ref X.2.1)] := hl
  unfold wp_Js_coder at hw
  refine va_gets hx hb hX.2.2.2.2.2.2.2 hS hown (hts _ k_Js_38) (fun _ h => h) d_Js_coder_0 ?_
  refine lv_if_eq (tgt := 13) hx hb d_Js_coder_3 (by decide) (fun hc => ?_) (fun hc => ?_)
  · replace hw := hw.1 hc
    refine lv_iconst (v := (1 : Int32)) hx hb d_Js_coder_13 (by decide) ?_
    exact hret H locs ls 14 ((1 : Int32)) (()) d_Js_coder_14 (by unfold yZ; decide +kernel) hP hD hS hw
  · replace hw := hw.2 hc
    refine lv_aload_n hx hb d_Js_coder_6 rfl (lv_at hl 0 rfl) ?_
    refine vk_getf hx hb (hX.2.2.2.2.2.2.1.1 0 (by decide)).2.1 hS hown (hts _ k_Js_15) (fun _ h => h) d_Js_coder_7 ?_
    refine lv_goto (tgt := 14) hx hb d_Js_coder_10 (by decide) ?_
    exact hret H locs ls 14 ((0 : Int32)) (()) d_Js_coder_14 (by unfold yZ; decide +kernel) hP hD hS hw
def wp_Js_length  (Q : Int32 → Prop) : Prop := (wp_Js_coder  (fun r6 => (Q ((7 : Int32) >>> (r6 &&& 31)))))
abbrev rm_Js_length : Room := { frames := 1, cells := 0, slots := 0, locals := 20 }
set_option maxRecDepth 100000 in
set_option maxHeartbeats 4000000 in
theorem c_Js_length (l : Launch) {D : va_G} {X : xT} {K : Nat → ClassId} {tl : va_W}  {Q : Int32 → Prop} : MI l y_Js_length b_Js_length 1 rm_Js_length D cls (tys K) X [.ref X.2.1] (tl) (fun _ : Unit => tl) (wp_Js_length  Q) (fun r _ => Q r) := by
  refine my_of_I (by decide +kernel) (Nat.le_of_ble_eq_true rfl) (fun p e s m args below meth c A QQ H locs ls hx hb hts hown hml hK hX hA hP hD hS hl hw hret => ?_)
  replace hl : lv_has ls 1 [(0, .ref X.2.1)] := hl
  unfold wp_Js_length at hw
  refine lv_aload_n hx hb d_Js_length_0 rfl (lv_at hl 0 rfl) ?_
  refine vk_getf hx hb (hX.2.2.2.2.2.2.1.1 0 (by decide)).2.2.1 hS hown (hts _ k_Js_9) (fun _ h => h) d_Js_length_1 ?_
  refine va_tlen (v := (7 : Int32)) hx hb (hX.2.2.2.2.2.2.1.1 0 (by decide)).2.2.2 hS (by rfl) d_Js_length_4 ?_
  refine lv_aload_n hx hb d_Js_length_5 rfl (lv_at hl 0 rfl) ?_
  refine my_calli (va_runV (As := []) (rest := [.int (7 : Int32)]) ⟨hx, hb, hml, hown, hts⟩ (c_Js_coder l H.size) (cw_Js_335 hts ⟨Nat.le_of_ble_eq_true rfl, Nat.le_of_ble_eq_true rfl⟩) (my_preT hK hP hX hD hS hA hw) rfl rfl hl.1 rfl (lv_room (Nat.le_of_ble_eq_true rfl)) d_Js_length_6 ⟨Nat.le_refl _, Nat.le_refl _⟩) hD hS hA (fun r6 _ H locs hw hP hD hS => ?_)
  have hP : va_P D cls (tl) H := hP
  have hD : va_D A (tl) := hD
  refine lv_ishr hx hb d_Js_length_9 ?_
  exact hret H locs ls 10 ((7 : Int32) >>> (r6 &&& 31)) (()) d_Js_length_10 hP hD hS hw
def wp_Js_isLatin1  (Q : Int32 → Prop) : Prop := (((1 : Int32) = 0 → (Q (0 : Int32))) ∧ (¬ (1 : Int32) = 0 → ((¬ (0 : Int32) = 0 → (Q (0 : Int32))) ∧ ((0 : Int32) = 0 → (Q (1 : Int32))))))
abbrev rm_Js_isLatin1 : Room := { frames := 0, cells := 0, slots := 0, locals := 0 }
set_option maxRecDepth 100000 in
set_option maxHeartbeats 4000000 in
theorem c_Js_isLatin1 (l : Launch) {D : va_G} {X : xT} {K : Nat → ClassId} {tl : va_W}  {Q : Int32 → Prop} : MZ l y_Js_isLatin1 b_Js_isLatin1 1 rm_Js_isLatin1 D cls (tys K) X [.ref X.2.1] (tl) (fun _ : Unit => tl) (wp_Js_isLatin1  Q) (fun r _ => Q r) := by
  refine my_of_Z (by decide +kernel) (Nat.le_of_ble_eq_true rfl) (fun p e s m args below meth c A QQ H locs ls hx hb hts hown hml hK hX hA hP hD hS hl hw hret => ?_)
  replace hl : lv_has ls 1 [(0, .ref X.2.1)] := hl
  unfold wp_Js_isLatin1 at hw
  refine va_gets hx hb hX.2.2.2.2.2.2.2 hS hown (hts _ k_Js_38) (fun _ h => h) d_Js_isLatin1_0 ?_
  refine lv_if_eq (tgt := 17) hx hb d_Js_isLatin1_3 (by decide) (fun hc => ?_) (fun hc => ?_)
  · replace hw := hw.1 hc
    refine lv_iconst (v := (0 : Int32)) hx hb d_Js_isLatin1_17 (by decide) ?_
    exact hret H locs ls 18 ((0 : Int32)) (()) d_Js_isLatin1_18 (Or.inl rfl) hP hD hS hw
  · replace hw := hw.2 hc
    refine lv_aload_n hx hb d_Js_isLatin1_6 rfl (lv_at hl 0 rfl) ?_
    refine vk_getf hx hb (hX.2.2.2.2.2.2.1.1 0 (by decide)).2.1 hS hown (hts _ k_Js_15) (fun _ h => h) d_Js_isLatin1_7 ?_
    refine lv_if_ne (tgt := 17) hx hb d_Js_isLatin1_10 (by decide) (fun hc => ?_) (fun hc => ?_)
    · replace hw := hw.1 hc
      refine lv_iconst (v := (0 : Int32)) hx hb d_Js_isLatin1_17 (by decide) ?_
      exact hret H locs ls 18 ((0 : Int32)) (()) d_Js_isLatin1_18 (Or.inl rfl) hP hD hS hw
    · replace hw := hw.2 hc
      refine lv_iconst (v := (1 : Int32)) hx hb d_Js_isLatin1_13 (by decide) ?_
      refine lv_goto (tgt := 18) hx hb d_Js_isLatin1_14 (by decide) ?_
      exact hret H locs ls 18 ((1 : Int32)) (()) d_Js_isLatin1_18 (Or.inr rfl) hP hD hS hw
def wp_Js_indexOf2 (x1 x2 : Int32) (Q : Int32 → Prop) : Prop := (wp_Js_isLatin1  (fun r1 => ((r1 = 0 → (wp_Js_length  (fun r30 => False))) ∧ (¬ r1 = 0 → (wp_Js_length  (fun r14 => (wp_Jl_indexOf x1 x2 r14 (fun r17 => (Q r17)))))))))
abbrev rm_Js_indexOf2 : Room := { frames := 2, cells := 0, slots := 0, locals := 48 }
set_option maxRecDepth 100000 in
set_option maxHeartbeats 4000000 in
theorem c_Js_indexOf2 (l : Launch) {D : va_G} {X : xT} {K : Nat → ClassId} {tl : va_W} {x1 x2 : Int32} {Q : Int32 → Prop} : MI l y_Js_indexOf2 b_Js_indexOf2 3 rm_Js_indexOf2 D cls (tys K) X [.ref X.2.1, .int x1, .int x2] (tl) (fun _ : Unit => tl) (wp_Js_indexOf2 x1 x2 Q) (fun r _ => Q r) := by
  refine my_of_I (by decide +kernel) (Nat.le_of_ble_eq_true rfl) (fun p e s m args below meth c A QQ H locs ls hx hb hts hown hml hK hX hA hP hD hS hl hw hret => ?_)
  replace hl : lv_has ls 3 [(0, .ref X.2.1), (1, .int x1), (2, .int x2)] := hl
  unfold wp_Js_indexOf2 at hw
  refine lv_aload_n hx hb d_Js_indexOf2_0 rfl (lv_at hl 0 rfl) ?_
  refine my_calli (va_runV (As := []) (rest := []) ⟨hx, hb, hml, hown, hts⟩ (c_Js_isLatin1 l H.size) (cw_Js_492 hts ⟨Nat.le_of_ble_eq_true rfl, Nat.le_of_ble_eq_true rfl⟩) (my_preT hK hP hX hD hS hA hw) rfl rfl hl.1 rfl (lv_room (Nat.le_of_ble_eq_true rfl)) d_Js_indexOf2_1 ⟨Nat.le_refl _, Nat.le_refl _⟩) hD hS hA (fun r1 _ H locs hw hP hD hS => ?_)
  have hP : va_P D cls (tl) H := hP
  have hD : va_D A (tl) := hD
  refine lv_if_eq (tgt := 23) hx hb d_Js_indexOf2_4 (by decide) (fun hc => ?_) (fun hc => ?_)
  · replace hw := hw.1 hc
    refine lv_aload_n hx hb d_Js_indexOf2_23 rfl (lv_at hl 0 rfl) ?_
    refine vk_getf hx hb (hX.2.2.2.2.2.2.1.1 0 (by decide)).2.2.1 hS hown (hts _ k_Js_9) (fun _ h => h) d_Js_indexOf2_24 ?_
    refine lv_iload_n hx hb d_Js_indexOf2_27 rfl (lv_at hl 1 rfl) ?_
    refine lv_iload_n hx hb d_Js_indexOf2_28 rfl (lv_at hl 2 rfl) ?_
    refine lv_aload_n hx hb d_Js_indexOf2_29 rfl (lv_at hl 0 rfl) ?_
    refine my_calli (va_runV (As := []) (rest := [.int x2, .int x1, .ref X.2.2]) ⟨hx, hb, hml, hown, hts⟩ (c_Js_length l H.size) (cw_Js_505 hts ⟨Nat.le_of_ble_eq_true rfl, Nat.le_of_ble_eq_true rfl⟩) (my_preT hK hP hX hD hS hA hw) rfl rfl hl.1 rfl (lv_room (Nat.le_of_ble_eq_true rfl)) d_Js_indexOf2_30 ⟨Nat.le_refl _, Nat.le_refl _⟩) hD hS hA (fun r30 _ H locs hw hP hD hS => ?_)
    have hP : va_P D cls (tl) H := hP
    have hD : va_D A (tl) := hD
    exact False.elim hw
  · replace hw := hw.2 hc
    refine lv_aload_n hx hb d_Js_indexOf2_7 rfl (lv_at hl 0 rfl) ?_
    refine vk_getf hx hb (hX.2.2.2.2.2.2.1.1 0 (by decide)).2.2.1 hS hown (hts _ k_Js_9) (fun _ h => h) d_Js_indexOf2_8 ?_
    refine lv_iload_n hx hb d_Js_indexOf2_11 rfl (lv_at hl 1 rfl) ?_
    refine lv_iload_n hx hb d_Js_indexOf2_12 rfl (lv_at hl 2 rfl) ?_
    refine lv_aload_n hx hb d_Js_indexOf2_13 rfl (lv_at hl 0 rfl) ?_
    refine my_calli (va_runV (As := []) (rest := [.int x2, .int x1, .ref X.2.2]) ⟨hx, hb, hml, hown, hts⟩ (c_Js_length l H.size) (cw_Js_505 hts ⟨Nat.le_of_ble_eq_true rfl, Nat.le_of_ble_eq_true rfl⟩) (my_preT hK hP hX hD hS hA hw) rfl rfl hl.1 rfl (lv_room (Nat.le_of_ble_eq_true rfl)) d_Js_indexOf2_14 ⟨Nat.le_refl _, Nat.le_refl _⟩) hD hS hA (fun r14 _ H locs hw hP hD hS => ?_)
    have hP : va_P D cls (tl) H := hP
    have hD : va_D A (tl) := hD
    refine my_calli (va_runS (As := [.ref X.2.2, .int x1, .int x2, .int r14]) (rest := []) ⟨hx, hb, hml, hown, hts⟩ (c_Jl_indexOf l H.size) (cw_Js_637 hts ⟨Nat.le_of_ble_eq_true rfl, Nat.le_of_ble_eq_true rfl⟩) (my_preS hK hP hX hD hS hA hw) rfl rfl hl.1 rfl (lv_room (Nat.le_of_ble_eq_true rfl)) d_Js_indexOf2_17 ⟨Nat.le_refl _, Nat.le_refl _⟩) hD hS hA (fun r17 _ H locs hw hP hD hS => ?_)
    have hP : va_P D cls (tl) H := hP
    have hD : va_D A (tl) := hD
    refine lv_goto (tgt := 36) hx hb d_Js_indexOf2_20 (by decide) ?_
    exact hret H locs ls 36 (r17) (()) d_Js_indexOf2_36 hP hD hS hw
def wp_Js_indexOf (x1 : Int32) (Q : Int32 → Prop) : Prop := (wp_Js_indexOf2 x1 (0 : Int32) (fun r3 => (Q r3)))
abbrev rm_Js_indexOf : Room := { frames := 3, cells := 0, slots := 0, locals := 70 }
set_option maxRecDepth 100000 in
set_option maxHeartbeats 4000000 in
theorem c_Js_indexOf (l : Launch) {D : va_G} {X : xT} {K : Nat → ClassId} {tl : va_W} {x1 : Int32} {Q : Int32 → Prop} : MI l y_Js_indexOf b_Js_indexOf 2 rm_Js_indexOf D cls (tys K) X [.ref X.2.1, .int x1] (tl) (fun _ : Unit => tl) (wp_Js_indexOf x1 Q) (fun r _ => Q r) := by
  refine my_of_I (by decide +kernel) (Nat.le_of_ble_eq_true rfl) (fun p e s m args below meth c A QQ H locs ls hx hb hts hown hml hK hX hA hP hD hS hl hw hret => ?_)
  replace hl : lv_has ls 2 [(0, .ref X.2.1), (1, .int x1)] := hl
  unfold wp_Js_indexOf at hw
  refine lv_aload_n hx hb d_Js_indexOf_0 rfl (lv_at hl 0 rfl) ?_
  refine lv_iload_n hx hb d_Js_indexOf_1 rfl (lv_at hl 1 rfl) ?_
  refine lv_iconst (v := (0 : Int32)) hx hb d_Js_indexOf_2 (by decide) ?_
  refine my_calli (va_runV (As := [.int x1, .int (0 : Int32)]) (rest := []) ⟨hx, hb, hml, hown, hts⟩ (c_Js_indexOf2 l H.size) (cw_Js_633 hts ⟨Nat.le_of_ble_eq_true rfl, Nat.le_of_ble_eq_true rfl⟩) (my_preT hK hP hX hD hS hA hw) rfl rfl hl.1 rfl (lv_room (Nat.le_of_ble_eq_true rfl)) d_Js_indexOf_3 ⟨Nat.le_refl _, Nat.le_refl _⟩) hD hS hA (fun r3 _ H locs hw hP hD hS => ?_)
  have hP : va_P D cls (tl) H := hP
  have hD : va_D A (tl) := hD
  exact hret H locs ls 6 (r3) (()) d_Js_indexOf_6 hP hD hS hw
