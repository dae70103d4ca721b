theorem d_T_init_0 : decode b_T_init 0 = .ok (.aload_n 0, 1) := by decide +kernel
theorem d_T_init_1 : decode b_T_init 1 = .ok (.invokespecial 3, 3) := by decide +kernel
theorem d_T_init_4 : decode b_T_init 4 = .ok (.aload_n 0, 1) := by decide +kernel
theorem d_T_init_5 : decode b_T_init 5 = .ok (.sipush 400, 3) := by decide +kernel
theorem d_T_init_8 : decode b_T_init 8 = .ok (.newarray .char, 2) := by decide +kernel
theorem d_T_init_10 : decode b_T_init 10 = .ok (.putfield 9, 3) := by decide +kernel
theorem d_T_init_13 : decode b_T_init 13 = .ok (.aload_n 0, 1) := by decide +kernel
theorem d_T_init_14 : decode b_T_init 14 = .ok (.iconst 0, 1) := by decide +kernel
theorem d_T_init_15 : decode b_T_init 15 = .ok (.putfield 15, 3) := by decide +kernel
theorem d_T_init_18 : decode b_T_init 18 = .ok (.return_, 1) := by decide +kernel
theorem d_T_size_0 : decode b_T_size 0 = .ok (.aload_n 0, 1) := by decide +kernel
theorem d_T_size_1 : decode b_T_size 1 = .ok (.getfield 15, 3) := by decide +kernel
theorem d_T_size_4 : decode b_T_size 4 = .ok (.ireturn, 1) := by decide +kernel
theorem d_T_empty_0 : decode b_T_empty 0 = .ok (.aload_n 0, 1) := by decide +kernel
theorem d_T_empty_1 : decode b_T_empty 1 = .ok (.iconst 0, 1) := by decide +kernel
theorem d_T_empty_2 : decode b_T_empty 2 = .ok (.putfield 15, 3) := by decide +kernel
theorem d_T_empty_5 : decode b_T_empty 5 = .ok (.return_, 1) := by decide +kernel
theorem d_T_append_0 : decode b_T_append 0 = .ok (.iconst 0, 1) := by decide +kernel
theorem d_T_append_1 : decode b_T_append 1 = .ok (.istore_n 2, 1) := by decide +kernel
theorem d_T_append_2 : decode b_T_append 2 = .ok (.iload_n 2, 1) := by decide +kernel
theorem d_T_append_3 : decode b_T_append 3 = .ok (.iconst 4, 1) := by decide +kernel
theorem d_T_append_4 : decode b_T_append 4 = .ok (.if_icmp .ge 17, 3) := by decide +kernel
theorem d_T_append_7 : decode b_T_append 7 = .ok (.iload_n 1, 1) := by decide +kernel
theorem d_T_append_8 : decode b_T_append 8 = .ok (.iload_n 2, 1) := by decide +kernel
theorem d_T_append_9 : decode b_T_append 9 = .ok (.invokestatic 19, 3) := by decide +kernel
theorem d_T_append_12 : decode b_T_append 12 = .ok (.ifCond .eq 9, 3) := by decide +kernel
theorem d_T_append_15 : decode b_T_append 15 = .ok (.iinc 2 1, 3) := by decide +kernel
theorem d_T_append_18 : decode b_T_append 18 = .ok (.goto (-16), 3) := by decide +kernel
theorem d_T_append_21 : decode b_T_append 21 = .ok (.aload_n 0, 1) := by decide +kernel
theorem d_T_append_22 : decode b_T_append 22 = .ok (.getfield 15, 3) := by decide +kernel
theorem d_T_append_25 : decode b_T_append 25 = .ok (.iload_n 2, 1) := by decide +kernel
theorem d_T_append_26 : decode b_T_append 26 = .ok (.iadd, 1) := by decide +kernel
theorem d_T_append_27 : decode b_T_append 27 = .ok (.sipush 400, 3) := by decide +kernel
theorem d_T_append_30 : decode b_T_append 30 = .ok (.if_icmp .le 5, 3) := by decide +kernel
theorem d_T_append_33 : decode b_T_append 33 = .ok (.iconst (-1), 1) := by decide +kernel
theorem d_T_append_34 : decode b_T_append 34 = .ok (.ireturn, 1) := by decide +kernel
theorem d_T_append_35 : decode b_T_append 35 = .ok (.iconst 0, 1) := by decide +kernel
theorem d_T_append_36 : decode b_T_append 36 = .ok (.istore_n 3, 1) := by decide +kernel
theorem d_T_append_37 : decode b_T_append 37 = .ok (.iload_n 3, 1) := by decide +kernel
theorem d_T_append_38 : decode b_T_append 38 = .ok (.iload_n 2, 1) := by decide +kernel
theorem d_T_append_39 : decode b_T_append 39 = .ok (.if_icmp .ge 26, 3) := by decide +kernel
theorem d_T_append_42 : decode b_T_append 42 = .ok (.aload_n 0, 1) := by decide +kernel
theorem d_T_append_43 : decode b_T_append 43 = .ok (.getfield 9, 3) := by decide +kernel
theorem d_T_append_46 : decode b_T_append 46 = .ok (.aload_n 0, 1) := by decide +kernel
theorem d_T_append_47 : decode b_T_append 47 = .ok (.getfield 15, 3) := by decide +kernel
theorem d_T_append_50 : decode b_T_append 50 = .ok (.iload_n 3, 1) := by decide +kernel
theorem d_T_append_51 : decode b_T_append 51 = .ok (.iadd, 1) := by decide +kernel
theorem d_T_append_52 : decode b_T_append 52 = .ok (.iload_n 1, 1) := by decide +kernel
theorem d_T_append_53 : decode b_T_append 53 = .ok (.iload_n 3, 1) := by decide +kernel
theorem d_T_append_54 : decode b_T_append 54 = .ok (.invokestatic 19, 3) := by decide +kernel
theorem d_T_append_57 : decode b_T_append 57 = .ok (.i2c, 1) := by decide +kernel
theorem d_T_append_58 : decode b_T_append 58 = .ok (.castore, 1) := by decide +kernel
theorem d_T_append_59 : decode b_T_append 59 = .ok (.iinc 3 1, 3) := by decide +kernel
theorem d_T_append_62 : decode b_T_append 62 = .ok (.goto (-25), 3) := by decide +kernel
theorem d_T_append_65 : decode b_T_append 65 = .ok (.aload_n 0, 1) := by decide +kernel
theorem d_T_append_66 : decode b_T_append 66 = .ok (.dup, 1) := by decide +kernel
theorem d_T_append_67 : decode b_T_append 67 = .ok (.getfield 15, 3) := by decide +kernel
theorem d_T_append_70 : decode b_T_append 70 = .ok (.iload_n 2, 1) := by decide +kernel
theorem d_T_append_71 : decode b_T_append 71 = .ok (.iadd, 1) := by decide +kernel
theorem d_T_append_72 : decode b_T_append 72 = .ok (.putfield 15, 3) := by decide +kernel
theorem d_T_append_75 : decode b_T_append 75 = .ok (.iload_n 2, 1) := by decide +kernel
theorem d_T_append_76 : decode b_T_append 76 = .ok (.ireturn, 1) := by decide +kernel
theorem d_T_codeAt_0 : decode b_T_codeAt 0 = .ok (.iload_n 1, 1) := by decide +kernel
theorem d_T_codeAt_1 : decode b_T_codeAt 1 = .ok (.ifCond .lt 20, 3) := by decide +kernel
theorem d_T_codeAt_4 : decode b_T_codeAt 4 = .ok (.iload_n 1, 1) := by decide +kernel
theorem d_T_codeAt_5 : decode b_T_codeAt 5 = .ok (.aload_n 0, 1) := by decide +kernel
theorem d_T_codeAt_6 : decode b_T_codeAt 6 = .ok (.getfield 15, 3) := by decide +kernel
theorem d_T_codeAt_9 : decode b_T_codeAt 9 = .ok (.if_icmp .ge 12, 3) := by decide +kernel
theorem d_T_codeAt_12 : decode b_T_codeAt 12 = .ok (.aload_n 0, 1) := by decide +kernel
theorem d_T_codeAt_13 : decode b_T_codeAt 13 = .ok (.getfield 9, 3) := by decide +kernel
theorem d_T_codeAt_16 : decode b_T_codeAt 16 = .ok (.iload_n 1, 1) := by decide +kernel
theorem d_T_codeAt_17 : decode b_T_codeAt 17 = .ok (.caload, 1) := by decide +kernel
theorem d_T_codeAt_18 : decode b_T_codeAt 18 = .ok (.goto 4, 3) := by decide +kernel
theorem d_T_codeAt_21 : decode b_T_codeAt 21 = .ok (.iconst 0, 1) := by decide +kernel
theorem d_T_codeAt_22 : decode b_T_codeAt 22 = .ok (.ireturn, 1) := by decide +kernel
theorem d_T_lineEnd_0 : decode b_T_lineEnd 0 = .ok (.iload_n 1, 1) := by decide +kernel
theorem d_T_lineEnd_1 : decode b_T_lineEnd 1 = .ok (.istore_n 2, 1) := by decide +kernel
theorem d_T_lineEnd_2 : decode b_T_lineEnd 2 = .ok (.iload_n 2, 1) := by decide +kernel
theorem d_T_lineEnd_3 : decode b_T_lineEnd 3 = .ok (.aload_n 0, 1) := by decide +kernel
theorem d_T_lineEnd_4 : decode b_T_lineEnd 4 = .ok (.getfield 15, 3) := by decide +kernel
theorem d_T_lineEnd_7 : decode b_T_lineEnd 7 = .ok (.if_icmp .ge 19, 3) := by decide +kernel
theorem d_T_lineEnd_10 : decode b_T_lineEnd 10 = .ok (.aload_n 0, 1) := by decide +kernel
theorem d_T_lineEnd_11 : decode b_T_lineEnd 11 = .ok (.iload_n 2, 1) := by decide +kernel
theorem d_T_lineEnd_12 : decode b_T_lineEnd 12 = .ok (.invokevirtual 23, 3) := by decide +kernel
theorem d_T_lineEnd_15 : decode b_T_lineEnd 15 = .ok (.bipush 10, 2) := by decide +kernel
theorem d_T_lineEnd_17 : decode b_T_lineEnd 17 = .ok (.if_icmp .eq 9, 3) := by decide +kernel
theorem d_T_lineEnd_20 : decode b_T_lineEnd 20 = .ok (.iinc 2 1, 3) := by decide +kernel
theorem d_T_lineEnd_23 : decode b_T_lineEnd 23 = .ok (.goto (-21), 3) := by decide +kernel
theorem d_T_lineEnd_26 : decode b_T_lineEnd 26 = .ok (.iload_n 2, 1) := by decide +kernel
theorem d_T_lineEnd_27 : decode b_T_lineEnd 27 = .ok (.ireturn, 1) := by decide +kernel
theorem d_T_packedCode_0 : decode b_T_packedCode 0 = .ok (.iload_n 0, 1) := by decide +kernel
theorem d_T_packedCode_1 : decode b_T_packedCode 1 = .ok (.bipush 8, 2) := by decide +kernel
theorem d_T_packedCode_3 : decode b_T_packedCode 3 = .ok (.iload_n 1, 1) := by decide +kernel
theorem d_T_packedCode_4 : decode b_T_packedCode 4 = .ok (.imul, 1) := by decide +kernel
theorem d_T_packedCode_5 : decode b_T_packedCode 5 = .ok (.ishr, 1) := by decide +kernel
theorem d_T_packedCode_6 : decode b_T_packedCode 6 = .ok (.sipush 255, 3) := by decide +kernel
theorem d_T_packedCode_9 : decode b_T_packedCode 9 = .ok (.iand, 1) := by decide +kernel
theorem d_T_packedCode_10 : decode b_T_packedCode 10 = .ok (.ireturn, 1) := by decide +kernel
def wp_T_packedCode (x0 x1 : Int32) (Q : Int32 → Prop) : Prop := (Q ((x0 >>> (((8 : Int32) * x1) &&& 31)) &&& (255 : Int32)))
abbrev rm_T_packedCode : Room := { frames := 0, cells := 0, slots := 0, locals := 0 }
set_option maxRecDepth 100000 in
set_option maxHeartbeats 4000000 in
theorem c_T_packedCode (l : Launch) {D : va_G} {X : xT} {K : Nat → ClassId} {tl : va_W} {x0 x1 : Int32} {Q : Int32 → Prop} : MI l y_T_packedCode b_T_packedCode 2 rm_T_packedCode D cls (tys K) X [.int x0, .int x1] (tl) (fun _ : Unit => tl) (wp_T_packedCode x0 x1 Q) (fun r _ => Q r) := by
  refine my_of_I (by decide +kernel) (Nat.le_of_ble_eq_true rfl) (fun p e s m args below meth c A QQ H locs ls hx hb hts hown hml hK hX hA hP hD hS hl hw hret => ?_)
  replace hl : lv_has ls 2 [(0, .int x0), (1, .int x1)] := hl
  unfold wp_T_packedCode at hw
  refine lv_iload_n hx hb d_T_packedCode_0 rfl (lv_at hl 0 rfl) ?_
  refine lv_bipush (v := (8 : Int32)) hx hb d_T_packedCode_1 (by decide) ?_
  refine lv_iload_n hx hb d_T_packedCode_3 rfl (lv_at hl 1 rfl) ?_
  refine lv_imul hx hb d_T_packedCode_4 ?_
  refine lv_ishr hx hb d_T_packedCode_5 ?_
  refine lv_sipush (v := (255 : Int32)) hx hb d_T_packedCode_6 (by decide) ?_
  refine lv_iand hx hb d_T_packedCode_9 ?_
  exact hret H locs ls 10 ((x0 >>> (((8 : Int32) * x1) &&& 31)) &&& (255 : Int32)) (()) d_T_packedCode_10 hP hD hS hw
def wp_T_size (t_size : Int32) (Q : Int32 → Prop) : Prop := (Q t_size)
abbrev rm_T_size : Room := { frames := 0, cells := 0, slots := 0, locals := 0 }
set_option maxRecDepth 100000 in
set_option maxHeartbeats 4000000 in
theorem c_T_size (l : Launch) {D : va_G} {X : xT} {a : Nat → Nat} {K : Nat → ClassId} {tl : va_W} {e0 : Nat × va_E} {t_size : Int32} {Q : Int32 → Prop} : MI l y_T_size b_T_size 1 rm_T_size D cls (tys K) X [.ref (a 1)] (e0 :: (o_T a t_size) :: tl) (fun _ : Unit => e0 :: (o_T a t_size) :: tl) (wp_T_size t_size Q) (fun r _ => Q r) := by
  refine my_of_I (by decide +kernel) (Nat.le_of_ble_eq_true rfl) (fun p e s m args below meth c A QQ H locs ls hx hb hts hown hml hK hX hA hP hD hS hl hw hret => ?_)
  replace hl : lv_has ls 1 [(0, .ref (a 1))] := hl
  unfold wp_T_size at hw
  refine lv_aload_n hx hb d_T_size_0 rfl (lv_at hl 0 rfl) ?_
  refine g_T_size hx hb hts hown hK hP 1 rfl rfl d_T_size_1 ?_
  exact hret H locs ls 4 (t_size) (()) d_T_size_4 hP hD hS hw
def wp_T_empty (t_size : Int32) (Q : Int32 → Prop) : Prop := (Q (0 : Int32))
abbrev rm_T_empty : Room := { frames := 0, cells := 0, slots := 0, locals := 0 }
set_option maxRecDepth 100000 in
set_option maxHeartbeats 4000000 in
theorem c_T_empty (l : Launch) {D : va_G} {X : xT} {a : Nat → Nat} {K : Nat → ClassId} {tl : va_W} {e0 : Nat × va_E} {t_size : Int32} {Q : Int32 → Prop} : MV l y_T_empty b_T_empty 1 rm_T_empty D cls (tys K) X [.ref (a 1)] (e0 :: (o_T a t_size) :: tl) (fun u : Int32 => e0 :: (o_T a u) :: tl) (wp_T_empty t_size Q) (fun u => Q u) := by
  refine my_of_V (by decide +kernel) (Nat.le_of_ble_eq_true rfl) (fun p e s m args below meth c A QQ H locs ls hx hb hts hown hml hK hX hA hP hD hS hl hw hret => ?_)
  replace hl : lv_has ls 1 [(0, .ref (a 1))] := hl
  unfold wp_T_empty at hw
  refine lv_aload_n hx hb d_T_empty_0 rfl (lv_at hl 0 rfl) ?_
  refine lv_iconst (v := (0 : Int32)) hx hb d_T_empty_1 (by decide) ?_
  refine u_T_size hx hb hts hown hK hP hD hS 1 rfl rfl d_T_empty_2 (fun H locs hP hD hS => ?_)
  have hP : va_P D cls (e0 :: (o_T a (0 : Int32)) :: tl) H := hP
  have hD : va_D A (e0 :: (o_T a (0 : Int32)) :: tl) := hD
  exact hret H locs ls 5 ((0 : Int32)) d_T_empty_5 hP hD hS hw
def wq_T_append_37 (Q : Int32 → Int32 → (Nat → Int32) → Prop)  : Nat → Int32 → Int32 → Int32 → Int32 → (Nat → Int32) → Prop
  | 0, _, _, _, _, _ => False
  | n37 + 1, x1, x2, x3, t_size, tc => ((x2 ≤ x3 → (Q x2 (t_size + x2) tc)) ∧ (¬ x2 ≤ x3 → (wp_T_packedCode x1 x3 (fun r54 => (vp_in (t_size + x3) 400 ∧ (wq_T_append_37 Q n37 x1 x2 (x3 + (1 : Int32)) t_size (upd tc (t_size + x3).toNatClampNeg (vp_nar .char ((r54.toUInt32 % 65536).toInt32)))))))))
def wq_T_append_21 (Q : Int32 → Int32 → (Nat → Int32) → Prop) (x1 x2 t_size : Int32) (tc : Nat → Int32) : Prop := (((t_size + x2) ≤ (400 : Int32) → (∃ n37 : Nat, wq_T_append_37 Q n37 x1 x2 (0 : Int32) t_size tc)) ∧ (¬ (t_size + x2) ≤ (400 : Int32) → (Q (-1 : Int32) t_size tc)))
def wq_T_append_2 (Q : Int32 → Int32 → (Nat → Int32) → Prop)  : Nat → Int32 → Int32 → Int32 → (Nat → Int32) → Prop
  | 0, _, _, _, _ => False
  | n2 + 1, x1, x2, t_size, tc => (((4 : Int32) ≤ x2 → (wq_T_append_21 Q x1 x2 t_size tc)) ∧ (¬ (4 : Int32) ≤ x2 → (wp_T_packedCode x1 x2 (fun r9 => ((r9 = 0 → (wq_T_append_21 Q x1 x2 t_size tc)) ∧ (¬ r9 = 0 → (wq_T_append_2 Q n2 x1 (x2 + (1 : Int32)) t_size tc)))))))
def wp_T_append (x1 t_size : Int32) (tc : Nat → Int32) (Q : Int32 → Int32 → (Nat → Int32) → Prop) : Prop := (∃ n2 : Nat, wq_T_append_2 Q n2 x1 (0 : Int32) t_size tc)
abbrev rm_T_append : Room := { frames := 1, cells := 0, slots := 0, locals := 21 }
set_option maxRecDepth 100000 in
set_option maxHeartbeats 4000000 in
theorem c_T_append (l : Launch) {D : va_G} {X : xT} {a : Nat → Nat} {K : Nat → ClassId} {tl : va_W} {e0 : Nat × va_E} {x1 t_size : Int32} {tc : Nat → Int32} {Q : Int32 → Int32 → (Nat → Int32) → Prop} : MI l y_T_append b_T_append 4 rm_T_append D cls (tys K) X [.ref (a 1), .int x1] (e0 :: (o_T a t_size) :: (o_tc a K tc) :: tl) (fun u : Int32 × (Nat → Int32) => e0 :: (o_T a u.1) :: (o_tc a K u.2) :: tl) (wp_T_append x1 t_size tc Q) (fun r u => Q r u.1 u.2) := by
  refine my_of_I (by decide +kernel) (Nat.le_of_ble_eq_true rfl) (fun p e s m args below meth c A QQ H locs ls hx hb hts hown hml hK hX hA hP hD hS hl hw hret => ?_)
  replace hl : lv_has ls 4 [(0, .ref (a 1)), (1, .int x1)] := hl
  have J37 : ∀ (n37 : Nat) (H : Heap) (locs : List Loc) (ls : Array Slot) (x1 x2 x3 t_size : Int32) (tc : Nat → Int32), va_P D cls (e0 :: (o_T a t_size) :: (o_tc a K tc) :: tl) H → va_D A (e0 :: (o_T a t_size) :: (o_tc a K tc) :: tl) → va_S A s.heap H locs → lv_has ls 4 [(0, .ref (a 1)), (1, .int x1), (2, .int x2), (3, .int x3)] → wq_T_append_37 Q n37 x1 x2 x3 t_size tc → W p l e rm_T_append s m args below meth c H locs 0 0 QQ (F0 m 37 ls []) := by
    intro n37
    induction n37 with
    | zero => intro H locs ls x1 x2 x3 t_size tc hP hD hS hl hw; exact False.elim hw
    | succ n37 ih =>
      intro H locs ls x1 x2 x3 t_size tc hP hD hS hl hw
      unfold wq_T_append_37 at hw
      refine lv_iload_n hx hb d_T_append_37 rfl (lv_at hl 3 rfl) ?_
      refine lv_iload_n hx hb d_T_append_38 rfl (lv_at hl 2 rfl) ?_
      refine lv_icmp_ge (tgt := 65) hx hb d_T_append_39 (by decide) (fun hc => ?_) (fun hc => ?_)
      · replace hw := hw.1 hc
        refine lv_aload_n hx hb d_T_append_65 rfl (lv_at hl 0 rfl) ?_
        refine lv_dup hx hb d_T_append_66 rfl ?_
        refine g_T_size hx hb hts hown hK hP 1 rfl rfl d_T_append_67 ?_
        refine lv_iload_n hx hb d_T_append_70 rfl (lv_at hl 2 rfl) ?_
        refine lv_iadd hx hb d_T_append_71 ?_
        refine u_T_size hx hb hts hown hK hP hD hS 1 rfl rfl d_T_append_72 (fun H locs hP hD hS => ?_)
        have hP : va_P D cls (e0 :: (o_T a (t_size + x2)) :: (o_tc a K tc) :: tl) H := hP
        have hD : va_D A (e0 :: (o_T a (t_size + x2)) :: (o_tc a K tc) :: tl) := hD
        refine lv_iload_n hx hb d_T_append_75 rfl (lv_at hl 2 rfl) ?_
        exact hret H locs ls 76 (x2) ((t_size + x2, tc)) d_T_append_76 hP hD hS hw
      · replace hw := hw.2 hc
        refine lv_aload_n hx hb d_T_append_42 rfl (lv_at hl 0 rfl) ?_
        refine g_T_codes hx hb hts hown hK hP 1 rfl rfl d_T_append_43 ?_
        refine lv_aload_n hx hb d_T_append_46 rfl (lv_at hl 0 rfl) ?_
        refine g_T_size hx hb hts hown hK hP 1 rfl rfl d_T_append_47 ?_
        refine lv_iload_n hx hb d_T_append_50 rfl (lv_at hl 3 rfl) ?_
        refine lv_iadd hx hb d_T_append_51 ?_
        refine lv_iload_n hx hb d_T_append_52 rfl (lv_at hl 1 rfl) ?_
        refine lv_iload_n hx hb d_T_append_53 rfl (lv_at hl 3 rfl) ?_
        refine my_calli (va_runS (As := [.int x1, .int x3]) (rest := [.int (t_size + x3), .ref (a 2)]) ⟨hx, hb, hml, hown, hts⟩ (c_T_packedCode l H.size) (cw_T_19 hts ⟨Nat.le_of_ble_eq_true rfl, Nat.le_of_ble_eq_true rfl⟩) (my_preS hK hP hX hD hS hA hw) rfl rfl hl.1 rfl (lv_room (Nat.le_of_ble_eq_true rfl)) d_T_append_54 ⟨Nat.le_refl _, Nat.le_refl _⟩) hD hS hA (fun r54 _ H locs hw hP hD hS => ?_)
        have hP : va_P D cls (e0 :: (o_T a t_size) :: (o_tc a K tc) :: tl) H := hP
        have hD : va_D A (e0 :: (o_T a t_size) :: (o_tc a K tc) :: tl) := hD
        refine lv_i2c (v := (r54.toUInt32 % 65536).toInt32) hx hb d_T_append_57 rfl ?_
        refine va_cast hx hb hK hP hD hS 2 0 rfl rfl hw.1 d_T_append_58 (fun H locs hP hD hS => ?_)
        replace hw := hw.2
        have hP : va_P D cls (e0 :: (o_T a t_size) :: (o_tc a K (upd tc (t_size + x3).toNatClampNeg (vp_nar .char ((r54.toUInt32 % 65536).toInt32)))) :: tl) H := hP
        have hD : va_D A (e0 :: (o_T a t_size) :: (o_tc a K (upd tc (t_size + x3).toNatClampNeg (vp_nar .char ((r54.toUInt32 % 65536).toInt32)))) :: tl) := hD
        refine lv_iinc (k := 3) (v := x3 + (1 : Int32)) (lv' := [(3, .int (x3 + (1 : Int32))), (0, .ref (a 1)), (1, .int x1), (2, .int x2)]) hx hb d_T_append_59 hl rfl (iinc_1 _) (Nat.le_of_ble_eq_true rfl) rfl (fun ls hl => ?_)
        refine lv_goto (tgt := 37) hx hb d_T_append_62 (by decide) ?_
        exact ih H locs ls x1 x2 (x3 + (1 : Int32)) t_size (upd tc (t_size + x3).toNatClampNeg (vp_nar .char ((r54.toUInt32 % 65536).toInt32))) hP hD hS (lv_sub hl [1, 2, 3, 0] rfl) hw
  have J21 : ∀ (H : Heap) (locs : List Loc) (ls : Array Slot) (x1 x2 t_size : Int32) (tc : Nat → Int32), va_P D cls (e0 :: (o_T a t_size) :: (o_tc a K tc) :: tl) H → va_D A (e0 :: (o_T a t_size) :: (o_tc a K tc) :: tl) → va_S A s.heap H locs → lv_has ls 4 [(0, .ref (a 1)), (1, .int x1), (2, .int x2)] → wq_T_append_21 Q x1 x2 t_size tc → W p l e rm_T_append s m args below meth c H locs 0 0 QQ (F0 m 21 ls []) := by
    intro H locs ls x1 x2 t_size tc hP hD hS hl hw
    unfold wq_T_append_21 at hw
    refine lv_aload_n hx hb d_T_append_21 rfl (lv_at hl 0 rfl) ?_
    refine g_T_size hx hb hts hown hK hP 1 rfl rfl d_T_append_22 ?_
    refine lv_iload_n hx hb d_T_append_25 rfl (lv_at hl 2 rfl) ?_
    refine lv_iadd hx hb d_T_append_26 ?_
    refine lv_sipush (v := (400 : Int32)) hx hb d_T_append_27 (by decide) ?_
    refine lv_icmp_le (tgt := 35) hx hb d_T_append_30 (by decide) (fun hc => ?_) (fun hc => ?_)
    · replace hw := hw.1 hc
      refine lv_iconst (v := (0 : Int32)) hx hb d_T_append_35 (by decide) ?_
      refine lv_istore_n (lv' := [(3, .int (0 : Int32)), (0, .ref (a 1)), (1, .int x1), (2, .int x2)]) hx hb d_T_append_36 rfl hl (Nat.le_of_ble_eq_true rfl) rfl (fun ls hl => ?_)
      obtain ⟨n37, hw⟩ := hw
      exact J37 n37 H locs ls x1 x2 (0 : Int32) t_size tc hP hD hS (lv_sub hl [1, 2, 3, 0] rfl) hw
    · replace hw := hw.2 hc
      refine lv_iconst (v := (-1 : Int32)) hx hb d_T_append_33 (by decide) ?_
      exact hret H locs ls 34 ((-1 : Int32)) ((t_size, tc)) d_T_append_34 hP hD hS hw
  have J2 : ∀ (n2 : Nat) (H : Heap) (locs : List Loc) (ls : Array Slot) (x1 x2 t_size : Int32) (tc : Nat → Int32), va_P D cls (e0 :: (o_T a t_size) :: (o_tc a K tc) :: tl) H → va_D A (e0 :: (o_T a t_size) :: (o_tc a K tc) :: tl) → va_S A s.heap H locs → lv_has ls 4 [(0, .ref (a 1)), (1, .int x1), (2, .int x2)] → wq_T_append_2 Q n2 x1 x2 t_size tc → W p l e rm_T_append s m args below meth c H locs 0 0 QQ (F0 m 2 ls []) := by
    intro n2
    induction n2 with
    | zero => intro H locs ls x1 x2 t_size tc hP hD hS hl hw; exact False.elim hw
    | succ n2 ih =>
      intro H locs ls x1 x2 t_size tc hP hD hS hl hw
      unfold wq_T_append_2 at hw
      refine lv_iload_n hx hb d_T_append_2 rfl (lv_at hl 2 rfl) ?_
      refine lv_iconst (v := (4 : Int32)) hx hb d_T_append_3 (by decide) ?_
      refine lv_icmp_ge (tgt := 21) hx hb d_T_append_4 (by decide) (fun hc => ?_) (fun hc => ?_)
      · replace hw := hw.1 hc
        exact J21 H locs ls x1 x2 t_size tc hP hD hS (lv_sub hl [0, 1, 2] rfl) hw
      · replace hw := hw.2 hc
        refine lv_iload_n hx hb d_T_append_7 rfl (lv_at hl 1 rfl) ?_
        refine lv_iload_n hx hb d_T_append_8 rfl (lv_at hl 2 rfl) ?_
        refine my_calli (va_runS (As := [.int x1, .int x2]) (rest := []) ⟨hx, hb, hml, hown, hts⟩ (c_T_packedCode l H.size) (cw_T_19 hts ⟨Nat.le_of_ble_eq_true rfl, Nat.le_of_ble_eq_true rfl⟩) (my_preS hK hP hX hD hS hA hw) rfl rfl hl.1 rfl (lv_room (Nat.le_of_ble_eq_true rfl)) d_T_append_9 ⟨Nat.le_refl _, Nat.le_refl _⟩) hD hS hA (fun r9 _ H locs hw hP hD hS => ?_)
        have hP : va_P D cls (e0 :: (o_T a t_size) :: (o_tc a K tc) :: tl) H := hP
        have hD : va_D A (e0 :: (o_T a t_size) :: (o_tc a K tc) :: tl) := hD
        refine lv_if_eq (tgt := 21) hx hb d_T_append_12 (by decide) (fun hc => ?_) (fun hc => ?_)
        · replace hw := hw.1 hc
          exact J21 H locs ls x1 x2 t_size tc hP hD hS (lv_sub hl [0, 1, 2] rfl) hw
        · replace hw := hw.2 hc
          refine lv_iinc (k := 2) (v := x2 + (1 : Int32)) (lv' := [(2, .int (x2 + (1 : Int32))), (0, .ref (a 1)), (1, .int x1)]) hx hb d_T_append_15 hl rfl (iinc_1 _) (Nat.le_of_ble_eq_true rfl) rfl (fun ls hl => ?_)
          refine lv_goto (tgt := 2) hx hb d_T_append_18 (by decide) ?_
          exact ih H locs ls x1 (x2 + (1 : Int32)) t_size tc hP hD hS (lv_sub hl [1, 2, 0] rfl) hw
  unfold wp_T_append at hw
  refine lv_iconst (v := (0 : Int32)) hx hb d_T_append_0 (by decide) ?_
  refine lv_istore_n (lv' := [(2, .int (0 : Int32)), (0, .ref (a 1)), (1, .int x1)]) hx hb d_T_append_1 rfl hl (Nat.le_of_ble_eq_true rfl) rfl (fun ls hl => ?_)
  obtain ⟨n2, hw⟩ := hw
  exact J2 n2 H locs ls x1 (0 : Int32) t_size tc hP hD hS (lv_sub hl [1, 2, 0] rfl) hw
def wp_T_codeAt (x1 t_size : Int32) (tc : Nat → Int32) (Q : Int32 → Prop) : Prop := ((x1 < 0 → (Q (0 : Int32))) ∧ (¬ x1 < 0 → ((t_size ≤ x1 → (Q (0 : Int32))) ∧ (¬ t_size ≤ x1 → (vp_in x1 400 ∧ (cZ (tc x1.toNatClampNeg) ∧ Q (tc x1.toNatClampNeg)))))))
abbrev rm_T_codeAt : Room := { frames := 0, cells := 0, slots := 0, locals := 0 }
set_option maxRecDepth 100000 in
set_option maxHeartbeats 4000000 in
theorem c_T_codeAt (l : Launch) {D : va_G} {X : xT} {a : Nat → Nat} {K : Nat → ClassId} {tl : va_W} {e0 : Nat × va_E} {x1 t_size : Int32} {tc : Nat → Int32} {Q : Int32 → Prop} : MC l y_T_codeAt b_T_codeAt 2 rm_T_codeAt D cls (tys K) X [.ref (a 1), .int x1] (e0 :: (o_T a t_size) :: (o_tc a K tc) :: tl) (fun _ : Unit => e0 :: (o_T a t_size) :: (o_tc a K tc) :: tl) (wp_T_codeAt x1 t_size tc Q) (fun r _ => Q r) := by
  refine my_of_C (by decide +kernel) (Nat.le_of_ble_eq_true rfl) (fun p e s m args below meth c A QQ H locs ls hx hb hts hown hml hK hX hA hP hD hS hl hw hret => ?_)
  replace hl : lv_has ls 2 [(0, .ref (a 1)), (1, .int x1)] := hl
  unfold wp_T_codeAt at hw
  refine lv_iload_n hx hb d_T_codeAt_0 rfl (lv_at hl 1 rfl) ?_
  refine lv_if_lt (tgt := 21) hx hb d_T_codeAt_1 (by decide) (fun hc => ?_) (fun hc => ?_)
  · replace hw := hw.1 hc
    refine lv_iconst (v := (0 : Int32)) hx hb d_T_codeAt_21 (by decide) ?_
    exact hret H locs ls 22 ((0 : Int32)) (()) d_T_codeAt_22 (by unfold cZ; decide +kernel) hP hD hS hw
  · replace hw := hw.2 hc
    refine lv_iload_n hx hb d_T_codeAt_4 rfl (lv_at hl 1 rfl) ?_
    refine lv_aload_n hx hb d_T_codeAt_5 rfl (lv_at hl 0 rfl) ?_
    refine g_T_size hx hb hts hown hK hP 1 rfl rfl d_T_codeAt_6 ?_
    refine lv_icmp_ge (tgt := 21) hx hb d_T_codeAt_9 (by decide) (fun hc => ?_) (fun hc => ?_)
    · replace hw := hw.1 hc
      refine lv_iconst (v := (0 : Int32)) hx hb d_T_codeAt_21 (by decide) ?_
      exact hret H locs ls 22 ((0 : Int32)) (()) d_T_codeAt_22 (by unfold cZ; decide +kernel) hP hD hS hw
    · replace hw := hw.2 hc
      refine lv_aload_n hx hb d_T_codeAt_12 rfl (lv_at hl 0 rfl) ?_
      refine g_T_codes hx hb hts hown hK hP 1 rfl rfl d_T_codeAt_13 ?_
      refine lv_iload_n hx hb d_T_codeAt_16 rfl (lv_at hl 1 rfl) ?_
      refine va_cald hx hb hK hP 2 0 rfl rfl hw.1 d_T_codeAt_17 ?_
      replace hw := hw.2
      refine lv_goto (tgt := 22) hx hb d_T_codeAt_18 (by decide) ?_
      exact hret H locs ls 22 (tc x1.toNatClampNeg) (()) d_T_codeAt_22 hw.1 hP hD hS hw.2
def wq_T_lineEnd_2 (Q : Int32 → Prop) (t_size : Int32) (tc : Nat → Int32) : Nat → Int32 → Prop
  | 0, _ => False
  | n2 + 1, x2 => ((t_size ≤ x2 → (Q x2)) ∧ (¬ t_size ≤ x2 → (wp_T_codeAt x2 t_size tc (fun r12 => ((r12 = (10 : Int32) → (Q x2)) ∧ (¬ r12 = (10 : Int32) → (wq_T_lineEnd_2 Q t_size tc n2 (x2 + (1 : Int32)))))))))
def wp_T_lineEnd (x1 t_size : Int32) (tc : Nat → Int32) (Q : Int32 → Prop) : Prop := (∃ n2 : Nat, wq_T_lineEnd_2 Q t_size tc n2 x1)
abbrev rm_T_lineEnd : Room := { frames := 1, cells := 0, slots := 0, locals := 21 }
set_option maxRecDepth 100000 in
set_option maxHeartbeats 4000000 in
theorem c_T_lineEnd (l : Launch) {D : va_G} {X : xT} {a : Nat → Nat} {K : Nat → ClassId} {tl : va_W} {e0 : Nat × va_E} {x1 t_size : Int32} {tc : Nat → Int32} {Q : Int32 → Prop} : MI l y_T_lineEnd b_T_lineEnd 3 rm_T_lineEnd D cls (tys K) X [.ref (a 1), .int x1] (e0 :: (o_T a t_size) :: (o_tc a K tc) :: tl) (fun _ : Unit => e0 :: (o_T a t_size) :: (o_tc a K tc) :: tl) (wp_T_lineEnd x1 t_size tc Q) (fun r _ => Q r) := by
  refine my_of_I (by decide +kernel) (Nat.le_of_ble_eq_true rfl) (fun p e s m args below meth c A QQ H locs ls hx hb hts hown hml hK hX hA hP hD hS hl hw hret => ?_)
  replace hl : lv_has ls 3 [(0, .ref (a 1)), (1, .int x1)] := hl
  have J2 : ∀ (n2 : Nat) (H : Heap) (locs : List Loc) (ls : Array Slot) (x2 : Int32), va_P D cls (e0 :: (o_T a t_size) :: (o_tc a K tc) :: tl) H → va_D A (e0 :: (o_T a t_size) :: (o_tc a K tc) :: tl) → va_S A s.heap H locs → lv_has ls 3 [(0, .ref (a 1)), (2, .int x2)] → wq_T_lineEnd_2 Q t_size tc n2 x2 → W p l e rm_T_lineEnd s m args below meth c H locs 0 0 QQ (F0 m 2 ls []) := by
    intro n2
    induction n2 with
    | zero => intro H locs ls x2 hP hD hS hl hw; exact False.elim hw
    | succ n2 ih =>
      intro H locs ls x2 hP hD hS hl hw
      unfold wq_T_lineEnd_2 at hw
      refine lv_iload_n hx hb d_T_lineEnd_2 rfl (lv_at hl 1 rfl) ?_
      refine lv_aload_n hx hb d_T_lineEnd_3 rfl (lv_at hl 0 rfl) ?_
      refine g_T_size hx hb hts hown hK hP 1 rfl rfl d_T_lineEnd_4 ?_
      refine lv_icmp_ge (tgt := 26) hx hb d_T_lineEnd_7 (by decide) (fun hc => ?_) (fun hc => ?_)
      · replace hw := hw.1 hc
        refine lv_iload_n hx hb d_T_lineEnd_26 rfl (lv_at hl 1 rfl) ?_
        exact hret H locs ls 27 (x2) (()) d_T_lineEnd_27 hP hD hS hw
      · replace hw := hw.2 hc
        refine lv_aload_n hx hb d_T_lineEnd_10 rfl (lv_at hl 0 rfl) ?_
        refine lv_iload_n hx hb d_T_lineEnd_11 rfl (lv_at hl 1 rfl) ?_
        refine my_calli (va_runV (As := [.int x2]) (rest := []) ⟨hx, hb, hml, hown, hts⟩ (c_T_codeAt l H.size) (cw_T_23 hts ⟨Nat.le_of_ble_eq_true rfl, Nat.le_of_ble_eq_true rfl⟩) (my_preV hK hP hX hD hS hA 1 rfl rfl hw) rfl rfl hl.1 rfl (lv_room (Nat.le_of_ble_eq_true rfl)) d_T_lineEnd_12 ⟨Nat.le_refl _, Nat.le_refl _⟩) hD hS hA (fun r12 _ H locs hw hP hD hS => ?_)
        have hP : va_P D cls (e0 :: (o_T a t_size) :: (o_tc a K tc) :: tl) H := hP
        have hD : va_D A (e0 :: (o_T a t_size) :: (o_tc a K tc) :: tl) := hD
        refine lv_bipush (v := (10 : Int32)) hx hb d_T_lineEnd_15 (by decide) ?_
        refine lv_icmp_eq (tgt := 26) hx hb d_T_lineEnd_17 (by decide) (fun hc => ?_) (fun hc => ?_)
        · replace hw := hw.1 hc
          refine lv_iload_n hx hb d_T_lineEnd_26 rfl (lv_at hl 1 rfl) ?_
          exact hret H locs ls 27 (x2) (()) d_T_lineEnd_27 hP hD hS hw
        · replace hw := hw.2 hc
          refine lv_iinc (k := 1) (v := x2 + (1 : Int32)) (lv' := [(2, .int (x2 + (1 : Int32))), (0, .ref (a 1))]) hx hb d_T_lineEnd_20 hl rfl (iinc_1 _) (Nat.le_of_ble_eq_true rfl) rfl (fun ls hl => ?_)
          refine lv_goto (tgt := 2) hx hb d_T_lineEnd_23 (by decide) ?_
          exact ih H locs ls (x2 + (1 : Int32)) hP hD hS (lv_sub hl [1, 0] rfl) hw
  unfold wp_T_lineEnd at hw
  refine lv_iload_n hx hb d_T_lineEnd_0 rfl (lv_at hl 1 rfl) ?_
  refine lv_istore_n (lv' := [(2, .int x1), (0, .ref (a 1)), (1, .int x1)]) hx hb d_T_lineEnd_1 rfl hl (Nat.le_of_ble_eq_true rfl) rfl (fun ls hl => ?_)
  obtain ⟨n2, hw⟩ := hw
  exact J2 n2 H locs ls x1 hP hD hS (lv_sub hl [1, 0] rfl) hw
