/-! constructors: they make cells -/
def nS (U : State) : Prop := va_Nw (.methodLinkNest "PulsePlotter" 9 y_T_init "PulsePlotter") U ∧ va_Nw (.methodLinkNest "PulsePlotter" 18 y_W_init "PulsePlotter") U ∧ va_Nw (.methodLinkNest "PulsePlotter" 25 y_S_init "PulsePlotter") U ∧ va_Nw (.methodLinkNest "PulsePlotter" 32 y_A_init "PulsePlotter") U ∧ va_Nw (.methodLinkNest "PulsePlotter$Straight" 1 y_Y_init "PulsePlotter") U ∧ va_Nw (.methodLinkNest "PulsePlotter$Arc" 3 y_Y_init "PulsePlotter") U
theorem nS.warm {s U : State} (h : nS s) (hW : s.WarmedH U.vm) : nS U := ⟨h.1.warmM hW, h.2.1.warmM hW, h.2.2.1.warmM hW, h.2.2.2.1.warmM hW, h.2.2.2.2.1.warmM hW, h.2.2.2.2.2.warmM hW⟩
theorem nS.calling {U : State} {g : JFrame} {mk : MethodId} {a : Array Value} (h : nS U) : nS (U.calling g mk a) := ⟨h.1.same rfl rfl, h.2.1.same rfl rfl, h.2.2.1.same rfl rfl, h.2.2.2.1.same rfl rfl, h.2.2.2.2.1.same rfl rfl, h.2.2.2.2.2.same rfl rfl⟩
def kP (D : va_G) (ty : List (ClassId × FieldType)) (X : xT) (W0 : va_W) (sz : Nat) (U : State) : Prop := U.heap.size = sz ∧ va_P D cls W0 U.heap ∧ va_K D cls ty U ∧ xS X (va_A W0 sz) U U.heap ∧ va_D (fun _ => True) W0 ∧ nS U
theorem kP.blind {D : va_G} {ty : List (ClassId × FieldType)} {X : xT} {W0 : va_W} {sz : Nat} {av : List Value} : FrameBlind (va_Pc av (kP D ty X W0 sz)) := fun a U g mk q => by
  obtain ⟨q0, q1, qP, qK, qX, qD, qn⟩ := q
  exact ⟨q0, q1, qP, va_K.moved (u := U) (U := U.calling g mk a) (Vm.Alike.refl U.vm) qK, qX.calling, qD, qn.calling⟩
theorem my_preK {D : va_G} {ty : List (ClassId × FieldType)} {X : xT} {wc : va_W} {s : State} {H : Heap} {A : Nat → Prop} {locs : List Loc} {av : List Value} (hK : va_K D cls ty s) (hP : va_P D cls wc H) (hX : xS X A s s.heap) (hD : va_D A wc) (hS : va_S A s.heap H locs) (hF : ∀ q, va_A wc H.size q → A q) (hN : nS s) :
    PreS s H (va_Pc av (kP D ty X wc H.size)) av := ⟨kP.blind, fun U hU hW => ⟨rfl, by rw [hU], by rw [hU]; exact hP, va_K.moved hW.alike hK, hX.callee hS hF hU hW, hD.weaken (fun _ _ _ _ => trivial), hN.warm hW⟩⟩
abbrev MK (l : Launch) (y : MethodName) (cc : ByteArray) (maxL : Nat) (rm : Room) (D : va_G) (ty : List (ClassId × FieldType)) (X : xT) (h : Nat) (W0 : va_W) (B : (Nat → Prop) → State → Prop) (mc ms : Nat) : Prop :=
  ∀ sz : Nat, Met l y (.code y cc maxL none :: wG) rm (va_Pc [.ref h] (kP D ty X W0 sz)) (va_Qv (fun _ : Unit => True) (fun _ t => B (va_A W0 sz) t) (va_A W0 sz)) mc ms (va_A W0 sz)
theorem my_of_K {l : Launch} {y : MethodName} {cc : ByteArray} {maxL : Nat} {rm : Room} {D : va_G} {ty : List (ClassId × FieldType)} {X : xT} {h : Nat} {W0 : va_W} {B : (Nat → Prop) → State → Prop} {mc ms : Nat} (hy : plainFor y = true) (hi : y.name = "<init>") (hn : (lg_sl [.ref h]).length ≤ maxL)
    (body : ∀ (p : Program) (e : Env) (s : State) (m : MethodId) (args : Array Value) (below : List Frame) (meth : Method) (c : Code) (A : Nat → Prop) (QQ : State → Prop) (H : Heap) (locs : List Loc) (ls : Array Slot),
      p.tables.exec = Jvm.exec → c.code = cc → (∀ w ∈ wG, w.before args s = true) → s.vm.findClass y.cls = some m.cls → c.maxLocals = maxL → meth.name = "<init>" → va_K D cls ty s → xS X A s s.heap → nS s → (∀ q, s.heap.size ≤ q → A q) → va_P D cls W0 H → va_D A W0 → va_S A s.heap H locs → lv_has ls maxL [(0, .ref h)] →
      (∀ (H : Heap) (locs : List Loc) (ls : Array Slot) (pc : Nat), decode cc pc = .ok (.return_, 1) → va_S A s.heap H locs → (∀ t : State, t.heap = H → s.WarmedH t.vm → B A t) → W p l e rm s m args below meth c H locs mc ms QQ (F0 m pc ls [])) →
      W p l e rm s m args below meth c H locs 0 0 QQ (F0 m 0 ls [])) : MK l y cc maxL rm D ty X h W0 B mc ms := by
  intro sz
  refine va_MetF (cc := cc) (maxL := maxL) (ret := none) hy rfl ?_
  intro p e s m args below meth c s₁ B0 hml hv
  obtain ⟨rfl, hsz, hP, hK, hX, hD0, hN⟩ := hv
  subst hsz
  have hts := atoms_spec (ws := .code y cc maxL none :: wG) B0.pre
  have hD := hD0.self (sz := s.heap.size)
  have hl := lv_entry ([.ref h]) (n := maxL) hn
  rw [lg_entry_eq]
  have hlocks := B0.notSynchronized
  have hin : meth.name = "<init>" := (name_of_methodNamed B0.named B0.method).1.trans hi
  exact body p e s m _ below meth c (va_A W0 s.heap.size) _ _ _ _ B0.exec B0.bytes (fun w h => hts w (List.mem_cons_of_mem _ h)) (findClass_of_methodNamed B0.named) hml hin hK hX hN (fun q h => Or.inr h) hP hD va_S.rf hl
    (fun H locs ls pc hdg hS hq => W.vret B0.exec B0.bytes B0.returns (fun t ht hW => ⟨⟨(), rfl, trivial, hq t ht hW⟩, hS.F ht⟩) hS.2.2 hdg hlocks)
section CN
variable {R : Room} {s : State} {args : Array Value} {own host : String} {idx maxL n fr lo mc ms : Nat} {y : MethodName} {bytes : ByteArray}
theorem my_cnI (hts : ∀ w ∈ wG, w.before args s = true) (hc : Cond.code y bytes maxL none ∈ wG) (hini : Cond.initialized y.cls ∈ wG) (hi : Cond.instanceMethod y ∈ wG) (hl : va_Nw (.methodLinkNest own idx y host) s) (hy : y.name = "<init>")
    (hd : y.cls ≠ "java/lang/invoke/MethodHandle" ∧ y.cls ≠ "java/lang/invoke/VarHandle" ∧ (parseMethodDescriptor y.desc).map (fun d => d.parameters.length) = some n) (hR : fr + 1 ≤ R.frames ∧ 8 + (maxL + 11) + lo ≤ R.locals) :
    va_CN R s args own idx y host bytes maxL none (Cond.code y bytes maxL none :: wG) { frames := fr, cells := mc, slots := ms, locals := lo } mc ms n ∧ y.name = "<init>" ∧ (Cond.instanceMethod y).before args s = true :=
  ⟨⟨⟨rfl, rfl, hR.1, hR.2, wG_pay hts hc, List.mem_cons_self⟩, hts _ hc, hts _ hini, ⟨hd.1, hd.2.1⟩, desc_n hd.2.2, va_Nw.use rfl hl⟩, hy, hts _ hi⟩
theorem my_ciI (hts : ∀ w ∈ wG, w.before args s = true) (hc : Cond.code y bytes maxL none ∈ wG) (hini : Cond.initialized y.cls ∈ wG) (hi : Cond.instanceMethod y ∈ wG) (hl : Cond.methodLink own idx y ∈ wG) (hy : y.name = "<init>")
    (hd : y.cls ≠ "java/lang/invoke/MethodHandle" ∧ y.cls ≠ "java/lang/invoke/VarHandle" ∧ (parseMethodDescriptor y.desc).map (fun d => d.parameters.length) = some n) (hR : fr + 1 ≤ R.frames ∧ 8 + (maxL + 11) + lo ≤ R.locals) :
    CallB R s args own idx y bytes maxL none (Cond.code y bytes maxL none :: wG) { frames := fr, cells := mc, slots := ms, locals := lo } mc ms n ∧ y.name = "<init>" ∧ (Cond.instanceMethod y).before args s = true :=
  ⟨⟨rfl, rfl, hR.1, hR.2, wG_pay hts hc, List.mem_cons_self, hts _ hc, hts _ hini, ⟨hd.1, hd.2.1⟩, desc_n hd.2.2, hts _ hl⟩, hy, hts _ hi⟩
end CN
def mkA (l : List Nat) : Nat → Nat := fun k => l.getD k 0
def mkK (l : List ClassId) (d : ClassId) : Nat → ClassId := fun k => l.getD k d
theorem d_Y_init_0 : decode b_Y_init 0 = .ok (.aload_n 0, 1) := by decide +kernel
theorem d_Y_init_1 : decode b_Y_init 1 = .ok (.invokespecial 1, 3) := by decide +kernel
theorem d_Y_init_4 : decode b_Y_init 4 = .ok (.return_, 1) := by decide +kernel
theorem kn_obj : Cond.instanceMethod ⟨"java/lang/Object", "<init>", "()V"⟩ ∈ wG := wG_of (List.mem_append_right _ (List.mem_append_left _ (List.mem_of_getElem? (i := 20) (by rfl)))) rfl
theorem kc_obj : Cond.code ⟨"java/lang/Object", "<init>", "()V"⟩ object_method_1_code 1 none ∈ wG := wG_of (List.mem_append_right _ (List.mem_append_left _ (List.mem_of_getElem? (i := 21) (by rfl)))) rfl
theorem ka_char : Cond.arrayClass .char ∈ wG := wG_of (List.mem_append_right _ (List.mem_append_left _ (List.mem_of_getElem? (i := 35) (by rfl)))) rfl
theorem ka_boolean : Cond.arrayClass .boolean ∈ wG := wG_of (List.mem_append_right _ (List.mem_append_left _ (List.mem_of_getElem? (i := 64) (by rfl)))) rfl
theorem ka_int : Cond.arrayClass .int ∈ wG := wG_of (List.mem_append_right _ (List.mem_append_left _ (List.mem_of_getElem? (i := 65) (by rfl)))) rfl
theorem k_L_7 : Cond.classLink "PulsePlotterLaw" 7 "PulsePlotter" ∈ wG := wG_of (List.mem_append_right _ (List.mem_append_left _ (List.mem_of_getElem? (i := 14) (by rfl)))) rfl
theorem kt_P : Cond.instantiable "PulsePlotter" 19 ∈ wG := wG_of (List.mem_append_right _ (List.mem_append_left _ (List.mem_of_getElem? (i := 15) (by rfl)))) rfl
theorem k_P_7 : Cond.classLink "PulsePlotter" 7 "PulsePlotter$Text" ∈ wG := wG_of (List.mem_append_right _ (List.mem_append_left _ (List.mem_of_getElem? (i := 22) (by rfl)))) rfl
theorem kt_T : Cond.instantiable "PulsePlotter$Text" 2 ∈ wG := wG_of (List.mem_append_right _ (List.mem_append_left _ (List.mem_of_getElem? (i := 23) (by rfl)))) rfl
theorem k_P_16 : Cond.classLink "PulsePlotter" 16 "PulsePlotter$Words" ∈ wG := wG_of (List.mem_append_right _ (List.mem_append_left _ (List.mem_of_getElem? (i := 36) (by rfl)))) rfl
theorem kt_W : Cond.instantiable "PulsePlotter$Words" 7 ∈ wG := wG_of (List.mem_append_right _ (List.mem_append_left _ (List.mem_of_getElem? (i := 37) (by rfl)))) rfl
theorem k_P_23 : Cond.classLink "PulsePlotter" 23 "PulsePlotter$Straight" ∈ wG := wG_of (List.mem_append_right _ (List.mem_append_left _ (List.mem_of_getElem? (i := 66) (by rfl)))) rfl
theorem kt_S : Cond.instantiable "PulsePlotter$Straight" 5 ∈ wG := wG_of (List.mem_append_right _ (List.mem_append_left _ (List.mem_of_getElem? (i := 67) (by rfl)))) rfl
theorem k_P_30 : Cond.classLink "PulsePlotter" 30 "PulsePlotter$Arc" ∈ wG := wG_of (List.mem_append_right _ (List.mem_append_left _ (List.mem_of_getElem? (i := 91) (by rfl)))) rfl
theorem kt_A : Cond.instantiable "PulsePlotter$Arc" 8 ∈ wG := wG_of (List.mem_append_right _ (List.mem_append_left _ (List.mem_of_getElem? (i := 92) (by rfl)))) rfl
theorem k_L_10 : Cond.classLink "PulsePlotterLaw" 10 "PulsePlotterModel" ∈ wG := wG_of (List.mem_append_right _ (List.mem_append_right _ (List.mem_append_right _ (List.mem_append_left _ (List.mem_of_getElem? (i := 33) (by rfl)))))) rfl
theorem kt_M : Cond.instantiable "PulsePlotterModel" 34 ∈ wG := wG_of (List.mem_append_right _ (List.mem_append_right _ (List.mem_append_right _ (List.mem_append_left _ (List.mem_of_getElem? (i := 34) (by rfl)))))) rfl
abbrev rm_Y_init : Room := { frames := 1, cells := 0, slots := 0, locals := 12 }
set_option maxRecDepth 100000 in
set_option maxHeartbeats 4000000 in
theorem c_Y_init (l : Launch) {D : va_G} {X : xT} {ty : List (ClassId × FieldType)} {h ci : Nat} {fs : List Value} : MK l y_Y_init b_Y_init 1 rm_Y_init D ty X h [(h, .inr (ci, fs))] (fun A t => va_P D cls [(h, .inr (ci, fs))] t.heap ∧ va_D A [(h, .inr (ci, fs))]) 0 0 := by
  refine my_of_K (by decide +kernel) rfl (Nat.le_of_ble_eq_true rfl) (fun p e s m args below meth c A QQ H locs ls hx hb hts hown hml hin hK hX hN hA hP hD hS hl hret => ?_)
  refine lv_aload_n hx hb d_Y_init_0 rfl (lv_at hl 0 rfl) ?_
  refine W.objInit hx hb hown (hts _ k_Y_1) (hts _ kn_obj) (hts _ kc_obj) rfl (by rw [hml]; exact hl.1) rfl d_Y_init_1 (Nat.le_of_ble_eq_true rfl) (Nat.le_of_ble_eq_true rfl) ?_
  refine W.eq (g2 := F0 m 4 ls []) rfl ?_
  exact hret H locs ls 4 d_Y_init_4 hS (fun t ht hW => ⟨by rw [ht]; exact hP, hD⟩)
abbrev rm_T_init : Room := { frames := 1, cells := 1, slots := 400, locals := 12 }
set_option maxRecDepth 100000 in
set_option maxHeartbeats 4000000 in
theorem c_T_init (l : Launch) {D : va_G} {X : xT} {h : Nat} : MK l y_T_init b_T_init 1 rm_T_init D [] X h [(h, .inr (1, [.null, .int 0]))] (fun A t => ∃ (q8 : Nat) (k8 : ClassId), va_P D cls [(h, .inr (1, [.ref q8, .int 0])), (q8, .inl (k8, 400, .inl (fun _ => 0)))] t.heap ∧ va_K D cls [(k8, .char)] t ∧ va_D A [(h, .inr (1, [.ref q8, .int 0])), (q8, .inl (k8, 400, .inl (fun _ => 0)))]) 1 400 := by
  refine my_of_K (by decide +kernel) rfl (Nat.le_of_ble_eq_true rfl) (fun p e s m args below meth c A QQ H locs ls hx hb hts hown hml hin hK hX hN hA hP hD hS hl hret => ?_)
  refine lv_aload_n hx hb d_T_init_0 rfl (lv_at hl 0 rfl) ?_
  refine W.objInit hx hb hown (hts _ k_T_3) (hts _ kn_obj) (hts _ kc_obj) rfl (by rw [hml]; exact hl.1) rfl d_T_init_1 (Nat.le_of_ble_eq_true rfl) (Nat.le_of_ble_eq_true rfl) ?_
  refine W.eq (g2 := F0 m 4 ls []) rfl ?_
  refine lv_aload_n hx hb d_T_init_4 rfl (lv_at hl 0 rfl) ?_
  refine lv_sipush (v := (400 : Int32)) hx hb d_T_init_5 (by decide) ?_
  refine va_newa (atype := .char) (ty := .char) (a0 := (400, .inl (fun _ => 0))) hx hb (hts _ ka_char) rfl hK hP hD hS hA (fun _ => rfl) (by decide) (by decide) (by decide) (Nat.le_of_ble_eq_true rfl) (Nat.le_of_ble_eq_true rfl) d_T_init_8 (fun q8 k8 H hK hP hD hS => ?_)
  have hP : va_P D cls [(h, .inr (1, [.null, .int 0])), (q8, .inl (k8, 400, .inl (fun _ => 0)))] H := hP
  have hD : va_D A [(h, .inr (1, [.null, .int 0])), (q8, .inl (k8, 400, .inl (fun _ => 0)))] := hD
  have hK : va_K D cls [(k8, .char)] s := hK
  refine va_putF (D := D) (ci := 1) (v := .ref q8) (ty := .array .char) (C := R_T) (T := F_T) (N := 2) hx hb hts hin_T fy_T fy_T_ok n_T hown hK hP hD hS 0 rfl rfl 0 (by decide) (hts _ k_T_9) (fun _ h9 => h9) rfl hin rfl (fy_T_ok 0 (by decide)) rfl rfl (Nat.le_of_ble_eq_true rfl) d_T_init_10 (fun H locs hP hD hS => ?_)
  have hP : va_P D cls [(h, .inr (1, [.ref q8, .int 0])), (q8, .inl (k8, 400, .inl (fun _ => 0)))] H := hP
  have hD : va_D A [(h, .inr (1, [.ref q8, .int 0])), (q8, .inl (k8, 400, .inl (fun _ => 0)))] := hD
  refine lv_aload_n hx hb d_T_init_13 rfl (lv_at hl 0 rfl) ?_
  refine lv_iconst (v := (0 : Int32)) hx hb d_T_init_14 (by decide) ?_
  refine u_T_size hx hb hts hown hK hP hD hS 0 rfl rfl d_T_init_15 (fun H locs hP hD hS => ?_)
  have hP : va_P D cls [(h, .inr (1, [.ref q8, .int 0])), (q8, .inl (k8, 400, .inl (fun _ => 0)))] H := hP
  have hD : va_D A [(h, .inr (1, [.ref q8, .int 0])), (q8, .inl (k8, 400, .inl (fun _ => 0)))] := hD
  exact hret H locs ls 18 d_T_init_18 hS (fun t ht hW => ⟨q8, k8, by rw [ht]; exact hP, va_K.moved hW.alike hK, hD⟩)
abbrev rm_W_init : Room := { frames := 1, cells := 3, slots := 414, locals := 12 }
set_option maxRecDepth 100000 in
set_option maxHeartbeats 4000000 in
theorem c_W_init (l : Launch) {D : va_G} {X : xT} {h : Nat} : MK l y_W_init b_W_init 1 rm_W_init D [] X h [(h, .inr (2, [.null, .int 0, .int 0, .null, .null, .int 0, .int 0]))] (fun A t => ∃ (q8 : Nat) (k8 : ClassId) (q26 : Nat) (k26 : ClassId) (q34 : Nat) (k34 : ClassId), va_P D cls [(h, .inr (2, [.ref q8, .int 0, .int 0, .ref q26, .ref q34, .int (-1 : Int32), .int (-1 : Int32)])), (q8, .inl (k8, 400, .inl (fun _ => 0))), (q26, .inl (k26, 7, .inl (fun _ => 0))), (q34, .inl (k34, 7, .inl (fun _ => 0)))] t.heap ∧ va_K D cls [(k8, .char), (k26, .boolean), (k34, .int)] t ∧ va_D A [(h, .inr (2, [.ref q8, .int 0, .int 0, .ref q26, .ref q34, .int (-1 : Int32), .int (-1 : Int32)])), (q8, .inl (k8, 400, .inl (fun _ => 0))), (q26, .inl (k26, 7, .inl (fun _ => 0))), (q34, .inl (k34, 7, .inl (fun _ => 0)))]) 3 414 := by
  refine my_of_K (by decide +kernel) rfl (Nat.le_of_ble_eq_true rfl) (fun p e s m args below meth c A QQ H locs ls hx hb hts hown hml hin hK hX hN hA hP hD hS hl hret => ?_)
  refine lv_aload_n hx hb d_W_init_0 rfl (lv_at hl 0 rfl) ?_
  refine W.objInit hx hb hown (hts _ k_W_3) (hts _ kn_obj) (hts _ kc_obj) rfl (by rw [hml]; exact hl.1) rfl d_W_init_1 (Nat.le_of_ble_eq_true rfl) (Nat.le_of_ble_eq_true rfl) ?_
  refine W.eq (g2 := F0 m 4 ls []) rfl ?_
  refine lv_aload_n hx hb d_W_init_4 rfl (lv_at hl 0 rfl) ?_
  refine lv_sipush (v := (400 : Int32)) hx hb d_W_init_5 (by decide) ?_
  refine va_newa (atype := .char) (ty := .char) (a0 := (400, .inl (fun _ => 0))) hx hb (hts _ ka_char) rfl hK hP hD hS hA (fun _ => rfl) (by decide) (by decide) (by decide) (Nat.le_of_ble_eq_true rfl) (Nat.le_of_ble_eq_true rfl) d_W_init_8 (fun q8 k8 H hK hP hD hS => ?_)
  have hP : va_P D cls [(h, .inr (2, [.null, .int 0, .int 0, .null, .null, .int 0, .int 0])), (q8, .inl (k8, 400, .inl (fun _ => 0)))] H := hP
  have hD : va_D A [(h, .inr (2, [.null, .int 0, .int 0, .null, .null, .int 0, .int 0])), (q8, .inl (k8, 400, .inl (fun _ => 0)))] := hD
  have hK : va_K D cls [(k8, .char)] s := hK
  refine va_putF (D := D) (ci := 2) (v := .ref q8) (ty := .array .char) (C := R_W) (T := F_W) (N := 7) hx hb hts hin_W fy_W fy_W_ok n_W hown hK hP hD hS 0 rfl rfl 0 (by decide) (hts _ k_W_9) (fun _ h9 => h9) rfl hin rfl (fy_W_ok 0 (by decide)) rfl rfl (Nat.le_of_ble_eq_true rfl) d_W_init_10 (fun H locs hP hD hS => ?_)
  have hP : va_P D cls [(h, .inr (2, [.ref q8, .int 0, .int 0, .null, .null, .int 0, .int 0])), (q8, .inl (k8, 400, .inl (fun _ => 0)))] H := hP
  have hD : va_D A [(h, .inr (2, [.ref q8, .int 0, .int 0, .null, .null, .int 0, .int 0])), (q8, .inl (k8, 400, .inl (fun _ => 0)))] := hD
  refine lv_aload_n hx hb d_W_init_13 rfl (lv_at hl 0 rfl) ?_
  refine lv_iconst (v := (0 : Int32)) hx hb d_W_init_14 (by decide) ?_
  refine u_W_rowSize hx hb hts hown hK hP hD hS 0 rfl rfl d_W_init_15 (fun H locs hP hD hS => ?_)
  have hP : va_P D cls [(h, .inr (2, [.ref q8, .int 0, .int 0, .null, .null, .int 0, .int 0])), (q8, .inl (k8, 400, .inl (fun _ => 0)))] H := hP
  have hD : va_D A [(h, .inr (2, [.ref q8, .int 0, .int 0, .null, .null, .int 0, .int 0])), (q8, .inl (k8, 400, .inl (fun _ => 0)))] := hD
  refine lv_aload_n hx hb d_W_init_18 rfl (lv_at hl 0 rfl) ?_
  refine lv_iconst (v := (0 : Int32)) hx hb d_W_init_19 (by decide) ?_
  refine u_W_at hx hb hts hown hK hP hD hS 0 rfl rfl d_W_init_20 (fun H locs hP hD hS => ?_)
  have hP : va_P D cls [(h, .inr (2, [.ref q8, .int 0, .int 0, .null, .null, .int 0, .int 0])), (q8, .inl (k8, 400, .inl (fun _ => 0)))] H := hP
  have hD : va_D A [(h, .inr (2, [.ref q8, .int 0, .int 0, .null, .null, .int 0, .int 0])), (q8, .inl (k8, 400, .inl (fun _ => 0)))] := hD
  refine lv_aload_n hx hb d_W_init_23 rfl (lv_at hl 0 rfl) ?_
  refine lv_bipush (v := (7 : Int32)) hx hb d_W_init_24 (by decide) ?_
  refine va_newa (atype := .boolean) (ty := .boolean) (a0 := (7, .inl (fun _ => 0))) hx hb (hts _ ka_boolean) rfl hK hP hD hS hA (fun _ => rfl) (by decide) (by decide) (by decide) (Nat.le_of_ble_eq_true rfl) (Nat.le_of_ble_eq_true rfl) d_W_init_26 (fun q26 k26 H hK hP hD hS => ?_)
  have hP : va_P D cls [(h, .inr (2, [.ref q8, .int 0, .int 0, .null, .null, .int 0, .int 0])), (q8, .inl (k8, 400, .inl (fun _ => 0))), (q26, .inl (k26, 7, .inl (fun _ => 0)))] H := hP
  have hD : va_D A [(h, .inr (2, [.ref q8, .int 0, .int 0, .null, .null, .int 0, .int 0])), (q8, .inl (k8, 400, .inl (fun _ => 0))), (q26, .inl (k26, 7, .inl (fun _ => 0)))] := hD
  have hK : va_K D cls [(k8, .char), (k26, .boolean)] s := hK
  refine va_putF (D := D) (ci := 2) (v := .ref q26) (ty := .array .boolean) (C := R_W) (T := F_W) (N := 7) hx hb hts hin_W fy_W fy_W_ok n_W hown hK hP hD hS 0 rfl rfl 3 (by decide) (hts _ k_W_22) (fun _ h9 => h9) rfl hin rfl (fy_W_ok 3 (by decide)) rfl rfl (Nat.le_of_ble_eq_true rfl) d_W_init_28 (fun H locs hP hD hS => ?_)
  have hP : va_P D cls [(h, .inr (2, [.ref q8, .int 0, .int 0, .ref q26, .null, .int 0, .int 0])), (q8, .inl (k8, 400, .inl (fun _ => 0))), (q26, .inl (k26, 7, .inl (fun _ => 0)))] H := hP
  have hD : va_D A [(h, .inr (2, [.ref q8, .int 0, .int 0, .ref q26, .null, .int 0, .int 0])), (q8, .inl (k8, 400, .inl (fun _ => 0))), (q26, .inl (k26, 7, .inl (fun _ => 0)))] := hD
  refine lv_aload_n hx hb d_W_init_31 rfl (lv_at hl 0 rfl) ?_
  refine lv_bipush (v := (7 : Int32)) hx hb d_W_init_32 (by decide) ?_
  refine va_newa (atype := .int) (ty := .int) (a0 := (7, .inl (fun _ => 0))) hx hb (hts _ ka_int) rfl hK hP hD hS hA (fun _ => rfl) (by decide) (by decide) (by decide) (Nat.le_of_ble_eq_true rfl) (Nat.le_of_ble_eq_true rfl) d_W_init_34 (fun q34 k34 H hK hP hD hS => ?_)
  have hP : va_P D cls [(h, .inr (2, [.ref q8, .int 0, .int 0, .ref q26, .null, .int 0, .int 0])), (q8, .inl (k8, 400, .inl (fun _ => 0))), (q26, .inl (k26, 7, .inl (fun _ => 0))), (q34, .inl (k34, 7, .inl (fun _ => 0)))] H := hP
  have hD : va_D A [(h, .inr (2, [.ref q8, .int 0, .int 0, .ref q26, .null, .int 0, .int 0])), (q8, .inl (k8, 400, .inl (fun _ => 0))), (q26, .inl (k26, 7, .inl (fun _ => 0))), (q34, .inl (k34, 7, .inl (fun _ => 0)))] := hD
  have hK : va_K D cls [(k8, .char), (k26, .boolean), (k34, .int)] s := hK
  refine va_putF (D := D) (ci := 2) (v := .ref q34) (ty := .array .int) (C := R_W) (T := F_W) (N := 7) hx hb hts hin_W fy_W fy_W_ok n_W hown hK hP hD hS 0 rfl rfl 4 (by decide) (hts _ k_W_26) (fun _ h9 => h9) rfl hin rfl (fy_W_ok 4 (by decide)) rfl rfl (Nat.le_of_ble_eq_true rfl) d_W_init_36 (fun H locs hP hD hS => ?_)
  have hP : va_P D cls [(h, .inr (2, [.ref q8, .int 0, .int 0, .ref q26, .ref q34, .int 0, .int 0])), (q8, .inl (k8, 400, .inl (fun _ => 0))), (q26, .inl (k26, 7, .inl (fun _ => 0))), (q34, .inl (k34, 7, .inl (fun _ => 0)))] H := hP
  have hD : va_D A [(h, .inr (2, [.ref q8, .int 0, .int 0, .ref q26, .ref q34, .int 0, .int 0])), (q8, .inl (k8, 400, .inl (fun _ => 0))), (q26, .inl (k26, 7, .inl (fun _ => 0))), (q34, .inl (k34, 7, .inl (fun _ => 0)))] := hD
  refine lv_aload_n hx hb d_W_init_39 rfl (lv_at hl 0 rfl) ?_
  refine lv_iconst (v := (-1 : Int32)) hx hb d_W_init_40 (by decide) ?_
  refine u_W_motion hx hb hts hown hK hP hD hS 0 rfl rfl d_W_init_41 (fun H locs hP hD hS => ?_)
  have hP : va_P D cls [(h, .inr (2, [.ref q8, .int 0, .int 0, .ref q26, .ref q34, .int (-1 : Int32), .int 0])), (q8, .inl (k8, 400, .inl (fun _ => 0))), (q26, .inl (k26, 7, .inl (fun _ => 0))), (q34, .inl (k34, 7, .inl (fun _ => 0)))] H := hP
  have hD : va_D A [(h, .inr (2, [.ref q8, .int 0, .int 0, .ref q26, .ref q34, .int (-1 : Int32), .int 0])), (q8, .inl (k8, 400, .inl (fun _ => 0))), (q26, .inl (k26, 7, .inl (fun _ => 0))), (q34, .inl (k34, 7, .inl (fun _ => 0)))] := hD
  refine lv_aload_n hx hb d_W_init_44 rfl (lv_at hl 0 rfl) ?_
  refine lv_iconst (v := (-1 : Int32)) hx hb d_W_init_45 (by decide) ?_
  refine u_W_distances hx hb hts hown hK hP hD hS 0 rfl rfl d_W_init_46 (fun H locs hP hD hS => ?_)
  have hP : va_P D cls [(h, .inr (2, [.ref q8, .int 0, .int 0, .ref q26, .ref q34, .int (-1 : Int32), .int (-1 : Int32)])), (q8, .inl (k8, 400, .inl (fun _ => 0))), (q26, .inl (k26, 7, .inl (fun _ => 0))), (q34, .inl (k34, 7, .inl (fun _ => 0)))] H := hP
  have hD : va_D A [(h, .inr (2, [.ref q8, .int 0, .int 0, .ref q26, .ref q34, .int (-1 : Int32), .int (-1 : Int32)])), (q8, .inl (k8, 400, .inl (fun _ => 0))), (q26, .inl (k26, 7, .inl (fun _ => 0))), (q34, .inl (k34, 7, .inl (fun _ => 0)))] := hD
  exact hret H locs ls 49 d_W_init_49 hS (fun t ht hW => ⟨q8, k8, q26, k26, q34, k34, by rw [ht]; exact hP, va_K.moved hW.alike hK, hD⟩)
abbrev rm_S_init : Room := { frames := 2, cells := 0, slots := 0, locals := 32 }
set_option maxRecDepth 100000 in
set_option maxHeartbeats 4000000 in
theorem c_S_init (l : Launch) {D : va_G} {X : xT} {h : Nat} : MK l y_S_init b_S_init 1 rm_S_init D [] X h [(h, .inr (3, [.int 0, .int 0, .int 0, .int 0, .int 0]))] (fun A t => va_P D cls [(h, .inr (3, [.int 0, .int 0, .int 0, .int 0, .int 0]))] t.heap ∧ va_K D cls [] t ∧ va_D A [(h, .inr (3, [.int 0, .int 0, .int 0, .int 0, .int 0]))]) 0 0 := by
  refine my_of_K (by decide +kernel) rfl (Nat.le_of_ble_eq_true rfl) (fun p e s m args below meth c A QQ H locs ls hx hb hts hown hml hin hK hX hN hA hP hD hS hl hret => ?_)
  refine lv_aload_n hx hb d_S_init_0 rfl (lv_at hl 0 rfl) ?_
  have hF0 := my_free hD hS hA
  refine va_callv (va_runIN (As := []) (rest := []) ⟨hx, hb, hml, hown, hts⟩ (c_Y_init l (D := D) (X := X) (ty := []) (h := h) (ci := 3) (fs := [.int 0, .int 0, .int 0, .int 0, .int 0]) H.size) (my_cnI hts kc_Y_init ki_Y kn_Y_init hN.2.2.2.2.1 rfl ⟨by decide +kernel, by decide +kernel, by decide +kernel⟩ ⟨Nat.le_of_ble_eq_true rfl, Nat.le_of_ble_eq_true rfl⟩) (my_preK hK hP hX hD hS (my_free hD hS hA) hN) rfl rfl hl.1 rfl (lv_room (Nat.le_of_ble_eq_true rfl)) d_S_init_1 ⟨Nat.le_of_ble_eq_true rfl, Nat.le_of_ble_eq_true rfl⟩) hS (fun q _ h => my_free hD hS hA q h) (my_free hD hS hA) (fun _ t H1 locs ht hvm _ hB hz1 hk1 hS => ?_)
  obtain ⟨hP1, hD1⟩ := hB
  rw [ht] at hP1
  replace hD := hD1.weaken (fun _ _ _ h => hF0 _ h)
  generalize H1 = H at hP1 hS ⊢
  have hP := hP1
  refine lv_aload_n hx hb d_S_init_4 rfl (lv_at hl 0 rfl) ?_
  refine lv_iconst (v := (0 : Int32)) hx hb d_S_init_5 (by decide) ?_
  refine u_S_startX hx hb hts hown hK hP hD hS 0 rfl rfl d_S_init_6 (fun H locs hP hD hS => ?_)
  have hP : va_P D cls [(h, .inr (3, [.int 0, .int 0, .int 0, .int 0, .int 0]))] H := hP
  have hD : va_D A [(h, .inr (3, [.int 0, .int 0, .int 0, .int 0, .int 0]))] := hD
  refine lv_aload_n hx hb d_S_init_9 rfl (lv_at hl 0 rfl) ?_
  refine lv_iconst (v := (0 : Int32)) hx hb d_S_init_10 (by decide) ?_
  refine u_S_startY hx hb hts hown hK hP hD hS 0 rfl rfl d_S_init_11 (fun H locs hP hD hS => ?_)
  have hP : va_P D cls [(h, .inr (3, [.int 0, .int 0, .int 0, .int 0, .int 0]))] H := hP
  have hD : va_D A [(h, .inr (3, [.int 0, .int 0, .int 0, .int 0, .int 0]))] := hD
  refine lv_aload_n hx hb d_S_init_14 rfl (lv_at hl 0 rfl) ?_
  refine lv_iconst (v := (0 : Int32)) hx hb d_S_init_15 (by decide) ?_
  refine u_S_dx hx hb hts hown hK hP hD hS 0 rfl rfl d_S_init_16 (fun H locs hP hD hS => ?_)
  have hP : va_P D cls [(h, .inr (3, [.int 0, .int 0, .int 0, .int 0, .int 0]))] H := hP
  have hD : va_D A [(h, .inr (3, [.int 0, .int 0, .int 0, .int 0, .int 0]))] := hD
  refine lv_aload_n hx hb d_S_init_19 rfl (lv_at hl 0 rfl) ?_
  refine lv_iconst (v := (0 : Int32)) hx hb d_S_init_20 (by decide) ?_
  refine u_S_dy hx hb hts hown hK hP hD hS 0 rfl rfl d_S_init_21 (fun H locs hP hD hS => ?_)
  have hP : va_P D cls [(h, .inr (3, [.int 0, .int 0, .int 0, .int 0, .int 0]))] H := hP
  have hD : va_D A [(h, .inr (3, [.int 0, .int 0, .int 0, .int 0, .int 0]))] := hD
  refine lv_aload_n hx hb d_S_init_24 rfl (lv_at hl 0 rfl) ?_
  refine lv_iconst (v := (0 : Int32)) hx hb d_S_init_25 (by decide) ?_
  refine u_S_size hx hb hts hown hK hP hD hS 0 rfl rfl d_S_init_26 (fun H locs hP hD hS => ?_)
  have hP : va_P D cls [(h, .inr (3, [.int 0, .int 0, .int 0, .int 0, .int 0]))] H := hP
  have hD : va_D A [(h, .inr (3, [.int 0, .int 0, .int 0, .int 0, .int 0]))] := hD
  exact hret H locs ls 29 d_S_init_29 hS (fun t ht hW => ⟨by rw [ht]; exact hP, va_K.moved hW.alike hK, hD⟩)
abbrev rm_A_init : Room := { frames := 2, cells := 1, slots := 202, locals := 32 }
set_option maxRecDepth 100000 in
set_option maxHeartbeats 4000000 in
theorem c_A_init (l : Launch) {D : va_G} {X : xT} {h : Nat} : MK l y_A_init b_A_init 1 rm_A_init D [] X h [(h, .inr (4, [.null, .int 0, .int 0, .int 0, .int 0, .int 0, .int 0, .int 0]))] (fun A t => ∃ (q8 : Nat) (k8 : ClassId), va_P D cls [(h, .inr (4, [.ref q8, .int 0, .int 0, .int 0, .int 1, .int 0, .int 1, .int 0])), (q8, .inl (k8, 202, .inl (fun _ => 0)))] t.heap ∧ va_K D cls [(k8, .int)] t ∧ va_D A [(h, .inr (4, [.ref q8, .int 0, .int 0, .int 0, .int 1, .int 0, .int 1, .int 0])), (q8, .inl (k8, 202, .inl (fun _ => 0)))]) 1 202 := by
  refine my_of_K (by decide +kernel) rfl (Nat.le_of_ble_eq_true rfl) (fun p e s m args below meth c A QQ H locs ls hx hb hts hown hml hin hK hX hN hA hP hD hS hl hret => ?_)
  refine lv_aload_n hx hb d_A_init_0 rfl (lv_at hl 0 rfl) ?_
  have hF0 := my_free hD hS hA
  refine va_callv (va_runIN (As := []) (rest := []) ⟨hx, hb, hml, hown, hts⟩ (c_Y_init l (D := D) (X := X) (ty := []) (h := h) (ci := 4) (fs := [.null, .int 0, .int 0, .int 0, .int 0, .int 0, .int 0, .int 0]) H.size) (my_cnI hts kc_Y_init ki_Y kn_Y_init hN.2.2.2.2.2 rfl ⟨by decide +kernel, by decide +kernel, by decide +kernel⟩ ⟨Nat.le_of_ble_eq_true rfl, Nat.le_of_ble_eq_true rfl⟩) (my_preK hK hP hX hD hS (my_free hD hS hA) hN) rfl rfl hl.1 rfl (lv_room (Nat.le_of_ble_eq_true rfl)) d_A_init_1 ⟨Nat.le_of_ble_eq_true rfl, Nat.le_of_ble_eq_true rfl⟩) hS (fun q _ h => my_free hD hS hA q h) (my_free hD hS hA) (fun _ t H1 locs ht hvm _ hB hz1 hk1 hS => ?_)
  obtain ⟨hP1, hD1⟩ := hB
  rw [ht] at hP1
  replace hD := hD1.weaken (fun _ _ _ h => hF0 _ h)
  generalize H1 = H at hP1 hS ⊢
  have hP := hP1
  refine lv_aload_n hx hb d_A_init_4 rfl (lv_at hl 0 rfl) ?_
  refine lv_sipush (v := (202 : Int32)) hx hb d_A_init_5 (by decide) ?_
  refine va_newa (atype := .int) (ty := .int) (a0 := (202, .inl (fun _ => 0))) hx hb (hts _ ka_int) rfl hK hP hD hS hA (fun _ => rfl) (by decide) (by decide) (by decide) (Nat.le_of_ble_eq_true rfl) (Nat.le_of_ble_eq_true rfl) d_A_init_8 (fun q8 k8 H hK hP hD hS => ?_)
  have hP : va_P D cls [(h, .inr (4, [.null, .int 0, .int 0, .int 0, .int 0, .int 0, .int 0, .int 0])), (q8, .inl (k8, 202, .inl (fun _ => 0)))] H := hP
  have hD : va_D A [(h, .inr (4, [.null, .int 0, .int 0, .int 0, .int 0, .int 0, .int 0, .int 0])), (q8, .inl (k8, 202, .inl (fun _ => 0)))] := hD
  have hK : va_K D cls [(k8, .int)] s := hK
  refine va_putF (D := D) (ci := 4) (v := .ref q8) (ty := .array .int) (C := R_A) (T := F_A) (N := 8) hx hb hts hin_A fy_A fy_A_ok n_A hown hK hP hD hS 0 rfl rfl 0 (by decide) (hts _ k_A_9) (fun _ h9 => h9) rfl hin rfl (fy_A_ok 0 (by decide)) rfl rfl (Nat.le_of_ble_eq_true rfl) d_A_init_10 (fun H locs hP hD hS => ?_)
  have hP : va_P D cls [(h, .inr (4, [.ref q8, .int 0, .int 0, .int 0, .int 0, .int 0, .int 0, .int 0])), (q8, .inl (k8, 202, .inl (fun _ => 0)))] H := hP
  have hD : va_D A [(h, .inr (4, [.ref q8, .int 0, .int 0, .int 0, .int 0, .int 0, .int 0, .int 0])), (q8, .inl (k8, 202, .inl (fun _ => 0)))] := hD
  refine lv_aload_n hx hb d_A_init_13 rfl (lv_at hl 0 rfl) ?_
  refine lv_iconst (v := (0 : Int32)) hx hb d_A_init_14 (by decide) ?_
  refine u_A_centreX hx hb hts hown hK hP hD hS 0 rfl rfl d_A_init_15 (fun H locs hP hD hS => ?_)
  have hP : va_P D cls [(h, .inr (4, [.ref q8, .int 0, .int 0, .int 0, .int 0, .int 0, .int 0, .int 0])), (q8, .inl (k8, 202, .inl (fun _ => 0)))] H := hP
  have hD : va_D A [(h, .inr (4, [.ref q8, .int 0, .int 0, .int 0, .int 0, .int 0, .int 0, .int 0])), (q8, .inl (k8, 202, .inl (fun _ => 0)))] := hD
  refine lv_aload_n hx hb d_A_init_18 rfl (lv_at hl 0 rfl) ?_
  refine lv_iconst (v := (0 : Int32)) hx hb d_A_init_19 (by decide) ?_
  refine u_A_centreY hx hb hts hown hK hP hD hS 0 rfl rfl d_A_init_20 (fun H locs hP hD hS => ?_)
  have hP : va_P D cls [(h, .inr (4, [.ref q8, .int 0, .int 0, .int 0, .int 0, .int 0, .int 0, .int 0])), (q8, .inl (k8, 202, .inl (fun _ => 0)))] H := hP
  have hD : va_D A [(h, .inr (4, [.ref q8, .int 0, .int 0, .int 0, .int 0, .int 0, .int 0, .int 0])), (q8, .inl (k8, 202, .inl (fun _ => 0)))] := hD
  refine lv_aload_n hx hb d_A_init_23 rfl (lv_at hl 0 rfl) ?_
  refine lv_iconst (v := (0 : Int32)) hx hb d_A_init_24 (by decide) ?_
  refine u_A_diagonal hx hb hts hown hK hP hD hS 0 rfl rfl d_A_init_25 (fun H locs hP hD hS => ?_)
  have hP : va_P D cls [(h, .inr (4, [.ref q8, .int 0, .int 0, .int 0, .int 0, .int 0, .int 0, .int 0])), (q8, .inl (k8, 202, .inl (fun _ => 0)))] H := hP
  have hD : va_D A [(h, .inr (4, [.ref q8, .int 0, .int 0, .int 0, .int 0, .int 0, .int 0, .int 0])), (q8, .inl (k8, 202, .inl (fun _ => 0)))] := hD
  refine lv_aload_n hx hb d_A_init_28 rfl (lv_at hl 0 rfl) ?_
  refine lv_iconst (v := (1 : Int32)) hx hb d_A_init_29 (by decide) ?_
  refine u_A_side hx hb hts hown hK hP hD hS 0 rfl rfl d_A_init_30 (fun H locs hP hD hS => ?_)
  have hP : va_P D cls [(h, .inr (4, [.ref q8, .int 0, .int 0, .int 0, .int 1, .int 0, .int 0, .int 0])), (q8, .inl (k8, 202, .inl (fun _ => 0)))] H := hP
  have hD : va_D A [(h, .inr (4, [.ref q8, .int 0, .int 0, .int 0, .int 1, .int 0, .int 0, .int 0])), (q8, .inl (k8, 202, .inl (fun _ => 0)))] := hD
  refine lv_aload_n hx hb d_A_init_33 rfl (lv_at hl 0 rfl) ?_
  refine lv_iconst (v := (0 : Int32)) hx hb d_A_init_34 (by decide) ?_
  refine u_A_first hx hb hts hown hK hP hD hS 0 rfl rfl d_A_init_35 (fun H locs hP hD hS => ?_)
  have hP : va_P D cls [(h, .inr (4, [.ref q8, .int 0, .int 0, .int 0, .int 1, .int 0, .int 0, .int 0])), (q8, .inl (k8, 202, .inl (fun _ => 0)))] H := hP
  have hD : va_D A [(h, .inr (4, [.ref q8, .int 0, .int 0, .int 0, .int 1, .int 0, .int 0, .int 0])), (q8, .inl (k8, 202, .inl (fun _ => 0)))] := hD
  refine lv_aload_n hx hb d_A_init_38 rfl (lv_at hl 0 rfl) ?_
  refine lv_iconst (v := (1 : Int32)) hx hb d_A_init_39 (by decide) ?_
  refine u_A_turn hx hb hts hown hK hP hD hS 0 rfl rfl d_A_init_40 (fun H locs hP hD hS => ?_)
  have hP : va_P D cls [(h, .inr (4, [.ref q8, .int 0, .int 0, .int 0, .int 1, .int 0, .int 1, .int 0])), (q8, .inl (k8, 202, .inl (fun _ => 0)))] H := hP
  have hD : va_D A [(h, .inr (4, [.ref q8, .int 0, .int 0, .int 0, .int 1, .int 0, .int 1, .int 0])), (q8, .inl (k8, 202, .inl (fun _ => 0)))] := hD
  refine lv_aload_n hx hb d_A_init_43 rfl (lv_at hl 0 rfl) ?_
  refine lv_iconst (v := (0 : Int32)) hx hb d_A_init_44 (by decide) ?_
  refine u_A_size hx hb hts hown hK hP hD hS 0 rfl rfl d_A_init_45 (fun H locs hP hD hS => ?_)
  have hP : va_P D cls [(h, .inr (4, [.ref q8, .int 0, .int 0, .int 0, .int 1, .int 0, .int 1, .int 0])), (q8, .inl (k8, 202, .inl (fun _ => 0)))] H := hP
  have hD : va_D A [(h, .inr (4, [.ref q8, .int 0, .int 0, .int 0, .int 1, .int 0, .int 1, .int 0])), (q8, .inl (k8, 202, .inl (fun _ => 0)))] := hD
  exact hret H locs ls 48 d_A_init_48 hS (fun t ht hW => ⟨q8, k8, by rw [ht]; exact hP, va_K.moved hW.alike hK, hD⟩)
abbrev ty5 (k0 k1 k2 k3 k4 : ClassId) : List (ClassId × FieldType) := [(k0, .char), (k1, .char), (k2, .boolean), (k3, .int), (k4, .int)]
abbrev rm_P_init : Room := { frames := 3, cells := 9, slots := 1038, locals := 52 }
set_option maxRecDepth 100000 in
set_option maxHeartbeats 4000000 in
theorem c_P_init (l : Launch) {D : va_G} {X : xT} {h : Nat} : MK l y_P_init b_P_init 1 rm_P_init D [] X h [(h, .inr (0, [.null, .null, .null, .null, .null, .int 0, .int 0, .int 0, .int 0, .int 0, .int 0, .int 0, .int 0, .long 0, .int 0, .int 0, .int 0, .int 0, .int 0]))] (fun A t => ∃ (a : Nat → Nat) (k0 k1 k2 k3 k4 : ClassId), a 0 = h ∧ va_P D cls (o_P a false 0 0 0 0 0 0 0 0 0 0 4 0 0 0 :: o_T a 0 :: o_tc a (mkK [k0, k1, k2, k3, k4] k4) (fun _ => 0) :: o_W a 0 0 (-1) (-1) :: o_wr a (mkK [k0, k1, k2, k3, k4] k4) (fun _ => 0) :: o_wz a (mkK [k0, k1, k2, k3, k4] k4) (fun _ => 0) :: o_wn a (mkK [k0, k1, k2, k3, k4] k4) (fun _ => 0) :: o_S a 0 0 0 0 0 :: o_A a 0 0 0 1 0 1 0 :: o_ar a (mkK [k0, k1, k2, k3, k4] k4) (fun _ => 0) :: []) t.heap ∧ va_K D cls (ty5 k0 k1 k2 k3 k4) t ∧ va_D A (o_P a false 0 0 0 0 0 0 0 0 0 0 4 0 0 0 :: o_T a 0 :: o_tc a (mkK [k0, k1, k2, k3, k4] k4) (fun _ => 0) :: o_W a 0 0 (-1) (-1) :: o_wr a (mkK [k0, k1, k2, k3, k4] k4) (fun _ => 0) :: o_wz a (mkK [k0, k1, k2, k3, k4] k4) (fun _ => 0) :: o_wn a (mkK [k0, k1, k2, k3, k4] k4) (fun _ => 0) :: o_S a 0 0 0 0 0 :: o_A a 0 0 0 1 0 1 0 :: o_ar a (mkK [k0, k1, k2, k3, k4] k4) (fun _ => 0) :: [])) 9 1038 := by
  refine my_of_K (by decide +kernel) rfl (Nat.le_of_ble_eq_true rfl) (fun p e s m args below meth c A QQ H locs ls hx hb hts hown hml hin hK hX hN hA hP hD hS hl hret => ?_)
  refine lv_aload_n hx hb d_P_init_0 rfl (lv_at hl 0 rfl) ?_
  refine W.objInit hx hb hown (hts _ k_P_1) (hts _ kn_obj) (hts _ kc_obj) rfl (by rw [hml]; exact hl.1) rfl d_P_init_1 (Nat.le_of_ble_eq_true rfl) (Nat.le_of_ble_eq_true rfl) ?_
  refine W.eq (g2 := F0 m 4 ls []) rfl ?_
  refine lv_aload_n hx hb d_P_init_4 rfl (lv_at hl 0 rfl) ?_
  refine va_new (ci := 1) (fs := [.null, .int 0]) (C := R_T) (T := F_T) (N := 2) hx hb hts hin_T fy_T fy_T_ok hown (hts _ k_P_7) (hts _ kt_T) (hts _ ki_T) hK hP hD hS hA rfl (fun j hj => by rcases (by omega : j = 0 ∨ j = 1) with rfl | rfl <;> rfl) (Nat.le_of_ble_eq_true rfl) (Nat.le_of_ble_eq_true rfl) d_P_init_5 (fun qT H hP hD hS => ?_)
  have hP : va_P D cls [(h, .inr (0, [.null, .null, .null, .null, .null, .int 0, .int 0, .int 0, .int 0, .int 0, .int 0, .int 0, .int 0, .long 0, .int 0, .int 0, .int 0, .int 0, .int 0])), (qT, .inr (1, [.null, .int 0]))] H := hP
  have hD : va_D A [(h, .inr (0, [.null, .null, .null, .null, .null, .int 0, .int 0, .int 0, .int 0, .int 0, .int 0, .int 0, .int 0, .long 0, .int 0, .int 0, .int 0, .int 0, .int 0])), (qT, .inr (1, [.null, .int 0]))] := hD
  refine lv_dup hx hb d_P_init_8 rfl ?_
  have hPc := hP.sub (ws' := [(qT, .inr (1, [.null, .int 0]))]) [1] rfl
  have hDc := hD.sub (ws' := [(qT, .inr (1, [.null, .int 0]))]) [1] (by decide) rfl
  have hKc := hK.sub (tys' := []) [] rfl
  have hFc := va_free (wc := [(qT, .inr (1, [.null, .int 0]))]) hD hS hA [1] rfl
  refine va_callv (va_runIN (As := []) (rest := [.ref qT, .ref h]) ⟨hx, hb, hml, hown, hts⟩ (c_T_init l (D := D) (X := X) (h := qT) H.size) (my_cnI hts kc_T_init ki_T kn_T_init hN.1 rfl ⟨by decide +kernel, by decide +kernel, by decide +kernel⟩ ⟨Nat.le_of_ble_eq_true rfl, Nat.le_of_ble_eq_true rfl⟩) (my_preK hKc hPc hX hDc hS hFc hN) rfl rfl hl.1 rfl (lv_room (Nat.le_of_ble_eq_true rfl)) d_P_init_9 ⟨Nat.le_of_ble_eq_true rfl, Nat.le_of_ble_eq_true rfl⟩) hS (fun q _ h => hFc q h) hFc (fun _ t H1 locs ht hvm _ hB hz1 hk1 hS => ?_)
  obtain ⟨qT8, kT8, hP1, hK1, hD1⟩ := hB
  rw [ht] at hP1
  replace hK1 := va_K.moved hvm.symm hK1
  obtain ⟨hP, hD⟩ := va_join (wr := [(h, .inr (0, [.null, .null, .null, .null, .null, .int 0, .int 0, .int 0, .int 0, .int 0, .int 0, .int 0, .int 0, .long 0, .int 0, .int 0, .int 0, .int 0, .int 0]))]) (w1 := [(qT, .inr (1, [.ref qT8, .int 0])), (qT8, .inl (kT8, 400, .inl (fun _ => 0)))]) hP hD [1] [0] rfl rfl (by decide) (by decide) hk1 hFc hP1 hD1
  have hK := hK.app hK1
  generalize H1 = H at hP hS ⊢
  have hP : va_P D cls [(h, .inr (0, [.null, .null, .null, .null, .null, .int 0, .int 0, .int 0, .int 0, .int 0, .int 0, .int 0, .int 0, .long 0, .int 0, .int 0, .int 0, .int 0, .int 0])), (qT, .inr (1, [.ref qT8, .int 0])), (qT8, .inl (kT8, 400, .inl (fun _ => 0)))] H := hP
  have hD : va_D A [(h, .inr (0, [.null, .null, .null, .null, .null, .int 0, .int 0, .int 0, .int 0, .int 0, .int 0, .int 0, .int 0, .long 0, .int 0, .int 0, .int 0, .int 0, .int 0])), (qT, .inr (1, [.ref qT8, .int 0])), (qT8, .inl (kT8, 400, .inl (fun _ => 0)))] := hD
  have hK : va_K D cls [(kT8, .char)] s := hK
  refine va_putF (D := D) (ci := 0) (v := .ref qT) (ty := .object "PulsePlotter$Text") (C := R_P) (T := F_P) (N := 19) hx hb hts hin_P fy_P fy_P_ok n_P hown hK hP hD hS 0 rfl rfl 0 (by decide) (hts _ k_P_10) (fun _ h9 => h9) rfl hin rfl (fy_P_ok 0 (by decide)) rfl rfl (Nat.le_of_ble_eq_true rfl) d_P_init_12 (fun H locs hP hD hS => ?_)
  have hP : va_P D cls [(h, .inr (0, [.ref qT, .null, .null, .null, .null, .int 0, .int 0, .int 0, .int 0, .int 0, .int 0, .int 0, .int 0, .long 0, .int 0, .int 0, .int 0, .int 0, .int 0])), (qT, .inr (1, [.ref qT8, .int 0])), (qT8, .inl (kT8, 400, .inl (fun _ => 0)))] H := hP
  have hD : va_D A [(h, .inr (0, [.ref qT, .null, .null, .null, .null, .int 0, .int 0, .int 0, .int 0, .int 0, .int 0, .int 0, .int 0, .long 0, .int 0, .int 0, .int 0, .int 0, .int 0])), (qT, .inr (1, [.ref qT8, .int 0])), (qT8, .inl (kT8, 400, .inl (fun _ => 0)))] := hD
  refine lv_aload_n hx hb d_P_init_15 rfl (lv_at hl 0 rfl) ?_
  refine va_new (ci := 2) (fs := [.null, .int 0, .int 0, .null, .null, .int 0, .int 0]) (C := R_W) (T := F_W) (N := 7) hx hb hts hin_W fy_W fy_W_ok hown (hts _ k_P_16) (hts _ kt_W) (hts _ ki_W) hK hP hD hS hA rfl (fun j hj => by rcases (by omega : j = 0 ∨ j = 1 ∨ j = 2 ∨ j = 3 ∨ j = 4 ∨ j = 5 ∨ j = 6) with rfl | rfl | rfl | rfl | rfl | rfl | rfl <;> rfl) (Nat.le_of_ble_eq_true rfl) (Nat.le_of_ble_eq_true rfl) d_P_init_16 (fun qW H hP hD hS => ?_)
  have hP : va_P D cls [(h, .inr (0, [.ref qT, .null, .null, .null, .null, .int 0, .int 0, .int 0, .int 0, .int 0, .int 0, .int 0, .int 0, .long 0, .int 0, .int 0, .int 0, .int 0, .int 0])), (qT, .inr (1, [.ref qT8, .int 0])), (qT8, .inl (kT8, 400, .inl (fun _ => 0))), (qW, .inr (2, [.null, .int 0, .int 0, .null, .null, .int 0, .int 0]))] H := hP
  have hD : va_D A [(h, .inr (0, [.ref qT, .null, .null, .null, .null, .int 0, .int 0, .int 0, .int 0, .int 0, .int 0, .int 0, .int 0, .long 0, .int 0, .int 0, .int 0, .int 0, .int 0])), (qT, .inr (1, [.ref qT8, .int 0])), (qT8, .inl (kT8, 400, .inl (fun _ => 0))), (qW, .inr (2, [.null, .int 0, .int 0, .null, .null, .int 0, .int 0]))] := hD
  refine lv_dup hx hb d_P_init_19 rfl ?_
  have hPc := hP.sub (ws' := [(qW, .inr (2, [.null, .int 0, .int 0, .null, .null, .int 0, .int 0]))]) [3] rfl
  have hDc := hD.sub (ws' := [(qW, .inr (2, [.null, .int 0, .int 0, .null, .null, .int 0, .int 0]))]) [3] (by decide) rfl
  have hKc := hK.sub (tys' := []) [] rfl
  have hFc := va_free (wc := [(qW, .inr (2, [.null, .int 0, .int 0, .null, .null, .int 0, .int 0]))]) hD hS hA [3] rfl
  refine va_callv (va_runIN (As := []) (rest := [.ref qW, .ref h]) ⟨hx, hb, hml, hown, hts⟩ (c_W_init l (D := D) (X := X) (h := qW) H.size) (my_cnI hts kc_W_init ki_W kn_W_init hN.2.1 rfl ⟨by decide +kernel, by decide +kernel, by decide +kernel⟩ ⟨Nat.le_of_ble_eq_true rfl, Nat.le_of_ble_eq_true rfl⟩) (my_preK hKc hPc hX hDc hS hFc hN) rfl rfl hl.1 rfl (lv_room (Nat.le_of_ble_eq_true rfl)) d_P_init_20 ⟨Nat.le_of_ble_eq_true rfl, Nat.le_of_ble_eq_true rfl⟩) hS (fun q _ h => hFc q h) hFc (fun _ t H1 locs ht hvm _ hB hz1 hk1 hS => ?_)
  obtain ⟨qW8, kW8, qW26, kW26, qW34, kW34, hP1, hK1, hD1⟩ := hB
  rw [ht] at hP1
  replace hK1 := va_K.moved hvm.symm hK1
  obtain ⟨hP, hD⟩ := va_join (wr := [(h, .inr (0, [.ref qT, .null, .null, .null, .null, .int 0, .int 0, .int 0, .int 0, .int 0, .int 0, .int 0, .int 0, .long 0, .int 0, .int 0, .int 0, .int 0, .int 0])), (qT, .inr (1, [.ref qT8, .int 0])), (qT8, .inl (kT8, 400, .inl (fun _ => 0)))]) (w1 := [(qW, .inr (2, [.ref qW8, .int 0, .int 0, .ref qW26, .ref qW34, .int (-1 : Int32), .int (-1 : Int32)])), (qW8, .inl (kW8, 400, .inl (fun _ => 0))), (qW26, .inl (kW26, 7, .inl (fun _ => 0))), (qW34, .inl (kW34, 7, .inl (fun _ => 0)))]) hP hD [3] [0, 1, 2] rfl rfl (by decide) (by decide) hk1 hFc hP1 hD1
  have hK := hK.app hK1
  generalize H1 = H at hP hS ⊢
  have hP : va_P D cls [(h, .inr (0, [.ref qT, .null, .null, .null, .null, .int 0, .int 0, .int 0, .int 0, .int 0, .int 0, .int 0, .int 0, .long 0, .int 0, .int 0, .int 0, .int 0, .int 0])), (qT, .inr (1, [.ref qT8, .int 0])), (qT8, .inl (kT8, 400, .inl (fun _ => 0))), (qW, .inr (2, [.ref qW8, .int 0, .int 0, .ref qW26, .ref qW34, .int (-1 : Int32), .int (-1 : Int32)])), (qW8, .inl (kW8, 400, .inl (fun _ => 0))), (qW26, .inl (kW26, 7, .inl (fun _ => 0))), (qW34, .inl (kW34, 7, .inl (fun _ => 0)))] H := hP
  have hD : va_D A [(h, .inr (0, [.ref qT, .null, .null, .null, .null, .int 0, .int 0, .int 0, .int 0, .int 0, .int 0, .int 0, .int 0, .long 0, .int 0, .int 0, .int 0, .int 0, .int 0])), (qT, .inr (1, [.ref qT8, .int 0])), (qT8, .inl (kT8, 400, .inl (fun _ => 0))), (qW, .inr (2, [.ref qW8, .int 0, .int 0, .ref qW26, .ref qW34, .int (-1 : Int32), .int (-1 : Int32)])), (qW8, .inl (kW8, 400, .inl (fun _ => 0))), (qW26, .inl (kW26, 7, .inl (fun _ => 0))), (qW34, .inl (kW34, 7, .inl (fun _ => 0)))] := hD
  have hK : va_K D cls [(kT8, .char), (kW8, .char), (kW26, .boolean), (kW34, .int)] s := hK
  refine va_putF (D := D) (ci := 0) (v := .ref qW) (ty := .object "PulsePlotter$Words") (C := R_P) (T := F_P) (N := 19) hx hb hts hin_P fy_P fy_P_ok n_P hown hK hP hD hS 0 rfl rfl 1 (by decide) (hts _ k_P_19) (fun _ h9 => h9) rfl hin rfl (fy_P_ok 1 (by decide)) rfl rfl (Nat.le_of_ble_eq_true rfl) d_P_init_23 (fun H locs hP hD hS => ?_)
  have hP : va_P D cls [(h, .inr (0, [.ref qT, .ref qW, .null, .null, .null, .int 0, .int 0, .int 0, .int 0, .int 0, .int 0, .int 0, .int 0, .long 0, .int 0, .int 0, .int 0, .int 0, .int 0])), (qT, .inr (1, [.ref qT8, .int 0])), (qT8, .inl (kT8, 400, .inl (fun _ => 0))), (qW, .inr (2, [.ref qW8, .int 0, .int 0, .ref qW26, .ref qW34, .int (-1 : Int32), .int (-1 : Int32)])), (qW8, .inl (kW8, 400, .inl (fun _ => 0))), (qW26, .inl (kW26, 7, .inl (fun _ => 0))), (qW34, .inl (kW34, 7, .inl (fun _ => 0)))] H := hP
  have hD : va_D A [(h, .inr (0, [.ref qT, .ref qW, .null, .null, .null, .int 0, .int 0, .int 0, .int 0, .int 0, .int 0, .int 0, .int 0, .long 0, .int 0, .int 0, .int 0, .int 0, .int 0])), (qT, .inr (1, [.ref qT8, .int 0])), (qT8, .inl (kT8, 400, .inl (fun _ => 0))), (qW, .inr (2, [.ref qW8, .int 0, .int 0, .ref qW26, .ref qW34, .int (-1 : Int32), .int (-1 : Int32)])), (qW8, .inl (kW8, 400, .inl (fun _ => 0))), (qW26, .inl (kW26, 7, .inl (fun _ => 0))), (qW34, .inl (kW34, 7, .inl (fun _ => 0)))] := hD
  refine lv_aload_n hx hb d_P_init_26 rfl (lv_at hl 0 rfl) ?_
  refine va_new (ci := 3) (fs := [.int 0, .int 0, .int 0, .int 0, .int 0]) (C := R_S) (T := F_S) (N := 5) hx hb hts hin_S fy_S fy_S_ok hown (hts _ k_P_23) (hts _ kt_S) (hts _ ki_S) hK hP hD hS hA rfl (fun j hj => by rcases (by omega : j = 0 ∨ j = 1 ∨ j = 2 ∨ j = 3 ∨ j = 4) with rfl | rfl | rfl | rfl | rfl <;> rfl) (Nat.le_of_ble_eq_true rfl) (Nat.le_of_ble_eq_true rfl) d_P_init_27 (fun qS H hP hD hS => ?_)
  have hP : va_P D cls [(h, .inr (0, [.ref qT, .ref qW, .null, .null, .null, .int 0, .int 0, .int 0, .int 0, .int 0, .int 0, .int 0, .int 0, .long 0, .int 0, .int 0, .int 0, .int 0, .int 0])), (qT, .inr (1, [.ref qT8, .int 0])), (qT8, .inl (kT8, 400, .inl (fun _ => 0))), (qW, .inr (2, [.ref qW8, .int 0, .int 0, .ref qW26, .ref qW34, .int (-1 : Int32), .int (-1 : Int32)])), (qW8, .inl (kW8, 400, .inl (fun _ => 0))), (qW26, .inl (kW26, 7, .inl (fun _ => 0))), (qW34, .inl (kW34, 7, .inl (fun _ => 0))), (qS, .inr (3, [.int 0, .int 0, .int 0, .int 0, .int 0]))] H := hP
  have hD : va_D A [(h, .inr (0, [.ref qT, .ref qW, .null, .null, .null, .int 0, .int 0, .int 0, .int 0, .int 0, .int 0, .int 0, .int 0, .long 0, .int 0, .int 0, .int 0, .int 0, .int 0])), (qT, .inr (1, [.ref qT8, .int 0])), (qT8, .inl (kT8, 400, .inl (fun _ => 0))), (qW, .inr (2, [.ref qW8, .int 0, .int 0, .ref qW26, .ref qW34, .int (-1 : Int32), .int (-1 : Int32)])), (qW8, .inl (kW8, 400, .inl (fun _ => 0))), (qW26, .inl (kW26, 7, .inl (fun _ => 0))), (qW34, .inl (kW34, 7, .inl (fun _ => 0))), (qS, .inr (3, [.int 0, .int 0, .int 0, .int 0, .int 0]))] := hD
  refine lv_dup hx hb d_P_init_30 rfl ?_
  have hPc := hP.sub (ws' := [(qS, .inr (3, [.int 0, .int 0, .int 0, .int 0, .int 0]))]) [7] rfl
  have hDc := hD.sub (ws' := [(qS, .inr (3, [.int 0, .int 0, .int 0, .int 0, .int 0]))]) [7] (by decide) rfl
  have hKc := hK.sub (tys' := []) [] rfl
  have hFc := va_free (wc := [(qS, .inr (3, [.int 0, .int 0, .int 0, .int 0, .int 0]))]) hD hS hA [7] rfl
  refine va_callv (va_runIN (As := []) (rest := [.ref qS, .ref h]) ⟨hx, hb, hml, hown, hts⟩ (c_S_init l (D := D) (X := X) (h := qS) H.size) (my_cnI hts kc_S_init ki_S kn_S_init hN.2.2.1 rfl ⟨by decide +kernel, by decide +kernel, by decide +kernel⟩ ⟨Nat.le_of_ble_eq_true rfl, Nat.le_of_ble_eq_true rfl⟩) (my_preK hKc hPc hX hDc hS hFc hN) rfl rfl hl.1 rfl (lv_room (Nat.le_of_ble_eq_true rfl)) d_P_init_31 ⟨Nat.le_of_ble_eq_true rfl, Nat.le_of_ble_eq_true rfl⟩) hS (fun q _ h => hFc q h) hFc (fun _ t H1 locs ht hvm _ hB hz1 hk1 hS => ?_)
  obtain ⟨hP1, hK1, hD1⟩ := hB
  rw [ht] at hP1
  replace hK1 := va_K.moved hvm.symm hK1
  obtain ⟨hP, hD⟩ := va_join (wr := [(h, .inr (0, [.ref qT, .ref qW, .null, .null, .null, .int 0, .int 0, .int 0, .int 0, .int 0, .int 0, .int 0, .int 0, .long 0, .int 0, .int 0, .int 0, .int 0, .int 0])), (qT, .inr (1, [.ref qT8, .int 0])), (qT8, .inl (kT8, 400, .inl (fun _ => 0))), (qW, .inr (2, [.ref qW8, .int 0, .int 0, .ref qW26, .ref qW34, .int (-1 : Int32), .int (-1 : Int32)])), (qW8, .inl (kW8, 400, .inl (fun _ => 0))), (qW26, .inl (kW26, 7, .inl (fun _ => 0))), (qW34, .inl (kW34, 7, .inl (fun _ => 0)))]) (w1 := [(qS, .inr (3, [.int 0, .int 0, .int 0, .int 0, .int 0]))]) hP hD [7] [0, 1, 2, 3, 4, 5, 6] rfl rfl (by decide) (by decide) hk1 hFc hP1 hD1
  have hK := hK.app hK1
  generalize H1 = H at hP hS ⊢
  have hP : va_P D cls [(h, .inr (0, [.ref qT, .ref qW, .null, .null, .null, .int 0, .int 0, .int 0, .int 0, .int 0, .int 0, .int 0, .int 0, .long 0, .int 0, .int 0, .int 0, .int 0, .int 0])), (qT, .inr (1, [.ref qT8, .int 0])), (qT8, .inl (kT8, 400, .inl (fun _ => 0))), (qW, .inr (2, [.ref qW8, .int 0, .int 0, .ref qW26, .ref qW34, .int (-1 : Int32), .int (-1 : Int32)])), (qW8, .inl (kW8, 400, .inl (fun _ => 0))), (qW26, .inl (kW26, 7, .inl (fun _ => 0))), (qW34, .inl (kW34, 7, .inl (fun _ => 0))), (qS, .inr (3, [.int 0, .int 0, .int 0, .int 0, .int 0]))] H := hP
  have hD : va_D A [(h, .inr (0, [.ref qT, .ref qW, .null, .null, .null, .int 0, .int 0, .int 0, .int 0, .int 0, .int 0, .int 0, .int 0, .long 0, .int 0, .int 0, .int 0, .int 0, .int 0])), (qT, .inr (1, [.ref qT8, .int 0])), (qT8, .inl (kT8, 400, .inl (fun _ => 0))), (qW, .inr (2, [.ref qW8, .int 0, .int 0, .ref qW26, .ref qW34, .int (-1 : Int32), .int (-1 : Int32)])), (qW8, .inl (kW8, 400, .inl (fun _ => 0))), (qW26, .inl (kW26, 7, .inl (fun _ => 0))), (qW34, .inl (kW34, 7, .inl (fun _ => 0))), (qS, .inr (3, [.int 0, .int 0, .int 0, .int 0, .int 0]))] := hD
  have hK : va_K D cls [(kT8, .char), (kW8, .char), (kW26, .boolean), (kW34, .int)] s := hK
  refine va_putF (D := D) (ci := 0) (v := .ref qS) (ty := .object "PulsePlotter$Straight") (C := R_P) (T := F_P) (N := 19) hx hb hts hin_P fy_P fy_P_ok n_P hown hK hP hD hS 0 rfl rfl 2 (by decide) (hts _ k_P_26) (fun _ h9 => h9) rfl hin rfl (fy_P_ok 2 (by decide)) rfl rfl (Nat.le_of_ble_eq_true rfl) d_P_init_34 (fun H locs hP hD hS => ?_)
  have hP : va_P D cls [(h, .inr (0, [.ref qT, .ref qW, .ref qS, .null, .null, .int 0, .int 0, .int 0, .int 0, .int 0, .int 0, .int 0, .int 0, .long 0, .int 0, .int 0, .int 0, .int 0, .int 0])), (qT, .inr (1, [.ref qT8, .int 0])), (qT8, .inl (kT8, 400, .inl (fun _ => 0))), (qW, .inr (2, [.ref qW8, .int 0, .int 0, .ref qW26, .ref qW34, .int (-1 : Int32), .int (-1 : Int32)])), (qW8, .inl (kW8, 400, .inl (fun _ => 0))), (qW26, .inl (kW26, 7, .inl (fun _ => 0))), (qW34, .inl (kW34, 7, .inl (fun _ => 0))), (qS, .inr (3, [.int 0, .int 0, .int 0, .int 0, .int 0]))] H := hP
  have hD : va_D A [(h, .inr (0, [.ref qT, .ref qW, .ref qS, .null, .null, .int 0, .int 0, .int 0, .int 0, .int 0, .int 0, .int 0, .int 0, .long 0, .int 0, .int 0, .int 0, .int 0, .int 0])), (qT, .inr (1, [.ref qT8, .int 0])), (qT8, .inl (kT8, 400, .inl (fun _ => 0))), (qW, .inr (2, [.ref qW8, .int 0, .int 0, .ref qW26, .ref qW34, .int (-1 : Int32), .int (-1 : Int32)])), (qW8, .inl (kW8, 400, .inl (fun _ => 0))), (qW26, .inl (kW26, 7, .inl (fun _ => 0))), (qW34, .inl (kW34, 7, .inl (fun _ => 0))), (qS, .inr (3, [.int 0, .int 0, .int 0, .int 0, .int 0]))] := hD
  refine lv_aload_n hx hb d_P_init_37 rfl (lv_at hl 0 rfl) ?_
  refine va_new (ci := 4) (fs := [.null, .int 0, .int 0, .int 0, .int 0, .int 0, .int 0, .int 0]) (C := R_A) (T := F_A) (N := 8) hx hb hts hin_A fy_A fy_A_ok hown (hts _ k_P_30) (hts _ kt_A) (hts _ ki_A) hK hP hD hS hA rfl (fun j hj => by rcases (by omega : j = 0 ∨ j = 1 ∨ j = 2 ∨ j = 3 ∨ j = 4 ∨ j = 5 ∨ j = 6 ∨ j = 7) with rfl | rfl | rfl | rfl | rfl | rfl | rfl | rfl <;> rfl) (Nat.le_of_ble_eq_true rfl) (Nat.le_of_ble_eq_true rfl) d_P_init_38 (fun qA H hP hD hS => ?_)
  have hP : va_P D cls [(h, .inr (0, [.ref qT, .ref qW, .ref qS, .null, .null, .int 0, .int 0, .int 0, .int 0, .int 0, .int 0, .int 0, .int 0, .long 0, .int 0, .int 0, .int 0, .int 0, .int 0])), (qT, .inr (1, [.ref qT8, .int 0])), (qT8, .inl (kT8, 400, .inl (fun _ => 0))), (qW, .inr (2, [.ref qW8, .int 0, .int 0, .ref qW26, .ref qW34, .int (-1 : Int32), .int (-1 : Int32)])), (qW8, .inl (kW8, 400, .inl (fun _ => 0))), (qW26, .inl (kW26, 7, .inl (fun _ => 0))), (qW34, .inl (kW34, 7, .inl (fun _ => 0))), (qS, .inr (3, [.int 0, .int 0, .int 0, .int 0, .int 0])), (qA, .inr (4, [.null, .int 0, .int 0, .int 0, .int 0, .int 0, .int 0, .int 0]))] H := hP
  have hD : va_D A [(h, .inr (0, [.ref qT, .ref qW, .ref qS, .null, .null, .int 0, .int 0, .int 0, .int 0, .int 0, .int 0, .int 0, .int 0, .long 0, .int 0, .int 0, .int 0, .int 0, .int 0])), (qT, .inr (1, [.ref qT8, .int 0])), (qT8, .inl (kT8, 400, .inl (fun _ => 0))), (qW, .inr (2, [.ref qW8, .int 0, .int 0, .ref qW26, .ref qW34, .int (-1 : Int32), .int (-1 : Int32)])), (qW8, .inl (kW8, 400, .inl (fun _ => 0))), (qW26, .inl (kW26, 7, .inl (fun _ => 0))), (qW34, .inl (kW34, 7, .inl (fun _ => 0))), (qS, .inr (3, [.int 0, .int 0, .int 0, .int 0, .int 0])), (qA, .inr (4, [.null, .int 0, .int 0, .int 0, .int 0, .int 0, .int 0, .int 0]))] := hD
  refine lv_dup hx hb d_P_init_41 rfl ?_
  have hPc := hP.sub (ws' := [(qA, .inr (4, [.null, .int 0, .int 0, .int 0, .int 0, .int 0, .int 0, .int 0]))]) [8] rfl
  have hDc := hD.sub (ws' := [(qA, .inr (4, [.null, .int 0, .int 0, .int 0, .int 0, .int 0, .int 0, .int 0]))]) [8] (by decide) rfl
  have hKc := hK.sub (tys' := []) [] rfl
  have hFc := va_free (wc := [(qA, .inr (4, [.null, .int 0, .int 0, .int 0, .int 0, .int 0, .int 0, .int 0]))]) hD hS hA [8] rfl
  refine va_callv (va_runIN (As := []) (rest := [.ref qA, .ref h]) ⟨hx, hb, hml, hown, hts⟩ (c_A_init l (D := D) (X := X) (h := qA) H.size) (my_cnI hts kc_A_init ki_A kn_A_init hN.2.2.2.1 rfl ⟨by decide +kernel, by decide +kernel, by decide +kernel⟩ ⟨Nat.le_of_ble_eq_true rfl, Nat.le_of_ble_eq_true rfl⟩) (my_preK hKc hPc hX hDc hS hFc hN) rfl rfl hl.1 rfl (lv_room (Nat.le_of_ble_eq_true rfl)) d_P_init_42 ⟨Nat.le_of_ble_eq_true rfl, Nat.le_of_ble_eq_true rfl⟩) hS (fun q _ h => hFc q h) hFc (fun _ t H1 locs ht hvm _ hB hz1 hk1 hS => ?_)
  obtain ⟨qA8, kA8, hP1, hK1, hD1⟩ := hB
  rw [ht] at hP1
  replace hK1 := va_K.moved hvm.symm hK1
  obtain ⟨hP, hD⟩ := va_join (wr := [(h, .inr (0, [.ref qT, .ref qW, .ref qS, .null, .null, .int 0, .int 0, .int 0, .int 0, .int 0, .int 0, .int 0, .int 0, .long 0, .int 0, .int 0, .int 0, .int 0, .int 0])), (qT, .inr (1, [.ref qT8, .int 0])), (qT8, .inl (kT8, 400, .inl (fun _ => 0))), (qW, .inr (2, [.ref qW8, .int 0, .int 0, .ref qW26, .ref qW34, .int (-1 : Int32), .int (-1 : Int32)])), (qW8, .inl (kW8, 400, .inl (fun _ => 0))), (qW26, .inl (kW26, 7, .inl (fun _ => 0))), (qW34, .inl (kW34, 7, .inl (fun _ => 0))), (qS, .inr (3, [.int 0, .int 0, .int 0, .int 0, .int 0]))]) (w1 := [(qA, .inr (4, [.ref qA8, .int 0, .int 0, .int 0, .int 1, .int 0, .int 1, .int 0])), (qA8, .inl (kA8, 202, .inl (fun _ => 0)))]) hP hD [8] [0, 1, 2, 3, 4, 5, 6, 7] rfl rfl (by decide) (by decide) hk1 hFc hP1 hD1
  have hK := hK.app hK1
  generalize H1 = H at hP hS ⊢
  have hP : va_P D cls [(h, .inr (0, [.ref qT, .ref qW, .ref qS, .null, .null, .int 0, .int 0, .int 0, .int 0, .int 0, .int 0, .int 0, .int 0, .long 0, .int 0, .int 0, .int 0, .int 0, .int 0])), (qT, .inr (1, [.ref qT8, .int 0])), (qT8, .inl (kT8, 400, .inl (fun _ => 0))), (qW, .inr (2, [.ref qW8, .int 0, .int 0, .ref qW26, .ref qW34, .int (-1 : Int32), .int (-1 : Int32)])), (qW8, .inl (kW8, 400, .inl (fun _ => 0))), (qW26, .inl (kW26, 7, .inl (fun _ => 0))), (qW34, .inl (kW34, 7, .inl (fun _ => 0))), (qS, .inr (3, [.int 0, .int 0, .int 0, .int 0, .int 0])), (qA, .inr (4, [.ref qA8, .int 0, .int 0, .int 0, .int 1, .int 0, .int 1, .int 0])), (qA8, .inl (kA8, 202, .inl (fun _ => 0)))] H := hP
  have hD : va_D A [(h, .inr (0, [.ref qT, .ref qW, .ref qS, .null, .null, .int 0, .int 0, .int 0, .int 0, .int 0, .int 0, .int 0, .int 0, .long 0, .int 0, .int 0, .int 0, .int 0, .int 0])), (qT, .inr (1, [.ref qT8, .int 0])), (qT8, .inl (kT8, 400, .inl (fun _ => 0))), (qW, .inr (2, [.ref qW8, .int 0, .int 0, .ref qW26, .ref qW34, .int (-1 : Int32), .int (-1 : Int32)])), (qW8, .inl (kW8, 400, .inl (fun _ => 0))), (qW26, .inl (kW26, 7, .inl (fun _ => 0))), (qW34, .inl (kW34, 7, .inl (fun _ => 0))), (qS, .inr (3, [.int 0, .int 0, .int 0, .int 0, .int 0])), (qA, .inr (4, [.ref qA8, .int 0, .int 0, .int 0, .int 1, .int 0, .int 1, .int 0])), (qA8, .inl (kA8, 202, .inl (fun _ => 0)))] := hD
  have hK : va_K D cls [(kT8, .char), (kW8, .char), (kW26, .boolean), (kW34, .int), (kA8, .int)] s := hK
  refine va_putF (D := D) (ci := 0) (v := .ref qA) (ty := .object "PulsePlotter$Arc") (C := R_P) (T := F_P) (N := 19) hx hb hts hin_P fy_P fy_P_ok n_P hown hK hP hD hS 0 rfl rfl 3 (by decide) (hts _ k_P_33) (fun _ h9 => h9) rfl hin rfl (fy_P_ok 3 (by decide)) rfl rfl (Nat.le_of_ble_eq_true rfl) d_P_init_45 (fun H locs hP hD hS => ?_)
  have hP : va_P D cls [(h, .inr (0, [.ref qT, .ref qW, .ref qS, .ref qA, .null, .int 0, .int 0, .int 0, .int 0, .int 0, .int 0, .int 0, .int 0, .long 0, .int 0, .int 0, .int 0, .int 0, .int 0])), (qT, .inr (1, [.ref qT8, .int 0])), (qT8, .inl (kT8, 400, .inl (fun _ => 0))), (qW, .inr (2, [.ref qW8, .int 0, .int 0, .ref qW26, .ref qW34, .int (-1 : Int32), .int (-1 : Int32)])), (qW8, .inl (kW8, 400, .inl (fun _ => 0))), (qW26, .inl (kW26, 7, .inl (fun _ => 0))), (qW34, .inl (kW34, 7, .inl (fun _ => 0))), (qS, .inr (3, [.int 0, .int 0, .int 0, .int 0, .int 0])), (qA, .inr (4, [.ref qA8, .int 0, .int 0, .int 0, .int 1, .int 0, .int 1, .int 0])), (qA8, .inl (kA8, 202, .inl (fun _ => 0)))] H := hP
  have hD : va_D A [(h, .inr (0, [.ref qT, .ref qW, .ref qS, .ref qA, .null, .int 0, .int 0, .int 0, .int 0, .int 0, .int 0, .int 0, .int 0, .long 0, .int 0, .int 0, .int 0, .int 0, .int 0])), (qT, .inr (1, [.ref qT8, .int 0])), (qT8, .inl (kT8, 400, .inl (fun _ => 0))), (qW, .inr (2, [.ref qW8, .int 0, .int 0, .ref qW26, .ref qW34, .int (-1 : Int32), .int (-1 : Int32)])), (qW8, .inl (kW8, 400, .inl (fun _ => 0))), (qW26, .inl (kW26, 7, .inl (fun _ => 0))), (qW34, .inl (kW34, 7, .inl (fun _ => 0))), (qS, .inr (3, [.int 0, .int 0, .int 0, .int 0, .int 0])), (qA, .inr (4, [.ref qA8, .int 0, .int 0, .int 0, .int 1, .int 0, .int 1, .int 0])), (qA8, .inl (kA8, 202, .inl (fun _ => 0)))] := hD
  refine lv_aload_n hx hb d_P_init_48 rfl (lv_at hl 0 rfl) ?_
  refine lv_aload_n hx hb d_P_init_49 rfl (lv_at hl 0 rfl) ?_
  refine g_P_straight hx hb hts hown hK hP 0 rfl rfl d_P_init_50 ?_
  refine u_P_way hx hb hts hown hK hP hD hS 0 rfl rfl d_P_init_53 (fun H locs hP hD hS => ?_)
  have hP : va_P D cls [(h, .inr (0, [.ref qT, .ref qW, .ref qS, .ref qA, .ref qS, .int 0, .int 0, .int 0, .int 0, .int 0, .int 0, .int 0, .int 0, .long 0, .int 0, .int 0, .int 0, .int 0, .int 0])), (qT, .inr (1, [.ref qT8, .int 0])), (qT8, .inl (kT8, 400, .inl (fun _ => 0))), (qW, .inr (2, [.ref qW8, .int 0, .int 0, .ref qW26, .ref qW34, .int (-1 : Int32), .int (-1 : Int32)])), (qW8, .inl (kW8, 400, .inl (fun _ => 0))), (qW26, .inl (kW26, 7, .inl (fun _ => 0))), (qW34, .inl (kW34, 7, .inl (fun _ => 0))), (qS, .inr (3, [.int 0, .int 0, .int 0, .int 0, .int 0])), (qA, .inr (4, [.ref qA8, .int 0, .int 0, .int 0, .int 1, .int 0, .int 1, .int 0])), (qA8, .inl (kA8, 202, .inl (fun _ => 0)))] H := hP
  have hD : va_D A [(h, .inr (0, [.ref qT, .ref qW, .ref qS, .ref qA, .ref qS, .int 0, .int 0, .int 0, .int 0, .int 0, .int 0, .int 0, .int 0, .long 0, .int 0, .int 0, .int 0, .int 0, .int 0])), (qT, .inr (1, [.ref qT8, .int 0])), (qT8, .inl (kT8, 400, .inl (fun _ => 0))), (qW, .inr (2, [.ref qW8, .int 0, .int 0, .ref qW26, .ref qW34, .int (-1 : Int32), .int (-1 : Int32)])), (qW8, .inl (kW8, 400, .inl (fun _ => 0))), (qW26, .inl (kW26, 7, .inl (fun _ => 0))), (qW34, .inl (kW34, 7, .inl (fun _ => 0))), (qS, .inr (3, [.int 0, .int 0, .int 0, .int 0, .int 0])), (qA, .inr (4, [.ref qA8, .int 0, .int 0, .int 0, .int 1, .int 0, .int 1, .int 0])), (qA8, .inl (kA8, 202, .inl (fun _ => 0)))] := hD
  refine lv_aload_n hx hb d_P_init_56 rfl (lv_at hl 0 rfl) ?_
  have hP9 : va_P D cls (o_P (mkA [h, qT, qT8, qW, qW8, qW26, qW34, qS, qA, qA8]) false 0 0 0 0 0 0 0 0 0 0 0 0 0 0 :: o_T (mkA [h, qT, qT8, qW, qW8, qW26, qW34, qS, qA, qA8]) 0 :: o_tc (mkA [h, qT, qT8, qW, qW8, qW26, qW34, qS, qA, qA8]) (mkK [kT8, kW8, kW26, kW34, kA8, kA8, kA8, kA8, kA8] kA8) (fun _ => 0) :: o_W (mkA [h, qT, qT8, qW, qW8, qW26, qW34, qS, qA, qA8]) 0 0 (-1) (-1) :: o_wr (mkA [h, qT, qT8, qW, qW8, qW26, qW34, qS, qA, qA8]) (mkK [kT8, kW8, kW26, kW34, kA8, kA8, kA8, kA8, kA8] kA8) (fun _ => 0) :: o_wz (mkA [h, qT, qT8, qW, qW8, qW26, qW34, qS, qA, qA8]) (mkK [kT8, kW8, kW26, kW34, kA8, kA8, kA8, kA8, kA8] kA8) (fun _ => 0) :: o_wn (mkA [h, qT, qT8, qW, qW8, qW26, qW34, qS, qA, qA8]) (mkK [kT8, kW8, kW26, kW34, kA8, kA8, kA8, kA8, kA8] kA8) (fun _ => 0) :: o_S (mkA [h, qT, qT8, qW, qW8, qW26, qW34, qS, qA, qA8]) 0 0 0 0 0 :: o_A (mkA [h, qT, qT8, qW, qW8, qW26, qW34, qS, qA, qA8]) 0 0 0 1 0 1 0 :: o_ar (mkA [h, qT, qT8, qW, qW8, qW26, qW34, qS, qA, qA8]) (mkK [kT8, kW8, kW26, kW34, kA8, kA8, kA8, kA8, kA8] kA8) (fun _ => 0) :: []) H := hP
  have hD9 : va_D A (o_P (mkA [h, qT, qT8, qW, qW8, qW26, qW34, qS, qA, qA8]) false 0 0 0 0 0 0 0 0 0 0 0 0 0 0 :: o_T (mkA [h, qT, qT8, qW, qW8, qW26, qW34, qS, qA, qA8]) 0 :: o_tc (mkA [h, qT, qT8, qW, qW8, qW26, qW34, qS, qA, qA8]) (mkK [kT8, kW8, kW26, kW34, kA8, kA8, kA8, kA8, kA8] kA8) (fun _ => 0) :: o_W (mkA [h, qT, qT8, qW, qW8, qW26, qW34, qS, qA, qA8]) 0 0 (-1) (-1) :: o_wr (mkA [h, qT, qT8, qW, qW8, qW26, qW34, qS, qA, qA8]) (mkK [kT8, kW8, kW26, kW34, kA8, kA8, kA8, kA8, kA8] kA8) (fun _ => 0) :: o_wz (mkA [h, qT, qT8, qW, qW8, qW26, qW34, qS, qA, qA8]) (mkK [kT8, kW8, kW26, kW34, kA8, kA8, kA8, kA8, kA8] kA8) (fun _ => 0) :: o_wn (mkA [h, qT, qT8, qW, qW8, qW26, qW34, qS, qA, qA8]) (mkK [kT8, kW8, kW26, kW34, kA8, kA8, kA8, kA8, kA8] kA8) (fun _ => 0) :: o_S (mkA [h, qT, qT8, qW, qW8, qW26, qW34, qS, qA, qA8]) 0 0 0 0 0 :: o_A (mkA [h, qT, qT8, qW, qW8, qW26, qW34, qS, qA, qA8]) 0 0 0 1 0 1 0 :: o_ar (mkA [h, qT, qT8, qW, qW8, qW26, qW34, qS, qA, qA8]) (mkK [kT8, kW8, kW26, kW34, kA8, kA8, kA8, kA8, kA8] kA8) (fun _ => 0) :: []) := hD
  have hK9 : va_K D cls (tys (mkK [kT8, kW8, kW26, kW34, kA8, kA8, kA8, kA8, kA8] kA8)) s := hK.sub [0, 1, 2, 3, 4, 4, 4, 4, 4] rfl
  refine my_callv (va_runV (As := []) (rest := []) ⟨hx, hb, hml, hown, hts⟩ (c_P_begin (X := X) (Q := fun p_done p_left p_nextLineStart p_line p_state p_ending p_x p_y p_time p_pulses p_last p_feedRate p_motion p_relative => p_done = 0 ∧ p_left = 0 ∧ p_nextLineStart = 0 ∧ p_line = 0 ∧ p_state = 0 ∧ p_ending = 0 ∧ p_x = 0 ∧ p_y = 0 ∧ p_time = 0 ∧ p_pulses = 0 ∧ p_last = 4 ∧ p_feedRate = 0 ∧ p_motion = 0 ∧ p_relative = 0) l H.size) (cw_P_41 hts ⟨Nat.le_of_ble_eq_true rfl, Nat.le_of_ble_eq_true rfl⟩) (my_preV hK9 hP9 hX hD9 hS hA 0 rfl rfl (by unfold wp_P_begin; exact ⟨rfl, rfl, rfl, rfl, rfl, rfl, rfl, rfl, rfl, rfl, rfl, rfl, rfl, rfl⟩)) rfl rfl hl.1 rfl (lv_room (Nat.le_of_ble_eq_true rfl)) d_P_init_57 ⟨Nat.le_of_ble_eq_true rfl, Nat.le_of_ble_eq_true rfl⟩) hD9 hS hA (fun u H locs hw hP hD hS => ?_)
  obtain ⟨p_done, p_left, p_nextLineStart, p_line, p_state, p_ending, p_x, p_y, p_time, p_pulses, p_last, p_feedRate, p_motion, p_relative⟩ := u
  dsimp only at hw
  obtain ⟨rfl, rfl, rfl, rfl, rfl, rfl, rfl, rfl, rfl, rfl, rfl, rfl, rfl, rfl⟩ := hw
  exact hret H locs ls 60 d_P_init_60 hS (fun t ht hW => ⟨mkA [h, qT, qT8, qW, qW8, qW26, qW34, qS, qA, qA8], kT8, kW8, kW26, kW34, kA8, rfl, by rw [ht]; exact hP, va_K.moved hW.alike hK, hD⟩)
abbrev rm_M_init : Room := { frames := 1, cells := 4, slots := 5204, locals := 20 }
set_option maxRecDepth 100000 in
set_option maxHeartbeats 4000000 in
theorem c_M_init (l : Launch) {D : va_G} {X : xT} {k0 k1 k2 k3 k4 : ClassId} {h : Nat} : MK l y_M_init b_M_init 1 rm_M_init D (ty5 k0 k1 k2 k3 k4) X h [(h, .inr (5, [.null, .int 0, .int 0, .int 0, .int 0, .int 0, .int 0, .int 0, .int 0, .int 0, .int 0, .int 0, .int 0, .int 0, .long 0, .long 0, .int 0, .int 0, .int 0, .int 0, .int 0, .int 0, .int 0, .null, .null, .int 0, .int 0, .int 0, .null, .int 0, .int 0, .int 0, .int 0, .int 0]))] (fun A t => ∃ (a : Nat → Nat) (k5 k6 k7 k8 : ClassId), a 10 = h ∧ va_P D cls (o_M a 0 0 0 0 0 0 0 0 0 4 0 0 0 0 0 0 0 0 0 0 0 0 0 0 0 0 0 0 0 0 :: o_mt a (mkK [k0, k1, k2, k3, k4, k5, k6, k7, k8] k4) (fun _ => 0) :: o_mx a (mkK [k0, k1, k2, k3, k4, k5, k6, k7, k8] k4) (fun _ => 0) :: o_my a (mkK [k0, k1, k2, k3, k4, k5, k6, k7, k8] k4) (fun _ => 0) :: o_mn a (mkK [k0, k1, k2, k3, k4, k5, k6, k7, k8] k4) (fun _ => 0) :: []) t.heap ∧ va_K D cls (tys (mkK [k0, k1, k2, k3, k4, k5, k6, k7, k8] k4)) t ∧ va_D A (o_M a 0 0 0 0 0 0 0 0 0 4 0 0 0 0 0 0 0 0 0 0 0 0 0 0 0 0 0 0 0 0 :: o_mt a (mkK [k0, k1, k2, k3, k4, k5, k6, k7, k8] k4) (fun _ => 0) :: o_mx a (mkK [k0, k1, k2, k3, k4, k5, k6, k7, k8] k4) (fun _ => 0) :: o_my a (mkK [k0, k1, k2, k3, k4, k5, k6, k7, k8] k4) (fun _ => 0) :: o_mn a (mkK [k0, k1, k2, k3, k4, k5, k6, k7, k8] k4) (fun _ => 0) :: [])) 4 5204 := by
  refine my_of_K (by decide +kernel) rfl (Nat.le_of_ble_eq_true rfl) (fun p e s m args below meth c A QQ H locs ls hx hb hts hown hml hin hK hX hN hA hP hD hS hl hret => ?_)
  refine lv_aload_n hx hb d_M_init_0 rfl (lv_at hl 0 rfl) ?_
  refine W.objInit hx hb hown (hts _ k_M_1) (hts _ kn_obj) (hts _ kc_obj) rfl (by rw [hml]; exact hl.1) rfl d_M_init_1 (Nat.le_of_ble_eq_true rfl) (Nat.le_of_ble_eq_true rfl) ?_
  refine W.eq (g2 := F0 m 4 ls []) rfl ?_
  refine lv_aload_n hx hb d_M_init_4 rfl (lv_at hl 0 rfl) ?_
  refine lv_sipush (v := (400 : Int32)) hx hb d_M_init_5 (by decide) ?_
  refine va_newa (atype := .int) (ty := .int) (a0 := (400, .inl (fun _ => 0))) hx hb (hts _ ka_int) rfl hK hP hD hS hA (fun _ => rfl) (by decide) (by decide) (by decide) (Nat.le_of_ble_eq_true rfl) (Nat.le_of_ble_eq_true rfl) d_M_init_8 (fun q8 kk8 H hK hP hD hS => ?_)
  have hP : va_P D cls [(h, .inr (5, [.null, .int 0, .int 0, .int 0, .int 0, .int 0, .int 0, .int 0, .int 0, .int 0, .int 0, .int 0, .int 0, .int 0, .long 0, .long 0, .int 0, .int 0, .int 0, .int 0, .int 0, .int 0, .int 0, .null, .null, .int 0, .int 0, .int 0, .null, .int 0, .int 0, .int 0, .int 0, .int 0])), (q8, .inl (kk8, 400, .inl (fun _ => 0)))] H := hP
  have hD : va_D A [(h, .inr (5, [.null, .int 0, .int 0, .int 0, .int 0, .int 0, .int 0, .int 0, .int 0, .int 0, .int 0, .int 0, .int 0, .int 0, .long 0, .long 0, .int 0, .int 0, .int 0, .int 0, .int 0, .int 0, .int 0, .null, .null, .int 0, .int 0, .int 0, .null, .int 0, .int 0, .int 0, .int 0, .int 0])), (q8, .inl (kk8, 400, .inl (fun _ => 0)))] := hD
  have hK : va_K D cls [(k0, .char), (k1, .char), (k2, .boolean), (k3, .int), (k4, .int), (kk8, .int)] s := hK
  refine va_putF (D := D) (ci := 5) (v := .ref q8) (ty := .array .int) (C := R_M) (T := F_M) (N := 34) hx hb hts hin_M fy_M fy_M_ok n_M hown hK hP hD hS 0 rfl rfl 0 (by decide) (hts _ k_M_7) (fun _ h9 => h9) rfl hin rfl (fy_M_ok 0 (by decide)) rfl rfl (Nat.le_of_ble_eq_true rfl) d_M_init_10 (fun H locs hP hD hS => ?_)
  have hP : va_P D cls [(h, .inr (5, [.ref q8, .int 0, .int 0, .int 0, .int 0, .int 0, .int 0, .int 0, .int 0, .int 0, .int 0, .int 0, .int 0, .int 0, .long 0, .long 0, .int 0, .int 0, .int 0, .int 0, .int 0, .int 0, .int 0, .null, .null, .int 0, .int 0, .int 0, .null, .int 0, .int 0, .int 0, .int 0, .int 0])), (q8, .inl (kk8, 400, .inl (fun _ => 0)))] H := hP
  have hD : va_D A [(h, .inr (5, [.ref q8, .int 0, .int 0, .int 0, .int 0, .int 0, .int 0, .int 0, .int 0, .int 0, .int 0, .int 0, .int 0, .int 0, .long 0, .long 0, .int 0, .int 0, .int 0, .int 0, .int 0, .int 0, .int 0, .null, .null, .int 0, .int 0, .int 0, .null, .int 0, .int 0, .int 0, .int 0, .int 0])), (q8, .inl (kk8, 400, .inl (fun _ => 0)))] := hD
  refine lv_aload_n hx hb d_M_init_13 rfl (lv_at hl 0 rfl) ?_
  refine lv_sipush (v := (2400 : Int32)) hx hb d_M_init_14 (by decide) ?_
  refine va_newa (atype := .int) (ty := .int) (a0 := (2400, .inl (fun _ => 0))) hx hb (hts _ ka_int) rfl hK hP hD hS hA (fun _ => rfl) (by decide) (by decide) (by decide) (Nat.le_of_ble_eq_true rfl) (Nat.le_of_ble_eq_true rfl) d_M_init_17 (fun q17 kk17 H hK hP hD hS => ?_)
  have hP : va_P D cls [(h, .inr (5, [.ref q8, .int 0, .int 0, .int 0, .int 0, .int 0, .int 0, .int 0, .int 0, .int 0, .int 0, .int 0, .int 0, .int 0, .long 0, .long 0, .int 0, .int 0, .int 0, .int 0, .int 0, .int 0, .int 0, .null, .null, .int 0, .int 0, .int 0, .null, .int 0, .int 0, .int 0, .int 0, .int 0])), (q8, .inl (kk8, 400, .inl (fun _ => 0))), (q17, .inl (kk17, 2400, .inl (fun _ => 0)))] H := hP
  have hD : va_D A [(h, .inr (5, [.ref q8, .int 0, .int 0, .int 0, .int 0, .int 0, .int 0, .int 0, .int 0, .int 0, .int 0, .int 0, .int 0, .int 0, .long 0, .long 0, .int 0, .int 0, .int 0, .int 0, .int 0, .int 0, .int 0, .null, .null, .int 0, .int 0, .int 0, .null, .int 0, .int 0, .int 0, .int 0, .int 0])), (q8, .inl (kk8, 400, .inl (fun _ => 0))), (q17, .inl (kk17, 2400, .inl (fun _ => 0)))] := hD
  have hK : va_K D cls [(k0, .char), (k1, .char), (k2, .boolean), (k3, .int), (k4, .int), (kk8, .int), (kk17, .int)] s := hK
  refine va_putF (D := D) (ci := 5) (v := .ref q17) (ty := .array .int) (C := R_M) (T := F_M) (N := 34) hx hb hts hin_M fy_M fy_M_ok n_M hown hK hP hD hS 0 rfl rfl 23 (by decide) (hts _ k_M_13) (fun _ h9 => h9) rfl hin rfl (fy_M_ok 23 (by decide)) rfl rfl (Nat.le_of_ble_eq_true rfl) d_M_init_19 (fun H locs hP hD hS => ?_)
  have hP : va_P D cls [(h, .inr (5, [.ref q8, .int 0, .int 0, .int 0, .int 0, .int 0, .int 0, .int 0, .int 0, .int 0, .int 0, .int 0, .int 0, .int 0, .long 0, .long 0, .int 0, .int 0, .int 0, .int 0, .int 0, .int 0, .int 0, .ref q17, .null, .int 0, .int 0, .int 0, .null, .int 0, .int 0, .int 0, .int 0, .int 0])), (q8, .inl (kk8, 400, .inl (fun _ => 0))), (q17, .inl (kk17, 2400, .inl (fun _ => 0)))] H := hP
  have hD : va_D A [(h, .inr (5, [.ref q8, .int 0, .int 0, .int 0, .int 0, .int 0, .int 0, .int 0, .int 0, .int 0, .int 0, .int 0, .int 0, .int 0, .long 0, .long 0, .int 0, .int 0, .int 0, .int 0, .int 0, .int 0, .int 0, .ref q17, .null, .int 0, .int 0, .int 0, .null, .int 0, .int 0, .int 0, .int 0, .int 0])), (q8, .inl (kk8, 400, .inl (fun _ => 0))), (q17, .inl (kk17, 2400, .inl (fun _ => 0)))] := hD
  refine lv_aload_n hx hb d_M_init_22 rfl (lv_at hl 0 rfl) ?_
  refine lv_sipush (v := (2400 : Int32)) hx hb d_M_init_23 (by decide) ?_
  refine va_newa (atype := .int) (ty := .int) (a0 := (2400, .inl (fun _ => 0))) hx hb (hts _ ka_int) rfl hK hP hD hS hA (fun _ => rfl) (by decide) (by decide) (by decide) (Nat.le_of_ble_eq_true rfl) (Nat.le_of_ble_eq_true rfl) d_M_init_26 (fun q26 kk26 H hK hP hD hS => ?_)
  have hP : va_P D cls [(h, .inr (5, [.ref q8, .int 0, .int 0, .int 0, .int 0, .int 0, .int 0, .int 0, .int 0, .int 0, .int 0, .int 0, .int 0, .int 0, .long 0, .long 0, .int 0, .int 0, .int 0, .int 0, .int 0, .int 0, .int 0, .ref q17, .null, .int 0, .int 0, .int 0, .null, .int 0, .int 0, .int 0, .int 0, .int 0])), (q8, .inl (kk8, 400, .inl (fun _ => 0))), (q17, .inl (kk17, 2400, .inl (fun _ => 0))), (q26, .inl (kk26, 2400, .inl (fun _ => 0)))] H := hP
  have hD : va_D A [(h, .inr (5, [.ref q8, .int 0, .int 0, .int 0, .int 0, .int 0, .int 0, .int 0, .int 0, .int 0, .int 0, .int 0, .int 0, .int 0, .long 0, .long 0, .int 0, .int 0, .int 0, .int 0, .int 0, .int 0, .int 0, .ref q17, .null, .int 0, .int 0, .int 0, .null, .int 0, .int 0, .int 0, .int 0, .int 0])), (q8, .inl (kk8, 400, .inl (fun _ => 0))), (q17, .inl (kk17, 2400, .inl (fun _ => 0))), (q26, .inl (kk26, 2400, .inl (fun _ => 0)))] := hD
  have hK : va_K D cls [(k0, .char), (k1, .char), (k2, .boolean), (k3, .int), (k4, .int), (kk8, .int), (kk17, .int), (kk26, .int)] s := hK
  refine va_putF (D := D) (ci := 5) (v := .ref q26) (ty := .array .int) (C := R_M) (T := F_M) (N := 34) hx hb hts hin_M fy_M fy_M_ok n_M hown hK hP hD hS 0 rfl rfl 24 (by decide) (hts _ k_M_16) (fun _ h9 => h9) rfl hin rfl (fy_M_ok 24 (by decide)) rfl rfl (Nat.le_of_ble_eq_true rfl) d_M_init_28 (fun H locs hP hD hS => ?_)
  have hP : va_P D cls [(h, .inr (5, [.ref q8, .int 0, .int 0, .int 0, .int 0, .int 0, .int 0, .int 0, .int 0, .int 0, .int 0, .int 0, .int 0, .int 0, .long 0, .long 0, .int 0, .int 0, .int 0, .int 0, .int 0, .int 0, .int 0, .ref q17, .ref q26, .int 0, .int 0, .int 0, .null, .int 0, .int 0, .int 0, .int 0, .int 0])), (q8, .inl (kk8, 400, .inl (fun _ => 0))), (q17, .inl (kk17, 2400, .inl (fun _ => 0))), (q26, .inl (kk26, 2400, .inl (fun _ => 0)))] H := hP
  have hD : va_D A [(h, .inr (5, [.ref q8, .int 0, .int 0, .int 0, .int 0, .int 0, .int 0, .int 0, .int 0, .int 0, .int 0, .int 0, .int 0, .int 0, .long 0, .long 0, .int 0, .int 0, .int 0, .int 0, .int 0, .int 0, .int 0, .ref q17, .ref q26, .int 0, .int 0, .int 0, .null, .int 0, .int 0, .int 0, .int 0, .int 0])), (q8, .inl (kk8, 400, .inl (fun _ => 0))), (q17, .inl (kk17, 2400, .inl (fun _ => 0))), (q26, .inl (kk26, 2400, .inl (fun _ => 0)))] := hD
  refine lv_aload_n hx hb d_M_init_31 rfl (lv_at hl 0 rfl) ?_
  refine lv_iconst (v := (4 : Int32)) hx hb d_M_init_32 (by decide) ?_
  refine va_newa (atype := .int) (ty := .int) (a0 := (4, .inl (fun _ => 0))) hx hb (hts _ ka_int) rfl hK hP hD hS hA (fun _ => rfl) (by decide) (by decide) (by decide) (Nat.le_of_ble_eq_true rfl) (Nat.le_of_ble_eq_true rfl) d_M_init_33 (fun q33 kk33 H hK hP hD hS => ?_)
  have hP : va_P D cls [(h, .inr (5, [.ref q8, .int 0, .int 0, .int 0, .int 0, .int 0, .int 0, .int 0, .int 0, .int 0, .int 0, .int 0, .int 0, .int 0, .long 0, .long 0, .int 0, .int 0, .int 0, .int 0, .int 0, .int 0, .int 0, .ref q17, .ref q26, .int 0, .int 0, .int 0, .null, .int 0, .int 0, .int 0, .int 0, .int 0])), (q8, .inl (kk8, 400, .inl (fun _ => 0))), (q17, .inl (kk17, 2400, .inl (fun _ => 0))), (q26, .inl (kk26, 2400, .inl (fun _ => 0))), (q33, .inl (kk33, 4, .inl (fun _ => 0)))] H := hP
  have hD : va_D A [(h, .inr (5, [.ref q8, .int 0, .int 0, .int 0, .int 0, .int 0, .int 0, .int 0, .int 0, .int 0, .int 0, .int 0, .int 0, .int 0, .long 0, .long 0, .int 0, .int 0, .int 0, .int 0, .int 0, .int 0, .int 0, .ref q17, .ref q26, .int 0, .int 0, .int 0, .null, .int 0, .int 0, .int 0, .int 0, .int 0])), (q8, .inl (kk8, 400, .inl (fun _ => 0))), (q17, .inl (kk17, 2400, .inl (fun _ => 0))), (q26, .inl (kk26, 2400, .inl (fun _ => 0))), (q33, .inl (kk33, 4, .inl (fun _ => 0)))] := hD
  have hK : va_K D cls [(k0, .char), (k1, .char), (k2, .boolean), (k3, .int), (k4, .int), (kk8, .int), (kk17, .int), (kk26, .int), (kk33, .int)] s := hK
  refine va_putF (D := D) (ci := 5) (v := .ref q33) (ty := .array .int) (C := R_M) (T := F_M) (N := 34) hx hb hts hin_M fy_M fy_M_ok n_M hown hK hP hD hS 0 rfl rfl 28 (by decide) (hts _ k_M_19) (fun _ h9 => h9) rfl hin rfl (fy_M_ok 28 (by decide)) rfl rfl (Nat.le_of_ble_eq_true rfl) d_M_init_35 (fun H locs hP hD hS => ?_)
  have hP : va_P D cls [(h, .inr (5, [.ref q8, .int 0, .int 0, .int 0, .int 0, .int 0, .int 0, .int 0, .int 0, .int 0, .int 0, .int 0, .int 0, .int 0, .long 0, .long 0, .int 0, .int 0, .int 0, .int 0, .int 0, .int 0, .int 0, .ref q17, .ref q26, .int 0, .int 0, .int 0, .ref q33, .int 0, .int 0, .int 0, .int 0, .int 0])), (q8, .inl (kk8, 400, .inl (fun _ => 0))), (q17, .inl (kk17, 2400, .inl (fun _ => 0))), (q26, .inl (kk26, 2400, .inl (fun _ => 0))), (q33, .inl (kk33, 4, .inl (fun _ => 0)))] H := hP
  have hD : va_D A [(h, .inr (5, [.ref q8, .int 0, .int 0, .int 0, .int 0, .int 0, .int 0, .int 0, .int 0, .int 0, .int 0, .int 0, .int 0, .int 0, .long 0, .long 0, .int 0, .int 0, .int 0, .int 0, .int 0, .int 0, .int 0, .ref q17, .ref q26, .int 0, .int 0, .int 0, .ref q33, .int 0, .int 0, .int 0, .int 0, .int 0])), (q8, .inl (kk8, 400, .inl (fun _ => 0))), (q17, .inl (kk17, 2400, .inl (fun _ => 0))), (q26, .inl (kk26, 2400, .inl (fun _ => 0))), (q33, .inl (kk33, 4, .inl (fun _ => 0)))] := hD
  refine lv_aload_n hx hb d_M_init_38 rfl (lv_at hl 0 rfl) ?_
  have hP9 : va_P D cls (o_M (mkA [0, 0, 0, 0, 0, 0, 0, 0, 0, 0, h, q8, q17, q26, q33]) 0 0 0 0 0 0 0 0 0 0 0 0 0 0 0 0 0 0 0 0 0 0 0 0 0 0 0 0 0 0 :: o_mt (mkA [0, 0, 0, 0, 0, 0, 0, 0, 0, 0, h, q8, q17, q26, q33]) (mkK [k0, k1, k2, k3, k4, kk8, kk17, kk26, kk33] k4) (fun _ => 0) :: o_mx (mkA [0, 0, 0, 0, 0, 0, 0, 0, 0, 0, h, q8, q17, q26, q33]) (mkK [k0, k1, k2, k3, k4, kk8, kk17, kk26, kk33] k4) (fun _ => 0) :: o_my (mkA [0, 0, 0, 0, 0, 0, 0, 0, 0, 0, h, q8, q17, q26, q33]) (mkK [k0, k1, k2, k3, k4, kk8, kk17, kk26, kk33] k4) (fun _ => 0) :: o_mn (mkA [0, 0, 0, 0, 0, 0, 0, 0, 0, 0, h, q8, q17, q26, q33]) (mkK [k0, k1, k2, k3, k4, kk8, kk17, kk26, kk33] k4) (fun _ => 0) :: []) H := hP
  have hD9 : va_D A (o_M (mkA [0, 0, 0, 0, 0, 0, 0, 0, 0, 0, h, q8, q17, q26, q33]) 0 0 0 0 0 0 0 0 0 0 0 0 0 0 0 0 0 0 0 0 0 0 0 0 0 0 0 0 0 0 :: o_mt (mkA [0, 0, 0, 0, 0, 0, 0, 0, 0, 0, h, q8, q17, q26, q33]) (mkK [k0, k1, k2, k3, k4, kk8, kk17, kk26, kk33] k4) (fun _ => 0) :: o_mx (mkA [0, 0, 0, 0, 0, 0, 0, 0, 0, 0, h, q8, q17, q26, q33]) (mkK [k0, k1, k2, k3, k4, kk8, kk17, kk26, kk33] k4) (fun _ => 0) :: o_my (mkA [0, 0, 0, 0, 0, 0, 0, 0, 0, 0, h, q8, q17, q26, q33]) (mkK [k0, k1, k2, k3, k4, kk8, kk17, kk26, kk33] k4) (fun _ => 0) :: o_mn (mkA [0, 0, 0, 0, 0, 0, 0, 0, 0, 0, h, q8, q17, q26, q33]) (mkK [k0, k1, k2, k3, k4, kk8, kk17, kk26, kk33] k4) (fun _ => 0) :: []) := hD
  have hK9 : va_K D cls (tys (mkK [k0, k1, k2, k3, k4, kk8, kk17, kk26, kk33] k4)) s := hK
  refine my_callv (va_runV (As := []) (rest := []) ⟨hx, hb, hml, hown, hts⟩ (c_M_begin (X := X) (Q := fun m_at m_lines m_x m_y m_mode m_feed m_state m_pulses m_last m_shown m_relative m_ending m_time m_made m_all => m_at = 0 ∧ m_lines = 0 ∧ m_x = 0 ∧ m_y = 0 ∧ m_mode = 0 ∧ m_feed = 0 ∧ m_state = 0 ∧ m_pulses = 0 ∧ m_last = 4 ∧ m_shown = 0 ∧ m_relative = 0 ∧ m_ending = 0 ∧ m_time = 0 ∧ m_made = 0 ∧ m_all = 0) l H.size) (cw_M_22 hts ⟨Nat.le_of_ble_eq_true rfl, Nat.le_of_ble_eq_true rfl⟩) (my_preV hK9 hP9 hX hD9 hS hA 0 rfl rfl (by unfold wp_M_begin; exact ⟨rfl, rfl, rfl, rfl, rfl, rfl, rfl, rfl, rfl, rfl, rfl, rfl, rfl, rfl, rfl⟩)) rfl rfl hl.1 rfl (lv_room (Nat.le_of_ble_eq_true rfl)) d_M_init_39 ⟨Nat.le_of_ble_eq_true rfl, Nat.le_of_ble_eq_true rfl⟩) hD9 hS hA (fun u H locs hw hP hD hS => ?_)
  obtain ⟨m_at, m_lines, m_x, m_y, m_mode, m_feed, m_state, m_pulses, m_last, m_shown, m_relative, m_ending, m_time, m_made, m_all⟩ := u
  dsimp only at hw
  obtain ⟨rfl, rfl, rfl, rfl, rfl, rfl, rfl, rfl, rfl, rfl, rfl, rfl, rfl, rfl, rfl⟩ := hw
  exact hret H locs ls 42 d_M_init_42 hS (fun t ht hW => ⟨mkA [0, 0, 0, 0, 0, 0, 0, 0, 0, 0, h, q8, q17, q26, q33], kk8, kk17, kk26, kk33, rfl, by rw [ht]; exact hP, va_K.moved hW.alike hK9, hD⟩)
