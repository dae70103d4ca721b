/-! the reference's act -/
theorem bt_all : ∀ t, t < 16 → (nI t &&& 12 = 0 ↔ (t.testBit 2 || t.testBit 3) = false) ∧ (nI t &&& 4 = 0 ↔ t.testBit 2 = false) ∧ (nI t &&& 8 = 0 ↔ t.testBit 3 = false) ∧ (nI t = 0 ↔ ((t.testBit 0 || t.testBit 1) = false ∧ (t.testBit 2 || t.testBit 3) = false)) := by decide +kernel
section MA
variable {s : WS} {mn : Nat → Int32} {t : Nat}
def MKw (s : WS) (t : Nat) (mn : Nat → Int32) : Prop := t < 16 ∧ ∀ j, j < 4 → (t.testBit j = (s.1 (j + 2)).isSome ∧ ∀ x, s.1 (j + 2) = some x → mn j = x)
theorem M_goal_k {Q : Int32 → Prop} {re he : Int32} (h : MKw s t mn) (j : Nat) (hj : j < 2) (hQ : Q (gl (s.1 (j + 2)) re he)) : wp_M_goal (nI j) he re (nI t) mn Q := by
  obtain ⟨h1, h2⟩ := h.2 j (by omega)
  unfold wp_M_goal
  rw [bt_get t h.1 j (by omega), h1, nI_clamp (by omega)]
  unfold gl at hQ
  cases e : s.1 (j + 2) with
  | none =>
    rw [e] at hQ
    exact ⟨fun z => absurd rfl z, fun _ => hQ⟩
  | some v =>
    rw [e] at hQ
    dsimp only at hQ
    rw [h2 v e]
    refine ⟨fun _ => ⟨fun z => ⟨vp_in_nI (by omega) (by omega), ?_⟩, fun z => ⟨vp_in_nI (by omega) (by omega), ?_⟩⟩, fun z => absurd z (show ¬ (if true = true then (1 : Int32) else 0) = 0 from by decide)⟩
    · rw [if_pos z] at hQ; exact hQ
    · rw [if_neg z] at hQ; exact hQ
theorem M_179 {Q : Int32 → Int32 → Int32 → Int32 → Int64 → Int32 → Int32 → Int32 → Int32 → Int32 → Int32 → Int32 → Int32 → Int32 → Int32 → (Nat → Int32) → (Nat → Int32) → Prop} {s1 : Int64} {m_mode m_feed m_relative : Int32} {m_pause : Int64} {m_kind m_made m_all m_fromX m_fromY m_wayX m_wayY m_points m_centreX m_centreY : Int32} {mx my : Nat → Int32} {x y gX gY : Int} (hK : MKw s t mn) (hs : WOK s) (x1 : -200 ≤ x) (x2 : x ≤ 200) (y1 : -200 ≤ y) (y2 : y ≤ 200) (gx1 : -10199 ≤ gX) (gx2 : gX ≤ 10199) (gy1 : -10199 ≤ gY) (gy2 : gY ≤ 10199) (hmo : m_mode = 0 ∨ m_mode = 1 ∨ m_mode = 2 ∨ m_mode = 3)
    (hN : ∀ f, mvo x y m_mode.toInt gX gY ((s.1 4).getD 0).toInt ((s.1 5).getD 0).toInt = (f, none) → ∀ po cX cY mx my, Q f m_mode m_feed m_relative s1 m_kind m_made m_all m_fromX m_fromY m_wayX m_wayY po cX cY mx my)
    (hS : ∀ f N pth, mvo x y m_mode.toInt gX gY ((s.1 4).getD 0).toInt ((s.1 5).getD 0).toInt = (f, some (N, pth)) → ∀ ki fX fY wX wY po cX cY mx my, MMv N pth ki fX fY wX wY po cX cY mx my → Q f m_mode m_feed m_relative s1 ki 0 (nI N) fX fY wX wY po cX cY mx my) :
    wq_M_act_179 Q (iI x) (iI y) (nI t) mn (iI gX) (iI gY) s1 m_mode m_feed m_relative m_pause m_kind m_made m_all m_fromX m_fromY m_wayX m_wayY m_points m_centreX m_centreY mx my := by
  have bi := nm_in (o := s.1 4) (fun v e => hs.1 4 v (by omega) (by omega) e)
  have bj := nm_in (o := s.1 5) (fun v e => hs.1 5 v (by omega) (by omega) e)
  have ml := mo_lt hmo
  obtain ⟨b12, b4, b8, b0⟩ := bt_all t hK.1
  have two : (2 : Int32).toInt = 2 := rfl
  have z0 : (0 : Int32).toInt = 0 := rfl
  unfold wq_M_act_179
  refine ⟨fun z => ?_, fun z => ?_⟩
  · rw [ti_le, two] at z
    have lt : ¬ m_mode.toInt < 2 := by omega
    have hr := ml.mpr lt
    unfold mvo at hN hS
    rw [if_neg lt] at hN hS
    have ht : (m_mode = 2 ∧ (if m_mode.toInt = 3 then (1 : Int) else -1) = -1) ∨ (¬ m_mode = 2 ∧ (if m_mode.toInt = 3 then (1 : Int) else -1) = 1) := by
      rcases hr with q | q
      · rw [q]; left; decide
      · rw [q]; right; decide
    have ht' : (if m_mode.toInt = 3 then (1 : Int) else -1) = 1 ∨ (if m_mode.toInt = 3 then (1 : Int) else -1) = -1 := by
      rcases ht with q | q
      · exact Or.inr q.2
      · exact Or.inl q.2
    have A : wq_M_act_356 Q (iI x) (iI y) (iI gX) (iI gY) ((s.1 4).getD 0) ((s.1 5).getD 0) m_mode m_feed m_relative s1 m_kind m_made m_all m_fromX m_fromY m_wayX m_wayY m_points m_centreX m_centreY mx my := by
      unfold wq_M_act_356
      have := M_arc (Q := fun r365 m_kind_365 m_made_365 m_all_365 m_points_365 m_centreX_365 m_centreY_365 mx_365 my_365 => (Q r365 m_mode m_feed m_relative s1 m_kind_365 m_made_365 m_all_365 m_fromX m_fromY m_wayX m_wayY m_points_365 m_centreX_365 m_centreY_365 mx_365 my_365)) (m_mode := m_mode) (m_kind := m_kind) (m_made := m_made) (m_all := m_all) (m_points := m_points) (m_centreX := m_centreX) (m_centreY := m_centreY) (mx := mx) (my := my) x1 x2 y1 y2 bi.1 bi.2 bj.1 bj.2 gx1 gx2 gy1 gy2 ht (fun q po cX cY mx my => ?_) (fun q1 q2 q3 po cX cY mx my => ?_) (fun q1 q2 q3 N pth po cX cY mx my hN2 hA hM => ?_)
      · rw [iI_of, iI_of] at this
        exact this
      · rw [if_pos q] at hN
        exact hN 106 rfl _ _ _ _ _
      · rw [if_neg (fun q => q.elim q1 (fun q => q q2)), cif_neg q3] at hN
        exact hN 107 rfl _ _ _ _ _
      · rw [if_neg (fun q => q.elim q1 (fun q => q q2)), cif_pos q3] at hS
        exact hS 0 N pth (by rw [arcO_eq ht' hA]) _ _ _ _ _ _ _ _ _ _ (hM _ _ _ _)
    have B : wq_M_act_334 Q (iI x) (iI y) (nI t) mn (iI gX) (iI gY) ((s.1 4).getD 0) m_mode m_feed m_relative s1 m_kind m_made m_all m_fromX m_fromY m_wayX m_wayY m_points m_centreX m_centreY mx my := by
      obtain ⟨h1, h2⟩ := hK.2 3 (by omega)
      unfold wq_M_act_334
      refine ⟨fun w => ?_, fun w => ⟨pk_in 3 4 (by omega), ?_⟩⟩
      · have := b8.mp w
        rw [h1] at this
        cases e : s.1 5 with
        | none => rw [e] at A; exact A
        | some v => rw [show s.1 (3 + 2) = s.1 5 from rfl, e] at this; exact absurd this (by simp)
      · cases e : s.1 5 with
        | none => exact absurd (b8.mpr (by rw [h1, show s.1 (3 + 2) = s.1 5 from rfl, e]; rfl)) w
        | some v =>
          rw [e] at A
          rw [show (3 : Int32).toNatClampNeg = 3 from by decide, h2 v e]
          exact A
    obtain ⟨h1, h2⟩ := hK.2 2 (by omega)
    refine ⟨fun w => ?_, fun w => ⟨pk_in 2 4 (by omega), ?_⟩⟩
    · have := b4.mp w
      rw [h1] at this
      cases e : s.1 4 with
      | none => rw [e] at B; exact B
      | some v => rw [show s.1 (2 + 2) = s.1 4 from rfl, e] at this; exact absurd this (by simp)
    · cases e : s.1 4 with
      | none => exact absurd (b4.mpr (by rw [h1, show s.1 (2 + 2) = s.1 4 from rfl, e]; rfl)) w
      | some v =>
        rw [e] at B
        rw [show (2 : Int32).toNatClampNeg = 2 from by decide, h2 v e]
        exact B
  · rw [ti_le, two] at z
    have lt : m_mode.toInt < 2 := by omega
    unfold mvo at hN hS
    rw [if_pos lt] at hN hS
    have no : ¬ (-200 ≤ gX ∧ gX ≤ 200 ∧ -200 ≤ gY ∧ gY ≤ 200) → Q 107 m_mode m_feed m_relative s1 m_kind m_made m_all m_fromX m_fromY m_wayX m_wayY m_points m_centreX m_centreY mx my := by
      intro q
      rw [if_neg q] at hN
      exact hN 107 rfl _ _ _ _ _
    refine M_inL (by omega) (by omega) (fun q1 => ⟨fun w => absurd w (by decide), fun _ => ?_⟩) (fun q1 => ⟨fun _ => no (fun v => q1 ⟨v.1, v.2.1⟩), fun w => absurd rfl w⟩)
    refine M_inL (by omega) (by omega) (fun q2 => ⟨fun _ => ?_, fun w => absurd w (by decide)⟩) (fun q2 => ⟨fun w => absurd rfl w, fun _ => no (fun v => q2 v.2.2)⟩)
    rw [if_pos ⟨q1.1, q1.2, q2⟩] at hS
    rw [iI_subI (a := gX) (b := x) (by omega) (by omega) (by omega) (by omega), iI_subI (a := gY) (b := y) (by omega) (by omega) (by omega) (by omega)]
    have fin : Q 0 m_mode m_feed m_relative s1 0 0 (nI (sN (gX - x) (gY - y))) (iI x) (iI y) (iI (gX - x)) (iI (gY - y)) m_points m_centreX m_centreY mx my := hS 0 _ _ rfl _ _ _ _ _ _ _ _ _ _ (M_mv (by omega) (by omega) (by omega) (by omega))
    have C : ∀ a b : Nat, a ≤ 400 → b ≤ 400 → max a b = sN (gX - x) (gY - y) → wq_M_act_288 Q (nI a) (nI b) m_mode m_feed m_relative s1 0 m_made m_all (iI x) (iI y) (iI (gX - x)) (iI (gY - y)) m_points m_centreX m_centreY mx my := by
      intro a b ha hb e
      unfold wq_M_act_288 wq_M_act_305
      refine pk_le a b (fun w => ?_) (fun w => ?_) rfl rfl (by omega) (by omega)
      · rw [← e, Nat.max_eq_right (by omega)] at fin; exact fin
      · rw [← e, Nat.max_eq_left (by omega)] at fin; exact fin
    have D : ∀ a : Nat, a = (gX - x).natAbs → wq_M_act_267 Q (nI a) m_mode m_feed m_relative s1 0 m_made m_all (iI x) (iI y) (iI (gX - x)) (iI (gY - y)) m_points m_centreX m_centreY mx my := by
      intro a ha
      unfold wq_M_act_267
      refine ⟨fun w => ?_, fun w => ?_⟩
      · rw [ti_le, z0, iI_t (by omega) (by omega)] at w
        have e : iI (gY - y) = nI (gY - y).natAbs := by rw [iI_nI, show ((gY - y).natAbs : Int) = gY - y by omega]
        have := C a (gY - y).natAbs (by omega) (by omega) (by unfold sN; omega)
        rw [← e] at this
        exact this
      · rw [ti_le, z0, iI_t (by omega) (by omega)] at w
        have e : -iI (gY - y) = nI (gY - y).natAbs := by rw [iI_neg (by omega) (by omega), iI_nI, show ((gY - y).natAbs : Int) = -(gY - y) by omega]
        have := C a (gY - y).natAbs (by omega) (by omega) (by unfold sN; omega)
        rw [← e] at this
        exact this
    refine ⟨fun w => ?_, fun w => ?_⟩
    · rw [ti_le, z0, iI_t (by omega) (by omega)] at w
      have e : iI (gX - x) = nI (gX - x).natAbs := by rw [iI_nI, show ((gX - x).natAbs : Int) = gX - x by omega]
      have := D (gX - x).natAbs rfl
      rw [← e] at this
      exact this
    · rw [ti_le, z0, iI_t (by omega) (by omega)] at w
      have e : -iI (gX - x) = nI (gX - x).natAbs := by rw [iI_neg (by omega) (by omega), iI_nI, show ((gX - x).natAbs : Int) = -(gX - x) by omega]
      have := D (gX - x).natAbs rfl
      rw [← e] at this
      exact this
end MA
