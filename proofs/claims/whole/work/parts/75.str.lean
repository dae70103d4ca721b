/-! straight moves on both sides -/
def sN (dx dy : Int) : Nat := max dx.natAbs dy.natAbs
theorem J_abs {Q : Int32 → Prop} {v : Int} (h1 : -100000 ≤ v) (h2 : v ≤ 100000) (h : Q (nI v.natAbs)) : wp_Jm_abs (iI v) Q := by
  have z0 : (0 : Int32).toInt = 0 := rfl
  unfold wp_Jm_abs
  refine ⟨fun y => ?_, fun y => ?_⟩
  · rw [ti_le, iI_t (by omega) (by omega), z0] at y
    rw [iI_nI, show (v.natAbs : Int) = v by omega] at h
    exact h
  · rw [ti_le, iI_t (by omega) (by omega), z0] at y
    rw [iI_nI, show (v.natAbs : Int) = -v by omega] at h
    rw [iI_neg (by omega) (by omega)]
    exact h
theorem J_max {Q : Int32 → Prop} {a b : Nat} (ha : a < 100000) (hb : b < 100000) (h : Q (nI (max a b))) : wp_Jm_max (nI a) (nI b) Q := by
  unfold wp_Jm_max
  refine pk_lt a b (fun z => ?_) (fun z => ?_) rfl rfl (by omega) (by omega)
  · rw [Nat.max_eq_right (by omega)] at h; exact h
  · rw [Nat.max_eq_left (by omega)] at h; exact h
theorem P_str {Q : Int32 → Bool → Int32 → Int32 → Int32 → Int32 → Int32 → Int32 → Int32 → Prop} {p_way : Bool} {p_done p_left s_startX s_startY s_dx s_dy s_size r_size : Int32} {x y gX gY : Int} (x1 : -200 ≤ x) (x2 : x ≤ 200) (y1 : -200 ≤ y) (y2 : y ≤ 200) (gx1 : -10199 ≤ gX) (gx2 : gX ≤ 10199) (gy1 : -10199 ≤ gY) (gy2 : gY ≤ 10199)
    (h7 : ¬ (-200 ≤ gX ∧ gX ≤ 200 ∧ -200 ≤ gY ∧ gY ≤ 200) → Q 107 p_way p_done p_left s_startX s_startY s_dx s_dy s_size)
    (h0 : (-200 ≤ gX ∧ gX ≤ 200 ∧ -200 ≤ gY ∧ gY ≤ 200) → Q 0 false 0 (nI (sN (gX - x) (gY - y))) (iI x) (iI y) (iI (gX - x)) (iI (gY - y)) (nI (sN (gX - x) (gY - y)))) : wp_P_startStraight (iI gX) (iI gY) p_way p_done p_left (iI x) (iI y) s_startX s_startY s_dx s_dy s_size r_size Q := by
  unfold wp_P_startStraight
  refine P_out (by omega) (by omega) (fun q1 => ⟨fun v => absurd rfl v, fun _ => ?_⟩) (fun q1 => ⟨fun _ => h7 (fun v => q1 ⟨v.1, v.2.1⟩), fun v => absurd v (by decide)⟩)
  refine P_out (by omega) (by omega) (fun q2 => ⟨fun _ => ?_, fun v => absurd rfl v⟩) (fun q2 => ⟨fun v => absurd v (by decide), fun _ => h7 (fun v => q2 v.2.2)⟩)
  unfold wp_S_lay
  rw [iI_subI (by omega) (by omega) (by omega) (by omega), iI_subI (by omega) (by omega) (by omega) (by omega)]
  refine J_abs (by omega) (by omega) (J_abs (by omega) (by omega) (J_max (by omega) (by omega) ?_))
  unfold wp_P_follow wp_S_size
  exact ⟨fun v => absurd v (by decide), fun _ => h0 ⟨q1.1, q1.2, q2⟩⟩
section SM
variable {x y dx dy : Int}
theorem S_mv (d1 : -400 ≤ dx) (d2 : dx ≤ 400) (e1 : -400 ≤ dy) (e2 : dy ≤ 400) (hN : 1 ≤ sN dx dy) {r_centreX r_centreY r_diagonal r_side r_first r_turn : Int32} {ar : Nat → Int32} : CMv (sN dx dy) (pS (iI x) (iI y) (iI dx) (iI dy) (sN dx dy)) false (iI x) (iI y) (iI dx) (iI dy) (nI (sN dx dy)) r_centreX r_centreY r_diagonal r_side r_first r_turn ar := by
  have ex : (iI dx).toInt = dx := iI_t (by omega) (by omega)
  have ey : (iI dy).toInt = dy := iI_t (by omega) (by omega)
  have b : dx.natAbs ≤ sN dx dy ∧ dy.natAbs ≤ sN dx dy ∧ sN dx dy ≤ 400 := by unfold sN; omega
  intro k hk
  refine ⟨fun v => absurd v (by decide), fun _ => ⟨fun Q hQ => ?_, fun Q hQ => ?_⟩⟩
  · unfold wp_S_xAfter
    exact S_part hN b.2.2 hk (by rw [ex]; omega) (by rw [ex]; omega) hQ
  · unfold wp_S_yAfter
    exact S_part hN b.2.2 hk (by rw [ey]; omega) (by rw [ey]; omega) hQ
theorem fl_0 {N : Nat} (d : Int) (hN : 1 ≤ N) : fl N d 0 = 0 := by
  unfold fl
  rw [show 2 * 0 * d + (N : Int) = N by omega]
  exact Int.ediv_eq_zero_of_lt (by omega) (by omega)
theorem pS_0 {N : Nat} (hN : 1 ≤ N) : pS (iI x) (iI y) (iI dx) (iI dy) N 0 = (iI x, iI y) := by
  unfold pS
  rw [show ((0 : Nat) : Int) = 0 from rfl, fl_0 _ hN, fl_0 _ hN]
  have : ∀ z : Int32, z + iI 0 = z := fun z => Int32.add_zero z
  rw [this, this]
theorem pS_in (x1 : -200 ≤ x) (x2 : x ≤ 200) (y1 : -200 ≤ y) (y2 : y ≤ 200) (d1 : -200 ≤ x + dx) (d2 : x + dx ≤ 200) (e1 : -200 ≤ y + dy) (e2 : y + dy ≤ 200) (hN : 1 ≤ sN dx dy) {k : Nat} (hk : k ≤ sN dx dy) : ∃ X Y : Int, pS (iI x) (iI y) (iI dx) (iI dy) (sN dx dy) k = (iI X, iI Y) ∧ -200 ≤ X ∧ X ≤ 200 ∧ -200 ≤ Y ∧ Y ≤ 200 := by
  have b : dx.natAbs ≤ sN dx dy ∧ dy.natAbs ≤ sN dx dy ∧ sN dx dy ≤ 400 := by unfold sN; omega
  have f1 := fl_in (N := (sN dx dy : Int)) (d := dx) (k := (k : Int)) (by omega) (by omega) (by omega) (by omega) (by omega)
  have f2 := fl_in (N := (sN dx dy : Int)) (d := dy) (k := (k : Int)) (by omega) (by omega) (by omega) (by omega) (by omega)
  unfold pS
  rw [iI_t (x := dx) (by omega) (by omega), iI_t (x := dy) (by omega) (by omega)]
  refine ⟨x + fl (sN dx dy) dx k, y + fl (sN dx dy) dy k, ?_, by omega, by omega, by omega, by omega⟩
  rw [iI_addI (by omega) (by omega) (by omega) (by omega), iI_addI (by omega) (by omega) (by omega) (by omega)]
theorem M_mv (d1 : -400 ≤ dx) (d2 : dx ≤ 400) (e1 : -400 ≤ dy) (e2 : dy ≤ 400) {m_points m_centreX m_centreY : Int32} {mx my : Nat → Int32} : MMv (sN dx dy) (pS (iI x) (iI y) (iI dx) (iI dy) (sN dx dy)) 0 (iI x) (iI y) (iI dx) (iI dy) m_points m_centreX m_centreY mx my := by
  have ex : (iI dx).toInt = dx := iI_t (by omega) (by omega)
  have ey : (iI dy).toInt = dy := iI_t (by omega) (by omega)
  have b : dx.natAbs ≤ sN dx dy ∧ dy.natAbs ≤ sN dx dy ∧ sN dx dy ≤ 400 := by unfold sN; omega
  intro k hk Q m_pulses m_last m_time m_pause hQ
  unfold wp_M_pulse
  refine ⟨fun v => absurd rfl v, fun _ => ?_⟩
  rw [nI_add1 k]
  refine M_part (by omega) b.2.2 (by omega) (by rw [ex]; omega) (by rw [ex]; omega) (M_part (by omega) b.2.2 (by omega) (by rw [ey]; omega) (by rw [ey]; omega) ?_)
  exact hQ
end SM
