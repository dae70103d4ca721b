/-! the circle: rounded roots, four sides, the order of the directions (integers alone; no machine) -/
def IsW (t w : Int) : Prop := 0 ≤ w ∧ 4 * t < (2 * w + 1) * (2 * w + 1) ∧ (w = 0 ∨ (2 * w - 1) * (2 * w - 1) ≤ 4 * t)
theorem sq_mono {a b : Int} (h0 : 0 ≤ a) (h : a ≤ b) : a * a ≤ b * b := Int.mul_le_mul h h h0 (Int.le_trans h0 h)
theorem IsW.mono {t t' w w' : Int} (h : IsW t w) (h' : IsW t' w') (ht : t ≤ t') : w ≤ w' := by
  obtain ⟨a1, a2, a3⟩ := h
  obtain ⟨b1, b2, b3⟩ := h'
  rcases Int.lt_or_le w' w with hlt | hle
  · exfalso
    rcases a3 with rfl | a3
    · omega
    · have : (2 * w' + 1) * (2 * w' + 1) ≤ (2 * w - 1) * (2 * w - 1) := sq_mono (by omega) (by omega)
      omega
  · exact hle
theorem IsW.uniq {t w w' : Int} (h : IsW t w) (h' : IsW t w') : w = w' := by
  have := h.mono h' (Int.le_refl t)
  have := h'.mono h (Int.le_refl t)
  omega
theorem IsW.sq {x : Int} (h : 0 ≤ x) : IsW (x * x) x := by
  refine ⟨h, ?_, ?_⟩
  · grind
  · rcases Int.lt_or_le 0 x with h1 | h1
    · exact Or.inr (by grind)
    · exact Or.inl (by omega)
/-- a circle: R, m and the row of reaches g (g v for v from -m on, at m + 1 the corner) -/
def Circ (R m : Int) (g : Int → Int) : Prop := 1 ≤ R ∧ 0 ≤ m ∧ 2 * (m * m) ≤ R ∧ R < 2 * ((m + 1) * (m + 1)) ∧ (∀ u, 0 ≤ u → u ≤ m → IsW (R - u * u) (g u)) ∧ (∀ u, g (-u) = g u) ∧ g (m + 1) = m + 1
def cs_s (m : Int) (g : Int → Int) : Int := m + g m
section CS
variable {R m : Int} {g : Int → Int}
theorem Circ.mono (h : Circ R m g) {u v : Int} (hu : 0 ≤ u) (huv : u ≤ v) (hv : v ≤ m) : g v ≤ g u := by
  obtain ⟨h1, h2, h3, h4, h5, h6, h7⟩ := h
  refine IsW.mono (h5 v (by omega) hv) (h5 u hu (by omega)) ?_
  have := sq_mono hu huv
  omega
theorem Circ.gm (h : Circ R m g) : g m = m ∨ g m = m + 1 ∨ g m = m + 2 := by
  obtain ⟨h1, h2, h3, h4, h5, h6, h7⟩ := h
  obtain ⟨a1, a2, a3⟩ := h5 m h2 (Int.le_refl m)
  have ha : m ≤ g m := by
    rcases Int.lt_or_le (g m) m with q | q
    · exfalso
      have : (2 * g m + 1) * (2 * g m + 1) ≤ (2 * m - 1) * (2 * m - 1) := sq_mono (by omega) (by omega)
      have e : (2 * m - 1) * (2 * m - 1) = 4 * (m * m) - 4 * m + 1 := by grind
      omega
    · exact q
  have hb : g m ≤ m + 2 := by
    rcases Int.lt_or_le (m + 2) (g m) with q | q
    · exfalso
      rcases a3 with a3 | a3
      · omega
      · have : (2 * m + 5) * (2 * m + 5) ≤ (2 * g m - 1) * (2 * g m - 1) := sq_mono (by omega) (by omega)
        have e : (2 * m + 5) * (2 * m + 5) = 4 * (m * m) + 20 * m + 25 := by grind
        have e2 : (m + 1) * (m + 1) = m * m + 2 * m + 1 := by grind
        omega
    · exact q
  omega
theorem Circ.pos (h : Circ R m g) {u : Int} (hu : 0 ≤ u) (hm : u ≤ m) : 1 ≤ g u := by
  have h0 := h.mono hu hm (Int.le_refl m)
  have h8 := h.gm
  obtain ⟨h1, h2, h3, h4, h5, h6, h7⟩ := h
  obtain ⟨a1, a2, a3⟩ := h5 m h2 (Int.le_refl m)
  rcases Int.lt_or_le 0 (g m) with q | q
  · omega
  · exfalso
    have e0 : g m = 0 := by omega
    have e1 : m = 0 := by omega
    subst e1
    rw [e0] at a2
    omega
/-- in range: -m ≤ v < g m -/
theorem Circ.g_pos (h : Circ R m g) {v : Int} (h1 : -m ≤ v) (h2 : v < g m) : 1 ≤ g v := by
  have hm := h.gm
  have hm0 : 0 ≤ m := h.2.1
  rcases Int.lt_or_le v 0 with q | q
  · have := h.pos (u := -v) (by omega) (by omega)
    rw [h.2.2.2.2.2.1] at this
    exact this
  · rcases Int.lt_or_le m v with z | z
    · have e : v = m + 1 := by omega
      rw [e, h.2.2.2.2.2.2]
      omega
    · exact h.pos q z
theorem Circ.antir (h : Circ R m g) {v v' : Int} (h1 : 0 ≤ v) (h2 : v ≤ v') (h3 : v' < g m) : g v' ≤ g v := by
  have hm := h.gm
  rcases Int.lt_or_le m v' with z | z
  · have e : v' = m + 1 := by omega
    rcases Int.lt_or_le m v with y | y
    · have e' : v = m + 1 := by omega
      rw [e, e']
      omega
    · have h4 := h.mono h1 y (Int.le_refl m)
      rw [e, h.2.2.2.2.2.2]
      omega
  · exact h.mono h1 h2 z
/-- two points of one side -/
theorem Circ.c0 (h : Circ R m g) {v v' : Int} (h1 : -m ≤ v) (h2 : v < v') (h3 : v' < g m) : 0 < g v * v' - v * g v' := by
  have p1 := h.g_pos h1 (by omega)
  have p2 := h.g_pos (v := v') (by omega) h3
  rcases Int.lt_or_le v 0 with q | q
  · rcases Int.lt_or_le v' 0 with z | z
    · have hr : g v ≤ g v' := by
        have e1 : g v = g (-v) := (h.2.2.2.2.2.1 v).symm
        have e2 : g v' = g (-v') := (h.2.2.2.2.2.1 v').symm
        rw [e1, e2]
        exact h.mono (by omega) (by omega) (by omega)
      have k1 : g v * (-v') ≤ g v' * (-v') := Int.mul_le_mul_of_nonneg_right hr (by omega)
      have k2 : 0 < g v' * (v' - v) := Int.mul_pos (by omega) (by omega)
      have e1 : g v' * (v' - v) = g v' * v' - v * g v' := by grind
      have e2 : g v * (-v') = - (g v * v') := by grind
      have e3 : g v' * (-v') = - (g v' * v') := by grind
      omega
    · have k1 : 0 ≤ g v * v' := Int.mul_nonneg (by omega) z
      have k2 : 0 < (-v) * g v' := Int.mul_pos (by omega) (by omega)
      have e : (-v) * g v' = - (v * g v') := by grind
      omega
  · have hr : g v' ≤ g v := h.antir q (by omega) h3
    have k1 : g v' * v' ≤ g v * v' := Int.mul_le_mul_of_nonneg_right hr (by omega)
    have k2 : 0 < g v' * (v' - v) := Int.mul_pos (by omega) (by omega)
    have e1 : g v' * (v' - v) = g v' * v' - v * g v' := by grind
    omega
theorem Circ.up (h : Circ R m g) {v : Int} (h1 : 0 < v) (h2 : v < g m) : v < g v ∨ (g m = m + 2 ∧ g v = v) := by
  have hm := h.gm
  rcases Int.lt_or_le m v with z | z
  · have e : v = m + 1 := by omega
    exact Or.inr ⟨by omega, by rw [e, h.2.2.2.2.2.2]⟩
  · have := h.mono (u := v) (v := m) (by omega) z (Int.le_refl m)
    omega
theorem Circ.dn (h : Circ R m g) {v : Int} (h1 : -m ≤ v) (h2 : v < 0) : -v < g v ∨ (g m = m ∧ -v ≤ g v) := by
  have hm := h.gm
  have := h.mono (u := -v) (v := m) (by omega) (by omega) (Int.le_refl m)
  rw [h.2.2.2.2.2.1] at this
  omega
/-- a point of one side and one of the next -/
theorem Circ.c1 (h : Circ R m g) {v v' : Int} (h1 : -m ≤ v) (h2 : v < g m) (h3 : -m ≤ v') (h4 : v' < g m) : 0 < g v * g v' + v * v' := by
  have p1 := h.g_pos h1 h2
  have p2 := h.g_pos h3 h4
  have pp : 0 < g v * g v' := Int.mul_pos (by omega) (by omega)
  have key : ∀ a b : Int, -m ≤ a → a < 0 → 0 < b → b < g m → 1 ≤ g a → 1 ≤ g b → 0 < g a * g b + a * b := by
    intro a b ha ha0 hb0 hb pa pb
    rcases h.up hb0 hb with q | ⟨q, q2⟩
    · have q3 : -a ≤ g a := by
        rcases h.dn ha ha0 with z | z <;> omega
      have k1 : (-a) * b ≤ g a * b := Int.mul_le_mul_of_nonneg_right q3 (by omega)
      have k2 : 0 < g a * (g b - b) := Int.mul_pos (by omega) (by omega)
      have e1 : g a * (g b - b) = g a * g b - g a * b := by grind
      have e2 : (-a) * b = - (a * b) := by grind
      omega
    · rcases h.dn ha ha0 with z | ⟨z, z2⟩
      · have k2 : 0 < (g a - (-a)) * b := Int.mul_pos (by omega) (by omega)
        have e1 : (g a - (-a)) * b = g a * b + a * b := by grind
        rw [q2]
        omega
      · omega
  rcases Int.lt_or_le v 0 with q | q
  · rcases Int.lt_or_le 0 v' with z | z
    · exact key v v' h1 q z h4 p1 p2
    · have : 0 ≤ (-v) * (-v') := Int.mul_nonneg (by omega) (by omega)
      have e : (-v) * (-v') = v * v' := by grind
      omega
  · rcases Int.lt_or_le v' 0 with z | z
    · rcases Int.lt_or_le 0 v with y | y
      · have := key v' v h3 z y h2 p2 p1
        have e1 : g v' * g v = g v * g v' := Int.mul_comm _ _
        have e2 : v' * v = v * v' := Int.mul_comm _ _
        omega
      · have e : v = 0 := by omega
        rw [e] at pp ⊢
        omega
    · have : 0 ≤ v * v' := Int.mul_nonneg q z
      omega
end CS
