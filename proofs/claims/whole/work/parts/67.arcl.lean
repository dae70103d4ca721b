/-! the reference's row of points is the circle, each point once -/
theorem circ_ex {R : Nat} (hR : 1 ≤ R) : ∃ (m : Nat) (g : Int → Int), Circ R m g ∧ (∀ u : Nat, u ≤ m → ∃ w : Nat, g u = w ∧ IsWn (R - u * u) w) := by
  obtain ⟨m, h1, h2⟩ := pk_least (fun k => R < 2 * ((k + 1) * (k + 1))) ⟨R, by
    have : (R + 1) * (R + 1) = R * R + 2 * R + 1 := by grind
    omega⟩
  have h3 : 2 * (m * m) ≤ R := by
    rcases Nat.eq_zero_or_pos m with q | q
    · rw [q]; omega
    · have := h2 (m - 1) (by omega)
      have e : m - 1 + 1 = m := by omega
      rw [e] at this
      omega
  refine ⟨m, fun v => if v.natAbs ≤ m then ((Classical.choose (W_ex (R - v.natAbs * v.natAbs)) : Nat) : Int) else (m : Int) + 1, ⟨by omega, by omega, ?_, ?_, fun u hu hum => ?_, fun u => ?_, ?_⟩, fun u hu => ?_⟩
  · have : ((2 * (m * m) : Nat) : Int) ≤ (R : Int) := Int.ofNat_le.mpr h3
    push_cast at this
    exact this
  · have : (R : Int) < ((2 * ((m + 1) * (m + 1)) : Nat) : Int) := Int.ofNat_lt.mpr h1
    push_cast at this
    exact this
  · obtain ⟨n, rfl⟩ := Int.eq_ofNat_of_zero_le hu
    have hn : n ≤ m := by omega
    have hs : n * n ≤ R := by
      have := Nat.mul_le_mul hn hn
      omega
    dsimp only
    rw [Int.natAbs_natCast, if_pos hn]
    have := (Classical.choose_spec (W_ex (R - n * n))).int
    rw [Int.ofNat_sub hs] at this
    push_cast at this
    exact this
  · dsimp only
    rw [Int.natAbs_neg]
  · dsimp only
    rw [if_neg (by omega)]
  · dsimp only
    rw [Int.natAbs_natCast, if_pos hu]
    exact ⟨_, rfl, Classical.choose_spec (W_ex (R - u * u))⟩
section CU
variable {R m m' : Int} {g g' : Int → Int}
theorem Circ.uniqM (h : Circ R m g) (h' : Circ R m' g') : m = m' := by
  have key : ∀ a b : Int, 0 ≤ a → 0 ≤ b → 2 * (a * a) ≤ R → R < 2 * ((b + 1) * (b + 1)) → a ≤ b := by
    intro a b ha hb h1 h2
    rcases Int.lt_or_le b a with q | q
    · have := sq_mono (a := b + 1) (b := a) (by omega) (by omega)
      omega
    · exact q
  have k1 := key m m' h.2.1 h'.2.1 h.2.2.1 h'.2.2.2.1
  have k2 := key m' m h'.2.1 h.2.1 h'.2.2.1 h.2.2.2.1
  omega
theorem Circ.uniqG (h : Circ R m g) (h' : Circ R m g') {v : Int} (h1 : -(m + 1) ≤ v) (h2 : v ≤ m + 1) : g v = g' v := by
  have pos : ∀ u : Int, 0 ≤ u → u ≤ m + 1 → g u = g' u := by
    intro u a1 a2
    rcases (by omega : u ≤ m ∨ u = m + 1) with q | q
    · exact (h.2.2.2.2.1 u a1 q).uniq (h'.2.2.2.2.1 u a1 q)
    · rw [q, h.2.2.2.2.2.2, h'.2.2.2.2.2.2]
  rcases Int.lt_or_le v 0 with q | q
  · rw [← h.2.2.2.2.2.1, ← h'.2.2.2.2.2.1]
    exact pos (-v) (by omega) (by omega)
  · exact pos v q h2
theorem Circ.uniqP (h : Circ R m g) (h' : Circ R m g') (k : Int) : cP m g k = cP m g' k := by
  have es : cs_s m g = cs_s m g' := by
    unfold cs_s
    rw [h.uniqG h' (by have := h.2.1; omega) (by omega)]
  obtain ⟨i, j, rfl, h0, h1⟩ := cs_ij h.s_pos k
  rw [cP_at h0 h1]
  have := cP_at (m := m) (g := g') (i := i) (j := j) h0 (by rw [← es]; exact h1)
  rw [← es] at this
  rw [this]
  have gm := h.gm
  have hm := h.2.1
  have eg : g (j - m) = g' (j - m) := h.uniqG h' (by omega) (by unfold cs_s at h1; omega)
  unfold pt
  rw [eg]
/-- the points as the document lists them -/
def InC (m : Int) (g : Int → Int) (p : Int × Int) : Prop := (∃ u, -m ≤ u ∧ u ≤ m ∧ (p = (u, g u) ∨ p = (u, -g u) ∨ p = (g u, u) ∨ p = (-g u, u))) ∨ (g m = m + 2 ∧ (p = (m + 1, m + 1) ∨ p = (m + 1, -m - 1) ∨ p = (-m - 1, m + 1) ∨ p = (-m - 1, -m - 1)))
theorem Circ.has (h : Circ R m g) {q v : Int} (hq : 0 ≤ q) (hq4 : q < 4) (h1 : -m ≤ v) (h2 : v < g m) : ∃ k, 0 ≤ k ∧ k < 4 * cs_s m g ∧ cP m g k = pt g q v := by
  have sp := h.s_pos
  have hm := h.2.1
  have es : cs_s m g = m + g m := rfl
  have b0 : 0 ≤ cs_s m g * q := Int.mul_nonneg (by omega) hq
  have b1 : cs_s m g * q ≤ cs_s m g * 3 := Int.mul_le_mul_of_nonneg_left (by omega) (by omega)
  refine ⟨cs_s m g * q + (v + m), by omega, by omega, ?_⟩
  rw [cP_at (by omega) (by omega), Int.emod_eq_of_lt hq hq4]
  congr 1
  omega
theorem Circ.all (h : Circ R m g) (p : Int × Int) : InC m g p ↔ ∃ k, 0 ≤ k ∧ k < 4 * cs_s m g ∧ cP m g k = p := by
  have hm := h.2.1
  have gm := h.gm
  have ev := h.2.2.2.2.2.1
  constructor
  · rintro (⟨u, u1, u2, hu⟩ | ⟨e, hc⟩)
    · -- a place u that may be m itself
      have side : ∀ q : Int, 0 ≤ q → q < 4 → ∃ k, 0 ≤ k ∧ k < 4 * cs_s m g ∧ cP m g k = pt g q u := by
        intro q q0 q4
        rcases Int.lt_or_le u (g m) with z | z
        · exact h.has q0 q4 u1 z
        · -- u = m = g m: the next side's first point
          have e1 : u = m := by omega
          have e2 : g m = m := by omega
          have q' : ∃ q', 0 ≤ q' ∧ q' < 4 ∧ (q' = q + 1 ∨ q' = q - 3) := by
            rcases Int.lt_or_le q 3 with w | w
            · exact ⟨q + 1, by omega, by omega, Or.inl rfl⟩
            · exact ⟨q - 3, by omega, by omega, Or.inr rfl⟩
          obtain ⟨q', a0, a4, a⟩ := q'
          have mp := h.pos (u := m) hm (Int.le_refl m)
          obtain ⟨k, k0, k4, ke⟩ := h.has (q := q') (v := -m) a0 a4 (by omega) (by omega)
          refine ⟨k, k0, k4, ?_⟩
          rw [ke, e1]
          rcases (by omega : (q = 0 ∧ q' = 1) ∨ (q = 1 ∧ q' = 2) ∨ (q = 2 ∧ q' = 3) ∨ (q = 3 ∧ q' = 0)) with ⟨rfl, rfl⟩ | ⟨rfl, rfl⟩ | ⟨rfl, rfl⟩ | ⟨rfl, rfl⟩ <;> simp [pt, ev, e2]
      have side' : ∀ q : Int, 0 ≤ q → q < 4 → ∃ k, 0 ≤ k ∧ k < 4 * cs_s m g ∧ cP m g k = pt g q (-u) := by
        intro q q0 q4
        rcases Int.lt_or_le (-u) (g m) with z | z
        · exact h.has q0 q4 (by omega) z
        · have e1 : -u = m := by omega
          have e2 : g m = m := by omega
          have q' : ∃ q', 0 ≤ q' ∧ q' < 4 ∧ (q' = q + 1 ∨ q' = q - 3) := by
            rcases Int.lt_or_le q 3 with w | w
            · exact ⟨q + 1, by omega, by omega, Or.inl rfl⟩
            · exact ⟨q - 3, by omega, by omega, Or.inr rfl⟩
          obtain ⟨q', a0, a4, a⟩ := q'
          have mp := h.pos (u := m) hm (Int.le_refl m)
          obtain ⟨k, k0, k4, ke⟩ := h.has (q := q') (v := -m) a0 a4 (by omega) (by omega)
          refine ⟨k, k0, k4, ?_⟩
          rw [ke, e1]
          rcases (by omega : (q = 0 ∧ q' = 1) ∨ (q = 1 ∧ q' = 2) ∨ (q = 2 ∧ q' = 3) ∨ (q = 3 ∧ q' = 0)) with ⟨rfl, rfl⟩ | ⟨rfl, rfl⟩ | ⟨rfl, rfl⟩ | ⟨rfl, rfl⟩ <;> simp [pt, ev, e2]
      rcases hu with rfl | rfl | rfl | rfl
      · obtain ⟨k, k0, k4, ke⟩ := side' 1 (by decide) (by decide)
        exact ⟨k, k0, k4, by rw [ke]; simp [pt, ev]⟩
      · obtain ⟨k, k0, k4, ke⟩ := side 3 (by decide) (by decide)
        exact ⟨k, k0, k4, by rw [ke]; simp [pt]⟩
      · obtain ⟨k, k0, k4, ke⟩ := side 0 (by decide) (by decide)
        exact ⟨k, k0, k4, by rw [ke]; simp [pt]⟩
      · obtain ⟨k, k0, k4, ke⟩ := side' 2 (by decide) (by decide)
        exact ⟨k, k0, k4, by rw [ke]; simp [pt, ev]⟩
    · have g1 := h.2.2.2.2.2.2
      have sd := fun (q : Int) (a : 0 ≤ q) (b : q < 4) => h.has (q := q) (v := m + 1) a b (by omega) (by omega)
      rcases hc with rfl | rfl | rfl | rfl
      · obtain ⟨k, k0, k4, ke⟩ := sd 0 (by decide) (by decide)
        exact ⟨k, k0, k4, by rw [ke]; simp [pt, g1]⟩
      · obtain ⟨k, k0, k4, ke⟩ := sd 3 (by decide) (by decide)
        exact ⟨k, k0, k4, by rw [ke]; simp [pt, g1]; omega⟩
      · obtain ⟨k, k0, k4, ke⟩ := sd 1 (by decide) (by decide)
        exact ⟨k, k0, k4, by rw [ke]; simp [pt, g1]; omega⟩
      · obtain ⟨k, k0, k4, ke⟩ := sd 2 (by decide) (by decide)
        exact ⟨k, k0, k4, by rw [ke]; simp [pt, g1]; omega⟩
  · rintro ⟨k, k0, k4, rfl⟩
    obtain ⟨i, j, rfl, j0, j1⟩ := cs_ij h.s_pos k
    rw [cP_at j0 j1]
    have es : cs_s m g = m + g m := rfl
    have hi := Int.emod_nonneg i (by decide : (4 : Int) ≠ 0)
    have hi4 := Int.emod_lt_of_pos i (by decide : (0 : Int) < 4)
    rcases (by omega : j - m ≤ m ∨ (j - m = m + 1 ∧ g m = m + 2)) with z | ⟨z, e⟩
    · left
      rcases (by omega : i % 4 = 0 ∨ i % 4 = 1 ∨ i % 4 = 2 ∨ i % 4 = 3) with q | q | q | q <;> rw [q]
      · exact ⟨j - m, by omega, z, Or.inr (Or.inr (Or.inl (by simp [pt])))⟩
      · exact ⟨-(j - m), by omega, by omega, Or.inl (by simp only [pt, ev]; simp)⟩
      · exact ⟨-(j - m), by omega, by omega, Or.inr (Or.inr (Or.inr (by simp only [pt, ev]; simp)))⟩
      · exact ⟨j - m, by omega, z, Or.inr (Or.inl (by simp [pt]))⟩
    · right
      have g1 := h.2.2.2.2.2.2
      refine ⟨e, ?_⟩
      rw [z]
      rcases (by omega : i % 4 = 0 ∨ i % 4 = 1 ∨ i % 4 = 2 ∨ i % 4 = 3) with q | q | q | q <;> rw [q]
      · exact Or.inl (by simp [pt, g1])
      · exact Or.inr (Or.inr (Or.inl (by simp [pt, g1]; omega)))
      · exact Or.inr (Or.inr (Or.inr (by simp [pt, g1]; omega)))
      · exact Or.inr (Or.inl (by simp [pt, g1]; omega))
end CU
