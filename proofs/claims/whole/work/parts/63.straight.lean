/-! a straight move: both go the same way -/
def fl (N d k : Int) : Int := (2 * k * d + N) / (2 * N)
theorem fl_in {N d k : Int} (hN : 1 ≤ N) (hd1 : -N ≤ d) (hd2 : d ≤ N) (hk0 : 0 ≤ k) (hk : k ≤ N) : (0 ≤ d → 0 ≤ fl N d k ∧ fl N d k ≤ d) ∧ (d < 0 → d ≤ fl N d k ∧ fl N d k ≤ 0) := by
  unfold fl
  have a1 : 2 * k * d = 2 * (k * d) := Int.mul_assoc 2 k d
  refine ⟨fun h => ⟨?_, ?_⟩, fun h => ⟨?_, ?_⟩⟩
  · exact Int.ediv_nonneg (by have := Int.mul_nonneg hk0 h; omega) (by omega)
  · have : k * d ≤ N * d := Int.mul_le_mul_of_nonneg_right hk h
    have k2 : (2 * k * d + N) / (2 * N) < d + 1 := (Int.ediv_lt_iff_lt_mul (by omega)).mpr (by
      have e : (d + 1) * (2 * N) = 2 * (N * d) + 2 * N := by grind
      rw [e, a1]; omega)
    omega
  · have : N * d ≤ k * d := Int.mul_le_mul_of_nonpos_right hk (by omega)
    refine (Int.le_ediv_iff_mul_le (by omega)).mpr ?_
    have e : d * (2 * N) = 2 * (N * d) := by grind
    rw [e, a1]; omega
  · have : k * d ≤ 0 := Int.mul_nonpos_of_nonneg_of_nonpos hk0 (by omega)
    have k2 : (2 * k * d + N) / (2 * N) < 0 + 1 := (Int.ediv_lt_iff_lt_mul (by omega)).mpr (by rw [a1]; omega)
    omega
/-- what both divide: no overflow -/
theorem st_num {N k : Nat} {d : Int32} (hN : N ≤ 400) (hk : k ≤ N) (hd1 : -(N : Int) ≤ d.toInt) (hd2 : d.toInt ≤ N) : (((2 : Int32) * nI k) * d + nI N).toInt = 2 * (k : Int) * d.toInt + N ∧ ((2 : Int32) * nI N).toInt = 2 * N ∧ -1000000000 ≤ 2 * (k : Int) * d.toInt + N := by
  have two : (2 : Int32) = nI 2 := rfl
  have e1 : (2 : Int32) * nI k = nI (2 * k) := by rw [two, pk_mul]
  have e2 : (2 : Int32) * nI N = nI (2 * N) := by rw [two, pk_mul]
  have t1 : (nI (2 * k)).toInt = 2 * (k : Int) := by rw [nI_toInt (by omega)]; omega
  have b1 : 2 * (k : Int) * d.toInt ≤ 800 * 400 := by
    rcases Int.lt_or_le d.toInt 0 with h | h
    · have := Int.mul_nonpos_of_nonneg_of_nonpos (a := 2 * (k : Int)) (b := d.toInt) (by omega) (by omega)
      omega
    · exact Int.mul_le_mul (by omega) (by omega) h (by omega)
  have b2 : -(800 * 400) ≤ 2 * (k : Int) * d.toInt := by
    rcases Int.lt_or_le d.toInt 0 with h | h
    · have := Int.mul_le_mul (a := 2 * (k : Int)) (b := -d.toInt) (c := 800) (d := 400) (by omega) (by omega) (by omega) (by omega)
      have e : 2 * (k : Int) * -d.toInt = -(2 * (k : Int) * d.toInt) := Int.mul_neg _ _
      omega
    · have := Int.mul_nonneg (a := 2 * (k : Int)) (b := d.toInt) (by omega) h
      omega
  have t2 : (nI (2 * k) * d).toInt = 2 * (k : Int) * d.toInt := by rw [ti_mul (by rw [t1]; omega) (by rw [t1]; omega), t1]
  have t3 : (nI N).toInt = N := nI_toInt (by omega)
  refine ⟨?_, ?_, by omega⟩
  · rw [e1, ti_add (by rw [t2, t3]; omega) (by rw [t2, t3]; omega), t2, t3]
  · rw [e2, nI_toInt (by omega)]; omega
theorem S_part {Q : Int32 → Prop} {N k : Nat} {d : Int32} (hN0 : 1 ≤ N) (hN : N ≤ 400) (hk : k ≤ N) (hd1 : -(N : Int) ≤ d.toInt) (hd2 : d.toInt ≤ N) (h : Q (iI (fl N d.toInt k))) : wp_S_part (nI k) d (nI N) Q := by
  obtain ⟨e1, e2, e3⟩ := st_num hN hk hd1 hd2
  unfold wp_S_part
  refine ⟨fun _ => Jm_fd (by rw [e2]; omega) ?_, fun z => absurd (nI_le (a := 1) hN0 (by omega)) z⟩
  rw [e1, e2]
  exact h
theorem iI_add {a : Int32} {b : Int} (h1 : -2147483648 ≤ b) (h2 : b < 2147483648) (h3 : -2147483648 ≤ a.toInt + b) (h4 : a.toInt + b < 2147483648) : a + iI b = iI (a.toInt + b) := by
  rw [← iI_of (a + iI b), ti_add (by rw [iI_t h1 h2]; exact h3) (by rw [iI_t h1 h2]; exact h4), iI_t h1 h2]
/-- the places of the move -/
def pS (x y dx dy : Int32) (N k : Nat) : Int32 × Int32 := (x + iI (fl N dx.toInt k), y + iI (fl N dy.toInt k))
theorem M_part {Q : Int32 → Prop} {N k : Nat} {d : Int32} (hN0 : 1 ≤ N) (hN : N ≤ 400) (hk : k ≤ N) (hd1 : -(N : Int) ≤ d.toInt) (hd2 : d.toInt ≤ N) (h : Q (iI (fl N d.toInt k))) : wp_M_quotient ((((2 : Int32) * nI k) * d) + nI N) ((2 : Int32) * nI N) Q := by
  obtain ⟨e1, e2, e3⟩ := st_num hN hk hd1 hd2
  refine M_quot (by rw [e2]; omega) (by rw [e1]; exact e3) (by rw [e2]; omega) ?_
  rw [e1, e2]
  exact h
