/-! division rounded down, as both compute it -/
theorem fl_of {a y q : Int} (hy : 0 < y) (h1 : q * y ≤ a) (h2 : a < q * y + y) : a / y = q := by
  have k1 : q ≤ a / y := (Int.le_ediv_iff_mul_le hy).mpr h1
  have k2 : a / y < q + 1 := (Int.ediv_lt_iff_lt_mul hy).mpr (by rw [Int.add_mul, Int.one_mul]; exact h2)
  omega
theorem ti_div {a b : Int32} (hb : 0 < b.toInt) : (a / b).toInt = a.toInt.tdiv b.toInt := by
  have l1 := Int32.le_toInt a
  have l2 := Int32.toInt_lt a
  rw [Int32.toInt_div]
  rcases Int.lt_or_le a.toInt 0 with h | h
  · have e : a.toInt.tdiv b.toInt = -((-a.toInt) / b.toInt) := by
      rw [← Int.tdiv_eq_ediv_of_nonneg (by omega), ← Int.neg_tdiv, Int.neg_neg]
    have k1 : 0 ≤ (-a.toInt) / b.toInt := Int.ediv_nonneg (by omega) (by omega)
    have k2 : (-a.toInt) / b.toInt ≤ -a.toInt := Int.ediv_le_self _ (by omega)
    rw [e, Int.bmod_eq_of_le_mul_two (by omega) (by omega)]
  · have e : a.toInt.tdiv b.toInt = a.toInt / b.toInt := Int.tdiv_eq_ediv_of_nonneg h
    have k1 : 0 ≤ a.toInt / b.toInt := Int.ediv_nonneg (by omega) (by omega)
    have k2 : a.toInt / b.toInt ≤ a.toInt := Int.ediv_le_self _ (by omega)
    rw [e, Int.bmod_eq_of_le_mul_two (by omega) (by omega)]
theorem xor_sgn (x y : Int32) (hy : 0 ≤ y.toInt) : (0 ≤ x ^^^ y) ↔ 0 ≤ x.toInt := by
  have e : ∀ z : Int32, z.toBitVec.msb = decide (z.toInt < 0) := fun z => by
    rw [BitVec.msb_eq_toInt]; rfl
  rw [ti_le]
  have h := e (x ^^^ y)
  rw [Int32.toBitVec_xor, BitVec.msb_xor, e x, e y] at h
  have z0 : (0 : Int32).toInt = 0 := rfl
  rw [z0]
  have hy2 : decide (y.toInt < 0) = false := by simp; omega
  rw [hy2] at h
  simp at h
  omega
theorem fd_neg {a y : Int} (hy : 0 < y) (ha : a < 0) : a / y = if a.tdiv y * y = a then a.tdiv y else a.tdiv y - 1 := by
  have e : a.tdiv y = -((-a) / y) := by
    rw [← Int.tdiv_eq_ediv_of_nonneg (by omega), ← Int.neg_tdiv, Int.neg_neg]
  have m1 := Int.mul_ediv_add_emod (-a) y
  have m2 := Int.emod_nonneg (-a) (by omega : y ≠ 0)
  have m3 := Int.emod_lt_of_pos (-a) hy
  have e2 : a.tdiv y * y = a + (-a) % y := by
    rw [e, Int.neg_mul, Int.mul_comm]
    omega
  split
  · rename_i h
    exact fl_of hy (by omega) (by omega)
  · rename_i h
    refine fl_of hy ?_ ?_
    · rw [Int.sub_mul, Int.one_mul]; omega
    · rw [Int.sub_mul, Int.one_mul]; omega
theorem Jm_fd {Q : Int32 → Prop} {x y : Int32} (hy : 0 < y.toInt) (h : Q (iI (x.toInt / y.toInt))) : wp_Jm_floorDiv x y Q := by
  have l1 := Int32.le_toInt x
  have l2 := Int32.toInt_lt x
  have y2 := Int32.toInt_lt y
  unfold wp_Jm_floorDiv
  have hdv := ti_div (a := x) hy
  refine ⟨fun z => by rw [z] at hy; exact absurd hy (by decide), fun z => ?_, fun z => ⟨fun w => ?_, fun w => ?_⟩⟩
  · have hx := (xor_sgn x y (by omega)).mp z
    have e : x / y = iI (x.toInt / y.toInt) := by
      rw [← iI_of (x / y), hdv, Int.tdiv_eq_ediv_of_nonneg hx]
    rw [e]; exact h
  · have hx : x.toInt < 0 := by
      rcases Int.lt_or_le x.toInt 0 with q | q
      · exact q
      · exact absurd ((xor_sgn x y (by omega)).mpr q) z
    have f := fd_neg hy hx
    have b1 : (x / y * y).toInt = x.toInt := by rw [w]
    have k : x.toInt.tdiv y.toInt * y.toInt = x.toInt + (-x.toInt) % y.toInt := by
      have e : x.toInt.tdiv y.toInt = -((-x.toInt) / y.toInt) := by
        rw [← Int.tdiv_eq_ediv_of_nonneg (by omega), ← Int.neg_tdiv, Int.neg_neg]
      have m1 := Int.mul_ediv_add_emod (-x.toInt) y.toInt
      rw [e, Int.neg_mul, Int.mul_comm]
      omega
    have m2 := Int.emod_nonneg (-x.toInt) (by omega : y.toInt ≠ 0)
    have m3 := Int.emod_lt_of_pos (-x.toInt) hy
    rw [ti_mul (by rw [hdv, k]; omega) (by rw [hdv, k]; omega), hdv] at b1
    rw [if_pos b1, ← hdv] at f
    rw [f, iI_of] at h
    exact h
  · have hx : x.toInt < 0 := by
      rcases Int.lt_or_le x.toInt 0 with q | q
      · exact q
      · exact absurd ((xor_sgn x y (by omega)).mpr q) z
    have f := fd_neg hy hx
    have k : x.toInt.tdiv y.toInt * y.toInt = x.toInt + (-x.toInt) % y.toInt := by
      have e : x.toInt.tdiv y.toInt = -((-x.toInt) / y.toInt) := by
        rw [← Int.tdiv_eq_ediv_of_nonneg (by omega), ← Int.neg_tdiv, Int.neg_neg]
      have m1 := Int.mul_ediv_add_emod (-x.toInt) y.toInt
      rw [e, Int.neg_mul, Int.mul_comm]
      omega
    have m2 := Int.emod_nonneg (-x.toInt) (by omega : y.toInt ≠ 0)
    have m3 := Int.emod_lt_of_pos (-x.toInt) hy
    have m4 : -x.toInt / y.toInt ≤ -x.toInt := Int.ediv_le_self _ (by omega)
    have m5 : 0 ≤ -x.toInt / y.toInt := Int.ediv_nonneg (by omega) (by omega)
    have e : x.toInt.tdiv y.toInt = -((-x.toInt) / y.toInt) := by
      rw [← Int.tdiv_eq_ediv_of_nonneg (by omega), ← Int.neg_tdiv, Int.neg_neg]
    have nb : ¬ x.toInt.tdiv y.toInt * y.toInt = x.toInt := by
      intro q
      apply w
      apply ti_eq
      rw [ti_mul (by rw [hdv, k]; omega) (by rw [hdv, k]; omega), hdv, q]
    rw [if_neg nb] at f
    have one : (1 : Int32).toInt = 1 := rfl
    have q1 : -2147483648 ≤ x.toInt / y.toInt := by
      have := Int.le_ediv_iff_mul_le (a := -2147483648) (b := x.toInt) (c := y.toInt) hy
      refine this.mpr ?_
      have : (-2147483648) * y.toInt ≤ (-2147483648) * 1 := Int.mul_le_mul_of_nonpos_left (by omega) (by omega)
      omega
    have e3 : x / y - 1 = iI (x.toInt / y.toInt) := by
      rw [← iI_of (x / y - 1), ti_sub (by rw [hdv, one, ← f]; omega) (by rw [hdv, one, e]; omega), hdv, one, f]
    rw [e3]; exact h
/-- the reference's quotient -/
theorem M_quot {Q : Int32 → Prop} {x y : Int32} (hy : 0 < y.toInt) (hx1 : -1000000000 ≤ x.toInt) (hy1 : y.toInt ≤ 1000000000) (h : Q (iI (x.toInt / y.toInt))) : wp_M_quotient x y Q := by
  have l2 := Int32.toInt_lt x
  have one : (1 : Int32).toInt = 1 := rfl
  have zero : (0 : Int32).toInt = 0 := rfl
  have ny : ¬ y = 0 := fun z => by rw [z] at hy; exact absurd hy (by decide)
  unfold wp_M_quotient
  refine ⟨fun z => ⟨ny, ?_⟩, fun z => ⟨ny, ?_⟩⟩
  · rw [ti_lt, zero] at z
    have e1 : (y - 1).toInt = y.toInt - 1 := by rw [ti_sub (by rw [one]; omega) (by rw [one]; omega), one]
    have e2 : (y - 1 - x).toInt = y.toInt - 1 - x.toInt := by rw [ti_sub (by rw [e1]; omega) (by rw [e1]; omega), e1]
    have e3 : ((y - 1 - x) / y).toInt = (y.toInt - 1 - x.toInt) / y.toInt := by rw [ti_div hy, e2, Int.tdiv_eq_ediv_of_nonneg (by omega)]
    have k1 : 0 ≤ (y.toInt - 1 - x.toInt) / y.toInt := Int.ediv_nonneg (by omega) (by omega)
    have k2 : (y.toInt - 1 - x.toInt) / y.toInt ≤ y.toInt - 1 - x.toInt := Int.ediv_le_self _ (by omega)
    have e4 : (-((y - 1 - x) / y)).toInt = x.toInt / y.toInt := by
      rw [ti_neg (by rw [e3]; omega), e3]
      have m1 := Int.mul_ediv_add_emod (y.toInt - 1 - x.toInt) y.toInt
      have m2 := Int.emod_nonneg (y.toInt - 1 - x.toInt) (by omega : y.toInt ≠ 0)
      have m3 := Int.emod_lt_of_pos (y.toInt - 1 - x.toInt) hy
      refine (fl_of hy ?_ ?_).symm
      · rw [Int.neg_mul, Int.mul_comm]; omega
      · rw [Int.neg_mul, Int.mul_comm]; omega
    rw [← e4, iI_of] at h
    exact h
  · rw [ti_lt, zero] at z
    have e : x / y = iI (x.toInt / y.toInt) := by rw [← iI_of (x / y), ti_div hy, Int.tdiv_eq_ediv_of_nonneg (by omega)]
    rw [e]; exact h
theorem Jm_fm {Q : Int32 → Prop} {x y : Int32} (hy : 0 < y.toInt) (h : Q (iI (x.toInt % y.toInt))) : wp_Jm_floorMod x y Q := by
  have l1 := Int32.le_toInt x
  have l2 := Int32.toInt_lt x
  have y2 := Int32.toInt_lt y
  have hdv := ti_div (a := x) hy
  have m2 := Int.emod_nonneg (-x.toInt) (by omega : y.toInt ≠ 0)
  have m3 := Int.emod_lt_of_pos (-x.toInt) hy
  have n2 := Int.emod_nonneg x.toInt (by omega : y.toInt ≠ 0)
  have n3 := Int.emod_lt_of_pos x.toInt hy
  have n1 := Int.mul_ediv_add_emod x.toInt y.toInt
  unfold wp_Jm_floorMod
  refine ⟨fun z => by rw [z] at hy; exact absurd hy (by decide), fun z => ?_, fun z => ?_⟩
  · have hx := (xor_sgn x y (by omega)).mp z
    have e0 : x.toInt.tdiv y.toInt * y.toInt = x.toInt - x.toInt % y.toInt := by
      rw [Int.tdiv_eq_ediv_of_nonneg hx, Int.mul_comm]; omega
    have e1 : (x / y * y).toInt = x.toInt - x.toInt % y.toInt := by
      rw [ti_mul (by rw [hdv, e0]; omega) (by rw [hdv, e0]; omega), hdv, e0]
    have e2 : x - x / y * y = iI (x.toInt % y.toInt) := by
      rw [← iI_of (x - x / y * y), ti_sub (by rw [e1]; omega) (by rw [e1]; omega), e1]
      congr 1
      omega
    rw [e2]; exact h
  · have hx : x.toInt < 0 := by
      rcases Int.lt_or_le x.toInt 0 with q | q
      · exact q
      · exact absurd ((xor_sgn x y (by omega)).mpr q) z
    have k : x.toInt.tdiv y.toInt * y.toInt = x.toInt + (-x.toInt) % y.toInt := by
      have e : x.toInt.tdiv y.toInt = -((-x.toInt) / y.toInt) := by
        rw [← Int.tdiv_eq_ediv_of_nonneg (by omega), ← Int.neg_tdiv, Int.neg_neg]
      have m1 := Int.mul_ediv_add_emod (-x.toInt) y.toInt
      rw [e, Int.neg_mul, Int.mul_comm]
      omega
    have e1 : (x / y * y).toInt = x.toInt + (-x.toInt) % y.toInt := by
      rw [ti_mul (by rw [hdv, k]; omega) (by rw [hdv, k]; omega), hdv, k]
    have e2 : (x - x / y * y).toInt = -((-x.toInt) % y.toInt) := by
      rw [ti_sub (by rw [e1]; omega) (by rw [e1]; omega), e1]
      omega
    have key : x.toInt % y.toInt = if (-x.toInt) % y.toInt = 0 then 0 else y.toInt - (-x.toInt) % y.toInt := by
      have m1 := Int.mul_ediv_add_emod (-x.toInt) y.toInt
      split
      · rename_i q
        have := Int.emod_eq_zero_of_dvd (Int.dvd_neg.mp (Int.dvd_of_emod_eq_zero q))
        exact this
      · rename_i q
        have u := (Int.ediv_emod_unique (a := x.toInt) (b := y.toInt) (r := y.toInt - (-x.toInt) % y.toInt) (q := -((-x.toInt) / y.toInt) - 1) hy).mpr ⟨by rw [Int.mul_sub, Int.mul_neg]; omega, by omega, by omega⟩
        exact u.2
    refine ⟨fun w => ?_, fun w => ?_⟩
    · have w2 : (x - x / y * y).toInt = 0 := by rw [w]; rfl
      rw [e2] at w2
      rw [if_pos (by omega)] at key
      rw [key] at h
      rw [w]
      exact h
    · have w2 : ¬ (-x.toInt) % y.toInt = 0 := fun q => w (ti_eq (by rw [e2, q]; rfl))
      rw [if_neg w2] at key
      have e3 : x - x / y * y + y = iI (x.toInt % y.toInt) := by
        rw [← iI_of (x - x / y * y + y), ti_add (by rw [e2]; omega) (by rw [e2]; omega), e2, key]
        congr 1
        omega
      rw [e3]; exact h
