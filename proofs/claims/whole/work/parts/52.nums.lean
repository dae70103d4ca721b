/-! numbers: Int32 as integers, where nothing wraps -/
theorem ti_add {a b : Int32} (h1 : -2147483648 ≤ a.toInt + b.toInt) (h2 : a.toInt + b.toInt < 2147483648) : (a + b).toInt = a.toInt + b.toInt := by
  rw [Int32.toInt_add, Int.bmod_eq_of_le_mul_two (by omega) (by omega)]
theorem ti_sub {a b : Int32} (h1 : -2147483648 ≤ a.toInt - b.toInt) (h2 : a.toInt - b.toInt < 2147483648) : (a - b).toInt = a.toInt - b.toInt := by
  rw [Int32.toInt_sub, Int.bmod_eq_of_le_mul_two (by omega) (by omega)]
theorem ti_mul {a b : Int32} (h1 : -2147483648 ≤ a.toInt * b.toInt) (h2 : a.toInt * b.toInt < 2147483648) : (a * b).toInt = a.toInt * b.toInt := by
  rw [Int32.toInt_mul, Int.bmod_eq_of_le_mul_two (by omega) (by omega)]
theorem ti_neg {a : Int32} (h1 : -2147483648 < a.toInt) : (-a).toInt = -a.toInt := by
  have := Int32.toInt_lt a
  rw [Int32.toInt_neg, Int.bmod_eq_of_le_mul_two (by omega) (by omega)]
theorem ti_eq {a b : Int32} (h : a.toInt = b.toInt) : a = b := Int32.toInt_inj.mp h
theorem ti_lt {a b : Int32} : a < b ↔ a.toInt < b.toInt := Int32.lt_iff_toInt_lt
theorem ti_le {a b : Int32} : a ≤ b ↔ a.toInt ≤ b.toInt := Int32.le_iff_toInt_le
abbrev iI (x : Int) : Int32 := Int32.ofInt x
theorem iI_t {x : Int} (h1 : -2147483648 ≤ x) (h2 : x < 2147483648) : (iI x).toInt = x := by
  show (Int32.ofInt x).toInt = x
  have e : (Int32.size : Int) = 4294967296 := rfl
  rw [Int32.toInt_ofInt, Int.bmod_eq_of_le_mul_two (by omega) (by omega)]
theorem iI_of (a : Int32) : iI a.toInt = a := Int32.ofInt_toInt a
theorem iI_nI (n : Nat) : nI n = iI n := by
  show Int32.ofNat n = Int32.ofInt n
  exact (Int32.ofInt_eq_ofNat (n := n)).symm
theorem nI_add1 (n : Nat) : nI n + (1 : Int32) = nI (n + 1) := nI_1 n
