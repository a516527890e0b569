/-! NUMBERS: an Int32 as the Int that it is -/
abbrev J (z : Int) : Int32 := Int32.ofInt z
theorem J_toInt {a : Int} (h1 : -2147483648 ≤ a) (h2 : a < 2147483648) : (J a).toInt = a := Int32.toInt_ofInt_of_le (by simpa using h1) (by simpa using h2)
theorem J_of (x : Int32) : J x.toInt = x := Int32.ofInt_toInt x
theorem J_add (a b : Int) : J a + J b = J (a + b) := (Int32.ofInt_add ..).symm
theorem J_sub (a b : Int) : J a - J b = J (a - b) := (Int32.ofInt_sub ..).symm
theorem J_mul (a b : Int) : J a * J b = J (a * b) := (Int32.ofInt_mul ..).symm
theorem J_neg (a : Int) : - J a = J (-a) := (Int32.ofInt_neg ..).symm
abbrev inJ (a : Int) : Prop := -2147483648 ≤ a ∧ a < 2147483648
theorem J_lt {a b : Int} (ha : inJ a) (hb : inJ b) : J a < J b ↔ a < b := by
  rw [Int32.lt_iff_toInt_lt, J_toInt ha.1 ha.2, J_toInt hb.1 hb.2]
theorem J_le {a b : Int} (ha : inJ a) (hb : inJ b) : J a ≤ J b ↔ a ≤ b := by
  rw [Int32.le_iff_toInt_le, J_toInt ha.1 ha.2, J_toInt hb.1 hb.2]
theorem J_eq {a b : Int} (ha : inJ a) (hb : inJ b) : J a = J b ↔ a = b := by
  rw [← Int32.toInt_inj, J_toInt ha.1 ha.2, J_toInt hb.1 hb.2]
theorem J_nat (n : Nat) : Int32.ofNat n = J (n : Int) := Int32.ofInt_eq_ofNat.symm
theorem J_div {a b : Int} (ha : inJ a) (hb : inJ b) (h0 : 0 ≤ a) (h1 : 0 < b) : J a / J b = J (a / b) := by
  rw [← Int32.toInt_inj, lg_idiv_nonneg (by rw [J_toInt ha.1 ha.2]; exact h0) (by rw [J_toInt hb.1 hb.2]; exact h1), J_toInt ha.1 ha.2, J_toInt hb.1 hb.2]
  have h2 : 0 ≤ a / b := Int.ediv_nonneg h0 (Int.le_of_lt h1)
  have h3 : a / b ≤ a := Int.ediv_le_self b h0
  obtain ⟨h4, h5⟩ := ha
  rw [J_toInt (by omega) (by omega)]
theorem J_rem {a b : Int} (ha : inJ a) (hb : inJ b) (h0 : 0 ≤ a) (h1 : 0 < b) : J a - J a / J b * J b = J (a % b) := by
  rw [J_div ha hb h0 h1, J_mul, J_sub]
  congr 1
  have := Int.mul_ediv_add_emod a b
  rw [Int.mul_comm] at this
  omega
theorem J_b8 {n : Int} (h1 : -128 ≤ n) (h2 : n < 128) : (Int8.ofInt n).toInt32 = J n := by
  rw [← Int32.toInt_inj, Int8.toInt_toInt32, Int8.toInt_ofInt_of_le (by simpa using h1) (by simpa using h2), J_toInt (by omega) (by omega)]
theorem J_b16 {n : Int} (h1 : -32768 ≤ n) (h2 : n < 32768) : (Int16.ofInt n).toInt32 = J n := by
  rw [← Int32.toInt_inj, Int16.toInt_toInt32, Int16.toInt_ofInt_of_le (by simpa using h1) (by simpa using h2), J_toInt (by omega) (by omega)]
