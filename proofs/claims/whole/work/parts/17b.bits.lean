/-! BITS of numbers from 0 on -/
theorem J_nI (n : Nat) : J (n : Int) = nI n := (J_nat n).symm
theorem sh_l : ∀ n, n < 32 → ((nI n &&& 31).toBitVec.smod 32).toNat = n := by decide +kernel
theorem J_shr {m : Nat} (hm : m < 2 ^ 31) {c : Nat} (hc : c < 32) : J (m : Int) >>> (J (c : Int) &&& 31) = J ((m / 2 ^ c : Nat) : Int) := by
  rw [J_nI, J_nI, J_nI]
  exact pk_shrN hm _ c (sh_l c hc)
theorem J_shl {m : Nat} {c : Nat} (hc : c < 32) (h : m * 2 ^ c < 2 ^ 32) : J (m : Int) <<< (J (c : Int) &&& 31) = J ((m * 2 ^ c : Nat) : Int) := by
  rw [J_nI, J_nI, J_nI]
  exact pk_shlN _ c (sh_l c hc) h
theorem J_and1 {m : Nat} (hm : m < 2 ^ 32) : J (m : Int) &&& J 1 = J ((m % 2 : Nat) : Int) := by
  rw [J_nI, J_nI]
  exact pk_andN hm 1 (by decide)
theorem J_or (a b : Nat) : J (a : Int) ||| J (b : Int) = J ((a ||| b : Nat) : Int) := by
  rw [J_nI, J_nI, J_nI]
  unfold nI
  rw [← Int32.toBitVec_inj]
  simp [Int32.toBitVec_or, Int32.toBitVec_ofNat', BitVec.ofNat_or]
theorem J_and (a b : Nat) : J (a : Int) &&& J (b : Int) = J ((a &&& b : Nat) : Int) := by
  rw [J_nI, J_nI, J_nI]
  unfold nI
  rw [← Int32.toBitVec_inj]
  simp [Int32.toBitVec_and, Int32.toBitVec_ofNat', BitVec.ofNat_and]
theorem tb_mod (m c : Nat) : (m / 2 ^ c) % 2 = if m.testBit c then 1 else 0 := by
  rw [Nat.testBit_eq_decide_div_mod_eq]
  have h := Nat.mod_two_eq_zero_or_one (m / 2 ^ c)
  rcases h with h | h <;> simp [h]
/-- a set holds k: (m >> k & 1) -/
theorem J_bit {m : Nat} (hm : m < 2 ^ 31) {c : Nat} (hc : c < 32) : (J (m : Int) >>> (J (c : Int) &&& 31)) &&& J 1 = J (bi (m.testBit c)) := by
  rw [J_shr hm hc, J_and1 (Nat.lt_of_le_of_lt (Nat.div_le_self _ _) (by omega)), tb_mod]
  cases m.testBit c <;> rfl
