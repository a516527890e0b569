/-! HOW MANY BITS: both sides -/
theorem J_toNat {m : Nat} (hm : m < 2 ^ 31) : (J (m : Int)).toUInt32.toNat = m := by
  rw [J_nI]
  show (nI m).toBitVec.toNat = m
  unfold nI
  simp
  omega
theorem J_ushr {m : Nat} (hm : m < 2 ^ 31) {c : Nat} (hc : c < 32) : ((J (m : Int)).toUInt32 >>> ((J (c : Int)).toUInt32 &&& Int32.toUInt32 31)).toInt32 = J ((m / 2 ^ c : Nat) : Int) := by
  have h1 := J_toNat hm
  have h2 := J_toNat (m := c) (by omega)
  have h3 : m / 2 ^ c < 2 ^ 31 := Nat.lt_of_le_of_lt (Nat.div_le_self _ _) hm
  have h4 := J_toNat h3
  rw [← Int32.toBitVec_inj]
  refine BitVec.eq_of_toNat_eq ?_
  show ((J (m : Int)).toUInt32 >>> ((J (c : Int)).toUInt32 &&& Int32.toUInt32 31)).toNat = (J ((m / 2 ^ c : Nat) : Int)).toUInt32.toNat
  rw [h4, UInt32.toNat_shiftRight, h1, UInt32.toNat_and, h2]
  rw [show (Int32.toUInt32 31).toNat = 31 from rfl, show (31 : Nat) = 2 ^ 5 - 1 from rfl, Nat.and_two_pow_sub_one_eq_mod, show c % 2 ^ 5 % 32 = c by omega, Nat.shiftRight_eq_div_pow]
theorem and16 (a b c e : Nat) (hb : b < 16) (he : e < 16) : (b + 16 * a) &&& (e + 16 * c) = (b &&& e) + 16 * (a &&& c) := by
  have hx : (b &&& e) < 2 ^ 4 := Nat.and_lt_two_pow b he
  have key : ∀ (x y i : Nat), x < 16 → (x + 16 * y).testBit i = if i < 4 then x.testBit i else y.testBit (i - 4) := by
    intro x y i hx
    rw [Nat.add_comm, show 16 = 2 ^ 4 from rfl, Nat.testBit_two_pow_mul_add _ (by omega)]
  refine Nat.eq_of_testBit_eq (fun i => ?_)
  rw [Nat.testBit_and, key _ _ _ hb, key _ _ _ he, key _ _ _ hx]
  split
  · rw [Nat.testBit_and]
  · rw [Nat.testBit_and]
theorem and16t (b c e : Nat) (hb : b < 16) (he : e < 16) : b &&& (e + 16 * c) = b &&& e := by
  have h := and16 0 b c e hb he
  rw [Nat.mul_zero, Nat.add_zero, Nat.zero_and, Nat.mul_zero, Nat.add_zero] at h
  exact h
def nib5 (a b c d e : Nat) : Nat := a + 16 * (b + 16 * (c + 16 * (d + 16 * e)))
theorem nib5_add (a b c d e a' b' c' d' e' : Nat) : nib5 a b c d e + nib5 a' b' c' d' e' = nib5 (a + a') (b + b') (c + c') (d + d') (e + e') := by
  unfold nib5; omega
theorem nib5_lt {a b c d e : Nat} (ha : a < 16) (hb : b < 16) (hc : c < 16) (hd : d < 16) (he : e < 16) : nib5 a b c d e < 2 ^ 20 := by unfold nib5; omega
def K5 (x : Nat) : Nat := x + 16 * (x + 16 * (x + 16 * (x + 16 * (x + 16 * (x + 16 * (x + 16 * x))))))
theorem K5_5 : K5 5 = 1431655765 := rfl
theorem K5_3 : K5 3 = 858993459 := rfl
theorem nib5_and3 {a b c d e : Nat} (ha : a < 16) (hb : b < 16) (hc : c < 16) (hd : d < 16) (he : e < 16) : nib5 a b c d e &&& K5 3 = nib5 (a &&& 3) (b &&& 3) (c &&& 3) (d &&& 3) (e &&& 3) := by
  unfold nib5 K5
  rw [and16 _ _ _ _ ha (by omega), and16 _ _ _ _ hb (by omega), and16 _ _ _ _ hc (by omega), and16 _ _ _ _ hd (by omega), and16t _ _ _ he (by omega)]
theorem nib1 : ∀ d, d < 16 → ∀ e, e < 2 → (d / 2 + 8 * e) &&& 5 = d / 2 &&& 5 := by decide
theorem nib2 : ∀ d, d < 16 → ∀ e, e < 4 → (d / 4 + 4 * e) &&& 3 = d / 4 := by decide
theorem nib1t (d r C : Nat) (hd : d < 16) : (d + 16 * r) / 2 &&& (5 + 16 * C) = (d / 2 &&& 5) + 16 * (r / 2 &&& C) := by
  rw [show (d + 16 * r) / 2 = (d / 2 + 8 * (r % 2)) + 16 * (r / 2) by omega, and16 _ _ _ _ (by omega) (by omega), nib1 d hd _ (by omega)]
theorem nib2t (d r C : Nat) (hd : d < 16) : (d + 16 * r) / 4 &&& (3 + 16 * C) = d / 4 + 16 * (r / 4 &&& C) := by
  rw [show (d + 16 * r) / 4 = (d / 4 + 4 * (r % 4)) + 16 * (r / 4) by omega, and16 _ _ _ _ (by omega) (by omega), nib2 d hd _ (by omega)]
theorem nib5_h1 {a b c d e : Nat} (ha : a < 16) (hb : b < 16) (hc : c < 16) (hd : d < 16) (he : e < 16) : nib5 a b c d e / 2 &&& K5 5 = nib5 (a / 2 &&& 5) (b / 2 &&& 5) (c / 2 &&& 5) (d / 2 &&& 5) (e / 2 &&& 5) := by
  unfold nib5 K5
  rw [nib1t _ _ _ ha, nib1t _ _ _ hb, nib1t _ _ _ hc, nib1t _ _ _ hd, and16t _ _ _ (by omega) (by omega)]
theorem nib5_h2 {a b c d e : Nat} (ha : a < 16) (hb : b < 16) (hc : c < 16) (hd : d < 16) (he : e < 16) : nib5 a b c d e / 4 &&& K5 3 = nib5 (a / 4) (b / 4) (c / 4) (d / 4) (e / 4) := by
  have h : e / 4 &&& (3 + 16 * (3 + 16 * (3 + 16 * 3))) = e / 4 := by
    rw [and16t _ _ _ (by omega) (by omega)]
    have := nib2 e he 0 (by omega)
    rw [Nat.mul_zero, Nat.add_zero] at this
    exact this
  unfold nib5 K5
  rw [nib2t _ _ _ ha, nib2t _ _ _ hb, nib2t _ _ _ hc, nib2t _ _ _ hd, h]
/-- the twos of a nibble -/
def nb1 (d : Nat) : Nat := d - (d / 2 &&& 5)
theorem nb1_lt : ∀ d, d < 16 → nb1 d < 16 ∧ nb1 d + (d / 2 &&& 5) = d := by decide
def nb2 (d : Nat) : Nat := (nb1 d &&& 3) + nb1 d / 4
theorem nb2_le : ∀ d, d < 16 → nb2 d ≤ 4 ∧ nb2 d = d % 2 + d / 2 % 2 + d / 4 % 2 + d / 8 % 2 := by decide
theorem nibs (m : Nat) (hm : m < 2 ^ 20) : ∃ a b c d e, m = nib5 a b c d e ∧ a < 16 ∧ b < 16 ∧ c < 16 ∧ d < 16 ∧ e < 16 := by
  refine ⟨m % 16, m / 16 % 16, m / 16 / 16 % 16, m / 16 / 16 / 16 % 16, m / 16 / 16 / 16 / 16, ?_, by omega, by omega, by omega, by omega, by omega⟩
  unfold nib5
  have h1 : m = m % 16 + 16 * (m / 16) := by omega
  have h2 : m / 16 = m / 16 % 16 + 16 * (m / 16 / 16) := by omega
  have h3 : m / 16 / 16 = m / 16 / 16 % 16 + 16 * (m / 16 / 16 / 16) := by omega
  have h4 : m / 16 / 16 / 16 = m / 16 / 16 / 16 % 16 + 16 * (m / 16 / 16 / 16 / 16) := by omega
  rw [← h4, ← h3, ← h2, ← h1]
/-- ones, as the reference counts them -/
def onk (m : Nat) : Nat → Nat
  | 0 => 0
  | k + 1 => onk m k + m / 2 ^ k % 2
theorem onk_shift (d r : Nat) (hd : d < 16) : ∀ k, onk (d + 16 * r) (k + 4) = nb2 d + onk r k
  | 0 => by
    rw [(nb2_le d hd).2]
    show 0 + (d + 16 * r) / 1 % 2 + (d + 16 * r) / 2 % 2 + (d + 16 * r) / 4 % 2 + (d + 16 * r) / 8 % 2 = _ + 0
    omega
  | k + 1 => by
    have ih := onk_shift d r hd k
    have e : (d + 16 * r) / 2 ^ (k + 4) = r / 2 ^ k := by
      rw [Nat.pow_add, Nat.mul_comm (2 ^ k), ← Nat.div_div_eq_div_mul, show (d + 16 * r) / 2 ^ 4 = r by omega]
    show onk (d + 16 * r) (k + 4) + (d + 16 * r) / 2 ^ (k + 4) % 2 = nb2 d + (onk r k + r / 2 ^ k % 2)
    rw [ih, e]
    omega
theorem onk_nib {a b c d e : Nat} (ha : a < 16) (hb : b < 16) (hc : c < 16) (hd : d < 16) (he : e < 16) : onk (nib5 a b c d e) 20 = nb2 a + nb2 b + nb2 c + nb2 d + nb2 e := by
  unfold nib5
  rw [onk_shift _ _ ha 16, onk_shift _ _ hb 12, onk_shift _ _ hc 8, onk_shift _ _ hd 4]
  have h := onk_shift e 0 he 0
  rw [Nat.mul_zero, Nat.add_zero] at h
  rw [show onk e 4 = nb2 e + onk 0 0 from h]
  show _ = _
  simp only [onk]
  omega
theorem nib_s8 (a b c d e : Nat) (ha : a < 16) : nib5 a b c d e + nib5 a b c d e / 16 = nib5 (a + b) (b + c) (c + d) (d + e) e := by
  have h : nib5 a b c d e / 16 = nib5 b c d e 0 := by
    unfold nib5
    rw [Nat.mul_zero, Nat.add_zero]
    generalize b + 16 * (c + 16 * (d + 16 * e)) = r
    omega
  rw [h, nib5_add, Nat.add_zero]
theorem nib_s9 (a b c d e : Nat) (ha : a < 16) (hb : b < 16) (hc : c < 16) (hd : d < 16) (he : e < 16) : nib5 a b c d e &&& 252645135 = nib5 a 0 c 0 e := by
  have k15 : ∀ x, x < 16 → x &&& 15 = x := by decide
  have e0 : (252645135 : Nat) = 15 + 16 * (0 + 16 * (15 + 16 * (0 + 16 * (15 + 16 * 240)))) := by decide
  rw [e0]
  unfold nib5
  rw [and16 _ _ _ _ ha (by omega), and16 _ _ _ _ hb (by omega), and16 _ _ _ _ hc (by omega), and16 _ _ _ _ hd (by omega), and16t _ _ _ he (by omega), k15 _ ha, k15 _ hc, k15 _ he, Nat.and_zero, Nat.and_zero]
theorem nib_s10 (a c e : Nat) (ha : a < 256) : nib5 a 0 c 0 e + nib5 a 0 c 0 e / 256 = (a + c) + 256 * (c + e) + 65536 * e := by
  unfold nib5; omega
theorem nib_s11 (x y e : Nat) (hx : x < 256) (hy : y < 256) : (x + 256 * y + 65536 * e) + (x + 256 * y + 65536 * e) / 65536 = (x + e) + 64 * (4 * y + 1024 * e) := by omega
theorem nib_s12 (x y : Nat) (hx : x < 64) : (x + 64 * y) &&& 63 = x := by
  rw [show (63 : Nat) = 2 ^ 6 - 1 from rfl, Nat.and_two_pow_sub_one_eq_mod]
  omega
theorem onk_pc (m : Nat) : ∀ k, onk m k = pc m k
  | 0 => rfl
  | k + 1 => by
    unfold onk pc
    rw [onk_pc m k, tb_mod]
section BC
variable {d : Nat} {S : QS} {sh : QH}
-- method 157: java/lang/Integer.bitCount.(I)I
theorem c_55 : J 1431655765 = J ((K5 5 : Nat) : Int) := by rw [K5_5]; congr 1
theorem c_33 : J 858993459 = J ((K5 3 : Nat) : Int) := by rw [K5_3]; congr 1
theorem c_0f : J 252645135 = J ((252645135 : Nat) : Int) := by congr 1
theorem c_63 : J 63 = J ((63 : Nat) : Int) := by congr 1
theorem e_bitCount {m : Nat} (hm : m < 2 ^ 20) : KP sh d 157 [.int (J (m : Int))] S (.int (J ((onk m 20 : Nat) : Int))) := by
  obtain ⟨a, b, c, e, f, rfl, ha, hb, hc, he, hf⟩ := nibs m hm
  rw [onk_nib ha hb hc he hf]
  have p1 := nb1_lt a ha
  have p2 := nb1_lt b hb
  have p3 := nb1_lt c hc
  have p4 := nb1_lt e he
  have p5 := nb1_lt f hf
  have z1 := (nb2_le a ha).1
  have z2 := (nb2_le b hb).1
  have z3 := (nb2_le c hc).1
  have z4 := (nb2_le e he).1
  have z5 := (nb2_le f hf).1
  have s2 := nib5_h1 ha hb hc he hf
  have s3 := nib5_add (nb1 a) (nb1 b) (nb1 c) (nb1 e) (nb1 f) (a / 2 &&& 5) (b / 2 &&& 5) (c / 2 &&& 5) (e / 2 &&& 5) (f / 2 &&& 5)
  rw [p1.2, p2.2, p3.2, p4.2, p5.2] at s3
  have l1 := nib5_lt p1.1 p2.1 p3.1 p4.1 p5.1
  have s4 := nib5_and3 p1.1 p2.1 p3.1 p4.1 p5.1
  have s6 := nib5_h2 p1.1 p2.1 p3.1 p4.1 p5.1
  have s7 : nib5 (nb1 a &&& 3) (nb1 b &&& 3) (nb1 c &&& 3) (nb1 e &&& 3) (nb1 f &&& 3) + nib5 (nb1 a / 4) (nb1 b / 4) (nb1 c / 4) (nb1 e / 4) (nb1 f / 4) = nib5 (nb2 a) (nb2 b) (nb2 c) (nb2 e) (nb2 f) := nib5_add _ _ _ _ _ _ _ _ _ _
  have l2 := nib5_lt (a := nb2 a) (b := nb2 b) (c := nb2 c) (d := nb2 e) (e := nb2 f) (by omega) (by omega) (by omega) (by omega) (by omega)
  have s8 := nib_s8 (nb2 a) (nb2 b) (nb2 c) (nb2 e) (nb2 f) (by omega)
  have s9 := nib_s9 (nb2 a + nb2 b) (nb2 b + nb2 c) (nb2 c + nb2 e) (nb2 e + nb2 f) (nb2 f) (by omega) (by omega) (by omega) (by omega) (by omega)
  have l3 := nib5_lt (a := nb2 a + nb2 b) (b := 0) (c := nb2 c + nb2 e) (d := 0) (e := nb2 f) (by omega) (by omega) (by omega) (by omega) (by omega)
  have s10 := nib_s10 (nb2 a + nb2 b) (nb2 c + nb2 e) (nb2 f) (by omega)
  have s11 := nib_s11 (nb2 a + nb2 b + (nb2 c + nb2 e)) (nb2 c + nb2 e + nb2 f) (nb2 f) (by omega) (by omega)
  have s12 := nib_s12 (nb2 a + nb2 b + (nb2 c + nb2 e) + nb2 f) (4 * (nb2 c + nb2 e + nb2 f) + 1024 * nb2 f) (by omega)
  have l4 : (nb2 a + nb2 b + (nb2 c + nb2 e)) + 256 * (nb2 c + nb2 e + nb2 f) + 65536 * nb2 f < 2 ^ 31 := by omega
  rw [show nb2 a + nb2 b + nb2 c + nb2 e + nb2 f = nb2 a + nb2 b + (nb2 c + nb2 e) + nb2 f by omega]
  generalize nib5 (a / 2 &&& 5) (b / 2 &&& 5) (c / 2 &&& 5) (e / 2 &&& 5) (f / 2 &&& 5) = A2 at s2 s3
  generalize nib5 a b c e f = A0 at hm s2 s3 ⊢
  generalize nib5 (nb1 a &&& 3) (nb1 b &&& 3) (nb1 c &&& 3) (nb1 e &&& 3) (nb1 f &&& 3) = A4 at s4 s7
  generalize nib5 (nb1 a / 4) (nb1 b / 4) (nb1 c / 4) (nb1 e / 4) (nb1 f / 4) = A5 at s6 s7
  generalize nib5 (nb1 a) (nb1 b) (nb1 c) (nb1 e) (nb1 f) = A3 at s3 s4 s6 l1
  generalize nib5 (nb2 a) (nb2 b) (nb2 c) (nb2 e) (nb2 f) = A6 at s7 s8 l2
  generalize nib5 (nb2 a + nb2 b) (nb2 b + nb2 c) (nb2 c + nb2 e) (nb2 e + nb2 f) (nb2 f) = A7 at s8 s9
  generalize nib5 (nb2 a + nb2 b) 0 (nb2 c + nb2 e) 0 (nb2 f) = A8 at s9 s10 l3
  generalize (nb2 a + nb2 b + (nb2 c + nb2 e)) + 256 * (nb2 c + nb2 e + nb2 f) + 65536 * nb2 f = A9 at s10 s11 l4
  generalize (nb2 a + nb2 b + (nb2 c + nb2 e) + nb2 f) + 64 * (4 * (nb2 c + nb2 e + nb2 f) + 1024 * nb2 f) = A10 at s11 s12
  generalize nb2 a + nb2 b + (nb2 c + nb2 e) + nb2 f = A11 at s12 ⊢
  clear p1 p2 p3 p4 p5 z1 z2 z3 z4 z5 ha hb hc he hf
  refine k_start ql_157 (Nat.le_of_ble_eq_true rfl) ?_
  simp only [q_en, List.replicate]
  refine k_iload_n i_157_0 rfl ?_
  refine k_iload_n i_157_1 rfl ?_
  refine k_iconst i_157_2 ?_
  refine k_iushr i_157_3 (J_ushr (c := 1) (by omega) (by omega)) ?_
  refine k_ldcw (a := 1431655765) i_157_4 n_17_265 (by decide) ?_
  rw [c_55]
  refine k_iand (c := (A2 : Int)) i_157_7 ((J_and _ _).trans (by rw [show A0 / 2 ^ 1 = A0 / 2 from rfl, s2])) ?_
  refine k_isub i_157_8 ?_
  refine k_istore_n i_157_9 (Nat.le_of_ble_eq_true rfl) ?_
  dsimp only [q_st1, q_st2, q_unl]
  rw [show (A0 : Int) - (A2 : Int) = (A3 : Int) from by omega]
  refine k_iload_n i_157_10 rfl ?_
  refine k_ldcw (a := 858993459) i_157_11 n_17_266 (by decide) ?_
  rw [c_33]
  refine k_iand (c := (A4 : Int)) i_157_14 ((J_and _ _).trans (by rw [s4])) ?_
  refine k_iload_n i_157_15 rfl ?_
  refine k_iconst i_157_16 ?_
  refine k_iushr i_157_17 (J_ushr (c := 2) (by omega) (by omega)) ?_
  refine k_ldcw (a := 858993459) i_157_18 n_17_266 (by decide) ?_
  rw [c_33]
  refine k_iand (c := (A5 : Int)) i_157_21 ((J_and _ _).trans (by rw [show A3 / 2 ^ 2 = A3 / 4 from rfl, s6])) ?_
  refine k_iadd i_157_22 ?_
  refine k_istore_n i_157_23 (Nat.le_of_ble_eq_true rfl) ?_
  dsimp only [q_st1, q_st2, q_unl]
  rw [show (A4 : Int) + (A5 : Int) = (A6 : Int) from by omega]
  refine k_iload_n i_157_24 rfl ?_
  refine k_iload_n i_157_25 rfl ?_
  refine k_iconst i_157_26 ?_
  refine k_iushr i_157_27 (J_ushr (c := 4) (by omega) (by omega)) ?_
  refine k_iadd i_157_28 ?_
  rw [show (A6 : Int) + ((A6 / 2 ^ 4 : Nat) : Int) = (A7 : Int) from by rw [show A6 / 2 ^ 4 = A6 / 16 from rfl]; omega]
  refine k_ldcw (a := 252645135) i_157_29 n_17_267 (by decide) ?_
  rw [c_0f]
  refine k_iand (c := (A8 : Int)) i_157_32 ((J_and _ _).trans (by rw [s9])) ?_
  refine k_istore_n i_157_33 (Nat.le_of_ble_eq_true rfl) ?_
  dsimp only [q_st1, q_st2, q_unl]
  refine k_iload_n i_157_34 rfl ?_
  refine k_iload_n i_157_35 rfl ?_
  refine k_bipush i_157_36 (by decide) ?_
  refine k_iushr i_157_38 (J_ushr (c := 8) (by omega) (by omega)) ?_
  refine k_iadd i_157_39 ?_
  refine k_istore_n i_157_40 (Nat.le_of_ble_eq_true rfl) ?_
  dsimp only [q_st1, q_st2, q_unl]
  rw [show (A8 : Int) + ((A8 / 2 ^ 8 : Nat) : Int) = (A9 : Int) from by rw [show A8 / 2 ^ 8 = A8 / 256 from rfl]; omega]
  refine k_iload_n i_157_41 rfl ?_
  refine k_iload_n i_157_42 rfl ?_
  refine k_bipush i_157_43 (by decide) ?_
  refine k_iushr i_157_45 (J_ushr (c := 16) (by omega) (by omega)) ?_
  refine k_iadd i_157_46 ?_
  refine k_istore_n i_157_47 (Nat.le_of_ble_eq_true rfl) ?_
  dsimp only [q_st1, q_st2, q_unl]
  rw [show (A9 : Int) + ((A9 / 2 ^ 16 : Nat) : Int) = (A10 : Int) from by rw [show A9 / 2 ^ 16 = A9 / 65536 from rfl]; omega]
  refine k_iload_n i_157_48 rfl ?_
  refine k_bipush i_157_49 (by decide) ?_
  rw [c_63]
  refine k_iand (c := (A11 : Int)) i_157_51 ((J_and _ _).trans (by rw [s12])) ?_
  refine k_iret i_157_52 qt_157 ?_
  exact ⟨rfl, rfl⟩
-- method 136: StraightTaxModel.ones.(I)I
theorem l_ones {m : Nat} (hm : m < 2 ^ 31) : ∀ (f k : Nat), k + f = 20 → K sh d 136 4 [some (.int (J (m : Int))), some (.int (J ((onk m k : Nat) : Int))), some (.int (J (k : Int)))] [] S (fun r S2 => r = some (.int (J ((onk m 20 : Nat) : Int))) ∧ S2 = S) := by
  intro f
  induction f with
  | zero =>
    intro k hk
    have e : k = 20 := by omega
    subst e
    refine k_iload_n i_136_4 rfl ?_
    refine k_bipush i_136_5 (by decide) ?_
    refine k_ic_ge (t := 24) i_136_7 rfl (by omega) (by omega) (fun h => ?_) (fun h => ?_)
    · refine k_iload_n i_136_24 rfl ?_
      refine k_iret i_136_25 qt_136 ?_
      exact ⟨rfl, rfl⟩
    · omega
  | succ f ih =>
    intro k hk
    refine k_iload_n i_136_4 rfl ?_
    refine k_bipush i_136_5 (by decide) ?_
    refine k_ic_ge (t := 24) i_136_7 rfl (by omega) (by omega) (fun h => ?_) (fun h => ?_)
    · omega
    · refine k_iload_n i_136_10 rfl ?_
      refine k_iload_n i_136_11 rfl ?_
      refine k_iload_n i_136_12 rfl ?_
      refine k_ishr i_136_13 (J_shr hm (by omega)) ?_
      refine k_iconst i_136_14 ?_
      refine k_iand i_136_15 (J_and1 (Nat.lt_of_le_of_lt (Nat.div_le_self _ _) (by omega))) ?_
      refine k_iadd i_136_16 ?_
      refine k_istore_n i_136_17 (Nat.le_of_ble_eq_true rfl) ?_
      dsimp only [q_st1, q_st2, q_unl]
      refine k_iinc i_136_18 rfl (Nat.le_of_ble_eq_true rfl) ?_
      dsimp only [q_st1, q_st2, q_unl]
      refine k_goto (t := 4) i_136_21 rfl ?_
      exact ih (k + 1) (by omega)
theorem m_ones {m : Nat} (hm : m < 2 ^ 31) : KP sh d 136 [.int (J (m : Int))] S (.int (J ((onk m 20 : Nat) : Int))) := by
  refine k_start ql_136 (Nat.le_of_ble_eq_true rfl) ?_
  simp only [q_en, List.replicate]
  refine k_iconst i_136_0 ?_
  refine k_istore_n i_136_1 (Nat.le_of_ble_eq_true rfl) ?_
  dsimp only [q_st1, q_st2, q_unl]
  refine k_iconst i_136_2 ?_
  refine k_istore_n i_136_3 (Nat.le_of_ble_eq_true rfl) ?_
  dsimp only [q_st1, q_st2, q_unl]
  exact l_ones hm 20 0 (by omega)
end BC
