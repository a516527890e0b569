/-! LONGS -/
abbrev JL (z : Int) : Int64 := Int64.ofInt z
abbrev inL (a : Int) : Prop := -9223372036854775808 ≤ a ∧ a < 9223372036854775808
theorem JL_toInt {a : Int} (h : inL a) : (JL a).toInt = a := Int64.toInt_ofInt_of_le (by simpa using h.1) (by simpa using h.2)
theorem JL_lt {a b : Int} (ha : inL a) (hb : inL b) : JL a < JL b ↔ a < b := by
  rw [Int64.lt_iff_toInt_lt, JL_toInt ha, JL_toInt hb]
theorem JL_eq {a b : Int} (ha : inL a) (hb : inL b) : JL a = JL b ↔ a = b := by
  rw [← Int64.toInt_inj, JL_toInt ha, JL_toInt hb]
theorem J_l {a : Int} (h : inJ a) : (J a).toInt64 = JL a := by
  rw [← Int64.toInt_inj, Int32.toInt_toInt64, J_toInt h.1 h.2, JL_toInt ⟨by omega, by omega⟩]
section KL
variable {sh : QH} {d j pc o : Nat} {ls : QL} {st : List Value} {S : QS} {Q : Option Value → QS → Prop}
theorem k_lconstJ {k : Fin 2} {a : Int} (hd : q_dec j pc = some (o, .lconst k, 1)) (hv : Int64.ofNat (k : Nat) = JL a) (kk : K sh d j (pc + 1) ls (.long (JL a) :: st) S Q) : K sh d j pc ls st S Q := by
  rw [← hv] at kk
  exact k_lconst hd kk
theorem k_ldc2J {x : Nat} {v : Int64} {a : Int} (hd : q_dec j pc = some (o, .ldc2_w x, 3)) (hc : q_lk qcj o x = some v) (hv : v = JL a) (kk : K sh d j (pc + 3) ls (.long (JL a) :: st) S Q) : K sh d j pc ls st S Q := by
  subst hv
  exact k_ldc2 hd hc kk
theorem k_i2lJ {a : Int} (hd : q_dec j pc = some (o, .i2l, 1)) (ha : inJ a) (kk : K sh d j (pc + 1) ls (.long (JL a) :: st) S Q) : K sh d j pc ls (.int (J a) :: st) S Q := by
  rw [← J_l ha] at kk
  exact k_i2l hd kk
theorem k_lc_lt {a b off : Int} {t : Nat} (hd : q_dec j pc = some (o, .ifCond .lt off, 3)) (ht : (pc : Int) + off = (t : Int)) (ha : inL a) (hb : inL b) (k1 : a < b → K sh d j t ls st S Q) (k2 : ¬ a < b → K sh d j (pc + 3) ls st S Q) : K sh d j pc ls (.int (lg_cmp (JL a) (JL b)) :: st) S Q :=
  k_ifx hd ht (fun h => k1 (by simpa [q_cd, lg_cmp_lt, JL_lt ha hb] using h)) (fun h => k2 (by simpa [q_cd, lg_cmp_lt, JL_lt ha hb] using h))
theorem k_lc_gt {a b off : Int} {t : Nat} (hd : q_dec j pc = some (o, .ifCond .gt off, 3)) (ht : (pc : Int) + off = (t : Int)) (ha : inL a) (hb : inL b) (k1 : b < a → K sh d j t ls st S Q) (k2 : ¬ b < a → K sh d j (pc + 3) ls st S Q) : K sh d j pc ls (.int (lg_cmp (JL a) (JL b)) :: st) S Q :=
  k_ifx hd ht (fun h => k1 (by simpa [q_cd, lg_cmp_gt, JL_lt hb ha] using h)) (fun h => k2 (by simpa [q_cd, lg_cmp_gt, JL_lt hb ha] using h))
theorem k_lc_ne {x y : Int64} {off : Int} {t : Nat} (hd : q_dec j pc = some (o, .ifCond .ne off, 3)) (ht : (pc : Int) + off = (t : Int)) (k1 : ¬ x = y → K sh d j t ls st S Q) (k2 : x = y → K sh d j (pc + 3) ls st S Q) : K sh d j pc ls (.int (lg_cmp x y) :: st) S Q :=
  k_ifx hd ht (fun h => k1 (by simpa [q_cd, lg_cmp_eq] using h)) (fun h => k2 (by simpa [q_cd, lg_cmp_eq] using h))
theorem k_lc_eq {x y : Int64} {off : Int} {t : Nat} (hd : q_dec j pc = some (o, .ifCond .eq off, 3)) (ht : (pc : Int) + off = (t : Int)) (k1 : x = y → K sh d j t ls st S Q) (k2 : ¬ x = y → K sh d j (pc + 3) ls st S Q) : K sh d j pc ls (.int (lg_cmp x y) :: st) S Q :=
  k_ifx hd ht (fun h => k1 (by simpa [q_cd, lg_cmp_eq] using h)) (fun h => k2 (by simpa [q_cd, lg_cmp_eq] using h))
end KL
