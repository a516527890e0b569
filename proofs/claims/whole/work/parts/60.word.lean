/-! WORDS: texts that stand in the class -/
def wz (z : Nat) : List Int32 := qsby.getD z []
def wc (z i : Nat) : Int := ((wz z).getD i 0).toInt
theorem wz_len : ∀ z, z < 6 → 3 ≤ (wz z).length ∧ (wz z).length ≤ 6 := by decide +kernel
theorem wz_ch : ∀ z, z < 6 → ∀ i, i < (wz z).length → (((wz z).getD i 0 &&& J 255 = (wz z).getD i 0) ∧ (((wz z).getD i 0).toUInt32 % 65536).toInt32 = (wz z).getD i 0) ∧ (97 ≤ wc z i ∧ wc z i ≤ 122) := by decide +kernel
theorem roF0 {z : Nat} (hz : z < 6) : q_roF (1010 + z) 0 = some (.ref (1020 + z)) := by
  unfold q_roF
  rw [if_pos (by omega), if_pos rfl, show 1010 + z + 10 = 1020 + z by omega]
theorem roF1 {z : Nat} (hz : z < 6) : q_roF (1010 + z) 1 = some (.int (J 0)) := by
  unfold q_roF
  rw [if_pos (by omega), if_neg (by omega)]
  rfl
theorem roB {z : Nat} (hz : z < 6) : q_roB (1020 + z) = some (wz z) := by
  unfold q_roB
  rw [if_pos (by omega), show 1020 + z - 1020 = z by omega]
  have : ∀ z, z < 6 → qsby[z]? = some (wz z) := by decide +kernel
  exact this z hz
section TX
variable {sh : QH} {d j pc o : Nat} {ls : QL} {st : List Value} {S : QS} {Q : Option Value → QS → Prop}
theorem k_gfS {x c f ne : Nat} {v : Value} (hd : q_dec j pc = some (13, .getfield x, 3)) (hf : q_lk qft 13 x = some (13, f, ne)) (hr : q_roF c f = some v) (kk : K sh d j (pc + 3) ls (v :: st) S Q) : K sh d j pc ls (.ref c :: st) S Q := by
  refine k_m hd rfl rfl rfl ?_ kk
  simp only [q_m, hf, hr]
  rw [if_pos ⟨trivial, trivial⟩]
theorem k_alR {c : Nat} {a : List Int32} (hd : q_dec j pc = some (o, .arraylength, 1)) (hs : sh[c]? = none) (hr : q_roB c = some a) (kk : K sh d j (pc + 1) ls (.int (J (a.length : Int)) :: st) S Q) : K sh d j pc ls (.ref c :: st) S Q := by
  refine k_m hd rfl rfl rfl ?_ kk
  simp only [q_m, hs, hr, J_nat]
  rfl
theorem k_balR {c : Nat} {a : List Int32} {i : Int} (hd : q_dec j pc = some (o, .baload, 1)) (hs : sh[c]? = none) (hr : q_roB c = some a) (hn : a.length < 100) (h0 : 0 ≤ i) (h1 : i < a.length) (kk : K sh d j (pc + 1) ls (.int (a.getD i.toNat 0) :: st) S Q) : K sh d j pc ls (.int (J i) :: .ref c :: st) S Q := by
  refine k_m hd rfl rfl rfl ?_ kk
  obtain ⟨e1, e2⟩ := J_ix (n := a.length) h0 h1 (by omega)
  simp only [q_m, hs, hr]
  rw [if_pos ⟨trivial, e1⟩, e2]
end TX
theorem q_no {sh : QH} {c : Nat} (h : sh.length ≤ 1000) (hc : 1000 ≤ c) : sh[c]? = none := List.getElem?_eq_none (by omega)
theorem q_cls_s {sh : QH} {z : Nat} (h : sh.length ≤ 1000) (hz : z < 6) : q_cls sh (1010 + z) = some 13 := by
  unfold q_cls
  rw [q_no h (by omega)]
  dsimp only
  rw [if_pos (by omega)]
section TX2
variable {sh : QH} {d : Nat} {S : QS} {z : Nat}
-- method 149: java/lang/String.coder.()B
theorem e_coder (hz : z < 6) : KP sh d 149 [.ref (1010 + z)] S (.int (J 0)) := by
  refine k_start ql_149 (Nat.le_of_ble_eq_true rfl) ?_
  simp only [q_en, List.replicate]
  refine k_gs i_149_0 s_13_38 ?_
  refine k_if_eq (a := 1) (t := 13) i_149_3 rfl (by omega) (fun h => ?_) (fun h => ?_)
  · omega
  · refine k_aload_n i_149_6 rfl ?_
    refine k_gfS i_149_7 f_13_15 (roF1 hz) ?_
    refine k_goto (t := 14) i_149_10 rfl ?_
    refine k_nret i_149_14 qt_149 (by first | rfl | assumption) ?_
    exact ⟨rfl, rfl⟩
-- method 151: java/lang/String.isLatin1.()Z
theorem e_isLatin1 (hz : z < 6) : KP sh d 151 [.ref (1010 + z)] S (.int (J (bi true))) := by
  refine k_start ql_151 (Nat.le_of_ble_eq_true rfl) ?_
  simp only [q_en, List.replicate]
  refine k_gs i_151_0 s_13_38 ?_
  refine k_if_eq (a := 1) (t := 17) i_151_3 rfl (by omega) (fun h => ?_) (fun h => ?_)
  · omega
  · refine k_aload_n i_151_6 rfl ?_
    refine k_gfS i_151_7 f_13_15 (roF1 hz) ?_
    refine k_if_ne (t := 17) i_151_10 rfl (by omega) (fun h => ?_) (fun h => ?_)
    · omega
    · refine k_iconst i_151_13 ?_
      refine k_goto (t := 18) i_151_14 rfl ?_
      refine k_nret i_151_18 qt_151 (by first | exact bi_nar _ | rfl) ?_
      exact ⟨rfl, rfl⟩
-- method 148: java/lang/String.length.()I
theorem e_slen (hz : z < 6) (hsh : sh.length ≤ 1000) : KP sh (d + 1) 148 [.ref (1010 + z)] S (.int (J ((wz z).length : Int))) := by
  have hl := wz_len z hz
  refine k_start ql_148 (Nat.le_of_ble_eq_true rfl) ?_
  simp only [q_en, List.replicate]
  refine k_aload_n i_148_0 rfl ?_
  refine k_gfS i_148_1 f_13_9 (roF0 hz) ?_
  refine k_alR i_148_4 (q_no hsh (by omega)) (roB hz) ?_
  refine k_aload_n i_148_5 rfl ?_
  refine k_cvx (As := []) i_148_6 c_13_335 qp_149 qo_149 (q_cls_s hsh hz) (Nat.le_of_ble_eq_true rfl) rfl (e_coder hz) (fun v S2 h => ?_)
  obtain ⟨rfl, rfl⟩ := h
  show K sh (d + 1) 148 9 _ [.int (J 0), .int (J ((wz z).length : Int))] _ _
  refine k_ishr (c := ((wz z).length : Int)) i_148_9 ?_ ?_
  · have h := J_shr (m := (wz z).length) (c := 0) (by omega) (by omega)
    rw [Nat.pow_zero, Nat.div_one] at h
    exact h
  · refine k_iret i_148_10 qt_148 ?_
    exact ⟨rfl, rfl⟩
-- method 154: jdk/internal/util/Preconditions.checkIndex.(IILjava/util/function/BiFunction;)I
theorem e_chk (a b : Int) (ha : 0 ≤ a ∧ a < b) (hb : b < 1000) (r : Nat) : KP sh d 154 [.int (J a), .int (J b), .ref r] S (.int (J a)) := by
  refine k_start ql_154 (Nat.le_of_ble_eq_true rfl) ?_
  simp only [q_en, List.replicate]
  refine k_iload_n i_154_0 rfl ?_
  refine k_if_lt (t := 9) i_154_1 rfl (by omega) (fun h => ?_) (fun h => ?_)
  · omega
  · refine k_iload_n i_154_4 rfl ?_
    refine k_iload_n i_154_5 rfl ?_
    refine k_ic_lt (t := 16) i_154_6 rfl (by omega) (by omega) (fun g => ?_) (fun g => ?_)
    · refine k_iload_n i_154_16 rfl ?_
      refine k_iret i_154_17 qt_154 ?_
      exact ⟨rfl, rfl⟩
    · omega
-- method 152: java/lang/String.checkIndex.(II)V
theorem e_chk2 (a b : Int) (ha : 0 ≤ a ∧ a < b) (hb : b < 1000) : KC sh (d + 1) 152 [.int (J a), .int (J b)] S (fun r S2 => r = none ∧ S2 = S) := by
  refine k_start ql_152 (Nat.le_of_ble_eq_true rfl) ?_
  simp only [q_en, List.replicate]
  refine k_iload_n i_152_0 rfl ?_
  refine k_iload_n i_152_1 rfl ?_
  refine k_gs i_152_2 s_13_1053 ?_
  refine k_sp3 i_152_5 c_13_1059 (by decide) qp_154 (Nat.le_of_ble_eq_true rfl) (e_chk a b ha hb _) ?_
  refine k_pop i_152_8 ?_
  refine k_vret i_152_9 qt_152 ?_
  exact ⟨rfl, rfl⟩
-- method 153: java/lang/StringLatin1.charAt.([BI)C
theorem e_l1ch (hz : z < 6) (hsh : sh.length ≤ 1000) (i : Nat) (hi : i < (wz z).length) : KP sh (d + 2) 153 [.ref (1020 + z), .int (J (i : Int))] S (.int (J (wc z i))) := by
  have hl := wz_len z hz
  obtain ⟨⟨h1, h2⟩, h3⟩ := wz_ch z hz i hi
  have ei : ((i : Int)).toNat = i := by omega
  have ex : (wz z).getD i 0 = J (wc z i) := (J_of _).symm
  refine k_start ql_153 (Nat.le_of_ble_eq_true rfl) ?_
  simp only [q_en, List.replicate]
  refine k_iload_n i_153_0 rfl ?_
  refine k_aload_n i_153_1 rfl ?_
  refine k_alR i_153_2 (q_no hsh (by omega)) (roB hz) ?_
  refine k_cs2 i_153_3 c_14_9 (by decide) qp_152 (Nat.le_of_ble_eq_true rfl) (e_chk2 _ _ (by omega) (by omega)) (fun v S2 h => ?_)
  obtain ⟨rfl, rfl⟩ := h
  show K sh (d + 2) 153 6 _ [] _ _
  refine k_aload_n i_153_6 rfl ?_
  refine k_iload_n i_153_7 rfl ?_
  refine k_balR i_153_8 (q_no hsh (by omega)) (roB hz) (by omega) (by omega) (by omega) ?_
  rw [ei]
  refine k_sipush i_153_9 (by decide) ?_
  refine k_iand (c := wc z i) i_153_12 (by rw [h1, ex]) ?_
  refine k_i2c (c := wc z i) i_153_13 (by rw [← ex]; exact h2) ?_
  refine k_nret i_153_14 qt_153 ?_ ⟨rfl, rfl⟩
  rw [← ex]
  show Value.int _ = _
  exact congrArg Value.int h2
-- method 150: java/lang/String.charAt.(I)C
theorem e_chAt (hz : z < 6) (hsh : sh.length ≤ 1000) (i : Nat) (hi : i < (wz z).length) : KP sh (d + 3) 150 [.ref (1010 + z), .int (J (i : Int))] S (.int (J (wc z i))) := by
  obtain ⟨⟨h1, h2⟩, h3⟩ := wz_ch z hz i hi
  have ex : (wz z).getD i 0 = J (wc z i) := (J_of _).symm
  refine k_start ql_150 (Nat.le_of_ble_eq_true rfl) ?_
  simp only [q_en, List.replicate]
  refine k_aload_n i_150_0 rfl ?_
  refine k_cvx (As := []) i_150_1 c_13_492 qp_151 qo_151 (q_cls_s hsh hz) (Nat.le_of_ble_eq_true rfl) rfl (e_isLatin1 hz) (fun v S2 h => ?_)
  obtain ⟨rfl, rfl⟩ := h
  show K sh (d + 3) 150 4 _ [.int (J (bi true))] _ _
  refine k_if_eqB (t := 16) i_150_4 rfl (fun h => ?_) (fun h => ?_)
  · cases h
  · refine k_aload_n i_150_7 rfl ?_
    refine k_gfS i_150_8 f_13_9 (roF0 hz) ?_
    refine k_iload_n i_150_11 rfl ?_
    refine k_sp2 i_150_12 c_13_495 (by decide) qp_153 (Nat.le_of_ble_eq_true rfl) (e_l1ch hz hsh i hi) ?_
    refine k_nret i_150_15 qt_150 ?_ ⟨rfl, rfl⟩
    rw [← ex]
    show Value.int _ = _
    exact congrArg Value.int h2
end TX2
/-- is the word from q up to e just this one -/
def isW (z : Nat) (b : Nat → Int) (q e : Nat) : Bool := decide (e - q = (wz z).length ∧ ∀ i, i < (wz z).length → b (q + i) = wc z i)
theorem sb_lo {b v : Int} (hb : 0 ≤ b ∧ b < 256) (hv : 0 ≤ v ∧ v < 128) : sb b = v ↔ b = v := by
  unfold sb
  split <;> omega
theorem sb_r {b : Int} (hb : 0 ≤ b ∧ b < 256) : -128 ≤ sb b ∧ sb b < 128 := by
  unfold sb
  split <;> omega
section TX3
variable {d : Nat} {I : Nat → Nat → Int} {X : XX} {h0 s0 w0 z : Nat} {b : Nat → Int} {L q e : Nat}
-- method 13: StraightTax$Text.isWord.(Ljava/lang/String;)Z
theorem l_isWord (hR : X.2 = rX h0 s0 w0) (hz : z < 6) (hq : I 1 3 = (q : Int)) (hqe : q ≤ e) (heL : e ≤ L) (hL : L ≤ 200) (hb : ∀ i, i < L → 0 ≤ b i ∧ b i < 256) (hB : ∀ i, i < L → I 2 i = sb (b i)) (hlen : e - q = (wz z).length) : ∀ (m k : Nat), k + m = (wz z).length → (∀ i, i < k → b (q + i) = wc z i) → K shX (d + 4) 13 20 [some (.ref 1), some (.ref (1010 + z)), some (.int (J (k : Int)))] [] (I, X) (fun r S2 => r = some (.int (J (bi (isW z b q e)))) ∧ S2 = (I, X)) := by
  have hl := wz_len z hz
  have hsh : shX.length ≤ 1000 := by decide
  intro m
  induction m with
  | zero =>
    intro k hk ha
    refine k_iload_n i_13_20 rfl ?_
    refine k_aload_n i_13_21 rfl ?_
    refine k_cvx (As := []) i_13_22 c_6_135 qp_148 qo_148 (q_cls_s hsh hz) (Nat.le_of_ble_eq_true rfl) rfl (e_slen (d := d + 2) hz hsh) (fun v S2 h => ?_)
    obtain ⟨rfl, rfl⟩ := h
    show K shX (d + 4) 13 25 _ [.int (J ((wz z).length : Int)), .int (J (k : Int))] _ _
    refine k_ic_ge (t := 55) i_13_25 rfl (by omega) (by omega) (fun g => ?_) (fun g => ?_)
    · refine k_iconst i_13_55 ?_
      refine k_nret i_13_56 qt_13 (by first | exact bi_nar _ | rfl) ?_
      refine ⟨?_, rfl⟩
      unfold isW
      rw [decide_eq_true ⟨hlen, fun i hi => ha i (by omega)⟩]
      rfl
    · omega
  | succ m ih =>
    intro k hk ha
    obtain ⟨-, hw⟩ := wz_ch z hz k (by omega)
    have hbk := hb (q + k) (by omega)
    have hsr := sb_r hbk
    refine k_iload_n i_13_20 rfl ?_
    refine k_aload_n i_13_21 rfl ?_
    refine k_cvx (As := []) i_13_22 c_6_135 qp_148 qo_148 (q_cls_s hsh hz) (Nat.le_of_ble_eq_true rfl) rfl (e_slen (d := d + 2) hz hsh) (fun v S2 h => ?_)
    obtain ⟨rfl, rfl⟩ := h
    show K shX (d + 4) 13 25 _ [.int (J ((wz z).length : Int)), .int (J (k : Int))] _ _
    refine k_ic_ge (t := 55) i_13_25 rfl (by omega) (by omega) (fun g => ?_) (fun g => ?_)
    · omega
    · refine k_aload_n i_13_28 rfl ?_
      refine k_gfR i_13_29 f_6_15 (by first | rfl | assumption | (rw [hR]; rfl) | (dsimp only; rw [hR]; rfl)) (by decide) (by decide) (Or.inr ⟨_, rfl⟩) (by first | rfl | assumption | (rw [hR]; rfl) | (dsimp only; rw [hR]; rfl)) ?_
      refine k_aload_n i_13_32 rfl ?_
      refine k_gfV (a := (q : Int)) i_13_33 f_6_64 (by first | rfl | assumption | (rw [hR]; rfl) | (dsimp only; rw [hR]; rfl)) (by decide) (by decide) (Or.inl rfl) (hq) ?_
      refine k_iload_n i_13_36 rfl ?_
      refine k_iadd i_13_37 ?_
      refine k_bald i_13_38 rfl (by decide) (by omega) (by omega) ?_
      rw [show ((q : Int) + (k : Int)).toNat = q + k by omega]
      dsimp only
      rw [hB (q + k) (by omega)]
      refine k_aload_n i_13_39 rfl ?_
      refine k_iload_n i_13_40 rfl ?_
      refine k_cvx (As := [.int (J (k : Int))]) i_13_41 c_6_140 qp_150 qo_150 (q_cls_s hsh hz) (Nat.le_of_ble_eq_true rfl) rfl (e_chAt hz hsh k (by omega)) (fun v S2 h => ?_)
      obtain ⟨rfl, rfl⟩ := h
      show K shX (d + 4) 13 44 _ [.int (J (wc z k)), .int (J (sb (b (q + k))))] _ _
      refine k_ic_eq (t := 49) i_13_44 rfl (by omega) (by omega) (fun g2 => ?_) (fun g2 => ?_)
      · refine k_iinc i_13_49 rfl (Nat.le_of_ble_eq_true rfl) ?_
        dsimp only [q_st1, q_st2, q_unl]
        refine k_goto (t := 20) i_13_52 rfl ?_
        refine ih (k + 1) (by omega) (fun i hi => ?_)
        by_cases y : i = k
        · subst y
          exact (sb_lo hbk (by omega)).mp g2
        · exact ha i (by omega)
      · refine k_iconst i_13_47 ?_
        refine k_nret i_13_48 qt_13 (by first | exact bi_nar _ | rfl) ?_
        refine ⟨?_, rfl⟩
        unfold isW
        rw [decide_eq_false (fun y => g2 ((sb_lo hbk (by omega)).mpr (y.2 k (by omega))))]
        rfl
theorem e_isWord (hR : X.2 = rX h0 s0 w0) (hz : z < 6) (hq : I 1 3 = (q : Int)) (he : I 1 2 = (e : Int)) (hqe : q ≤ e) (heL : e ≤ L) (hL : L ≤ 200) (hb : ∀ i, i < L → 0 ≤ b i ∧ b i < 256) (hB : ∀ i, i < L → I 2 i = sb (b i)) : KP shX (d + 4) 13 [.ref 1, .ref (1010 + z)] (I, X) (.int (J (bi (isW z b q e)))) := by
  have hl := wz_len z hz
  have hsh : shX.length ≤ 1000 := by decide
  refine k_start ql_13 (Nat.le_of_ble_eq_true rfl) ?_
  simp only [q_en, List.replicate]
  refine k_aload_n i_13_0 rfl ?_
  refine k_gfV (a := (e : Int)) i_13_1 f_6_24 (by first | rfl | assumption | (rw [hR]; rfl) | (dsimp only; rw [hR]; rfl)) (by decide) (by decide) (Or.inl rfl) (he) ?_
  refine k_aload_n i_13_4 rfl ?_
  refine k_gfV (a := (q : Int)) i_13_5 f_6_64 (by first | rfl | assumption | (rw [hR]; rfl) | (dsimp only; rw [hR]; rfl)) (by decide) (by decide) (Or.inl rfl) (hq) ?_
  refine k_isub i_13_8 ?_
  refine k_aload_n i_13_9 rfl ?_
  refine k_cvx (As := []) i_13_10 c_6_135 qp_148 qo_148 (q_cls_s hsh hz) (Nat.le_of_ble_eq_true rfl) rfl (e_slen (d := d + 2) hz hsh) (fun v S2 h => ?_)
  obtain ⟨rfl, rfl⟩ := h
  show K shX (d + 4) 13 13 _ [.int (J ((wz z).length : Int)), .int (J ((e : Int) - (q : Int)))] _ _
  refine k_ic_eq (t := 18) i_13_13 rfl (by omega) (by omega) (fun g => ?_) (fun g => ?_)
  · refine k_iconst i_13_18 ?_
    refine k_istore_n i_13_19 (Nat.le_of_ble_eq_true rfl) ?_
    dsimp only [q_st1, q_st2, q_unl]
    exact l_isWord hR hz hq hqe heL hL hb hB (by omega) (wz z).length 0 (by omega) (fun i hi => absurd hi (Nat.not_lt_zero i))
  · refine k_iconst i_13_16 ?_
    refine k_nret i_13_17 qt_13 (by first | exact bi_nar _ | rfl) ?_
    refine ⟨?_, rfl⟩
    unfold isW
    rw [decide_eq_false (fun y => g (by omega))]
    rfl
end TX3
