/-! ROUND: the class -/
noncomputable def okB (T : Tn) (s : Int) : Bool := @decide (okP T s) (Classical.propDecidable _)
theorem okB_t {T : Tn} {s : Int} (h : okP T s) : okB T s = true := by unfold okB; exact @decide_eq_true _ (Classical.propDecidable _) h
theorem okB_f {T : Tn} {s : Int} (h : ¬ okP T s) : okB T s = false := by unfold okB; exact @decide_eq_false _ (Classical.propDecidable _) h
theorem okP_of {T : Tn} {m : Nat} (hm : m < 2 ^ (tN T).toNat) (hp : pc m 20 ≤ 4) (ho : ∀ c : Nat, (c : Int) < tN T → m.testBit c = true → tOpen T c = true) : okP T (m : Int) := by
  have e : ((m : Int)).toNat = m := Int.toNat_natCast m
  unfold okP
  rw [e]
  exact ⟨Int.natCast_nonneg m, Int.ofNat_lt.mpr hm, hp, ho⟩
theorem okP_to {T : Tn} {m : Nat} (h : okP T (m : Int)) : m < 2 ^ (tN T).toNat ∧ pc m 20 ≤ 4 ∧ ∀ c : Nat, (c : Int) < tN T → m.testBit c = true → tOpen T c = true := by
  have e : ((m : Int)).toNat = m := Int.toNat_natCast m
  unfold okP at h
  rw [e] at h
  exact ⟨Int.ofNat_lt.mp h.2.1, h.2.2.1, h.2.2.2⟩
theorem AX.row {I : Nat → Nat → Int} {X : XX} {h s w : Nat} {T : Tn} {nt b : Int} {c : Nat} {f : Nat → Int} (hA : AX I X h s w T nt b) (hc : 37 ≤ c ∧ c ≤ 40) : AX (sr I c f) X h s w T nt b := by
  obtain ⟨h1, h2, h3, h4, h5, h6⟩ := hA
  refine ⟨h1.row (by omega), ?_, ?_, ?_, ?_, ?_⟩
  · rw [sr_n (by omega)]; exact h2
  · rw [sr_n (by omega)]; exact h3
  · rw [sr_n (by omega)]; exact h4
  · rw [sr_n (by omega)]; exact h5
  · rw [sr_n (by omega)]; exact h6
theorem up_sr {I : Nat → Nat → Int} {c k : Nat} {v : Int} : q_up I c k v = sr I c (ud (I c) k v) := by rw [← sr_up, sr_id]
/-- aim, with what it leaves alone -/
theorem e_aim2 {d : Nat} {T : Tn} {I : Nat → Nat → Int} {X : XX} {h0 s0 w : Nat} {nt b : Int} (hW : WX I X h0 s0 w T nt) (hb : 0 ≤ b ∧ b < tN T) : KC shX (d + 4) 49 [.ref 32, .int (J b)] (I, X) (fun r S2 => r = none ∧ ∃ I', S2 = (I', X) ∧ Scr I I' ∧ AX I' X h0 s0 w T nt b ∧ ∀ c, c ≠ 32 → c ≠ 35 → c ≠ 36 → I' c = I c) := by
  have hw := hW.2.2.2.2.2.2.1.1
  have hN := tN_le hw
  have h01 := hW.2.2.2.2.2.1
  refine (e_aim hW (by omega) (xfx_of hw (DX_fx hw h01 hb))).mono (fun r S2 h => ?_)
  obtain ⟨h1, o, n, h2, h3, h4, h5, h6⟩ := h
  refine ⟨h1, _, h2, ScrAim, AX.of_aim hW h3 h4 h5 h6, fun c c1 c2 c3 => ?_⟩
  rw [RI_n c2 c3]
  exact (q_up_c (f := I) c1).symm
/-- the stops of a round: where it begins, and behind it the places -/
noncomputable def St (m : Nat) (a : Int) (k : Nat) : Int := if k = 0 then a else (pl m (k - 1) : Int)
theorem St_0 {m : Nat} {a : Int} : St m a 0 = a := rfl
theorem St_S {m : Nat} {a : Int} {j : Nat} : St m a (j + 1) = (pl m j : Int) := rfl
theorem mnj_top {g : Nat → Int} {left n : Nat} {F : Int} (hl : left < 2 ^ n) : ∀ j : Nat, mnj g left F (n + j) = mnj g left F n
  | 0 => rfl
  | j + 1 => by
    rw [show n + (j + 1) = (n + j) + 1 by omega]
    show (if left.testBit (n + j) = true then _ else _) = _
    rw [if_neg, mnj_top hl j]
    intro z
    have h1 := two_pow_le_of_bit z
    have h2 := Nat.pow_le_pow_right (n := 2) (by decide) (show n ≤ n + j by omega)
    omega
theorem J_andbit : ∀ l : Nat, l < 16 → ∀ j : Nat, j < 4 → l &&& 2 ^ j = if l.testBit j = true then 2 ^ j else 0 := by decide
section RX
variable {d : Nat} {T : Tn} {I : Nat → Nat → Int} {X : XX} {h0 s0 w : Nat} {nt : Int} {Q : Option Value → QS → Prop}
-- method 88: StraightTax.arePlaces.(I)Z
theorem l_areP (hR : X.2 = rX h0 s0 w) (hT : TAt shX (I, X) h0 T) (hw : tWF T) (m : Nat) (hm : m < 2 ^ (tN T).toNat) (hp : pc m 20 ≤ 4) : ∀ (f c : Nat), (c : Int) + f = tN T → (∀ c' : Nat, c' < c → m.testBit c' = true → tOpen T c' = true) → K shX (d + 3) 88 28 [some (.ref 0), some (.int (J (m : Int))), some (.int (J (c : Int)))] [] (I, X) (fun r S2 => r = some (.int (J (bi (okB T m)))) ∧ S2 = (I, X)) := by
  obtain ⟨s1, s2, s3, r1, r2, a0, a1, a2, a3, a4, a5, a6, ag⟩ := id hT
  have hN := tN_le hw
  have hm2 := inT_lt hw (inT_of hm (by omega))
  intro f
  induction f with
  | zero =>
    intro c hc ho
    refine k_iload_n i_88_28 rfl ?_
    refine k_aload_n i_88_29 rfl ?_
    refine k_gfR i_88_30 f_11_54 (by first | rfl | assumption | (rw [hR]; rfl) | (dsimp only; rw [hR]; rfl)) (by decide) (by decide) (Or.inl ⟨_, rfl⟩) (by first | rfl | assumption | (rw [hR]; rfl) | (dsimp only; rw [hR]; rfl)) ?_
    refine k_vp0 i_88_33 c_11_235 qp_28 qo_28 (by first | rfl | assumption | (rw [hR]; rfl) | (dsimp only; rw [hR]; rfl)) (Nat.le_of_ble_eq_true rfl) (e_squares hT) ?_
    refine k_ic_ge (t := 66) i_88_36 rfl (by omega) (by omega) (fun h => ?_) (fun h => ?_)
    · refine k_iconst i_88_66 ?_
      refine k_nret i_88_67 qt_88 (by first | exact bi_nar _ | rfl) ?_
      rw [okB_t (okP_of hm hp (fun c' h1 h2 => ho c' (by omega) h2))]
      exact ⟨rfl, rfl⟩
    · omega
  | succ f ih =>
    intro c hc ho
    have ho2 : ∀ (_ : m.testBit c = true → tOpen T c = true), ∀ c' : Nat, c' < c + 1 → m.testBit c' = true → tOpen T c' = true := by
      intro h c' h1 h2
      by_cases e : c' = c
      · subst e; exact h h2
      · exact ho c' (by omega) h2
    refine k_iload_n i_88_28 rfl ?_
    refine k_aload_n i_88_29 rfl ?_
    refine k_gfR i_88_30 f_11_54 (by first | rfl | assumption | (rw [hR]; rfl) | (dsimp only; rw [hR]; rfl)) (by decide) (by decide) (Or.inl ⟨_, rfl⟩) (by first | rfl | assumption | (rw [hR]; rfl) | (dsimp only; rw [hR]; rfl)) ?_
    refine k_vp0 i_88_33 c_11_235 qp_28 qo_28 (by first | rfl | assumption | (rw [hR]; rfl) | (dsimp only; rw [hR]; rfl)) (Nat.le_of_ble_eq_true rfl) (e_squares hT) ?_
    refine k_ic_ge (t := 66) i_88_36 rfl (by omega) (by omega) (fun h => ?_) (fun h => ?_)
    · omega
    · refine k_iload_n i_88_39 rfl ?_
      refine k_iload_n i_88_40 rfl ?_
      refine k_sp2 i_88_41 c_11_220 (by decide) qp_86 (Nat.le_of_ble_eq_true rfl) (e_isIn (by omega) _ (by omega) (by omega)) ?_
      rw [show ((c : Int)).toNat = c by omega]
      refine k_if_eqB (t := 60) i_88_44 rfl (fun h => ?_) (fun h => ?_)
      · refine k_iinc i_88_60 rfl (Nat.le_of_ble_eq_true rfl) ?_
        dsimp only [q_st1, q_st2, q_unl]
        refine k_goto (t := 28) i_88_63 rfl ?_
        exact ih (c + 1) (by omega) (ho2 (fun z => by rw [h] at z; cases z))
      · have hb := h
        refine k_aload_n i_88_47 rfl ?_
        refine k_gfR i_88_48 f_11_54 (by first | rfl | assumption | (rw [hR]; rfl) | (dsimp only; rw [hR]; rfl)) (by decide) (by decide) (Or.inl ⟨_, rfl⟩) (by first | rfl | assumption | (rw [hR]; rfl) | (dsimp only; rw [hR]; rfl)) ?_
        refine k_iload_n i_88_51 rfl ?_
        refine k_vp1 i_88_52 c_11_129 qp_26 qo_26 (by first | rfl | assumption | (rw [hR]; rfl) | (dsimp only; rw [hR]; rfl)) (Nat.le_of_ble_eq_true rfl) (e_isOpen hT hw _ (by omega)) ?_
        refine k_if_neB (t := 60) i_88_55 rfl (fun h => ?_) (fun h => ?_)
        · have hop := h
          refine k_iinc i_88_60 rfl (Nat.le_of_ble_eq_true rfl) ?_
          dsimp only [q_st1, q_st2, q_unl]
          refine k_goto (t := 28) i_88_63 rfl ?_
          exact ih (c + 1) (by omega) (ho2 (fun _ => hop))
        · refine k_iconst i_88_58 ?_
          refine k_nret i_88_59 qt_88 (by first | exact bi_nar _ | rfl) ?_
          rw [okB_f (fun z => by
            have := (okP_to z).2.2 c (by omega) hb
            rw [h] at this
            cases this)]
          exact ⟨rfl, rfl⟩
theorem e_areP (hR : X.2 = rX h0 s0 w) (hT : TAt shX (I, X) h0 T) (hw : tWF T) (s : Int) (hs : inJ s) : KP shX (d + 3) 88 [.ref 0, .int (J s)] (I, X) (.int (J (bi (okB T s)))) := by
  obtain ⟨s1, s2, s3, r1, r2, a0, a1, a2, a3, a4, a5, a6, ag⟩ := id hT
  have hN := tN_le hw
  obtain ⟨Pw, hPw⟩ : ∃ Pw : Nat, Pw = 2 ^ (tN T).toNat := ⟨_, rfl⟩
  have hp20 : Pw ≤ 2 ^ 20 := by rw [hPw]; exact Nat.pow_le_pow_right (n := 2) (by decide) (by omega)
  have hp1 : 1 ≤ Pw := by rw [hPw]; exact Nat.two_pow_pos _
  have bad : ¬ okP T s → K shX (d + 3) 88 24 [some (.ref 0), some (.int (J s)), none] [] (I, X) (fun r S2 => r = some (.int (J (bi (okB T s)))) ∧ S2 = (I, X)) := by
    intro hbad
    refine k_iconst i_88_24 ?_
    refine k_nret i_88_25 qt_88 (by first | exact bi_nar _ | rfl) ?_
    rw [okB_f hbad]
    exact ⟨rfl, rfl⟩
  refine k_start ql_88 (Nat.le_of_ble_eq_true rfl) ?_
  simp only [q_en, List.replicate]
  refine k_iload_n i_88_0 rfl ?_
  refine k_if_lt (t := 24) i_88_1 rfl (by omega) (fun h => ?_) (fun h => ?_)
  · exact bad (fun z => by have := z.1; omega)
  · obtain ⟨m, rfl⟩ : ∃ m : Nat, s = m := ⟨s.toNat, by omega⟩
    refine k_iload_n i_88_4 rfl ?_
    refine k_aload_n i_88_5 rfl ?_
    refine k_gfR i_88_6 f_11_54 (by first | rfl | assumption | (rw [hR]; rfl) | (dsimp only; rw [hR]; rfl)) (by decide) (by decide) (Or.inl ⟨_, rfl⟩) (by first | rfl | assumption | (rw [hR]; rfl) | (dsimp only; rw [hR]; rfl)) ?_
    refine k_vp0 i_88_9 c_11_235 qp_28 qo_28 (by first | rfl | assumption | (rw [hR]; rfl) | (dsimp only; rw [hR]; rfl)) (Nat.le_of_ble_eq_true rfl) (e_squares hT) ?_
    have hsh := J_shr (m := m) (by omega) (c := (tN T).toNat) (by omega)
    rw [show (((tN T).toNat : Nat) : Int) = tN T by omega] at hsh
    refine k_ishr i_88_12 hsh ?_
    have hdle : m / 2 ^ (tN T).toNat ≤ m := Nat.div_le_self _ _
    generalize hq : m / 2 ^ (tN T).toNat = q at hdle ⊢
    refine k_if_ne (t := 24) i_88_13 rfl (by omega) (fun g => ?_) (fun g => ?_)
    · refine bad (fun z => ?_)
      have : m < 2 ^ (tN T).toNat := (okP_to z).1
      rw [Nat.div_eq_of_lt this] at hq
      omega
    · have hm : m < 2 ^ (tN T).toNat := by
        have hq0 : m / 2 ^ (tN T).toNat = 0 := by omega
        exact (Nat.div_eq_zero_iff_lt (Nat.two_pow_pos _)).mp hq0
      have hm2 : m < Pw := by rw [hPw]; exact hm
      refine k_iload_n i_88_16 rfl ?_
      refine k_sp1 i_88_17 c_11_266 (by decide) qp_157 (Nat.le_of_ble_eq_true rfl) (e_bitCount (by omega)) ?_
      have hon : onk m 20 ≤ 20 := by rw [onk_pc]; exact pc_le 20
      refine k_iconst i_88_20 ?_
      refine k_ic_le (t := 26) i_88_21 rfl (by omega) (by omega) (fun h => ?_) (fun h => ?_)
      · refine k_iconst i_88_26 ?_
        refine k_istore_n i_88_27 (Nat.le_of_ble_eq_true rfl) ?_
        dsimp only [q_st1, q_st2, q_unl]
        exact l_areP hR hT hw m hm (by rw [← onk_pc]; omega) (tN T).toNat 0 (by omega) (fun c' h => by omega)
      · exact bad (fun z => by have := (okP_to z).2.1; rw [← onk_pc] at this; omega)
-- method 64: StraightTax$Ways.tourOn.(II)I
theorem e_tourOn (hW : WX I X h0 s0 w T nt) (a : Int) (m : Nat) (h4 : pc m 20 ≤ 4) (hop : ∀ k : Nat, k ≤ pc m 20 → tOpen T (St m a k) = true) (hlg : ∀ i j : Nat, i ≤ pc m 20 → j ≤ pc m 20 → I 40 (5 * i + j) = pX T nt (St m a j) (St m a i) ∧ (0 ≤ pX T nt (St m a j) (St m a i) ∧ pX T nt (St m a j) (St m a i) ≤ 95931)) : ∀ (f left k : Nat), f ≤ 15 → left ≤ f → left < 2 ^ (pc m 20) → k ≤ pc m 20 → KP shX (d + 1 + f) 64 [.ref 32, .int (J (k : Int)), .int (J (left : Int))] (I, X) (.int (J (trr (fun u v => pX T nt v u) (fun j => (pl m j : Int)) a 1073741824 (pc m 20) f left (St m a k)))) := by
  have hR := hW.1
  have h16 : 2 ^ (pc m 20) ≤ 16 := Nat.pow_le_pow_right (n := 2) (by decide) h4
  let U : Int → Prop := fun u => ∃ k, k ≤ pc m 20 ∧ u = St m a k
  have hc : ∀ u v, U u → U v → (fun u v => pX T nt v u) u v = (fun u v => pX T nt v u) u v ∧ 0 ≤ (fun u v => pX T nt v u) u v ∧ (fun u v => pX T nt v u) u v ≤ 95931 := by
    rintro u v ⟨i, i1, rfl⟩ ⟨j, j1, rfl⟩
    exact ⟨rfl, (hlg i j i1 j1).2.1, (hlg i j i1 j1).2.2⟩
  have hp : ∀ j, j < pc m 20 → U ((fun j => (pl m j : Int)) j) := fun j hj => ⟨j + 1, by omega, rfl⟩
  have ha : U a := ⟨0, by omega, rfl⟩
  have rng := trr_eq (c := fun u v => pX T nt v u) (c' := fun u v => pX T nt v u) (p := fun j => (pl m j : Int)) (a := a) (F := 1073741824) (F' := 1073741824) (B := 95931) h4 (by omega) hc hp ha
  intro f
  induction f with
  | zero =>
    intro left k hf hlf hl hk
    have e : left = 0 := by omega
    subst e
    refine k_start ql_64 (Nat.le_of_ble_eq_true rfl) ?_
    simp only [q_en, List.replicate]
    refine k_iload_n i_64_0 rfl ?_
    refine k_if_ne (t := 13) i_64_1 rfl (by omega) (fun h => ?_) (fun h => ?_)
    · omega
    · refine k_aload_n i_64_4 rfl ?_
      refine k_gfR i_64_5 f_10_48 (by first | rfl | assumption | (rw [hR]; rfl) | (dsimp only; rw [hR]; rfl)) (by decide) (by decide) (Or.inr ⟨_, rfl⟩) (by first | rfl | assumption | (rw [hR]; rfl) | (dsimp only; rw [hR]; rfl)) ?_
      refine k_iload_n i_64_8 rfl ?_
      refine k_iconst i_64_9 ?_
      refine k_imul i_64_10 ?_
      refine k_iald i_64_11 rfl (by decide) (by omega) (by omega) ?_
      rw [show (I, X).1 40 ((k : Int) * 5).toNat = pX T nt a (St m a k) from by
        rw [show ((k : Int) * 5).toNat = 5 * k + 0 by omega]
        exact (hlg k 0 hk (by omega)).1]
      refine k_iret i_64_12 qt_64 ?_
      exact ⟨rfl, rfl⟩
  | succ f ih =>
    intro left k hf hlf hl hk
    refine k_start ql_64 (Nat.le_of_ble_eq_true rfl) ?_
    simp only [q_en, List.replicate]
    refine k_iload_n i_64_0 rfl ?_
    refine k_if_ne (t := 13) i_64_1 rfl (by omega) (fun g => ?_) (fun g => ?_)
    · rw [trr_S, if_neg (by omega)]
      refine k_ldc (a := 1073741824) i_64_13 n_10_64 (by decide) ?_
      refine k_istore_n i_64_15 (Nat.le_of_ble_eq_true rfl) ?_
      dsimp only [q_st1, q_st2, q_unl]
      refine k_iconst i_64_16 ?_
      refine k_istore i_64_17 (Nat.le_of_ble_eq_true rfl) ?_
      dsimp only [q_st1, q_st2, q_unl]
      have loop : ∀ (i j : Nat) (x5 : Option Value), j + i = 4 → K shX (d + 1 + (f + 1)) 64 19 [some (.ref 32), some (.int (J (k : Int))), some (.int (J (left : Int))), some (.int (J (mnj (fun j => pX T nt (pl m j) (St m a k) + trr (fun u v => pX T nt v u) (fun j => (pl m j : Int)) a 1073741824 (pc m 20) f (left - 2 ^ j) (pl m j)) left 1073741824 j))), some (.int (J ((j : Int) + 1))), x5] [] (I, X) (fun r S2 => r = some (.int (J (mnj (fun j => pX T nt (pl m j) (St m a k) + trr (fun u v => pX T nt v u) (fun j => (pl m j : Int)) a 1073741824 (pc m 20) f (left - 2 ^ j) (pl m j)) left 1073741824 (pc m 20)))) ∧ S2 = (I, X)) := by
        intro i
        induction i with
        | zero =>
          intro j x5 hj
          have e : j = 4 := by omega
          subst e
          refine k_iload i_64_19 rfl ?_
          refine k_iconst i_64_21 ?_
          refine k_ic_ge (t := 73) i_64_22 rfl (by omega) (by omega) (fun h => ?_) (fun h => ?_)
          · refine k_iload_n i_64_73 rfl ?_
            refine k_iret i_64_74 qt_64 ?_
            have := mnj_top (g := fun j => pX T nt (pl m j) (St m a k) + trr (fun u v => pX T nt v u) (fun j => (pl m j : Int)) a 1073741824 (pc m 20) f (left - 2 ^ j) (pl m j)) (F := 1073741824) hl (4 - pc m 20)
            rw [show pc m 20 + (4 - pc m 20) = 4 by omega] at this
            rw [this]
            exact ⟨rfl, rfl⟩
          · omega
        | succ i ih2 =>
          intro j x5 hj
          have hi2 := fun x5 => ih2 (j + 1) x5 (by omega)
          have eS : mnj (fun j => pX T nt (pl m j) (St m a k) + trr (fun u v => pX T nt v u) (fun j => (pl m j : Int)) a 1073741824 (pc m 20) f (left - 2 ^ j) (pl m j)) left 1073741824 (j + 1) = if left.testBit j = true then min (mnj (fun j => pX T nt (pl m j) (St m a k) + trr (fun u v => pX T nt v u) (fun j => (pl m j : Int)) a 1073741824 (pc m 20) f (left - 2 ^ j) (pl m j)) left 1073741824 j) (pX T nt (pl m j) (St m a k) + trr (fun u v => pX T nt v u) (fun j => (pl m j : Int)) a 1073741824 (pc m 20) f (left - 2 ^ j) (pl m j)) else mnj (fun j => pX T nt (pl m j) (St m a k) + trr (fun u v => pX T nt v u) (fun j => (pl m j : Int)) a 1073741824 (pc m 20) f (left - 2 ^ j) (pl m j)) left 1073741824 j := rfl
          rw [eS] at hi2
          refine k_iload i_64_19 rfl ?_
          refine k_iconst i_64_21 ?_
          refine k_ic_ge (t := 73) i_64_22 rfl (by omega) (by omega) (fun h => ?_) (fun h => ?_)
          · omega
          · refine k_iconst i_64_25 ?_
            refine k_iload i_64_26 rfl ?_
            refine k_iconst i_64_28 ?_
            refine k_isub i_64_29 ?_
            rw [show (j : Int) + 1 - 1 = (j : Int) by omega]
            refine k_ishl i_64_30 (J_one (by omega) (by omega)) ?_
            rw [show ((j : Int)).toNat = j by omega]
            refine k_istore i_64_31 (Nat.le_of_ble_eq_true rfl) ?_
            dsimp only [q_st1, q_st2, q_unl]
            refine k_iload_n i_64_33 rfl ?_
            refine k_iload i_64_34 rfl ?_
            have hand := J_andbit left (by omega) j (by omega)
            refine k_iand (c := ((left &&& 2 ^ j : Nat) : Int)) i_64_36 (J_and _ _) ?_
            have hpw : 2 ^ j ≤ 2 ^ 3 := Nat.pow_le_pow_right (by decide) (by omega)
            have hpos := Nat.two_pow_pos j
            rw [hand]
            cases hb : left.testBit j
            · rw [if_neg (by decide)]
              refine k_if_eq (t := 67) i_64_37 rfl (by omega) (fun h => ?_) (fun h => ?_)
              · rw [hb, if_neg (by decide)] at hi2
                refine k_iinc i_64_67 rfl (Nat.le_of_ble_eq_true rfl) ?_
                dsimp only [q_st1, q_st2, q_unl]
                refine k_goto (t := 19) i_64_70 rfl ?_
                exact hi2 _
              · omega
            · rw [if_pos rfl]
              refine k_if_eq (t := 67) i_64_37 rfl (by omega) (fun h => ?_) (fun h => ?_)
              · omega
              · rw [hb, if_pos rfl] at hi2
                have hle := two_pow_le_of_bit hb
                have hjn : j < pc m 20 := by
                  by_cases z : j < pc m 20
                  · exact z
                  · have := Nat.pow_le_pow_right (n := 2) (by decide) (show pc m 20 ≤ j by omega)
                    omega
                have l1 := hlg k (j + 1) hk (by omega)
                rw [St_S] at l1
                have hsub : left - 2 ^ j < 2 ^ (pc m 20) := Nat.lt_of_le_of_lt (Nat.sub_le _ _) hl
                have r1 := rng f (left - 2 ^ j) (pl m j) (by omega) hsub (hp j hjn)
                have hfB : 95931 * ((f : Int) + 1) ≤ 95931 * 16 := by omega
                have hmr : 0 ≤ mnj (fun j => pX T nt (pl m j) (St m a k) + trr (fun u v => pX T nt v u) (fun j => (pl m j : Int)) a 1073741824 (pc m 20) f (left - 2 ^ j) (pl m j)) left 1073741824 j ∧ mnj (fun j => pX T nt (pl m j) (St m a k) + trr (fun u v => pX T nt v u) (fun j => (pl m j : Int)) a 1073741824 (pc m 20) f (left - 2 ^ j) (pl m j)) left 1073741824 j ≤ 1073741824 := by
                  have y := mnj_min (g := fun j => pX T nt (pl m j) (St m a k) + trr (fun u v => pX T nt v u) (fun j => (pl m j : Int)) a 1073741824 (pc m 20) f (left - 2 ^ j) (pl m j)) (left := left) (F := 1073741824) j
                  refine ⟨?_, y.1⟩
                  rcases y.2.2 with z | ⟨i', z1, z2, z3⟩
                  · omega
                  · rw [z3]
                    have y1 := (hlg k (i' + 1) hk (by omega)).2
                    rw [St_S] at y1
                    have y2 := rng f (left - 2 ^ i') (pl m i') (by omega) (Nat.lt_of_le_of_lt (Nat.sub_le _ _) hl) (hp i' (by omega))
                    omega
                refine k_iload_n i_64_40 rfl ?_
                refine k_aload_n i_64_41 rfl ?_
                refine k_gfR i_64_42 f_10_48 (by first | rfl | assumption | (rw [hR]; rfl) | (dsimp only; rw [hR]; rfl)) (by decide) (by decide) (Or.inr ⟨_, rfl⟩) (by first | rfl | assumption | (rw [hR]; rfl) | (dsimp only; rw [hR]; rfl)) ?_
                refine k_iload_n i_64_45 rfl ?_
                refine k_iconst i_64_46 ?_
                refine k_imul i_64_47 ?_
                refine k_iload i_64_48 rfl ?_
                refine k_iadd i_64_50 ?_
                refine k_iald i_64_51 rfl (by decide) (by omega) (by omega) ?_
                rw [show (I, X).1 40 ((k : Int) * 5 + ((j : Int) + 1)).toNat = pX T nt (pl m j) (St m a k) from by
                  rw [show ((k : Int) * 5 + ((j : Int) + 1)).toNat = 5 * k + (j + 1) by omega]
                  exact l1.1]
                refine k_aload_n i_64_52 rfl ?_
                refine k_iload i_64_53 rfl ?_
                refine k_iload_n i_64_55 rfl ?_
                refine k_iload i_64_56 rfl ?_
                refine k_isub i_64_58 ?_
                have h5 := ih (left - 2 ^ j) (j + 1) (by omega) (by omega) hsub (by omega)
                rw [St_S, show ((left - 2 ^ j : Nat) : Int) = (left : Int) - ((2 ^ j : Nat) : Int) by omega, show ((j + 1 : Nat) : Int) = (j : Int) + 1 by omega] at h5
                refine k_vp2 i_64_59 c_10_124 qp_64 qo_64 (by first | rfl | assumption | (rw [hR]; rfl) | (dsimp only; rw [hR]; rfl)) (Nat.le_of_ble_eq_true rfl) h5 ?_
                refine k_iadd i_64_62 ?_
                refine k_sp2 i_64_63 c_10_92 (by decide) qp_155 (Nat.le_of_ble_eq_true rfl) (e_min _ _ (by omega) (by omega)) ?_
                refine k_istore_n i_64_66 (Nat.le_of_ble_eq_true rfl) ?_
                dsimp only [q_st1, q_st2, q_unl]
                refine k_iinc i_64_67 rfl (Nat.le_of_ble_eq_true rfl) ?_
                dsimp only [q_st1, q_st2, q_unl]
                refine k_goto (t := 19) i_64_70 rfl ?_
                exact hi2 _
      exact loop 4 0 none (by omega)
    · have e : left = 0 := by omega
      subst e
      rw [trr_S, if_pos rfl]
      refine k_aload_n i_64_4 rfl ?_
      refine k_gfR i_64_5 f_10_48 (by first | rfl | assumption | (rw [hR]; rfl) | (dsimp only; rw [hR]; rfl)) (by decide) (by decide) (Or.inr ⟨_, rfl⟩) (by first | rfl | assumption | (rw [hR]; rfl) | (dsimp only; rw [hR]; rfl)) ?_
      refine k_iload_n i_64_8 rfl ?_
      refine k_iconst i_64_9 ?_
      refine k_imul i_64_10 ?_
      refine k_iald i_64_11 rfl (by decide) (by omega) (by omega) ?_
      rw [show (I, X).1 40 ((k : Int) * 5).toNat = pX T nt a (St m a k) from by
        rw [show ((k : Int) * 5).toNat = 5 * k + 0 by omega]
        exact (hlg k 0 hk (by omega)).1]
      refine k_iret i_64_12 qt_64 ?_
      exact ⟨rfl, rfl⟩
-- method 63: StraightTax$Ways.tour.(II)I
/-- the stops -/
theorem l_tour_s (hw : tWF T) (a : Int) (m : Nat) (hm : inT T m) (h4 : pc m 20 ≤ 4)
    (hk : ∀ (I' : Nat → Nat → Int) (x4 : Int), WX I' X h0 s0 w T nt → Scr I I' → I' 39 0 = a → (∀ c : Nat, m.testBit c = true → I' 39 (pc m c + 1) = c) → K shX (d + 20) 63 55 [some (.ref 32), some (.int (J a)), some (.int (J (m : Int))), some (.int (J ((pc m 20 : Nat) : Int))), some (.int (J x4)), none, none] [] (I', X) Q) :
    ∀ (f c : Nat) (I' : Nat → Nat → Int), (c : Int) + f = tN T → WX I' X h0 s0 w T nt → Scr I I' → I' 39 0 = a → (∀ c' : Nat, c' < c → m.testBit c' = true → I' 39 (pc m c' + 1) = c') → K shX (d + 20) 63 12 [some (.ref 32), some (.int (J a)), some (.int (J (m : Int))), some (.int (J ((pc m c : Nat) : Int))), some (.int (J (c : Int))), none, none] [] (I', X) Q := by
  have hN := tN_le hw
  have hm2 := inT_lt hw hm
  intro f
  induction f with
  | zero =>
    intro c I' hc hW hS h39 hpl
    obtain ⟨hR, hw4, hT, hX, hnt, h01, hOK, hwt⟩ := id hW
    obtain ⟨s1, s2, s3, r1, r2, a0, a1, a2, a3, a4, a5, a6, ag⟩ := id hT
    refine k_iload i_63_12 rfl ?_
    refine k_aload_n i_63_14 rfl ?_
    refine k_gfR i_63_15 f_10_12 (by first | rfl | assumption | (rw [hR]; rfl) | (dsimp only; rw [hR]; rfl)) (by decide) (by decide) (Or.inl ⟨_, rfl⟩) (by first | rfl | assumption | (rw [hR]; rfl) | (dsimp only; rw [hR]; rfl)) ?_
    refine k_vp0 i_63_18 c_10_71 qp_28 qo_28 (by first | rfl | assumption | (rw [hR]; rfl) | (dsimp only; rw [hR]; rfl)) (Nat.le_of_ble_eq_true rfl) (e_squares hT) ?_
    refine k_ic_ge (t := 55) i_63_21 rfl (by omega) (by omega) (fun h => ?_) (fun h => ?_)
    · rw [show c = (tN T).toNat by omega, pc_top hw hm]
      exact hk I' _ hW hS h39 (fun c' hb => hpl c' (by have := hm c' hb; omega) hb)
    · omega
  | succ f ih =>
    intro c I' hc hW hS h39 hpl
    obtain ⟨hR, hw4, hT, hX, hnt, h01, hOK, hwt⟩ := id hW
    obtain ⟨s1, s2, s3, r1, r2, a0, a1, a2, a3, a4, a5, a6, ag⟩ := id hT
    refine k_iload i_63_12 rfl ?_
    refine k_aload_n i_63_14 rfl ?_
    refine k_gfR i_63_15 f_10_12 (by first | rfl | assumption | (rw [hR]; rfl) | (dsimp only; rw [hR]; rfl)) (by decide) (by decide) (Or.inl ⟨_, rfl⟩) (by first | rfl | assumption | (rw [hR]; rfl) | (dsimp only; rw [hR]; rfl)) ?_
    refine k_vp0 i_63_18 c_10_71 qp_28 qo_28 (by first | rfl | assumption | (rw [hR]; rfl) | (dsimp only; rw [hR]; rfl)) (Nat.le_of_ble_eq_true rfl) (e_squares hT) ?_
    refine k_ic_ge (t := 55) i_63_21 rfl (by omega) (by omega) (fun h => ?_) (fun h => ?_)
    · omega
    · have hmono := pc_mono2 (m := m) (show c ≤ 20 by omega)
      refine k_iload_n i_63_24 rfl ?_
      refine k_iconst i_63_25 ?_
      refine k_ic_ge (t := 55) i_63_26 rfl (by omega) (by omega) (fun g => ?_) (fun g => ?_)
      · have e : pc m c = pc m 20 := by omega
        rw [e]
        refine hk I' _ hW hS h39 (fun c' hb => ?_)
        by_cases z : c' < c
        · exact hpl c' z hb
        · have y1 := pc_mono2 (m := m) (show c ≤ c' by omega)
          have y2 := hm c' hb
          have y3 := pc_lt2 hb (show c' < 20 by omega)
          omega
      · refine k_iload_n i_63_29 rfl ?_
        refine k_iload i_63_30 rfl ?_
        refine k_sp2 i_63_32 c_10_120 (by decide) qp_86 (Nat.le_of_ble_eq_true rfl) (e_isIn (by omega) _ (by omega) (by omega)) ?_
        rw [show ((c : Int)).toNat = c by omega]
        refine k_if_eqB (t := 49) i_63_35 rfl (fun h => ?_) (fun h => ?_)
        · refine k_iinc i_63_49 rfl (Nat.le_of_ble_eq_true rfl) ?_
          dsimp only [q_st1, q_st2, q_unl]
          refine k_goto (t := 12) i_63_52 rfl ?_
          have eS : pc m (c + 1) = pc m c := by simp [pc_S, h]
          rw [← eS]
          refine ih (c + 1) I' (by omega) hW hS h39 (fun c' hc' hb => ?_)
          by_cases e : c' = c
          · subst e; rw [h] at hb; cases hb
          · exact hpl c' (by omega) hb
        · refine k_iinc i_63_38 rfl (Nat.le_of_ble_eq_true rfl) ?_
          dsimp only [q_st1, q_st2, q_unl]
          refine k_aload_n i_63_41 rfl ?_
          refine k_gfR i_63_42 f_10_45 (by first | rfl | assumption | (rw [hR]; rfl) | (dsimp only; rw [hR]; rfl)) (by decide) (by decide) (Or.inr ⟨_, rfl⟩) (by first | rfl | assumption | (rw [hR]; rfl) | (dsimp only; rw [hR]; rfl)) ?_
          refine k_iload_n i_63_45 rfl ?_
          refine k_iload i_63_46 rfl ?_
          refine k_iast i_63_48 rfl (by decide) (by omega) (by omega) ?_
          dsimp only
          refine k_iinc i_63_49 rfl (Nat.le_of_ble_eq_true rfl) ?_
          dsimp only [q_st1, q_st2, q_unl]
          refine k_goto (t := 12) i_63_52 rfl ?_
          have eS : pc m (c + 1) = pc m c + 1 := by simp [pc_S, h]
          rw [show ((pc m c : Nat) : Int) + 1 = ((pc m (c + 1) : Nat) : Int) by omega, show (((pc m (c + 1) : Nat) : Int)).toNat = pc m c + 1 by omega, up_sr]
          refine ih (c + 1) _ (by omega) (hW.row (by omega)) (hS.trans (Scr.row (by omega))) (by rw [sr_s, ud_n (by omega)]; exact h39) (fun c' hc' hb => ?_)
          rw [sr_s]
          by_cases e : c' = c
          · subst e; rw [ud_s]
          · have := pc_lt2 hb (show c' < c by omega)
            rw [ud_n (by omega)]
            exact hpl c' (by omega) hb
/-- the legs -/
theorem l_tour_l (a : Int) (m : Nat) (h4 : pc m 20 ≤ 4) (hop : ∀ k : Nat, k ≤ pc m 20 → tOpen T (St m a k) = true)
    (hno : ∀ (I' : Nat → Nat → Int) (i j : Nat), Scr I I' → i ≤ pc m 20 → j ≤ pc m 20 → pX T nt (St m a j) (St m a i) = 1073741824 → Q (some (.int (J (-9)))) (I', X))
    (hk : ∀ (I' : Nat → Nat → Int) (x4 : Int) (x5 x6 : Option Value), WX I' X h0 s0 w T nt → Scr I I' → (∀ i j : Nat, i ≤ pc m 20 → j ≤ pc m 20 → I' 40 (5 * i + j) = pX T nt (St m a j) (St m a i) ∧ pX T nt (St m a j) (St m a i) < 1073741824) → K shX (d + 20) 63 133 [some (.ref 32), some (.int (J a)), some (.int (J (m : Int))), some (.int (J ((pc m 20 : Nat) : Int))), some (.int (J x4)), x5, x6] [] (I', X) Q) :
    ∀ (f j : Nat) (I' : Nat → Nat → Int) (x5 x6 : Option Value), j + f = pc m 20 + 1 → WX I' X h0 s0 w T nt → Scr I I' → (∀ k : Nat, k ≤ pc m 20 → I' 39 k = St m a k) → (∀ i j' : Nat, i ≤ pc m 20 → j' < j → I' 40 (5 * i + j') = pX T nt (St m a j') (St m a i) ∧ pX T nt (St m a j') (St m a i) < 1073741824) → K shX (d + 20) 63 58 [some (.ref 32), some (.int (J a)), some (.int (J (m : Int))), some (.int (J ((pc m 20 : Nat) : Int))), some (.int (J (j : Int))), x5, x6] [] (I', X) Q := by
  intro f
  induction f with
  | zero =>
    intro j I' x5 x6 hj hW hS h39 hlg
    refine k_iload i_63_58 rfl ?_
    refine k_iload_n i_63_60 rfl ?_
    refine k_ic_gt (t := 133) i_63_61 rfl (by omega) (by omega) (fun h => ?_) (fun h => ?_)
    · exact hk I' _ x5 x6 hW hS (fun i j' h1 h2 => hlg i j' h1 (by omega))
    · omega
  | succ f ih =>
    intro j I' x5 x6 hj hW hS h39 hlg
    have hR := hW.1
    have hjb := open_lt (hop j (by omega))
    refine k_iload i_63_58 rfl ?_
    refine k_iload_n i_63_60 rfl ?_
    refine k_ic_gt (t := 133) i_63_61 rfl (by omega) (by omega) (fun h => ?_) (fun h => ?_)
    · omega
    · refine k_aload_n i_63_64 rfl ?_
      refine k_aload_n i_63_65 rfl ?_
      refine k_gfR i_63_66 f_10_45 (by first | rfl | assumption | (rw [hR]; rfl) | (dsimp only; rw [hR]; rfl)) (by decide) (by decide) (Or.inr ⟨_, rfl⟩) (by first | rfl | assumption | (rw [hR]; rfl) | (dsimp only; rw [hR]; rfl)) ?_
      refine k_iload i_63_69 rfl ?_
      refine k_iald i_63_71 rfl (by decide) (by omega) (by omega) ?_
      rw [show (I', X).1 39 ((j : Int)).toNat = St m a j from by rw [show ((j : Int)).toNat = j by omega]; exact h39 j (by omega)]
      refine k_cv1 i_63_72 c_10_104 qp_49 qo_49 (by first | rfl | assumption | (rw [hR]; rfl) | (dsimp only; rw [hR]; rfl)) (Nat.le_of_ble_eq_true rfl) (e_aim2 (d := d + 15) hW hjb) (fun v S2 h => ?_)
      obtain ⟨rfl, I1, rfl, hS1, hA1, hsame⟩ := h
      show K shX (d + 20) 63 75 _ [] _ _
      have h39' : ∀ k : Nat, k ≤ pc m 20 → I1 39 k = St m a k := fun k hk => by rw [hsame 39 (by omega) (by omega) (by omega)]; exact h39 k hk
      have hlg' : ∀ i j' : Nat, i ≤ pc m 20 → j' < j → I1 40 (5 * i + j') = pX T nt (St m a j') (St m a i) ∧ pX T nt (St m a j') (St m a i) < 1073741824 := fun i j' h1 h2 => by rw [hsame 40 (by omega) (by omega) (by omega)]; exact hlg i j' h1 h2
      refine k_iconst i_63_75 ?_
      refine k_istore i_63_76 (Nat.le_of_ble_eq_true rfl) ?_
      dsimp only [q_st1, q_st2, q_unl]
      have inner : ∀ (g i : Nat) (I2 : Nat → Nat → Int) (x6 : Option Value), i + g = pc m 20 + 1 → AX I2 X h0 s0 w T nt (St m a j) → Scr I I2 → (∀ k : Nat, k ≤ pc m 20 → I2 39 k = St m a k) → (∀ i j' : Nat, i ≤ pc m 20 → j' < j → I2 40 (5 * i + j') = pX T nt (St m a j') (St m a i) ∧ pX T nt (St m a j') (St m a i) < 1073741824) → (∀ i' : Nat, i' < i → I2 40 (5 * i' + j) = pX T nt (St m a j) (St m a i') ∧ pX T nt (St m a j) (St m a i') < 1073741824) → K shX (d + 20) 63 78 [some (.ref 32), some (.int (J a)), some (.int (J (m : Int))), some (.int (J ((pc m 20 : Nat) : Int))), some (.int (J (j : Int))), some (.int (J (i : Int))), x6] [] (I2, X) Q := by
        intro g
        induction g with
        | zero =>
          intro i I2 x6 hi hA hS h39 hlg hcol
          refine k_iload i_63_78 rfl ?_
          refine k_iload_n i_63_80 rfl ?_
          refine k_ic_gt (t := 127) i_63_81 rfl (by omega) (by omega) (fun h => ?_) (fun h => ?_)
          · refine k_iinc i_63_127 rfl (Nat.le_of_ble_eq_true rfl) ?_
            dsimp only [q_st1, q_st2, q_unl]
            refine k_goto (t := 58) i_63_130 rfl ?_
            refine ih (j + 1) I2 _ _ (by omega) hA.1 hS h39 (fun i' j' h1 h2 => ?_)
            by_cases e : j' = j
            · subst e; exact hcol i' (by omega)
            · exact hlg i' j' h1 (by omega)
          · omega
        | succ g ih2 =>
          intro i I2 x6 hi hA hS h39 hlg hcol
          have hR := hA.1.1
          have hOK := hA.1.2.2.2.2.2.2.1
          have h01 := hA.1.2.2.2.2.2.1
          have hib := hop i (by omega)
          have hN := tN_le hOK.1
          have hir := open_lt hib
          have hpr := pX_range hOK h01 hir hjb
          refine k_iload i_63_78 rfl ?_
          refine k_iload_n i_63_80 rfl ?_
          refine k_ic_gt (t := 127) i_63_81 rfl (by omega) (by omega) (fun h => ?_) (fun h => ?_)
          · omega
          · refine k_aload_n i_63_84 rfl ?_
            refine k_aload_n i_63_85 rfl ?_
            refine k_gfR i_63_86 f_10_45 (by first | rfl | assumption | (rw [hR]; rfl) | (dsimp only; rw [hR]; rfl)) (by decide) (by decide) (Or.inr ⟨_, rfl⟩) (by first | rfl | assumption | (rw [hR]; rfl) | (dsimp only; rw [hR]; rfl)) ?_
            refine k_iload i_63_89 rfl ?_
            refine k_iald i_63_91 rfl (by decide) (by omega) (by omega) ?_
            rw [show (I2, X).1 39 ((i : Int)).toNat = St m a i from by rw [show ((i : Int)).toNat = i by omega]; exact h39 i (by omega)]
            refine k_vp1 i_63_92 c_10_108 qp_59 qo_59 (by first | rfl | assumption | (rw [hR]; rfl) | (dsimp only; rw [hR]; rfl)) (Nat.le_of_ble_eq_true rfl) (e_penceFrom (d := d + 16) hA hjb _ (by omega) hib) ?_
            refine k_istore i_63_95 (Nat.le_of_ble_eq_true rfl) ?_
            dsimp only [q_st1, q_st2, q_unl]
            refine k_iload i_63_97 rfl ?_
            refine k_ldc (a := 1073741824) i_63_99 n_10_64 (by decide) ?_
            refine k_ic_lt (t := 107) i_63_101 rfl (by omega) (by omega) (fun g1 => ?_) (fun g1 => ?_)
            · refine k_aload_n i_63_107 rfl ?_
              refine k_gfR i_63_108 f_10_48 (by first | rfl | assumption | (rw [hR]; rfl) | (dsimp only; rw [hR]; rfl)) (by decide) (by decide) (Or.inr ⟨_, rfl⟩) (by first | rfl | assumption | (rw [hR]; rfl) | (dsimp only; rw [hR]; rfl)) ?_
              refine k_iload i_63_111 rfl ?_
              refine k_iconst i_63_113 ?_
              refine k_imul i_63_114 ?_
              refine k_iload i_63_115 rfl ?_
              refine k_iadd i_63_117 ?_
              refine k_iload i_63_118 rfl ?_
              refine k_iast i_63_120 rfl (by decide) (by omega) (by omega) ?_
              dsimp only
              refine k_iinc i_63_121 rfl (Nat.le_of_ble_eq_true rfl) ?_
              dsimp only [q_st1, q_st2, q_unl]
              refine k_goto (t := 78) i_63_124 rfl ?_
              rw [show ((i : Int) * 5 + (j : Int)).toNat = 5 * i + j by omega, up_sr]
              refine ih2 (i + 1) _ _ (by omega) (hA.row (by omega)) (hS.trans (Scr.row (by omega))) (fun k hk => ?_) (fun i' j' h1 h2 => ?_) (fun i' hi' => ?_)
              · rw [sr_n (by omega)]; exact h39 k hk
              · rw [sr_s, ud_n (by omega)]; exact hlg i' j' h1 h2
              · rw [sr_s]
                by_cases e : i' = i
                · subst e; rw [ud_s]; exact ⟨rfl, g1⟩
                · rw [ud_n (by omega)]; exact hcol i' (by omega)
            · refine k_bipush i_63_104 (by decide) ?_
              refine k_iret i_63_106 qt_63 ?_
              exact hno I2 i j hS (by omega) (by omega) (by omega)
      exact inner (pc m 20 + 1) 0 I1 _ (by omega) hA1 (hS.trans hS1) h39' hlg' (fun i' hi' => by omega)
theorem e_tour (hW : WX I X h0 s0 w T nt) (a : Int) (m : Nat) (ho : tOpen T a = true) (hP : okP T m) : KC shX (d + 20) 63 [.ref 32, .int (J a), .int (J (m : Int))] (I, X) (fun r S2 => r = some (.int (J (if rdR T nt a m < 100000000 then rdR T nt a m else -9))) ∧ ∃ I', S2 = (I', X) ∧ Scr I I') := by
  have hR := hW.1
  have hOK := hW.2.2.2.2.2.2.1
  have hw := hOK.1
  have h01 := hW.2.2.2.2.2.1
  have hN := tN_le hw
  have hm : m < 2 ^ (tN T).toNat := (okP_to hP).1
  have hi := inT_of hm (by omega)
  have h4 : pc m 20 ≤ 4 := (okP_to hP).2.1
  have h16 : 2 ^ (pc m 20) ≤ 16 := Nat.pow_le_pow_right (n := 2) (by decide) h4
  have hpos := Nat.two_pow_pos (pc m 20)
  have hpo : ∀ j, j < pc m 20 → tOpen T ((pl m j : Nat) : Int) = true := by
    intro j hj
    obtain ⟨c, c1, c2, c3⟩ := pl_ex 20 j hj
    rw [← c3, pl_eq c2]
    exact (okP_to hP).2.2 c (hi c c2) c2
  have hop : ∀ k : Nat, k ≤ pc m 20 → tOpen T (St m a k) = true := by
    intro k hk
    cases k with
    | zero => exact ho
    | succ k => rw [St_S]; exact hpo k (by omega)
  refine k_start ql_63 (Nat.le_of_ble_eq_true rfl) ?_
  simp only [q_en, List.replicate]
  refine k_iconst i_63_0 ?_
  refine k_istore_n i_63_1 (Nat.le_of_ble_eq_true rfl) ?_
  dsimp only [q_st1, q_st2, q_unl]
  refine k_aload_n i_63_2 rfl ?_
  refine k_gfR i_63_3 f_10_45 (by first | rfl | assumption | (rw [hR]; rfl) | (dsimp only; rw [hR]; rfl)) (by decide) (by decide) (Or.inr ⟨_, rfl⟩) (by first | rfl | assumption | (rw [hR]; rfl) | (dsimp only; rw [hR]; rfl)) ?_
  refine k_iconst i_63_6 ?_
  refine k_iload_n i_63_7 rfl ?_
  refine k_iast i_63_8 rfl (by decide) (by omega) (by omega) ?_
  dsimp only
  rw [up_sr]
  refine k_iconst i_63_9 ?_
  refine k_istore i_63_10 (Nat.le_of_ble_eq_true rfl) ?_
  dsimp only [q_st1, q_st2, q_unl]
  refine l_tour_s (d := d) (I := I) hw a m hi h4 (fun I1 x4 hW1 hS1 h39 hpl => ?_) (tN T).toNat 0 _ (by omega) (hW.row (by omega)) (Scr.row (by omega)) (by rw [sr_s]; exact ud_s) (fun c' hc' => by omega)
  refine k_iconst i_63_55 ?_
  refine k_istore i_63_56 (Nat.le_of_ble_eq_true rfl) ?_
  dsimp only [q_st1, q_st2, q_unl]
  refine l_tour_l (d := d) (I := I) a m h4 hop (fun I2 i j hS2 h1 h2 hfar => ?_) (fun I2 y4 x5 x6 hW2 hS2 hlg => ?_) (pc m 20 + 1) 0 I1 _ _ (by omega) hW1 hS1 (fun k hk => ?_) (fun i j' h1 h2 => by omega)
  · refine ⟨?_, I2, rfl, hS2⟩
    have hnr : ¬ rc T (St m a i) (St m a j) := by
      rcases rc_pM hw h01 (hop i h1) (open_lt (hop j h2)) with z | z
      · omega
      · exact z.1
    have far := trr_far hw h01 h4 hpo ho (2 ^ (pc m 20) - 1) (2 ^ (pc m 20) - 1) a (Nat.le_refl _) (by omega) ho (by
      right
      have bit : ∀ k, k < pc m 20 → (2 ^ (pc m 20) - 1).testBit k = true := fun k hk => by rw [Nat.testBit_two_pow_sub_one]; exact decide_eq_true hk
      have alt : ¬ rc T a (St m a i) ∨ ¬ rc T a (St m a j) := by
        by_cases z : rc T a (St m a i)
        · right; intro y; exact hnr (rc_trans (rc_sym hw ho z) y)
        · exact Or.inl z
      have step : ∀ k, k ≤ pc m 20 → ¬ rc T a (St m a k) → ∃ j, j < pc m 20 ∧ (2 ^ (pc m 20) - 1).testBit j = true ∧ ¬ rc T a ((pl m j : Nat) : Int) := by
        intro k hk hn
        cases k with
        | zero => exact absurd rc_self hn
        | succ k => exact ⟨k, by omega, bit k (by omega), hn⟩
      rcases alt with z | z
      · exact step i h1 z
      · exact step j h2 z)
    have : 100000000 ≤ rdR T nt a m := far
    rw [if_neg (by omega)]
  · have hlg2 : ∀ i j : Nat, i ≤ pc m 20 → j ≤ pc m 20 → I2 40 (5 * i + j) = pX T nt (St m a j) (St m a i) ∧ (0 ≤ pX T nt (St m a j) (St m a i) ∧ pX T nt (St m a j) (St m a i) ≤ 95931) ∧ pM T nt (St m a j) (St m a i) = pX T nt (St m a j) (St m a i) := by
      intro i j h1 h2
      obtain ⟨y1, y2⟩ := hlg i j h1 h2
      rcases rc_pM hw h01 (hop i h1) (open_lt (hop j h2)) with z | z
      · exact ⟨y1, by omega, z.2.1⟩
      · omega
    have hR2 := hW2.1
    refine k_aload_n i_63_133 rfl ?_
    refine k_iconst i_63_134 ?_
    refine k_iconst i_63_135 ?_
    refine k_iload_n i_63_136 rfl ?_
    refine k_ishl i_63_137 (J_one (by omega) (by omega)) ?_
    rw [show (((pc m 20 : Nat) : Int)).toNat = pc m 20 by omega]
    refine k_iconst i_63_138 ?_
    refine k_isub i_63_139 ?_
    have ht := e_tourOn (d := d + 18 - (2 ^ (pc m 20) - 1)) hW2 a m h4 hop (fun i j h1 h2 => ⟨(hlg2 i j h1 h2).1, (hlg2 i j h1 h2).2.1⟩) (2 ^ (pc m 20) - 1) (2 ^ (pc m 20) - 1) 0 (by omega) (Nat.le_refl _) (by omega) (by omega)
    rw [show d + 18 - (2 ^ (pc m 20) - 1) + 1 + (2 ^ (pc m 20) - 1) = d + 19 by omega, show ((2 ^ (pc m 20) - 1 : Nat) : Int) = ((2 ^ (pc m 20) : Nat) : Int) - 1 by omega] at ht
    refine k_vp2 i_63_140 c_10_124 qp_64 qo_64 (by first | rfl | assumption | (rw [hR]; rfl) | (dsimp only; rw [hR]; rfl)) (Nat.le_of_ble_eq_true rfl) ht ?_
    refine k_iret i_63_143 qt_63 ?_
    refine ⟨?_, I2, rfl, hS2⟩
    have req := trr_eq (c := fun u v => pM T nt v u) (c' := fun u v => pX T nt v u) (p := fun j => (pl m j : Int)) (a := a) (F := 100000000) (F' := 1073741824) (B := 95931) (n := pc m 20) h4 (by omega) (U := fun u => ∃ k, k ≤ pc m 20 ∧ u = St m a k) (by
      rintro u v ⟨i, i1, rfl⟩ ⟨j, j1, rfl⟩
      have := hlg2 i j i1 j1
      exact ⟨this.2.2, by omega, by omega⟩) (fun j hj => ⟨j + 1, by omega, rfl⟩) ⟨0, by omega, rfl⟩ (2 ^ (pc m 20) - 1) (2 ^ (pc m 20) - 1) a (by omega) (by omega) ⟨0, by omega, rfl⟩
    have e1 : rdR T nt a m = trr (fun u v => pX T nt v u) (fun j => (pl m j : Int)) a 1073741824 (pc m 20) (2 ^ (pc m 20) - 1) (2 ^ (pc m 20) - 1) a := req.1
    have e2 : rdR T nt a m ≤ 95931 * (((2 ^ (pc m 20) - 1 : Nat) : Int) + 1) := req.2.2
    rw [if_pos (by omega), e1]
    rfl
  · cases k with
    | zero => exact h39
    | succ k =>
      obtain ⟨c, c1, c2, c3⟩ := pl_ex 20 k (show k < pc m 20 by omega)
      rw [St_S, ← c3, pl_eq c2]
      exact hpl c c2
-- method 87: StraightTax.round.(II)I
theorem x_round (hB : XB I X h0 s0 w T nt) (a s : Int) (ha : inJ a) (hs : inJ s) : KC shX (d + 21) 87 [.ref 0, .int (J a), .int (J s)] (I, X) (fun r S2 => r = some (.int (J (Fro T nt a s))) ∧ ∃ I' w', S2 = (I', X.1, rX h0 s0 w') ∧ Scr I I') := by
  obtain ⟨hR, hh, hT, hX, hOK, hnt, h01, hz⟩ := hB
  obtain ⟨s1, s2, s3, r1, r2, a0, a1, a2, a3, a4, a5, a6, ag⟩ := id hT
  have hw := hOK.1
  have hN := tN_le hw
  have same : ∃ I' w', (I, X) = (I', X.1, rX h0 s0 w') ∧ Scr I I' := ⟨I, w, by rw [← hR], Scr.rfl'⟩
  have bad : ¬ (tOpen T a = true ∧ okP T s) → K shX (d + 21) 87 19 [some (.ref 0), some (.int (J a)), some (.int (J s))] [] (I, X) (fun r S2 => r = some (.int (J (Fro T nt a s))) ∧ ∃ I' w', S2 = (I', X.1, rX h0 s0 w') ∧ Scr I I') := by
    intro hbad
    refine k_iconst i_87_19 ?_
    refine k_iret i_87_20 qt_87 ?_
    refine ⟨?_, same⟩
    unfold Fro
    rw [if_neg hbad]
  refine k_start ql_87 (Nat.le_of_ble_eq_true rfl) ?_
  simp only [q_en, List.replicate]
  refine k_aload_n i_87_0 rfl ?_
  refine k_gfR i_87_1 f_11_54 (by first | rfl | assumption | (rw [hR]; rfl) | (dsimp only; rw [hR]; rfl)) (by decide) (by decide) (Or.inl ⟨_, rfl⟩) (by first | rfl | assumption | (rw [hR]; rfl) | (dsimp only; rw [hR]; rfl)) ?_
  refine k_iload_n i_87_4 rfl ?_
  refine k_vp1 i_87_5 c_11_129 qp_26 qo_26 (by first | rfl | assumption | (rw [hR]; rfl) | (dsimp only; rw [hR]; rfl)) (Nat.le_of_ble_eq_true rfl) (e_isOpen (d := d + 18) hT hw _ (by omega)) ?_
  refine k_if_eqB (t := 19) i_87_8 rfl (fun h => ?_) (fun h => ?_)
  · exact bad (fun z => by rw [h] at z; cases z.1)
  · have ho := h
    refine k_aload_n i_87_11 rfl ?_
    refine k_iload_n i_87_12 rfl ?_
    refine k_vp1 i_87_13 c_11_223 qp_88 qo_88 (by first | rfl | assumption | (rw [hR]; rfl) | (dsimp only; rw [hR]; rfl)) (Nat.le_of_ble_eq_true rfl) (e_areP (d := d + 17) hR hT hw s hs) ?_
    refine k_if_neB (t := 21) i_87_16 rfl (fun h => ?_) (fun h => ?_)
    · have hP : okP T s := by
        by_cases z : okP T s
        · exact z
        · rw [okB_f z] at h; cases h
      obtain ⟨m, rfl⟩ : ∃ m : Nat, s = m := ⟨s.toNat, by have := hP.1; omega⟩
      refine k_aload_n i_87_21 rfl ?_
      refine k_gfR i_87_22 f_11_47 (by first | rfl | assumption | (rw [hR]; rfl) | (dsimp only; rw [hR]; rfl)) (by decide) (by decide) (Or.inl ⟨_, rfl⟩) (by first | rfl | assumption | (rw [hR]; rfl) | (dsimp only; rw [hR]; rfl)) ?_
      refine k_aload_n i_87_25 rfl ?_
      refine k_gfR i_87_26 f_11_54 (by first | rfl | assumption | (rw [hR]; rfl) | (dsimp only; rw [hR]; rfl)) (by decide) (by decide) (Or.inl ⟨_, rfl⟩) (by first | rfl | assumption | (rw [hR]; rfl) | (dsimp only; rw [hR]; rfl)) ?_
      refine k_aload_n i_87_29 rfl ?_
      refine k_gfR i_87_30 f_11_19 (by first | rfl | assumption | (rw [hR]; rfl) | (dsimp only; rw [hR]; rfl)) (by decide) (by decide) (Or.inl ⟨_, rfl⟩) (by first | rfl | assumption | (rw [hR]; rfl) | (dsimp only; rw [hR]; rfl)) ?_
      refine k_gfI i_87_33 f_11_99 rfl (by decide) (by decide) (Or.inr rfl) ?_
      rw [show (I, X).1 3 3 = nt from hnt]
      refine k_cv2 i_87_36 c_11_176 qp_47 qo_47 (by first | rfl | assumption | (rw [hR]; rfl) | (dsimp only; rw [hR]; rfl)) (Nat.le_of_ble_eq_true rfl) (e_look (d := d + 19) hh hR hT hX hOK h01 hz) (fun v S2 h => ?_)
      obtain ⟨rfl, I1, rfl, hS1, hW1⟩ := h
      show K shX (d + 21) 87 39 _ [] _ _
      have hR1 : (X.1, rX h0 s0 h0).2 = rX h0 s0 h0 := rfl
      refine k_aload_n i_87_39 rfl ?_
      refine k_gfR i_87_40 f_11_47 (by first | rfl | assumption | (rw [hR]; rfl) | (dsimp only; rw [hR]; rfl)) (by decide) (by decide) (Or.inl ⟨_, rfl⟩) (by first | rfl | assumption | (rw [hR]; rfl) | (dsimp only; rw [hR]; rfl)) ?_
      refine k_iload_n i_87_43 rfl ?_
      refine k_iload_n i_87_44 rfl ?_
      refine k_cv2 i_87_45 c_11_226 qp_63 qo_63 (by first | rfl | assumption | (rw [hR]; rfl) | (dsimp only; rw [hR]; rfl)) (Nat.le_of_ble_eq_true rfl) (e_tour hW1 a m ho hP) (fun v S2 h => ?_)
      obtain ⟨rfl, I2, rfl, hS2⟩ := h
      show K shX (d + 21) 87 48 _ [.int (J _)] _ _
      refine k_iret i_87_48 qt_87 ?_
      refine ⟨?_, I2, h0, rfl, hS1.trans hS2⟩
      have eF : Fro T nt a m = if rdR T nt a m < 100000000 then rdR T nt a m else -9 := by
        unfold Fro
        rw [if_pos ⟨ho, hP⟩]
        rfl
      rw [eF]
    · exact bad (fun z => by rw [okB_t z.2] at h; cases h)
end RX
