/-! SMALL CALLS of both sides -/
def fu (f : Nat → Int) (k : Nat) (v : Int) : Nat → Int := fun i => if i = k then v else f i
abbrev Sg.setW (s : Sg) (w : Wk) : Sg := (s.T, s.tl, s.tb, w, s.kp, s.im, s.en, s.fr, s.to, s.mk)
theorem q_up_o {α : Type} {f : Nat → Nat → α} {c k c' : Nat} {v : α} (h : c' ≠ c) : q_up f c k v c' = f c' := (q_up_c h).symm
theorem XI.setW {σ : Sg} {h s w : Nat} {I I' : Nat → Nat → Int} {X : XX} {w' : Wk} (hX : XI σ h s w I X) (hc : ∀ c, (c < 3 ∨ 7 < c) → I' c = I c) (hw : XWk I' 3 w') : XI (σ.setW w') h s w I' X := by
  have hh := hX.hs
  exact ⟨hX.rf, hX.hs, hX.ta.same (hc h (by omega)) (hc (h + 1) (by omega)) rfl, hX.tn.same (hc (h + 2) (by omega)), by rw [hc 33 (by omega)]; exact hX.z3, by rw [hc 34 (by omega)]; exact hX.z4, by rw [hc 1 (by omega)]; exact hX.tl, by rw [hc 2 (by omega)]; exact hX.tb, hw, fun i hi => ⟨by rw [hc 19 (by omega)]; exact (hX.kp i hi).1, fun hk => ((hX.kp i hi).2 hk).same (fun k hk => hc _ (by omega))⟩, hX.er.sc (fun c hc' => hc c (by omega)), hX.mk⟩
theorem MWk.same2 {I I' : Nat → Nat → Int} {o : Nat} {w : Wk} (h : MWk I o w) (e : ∀ k, o ≤ k → k < o + 130 → I' 2 k = I 2 k) (h60 : w.n ≤ 60) : MWk I' o w := by
  obtain ⟨h1, h2, h3, h4, h5⟩ := h
  exact ⟨by rw [e _ (by omega) (by omega)]; exact h1, by rw [e _ (by omega) (by omega)]; exact h2, by rw [e _ (by omega) (by omega)]; exact h3, by rw [e _ (by omega) (by omega)]; exact h4, fun i hi => ⟨by rw [e _ (by omega) (by omega)]; exact (h5 i hi).1, by rw [e _ (by omega) (by omega)]; exact (h5 i hi).2⟩⟩
theorem MI.setW {σ : Sg} {I I' : Nat → Nat → Int} {X : XX} {w' : Wk} (hM : MI σ I X) (hS : SOK σ) (hc : ∀ c, c ≠ 2 → I' c = I c) (h2 : ∀ k, 130 ≤ k → I' 2 k = I 2 k) (hw : MWk I' 0 w') : MI (σ.setW w') I' X := by
  refine ⟨?_, hM.rf, by rw [hc 0 (by omega)]; exact hM.tl, by rw [hc 1 (by omega)]; exact hM.tb, hw, fun i hi => ⟨by rw [hc 3 (by omega)]; exact (hM.kp i hi).1, fun hk => ((hM.kp i hi).2 hk).same2 (fun k hk _ => h2 k (by omega)) (hS.im i hi hk).n60⟩, ?_, hM.mk⟩
  · have h1 := hM.mt
    unfold MT at h1 ⊢
    dsimp only at h1 ⊢
    rw [hc 0 (by omega)]
    exact h1
  · have h1 := hM.er
    unfold MEr at h1 ⊢
    rw [hc 0 (by omega), hc 4 (by omega), hc 5 (by omega)]
    exact h1
theorem SOK.setW {σ : Sg} {w' : Wk} (hS : SOK σ) (hw : WkOK σ.T w') : SOK (σ.setW w') := ⟨hS.ok, hS.tl, hS.tb, hw, hS.im, hS.er⟩
/-- one answer, one state -/
def Both (σ : Sg) (h s w : Nat) (I : Nat → Nat → Int) (X : XX) (I2 : Nat → Nat → Int) (X2 : XX) (jx jm : Nat) (as : List Value) : Prop := ∃ v σ', SOK σ' ∧ OX σ h s w jx 21 I X as v σ' ∧ OM jm 21 I2 X2 as v σ'
section KV
variable {sh : QH} {d j pc o : Nat} {ls : QL} {st : List Value} {S : QS} {Q : Option Value → QS → Prop}
theorem k_gfV {x c ci f ne n : Nat} {a : Int} (hd : q_dec j pc = some (o, .getfield x, 3)) (hf : q_lk qft o x = some (ci, f, ne)) (hs : sh[c]? = some (ci, n)) (h13 : ci ≠ 13) (hk : q_kf ci f = true) (ht : q_tyf ci f = .int ∨ q_tyf ci f = .boolean) (hv : S.1 c f = a) (kk : K sh d j (pc + 3) ls (.int (J a) :: st) S Q) : K sh d j pc ls (.ref c :: st) S Q := k_gfI hd hf hs h13 hk ht (by rw [hv]; exact kk)
theorem k_ialV {c n : Nat} {i a : Int} (hd : q_dec j pc = some (o, .iaload, 1)) (hs : sh[c]? = some (100, n)) (hn : (n : Int) < 2147483648) (h0 : 0 ≤ i) (h1 : i < n) (hv : S.1 c i.toNat = a) (kk : K sh d j (pc + 1) ls (.int (J a) :: st) S Q) : K sh d j pc ls (.int (J i) :: .ref c :: st) S Q := k_iald hd hs hn h0 h1 (by rw [hv]; exact kk)
/-- a row of 60 becomes another -/
def q_c60 (f : Nat → Nat → Int) (c0 c1 : Nat) : Nat → Nat → Int := fun c k => if c = c1 then (if k < 60 then f c0 k else f c1 k) else f c k
theorem q_c60_o {f : Nat → Nat → Int} {c0 c1 c : Nat} (h : c ≠ c1) : q_c60 f c0 c1 c = f c := by
  funext k
  unfold q_c60
  rw [if_neg h]
theorem q_c60_s {f : Nat → Nat → Int} {c0 c1 k : Nat} (h : k < 60) : q_c60 f c0 c1 c1 k = f c0 k := by
  unfold q_c60
  rw [if_pos rfl, if_pos h]
theorem k_cpy {x c0 c1 k : Nat} {r : List Value} (hd : q_dec j pc = some (o, .invokestatic x, 3)) (hl : q_lk qct o x = some (5, k)) (h0 : sh[c0]? = some (100, 60)) (h1 : sh[c1]? = some (100, 60)) (h8 : (r.map fun v => v.category).sum ≤ 8) (kk : K sh d j (pc + 3) ls r (q_c60 S.1 c0 c1, S.2) Q) : K sh d j pc ls (.int (J 60) :: .int (J 0) :: .ref c1 :: .int (J 0) :: .ref c0 :: r) S Q := by
  refine k_m hd rfl (by simp only [q_call, hl]) rfl ?_ kk
  simp only [q_m, hl, h0, h1]
  rw [if_pos ⟨trivial, by decide, by decide, by decide, by decide, by decide, h8⟩]
  refine congrArg some (congrArg (Prod.mk _) (congrArg (Prod.mk _) (Prod.ext ?_ rfl)))
  funext c k
  show q_cp (vv S).1 c0 c1 _ _ _ c k = J (q_c60 S.1 c0 c1 c k)
  have e1 : q_ix (J 0) = 0 := by decide
  have e2 : q_ix (J 60) = 60 := by decide
  rw [e1, e2]
  unfold q_cp q_c60 va_cpy vv
  dsimp only
  by_cases hc : c = c1
  · rw [if_pos hc, if_pos hc]
    by_cases hk : k < 60
    · rw [if_pos (by omega), if_pos hk]
      rw [show 0 + (k - 0) = k by omega]
    · rw [if_neg (by omega), if_neg hk]
  · rw [if_neg hc, if_neg hc]
end KV
section SM
variable {σ : Sg} {h s w d : Nat} {I : Nat → Nat → Int} {X : XX} {I2 : Nat → Nat → Int} {X2 : XX}
theorem t_cost (hX : XI σ h s w I X) (hM : MI σ I2 X2) (hS : SOK σ) (a b : Int) (ha : inJ a) (hb : inJ b) : Both σ h s w I X I2 X2 79 124 [.int (J a), .int (J b)] := ⟨_, σ, hS, sx_cost hX hS a b ha hb, sm_cost hM hS a b ha hb⟩
theorem t_cheapest (hX : XI σ h s w I X) (hM : MI σ I2 X2) (hS : SOK σ) (a b i : Int) (ha : inJ a) (hb : inJ b) (hi : inJ i) : Both σ h s w I X I2 X2 81 125 [.int (J a), .int (J b), .int (J i)] := ⟨_, σ, hS, sx_cheapest hX hS a b i ha hb hi, sm_cheapest hM hS a b i ha hb hi⟩
theorem t_quickest (hX : XI σ h s w I X) (hM : MI σ I2 X2) (hS : SOK σ) (a b i : Int) (ha : inJ a) (hb : inJ b) (hi : inJ i) : Both σ h s w I X I2 X2 83 131 [.int (J a), .int (J b), .int (J i)] := ⟨_, σ, hS, sx_quickest hX hS a b i ha hb hi, sm_quickest hM hS a b i ha hb hi⟩
theorem t_line (hX : XI σ h s w I X) (hM : MI σ I2 X2) (hS : SOK σ) (a b i t : Int) (ha : inJ a) (hb : inJ b) (hi : inJ i) (ht : inJ t) : Both σ h s w I X I2 X2 84 133 [.int (J a), .int (J b), .int (J i), .int (J t)] := ⟨_, σ, hS, sx_line hX hS a b i t ha hb hi ht, sm_line hM hS a b i t ha hb hi ht⟩
theorem t_fewTurns (hX : XI σ h s w I X) (hM : MI σ I2 X2) (hS : SOK σ) (a b : Int) (ha : inJ a) (hb : inJ b) : Both σ h s w I X I2 X2 85 134 [.int (J a), .int (J b)] := ⟨_, σ, hS, sx_fewTurns hX hS a b ha hb, sm_fewTurns hM hS a b ha hb⟩
theorem t_round (hX : XI σ h s w I X) (hM : MI σ I2 X2) (hS : SOK σ) (a b : Int) (ha : inJ a) (hb : inJ b) : Both σ h s w I X I2 X2 87 135 [.int (J a), .int (J b)] := ⟨_, σ, hS, sx_round hX hS a b ha hb, sm_round hM hS a b ha hb⟩
theorem t_help (hX : XI σ h s w I X) (hM : MI σ I2 X2) (hS : SOK σ) (a : Int) (ha : inJ a) : Both σ h s w I X I2 X2 91 140 [.int (J a)] := ⟨_, σ, hS, sx_help hX hS a ha, sm_help hM hS a ha⟩
theorem t_fits (hX : XI σ h s w I X) (hM : MI σ I2 X2) (hS : SOK σ) (a b i t : Int) (ha : inJ a) (hb : inJ b) (hi : inJ i) (ht : inJ t) : Both σ h s w I X I2 X2 92 141 [.int (J a), .int (J b), .int (J i), .int (J t)] := ⟨_, σ, hS, sx_fits hX hS a b i t ha hb hi ht, sm_fits hM hS a b i t ha hb hi ht⟩
/-! clear -/
abbrev Sg.setL (s : Sg) (n : Nat) (b : Nat → Int) : Sg := (s.T, n, b, s.w, s.kp, s.im, s.en, s.fr, s.to, s.mk)
theorem t_clear (hX : XI σ h s w I X) (hM : MI σ I2 X2) (hS : SOK σ) : Both σ h s w I X I2 X2 68 101 [] := by
  refine ⟨.int (J (σ.tl : Int)), σ.setL 0 (fun _ => 0), ⟨hS.ok, Nat.zero_le _, fun i hi => absurd hi (Nat.not_lt_zero i), hS.wk, hS.im, hS.er⟩, ?_, ?_⟩
  · have hR := hX.rf
    unfold OX
-- method 68: StraightTax.clear.()I
    refine k_start ql_68 (Nat.le_of_ble_eq_true rfl) ?_
    simp only [q_en, List.replicate]
    refine k_aload_n i_68_0 rfl ?_
    refine k_gfR i_68_1 f_11_12 (by first | rfl | assumption | (rw [hR]; rfl) | (dsimp only; rw [hR]; rfl)) (by decide) (by decide) (Or.inl ⟨_, rfl⟩) (by first | rfl | assumption | (rw [hR]; rfl) | (dsimp only; rw [hR]; rfl)) ?_
    refine k_gfI i_68_4 f_11_85 (by first | rfl | assumption | (rw [hR]; rfl) | (dsimp only; rw [hR]; rfl)) (by decide) (by decide) (Or.inl rfl) ?_
    rw [show (I, X).1 1 0 = (σ.tl : Int) from hX.tl]
    refine k_istore_n i_68_7 (Nat.le_of_ble_eq_true rfl) ?_
    dsimp only [q_st1, q_st2, q_unl]
    refine k_aload_n i_68_8 rfl ?_
    refine k_gfR i_68_9 f_11_12 (by first | rfl | assumption | (rw [hR]; rfl) | (dsimp only; rw [hR]; rfl)) (by decide) (by decide) (Or.inl ⟨_, rfl⟩) (by first | rfl | assumption | (rw [hR]; rfl) | (dsimp only; rw [hR]; rfl)) ?_
    refine k_iconst i_68_12 ?_
    refine k_pfI i_68_13 f_11_85 (by first | rfl | assumption | (rw [hR]; rfl) | (dsimp only; rw [hR]; rfl)) (by decide) rfl ?_
    refine k_iload_n i_68_16 rfl ?_
    refine k_iret i_68_17 qt_68 ?_
    refine ⟨rfl, h, s, w, hX.upd rfl (fun c hc => q_up_o (by omega)) rfl (fun i hi => absurd hi (Nat.not_lt_zero i)) (hX.wk.same (fun k hk => q_up_o (by omega))) (fun i hi => ⟨by dsimp only; rw [q_up_o (by omega)]; exact (hX.kp i hi).1, fun hk => ((hX.kp i hi).2 hk).same (fun k hk => q_up_o (by omega))⟩) (hX.er.sc (fun c hc' => q_up_o (by omega))) hX.mk⟩
  · have hR := hM.rf
    unfold OM
-- method 101: StraightTaxModel.clear.()I
    refine k_start ql_101 (Nat.le_of_ble_eq_true rfl) ?_
    simp only [q_en, List.replicate]
    refine k_aload_n i_101_0 rfl ?_
    refine k_gfI i_101_1 f_12_89 (by first | rfl | assumption | (rw [hR]; rfl) | (dsimp only; rw [hR]; rfl)) (by decide) (by decide) (Or.inl rfl) ?_
    rw [show (I2, X2).1 0 10 = (σ.tl : Int) from hM.tl]
    refine k_istore_n i_101_4 (Nat.le_of_ble_eq_true rfl) ?_
    dsimp only [q_st1, q_st2, q_unl]
    refine k_aload_n i_101_5 rfl ?_
    refine k_iconst i_101_6 ?_
    refine k_pfI i_101_7 f_12_89 (by first | rfl | assumption | (rw [hR]; rfl) | (dsimp only; rw [hR]; rfl)) (by decide) rfl ?_
    refine k_iload_n i_101_10 rfl ?_
    refine k_iret i_101_11 qt_101 ?_
    refine ⟨rfl, hM.upd (I' := q_up I2 0 10 0) (L := X2.1) rfl (fun k hk => q_up_n (by omega)) rfl (fun i hi => absurd hi (Nat.not_lt_zero i)) (hM.wk.same (q_up_o (by omega))) (fun i hi => ⟨by rw [q_up_o (by omega)]; exact (hM.kp i hi).1, fun hk => ((hM.kp i hi).2 hk).same (q_up_o (by omega))⟩) ?_ hM.mk⟩
    have h1 := hM.er
    unfold MEr at h1 ⊢
    rw [q_up_n (by omega), q_up_o (by omega), q_up_o (by omega)]
    exact h1
end SM
