/-! THE CLASS: aim, whole; and the two systems are one -/
theorem q_fill_sr (f : Nat → Nat → Int) (c n : Nat) (v : Int) : q_fill f c n v = sr f c (fun j => if j < n then v else f c j) := by
  funext c' j
  unfold q_fill sr
  by_cases h : c' = c
  · subst h; simp
  · simp [h]
/-- the goal's ports are 0 -/
def gN (b : Int) (n : Nat → Int) : Nat → (Nat → Int)
  | 0 => n
  | k + 1 => ud (gN b n k) (b * 4 + k).toNat 0
theorem gN_pt {b : Int} (hb : 0 ≤ b) {n : Nat → Int} : ∀ (k : Nat) (c l : Int), k ≤ 4 → 0 ≤ c → 0 ≤ l → l < 4 → pt (gN b n k) c l = if c = b ∧ l < k then 0 else pt n c l
  | 0, c, l, _, _, _, _ => by rw [if_neg (by omega)]; rfl
  | k + 1, c, l, hk, c0, l0, l1 => by
    have ih := gN_pt hb (n := n) k c l (by omega) c0 l0 l1
    by_cases e : c = b ∧ l = k
    · obtain ⟨rfl, rfl⟩ := e
      rw [if_pos ⟨rfl, by omega⟩]
      show ud _ _ _ _ = 0
      exact ud_s
    · show ud _ _ _ _ = _
      rw [ud_n (by omega)]
      show pt (gN b n k) c l = _
      rw [ih]
      by_cases h : c = b ∧ l < k
      · rw [if_pos h, if_pos ⟨h.1, by omega⟩]
      · rw [if_neg h, if_neg (by omega)]
theorem gN_inF {b : Int} {n : Nat → Int} (hn : inF n) : ∀ k, inF (gN b n k)
  | 0 => hn
  | k + 1 => by
    intro j hj
    unfold gN ud
    split
    · omega
    · exact gN_inF hn k j hj
theorem WX.goal {I : Nat → Nat → Int} {X : XX} {h s w : Nat} {T : Tn} {nt v : Int} (hw : WX I X h s w T nt) : WX (q_up I 32 2 v) X h s w T nt := by
  obtain ⟨h1, h2, h3, h4, h5, h6, h7, h8⟩ := hw
  have e : ∀ c k, c ≠ 32 → q_up I 32 2 v c k = I c k := fun c k hc => q_up_n (fun z => hc z.1)
  have hw32 : w ≠ 32 ∧ w + 1 ≠ 32 ∧ w + 2 ≠ 32 := by omega
  refine ⟨h1, h2, ?_, ?_, by rw [q_up_n (by decide)]; exact h5, h6, h7, fun r hr => by rw [e _ _ (by decide), e _ _ (by decide)]; exact h8 r hr⟩
  · unfold TAt at h3 ⊢
    simp only [e _ _ hw32.1, e _ _ hw32.2.1]
    exact h3
  · unfold TNx at h4 ⊢
    simp only [e _ _ hw32.2.2]
    exact h4
section A4
variable {d : Nat} {T : Tn} {I : Nat → Nat → Int} {X : XX} {h0 s0 w : Nat} {nt b : Int} {V E : Int → Int → Int} {Q : Option Value → QS → Prop}
-- method 49: StraightTax$Ways.aim.(I)V
theorem l_aim_g (hR : X.2 = rX h0 s0 w) (hb : I 32 2 = b) (hbr : 0 ≤ b ∧ b < 20) (o n : Nat → Int)
    (hk : K shX (d + 4) 49 50 [some (.ref 32), some (.int (J b)), some (.int (J 4)), none, none, none] [] (RI I o (gN b n 4), X) Q) :
    ∀ (m k : Nat), k + m = 4 → K shX (d + 4) 49 25 [some (.ref 32), some (.int (J b)), some (.int (J (k : Int))), none, none, none] [] (RI I o (gN b n k), X) Q := by
  intro m
  induction m with
  | zero =>
    intro k hk4
    have e : k = 4 := by omega
    subst e
    refine k_iload_n i_49_25 rfl ?_
    refine k_iconst i_49_26 ?_
    refine k_ic_ge (t := 50) i_49_27 rfl (by omega) (by omega) (fun h => ?_) (fun h => ?_)
    · exact hk
    · omega
  | succ m ih =>
    intro k hk4
    refine k_iload_n i_49_25 rfl ?_
    refine k_iconst i_49_26 ?_
    refine k_ic_ge (t := 50) i_49_27 rfl (by omega) (by omega) (fun h => ?_) (fun h => ?_)
    · omega
    · refine k_aload_n i_49_30 rfl ?_
      refine k_gfR i_49_31 f_10_36 (by first | rfl | assumption | (rw [hR]; rfl) | (dsimp only; rw [hR]; rfl)) (by decide) (by decide) (Or.inr ⟨_, rfl⟩) (by first | rfl | assumption | (rw [hR]; rfl) | (dsimp only; rw [hR]; rfl)) ?_
      refine k_aload_n i_49_34 rfl ?_
      refine k_gfI i_49_35 f_10_22 (by first | rfl | assumption | (rw [hR]; rfl) | (dsimp only; rw [hR]; rfl)) (by decide) (by decide) (Or.inl rfl) ?_
      rw [show (RI I o (gN b n k), X).1 32 2 = b from by show RI I o (gN b n k) 32 2 = b; rw [RI_n (by decide) (by decide)]; exact hb]
      refine k_iconst i_49_38 ?_
      refine k_imul i_49_39 ?_
      refine k_iload_n i_49_40 rfl ?_
      refine k_iadd i_49_41 ?_
      refine k_iconst i_49_42 ?_
      refine k_iast i_49_43 rfl (by decide) (by omega) (by omega) ?_
      dsimp only
      rw [RI_u36]
      refine k_iinc i_49_44 rfl (Nat.le_of_ble_eq_true rfl) ?_
      dsimp only [q_st1, q_st2, q_unl]
      refine k_goto (t := 25) i_49_47 rfl ?_
      exact ih (k + 1) (by omega)
theorem e_aim (hW : WX I X h0 s0 w T nt) (hb : 0 ≤ b ∧ b < 20) (hx : xfx T nt b V E) : KC shX (d + 4) 49 [.ref 32, .int (J b)] (I, X) (fun r S2 => r = none ∧ ∃ o n, S2 = (RI (q_up I 32 2 b) o n, X) ∧ inF o ∧ inF n ∧ (∀ c q : Int, 0 ≤ c → c < 20 → 0 ≤ q → q < 4 → pt o c q = E c q) ∧ ∀ c l : Int, 0 ≤ c → c < 20 → 0 ≤ l → l < 4 → pt n c l = V c l) := by
  have hw := hW.2.2.2.2.2.2.1.1
  have hR := hW.1
  have hW1 := hW.goal (v := b)
  have hb1 : q_up I 32 2 b 32 2 = b := q_up_s
  refine k_start ql_49 (Nat.le_of_ble_eq_true rfl) ?_
  simp only [q_en, List.replicate]
  refine k_aload_n i_49_0 rfl ?_
  refine k_iload_n i_49_1 rfl ?_
  refine k_pfI i_49_2 f_10_22 (by first | rfl | assumption | (rw [hR]; rfl) | (dsimp only; rw [hR]; rfl)) (by decide) rfl ?_
  refine k_aload_n i_49_5 rfl ?_
  refine k_gfR i_49_6 f_10_33 (by first | rfl | assumption | (rw [hR]; rfl) | (dsimp only; rw [hR]; rfl)) (by decide) (by decide) (Or.inr ⟨_, rfl⟩) (by first | rfl | assumption | (rw [hR]; rfl) | (dsimp only; rw [hR]; rfl)) ?_
  refine k_ldc (a := 1073741824) i_49_9 n_10_64 (by decide) ?_
  refine k_cs2 i_49_11 c_10_65 (by decide) qp_158 (Nat.le_of_ble_eq_true rfl) (e_fill (n := 80) rfl (by decide) 1073741824) (fun v S2 h => ?_)
  obtain ⟨rfl, rfl⟩ := h
  show K shX (d + 4) 49 14 _ [] _ _
  refine k_aload_n i_49_14 rfl ?_
  refine k_gfR i_49_15 f_10_36 (by first | rfl | assumption | (rw [hR]; rfl) | (dsimp only; rw [hR]; rfl)) (by decide) (by decide) (Or.inr ⟨_, rfl⟩) (by first | rfl | assumption | (rw [hR]; rfl) | (dsimp only; rw [hR]; rfl)) ?_
  refine k_ldc (a := 1073741824) i_49_18 n_10_64 (by decide) ?_
  refine k_cs2 i_49_20 c_10_65 (by decide) qp_158 (Nat.le_of_ble_eq_true rfl) (e_fill (n := 80) rfl (by decide) 1073741824) (fun v S2 h => ?_)
  obtain ⟨rfl, rfl⟩ := h
  show K shX (d + 4) 49 23 _ [] (q_fill (q_fill (q_up I 32 2 b) 35 80 1073741824) 36 80 1073741824, X) _
  rw [q_fill_sr, q_fill_sr]
  refine k_iconst i_49_23 ?_
  refine k_istore_n i_49_24 (Nat.le_of_ble_eq_true rfl) ?_
  dsimp only [q_st1, q_st2, q_unl]
  have hF : ∀ f : Nat → Int, inF (fun j => if j < 80 then 1073741824 else f j) := by
    intro f j hj
    dsimp only
    rw [if_pos hj]
    omega
  refine l_aim_g (I := q_up I 32 2 b) hR hb1 hb (fun j => if j < 80 then 1073741824 else q_up I 32 2 b 35 j) (fun j => if j < 80 then 1073741824 else sr (q_up I 32 2 b) 35 (fun j => if j < 80 then 1073741824 else q_up I 32 2 b 35 j) 36 j) ?_ 4 0 (by omega)
  refine k_iconst i_49_50 ?_
  refine k_istore_n i_49_51 (Nat.le_of_ble_eq_true rfl) ?_
  dsimp only [q_st1, q_st2, q_unl]
  refine k_iconst i_49_52 ?_
  refine k_istore_n i_49_53 (Nat.le_of_ble_eq_true rfl) ?_
  dsimp only [q_st1, q_st2, q_unl]
  refine l_aim_s hW1 hb1 (by omega) hx (fun o n ha hk => ⟨rfl, o, n, rfl, ha.1, ha.2.1, aI_exact hw hx ha hk⟩) 81 0 1 _ _ none none (by omega) (by omega) (by omega) ?_ (Rk_0 hx.2.2) (Or.inl rfl)
  refine ⟨hF _, gN_inF (hF _) 4, fun c l c0 c1 l0 l1 => ?_, fun c q c0 c1 q0 q1 => ?_⟩
  · rw [gN_pt hb.1 4 c l (by omega) c0 l0 l1]
    by_cases e : c = b
    · rw [if_pos ⟨e, by omega⟩, if_pos e]
    · rw [if_neg (fun z => e z.1), if_neg e]
      have h1 : ∀ f : Nat → Int, ∀ q : Int, 0 ≤ q → q < 4 → pt (fun j => if j < 80 then 1073741824 else f j) c q = 1073741824 := by
        intro f q q0 q1
        show (if (c * 4 + q).toNat < 80 then 1073741824 else f (c * 4 + q).toNat) = 1073741824
        rw [if_pos (by omega)]
      rw [h1 _ l l0 l1]
      rcases tuk_is (O := pt (fun j => if j < 80 then 1073741824 else q_up I 32 2 b 35 j)) (c := c) (but := if tElb T c = true then -1 else l) 4 with h | ⟨q, q1, q2, q3⟩
      · exact h.symm
      · rw [h1 _ q q1.1 (by omega)] at q3
        exact q3.symm
  · have h1 := (hx.2.2 c q c0 c1 q0 q1).2
    have h2 : pt (fun j => if j < 80 then 1073741824 else q_up I 32 2 b 35 j) c q = 1073741824 := by
      show (if (c * 4 + q).toNat < 80 then 1073741824 else q_up I 32 2 b 35 (c * 4 + q).toNat) = 1073741824
      rw [if_pos (by omega)]
    rw [h2]
    exact h1
end A4
/-! the exact burdens of the class are the fixpoint of the reference's system -/
/-- the reference's state of one who came to a square in a direction, by the r-th step of a run -/
def gs (T : Tn) (c q r : Int) : Int := if tElb T c = true then 17 * c + 16 else 17 * c + 4 * q + (r - 1)
def eE (T : Tn) (nt b : Int) (g : Int → Int) (c q : Int) : Int := if c ≠ b ∧ tOpen T c = true ∧ 0 ≤ nx T c q then min 1073741824 (W1 T nt 1 + g (gs T (nx T c q) q 1)) else 1073741824
def eV (T : Tn) (nt b : Int) (g : Int → Int) (c l : Int) : Int := if c = b then 0 else tu (eE T nt b g) c (if tElb T c = true then -1 else l)
theorem tElb_mask {T : Tn} {c : Int} (hc : 0 ≤ c ∧ c < 20) : (tMask T 2).testBit c.toNat = tElb T c := by
  rw [tMask_bit]
  unfold tElb
  exact decide_eq_decide.mpr ⟨fun h => ⟨hc.1, hc.2, h.2⟩, fun h => ⟨by omega, h.2.2⟩⟩
theorem mRun_gs {T : Tn} {c q r p : Int} (hc : 0 ≤ c) (hq : 0 ≤ q ∧ q < 4) (hr : 1 ≤ r ∧ r ≤ 4) : mRun (gs T c q r) p = if tElb T c = false ∧ q = p then r + 1 else 1 := by
  unfold gs mRun
  by_cases he : tElb T c = true
  · rw [if_pos he, if_neg (by omega), if_neg (by rw [he]; simp)]
  · have he' : tElb T c = false := by cases h : tElb T c; rfl; exact absurd h he
    have e1 : (17 * c + 4 * q + (r - 1)) % 17 = 4 * q + (r - 1) := by omega
    have e2 : (4 * q + (r - 1)) / 4 = q := by omega
    have e3 : (4 * q + (r - 1)) % 4 = r - 1 := by omega
    rw [if_neg he, e1, e2, e3]
    by_cases hp : q = p
    · rw [if_pos ⟨by omega, hp⟩, if_pos ⟨he', hp⟩]; omega
    · rw [if_neg (fun z => hp z.2), if_neg (fun z => hp z.2)]
theorem gs_div {T : Tn} {c q r : Int} (hq : 0 ≤ q ∧ q < 4) (hr : 1 ≤ r ∧ r ≤ 4) : gs T c q r / 17 = c := by
  unfold gs; split <;> omega
theorem gs_range {T : Tn} {c q r : Int} (hc : 0 ≤ c ∧ c < tN T) (hq : 0 ≤ q ∧ q < 4) (hr : 1 ≤ r ∧ r ≤ 4) : 0 ≤ gs T c q r ∧ gs T c q r < 17 * tN T := by
  unfold gs; split <;> omega
/-- where a step leads from such a state, over the town's own elbows -/
theorem mE_of {T : Tn} (hw : tWF T) {s p : Int} (hs : 0 ≤ s ∧ s < 17 * tN T) (hp : 0 ≤ p ∧ p < 4) (hr : mRun s p ≤ 4) : mE T (tMask T 2) s p = if nx T (s / 17) p < 0 then -1 else gs T (nx T (s / 17) p) p (mRun s p) := by
  have hN := tN_le hw
  have h1 := nx_range hw (s / 17) p
  have h2 := mRun_le s p hs.1
  unfold mE mOn
  rw [if_neg (by omega)]
  split
  · rfl
  · rw [tElb_mask (by omega)]
    unfold gs
    by_cases he : tElb T (nx T (s / 17) p) = true
    · rw [if_pos he, if_pos he]
    · rw [if_neg he, if_neg he]; omega
