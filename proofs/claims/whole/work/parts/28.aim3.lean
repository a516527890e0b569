/-! THE CLASS: aim -/
/-- how many ports have a burden of at most v -/
def cP (E : Int → Int → Int) (v : Int) : Nat → Int
  | 0 => 0
  | k + 1 => cP E v k + (if E ((k : Int) / 4) ((k : Int) % 4) ≤ v then 1 else 0)
theorem cP_S {E : Int → Int → Int} {v : Int} (k : Nat) : cP E v (k + 1) = cP E v k + (if E ((k : Int) / 4) ((k : Int) % 4) ≤ v then 1 else 0) := rfl
theorem cP_le {E : Int → Int → Int} {v : Int} : ∀ k : Nat, 0 ≤ cP E v k ∧ cP E v k ≤ k
  | 0 => by simp [cP]
  | k + 1 => by
    have := cP_le (E := E) (v := v) k
    rw [cP_S]
    split <;> omega
theorem cP_mono {E : Int → Int → Int} {v v' : Int} (h : v ≤ v') : ∀ k, cP E v k ≤ cP E v' k
  | 0 => Int.le_refl _
  | k + 1 => by
    have := cP_mono (E := E) h k
    simp only [cP_S]
    split
    · rw [if_pos (by omega)]; omega
    · split <;> omega
theorem cP_lt {E : Int → Int → Int} {v v' : Int} (h : v ≤ v') {s : Nat} (h1 : v < E ((s : Int) / 4) ((s : Int) % 4)) (h2 : E ((s : Int) / 4) ((s : Int) % 4) ≤ v') : ∀ k, s < k → cP E v k + 1 ≤ cP E v' k
  | 0, hk => by omega
  | k + 1, hk => by
    have h0 := cP_mono (E := E) h k
    simp only [cP_S]
    by_cases e : s = k
    · subst e
      rw [if_neg (by omega), if_pos h2]
      omega
    · have := cP_lt (E := E) h h1 h2 k (by omega)
      split
      · rw [if_pos (by omega)]; omega
      · split <;> omega
theorem cP_port {E : Int → Int → Int} {v v' c q : Int} (h : v ≤ v') (hc : 0 ≤ c ∧ c < 20) (hq : 0 ≤ q ∧ q < 4) (h1 : v < E c q) (h2 : E c q ≤ v') : cP E v 80 + 1 ≤ cP E v' 80 := by
  refine cP_lt (s := (c * 4 + q).toNat) h ?_ ?_ 80 (by omega)
  · rw [show (((c * 4 + q).toNat : Nat) : Int) / 4 = c by omega, show (((c * 4 + q).toNat : Nat) : Int) % 4 = q by omega]; exact h1
  · rw [show (((c * 4 + q).toNat : Nat) : Int) / 4 = c by omega, show (((c * 4 + q).toNat : Nat) : Int) % 4 = q by omega]; exact h2
/-- the ports of the k lowest ranks are settled -/
def Rk (E : Int → Int → Int) (o : Nat → Int) (k : Int) : Prop := ∀ c q : Int, 0 ≤ c → c < 20 → 0 ≤ q → q < 4 → E c q < 1073741824 → cP E (E c q) 80 ≤ k → pt o c q ≤ E c q
theorem Rk_0 {E : Int → Int → Int} {o : Nat → Int} (hE : ∀ c q : Int, 0 ≤ c → c < 20 → 0 ≤ q → q < 4 → 0 ≤ E c q ∧ E c q ≤ 1073741824) : Rk E o 0 := by
  intro c q c0 c1 q0 q1 _ hk
  have h1 := cP_port (E := E) (v := E c q - 1) (v' := E c q) (by omega) ⟨c0, c1⟩ ⟨q0, q1⟩ (by omega) (Int.le_refl _)
  have h2 := cP_le (E := E) (v := E c q - 1) 80
  omega
theorem Rk_step {T : Tn} (hw : tWF T) {nt b : Int} {V E : Int → Int → Int} (hx : xfx T nt b V E) {o0 o n : Nat → Int} {k : Int} (hk : Rk E o0 k) (hle : ∀ c q : Int, 0 ≤ c → c < 20 → 0 ≤ q → q < 4 → pt o c q ≤ pt o0 c q) (ha : aI T b E o n) {c q : Int} (hc : 0 ≤ c ∧ c < 20) (hq : 0 ≤ q ∧ q < 4) (hF : E c q < 1073741824) (hr : cP E (E c q) 80 ≤ k + 1) : c ≠ b ∧ tOpen T c = true ∧ sO T nt (pt n) q 4 c ≤ E c q := by
  have hN := tN_le hw
  have e1 := hx.2.1 c q hc.1 hc.2 hq.1 hq.2
  by_cases hz : c ≠ b ∧ tOpen T c = true
  · refine ⟨hz.1, hz.2, ?_⟩
    rw [if_pos hz] at e1
    rcases sO_is hw (nt := nt) (N := V) (q := q) 4 c (by omega) with h | ⟨e, W, a1, a2, a3, a4⟩
    · omega
    · have h1 := a4 (pt n)
      have h2 : pt n e q ≤ V e q := by
        rw [ha.2.2.1 e q a1.1 (by omega) hq.1 hq.2]
        have hV := hx.1 e q a1.1 (by omega) hq.1 hq.2
        rw [hV]
        split
        · exact Int.le_refl _
        · rename_i heb
          rw [if_neg heb] at hV
          rcases tuk_is (O := E) (c := e) (but := if tElb T e = true then -1 else q) 4 with h | ⟨q', b1, b2, b3⟩
          · have : V e q = 1073741824 := hV.trans h
            omega
          · have hVq : V e q = E e q' := hV.trans b3
            have hbe := hx.2.2 e q' a1.1 (by omega) b1.1 (by omega)
            have h3 := cP_port (E := E) (v := E e q') (v' := E c q) (by omega) hc hq (by omega) (Int.le_refl _)
            have h4 := hk e q' a1.1 (by omega) b1.1 (by omega) (by omega) (by omega)
            have h5 := hle e q' a1.1 (by omega) b1.1 (by omega)
            have h6 := tuk_ge (O := pt o) (c := e) 4 q' b1.1 b1.2 b2
            show tuk _ _ _ 4 ≤ tuk _ _ _ 4
            rw [b3]
            omega
      omega
  · rw [if_neg hz] at e1
    omega
theorem aI_exact {T : Tn} (hw : tWF T) {nt b : Int} {V E : Int → Int → Int} (hx : xfx T nt b V E) {o n : Nat → Int} (ha : aI T b E o n) (hk : Rk E o 80) : (∀ c q : Int, 0 ≤ c → c < 20 → 0 ≤ q → q < 4 → pt o c q = E c q) ∧ ∀ c l : Int, 0 ≤ c → c < 20 → 0 ≤ l → l < 4 → pt n c l = V c l := by
  have h1 : ∀ c q : Int, 0 ≤ c → c < 20 → 0 ≤ q → q < 4 → pt o c q = E c q := by
    intro c q c0 c1 q0 q1
    have h2 := ha.2.2.2 c q c0 c1 q0 q1
    by_cases hF : E c q < 1073741824
    · have h3 := hk c q c0 c1 q0 q1 hF (by have := (cP_le (E := E) (v := E c q) 80).2; omega)
      omega
    · have h3 := hx.2.2 c q c0 c1 q0 q1
      have h4 : pt o c q = o (c * 4 + q).toNat := rfl
      have h5 := ha.1 (c * 4 + q).toNat (by omega)
      omega
  refine ⟨h1, fun c l c0 c1 l0 l1 => ?_⟩
  rw [ha.2.2.1 c l c0 c1 l0 l1, hx.1 c l c0 c1 l0 l1]
  split
  · rfl
  · exact Int.le_antisymm (tuk_mono 4 (fun q b1 b2 => by rw [h1 c q c0 c1 b1 (by omega)]; exact Int.le_refl _)) (tuk_mono 4 (fun q b1 b2 => by rw [h1 c q c0 c1 b1 (by omega)]; exact Int.le_refl _))
theorem Rk_stable {T : Tn} (hw : tWF T) {nt b : Int} {V E : Int → Int → Int} (hx : xfx T nt b V E) {o n : Nat → Int} (ha : aI T b E o n) (hs : ∀ c : Int, 0 ≤ c → c < tN T → c ≠ b → tOpen T c = true → ∀ q : Int, 0 ≤ q → q < 4 → pt o c q ≤ sO T nt (pt n) q 4 c) : ∀ k : Nat, Rk E o k := by
  intro k
  induction k with
  | zero => exact Rk_0 hx.2.2
  | succ k ih =>
    intro c q c0 c1 q0 q1 hF hr
    obtain ⟨h1, h2, h3⟩ := Rk_step hw hx ih (fun _ _ _ _ _ _ => Int.le_refl _) ha ⟨c0, c1⟩ ⟨q0, q1⟩ hF (by omega)
    have h4 : c < tN T := by
      unfold tOpen tHas at h2
      simp at h2
      omega
    exact Int.le_trans (hs c c0 h4 h1 h2 q q0 q1) h3
/-- the order of a sweep -/
def ordS (T : Tn) (sw i : Int) : Int := if sw % 2 = 0 then i else tN T - 1 - i
/-- within a sweep: from o0, n0 to o, n, the first i squares being done -/
def aW (T : Tn) (nt b : Int) (E : Int → Int → Int) (k sw : Int) (o0 n0 o n : Nat → Int) (less i : Int) : Prop := aI T b E o n ∧ (∀ c q : Int, 0 ≤ c → c < 20 → 0 ≤ q → q < 4 → pt o c q ≤ pt o0 c q) ∧ (∀ u : Int, 0 ≤ u → u < i → ∀ q : Int, 0 ≤ q → q < 4 → E (ordS T sw u) q < 1073741824 → cP E (E (ordS T sw u) q) 80 ≤ k + 1 → pt o (ordS T sw u) q ≤ E (ordS T sw u) q) ∧ (less = 0 ∨ less = 1) ∧ (less = 0 → o = o0 ∧ n = n0 ∧ ∀ u : Int, 0 ≤ u → u < i → ordS T sw u ≠ b → tOpen T (ordS T sw u) = true → ∀ q : Int, 0 ≤ q → q < 4 → pt o0 (ordS T sw u) q ≤ sO T nt (pt n0) q 4 (ordS T sw u))
theorem aW_step {T : Tn} (hw : tWF T) {nt b : Int} {V E : Int → Int → Int} (hx : xfx T nt b V E) {k sw : Int} {o0 n0 o n : Nat → Int} (hk : Rk E o0 k) {less i : Int} (hi : 0 ≤ i ∧ i < tN T) (h : aW T nt b E k sw o0 n0 o n less i) : aW T nt b E k sw o0 n0 (mlZ T nt b o n (ordS T sw i)).2.1 (mlZ T nt b o n (ordS T sw i)).2.2 (if (mlZ T nt b o n (ordS T sw i)).1 = true then 1 else less) (i + 1) := by
  have hN := tN_le hw
  obtain ⟨h1, h2, h3, h4, h5⟩ := h
  have hor : 0 ≤ ordS T sw i ∧ ordS T sw i < tN T := by unfold ordS; split <;> omega
  obtain ⟨m1, m2, m3, m4, m5⟩ := aI_ml hw hx h1 hor
  refine ⟨m1, fun c q c0 c1 q0 q1 => Int.le_trans (m2 c q c0 c1 q0 q1) (h2 c q c0 c1 q0 q1), fun u u0 u1 q q0 q1 hF hr => ?_, ?_, fun hl => ?_⟩
  · by_cases e : u = i
    · subst e
      obtain ⟨s1, s2, s3⟩ := Rk_step hw hx hk h2 h1 ⟨hor.1, by omega⟩ ⟨q0, q1⟩ hF hr
      exact Int.le_trans (m4 s1 s2 q q0 q1) s3
    · have hou : 0 ≤ ordS T sw u ∧ ordS T sw u < tN T := by unfold ordS; split <;> omega
      exact Int.le_trans (m2 _ q hou.1 (by omega) q0 q1) (h3 u u0 (by omega) q q0 q1 hF hr)
  · split
    · exact Or.inr rfl
    · exact h4
  · have hf : (mlZ T nt b o n (ordS T sw i)).1 = false := by
      cases hm : (mlZ T nt b o n (ordS T sw i)).1
      · rfl
      · rw [if_pos hm] at hl; omega
    rw [if_neg (by rw [hf]; decide)] at hl
    obtain ⟨e1, e2, e3⟩ := h5 hl
    obtain ⟨g1, g2⟩ := m5 hf
    refine ⟨g1.trans e1, g2.trans e2, fun u u0 u1 hub huo q q0 q1 => ?_⟩
    by_cases e : u = i
    · subst e
      have := m4 hub huo q q0 q1
      rw [g1, e1, e2] at this
      exact this
    · exact e3 u u0 (by omega) hub huo q q0 q1
theorem aW_end {T : Tn} (hw : tWF T) {nt b : Int} {V E : Int → Int → Int} (hx : xfx T nt b V E) {k sw : Int} {o0 n0 o n : Nat → Int} {less : Int} (hsw : 0 ≤ sw) (h : aW T nt b E k sw o0 n0 o n less (tN T)) : aI T b E o n ∧ Rk E o (k + 1) ∧ (less = 0 ∨ less = 1) ∧ (less = 0 → Rk E o 80) := by
  have hN := tN_le hw
  obtain ⟨h1, h2, h3, h4, h5⟩ := h
  have inv : ∀ c : Int, 0 ≤ c → c < tN T → ∃ u : Int, 0 ≤ u ∧ u < tN T ∧ ordS T sw u = c := by
    intro c c0 c1
    by_cases e : sw % 2 = 0
    · exact ⟨c, c0, c1, by unfold ordS; rw [if_pos e]⟩
    · exact ⟨tN T - 1 - c, by omega, by omega, by unfold ordS; rw [if_neg e]; omega⟩
  refine ⟨h1, fun c q c0 c1 q0 q1 hF hr => ?_, h4, fun hl => ?_⟩
  · by_cases hc : c < tN T
    · obtain ⟨u, u0, u1, rfl⟩ := inv c c0 hc
      exact h3 u u0 u1 q q0 q1 hF hr
    · have e := hx.2.1 c q c0 c1 q0 q1
      rw [if_neg (by rintro ⟨-, z⟩; unfold tOpen tHas at z; simp at z; omega)] at e
      omega
  · obtain ⟨e1, e2, e3⟩ := h5 hl
    subst e1; subst e2
    refine Rk_stable hw hx h1 (fun c c0 c1 hcb hco q q0 q1 => ?_) 80
    obtain ⟨u, u0, u1, rfl⟩ := inv c c0 c1
    exact e3 u u0 u1 hcb hco q q0 q1
section AZ
variable {d : Nat} {T : Tn} {I : Nat → Nat → Int} {X : XX} {h0 s0 w : Nat} {nt b : Int} {V E : Int → Int → Int} {Q : Option Value → QS → Prop}
-- method 49: StraightTax$Ways.aim.(I)V
theorem l_aim_i (hW : WX I X h0 s0 w T nt) (hb : I 32 2 = b) (hbr : inJ b) (hx : xfx T nt b V E) (k sw : Int) (hsw : 0 ≤ sw ∧ sw ≤ 80) (o0 n0 : Nat → Int) (hk : Rk E o0 k)
    (hq : ∀ (o n : Nat → Int) (less : Int) (x5 : Option Value), aW T nt b E k sw o0 n0 o n less (tN T) → K shX (d + 4) 49 123 [some (.ref 32), some (.int (J b)), some (.int (J less)), some (.int (J sw)), some (.int (J (tN T))), x5] [] (RI I o n, X) Q) :
    ∀ (m : Nat) (i less : Int) (o n : Nat → Int) (x5 : Option Value), 0 ≤ i → i ≤ tN T → (tN T - i).toNat = m → aW T nt b E k sw o0 n0 o n less i → K shX (d + 4) 49 69 [some (.ref 32), some (.int (J b)), some (.int (J less)), some (.int (J sw)), some (.int (J i)), x5] [] (RI I o n, X) Q := by
  have hw := hW.2.2.2.2.2.2.1.1
  have hR := hW.1
  have hN := tN_le hw
  intro m
  induction m with
  | zero =>
    intro i less o n x5 i0 i1 hm ha
    have e : i = tN T := by omega
    subst e
    obtain ⟨-, hw4, hT, hX, hnt, h01, hOK, hwt⟩ := hW.RI (o := o) (n := n)
    obtain ⟨s1, s2, s3, r1, r2, a0, a1, a2, a3, a4, a5, a6, ag⟩ := id hT
    refine k_iload i_49_69 rfl ?_
    refine k_aload_n i_49_71 rfl ?_
    refine k_gfR i_49_72 f_10_12 (by first | rfl | assumption | (rw [hR]; rfl) | (dsimp only; rw [hR]; rfl)) (by decide) (by decide) (Or.inl ⟨_, rfl⟩) (by first | rfl | assumption | (rw [hR]; rfl) | (dsimp only; rw [hR]; rfl)) ?_
    refine k_vp0 i_49_75 c_10_71 qp_28 qo_28 (by first | rfl | assumption | (rw [hR]; rfl) | (dsimp only; rw [hR]; rfl)) (Nat.le_of_ble_eq_true rfl) (e_squares hT) ?_
    refine k_ic_ge (t := 123) i_49_78 rfl (by omega) (by omega) (fun h => ?_) (fun h => ?_)
    · exact hq o n less x5 ha
    · omega
  | succ m ih =>
    intro i less o n x5 i0 i1 hm ha
    obtain ⟨-, hw4, hT, hX, hnt, h01, hOK, hwt⟩ := hW.RI (o := o) (n := n)
    obtain ⟨s1, s2, s3, r1, r2, a0, a1, a2, a3, a4, a5, a6, ag⟩ := id hT
    have fin : ∀ c : Int, c = ordS T sw i → K shX (d + 4) 49 104 [some (.ref 32), some (.int (J b)), some (.int (J less)), some (.int (J sw)), some (.int (J i)), x5] [.int (J c)] (RI I o n, X) Q := by
      intro c hc
      have hcr : 0 ≤ c ∧ c < tN T := by rw [hc]; unfold ordS; split <;> omega
      have hst := aW_step hw hx hk ⟨i0, by omega⟩ ha
      rw [← hc] at hst
      refine k_istore i_49_104 (Nat.le_of_ble_eq_true rfl) ?_
      dsimp only [q_st1, q_st2, q_unl]
      refine k_aload_n i_49_106 rfl ?_
      refine k_iload i_49_107 rfl ?_
      refine k_cv1 i_49_109 c_10_75 qp_50 qo_50 (by first | rfl | assumption | (rw [hR]; rfl) | (dsimp only; rw [hR]; rfl)) (Nat.le_of_ble_eq_true rfl) (e_makesLess hW hb hbr o n ha.1.1 ha.1.2.1 c (by omega)) (fun v S2 h => ?_)
      obtain ⟨rfl, rfl⟩ := h
      show K shX (d + 4) 49 112 _ [.int (J (bi (mlZ T nt b o n c).1))] _ _
      refine k_if_eqB (t := 117) i_49_112 rfl (fun h => ?_) (fun h => ?_)
      · refine k_iinc i_49_117 rfl (Nat.le_of_ble_eq_true rfl) ?_
        dsimp only [q_st1, q_st2, q_unl]
        refine k_goto (t := 69) i_49_120 rfl ?_
        rw [if_neg (by rw [h]; decide)] at hst
        exact ih (i + 1) less _ _ _ (by omega) (by omega) (by omega) hst
      · refine k_iconst i_49_115 ?_
        refine k_istore_n i_49_116 (Nat.le_of_ble_eq_true rfl) ?_
        dsimp only [q_st1, q_st2, q_unl]
        refine k_iinc i_49_117 rfl (Nat.le_of_ble_eq_true rfl) ?_
        dsimp only [q_st1, q_st2, q_unl]
        refine k_goto (t := 69) i_49_120 rfl ?_
        rw [if_pos h] at hst
        exact ih (i + 1) 1 _ _ _ (by omega) (by omega) (by omega) hst
    refine k_iload i_49_69 rfl ?_
    refine k_aload_n i_49_71 rfl ?_
    refine k_gfR i_49_72 f_10_12 (by first | rfl | assumption | (rw [hR]; rfl) | (dsimp only; rw [hR]; rfl)) (by decide) (by decide) (Or.inl ⟨_, rfl⟩) (by first | rfl | assumption | (rw [hR]; rfl) | (dsimp only; rw [hR]; rfl)) ?_
    refine k_vp0 i_49_75 c_10_71 qp_28 qo_28 (by first | rfl | assumption | (rw [hR]; rfl) | (dsimp only; rw [hR]; rfl)) (Nat.le_of_ble_eq_true rfl) (e_squares hT) ?_
    refine k_ic_ge (t := 123) i_49_78 rfl (by omega) (by omega) (fun g => ?_) (fun g => ?_)
    · omega
    · refine k_iload_n i_49_81 rfl ?_
      refine k_iconst i_49_82 ?_
      refine k_irem i_49_83 (by omega) (by omega) (by omega) (by omega) ?_
      refine k_if_ne (t := 92) i_49_84 rfl (by omega) (fun g2 => ?_) (fun g2 => ?_)
      · refine k_aload_n i_49_92 rfl ?_
        refine k_gfR i_49_93 f_10_12 (by first | rfl | assumption | (rw [hR]; rfl) | (dsimp only; rw [hR]; rfl)) (by decide) (by decide) (Or.inl ⟨_, rfl⟩) (by first | rfl | assumption | (rw [hR]; rfl) | (dsimp only; rw [hR]; rfl)) ?_
        refine k_vp0 i_49_96 c_10_71 qp_28 qo_28 (by first | rfl | assumption | (rw [hR]; rfl) | (dsimp only; rw [hR]; rfl)) (Nat.le_of_ble_eq_true rfl) (e_squares hT) ?_
        refine k_iconst i_49_99 ?_
        refine k_isub i_49_100 ?_
        refine k_iload i_49_101 rfl ?_
        refine k_isub i_49_103 ?_
        exact fin _ (by unfold ordS; rw [if_neg g2])
      · refine k_iload i_49_87 rfl ?_
        refine k_goto (t := 104) i_49_89 rfl ?_
        exact fin _ (by unfold ordS; rw [if_pos (by omega)])
theorem l_aim_s (hW : WX I X h0 s0 w T nt) (hb : I 32 2 = b) (hbr : inJ b) (hx : xfx T nt b V E)
    (hq : ∀ (o n : Nat → Int), aI T b E o n → Rk E o 80 → Q none (RI I o n, X)) :
    ∀ (m : Nat) (sw less : Int) (o n : Nat → Int) (x4 x5 : Option Value), 0 ≤ sw → sw ≤ 81 → (81 - sw).toNat = m → aI T b E o n → Rk E o sw → (less = 1 ∨ less = 0 ∧ Rk E o 80) → K shX (d + 4) 49 54 [some (.ref 32), some (.int (J b)), some (.int (J less)), some (.int (J sw)), x4, x5] [] (RI I o n, X) Q := by
  have hw := hW.2.2.2.2.2.2.1.1
  intro m
  induction m with
  | zero =>
    intro sw less o n x4 x5 w0 w1 hm ha hk hl
    have hl2 : less = 0 ∨ less = 1 := by rcases hl with h | h; exact Or.inr h; exact Or.inl h.1
    have hk80 : Rk E o 80 := fun c q c0 c1 q0 q1 hF hr => hk c q c0 c1 q0 q1 hF (by omega)
    clear hl hk
    refine k_iload_n i_49_54 rfl ?_
    refine k_if_eq (t := 129) i_49_55 rfl (by omega) (fun h => ?_) (fun h => ?_)
    · refine k_vret i_49_129 qt_49 ?_
      exact hq o n ha hk80
    · refine k_iload_n i_49_58 rfl ?_
      refine k_bipush i_49_59 (by decide) ?_
      refine k_ic_gt (t := 129) i_49_61 rfl (by omega) (by omega) (fun h => ?_) (fun h => ?_)
      · refine k_vret i_49_129 qt_49 ?_
        exact hq o n ha hk80
      · omega
  | succ m ih =>
    intro sw less o n x4 x5 w0 w1 hm ha hk hl
    have hl2 : less = 0 ∨ less = 1 := by rcases hl with h | h; exact Or.inr h; exact Or.inl h.1
    have hl3 : less = 0 → Rk E o 80 := by
      intro z
      rcases hl with h | h
      · omega
      · exact h.2
    clear hl
    refine k_iload_n i_49_54 rfl ?_
    refine k_if_eq (t := 129) i_49_55 rfl (by omega) (fun g => ?_) (fun g => ?_)
    · refine k_vret i_49_129 qt_49 ?_
      exact hq o n ha (hl3 g)
    · refine k_iload_n i_49_58 rfl ?_
      refine k_bipush i_49_59 (by decide) ?_
      refine k_ic_gt (t := 129) i_49_61 rfl (by omega) (by omega) (fun g2 => ?_) (fun g2 => ?_)
      · omega
      · refine k_iconst i_49_64 ?_
        refine k_istore_n i_49_65 (Nat.le_of_ble_eq_true rfl) ?_
        dsimp only [q_st1, q_st2, q_unl]
        refine k_iconst i_49_66 ?_
        refine k_istore i_49_67 (Nat.le_of_ble_eq_true rfl) ?_
        dsimp only [q_st1, q_st2, q_unl]
        have hst : aW T nt b E sw sw o n o n 0 0 := ⟨ha, fun _ _ _ _ _ _ => Int.le_refl _, fun u u0 u1 => by omega, Or.inl rfl, fun _ => ⟨rfl, rfl, fun u u0 u1 => by omega⟩⟩
        refine l_aim_i hW hb hbr hx sw sw ⟨w0, by omega⟩ o n hk (fun o1 n1 less1 y5 h1 => ?_) (tN T).toNat 0 0 o n x5 (by omega) (by have := tN_le hw; omega) (by omega) hst
        obtain ⟨e1, e2, e3, e4⟩ := aW_end hw hx w0 h1
        refine k_iinc i_49_123 rfl (Nat.le_of_ble_eq_true rfl) ?_
        dsimp only [q_st1, q_st2, q_unl]
        refine k_goto (t := 54) i_49_126 rfl ?_
        refine ih (sw + 1) less1 o1 n1 _ y5 (by omega) (by omega) (by omega) e1 e2 ?_
        rcases e3 with z | z
        · exact Or.inr ⟨z, e4 z⟩
        · exact Or.inl z
end AZ
