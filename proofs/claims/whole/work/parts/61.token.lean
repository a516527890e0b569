/-! TOKENS: what a text has, and how the class reads it -/
def rn (P : Int → Bool) (b : Nat → Int) : Nat → Nat → Nat
  | 0, p => p
  | m + 1, p => if P (b p) = true then rn P b m (p + 1) else p
theorem rn_ge {P : Int → Bool} {b : Nat → Int} : ∀ m p, p ≤ rn P b m p
  | 0, p => Nat.le_refl p
  | m + 1, p => by
    have := rn_ge (P := P) (b := b) m (p + 1)
    unfold rn
    split <;> omega
theorem rn_le {P : Int → Bool} {b : Nat → Int} : ∀ m p, rn P b m p ≤ p + m
  | 0, p => Nat.le_refl p
  | m + 1, p => by
    have := rn_le (P := P) (b := b) m (p + 1)
    unfold rn
    split <;> omega
theorem rn_stop {P : Int → Bool} {b : Nat → Int} : ∀ m p, rn P b m p < p + m → P (b (rn P b m p)) = false
  | 0, p, h => absurd h (Nat.lt_irrefl p)
  | m + 1, p, h => by
    unfold rn at h ⊢
    by_cases z : P (b p) = true
    · rw [if_pos z] at h ⊢
      exact rn_stop m (p + 1) (by omega)
    · rw [if_neg z]
      simpa using z
theorem rn_mem {P : Int → Bool} {b : Nat → Int} : ∀ m p i, p ≤ i → i < rn P b m p → P (b i) = true
  | 0, p, i, h1, h2 => by unfold rn at h2; omega
  | m + 1, p, i, h1, h2 => by
    unfold rn at h2
    by_cases z : P (b p) = true
    · rw [if_pos z] at h2
      by_cases y : i = p
      · rw [y]; exact z
      · exact rn_mem m (p + 1) i (by omega) h2
    · rw [if_neg z] at h2
      omega
def isBl (x : Int) : Bool := decide (x = 32)
def isLt (x : Int) : Bool := decide (97 ≤ x ∧ x ≤ 122)
def isFg (x : Int) : Bool := decide (48 ≤ x ∧ x ≤ 57)
theorem isLt_sb {x : Int} (h : 0 ≤ x ∧ x < 256) : isLt (sb x) = isLt x := by
  unfold isLt sb
  congr 1
  apply propext
  split <;> omega
theorem isFg_sb {x : Int} (h : 0 ≤ x ∧ x < 256) : isFg (sb x) = isFg x := by
  unfold isFg sb
  congr 1
  apply propext
  split <;> omega
def skp (b : Nat → Int) (L p : Nat) : Nat := rn isBl b (L - p) p
def wdE (b : Nat → Int) (L q : Nat) : Nat := rn isLt b (L - q) q
def fgE (b : Nat → Int) (L q : Nat) : Nat := rn isFg b (L - q) q
/-- a number's value, held at 1000 -/
def nv (b : Nat → Int) : Nat → Nat → Int → Int
  | 0, _, v => v
  | m + 1, p, v => nv b m (p + 1) (min (10 * v + b p - 48) 1000)
theorem nv_r {b : Nat → Int} : ∀ m p v, (∀ i, p ≤ i → i < p + m → isFg (b i) = true) → 0 ≤ v ∧ v ≤ 1000 → 0 ≤ nv b m p v ∧ nv b m p v ≤ 1000
  | 0, p, v, _, h => h
  | m + 1, p, v, hf, h => by
    have h1 := hf p (Nat.le_refl p) (by omega)
    unfold isFg at h1
    rw [decide_eq_true_iff] at h1
    unfold nv
    exact nv_r m (p + 1) _ (fun i h2 h3 => hf i (by omega) (by omega)) (by omega)
def nV (b : Nat → Int) (L q : Nat) : Int := nv b (fgE b L q - q) q 0
def wkd (b : Nat → Int) (q e : Nat) : Int := if isW 0 b q e = true then 4 else if isW 1 b q e = true then 5 else if isW 2 b q e = true then 6 else if isW 3 b q e = true then 7 else if isW 4 b q e = true then 8 else if isW 5 b q e = true then 9 else 0
/-- the token at q: 0 none, 1 the end, 2 a stop, 3 a number, 4 to 9 a word -/
def kQ (b : Nat → Int) (L q : Nat) : Int := if L ≤ q then 1 else if b q = 59 then 2 else if isLt (b q) = true then wkd b q (wdE b L q) else if isFg (b q) = true then (if (b q = 48 ∧ 1 < fgE b L q - q) ∨ 99 < nV b L q then 0 else 3) else 0
def eQ (b : Nat → Int) (L q : Nat) : Nat := if L ≤ q then q else if b q = 59 then q + 1 else if isLt (b q) = true then wdE b L q else if isFg (b q) = true then fgE b L q else q
theorem skp_r (b : Nat → Int) {L p : Nat} (h : p ≤ L) : p ≤ skp b L p ∧ skp b L p ≤ L := by
  have h1 := rn_ge (P := isBl) (b := b) (L - p) p
  have h2 := rn_le (P := isBl) (b := b) (L - p) p
  unfold skp
  omega
theorem wdE_r (b : Nat → Int) {L q : Nat} (h : q ≤ L) : q ≤ wdE b L q ∧ wdE b L q ≤ L := by
  have h1 := rn_ge (P := isLt) (b := b) (L - q) q
  have h2 := rn_le (P := isLt) (b := b) (L - q) q
  unfold wdE
  omega
theorem fgE_r (b : Nat → Int) {L q : Nat} (h : q ≤ L) : q ≤ fgE b L q ∧ fgE b L q ≤ L := by
  have h1 := rn_ge (P := isFg) (b := b) (L - q) q
  have h2 := rn_le (P := isFg) (b := b) (L - q) q
  unfold fgE
  omega
theorem eQ_r (b : Nat → Int) {L q : Nat} (h : q ≤ L) : q ≤ eQ b L q ∧ eQ b L q ≤ L := by
  have h1 := wdE_r b h
  have h2 := fgE_r b h
  unfold eQ
  split
  · omega
  · split
    · omega
    · split
      · omega
      · split <;> omega
theorem nV_r (b : Nat → Int) (L q : Nat) : 0 ≤ nV b L q ∧ nV b L q ≤ 1000 := by
  unfold nV
  refine nv_r _ _ _ (fun i h1 h2 => ?_) (by omega)
  have h3 := rn_ge (P := isFg) (b := b) (L - q) q
  exact rn_mem (L - q) q i h1 (by unfold fgE at h2; omega)
def nvc (b : Nat → Int) : Nat → Nat → Int → Int
  | 0, _, v => v
  | m + 1, p, v => nvc b m (p + 1) (min (v * 10 + b p - 48) 100)
theorem nvc_nv {b : Nat → Int} : ∀ m p v, (∀ i, p ≤ i → i < p + m → isFg (b i) = true) → 0 ≤ v → nvc b m p (min v 100) = min (nv b m p v) 100
  | 0, p, v, _, h => rfl
  | m + 1, p, v, hf, h => by
    have h1 := hf p (Nat.le_refl p) (by omega)
    unfold isFg at h1
    rw [decide_eq_true_iff] at h1
    unfold nvc nv
    rw [← nvc_nv m (p + 1) _ (fun i h2 h3 => hf i (by omega) (by omega)) (by omega)]
    congr 1
    omega
theorem q_up_up {α : Type} {f : Nat → Nat → α} {c k : Nat} {v v' : α} : q_up (q_up f c k v) c k v' = q_up f c k v' := by
  funext c' k'
  unfold q_up
  split <;> rfl
theorem q_up_id {α : Type} {f : Nat → Nat → α} {c k : Nat} {v : α} (h : f c k = v) : q_up f c k v = f := by
  funext c' k'
  unfold q_up
  split
  · rename_i y
    rw [y.1, y.2, h]
  · rfl
theorem q_up_cm {α : Type} {f : Nat → Nat → α} {c k k2 : Nat} {v v2 : α} (h : k ≠ k2) : q_up (q_up f c k v) c k2 v2 = q_up (q_up f c k2 v2) c k v := by
  funext c' k'
  unfold q_up
  by_cases y : c' = c ∧ k' = k2
  · rw [if_pos y, if_neg (by omega), if_pos y]
  · rw [if_neg y, if_neg y]
/-- the class holds a text -/
def TC (I : Nat → Nat → Int) (b : Nat → Int) (L : Nat) : Prop := I 1 0 = (L : Int) ∧ L ≤ 200 ∧ (∀ i, i < L → 0 ≤ b i ∧ b i < 256) ∧ ∀ i, i < L → I 2 i = sb (b i)
/-- only where it reads has changed -/
def TE (I I' : Nat → Nat → Int) : Prop := (∀ c, c ≠ 1 → I' c = I c) ∧ ∀ k, (k < 2 ∨ 5 < k) → I' 1 k = I 1 k
theorem TE.rf {I : Nat → Nat → Int} : TE I I := ⟨fun _ _ => rfl, fun _ _ => rfl⟩
theorem TE.tr {I I1 I2 : Nat → Nat → Int} (h : TE I I1) (h2 : TE I1 I2) : TE I I2 := ⟨fun c hc => (h2.1 c hc).trans (h.1 c hc), fun k hk => (h2.2 k hk).trans (h.2 k hk)⟩
theorem TE.up {I : Nat → Nat → Int} {k : Nat} {v : Int} (hk : 2 ≤ k ∧ k ≤ 5) : TE I (q_up I 1 k v) := ⟨fun c hc => q_up_o hc, fun k2 h2 => q_up_n (by omega)⟩
theorem TC.of {I I' : Nat → Nat → Int} {b : Nat → Int} {L : Nat} (h : TC I b L) (he : TE I I') : TC I' b L := by
  obtain ⟨h1, h2, h3, h4⟩ := h
  exact ⟨(he.2 0 (by omega)).trans h1, h2, h3, by rw [he.1 2 (by omega)]; exact h4⟩
section TK
variable {d : Nat} {I : Nat → Nat → Int} {X : XX} {h0 s0 w0 : Nat} {b : Nat → Int} {L q : Nat} {Q : Option Value → QS → Prop}
-- method 11: StraightTax$Text.isLetter.(B)Z
theorem e_isLt {sh : QH} {S : QS} (x : Int) (hx : inJ x) : KP sh d 11 [.int (J x)] S (.int (J (bi (isLt x)))) := by
  refine k_start ql_11 (Nat.le_of_ble_eq_true rfl) ?_
  simp only [q_en, List.replicate]
  refine k_iload_n i_11_0 rfl ?_
  refine k_bipush i_11_1 (by decide) ?_
  refine k_ic_lt (t := 16) i_11_3 rfl (by omega) (by omega) (fun h3 => ?_) (fun h3 => ?_)
  · refine k_iconst i_11_16 ?_
    refine k_nret i_11_17 qt_11 (by first | exact bi_nar _ | rfl) ?_
    exact ⟨by simp only [isLt]; congr 3; simp [bi]; omega, rfl⟩
  · refine k_iload_n i_11_6 rfl ?_
    refine k_bipush i_11_7 (by decide) ?_
    refine k_ic_gt (t := 16) i_11_9 rfl (by omega) (by omega) (fun h9 => ?_) (fun h9 => ?_)
    · refine k_iconst i_11_16 ?_
      refine k_nret i_11_17 qt_11 (by first | exact bi_nar _ | rfl) ?_
      exact ⟨by simp only [isLt]; congr 3; simp [bi]; omega, rfl⟩
    · refine k_iconst i_11_12 ?_
      refine k_goto (t := 17) i_11_13 rfl ?_
      refine k_nret i_11_17 qt_11 (by first | exact bi_nar _ | rfl) ?_
      exact ⟨by simp only [isLt]; congr 3; simp [bi]; omega, rfl⟩
-- method 14: StraightTax$Text.isFigure.(B)Z
theorem e_isFg {sh : QH} {S : QS} (x : Int) (hx : inJ x) : KP sh d 14 [.int (J x)] S (.int (J (bi (isFg x)))) := by
  refine k_start ql_14 (Nat.le_of_ble_eq_true rfl) ?_
  simp only [q_en, List.replicate]
  refine k_iload_n i_14_0 rfl ?_
  refine k_bipush i_14_1 (by decide) ?_
  refine k_ic_lt (t := 16) i_14_3 rfl (by omega) (by omega) (fun h3 => ?_) (fun h3 => ?_)
  · refine k_iconst i_14_16 ?_
    refine k_nret i_14_17 qt_14 (by first | exact bi_nar _ | rfl) ?_
    exact ⟨by simp only [isFg]; congr 3; simp [bi]; omega, rfl⟩
  · refine k_iload_n i_14_6 rfl ?_
    refine k_bipush i_14_7 (by decide) ?_
    refine k_ic_gt (t := 16) i_14_9 rfl (by omega) (by omega) (fun h9 => ?_) (fun h9 => ?_)
    · refine k_iconst i_14_16 ?_
      refine k_nret i_14_17 qt_14 (by first | exact bi_nar _ | rfl) ?_
      exact ⟨by simp only [isFg]; congr 3; simp [bi]; omega, rfl⟩
    · refine k_iconst i_14_12 ?_
      refine k_goto (t := 17) i_14_13 rfl ?_
      refine k_nret i_14_17 qt_14 (by first | exact bi_nar _ | rfl) ?_
      exact ⟨by simp only [isFg]; congr 3; simp [bi]; omega, rfl⟩
-- method 10: StraightTax$Text.advance.()V
theorem l_adv (hR : X.2 = rX h0 s0 w0) (hC : TC I b L) : ∀ m p : Nat, p + m = L → K shX d 10 38 [some (.ref 1)] [] (q_up I 1 2 ((rn isBl b m p : Nat) : Int), X) Q → K shX d 10 0 [some (.ref 1)] [] (q_up I 1 2 (p : Int), X) Q := by
  obtain ⟨c1, c2, c3, c4⟩ := hC
  intro m
  induction m with
  | zero =>
    intro p hp hk
    refine k_aload_n i_10_0 rfl ?_
    refine k_gfV (a := (p : Int)) i_10_1 f_6_24 (by first | rfl | assumption | (rw [hR]; rfl) | (dsimp only; rw [hR]; rfl)) (by decide) (by decide) (Or.inl rfl) (by dsimp only; exact q_up_s) ?_
    refine k_aload_n i_10_4 rfl ?_
    refine k_gfV (a := (L : Int)) i_10_5 f_6_9 (by first | rfl | assumption | (rw [hR]; rfl) | (dsimp only; rw [hR]; rfl)) (by decide) (by decide) (Or.inl rfl) (by dsimp only; exact (q_up_n (by omega)).trans c1) ?_
    refine k_ic_ge (t := 38) i_10_8 rfl (by omega) (by omega) (fun g => ?_) (fun g => ?_)
    · exact hk
    · omega
  | succ m ih =>
    intro p hp hk
    have hb := c3 p (by omega)
    have hs := sb_r hb
    refine k_aload_n i_10_0 rfl ?_
    refine k_gfV (a := (p : Int)) i_10_1 f_6_24 (by first | rfl | assumption | (rw [hR]; rfl) | (dsimp only; rw [hR]; rfl)) (by decide) (by decide) (Or.inl rfl) (by dsimp only; exact q_up_s) ?_
    refine k_aload_n i_10_4 rfl ?_
    refine k_gfV (a := (L : Int)) i_10_5 f_6_9 (by first | rfl | assumption | (rw [hR]; rfl) | (dsimp only; rw [hR]; rfl)) (by decide) (by decide) (Or.inl rfl) (by dsimp only; exact (q_up_n (by omega)).trans c1) ?_
    refine k_ic_ge (t := 38) i_10_8 rfl (by omega) (by omega) (fun g => ?_) (fun g => ?_)
    · omega
    · refine k_aload_n i_10_11 rfl ?_
      refine k_gfR i_10_12 f_6_15 (by first | rfl | assumption | (rw [hR]; rfl) | (dsimp only; rw [hR]; rfl)) (by decide) (by decide) (Or.inr ⟨_, rfl⟩) (by first | rfl | assumption | (rw [hR]; rfl) | (dsimp only; rw [hR]; rfl)) ?_
      refine k_aload_n i_10_15 rfl ?_
      refine k_gfV (a := (p : Int)) i_10_16 f_6_24 (by first | rfl | assumption | (rw [hR]; rfl) | (dsimp only; rw [hR]; rfl)) (by decide) (by decide) (Or.inl rfl) (by dsimp only; exact q_up_s) ?_
      refine k_bald i_10_19 rfl (by decide) (by omega) (by omega) ?_
      rw [show ((p : Int)).toNat = p by omega]
      dsimp only
      rw [q_up_o (by omega), c4 p (by omega)]
      refine k_bipush i_10_20 (by decide) ?_
      unfold rn isBl at hk
      refine k_ic_ne (t := 38) i_10_22 rfl (by omega) (by omega) (fun g2 => ?_) (fun g2 => ?_)
      · rw [if_neg (fun y => g2 ((sb_lo hb (by omega)).mpr (by simpa using y)))] at hk
        exact hk
      · rw [if_pos (by simpa using (sb_lo hb (by omega)).mp (by omega))] at hk
        refine k_aload_n i_10_25 rfl ?_
        first | refine k_dupA i_10_26 ?_ | refine k_dupI i_10_26 ?_
        refine k_gfV (a := (p : Int)) i_10_27 f_6_24 (by first | rfl | assumption | (rw [hR]; rfl) | (dsimp only; rw [hR]; rfl)) (by decide) (by decide) (Or.inl rfl) (by dsimp only; exact q_up_s) ?_
        refine k_iconst i_10_30 ?_
        refine k_iadd i_10_31 ?_
        refine k_pfI i_10_32 f_6_24 (by first | rfl | assumption | (rw [hR]; rfl) | (dsimp only; rw [hR]; rfl)) (by decide) rfl ?_
        dsimp only
        rw [q_up_up]
        refine k_goto (t := 0) i_10_35 rfl ?_
        exact ih (p + 1) (by omega) hk
-- method 12: StraightTax$Text.readWord.()V
theorem l_rdw (hR : X.2 = rX h0 s0 w0) (hC : TC I b L) : ∀ m p : Nat, p + m = L → K shX (d + 1) 12 39 [some (.ref 1)] [] (q_up I 1 2 ((rn isLt b m p : Nat) : Int), X) Q → K shX (d + 1) 12 0 [some (.ref 1)] [] (q_up I 1 2 (p : Int), X) Q := by
  obtain ⟨c1, c2, c3, c4⟩ := hC
  intro m
  induction m with
  | zero =>
    intro p hp hk
    refine k_aload_n i_12_0 rfl ?_
    refine k_gfV (a := (p : Int)) i_12_1 f_6_24 (by first | rfl | assumption | (rw [hR]; rfl) | (dsimp only; rw [hR]; rfl)) (by decide) (by decide) (Or.inl rfl) (by dsimp only; exact q_up_s) ?_
    refine k_aload_n i_12_4 rfl ?_
    refine k_gfV (a := (L : Int)) i_12_5 f_6_9 (by first | rfl | assumption | (rw [hR]; rfl) | (dsimp only; rw [hR]; rfl)) (by decide) (by decide) (Or.inl rfl) (by dsimp only; exact (q_up_n (by omega)).trans c1) ?_
    refine k_ic_ge (t := 39) i_12_8 rfl (by omega) (by omega) (fun g => ?_) (fun g => ?_)
    · exact hk
    · omega
  | succ m ih =>
    intro p hp hk
    have hb := c3 p (by omega)
    have hs := sb_r hb
    refine k_aload_n i_12_0 rfl ?_
    refine k_gfV (a := (p : Int)) i_12_1 f_6_24 (by first | rfl | assumption | (rw [hR]; rfl) | (dsimp only; rw [hR]; rfl)) (by decide) (by decide) (Or.inl rfl) (by dsimp only; exact q_up_s) ?_
    refine k_aload_n i_12_4 rfl ?_
    refine k_gfV (a := (L : Int)) i_12_5 f_6_9 (by first | rfl | assumption | (rw [hR]; rfl) | (dsimp only; rw [hR]; rfl)) (by decide) (by decide) (Or.inl rfl) (by dsimp only; exact (q_up_n (by omega)).trans c1) ?_
    refine k_ic_ge (t := 39) i_12_8 rfl (by omega) (by omega) (fun g => ?_) (fun g => ?_)
    · omega
    · refine k_aload_n i_12_11 rfl ?_
      refine k_gfR i_12_12 f_6_15 (by first | rfl | assumption | (rw [hR]; rfl) | (dsimp only; rw [hR]; rfl)) (by decide) (by decide) (Or.inr ⟨_, rfl⟩) (by first | rfl | assumption | (rw [hR]; rfl) | (dsimp only; rw [hR]; rfl)) ?_
      refine k_aload_n i_12_15 rfl ?_
      refine k_gfV (a := (p : Int)) i_12_16 f_6_24 (by first | rfl | assumption | (rw [hR]; rfl) | (dsimp only; rw [hR]; rfl)) (by decide) (by decide) (Or.inl rfl) (by dsimp only; exact q_up_s) ?_
      refine k_bald i_12_19 rfl (by decide) (by omega) (by omega) ?_
      rw [show ((p : Int)).toNat = p by omega]
      dsimp only
      rw [q_up_o (by omega), c4 p (by omega)]
      refine k_sp1 i_12_20 c_6_107 (by decide) qp_11 (Nat.le_of_ble_eq_true rfl) (e_isLt _ (by omega)) ?_
      rw [isLt_sb hb]
      unfold rn at hk
      refine k_if_eqB (t := 39) i_12_23 rfl (fun h => ?_) (fun h => ?_)
      · rw [if_neg (by rw [h]; decide)] at hk
        exact hk
      · rw [if_pos h] at hk
        refine k_aload_n i_12_26 rfl ?_
        first | refine k_dupA i_12_27 ?_ | refine k_dupI i_12_27 ?_
        refine k_gfV (a := (p : Int)) i_12_28 f_6_24 (by first | rfl | assumption | (rw [hR]; rfl) | (dsimp only; rw [hR]; rfl)) (by decide) (by decide) (Or.inl rfl) (by dsimp only; exact q_up_s) ?_
        refine k_iconst i_12_31 ?_
        refine k_iadd i_12_32 ?_
        refine k_pfI i_12_33 f_6_24 (by first | rfl | assumption | (rw [hR]; rfl) | (dsimp only; rw [hR]; rfl)) (by decide) rfl ?_
        dsimp only
        rw [q_up_up]
        refine k_goto (t := 0) i_12_36 rfl ?_
        exact ih (p + 1) (by omega) hk
theorem e_readWord (hR : X.2 = rX h0 s0 w0) (hC : TC I b L) (hq : I 1 2 = (q : Int)) (hp : I 1 3 = (q : Int)) (hqL : q ≤ L) : KC shX (d + 5) 12 [.ref 1] (I, X) (fun r S2 => r = none ∧ S2 = (q_up (q_up I 1 2 ((wdE b L q : Nat) : Int)) 1 4 (wkd b q (wdE b L q)), X)) := by
  have hr := wdE_r b hqL
  obtain ⟨c1, c2, c3, c4⟩ := id hC
  refine k_start ql_12 (Nat.le_of_ble_eq_true rfl) ?_
  simp only [q_en, List.replicate]
  have h1 := l_rdw (d := d + 4) (X := X) (Q := fun r S2 => r = none ∧ S2 = (q_up (q_up I 1 2 ((wdE b L q : Nat) : Int)) 1 4 (wkd b q (wdE b L q)), X)) hR hC (L - q) q (by omega)
  rw [q_up_id hq] at h1
  refine h1 ?_
  show K shX (d + 4 + 1) 12 39 [some (.ref 1)] [] (q_up I 1 2 ((wdE b L q : Nat) : Int), X) _
  have wd : ∀ z, z < 6 → KP shX (d + 4) 13 [.ref 1, .ref (1010 + z)] (q_up I 1 2 ((wdE b L q : Nat) : Int), X) (.int (J (bi (isW z b q (wdE b L q))))) := fun z hz => e_isWord hR hz ((q_up_n (by omega)).trans hp) q_up_s hr.1 hr.2 c2 c3 (by rw [q_up_o (by omega)]; exact c4)
  unfold wkd
  refine k_aload_n i_12_39 rfl ?_
  refine k_ldcs i_12_40 sn_6_120 z_6_120 ?_
  refine k_vp1 i_12_42 c_6_122 qp_13 qo_13 (by first | rfl | assumption | (rw [hR]; rfl) | (dsimp only; rw [hR]; rfl)) (Nat.le_of_ble_eq_true rfl) (wd 0 (by decide)) ?_
  refine k_if_eqB (t := 56) i_12_45 rfl (fun h => ?_) (fun h => ?_)
  · rw [if_neg (by rw [h]; decide)]
    refine k_aload_n i_12_56 rfl ?_
    refine k_ldcs i_12_57 sn_6_126 z_6_126 ?_
    refine k_vp1 i_12_59 c_6_122 qp_13 qo_13 (by first | rfl | assumption | (rw [hR]; rfl) | (dsimp only; rw [hR]; rfl)) (Nat.le_of_ble_eq_true rfl) (wd 1 (by decide)) ?_
    refine k_if_eqB (t := 73) i_12_62 rfl (fun h => ?_) (fun h => ?_)
    · rw [if_neg (by rw [h]; decide)]
      refine k_aload_n i_12_73 rfl ?_
      refine k_ldcs i_12_74 sn_6_128 z_6_128 ?_
      refine k_vp1 i_12_76 c_6_122 qp_13 qo_13 (by first | rfl | assumption | (rw [hR]; rfl) | (dsimp only; rw [hR]; rfl)) (Nat.le_of_ble_eq_true rfl) (wd 2 (by decide)) ?_
      refine k_if_eqB (t := 91) i_12_79 rfl (fun h => ?_) (fun h => ?_)
      · rw [if_neg (by rw [h]; decide)]
        refine k_aload_n i_12_91 rfl ?_
        refine k_ldcs i_12_92 sn_6_130 z_6_130 ?_
        refine k_vp1 i_12_94 c_6_122 qp_13 qo_13 (by first | rfl | assumption | (rw [hR]; rfl) | (dsimp only; rw [hR]; rfl)) (Nat.le_of_ble_eq_true rfl) (wd 3 (by decide)) ?_
        refine k_if_eqB (t := 109) i_12_97 rfl (fun h => ?_) (fun h => ?_)
        · rw [if_neg (by rw [h]; decide)]
          refine k_aload_n i_12_109 rfl ?_
          refine k_ldcs i_12_110 sn_6_132 z_6_132 ?_
          refine k_vp1 i_12_112 c_6_122 qp_13 qo_13 (by first | rfl | assumption | (rw [hR]; rfl) | (dsimp only; rw [hR]; rfl)) (Nat.le_of_ble_eq_true rfl) (wd 4 (by decide)) ?_
          refine k_if_eqB (t := 127) i_12_115 rfl (fun h => ?_) (fun h => ?_)
          · rw [if_neg (by rw [h]; decide)]
            refine k_aload_n i_12_127 rfl ?_
            refine k_ldcs i_12_128 sn_6_134 z_6_134 ?_
            refine k_vp1 i_12_130 c_6_122 qp_13 qo_13 (by first | rfl | assumption | (rw [hR]; rfl) | (dsimp only; rw [hR]; rfl)) (Nat.le_of_ble_eq_true rfl) (wd 5 (by decide)) ?_
            refine k_if_eqB (t := 145) i_12_133 rfl (fun h => ?_) (fun h => ?_)
            · rw [if_neg (by rw [h]; decide)]
              refine k_aload_n i_12_145 rfl ?_
              refine k_iconst i_12_146 ?_
              refine k_pfI i_12_147 f_6_40 (by first | rfl | assumption | (rw [hR]; rfl) | (dsimp only; rw [hR]; rfl)) (by decide) rfl ?_
              refine k_vret i_12_150 qt_12 ?_
              exact ⟨rfl, rfl⟩
            · rw [if_pos h]
              refine k_aload_n i_12_136 rfl ?_
              refine k_bipush i_12_137 (by decide) ?_
              refine k_pfI i_12_139 f_6_40 (by first | rfl | assumption | (rw [hR]; rfl) | (dsimp only; rw [hR]; rfl)) (by decide) rfl ?_
              refine k_goto (t := 150) i_12_142 rfl ?_
              refine k_vret i_12_150 qt_12 ?_
              exact ⟨rfl, rfl⟩
          · rw [if_pos h]
            refine k_aload_n i_12_118 rfl ?_
            refine k_bipush i_12_119 (by decide) ?_
            refine k_pfI i_12_121 f_6_40 (by first | rfl | assumption | (rw [hR]; rfl) | (dsimp only; rw [hR]; rfl)) (by decide) rfl ?_
            refine k_goto (t := 150) i_12_124 rfl ?_
            refine k_vret i_12_150 qt_12 ?_
            exact ⟨rfl, rfl⟩
        · rw [if_pos h]
          refine k_aload_n i_12_100 rfl ?_
          refine k_bipush i_12_101 (by decide) ?_
          refine k_pfI i_12_103 f_6_40 (by first | rfl | assumption | (rw [hR]; rfl) | (dsimp only; rw [hR]; rfl)) (by decide) rfl ?_
          refine k_goto (t := 150) i_12_106 rfl ?_
          refine k_vret i_12_150 qt_12 ?_
          exact ⟨rfl, rfl⟩
      · rw [if_pos h]
        refine k_aload_n i_12_82 rfl ?_
        refine k_bipush i_12_83 (by decide) ?_
        refine k_pfI i_12_85 f_6_40 (by first | rfl | assumption | (rw [hR]; rfl) | (dsimp only; rw [hR]; rfl)) (by decide) rfl ?_
        refine k_goto (t := 150) i_12_88 rfl ?_
        refine k_vret i_12_150 qt_12 ?_
        exact ⟨rfl, rfl⟩
    · rw [if_pos h]
      refine k_aload_n i_12_65 rfl ?_
      refine k_iconst i_12_66 ?_
      refine k_pfI i_12_67 f_6_40 (by first | rfl | assumption | (rw [hR]; rfl) | (dsimp only; rw [hR]; rfl)) (by decide) rfl ?_
      refine k_goto (t := 150) i_12_70 rfl ?_
      refine k_vret i_12_150 qt_12 ?_
      exact ⟨rfl, rfl⟩
  · rw [if_pos h]
    refine k_aload_n i_12_48 rfl ?_
    refine k_iconst i_12_49 ?_
    refine k_pfI i_12_50 f_6_40 (by first | rfl | assumption | (rw [hR]; rfl) | (dsimp only; rw [hR]; rfl)) (by decide) rfl ?_
    refine k_goto (t := 150) i_12_53 rfl ?_
    refine k_vret i_12_150 qt_12 ?_
    exact ⟨rfl, rfl⟩
-- method 15: StraightTax$Text.readNumber.()V
theorem l_rdn (hR : X.2 = rX h0 s0 w0) (hC : TC I b L) {v1 : Option Value} : ∀ (m p : Nat) (v : Int), p + m = L → 0 ≤ v ∧ v ≤ 100 → K shX (d + 1) 15 73 [some (.ref 1), v1] [] (q_up (q_up I 1 5 (nvc b (rn isFg b m p - p) p v)) 1 2 ((rn isFg b m p : Nat) : Int), X) Q → K shX (d + 1) 15 5 [some (.ref 1), v1] [] (q_up (q_up I 1 5 v) 1 2 (p : Int), X) Q := by
  obtain ⟨c1, c2, c3, c4⟩ := hC
  intro m
  induction m with
  | zero =>
    intro p v hp hv hk
    unfold rn at hk
    rw [Nat.sub_self] at hk
    refine k_aload_n i_15_5 rfl ?_
    refine k_gfV (a := (p : Int)) i_15_6 f_6_24 (by first | rfl | assumption | (rw [hR]; rfl) | (dsimp only; rw [hR]; rfl)) (by decide) (by decide) (Or.inl rfl) (by dsimp only; exact q_up_s) ?_
    refine k_aload_n i_15_9 rfl ?_
    refine k_gfV (a := (L : Int)) i_15_10 f_6_9 (by first | rfl | assumption | (rw [hR]; rfl) | (dsimp only; rw [hR]; rfl)) (by decide) (by decide) (Or.inl rfl) (by dsimp only; exact (q_up_n (by omega)).trans ((q_up_n (by omega)).trans c1)) ?_
    refine k_ic_ge (t := 73) i_15_13 rfl (by omega) (by omega) (fun g => ?_) (fun g => ?_)
    · exact hk
    · omega
  | succ m ih =>
    intro p v hp hv hk
    have hb := c3 p (by omega)
    have hs := sb_r hb
    have hby : q_up (q_up I 1 5 v) 1 2 (p : Int) 2 p = sb (b p) := by rw [q_up_o (by omega), q_up_o (by omega)]; exact c4 p (by omega)
    refine k_aload_n i_15_5 rfl ?_
    refine k_gfV (a := (p : Int)) i_15_6 f_6_24 (by first | rfl | assumption | (rw [hR]; rfl) | (dsimp only; rw [hR]; rfl)) (by decide) (by decide) (Or.inl rfl) (by dsimp only; exact q_up_s) ?_
    refine k_aload_n i_15_9 rfl ?_
    refine k_gfV (a := (L : Int)) i_15_10 f_6_9 (by first | rfl | assumption | (rw [hR]; rfl) | (dsimp only; rw [hR]; rfl)) (by decide) (by decide) (Or.inl rfl) (by dsimp only; exact (q_up_n (by omega)).trans ((q_up_n (by omega)).trans c1)) ?_
    refine k_ic_ge (t := 73) i_15_13 rfl (by omega) (by omega) (fun g => ?_) (fun g => ?_)
    · omega
    · refine k_aload_n i_15_16 rfl ?_
      refine k_gfR i_15_17 f_6_15 (by first | rfl | assumption | (rw [hR]; rfl) | (dsimp only; rw [hR]; rfl)) (by decide) (by decide) (Or.inr ⟨_, rfl⟩) (by first | rfl | assumption | (rw [hR]; rfl) | (dsimp only; rw [hR]; rfl)) ?_
      refine k_aload_n i_15_20 rfl ?_
      refine k_gfV (a := (p : Int)) i_15_21 f_6_24 (by first | rfl | assumption | (rw [hR]; rfl) | (dsimp only; rw [hR]; rfl)) (by decide) (by decide) (Or.inl rfl) (by dsimp only; exact q_up_s) ?_
      refine k_bald i_15_24 rfl (by decide) (by omega) (by omega) ?_
      rw [show ((p : Int)).toNat = p by omega]
      dsimp only
      rw [hby]
      refine k_sp1 i_15_25 c_6_114 (by decide) qp_14 (Nat.le_of_ble_eq_true rfl) (e_isFg _ (by omega)) ?_
      rw [isFg_sb hb]
      unfold rn at hk
      refine k_if_eqB (t := 73) i_15_28 rfl (fun h => ?_) (fun h => ?_)
      · rw [if_neg (by rw [h]; decide), Nat.sub_self] at hk
        exact hk
      · rw [if_pos h] at hk
        have hf : 48 ≤ b p ∧ b p ≤ 57 := by
          unfold isFg at h
          simpa using h
        have hsb : sb (b p) = b p := by unfold sb; rw [if_pos (by omega)]
        have hge := rn_ge (P := isFg) (b := b) m (p + 1)
        refine k_aload_n i_15_31 rfl ?_
        refine k_aload_n i_15_32 rfl ?_
        refine k_gfV (a := v) i_15_33 f_6_71 (by first | rfl | assumption | (rw [hR]; rfl) | (dsimp only; rw [hR]; rfl)) (by decide) (by decide) (Or.inl rfl) (by dsimp only; exact (q_up_n (by omega)).trans q_up_s) ?_
        refine k_bipush i_15_36 (by decide) ?_
        refine k_imul i_15_38 ?_
        refine k_aload_n i_15_39 rfl ?_
        refine k_gfR i_15_40 f_6_15 (by first | rfl | assumption | (rw [hR]; rfl) | (dsimp only; rw [hR]; rfl)) (by decide) (by decide) (Or.inr ⟨_, rfl⟩) (by first | rfl | assumption | (rw [hR]; rfl) | (dsimp only; rw [hR]; rfl)) ?_
        refine k_aload_n i_15_43 rfl ?_
        refine k_gfV (a := (p : Int)) i_15_44 f_6_24 (by first | rfl | assumption | (rw [hR]; rfl) | (dsimp only; rw [hR]; rfl)) (by decide) (by decide) (Or.inl rfl) (by dsimp only; exact q_up_s) ?_
        refine k_bald i_15_47 rfl (by decide) (by omega) (by omega) ?_
        rw [show ((p : Int)).toNat = p by omega]
        dsimp only
        rw [hby, hsb]
        refine k_iadd i_15_48 ?_
        refine k_bipush i_15_49 (by decide) ?_
        refine k_isub i_15_51 ?_
        refine k_bipush i_15_52 (by decide) ?_
        refine k_sp2 i_15_54 c_6_144 (by decide) qp_155 (Nat.le_of_ble_eq_true rfl) (e_min _ _ (by omega) (by omega)) ?_
        refine k_pfI i_15_57 f_6_71 (by first | rfl | assumption | (rw [hR]; rfl) | (dsimp only; rw [hR]; rfl)) (by decide) rfl ?_
        refine k_aload_n i_15_60 rfl ?_
        first | refine k_dupA i_15_61 ?_ | refine k_dupI i_15_61 ?_
        refine k_gfV (a := (p : Int)) i_15_62 f_6_24 (by first | rfl | assumption | (rw [hR]; rfl) | (dsimp only; rw [hR]; rfl)) (by decide) (by decide) (Or.inl rfl) (by dsimp only; exact (q_up_n (by omega)).trans q_up_s) ?_
        refine k_iconst i_15_65 ?_
        refine k_iadd i_15_66 ?_
        refine k_pfI i_15_67 f_6_24 (by first | rfl | assumption | (rw [hR]; rfl) | (dsimp only; rw [hR]; rfl)) (by decide) rfl ?_
        dsimp only
        rw [q_up_cm (k := 2) (k2 := 5) (by omega), q_up_up, q_up_up]
        refine k_goto (t := 5) i_15_70 rfl ?_
        have e : rn isFg b m (p + 1) - p = rn isFg b m (p + 1) - (p + 1) + 1 := by omega
        rw [e] at hk
        exact ih (p + 1) _ (by omega) (by omega) hk
theorem e_readNumber (hR : X.2 = rX h0 s0 w0) (hC : TC I b L) (hq : I 1 2 = (q : Int)) (hp : I 1 3 = (q : Int)) (hqL : q < L) (hf : isFg (b q) = true) : KC shX (d + 1) 15 [.ref 1] (I, X) (fun r S2 => r = none ∧ S2 = (q_up (q_up (q_up I 1 5 (min (nV b L q) 100)) 1 2 ((fgE b L q : Nat) : Int)) 1 4 (if (b q = 48 ∧ 1 < fgE b L q - q) ∨ 99 < nV b L q then 0 else 3), X)) := by
  have hr := fgE_r b (L := L) (q := q) (by omega)
  have hn := nV_r b L q
  obtain ⟨c1, c2, c3, c4⟩ := id hC
  have hb := c3 q hqL
  have hf2 : 48 ≤ b q ∧ b q ≤ 57 := by
    unfold isFg at hf
    simpa using hf
  have hsb : sb (b q) = b q := by unfold sb; rw [if_pos (by omega)]
  refine k_start ql_15 (Nat.le_of_ble_eq_true rfl) ?_
  simp only [q_en, List.replicate]
  refine k_aload_n i_15_0 rfl ?_
  refine k_iconst i_15_1 ?_
  refine k_pfI i_15_2 f_6_71 (by first | rfl | assumption | (rw [hR]; rfl) | (dsimp only; rw [hR]; rfl)) (by decide) rfl ?_
  have h1 := l_rdn (d := d) (X := X) (v1 := none) (Q := fun r S2 => r = none ∧ S2 = (q_up (q_up (q_up I 1 5 (min (nV b L q) 100)) 1 2 ((fgE b L q : Nat) : Int)) 1 4 (if (b q = 48 ∧ 1 < fgE b L q - q) ∨ 99 < nV b L q then 0 else 3), X)) hR hC (L - q) q 0 (by omega) (by omega)
  rw [show q_up (q_up I 1 5 0) 1 2 (q : Int) = q_up I 1 5 0 from q_up_id ((q_up_n (by omega)).trans hq)] at h1
  refine h1 ?_
  have ev : nvc b (rn isFg b (L - q) q - q) q 0 = min (nV b L q) 100 := by
    have := nvc_nv (b := b) (fgE b L q - q) q 0 (fun i h1 h2 => rn_mem (L - q) q i h1 (by unfold fgE at h2 hr; omega)) (by omega)
    rw [show min (0 : Int) 100 = 0 by omega] at this
    exact this
  rw [ev]
  show K shX (d + 1) 15 73 [some (.ref 1), none] [] (q_up (q_up I 1 5 (min (nV b L q) 100)) 1 2 ((fgE b L q : Nat) : Int), X) _
  have hpl : q_up (q_up I 1 5 (min (nV b L q) 100)) 1 2 ((fgE b L q : Nat) : Int) 1 3 = (q : Int) := (q_up_n (by omega)).trans ((q_up_n (by omega)).trans hp)
  have hval : q_up (q_up I 1 5 (min (nV b L q) 100)) 1 2 ((fgE b L q : Nat) : Int) 1 5 = min (nV b L q) 100 := (q_up_n (by omega)).trans q_up_s
  have fin : ∀ (z x : Int), (z = 1 ∧ (b q = 48 ∧ 1 < fgE b L q - q)) ∨ (z = 0 ∧ ¬ (b q = 48 ∧ 1 < fgE b L q - q)) → K shX (d + 1) 15 105 [some (.ref 1), none] [.int (J z)] (q_up (q_up I 1 5 (min (nV b L q) 100)) 1 2 ((fgE b L q : Nat) : Int), X) (fun r S2 => r = none ∧ S2 = (q_up (q_up (q_up I 1 5 (min (nV b L q) 100)) 1 2 ((fgE b L q : Nat) : Int)) 1 4 (if (b q = 48 ∧ 1 < fgE b L q - q) ∨ 99 < nV b L q then 0 else 3), X)) := by
    intro z x hz
    refine k_istore_n i_15_105 (Nat.le_of_ble_eq_true rfl) ?_
    dsimp only [q_st1, q_st2, q_unl]
    refine k_aload_n i_15_106 rfl ?_
    refine k_iload_n i_15_107 rfl ?_
    refine k_if_ne (t := 120) i_15_108 rfl (by omega) (fun g => ?_) (fun g => ?_)
    · refine k_iconst i_15_120 ?_
      refine k_goto (t := 125) i_15_121 rfl ?_
      refine k_pfI i_15_125 f_6_40 (by first | rfl | assumption | (rw [hR]; rfl) | (dsimp only; rw [hR]; rfl)) (by decide) rfl ?_
      refine k_vret i_15_128 qt_15 ?_
      exact ⟨rfl, by rw [if_pos (Or.inl (by omega))]⟩
    · refine k_aload_n i_15_111 rfl ?_
      refine k_gfV (a := (min (nV b L q) 100)) i_15_112 f_6_71 (by first | rfl | assumption | (rw [hR]; rfl) | (dsimp only; rw [hR]; rfl)) (by decide) (by decide) (Or.inl rfl) (hval) ?_
      refine k_bipush i_15_115 (by decide) ?_
      refine k_ic_le (t := 124) i_15_117 rfl (by omega) (by omega) (fun g2 => ?_) (fun g2 => ?_)
      · refine k_iconst i_15_124 ?_
        refine k_pfI i_15_125 f_6_40 (by first | rfl | assumption | (rw [hR]; rfl) | (dsimp only; rw [hR]; rfl)) (by decide) rfl ?_
        refine k_vret i_15_128 qt_15 ?_
        exact ⟨rfl, by rw [if_neg (by omega)]⟩
      · refine k_iconst i_15_120 ?_
        refine k_goto (t := 125) i_15_121 rfl ?_
        refine k_pfI i_15_125 f_6_40 (by first | rfl | assumption | (rw [hR]; rfl) | (dsimp only; rw [hR]; rfl)) (by decide) rfl ?_
        refine k_vret i_15_128 qt_15 ?_
        exact ⟨rfl, by rw [if_pos (Or.inr (by omega))]⟩
  refine k_aload_n i_15_73 rfl ?_
  refine k_gfR i_15_74 f_6_15 (by first | rfl | assumption | (rw [hR]; rfl) | (dsimp only; rw [hR]; rfl)) (by decide) (by decide) (Or.inr ⟨_, rfl⟩) (by first | rfl | assumption | (rw [hR]; rfl) | (dsimp only; rw [hR]; rfl)) ?_
  refine k_aload_n i_15_77 rfl ?_
  refine k_gfV (a := (q : Int)) i_15_78 f_6_64 (by first | rfl | assumption | (rw [hR]; rfl) | (dsimp only; rw [hR]; rfl)) (by decide) (by decide) (Or.inl rfl) (hpl) ?_
  refine k_bald i_15_81 rfl (by decide) (by omega) (by omega) ?_
  rw [show ((q : Int)).toNat = q by omega]
  dsimp only
  rw [show q_up (q_up I 1 5 (min (nV b L q) 100)) 1 2 ((fgE b L q : Nat) : Int) 2 q = b q by rw [q_up_o (by omega), q_up_o (by omega), c4 q hqL, hsb]]
  refine k_bipush i_15_82 (by decide) ?_
  refine k_ic_ne (t := 104) i_15_84 rfl (by omega) (by omega) (fun g => ?_) (fun g => ?_)
  · refine k_iconst i_15_104 ?_
    exact fin 0 0 (Or.inr ⟨rfl, by omega⟩)
  · refine k_aload_n i_15_87 rfl ?_
    refine k_gfV (a := ((fgE b L q : Nat) : Int)) i_15_88 f_6_24 (by first | rfl | assumption | (rw [hR]; rfl) | (dsimp only; rw [hR]; rfl)) (by decide) (by decide) (Or.inl rfl) (by dsimp only; exact q_up_s) ?_
    refine k_aload_n i_15_91 rfl ?_
    refine k_gfV (a := (q : Int)) i_15_92 f_6_64 (by first | rfl | assumption | (rw [hR]; rfl) | (dsimp only; rw [hR]; rfl)) (by decide) (by decide) (Or.inl rfl) (hpl) ?_
    refine k_isub i_15_95 ?_
    refine k_iconst i_15_96 ?_
    refine k_ic_le (t := 104) i_15_97 rfl (by omega) (by omega) (fun g2 => ?_) (fun g2 => ?_)
    · refine k_iconst i_15_104 ?_
      exact fin 0 0 (Or.inr ⟨rfl, by omega⟩)
    · refine k_iconst i_15_100 ?_
      refine k_goto (t := 105) i_15_101 rfl ?_
      exact fin 1 0 (Or.inl ⟨rfl, by omega⟩)
-- method 10: StraightTax$Text.advance.()V
theorem e_advance (hR : X.2 = rX h0 s0 w0) (hC : TC I b L) {p : Nat} (hp : I 1 2 = (p : Int)) (hpL : p ≤ L) : KC shX (d + 6) 10 [.ref 1] (I, X) (fun r S2 => r = none ∧ ∃ I', S2 = (I', X) ∧ TE I I' ∧ I' 1 2 = ((eQ b L (skp b L p) : Nat) : Int) ∧ I' 1 3 = ((skp b L p : Nat) : Int) ∧ I' 1 4 = kQ b L (skp b L p) ∧ (kQ b L (skp b L p) = 3 → I' 1 5 = nV b L (skp b L p))) := by
  have hsk := skp_r b hpL
  obtain ⟨c1, c2, c3, c4⟩ := id hC
  refine k_start ql_10 (Nat.le_of_ble_eq_true rfl) ?_
  simp only [q_en, List.replicate]
  have h1 := l_adv (d := d + 6) (X := X) (Q := fun r S2 => r = none ∧ ∃ I', S2 = (I', X) ∧ TE I I' ∧ I' 1 2 = ((eQ b L (skp b L p) : Nat) : Int) ∧ I' 1 3 = ((skp b L p : Nat) : Int) ∧ I' 1 4 = kQ b L (skp b L p) ∧ (kQ b L (skp b L p) = 3 → I' 1 5 = nV b L (skp b L p))) hR hC (L - p) p (by omega)
  rw [q_up_id hp] at h1
  refine h1 ?_
  rw [show rn isBl b (L - p) p = skp b L p from rfl]
  generalize skp b L p = q at hsk ⊢
  refine k_aload_n i_10_38 rfl ?_
  refine k_aload_n i_10_39 rfl ?_
  refine k_gfV (a := (q : Int)) i_10_40 f_6_24 (by first | rfl | assumption | (rw [hR]; rfl) | (dsimp only; rw [hR]; rfl)) (by decide) (by decide) (Or.inl rfl) (by dsimp only; exact q_up_s) ?_
  refine k_pfI i_10_43 f_6_64 (by first | rfl | assumption | (rw [hR]; rfl) | (dsimp only; rw [hR]; rfl)) (by decide) rfl ?_
  refine k_aload_n i_10_46 rfl ?_
  dsimp only
  have hte : TE I (q_up (q_up I 1 2 (q : Int)) 1 3 (q : Int)) := (TE.up (by omega)).tr (TE.up (by omega))
  have hC2 := hC.of hte
  have hat : q_up (q_up I 1 2 (q : Int)) 1 3 (q : Int) 1 2 = (q : Int) := (q_up_n (by omega)).trans q_up_s
  have hpl : q_up (q_up I 1 2 (q : Int)) 1 3 (q : Int) 1 3 = (q : Int) := q_up_s
  have hby : ∀ i, i < L → q_up (q_up I 1 2 (q : Int)) 1 3 (q : Int) 2 i = sb (b i) := hC2.2.2.2
  generalize q_up (q_up I 1 2 (q : Int)) 1 3 (q : Int) = I1 at hte hC2 hat hpl hby ⊢
  refine k_gfV (a := (q : Int)) i_10_47 f_6_24 (by first | rfl | assumption | (rw [hR]; rfl) | (dsimp only; rw [hR]; rfl)) (by decide) (by decide) (Or.inl rfl) (hat) ?_
  refine k_aload_n i_10_50 rfl ?_
  refine k_gfV (a := (L : Int)) i_10_51 f_6_9 (by first | rfl | assumption | (rw [hR]; rfl) | (dsimp only; rw [hR]; rfl)) (by decide) (by decide) (Or.inl rfl) (hC2.1) ?_
  refine k_ic_lt (t := 65) i_10_54 rfl (by omega) (by omega) (fun g => ?_) (fun g => ?_)
  · have hb := c3 q (by omega)
    have hs := sb_r hb
    refine k_aload_n i_10_65 rfl ?_
    refine k_gfR i_10_66 f_6_15 (by first | rfl | assumption | (rw [hR]; rfl) | (dsimp only; rw [hR]; rfl)) (by decide) (by decide) (Or.inr ⟨_, rfl⟩) (by first | rfl | assumption | (rw [hR]; rfl) | (dsimp only; rw [hR]; rfl)) ?_
    refine k_aload_n i_10_69 rfl ?_
    refine k_gfV (a := (q : Int)) i_10_70 f_6_24 (by first | rfl | assumption | (rw [hR]; rfl) | (dsimp only; rw [hR]; rfl)) (by decide) (by decide) (Or.inl rfl) (hat) ?_
    refine k_bald i_10_73 rfl (by decide) (by omega) (by omega) ?_
    rw [show ((q : Int)).toNat = q by omega]
    dsimp only
    rw [hby q (by omega)]
    refine k_bipush i_10_74 (by decide) ?_
    refine k_ic_ne (t := 97) i_10_76 rfl (by omega) (by omega) (fun g2 => ?_) (fun g2 => ?_)
    · have g3 : ¬ b q = 59 := fun y => g2 ((sb_lo hb (by omega)).mpr y)
      refine k_aload_n i_10_97 rfl ?_
      refine k_gfR i_10_98 f_6_15 (by first | rfl | assumption | (rw [hR]; rfl) | (dsimp only; rw [hR]; rfl)) (by decide) (by decide) (Or.inr ⟨_, rfl⟩) (by first | rfl | assumption | (rw [hR]; rfl) | (dsimp only; rw [hR]; rfl)) ?_
      refine k_aload_n i_10_101 rfl ?_
      refine k_gfV (a := (q : Int)) i_10_102 f_6_24 (by first | rfl | assumption | (rw [hR]; rfl) | (dsimp only; rw [hR]; rfl)) (by decide) (by decide) (Or.inl rfl) (hat) ?_
      refine k_bald i_10_105 rfl (by decide) (by omega) (by omega) ?_
      rw [show ((q : Int)).toNat = q by omega]
      dsimp only
      rw [hby q (by omega)]
      refine k_sp1 i_10_106 c_6_107 (by decide) qp_11 (Nat.le_of_ble_eq_true rfl) (e_isLt _ (by omega)) ?_
      rw [isLt_sb hb]
      refine k_if_eqB (t := 119) i_10_109 rfl (fun h => ?_) (fun h => ?_)
      · have h4 : ¬ isLt (b q) = true := by rw [h]; decide
        refine k_aload_n i_10_119 rfl ?_
        refine k_gfR i_10_120 f_6_15 (by first | rfl | assumption | (rw [hR]; rfl) | (dsimp only; rw [hR]; rfl)) (by decide) (by decide) (Or.inr ⟨_, rfl⟩) (by first | rfl | assumption | (rw [hR]; rfl) | (dsimp only; rw [hR]; rfl)) ?_
        refine k_aload_n i_10_123 rfl ?_
        refine k_gfV (a := (q : Int)) i_10_124 f_6_24 (by first | rfl | assumption | (rw [hR]; rfl) | (dsimp only; rw [hR]; rfl)) (by decide) (by decide) (Or.inl rfl) (hat) ?_
        refine k_bald i_10_127 rfl (by decide) (by omega) (by omega) ?_
        rw [show ((q : Int)).toNat = q by omega]
        dsimp only
        rw [hby q (by omega)]
        refine k_sp1 i_10_128 c_6_114 (by decide) qp_14 (Nat.le_of_ble_eq_true rfl) (e_isFg _ (by omega)) ?_
        rw [isFg_sb hb]
        refine k_if_eqB (t := 141) i_10_131 rfl (fun h => ?_) (fun h => ?_)
        · have h5 : ¬ isFg (b q) = true := by rw [h]; decide
          refine k_aload_n i_10_141 rfl ?_
          refine k_iconst i_10_142 ?_
          refine k_pfI i_10_143 f_6_40 (by first | rfl | assumption | (rw [hR]; rfl) | (dsimp only; rw [hR]; rfl)) (by decide) rfl ?_
          refine k_vret i_10_146 qt_10 ?_
          refine ⟨rfl, _, rfl, hte.tr (TE.up (by omega)), ?_, ?_, ?_, fun y => ?_⟩
          · unfold eQ
            rw [if_neg (by omega), if_neg g3, if_neg h4, if_neg h5]
            exact (q_up_n (by omega)).trans hat
          · exact (q_up_n (by omega)).trans hpl
          · unfold kQ
            rw [if_neg (by omega), if_neg g3, if_neg h4, if_neg h5]
            exact q_up_s
          · unfold kQ at y
            rw [if_neg (by omega), if_neg g3, if_neg h4, if_neg h5] at y
            omega
        · have h5 := h
          refine k_aload_n i_10_134 rfl ?_
          refine k_cv0 i_10_135 c_6_117 qp_15 qo_15 (by first | rfl | assumption | (rw [hR]; rfl) | (dsimp only; rw [hR]; rfl)) (Nat.le_of_ble_eq_true rfl) (e_readNumber hR hC2 hat hpl (by omega) h) (fun v S2 h => ?_)
          obtain ⟨rfl, rfl⟩ := h
          show K shX (d + 6) 10 138 _ [] _ _
          refine k_goto (t := 146) i_10_138 rfl ?_
          refine k_vret i_10_146 qt_10 ?_
          have ek : kQ b L q = if (b q = 48 ∧ 1 < fgE b L q - q) ∨ 99 < nV b L q then 0 else 3 := by
            unfold kQ
            rw [if_neg (by omega), if_neg g3, if_neg h4, if_pos h5]
          refine ⟨rfl, _, rfl, ((hte.tr (TE.up (by omega))).tr (TE.up (by omega))).tr (TE.up (by omega)), ?_, ?_, ?_, fun y => ?_⟩
          · rw [show eQ b L q = fgE b L q by unfold eQ; rw [if_neg (by omega), if_neg g3, if_neg h4, if_pos h5]]
            exact (q_up_n (by omega)).trans q_up_s
          · exact (q_up_n (by omega)).trans ((q_up_n (by omega)).trans ((q_up_n (by omega)).trans hpl))
          · rw [ek]
            exact q_up_s
          · rw [ek] at y
            split at y
            · omega
            · rename_i y2
              refine (q_up_n (by omega)).trans ((q_up_n (by omega)).trans (q_up_s.trans ?_))
              omega
      · have h4 := h
        refine k_aload_n i_10_112 rfl ?_
        refine k_cv0 i_10_113 c_6_111 qp_12 qo_12 (by first | rfl | assumption | (rw [hR]; rfl) | (dsimp only; rw [hR]; rfl)) (Nat.le_of_ble_eq_true rfl) (e_readWord hR hC2 hat hpl (by omega)) (fun v S2 h => ?_)
        obtain ⟨rfl, rfl⟩ := h
        show K shX (d + 6) 10 116 _ [] _ _
        refine k_goto (t := 146) i_10_116 rfl ?_
        refine k_vret i_10_146 qt_10 ?_
        have ek : kQ b L q = wkd b q (wdE b L q) := by
          unfold kQ
          rw [if_neg (by omega), if_neg g3, if_pos h4]
        refine ⟨rfl, _, rfl, (hte.tr (TE.up (by omega))).tr (TE.up (by omega)), ?_, ?_, ?_, fun y => ?_⟩
        · unfold eQ
          rw [if_neg (by omega), if_neg g3, if_pos h4]
          exact (q_up_n (by omega)).trans q_up_s
        · exact (q_up_n (by omega)).trans ((q_up_n (by omega)).trans hpl)
        · rw [ek]
          exact q_up_s
        · rw [ek] at y
          exfalso
          unfold wkd at y
          split at y
          · omega
          · split at y
            · omega
            · split at y
              · omega
              · split at y
                · omega
                · split at y
                  · omega
                  · split at y <;> omega
    · have g3 : b q = 59 := (sb_lo hb (by omega)).mp (by omega)
      refine k_aload_n i_10_79 rfl ?_
      refine k_iconst i_10_80 ?_
      refine k_pfI i_10_81 f_6_40 (by first | rfl | assumption | (rw [hR]; rfl) | (dsimp only; rw [hR]; rfl)) (by decide) rfl ?_
      refine k_aload_n i_10_84 rfl ?_
      first | refine k_dupA i_10_85 ?_ | refine k_dupI i_10_85 ?_
      refine k_gfV (a := (q : Int)) i_10_86 f_6_24 (by first | rfl | assumption | (rw [hR]; rfl) | (dsimp only; rw [hR]; rfl)) (by decide) (by decide) (Or.inl rfl) (by dsimp only; exact (q_up_n (by omega)).trans hat) ?_
      refine k_iconst i_10_89 ?_
      refine k_iadd i_10_90 ?_
      refine k_pfI i_10_91 f_6_24 (by first | rfl | assumption | (rw [hR]; rfl) | (dsimp only; rw [hR]; rfl)) (by decide) rfl ?_
      refine k_goto (t := 146) i_10_94 rfl ?_
      refine k_vret i_10_146 qt_10 ?_
      refine ⟨rfl, _, rfl, (hte.tr (TE.up (by omega))).tr (TE.up (by omega)), ?_, ?_, ?_, fun y => ?_⟩
      · unfold eQ
        rw [if_neg (by omega), if_pos g3]
        exact q_up_s
      · dsimp only
        exact (q_up_n (by omega)).trans ((q_up_n (by omega)).trans hpl)
      · unfold kQ
        rw [if_neg (by omega), if_pos g3]
        dsimp only
        exact (q_up_n (by omega)).trans q_up_s
      · unfold kQ at y
        rw [if_neg (by omega), if_pos g3] at y
        omega
  · refine k_aload_n i_10_57 rfl ?_
    refine k_iconst i_10_58 ?_
    refine k_pfI i_10_59 f_6_40 (by first | rfl | assumption | (rw [hR]; rfl) | (dsimp only; rw [hR]; rfl)) (by decide) rfl ?_
    refine k_goto (t := 146) i_10_62 rfl ?_
    refine k_vret i_10_146 qt_10 ?_
    refine ⟨rfl, _, rfl, hte.tr (TE.up (by omega)), ?_, ?_, ?_, fun y => ?_⟩
    · unfold eQ
      rw [if_pos (by omega)]
      exact (q_up_n (by omega)).trans hat
    · exact (q_up_n (by omega)).trans hpl
    · unfold kQ
      rw [if_pos (by omega)]
      exact q_up_s
    · unfold kQ at y
      rw [if_pos (by omega)] at y
      omega
end TK
