/-! THE CLASS: aim comes to the fixpoint -/
theorem tuk_ge {O : Int → Int → Int} {c but : Int} : ∀ (k : Nat) (q : Int), 0 ≤ q → q < k → q ≠ but → tuk O c but k ≤ O c q
  | 0, q, h0, h1, _ => by omega
  | k + 1, q, h0, h1, h2 => by
    unfold tuk
    by_cases e : q = k
    · subst e
      rw [if_neg h2]
      omega
    · have := tuk_ge (O := O) (c := c) k q h0 (by omega) h2
      split <;> omega
theorem tuk_is {O : Int → Int → Int} {c but : Int} : ∀ (k : Nat), tuk O c but k = 1073741824 ∨ ∃ q : Int, (0 ≤ q ∧ q < k) ∧ q ≠ but ∧ tuk O c but k = O c q
  | 0 => Or.inl rfl
  | k + 1 => by
    have ih := tuk_is (O := O) (c := c) (but := but) k
    have lift : (∃ q : Int, (0 ≤ q ∧ q < k) ∧ q ≠ but ∧ tuk O c but k = O c q) → ∃ q : Int, (0 ≤ q ∧ q < ((k + 1 : Nat) : Int)) ∧ q ≠ but ∧ tuk O c but k = O c q := by
      rintro ⟨q, h1, h2, h3⟩
      exact ⟨q, by omega, h2, h3⟩
    unfold tuk
    split
    · exact ih.imp id lift
    · rename_i hn
      rcases Int.le_total (tuk O c but k) (O c k) with h | h
      · rw [Int.min_eq_left h]; exact ih.imp id lift
      · rw [Int.min_eq_right h]; exact Or.inr ⟨k, by omega, hn, rfl⟩
theorem tuk_mono {O P : Int → Int → Int} {c but : Int} : ∀ (k : Nat), (∀ q : Int, 0 ≤ q → q < k → O c q ≤ P c q) → tuk O c but k ≤ tuk P c but k
  | 0, _ => Int.le_refl _
  | k + 1, h => by
    have h1 := tuk_mono (O := O) (P := P) (c := c) (but := but) k (fun q h0 h1 => h q h0 (by omega))
    have h2 := h k (by omega) (by omega)
    unfold tuk
    split <;> omega
theorem sO_mono {T : Tn} (hw : tWF T) {nt : Int} {N M : Int → Int → Int} {q : Int} (h : ∀ c, 0 ≤ c → c < tN T → N c q ≤ M c q) : ∀ m c, sO T nt N q m c ≤ sO T nt M q m c
  | 0, _ => Int.le_refl _
  | m + 1, c => by
    have h1 := tAh_range hw c q
    unfold sO
    split
    · exact Int.le_refl _
    · rename_i hn
      have h2 := h (tAh T c q) (by omega) (by omega)
      have h3 := sO_mono hw (nt := nt) h m (tAh T c q)
      split <;> omega
/-- a best way in one direction ends its run somewhere -/
theorem sO_is {T : Tn} (hw : tWF T) {nt : Int} {N : Int → Int → Int} {q : Int} : ∀ m c, m ≤ 4 → sO T nt N q m c = 1073741824 ∨ ∃ e W : Int, (0 ≤ e ∧ e < tN T) ∧ 0 < W ∧ sO T nt N q m c = W + N e q ∧ ∀ M : Int → Int → Int, sO T nt M q m c ≤ W + M e q
  | 0, c, _ => Or.inl rfl
  | m + 1, c, hm => by
    have h1 := tAh_range hw c q
    have h2 := tPrice4 hw (nt := nt) (r := 4 - (m : Int)) (by omega)
    have hW : 0 < W1 T nt (4 - (m : Int)) := by unfold W1; omega
    by_cases hn : tAh T c q < 0
    · left; unfold sO; rw [if_pos hn]
    · have e1 : ∀ M : Int → Int → Int, sO T nt M q (m + 1) c = min 1073741824 (W1 T nt (4 - (m : Int)) + min (M (tAh T c q) q) (if tElb T (tAh T c q) = true then 1073741824 else sO T nt M q m (tAh T c q))) := by
        intro M
        show (if tAh T c q < 0 then 1073741824 else _) = _
        rw [if_neg hn]
      by_cases hF : sO T nt N q (m + 1) c = 1073741824
      · exact Or.inl hF
      · right
        have hle := sO_le (T := T) (nt := nt) (N := N) (q := q) (m + 1) c
        rw [e1] at hF hle
        by_cases hd : N (tAh T c q) q ≤ (if tElb T (tAh T c q) = true then 1073741824 else sO T nt N q m (tAh T c q))
        · refine ⟨tAh T c q, W1 T nt (4 - (m : Int)), by omega, hW, by rw [e1]; omega, fun M => by rw [e1]; omega⟩
        · by_cases he : tElb T (tAh T c q) = true
          · rw [if_pos he] at hF hd; omega
          · rw [if_neg he] at hF hd
            rcases sO_is hw (nt := nt) (N := N) (q := q) m (tAh T c q) (by omega) with h3 | ⟨e, W, a1, a2, a3, a4⟩
            · omega
            · refine ⟨e, W1 T nt (4 - (m : Int)) + W, a1, by omega, by rw [e1, if_neg he]; omega, fun M => ?_⟩
              have := a4 M
              rw [e1, if_neg he]
              omega
/-- the exact burdens: E by a run in a direction, V by a new run -/
def xfx (T : Tn) (nt b : Int) (V E : Int → Int → Int) : Prop := (∀ c l : Int, 0 ≤ c → c < 20 → 0 ≤ l → l < 4 → V c l = if c = b then 0 else tu E c (if tElb T c = true then -1 else l)) ∧ (∀ c q : Int, 0 ≤ c → c < 20 → 0 ≤ q → q < 4 → E c q = if c ≠ b ∧ tOpen T c = true then sO T nt V q 4 c else 1073741824) ∧ ∀ c q : Int, 0 ≤ c → c < 20 → 0 ≤ q → q < 4 → 0 ≤ E c q ∧ E c q ≤ 1073741824
/-- what holds of the rows at every time -/
def aI (T : Tn) (b : Int) (E : Int → Int → Int) (o n : Nat → Int) : Prop := inF o ∧ inF n ∧ (∀ c l : Int, 0 ≤ c → c < 20 → 0 ≤ l → l < 4 → pt n c l = if c = b then 0 else tu (pt o) c (if tElb T c = true then -1 else l)) ∧ ∀ c q : Int, 0 ≤ c → c < 20 → 0 ≤ q → q < 4 → E c q ≤ pt o c q
theorem pt_ne {f : Nat → Int} {c q c' : Int} {i : Nat} (hc : 0 ≤ c) (hq : 0 ≤ q ∧ q < 4) (hc' : 0 ≤ c') (hi : i < 4) (h : c ≠ c') : (c * 4 + q).toNat ≠ (c' * 4 + i).toNat := by omega
theorem mlO_pt {T : Tn} {nt : Int} {o n : Nat → Int} {c c' q : Int} (hc : 0 ≤ c) (hc' : 0 ≤ c') (hq : 0 ≤ q ∧ q < 4) : pt (mlO T nt o n c 4) c' q = if c' = c then min (pt o c q) (sO T nt (pt n) q 4 c) else pt o c' q := by
  unfold pt
  split
  · rename_i h
    subst h
    obtain ⟨i, rfl⟩ : ∃ i : Nat, q = i := ⟨q.toNat, by omega⟩
    exact mlO_at hc 4 i (by omega)
  · rename_i h
    exact mlO_above hc 4 _ (fun i hi => pt_ne (f := o) hc' hq hc hi h)
theorem mlN_above {T : Tn} {o n : Nat → Int} {c : Int} : ∀ (k j : Nat), (∀ i : Nat, i < k → j ≠ (c * 4 + i).toNat) → mlN T o n c k j = n j
  | 0, j, _ => rfl
  | k + 1, j, h => by
    unfold mlN
    rw [ud_n (h k (by omega))]
    exact mlN_above k j (fun i hi => h i (by omega))
theorem mlN_at {T : Tn} {o n : Nat → Int} {c : Int} (hc : 0 ≤ c) : ∀ (k i : Nat), i < k → mlN T o n c k (c * 4 + i).toNat = tu (pt o) c (if tElb T c = true then -1 else (i : Int))
  | 0, i, h => by omega
  | k + 1, i, h => by
    unfold mlN
    by_cases e : i = k
    · subst e; rw [ud_s]
    · rw [ud_n (by omega)]
      exact mlN_at hc k i (by omega)
theorem mlN_pt {T : Tn} {o n : Nat → Int} {c c' l : Int} (hc : 0 ≤ c) (hc' : 0 ≤ c') (hl : 0 ≤ l ∧ l < 4) : pt (mlN T o n c 4) c' l = if c' = c then tu (pt o) c (if tElb T c = true then -1 else l) else pt n c' l := by
  by_cases h : c' = c
  · subst h
    rw [if_pos rfl]
    obtain ⟨i, rfl⟩ : ∃ i : Nat, l = i := ⟨l.toNat, by omega⟩
    exact mlN_at hc 4 i (by omega)
  · rw [if_neg h]
    exact mlN_above 4 _ (fun i hi => pt_ne (f := o) hc' hl hc hi h)
theorem mlL_false {T : Tn} {nt : Int} {o n : Nat → Int} {c : Int} : ∀ k : Nat, mlL T nt o n c k = false ↔ ∀ i : Nat, i < k → o (c * 4 + i).toNat ≤ sO T nt (pt n) i 4 c
  | 0 => by constructor; intro _ i hi; omega; intro _; rfl
  | k + 1 => by
    unfold mlL
    rw [Bool.or_eq_false_iff, mlL_false k, decide_eq_false_iff_not]
    constructor
    · rintro ⟨h1, h2⟩ i hi
      by_cases e : i = k
      · subst e; omega
      · exact h1 i (by omega)
    · intro h
      exact ⟨fun i hi => h i (by omega), by have := h k (by omega); omega⟩
/-- a square's turn keeps it; rows only sink; its own ports are no dearer than going straight on -/
theorem aI_ml {T : Tn} (hw : tWF T) {nt b : Int} {V E : Int → Int → Int} (hx : xfx T nt b V E) {o n : Nat → Int} (ha : aI T b E o n) {c : Int} (hc : 0 ≤ c ∧ c < tN T) : aI T b E (mlZ T nt b o n c).2.1 (mlZ T nt b o n c).2.2 ∧ (∀ c' q : Int, 0 ≤ c' → c' < 20 → 0 ≤ q → q < 4 → pt (mlZ T nt b o n c).2.1 c' q ≤ pt o c' q) ∧ (∀ c' q : Int, 0 ≤ c' → c' < 20 → 0 ≤ q → q < 4 → pt (mlZ T nt b o n c).2.2 c' q ≤ pt n c' q) ∧ (c ≠ b → tOpen T c = true → ∀ q : Int, 0 ≤ q → q < 4 → pt (mlZ T nt b o n c).2.1 c q ≤ sO T nt (pt n) q 4 c) ∧ ((mlZ T nt b o n c).1 = false → (mlZ T nt b o n c).2.1 = o ∧ (mlZ T nt b o n c).2.2 = n) := by
  have hN := tN_le hw
  have hc20 : 0 ≤ c ∧ c < 20 := by omega
  by_cases hz : c = b ∨ tOpen T c = false
  · have e : mlZ T nt b o n c = (false, o, n) := by unfold mlZ; rw [if_pos hz]
    rw [e]
    exact ⟨ha, fun _ _ _ _ _ _ => Int.le_refl _, fun _ _ _ _ _ _ => Int.le_refl _, fun h1 h2 => (by rcases hz with h | h; exact absurd h h1; rw [h] at h2; cases h2), fun _ => ⟨rfl, rfl⟩⟩
  · have hcb : c ≠ b := fun h => hz (Or.inl h)
    have hop : tOpen T c = true := by cases h : tOpen T c; exact absurd (Or.inr h) hz; rfl
    obtain ⟨h1, h2, h3, h4⟩ := id ha
    have eO : (mlZ T nt b o n c).2.1 = mlO T nt o n c 4 := by unfold mlZ; rw [if_neg hz]
    have eL : (mlZ T nt b o n c).1 = mlL T nt o n c 4 := by unfold mlZ; rw [if_neg hz]
    have eN : (mlZ T nt b o n c).2.2 = if mlL T nt o n c 4 = true then mlN T (mlO T nt o n c 4) n c 4 else n := by unfold mlZ; rw [if_neg hz]
    have hO := fun (c' q : Int) (a1 : 0 ≤ c') (a3 : 0 ≤ q) (a4 : q < 4) => mlO_pt (T := T) (nt := nt) (o := o) (n := n) (c := c) (c' := c') (q := q) hc.1 a1 ⟨a3, a4⟩
    have same : mlL T nt o n c 4 = false → mlO T nt o n c 4 = o := by
      intro hl
      rw [mlL_false] at hl
      funext j
      by_cases h : ∃ i : Nat, i < 4 ∧ j = (c * 4 + i).toNat
      · obtain ⟨i, hi, rfl⟩ := h
        rw [mlO_at hc.1 4 i hi]
        have := hl i hi
        omega
      · exact mlO_above hc.1 4 j (fun i hi z => h ⟨i, hi, z⟩)
    have oLe : ∀ c' q : Int, 0 ≤ c' → c' < 20 → 0 ≤ q → q < 4 → pt (mlO T nt o n c 4) c' q ≤ pt o c' q := by
      intro c' q a1 a2 a3 a4
      rw [hO c' q a1 a3 a4]
      split
      · rename_i e; rw [e]; omega
      · exact Int.le_refl _
    -- what the onward row is
    have nIs : ∀ c' l : Int, 0 ≤ c' → c' < 20 → 0 ≤ l → l < 4 → pt (mlZ T nt b o n c).2.2 c' l = if c' = b then 0 else tu (pt (mlO T nt o n c 4)) c' (if tElb T c' = true then -1 else l) := by
      intro c' l a1 a2 a3 a4
      have hother : c' ≠ c → pt n c' l = if c' = b then 0 else tu (pt (mlO T nt o n c 4)) c' (if tElb T c' = true then -1 else l) := by
        intro hne
        rw [h3 c' l a1 a2 a3 a4]
        split
        · rfl
        · unfold tu
          have q1 : ∀ q : Int, 0 ≤ q → q < (4 : Nat) → pt o c' q ≤ pt (mlO T nt o n c 4) c' q := fun q b1 b2 => by rw [hO c' q a1 b1 (by omega), if_neg hne]; exact Int.le_refl _
          have q2 : ∀ q : Int, 0 ≤ q → q < (4 : Nat) → pt (mlO T nt o n c 4) c' q ≤ pt o c' q := fun q b1 b2 => oLe c' q a1 a2 b1 (by omega)
          exact Int.le_antisymm (tuk_mono 4 q1) (tuk_mono 4 q2)
      rw [eN]
      by_cases hl : mlL T nt o n c 4 = true
      · rw [if_pos hl, mlN_pt hc.1 a1 ⟨a3, a4⟩]
        by_cases hne : c' = c
        · subst hne; rw [if_pos rfl, if_neg hcb]
        · rw [if_neg hne]; exact hother hne
      · rw [if_neg hl]
        have hlf : mlL T nt o n c 4 = false := by cases h : mlL T nt o n c 4; rfl; exact absurd h hl
        rw [same hlf]
        exact h3 c' l a1 a2 a3 a4
    have nLe : ∀ c' q : Int, 0 ≤ c' → c' < 20 → 0 ≤ q → q < 4 → pt (mlZ T nt b o n c).2.2 c' q ≤ pt n c' q := by
      intro c' q a1 a2 a3 a4
      rw [nIs c' q a1 a2 a3 a4, h3 c' q a1 a2 a3 a4]
      split
      · exact Int.le_refl _
      · exact tuk_mono 4 (fun q b1 b2 => oLe c' q a1 a2 b1 (by omega))
    have VN : ∀ c' : Int, 0 ≤ c' → c' < tN T → ∀ q : Int, 0 ≤ q → q < 4 → V c' q ≤ pt n c' q := by
      intro c' a1 a2 q a3 a4
      rw [hx.1 c' q a1 (by omega) a3 a4, h3 c' q a1 (by omega) a3 a4]
      split
      · exact Int.le_refl _
      · exact tuk_mono 4 (fun q b1 b2 => h4 c' q a1 (by omega) b1 (by omega))
    have inN : inF (mlZ T nt b o n c).2.2 := by
      rw [eN]
      split
      · exact mlN_inF (mlO_inF hw h1 h2 hc20 4 (by omega)) h2 hc20 4
      · exact h2
    refine ⟨⟨by rw [eO]; exact mlO_inF hw h1 h2 hc20 4 (by omega), inN, by rw [eO]; exact nIs, fun c' q a1 a2 a3 a4 => ?_⟩, by rw [eO]; exact oLe, nLe, fun _ _ q a3 a4 => ?_, fun hl => ?_⟩
    · rw [eO, hO c' q a1 a3 a4]
      split
      · rename_i e
        subst e
        have g1 := h4 c' q a1 a2 a3 a4
        have g2 : E c' q ≤ sO T nt (pt n) q 4 c' := by
          rw [hx.2.1 c' q a1 a2 a3 a4, if_pos ⟨hcb, hop⟩]
          exact sO_mono hw (fun c'' b1 b2 => VN c'' b1 b2 q a3 a4) 4 c'
        omega
      · exact h4 c' q a1 a2 a3 a4
    · rw [eO, hO c q hc.1 a3 a4, if_pos rfl]; omega
    · rw [eL] at hl
      rw [eO, eN, if_neg (by rw [hl]; decide)]
      exact ⟨same hl, rfl⟩
