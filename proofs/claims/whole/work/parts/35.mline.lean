/-! WAYS OF JUST SO MANY STEPS: the reference's findLine -/
def MinOf (P : Int → Prop) (F m : Int) : Prop := m ≤ F ∧ (∀ v, P v → m ≤ v) ∧ (m = F ∨ P m)
theorem MinOf.none {P : Int → Prop} {F : Int} (h : ∀ v, ¬ P v) : MinOf P F F := ⟨Int.le_refl _, fun v hv => absurd hv (h v), Or.inl rfl⟩
theorem MinOf.add {P R : Int → Prop} {F m w : Int} (h : MinOf P F m) (hR : ∀ v, R v ↔ P v ∨ v = w) : MinOf R F (min m w) := by
  obtain ⟨h1, h2, h3⟩ := h
  refine ⟨by omega, fun v hv => ?_, ?_⟩
  · rcases (hR v).mp hv with h | h
    · have := h2 v h; omega
    · omega
  · rcases Int.le_total m w with e | e
    · rw [Int.min_eq_left e]
      exact h3.imp id (fun z => (hR m).mpr (Or.inl z))
    · rw [Int.min_eq_right e]
      exact Or.inr ((hR w).mpr (Or.inr rfl))
theorem MinOf.iff {P R : Int → Prop} {F m : Int} (h : MinOf P F m) (hR : ∀ v, R v ↔ P v) : MinOf R F m := ⟨h.1, fun v hv => h.2.1 v ((hR v).mp hv), h.2.2.imp id (fun z => (hR m).mpr z)⟩
/-- two minima of one set, with bounds of their own for none -/
theorem MinOf.eq {P : Int → Prop} {F G m n : Int} (h : MinOf P F m) (h' : MinOf P G n) (hP : ∀ v, P v → v < F ∧ v < G) : (m < F ∧ n < G ∧ m = n) ∨ (m = F ∧ n = G) := by
  obtain ⟨a1, a2, a3⟩ := h
  obtain ⟨b1, b2, b3⟩ := h'
  rcases a3 with e | e
  · rcases b3 with f | f
    · exact Or.inr ⟨e, f⟩
    · have h1 := a2 n f
      have h2 := hP n f
      omega
  · have h1 := hP m e
    have h2 := b2 m e
    rcases b3 with f | f
    · omega
    · have h3 := a2 n f
      have h4 := hP n f
      exact Or.inl ⟨by omega, by omega, by omega⟩
/-- by just k steps from a square to a state, for so many pence -/
def PW (T : Tn) (nt a : Int) : Nat → Int → Int → Prop
  | 0, t, v => t = 17 * a + 16 ∧ v = 0
  | k + 1, t, v => ∃ s q u : Int, PW T nt a k s u ∧ (0 ≤ q ∧ q < 4) ∧ 0 ≤ t ∧ mE T (tMask T 2) s q = t ∧ v = u + tPrice T nt (mRun s q)
theorem PW_range {T : Tn} (hw : tWF T) {nt a : Int} (ha : 0 ≤ a ∧ a < tN T) : ∀ (k : Nat) (t v : Int), PW T nt a k t v → (0 ≤ t ∧ t < 17 * tN T) ∧ (0 ≤ v ∧ v ≤ 297 * k)
  | 0, t, v, h => by obtain ⟨h1, h2⟩ := h; omega
  | k + 1, t, v, h => by
    obtain ⟨s, q, u, h1, h2, h3, h4, h5⟩ := h
    have ih := PW_range hw ha k s u h1
    have r := mE_range hw (el := tMask T 2) ih.1 h2
    have p := tPrice4 hw (nt := nt) (r := mRun s q) (mE_run (T := T) (el := tMask T 2) (by omega))
    omega
def R3 (I : Nat → Nat → Int) (f g l : Nat → Int) : Nat → Nat → Int := sr (sr (sr I 7 f) 8 g) 9 l
theorem R3_7 {I : Nat → Nat → Int} {f g l : Nat → Int} : R3 I f g l 7 = f := by simp [R3, sr]
theorem R3_8 {I : Nat → Nat → Int} {f g l : Nat → Int} : R3 I f g l 8 = g := by simp [R3, sr]
theorem R3_9 {I : Nat → Nat → Int} {f g l : Nat → Int} : R3 I f g l 9 = l := by simp [R3, sr]
theorem R3_u7 {I : Nat → Nat → Int} {f g l : Nat → Int} {k : Nat} {v : Int} : q_up (R3 I f g l) 7 k v = R3 I (ud f k v) g l := by
  funext c j
  unfold q_up R3 sr ud
  by_cases h1 : c = 9
  · subst h1; simp
  · by_cases h2 : c = 8
    · subst h2; simp
    · by_cases h3 : c = 7
      · subst h3; by_cases h4 : j = k <;> simp [h4]
      · simp [h1, h2, h3]
theorem R3_u8 {I : Nat → Nat → Int} {f g l : Nat → Int} {k : Nat} {v : Int} : q_up (R3 I f g l) 8 k v = R3 I f (ud g k v) l := by
  funext c j
  unfold q_up R3 sr ud
  by_cases h1 : c = 9
  · subst h1; simp
  · by_cases h2 : c = 8
    · subst h2; by_cases h4 : j = k <;> simp [h4]
    · simp [h1, h2]
theorem R3_u9 {I : Nat → Nat → Int} {f g l : Nat → Int} {k : Nat} {v : Int} : q_up (R3 I f g l) 9 k v = R3 I f g (ud l k v) := by
  funext c j
  unfold q_up R3 sr ud
  by_cases h1 : c = 9
  · subst h1; by_cases h4 : j = k <;> simp [h4]
  · simp [h1]
theorem R3_id {I : Nat → Nat → Int} : R3 I (I 7) (I 8) (I 9) = I := by
  unfold R3
  rw [show I 8 = sr I 7 (I 7) 8 from by simp [sr], sr_id, show I 9 = I 9 from rfl, sr_id, sr_id]
theorem MB.R3 {I : Nat → Nat → Int} {X : XX} {T : Tn} {nt : Int} {f g l : Nat → Int} (h : MB I X T nt) : MB (R3 I f g l) X T nt := h.scr (((ScM.row (by omega)).trans (ScM.row (by omega))).trans (ScM.row (by omega)))
theorem ScM_R3 {I : Nat → Nat → Int} {f g l : Nat → Int} : ScM I (R3 I f g l) := ((ScM.row (by omega)).trans (ScM.row (by omega))).trans (ScM.row (by omega))
/-- the row of pence by k steps -/
def fK (T : Tn) (nt a : Int) (k : Nat) (f : Nat → Int) : Prop := ∀ t : Int, 0 ≤ t → t < 17 * tN T → MinOf (PW T nt a k t) 100000000 (f t.toNat)
/-- what has been pushed ahead of state s, direction q -/
def pushed (T : Tn) (nt : Int) (f : Nat → Int) (s q t v : Int) : Prop := ∃ s' q' : Int, (0 ≤ s' ∧ (s' < s ∨ (s' = s ∧ q' < q))) ∧ (0 ≤ q' ∧ q' < 4) ∧ 0 ≤ t ∧ mE T (tMask T 2) s' q' = t ∧ f s'.toNat < 100000000 ∧ v = f s'.toNat + tPrice T nt (mRun s' q')
def gK (T : Tn) (nt : Int) (f g : Nat → Int) (s q : Int) : Prop := ∀ t : Int, 0 ≤ t → t < 17 * tN T → MinOf (pushed T nt f s q t) 100000000 (g t.toNat)
def lK (T : Tn) (nt a b : Int) (k : Nat) (l : Nat → Int) : Prop := ∀ j : Nat, j < k → MinOf (fun v => ∃ t : Int, t / 17 = b ∧ PW T nt a j t v) 100000000 (l j)
theorem fK_range {T : Tn} (hw : tWF T) {nt a : Int} (ha : 0 ≤ a ∧ a < tN T) {k : Nat} {f : Nat → Int} (h : fK T nt a k f) {t : Int} (t0 : 0 ≤ t) (t1 : t < 17 * tN T) : 0 ≤ f t.toNat ∧ f t.toNat ≤ 100000000 := by
  obtain ⟨h1, h2, h3⟩ := h t t0 t1
  rcases h3 with e | e
  · omega
  · have := PW_range hw ha k t _ e
    omega
theorem gK_range {T : Tn} (hw : tWF T) {nt a : Int} (ha : 0 ≤ a ∧ a < tN T) {k : Nat} {f g : Nat → Int} (hf : fK T nt a k f) {s q : Int} (hs : s < 17 * tN T ∨ (s = 17 * tN T ∧ q ≤ 0)) (h : gK T nt f g s q) {t : Int} (t0 : 0 ≤ t) (t1 : t < 17 * tN T) : 0 ≤ g t.toNat ∧ g t.toNat ≤ 100000000 := by
  obtain ⟨h1, h2, h3⟩ := h t t0 t1
  rcases h3 with e | e
  · omega
  · obtain ⟨s', q', a1, a2, a3, a4, a5, a6⟩ := e
    have f1 := fK_range hw ha hf (t := s') a1.1 (by omega)
    have p := tPrice4 hw (nt := nt) (r := mRun s' q') (mE_run (T := T) (el := tMask T 2) (by omega))
    omega
theorem gK_skip {T : Tn} {nt : Int} {f g : Nat → Int} {s : Int} (h : gK T nt f g s 0) (hf : ¬ f s.toNat < 100000000) : gK T nt f g (s + 1) 0 := by
  intro t t0 t1
  refine (h t t0 t1).iff (fun v => ?_)
  constructor
  · rintro ⟨s', q', a1, a2, a3, a4, a5, a6⟩
    refine ⟨s', q', ⟨a1.1, ?_⟩, a2, a3, a4, a5, a6⟩
    by_cases e : s' = s
    · subst e; exact absurd a5 hf
    · omega
  · rintro ⟨s', q', a1, a2, a3, a4, a5, a6⟩
    exact ⟨s', q', by omega, a2, a3, a4, a5, a6⟩
theorem gK_row {T : Tn} {nt : Int} {f g : Nat → Int} {s q : Int} (hq : 4 ≤ q) (h : gK T nt f g s q) : gK T nt f g (s + 1) 0 := by
  intro t t0 t1
  refine (h t t0 t1).iff (fun v => ?_)
  constructor
  · rintro ⟨s', q', a1, a2, a3, a4, a5, a6⟩
    exact ⟨s', q', by omega, a2, a3, a4, a5, a6⟩
  · rintro ⟨s', q', a1, a2, a3, a4, a5, a6⟩
    exact ⟨s', q', by omega, a2, a3, a4, a5, a6⟩
theorem gK_none {T : Tn} {nt : Int} {f g : Nat → Int} {s q : Int} (hs : 0 ≤ s) (hq : 0 ≤ q ∧ q < 4) (he : mE T (tMask T 2) s q < 0) (h : gK T nt f g s q) : gK T nt f g s (q + 1) := by
  intro t t0 t1
  refine (h t t0 t1).iff (fun v => ?_)
  constructor
  · rintro ⟨s', q', a1, a2, a3, a4, a5, a6⟩
    refine ⟨s', q', ⟨a1.1, ?_⟩, a2, a3, a4, a5, a6⟩
    by_cases e : s' = s ∧ q' = q
    · obtain ⟨rfl, rfl⟩ := e; omega
    · omega
  · rintro ⟨s', q', a1, a2, a3, a4, a5, a6⟩
    exact ⟨s', q', by omega, a2, a3, a4, a5, a6⟩
theorem gK_push {T : Tn} {nt : Int} {f g : Nat → Int} {s q : Int} (hs : 0 ≤ s) (hq : 0 ≤ q ∧ q < 4) (he : 0 ≤ mE T (tMask T 2) s q) (hf : f s.toNat < 100000000) (h : gK T nt f g s q) : gK T nt f (ud g (mE T (tMask T 2) s q).toNat (min (g (mE T (tMask T 2) s q).toNat) (f s.toNat + tPrice T nt (mRun s q)))) s (q + 1) := by
  intro t t0 t1
  by_cases e : t = mE T (tMask T 2) s q
  · subst e
    rw [ud_s]
    refine (h _ t0 t1).add (fun v => ?_)
    constructor
    · rintro ⟨s', q', a1, a2, a3, a4, a5, a6⟩
      by_cases e : s' = s ∧ q' = q
      · obtain ⟨rfl, rfl⟩ := e; exact Or.inr a6
      · exact Or.inl ⟨s', q', ⟨a1.1, by omega⟩, a2, a3, a4, a5, a6⟩
    · rintro (⟨s', q', a1, a2, a3, a4, a5, a6⟩ | z)
      · exact ⟨s', q', by omega, a2, a3, a4, a5, a6⟩
      · exact ⟨s, q, by omega, hq, t0, rfl, hf, z⟩
  · rw [ud_n (by omega)]
    refine (h t t0 t1).iff (fun v => ?_)
    constructor
    · rintro ⟨s', q', a1, a2, a3, a4, a5, a6⟩
      refine ⟨s', q', ⟨a1.1, ?_⟩, a2, a3, a4, a5, a6⟩
      by_cases e' : s' = s ∧ q' = q
      · obtain ⟨rfl, rfl⟩ := e'; exact absurd a4.symm e
      · omega
    · rintro ⟨s', q', a1, a2, a3, a4, a5, a6⟩
      exact ⟨s', q', by omega, a2, a3, a4, a5, a6⟩
theorem fK_S {T : Tn} (hw : tWF T) {nt a : Int} (ha : 0 ≤ a ∧ a < tN T) {k : Nat} (hk : k ≤ 60) {f g : Nat → Int} (hf : fK T nt a k f) (hg : gK T nt f g (17 * tN T) 0) : fK T nt a (k + 1) g := by
  intro t t0 t1
  obtain ⟨h1, h2, h3⟩ := hg t t0 t1
  refine ⟨h1, fun v hv => ?_, h3.imp id (fun z => ?_)⟩
  · obtain ⟨s, q, u, a1, a2, a3, a4, a5⟩ := hv
    have r := PW_range hw ha k s u a1
    obtain ⟨b1, b2, b3⟩ := hf s r.1.1 r.1.2
    have b4 := b2 u a1
    have b5 : f s.toNat < 100000000 := by omega
    have := h2 (f s.toNat + tPrice T nt (mRun s q)) ⟨s, q, ⟨r.1.1, by omega⟩, a2, a3, a4, b5, rfl⟩
    omega
  · obtain ⟨s', q', a1, a2, a3, a4, a5, a6⟩ := z
    obtain ⟨b1, b2, b3⟩ := hf s' a1.1 (by omega)
    rcases b3 with e | e
    · omega
    · exact ⟨s', q', _, e, a2, a3, a4, a6⟩
section FL
variable {d : Nat} {T : Tn} {I : Nat → Nat → Int} {X : XX} {nt a b : Int} {Q : Option Value → QS → Prop}
-- method 132: StraightTaxModel.findLine.(II)V
/-- the pushes of a state -/
theorem l_line_d (hB : MB I X T nt) (ha : 0 ≤ a ∧ a < tN T) (k : Nat) (f l : Nat → Int) (hf : fK T nt a k f) (s : Int) (hs : 0 ≤ s ∧ s < 17 * tN T) (hlt : f s.toNat < 100000000)
    (hk : ∀ (g : Nat → Int) (x7 x8 : Option Value), gK T nt f g (s + 1) 0 → K shM (d + 3) 132 249 [some (.ref 0), some (.int (J a)), some (.int (J b)), some (.int (J (17 * tN T))), some (.int (J (k : Int))), some (.int (J s)), some (.int (J 4)), x7, x8] [] (R3 I f g l, X) Q) :
    ∀ (m i : Nat) (g : Nat → Int) (x7 x8 : Option Value), i + m = 4 → gK T nt f g s i → K shM (d + 3) 132 155 [some (.ref 0), some (.int (J a)), some (.int (J b)), some (.int (J (17 * tN T))), some (.int (J (k : Int))), some (.int (J s)), some (.int (J (i : Int))), x7, x8] [] (R3 I f g l, X) Q := by
  have hw := hB.2.2.1.1
  have hN := tN_le hw
  have hm2 := tMask_lt T 2
  intro m
  induction m with
  | zero =>
    intro i g x7 x8 hi hg
    have e : i = 4 := by omega
    subst e
    refine k_iload i_132_155 rfl ?_
    refine k_iconst i_132_157 ?_
    refine k_ic_ge (t := 249) i_132_158 rfl (by omega) (by omega) (fun h => ?_) (fun h => ?_)
    · exact hk g x7 x8 (gK_row (q := 4) (by omega) hg)
    · omega
  | succ m ih =>
    intro i g x7 x8 hi hg
    obtain ⟨hT, hR, hOK, hn, h01⟩ := hB.R3 (f := f) (g := g) (l := l)
    obtain ⟨a0, a1, a2, a3, a4, a5, a6, a7, a8⟩ := id hT
    have hq : (0 : Int) ≤ (i : Int) ∧ (i : Int) < 4 := by omega
    have hfs := fK_range hw ha hf hs.1 hs.2
    have hmr := mRun_le s i hs.1
    have hEr := mE_range hw (el := tMask T 2) hs hq
    have hread : (R3 I f g l, X).1 7 s.toNat = f s.toNat := by show R3 I f g l 7 _ = _; rw [R3_7]
    have k205 : ∀ e : Int, e = mE T (tMask T 2) s i → K shM (d + 3) 132 205 [some (.ref 0), some (.int (J a)), some (.int (J b)), some (.int (J (17 * tN T))), some (.int (J (k : Int))), some (.int (J s)), some (.int (J (i : Int))), some (.int (J (mRun s i))), x8] [.int (J e)] (R3 I f g l, X) Q := by
      intro e he
      subst he
      refine k_istore i_132_205 (Nat.le_of_ble_eq_true rfl) ?_
      dsimp only [q_st1, q_st2, q_unl]
      refine k_iload i_132_207 rfl ?_
      refine k_if_lt (t := 243) i_132_209 rfl (by omega) (fun g1 => ?_) (fun g1 => ?_)
      · refine k_iinc i_132_243 rfl (Nat.le_of_ble_eq_true rfl) ?_
        dsimp only [q_st1, q_st2, q_unl]
        refine k_goto (t := 155) i_132_246 rfl ?_
        exact ih (i + 1) g _ _ (by omega) (gK_none hs.1 hq g1 hg)
      · have hpr := tPrice4 hw (nt := nt) (r := mRun s i) (mE_run (T := T) (el := tMask T 2) (by omega))
        have hgr := gK_range hw ha hf (Or.inl hs.2) hg (t := mE T (tMask T 2) s i) (by omega) hEr.2
        refine k_aload_n i_132_212 rfl ?_
        refine k_gfR i_132_213 f_12_48 (by first | rfl | assumption | (rw [hR]; rfl) | (dsimp only; rw [hR]; rfl)) (by decide) (by decide) (Or.inr ⟨_, rfl⟩) (by first | rfl | assumption | (rw [hR]; rfl) | (dsimp only; rw [hR]; rfl)) ?_
        refine k_iload i_132_216 rfl ?_
        refine k_aload_n i_132_218 rfl ?_
        refine k_gfR i_132_219 f_12_48 (by first | rfl | assumption | (rw [hR]; rfl) | (dsimp only; rw [hR]; rfl)) (by decide) (by decide) (Or.inr ⟨_, rfl⟩) (by first | rfl | assumption | (rw [hR]; rfl) | (dsimp only; rw [hR]; rfl)) ?_
        refine k_iload i_132_222 rfl ?_
        refine k_iald i_132_224 rfl (by decide) (by omega) (by omega) ?_
        rw [show (R3 I f g l, X).1 8 (mE T (tMask T 2) s i).toNat = g (mE T (tMask T 2) s i).toNat from by show R3 I f g l 8 _ = _; rw [R3_8]]
        refine k_aload_n i_132_225 rfl ?_
        refine k_gfR i_132_226 f_12_45 (by first | rfl | assumption | (rw [hR]; rfl) | (dsimp only; rw [hR]; rfl)) (by decide) (by decide) (Or.inr ⟨_, rfl⟩) (by first | rfl | assumption | (rw [hR]; rfl) | (dsimp only; rw [hR]; rfl)) ?_
        refine k_iload i_132_229 rfl ?_
        refine k_iald i_132_231 rfl (by decide) (by omega) (by omega) ?_
        rw [hread]
        refine k_aload_n i_132_232 rfl ?_
        refine k_iload i_132_233 rfl ?_
        refine k_vp1 i_132_235 c_12_194 qp_120 qo_120 (by first | rfl | assumption | (rw [hR]; rfl) | (dsimp only; rw [hR]; rfl)) (Nat.le_of_ble_eq_true rfl) (m_priceOf hT hR hw _ nt hn (by omega) h01) ?_
        refine k_iadd i_132_238 ?_
        refine k_sp2 i_132_239 c_12_108 (by decide) qp_107 (Nat.le_of_ble_eq_true rfl) (m_lesser _ _ (by omega) (by omega)) ?_
        refine k_iast i_132_242 rfl (by decide) (by omega) (by omega) ?_
        dsimp only
        rw [R3_u8]
        refine k_iinc i_132_243 rfl (Nat.le_of_ble_eq_true rfl) ?_
        dsimp only [q_st1, q_st2, q_unl]
        refine k_goto (t := 155) i_132_246 rfl ?_
        exact ih (i + 1) _ _ _ (by omega) (gK_push hs.1 hq (by omega) hlt hg)
    refine k_iload i_132_155 rfl ?_
    refine k_iconst i_132_157 ?_
    refine k_ic_ge (t := 249) i_132_158 rfl (by omega) (by omega) (fun h => ?_) (fun h => ?_)
    · omega
    · refine k_aload_n i_132_161 rfl ?_
      refine k_gfR i_132_162 f_12_45 (by first | rfl | assumption | (rw [hR]; rfl) | (dsimp only; rw [hR]; rfl)) (by decide) (by decide) (Or.inr ⟨_, rfl⟩) (by first | rfl | assumption | (rw [hR]; rfl) | (dsimp only; rw [hR]; rfl)) ?_
      refine k_iload i_132_165 rfl ?_
      refine k_iald i_132_167 rfl (by decide) (by omega) (by omega) ?_
      rw [hread]
      refine k_ldc (a := 100000000) i_132_168 n_12_202 (by decide) ?_
      refine k_ic_ge (t := 249) i_132_170 rfl (by omega) (by omega) (fun h => ?_) (fun h => ?_)
      · omega
      · refine k_aload_n i_132_173 rfl ?_
        refine k_iload i_132_174 rfl ?_
        refine k_iload i_132_176 rfl ?_
        refine k_vp2 i_132_178 c_12_203 qp_128 qo_128 (by first | rfl | assumption | (rw [hR]; rfl) | (dsimp only; rw [hR]; rfl)) (Nat.le_of_ble_eq_true rfl) (m_runBehind _ _ (by omega) (by omega)) ?_
        refine k_istore i_132_181 (Nat.le_of_ble_eq_true rfl) ?_
        dsimp only [q_st1, q_st2, q_unl]
        refine k_iload i_132_183 rfl ?_
        refine k_iconst i_132_185 ?_
        refine k_ic_le (t := 193) i_132_186 rfl (by omega) (by omega) (fun g2 => ?_) (fun g2 => ?_)
        · refine k_aload_n i_132_193 rfl ?_
          refine k_iload i_132_194 rfl ?_
          refine k_iload i_132_196 rfl ?_
          refine k_aload_n i_132_198 rfl ?_
          refine k_gfI i_132_199 f_12_167 (by first | rfl | assumption | (rw [hR]; rfl) | (dsimp only; rw [hR]; rfl)) (by decide) (by decide) (Or.inl rfl) ?_
          rw [show (R3 I f g l, X).1 0 3 = (tMask T 2 : Int) from a3]
          refine k_vp3 i_132_202 c_12_206 qp_129 qo_129 (by first | rfl | assumption | (rw [hR]; rfl) | (dsimp only; rw [hR]; rfl)) (Nat.le_of_ble_eq_true rfl) (m_onward hT hw (by omega) _ _ hs hq) ?_
          exact k205 _ (by unfold mE; rw [if_neg (by omega)])
        · refine k_iconst i_132_189 ?_
          refine k_goto (t := 205) i_132_190 rfl ?_
          exact k205 _ (by unfold mE; rw [if_pos (by omega)])
theorem l_line_s (hB : MB I X T nt) (ha : 0 ≤ a ∧ a < tN T) (k : Nat) (f l : Nat → Int) (hf : fK T nt a k f)
    (hk : ∀ (g : Nat → Int) (x6 x7 x8 : Option Value), gK T nt f g (17 * tN T) 0 → K shM (d + 3) 132 255 [some (.ref 0), some (.int (J a)), some (.int (J b)), some (.int (J (17 * tN T))), some (.int (J (k : Int))), some (.int (J (17 * tN T))), x6, x7, x8] [] (R3 I f g l, X) Q) :
    ∀ (m : Nat) (s : Int) (g : Nat → Int) (x6 x7 x8 : Option Value), 0 ≤ s → s ≤ 17 * tN T → (17 * tN T - s).toNat = m → gK T nt f g s 0 → K shM (d + 3) 132 146 [some (.ref 0), some (.int (J a)), some (.int (J b)), some (.int (J (17 * tN T))), some (.int (J (k : Int))), some (.int (J s)), x6, x7, x8] [] (R3 I f g l, X) Q := by
  have hw := hB.2.2.1.1
  have hN := tN_le hw
  have hR := hB.2.1
  intro m
  induction m with
  | zero =>
    intro s g x6 x7 x8 h0 h1 hm hg
    have e : s = 17 * tN T := by omega
    subst e
    refine k_iload i_132_146 rfl ?_
    refine k_iload_n i_132_148 rfl ?_
    refine k_ic_ge (t := 255) i_132_149 rfl (by omega) (by omega) (fun h => ?_) (fun h => ?_)
    · exact hk g x6 x7 x8 hg
    · omega
  | succ m ih =>
    intro s g x6 x7 x8 h0 h1 hm hg
    have hfs := fK_range hw ha hf h0 (by omega)
    have back : ∀ (g : Nat → Int) (y6 : Int) (x7 x8 : Option Value), gK T nt f g (s + 1) 0 → K shM (d + 3) 132 249 [some (.ref 0), some (.int (J a)), some (.int (J b)), some (.int (J (17 * tN T))), some (.int (J (k : Int))), some (.int (J s)), some (.int (J y6)), x7, x8] [] (R3 I f g l, X) Q := by
      intro g y6 x7 x8 hg2
      refine k_iinc i_132_249 rfl (Nat.le_of_ble_eq_true rfl) ?_
      dsimp only [q_st1, q_st2, q_unl]
      refine k_goto (t := 146) i_132_252 rfl ?_
      exact ih (s + 1) g _ _ _ (by omega) (by omega) (by omega) hg2
    refine k_iload i_132_146 rfl ?_
    refine k_iload_n i_132_148 rfl ?_
    refine k_ic_ge (t := 255) i_132_149 rfl (by omega) (by omega) (fun h => ?_) (fun h => ?_)
    · omega
    · refine k_iconst i_132_152 ?_
      refine k_istore i_132_153 (Nat.le_of_ble_eq_true rfl) ?_
      dsimp only [q_st1, q_st2, q_unl]
      by_cases hlt : f s.toNat < 100000000
      · exact l_line_d hB ha k f l hf s ⟨h0, by omega⟩ hlt (fun g2 y7 y8 h2 => back g2 4 y7 y8 h2) 4 0 g x7 x8 (by omega) hg
      · refine k_iload i_132_155 rfl ?_
        refine k_iconst i_132_157 ?_
        refine k_ic_ge (t := 249) i_132_158 rfl (by omega) (by omega) (fun h => ?_) (fun h => ?_)
        · omega
        · refine k_aload_n i_132_161 rfl ?_
          refine k_gfR i_132_162 f_12_45 (by first | rfl | assumption | (rw [hR]; rfl) | (dsimp only; rw [hR]; rfl)) (by decide) (by decide) (Or.inr ⟨_, rfl⟩) (by first | rfl | assumption | (rw [hR]; rfl) | (dsimp only; rw [hR]; rfl)) ?_
          refine k_iload i_132_165 rfl ?_
          refine k_iald i_132_167 rfl (by decide) (by omega) (by omega) ?_
          rw [show (R3 I f g l, X).1 7 s.toNat = f s.toNat from by show R3 I f g l 7 _ = _; rw [R3_7]]
          refine k_ldc (a := 100000000) i_132_168 n_12_202 (by decide) ?_
          refine k_ic_ge (t := 249) i_132_170 rfl (by omega) (by omega) (fun h => ?_) (fun h => ?_)
          · exact back g 0 x7 x8 (gK_skip hg hlt)
          · omega
theorem l_line_t (hR : X.2 = rM) (hw : tWF T) (k : Int) (f l : Nat → Int)
    (hk : ∀ (g : Nat → Int) (x6 x7 x8 : Option Value), (∀ t : Int, 0 ≤ t → t < 17 * tN T → g t.toNat = 100000000) → K shM (d + 3) 132 143 [some (.ref 0), some (.int (J a)), some (.int (J b)), some (.int (J (17 * tN T))), some (.int (J k)), some (.int (J (17 * tN T))), x6, x7, x8] [] (R3 I f g l, X) Q) :
    ∀ (m : Nat) (s : Int) (g : Nat → Int) (x6 x7 x8 : Option Value), 0 ≤ s → s ≤ 17 * tN T → (17 * tN T - s).toNat = m → (∀ t : Int, 0 ≤ t → t < s → g t.toNat = 100000000) → K shM (d + 3) 132 122 [some (.ref 0), some (.int (J a)), some (.int (J b)), some (.int (J (17 * tN T))), some (.int (J k)), some (.int (J s)), x6, x7, x8] [] (R3 I f g l, X) Q := by
  have hN := tN_le hw
  intro m
  induction m with
  | zero =>
    intro s g x6 x7 x8 h0 h1 hm hg
    have e : s = 17 * tN T := by omega
    subst e
    refine k_iload i_132_122 rfl ?_
    refine k_iload_n i_132_124 rfl ?_
    refine k_ic_ge (t := 143) i_132_125 rfl (by omega) (by omega) (fun h => ?_) (fun h => ?_)
    · exact hk g x6 x7 x8 hg
    · omega
  | succ m ih =>
    intro s g x6 x7 x8 h0 h1 hm hg
    refine k_iload i_132_122 rfl ?_
    refine k_iload_n i_132_124 rfl ?_
    refine k_ic_ge (t := 143) i_132_125 rfl (by omega) (by omega) (fun h => ?_) (fun h => ?_)
    · omega
    · refine k_aload_n i_132_128 rfl ?_
      refine k_gfR i_132_129 f_12_48 (by first | rfl | assumption | (rw [hR]; rfl) | (dsimp only; rw [hR]; rfl)) (by decide) (by decide) (Or.inr ⟨_, rfl⟩) (by first | rfl | assumption | (rw [hR]; rfl) | (dsimp only; rw [hR]; rfl)) ?_
      refine k_iload i_132_132 rfl ?_
      refine k_ldc (a := 100000000) i_132_134 n_12_202 (by decide) ?_
      refine k_iast i_132_136 rfl (by decide) (by omega) (by omega) ?_
      dsimp only
      rw [R3_u8]
      refine k_iinc i_132_137 rfl (Nat.le_of_ble_eq_true rfl) ?_
      dsimp only [q_st1, q_st2, q_unl]
      refine k_goto (t := 122) i_132_140 rfl ?_
      refine ih (s + 1) _ _ _ _ (by omega) (by omega) (by omega) (fun t t0 t1 => ?_)
      by_cases e : t = s
      · subst e; rw [ud_s]
      · rw [ud_n (by omega)]; exact hg t t0 (by omega)
theorem l_line_c (hR : X.2 = rM) (hw : tWF T) (k : Int) (g l : Nat → Int)
    (hk : ∀ (f : Nat → Int) (x6 x7 x8 : Option Value), (∀ t : Int, 0 ≤ t → t < 17 * tN T → f t.toNat = g t.toNat) → K shM (d + 3) 132 284 [some (.ref 0), some (.int (J a)), some (.int (J b)), some (.int (J (17 * tN T))), some (.int (J k)), some (.int (J (17 * tN T))), x6, x7, x8] [] (R3 I f g l, X) Q) :
    ∀ (m : Nat) (s : Int) (f : Nat → Int) (x6 x7 x8 : Option Value), 0 ≤ s → s ≤ 17 * tN T → (17 * tN T - s).toNat = m → (∀ t : Int, 0 ≤ t → t < s → f t.toNat = g t.toNat) → K shM (d + 3) 132 258 [some (.ref 0), some (.int (J a)), some (.int (J b)), some (.int (J (17 * tN T))), some (.int (J k)), some (.int (J s)), x6, x7, x8] [] (R3 I f g l, X) Q := by
  have hN := tN_le hw
  intro m
  induction m with
  | zero =>
    intro s f x6 x7 x8 h0 h1 hm hg
    have e : s = 17 * tN T := by omega
    subst e
    refine k_iload i_132_258 rfl ?_
    refine k_iload_n i_132_260 rfl ?_
    refine k_ic_ge (t := 284) i_132_261 rfl (by omega) (by omega) (fun h => ?_) (fun h => ?_)
    · exact hk f x6 x7 x8 hg
    · omega
  | succ m ih =>
    intro s f x6 x7 x8 h0 h1 hm hg
    refine k_iload i_132_258 rfl ?_
    refine k_iload_n i_132_260 rfl ?_
    refine k_ic_ge (t := 284) i_132_261 rfl (by omega) (by omega) (fun h => ?_) (fun h => ?_)
    · omega
    · refine k_aload_n i_132_264 rfl ?_
      refine k_gfR i_132_265 f_12_45 (by first | rfl | assumption | (rw [hR]; rfl) | (dsimp only; rw [hR]; rfl)) (by decide) (by decide) (Or.inr ⟨_, rfl⟩) (by first | rfl | assumption | (rw [hR]; rfl) | (dsimp only; rw [hR]; rfl)) ?_
      refine k_iload i_132_268 rfl ?_
      refine k_aload_n i_132_270 rfl ?_
      refine k_gfR i_132_271 f_12_48 (by first | rfl | assumption | (rw [hR]; rfl) | (dsimp only; rw [hR]; rfl)) (by decide) (by decide) (Or.inr ⟨_, rfl⟩) (by first | rfl | assumption | (rw [hR]; rfl) | (dsimp only; rw [hR]; rfl)) ?_
      refine k_iload i_132_274 rfl ?_
      refine k_iald i_132_276 rfl (by decide) (by omega) (by omega) ?_
      rw [show (R3 I f g l, X).1 8 s.toNat = g s.toNat from by show R3 I f g l 8 _ = _; rw [R3_8]]
      refine k_iast i_132_277 rfl (by decide) (by omega) (by omega) ?_
      dsimp only
      rw [R3_u7]
      refine k_iinc i_132_278 rfl (Nat.le_of_ble_eq_true rfl) ?_
      dsimp only [q_st1, q_st2, q_unl]
      refine k_goto (t := 258) i_132_281 rfl ?_
      refine ih (s + 1) _ _ _ _ (by omega) (by omega) (by omega) (fun t t0 t1 => ?_)
      by_cases e : t = s
      · subst e; rw [ud_s]
      · rw [ud_n (by omega)]; exact hg t t0 (by omega)
end FL
