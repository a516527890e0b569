/-! THE STATE of both sides -/
abbrev Wk : Type := Int × Nat × Int × Int × (Nat → Int) × (Nat → Int) × (Nat → Int) × (Nat → Int)
abbrev Wk.pos (w : Wk) : Int := w.1
abbrev Wk.n (w : Wk) : Nat := w.2.1
abbrev Wk.paid (w : Wk) : Int := w.2.2.1
abbrev Wk.nt (w : Wk) : Int := w.2.2.2.1
abbrev Wk.p (w : Wk) : Nat → Int := w.2.2.2.2.1
abbrev Wk.d (w : Wk) : Nat → Int := w.2.2.2.2.2.1
abbrev Wk.r (w : Wk) : Nat → Int := w.2.2.2.2.2.2.1
abbrev Wk.f (w : Wk) : Nat → Int := w.2.2.2.2.2.2.2
abbrev Sg : Type := Tn × Nat × (Nat → Int) × Wk × (Nat → Bool) × (Nat → Wk) × Nat × (Nat → Int) × (Nat → Int) × Int64
abbrev Sg.T (s : Sg) : Tn := s.1
abbrev Sg.tl (s : Sg) : Nat := s.2.1
abbrev Sg.tb (s : Sg) : Nat → Int := s.2.2.1
abbrev Sg.w (s : Sg) : Wk := s.2.2.2.1
abbrev Sg.kp (s : Sg) : Nat → Bool := s.2.2.2.2.1
abbrev Sg.im (s : Sg) : Nat → Wk := s.2.2.2.2.2.1
abbrev Sg.en (s : Sg) : Nat := s.2.2.2.2.2.2.1
abbrev Sg.fr (s : Sg) : Nat → Int := s.2.2.2.2.2.2.2.1
abbrev Sg.to (s : Sg) : Nat → Int := s.2.2.2.2.2.2.2.2.1
abbrev Sg.mk (s : Sg) : Int64 := s.2.2.2.2.2.2.2.2.2
/-- a walk that can be in a town -/
def wkStep (T : Tn) (w : Wk) (i : Nat) : Prop := (0 ≤ w.d i ∧ w.d i < 4) ∧ tOpen T (w.p i) = true ∧ nx T (w.p i) (w.d i) = w.p (i + 1) ∧ 0 ≤ w.p (i + 1) ∧ w.r i = tRun T (w.p i) (if i = 0 then -1 else w.d (i - 1)) (if i = 0 then 0 else w.r (i - 1)) (w.d i)
def WkOK (T : Tn) (w : Wk) : Prop := w.n ≤ 60 ∧ (w.nt = 0 ∨ w.nt = 1) ∧ ((w.pos = -1 ∧ w.n = 0) ∨ tOpen T w.pos = true) ∧ w.p w.n = w.pos ∧ ∀ i, i < w.n → wkStep T w i
theorem WkOK.n60 {T : Tn} {w : Wk} (h : WkOK T w) : w.n ≤ 60 := h.1
theorem WkOK.nt01 {T : Tn} {w : Wk} (h : WkOK T w) : w.nt = 0 ∨ w.nt = 1 := h.2.1
theorem WkOK.pos {T : Tn} {w : Wk} (h : WkOK T w) : (w.pos = -1 ∧ w.n = 0) ∨ tOpen T w.pos = true := h.2.2.1
theorem WkOK.end_ {T : Tn} {w : Wk} (h : WkOK T w) : w.p w.n = w.pos := h.2.2.2.1
theorem WkOK.way {T : Tn} {w : Wk} (h : WkOK T w) : ∀ i, i < w.n → wkStep T w i := h.2.2.2.2
def XWk (I : Nat → Nat → Int) (c : Nat) (w : Wk) : Prop := I c 0 = w.pos ∧ I c 1 = w.paid ∧ I c 2 = w.n ∧ I c 3 = w.nt ∧ ∀ i, i < w.n → I (c + 1) i = w.p i ∧ I (c + 2) i = w.d i ∧ I (c + 3) i = w.r i ∧ I (c + 4) i = w.f i
def MWk (I : Nat → Nat → Int) (o : Nat) (w : Wk) : Prop := I 2 o = (if w.pos = -1 then -9 else w.pos) ∧ I 2 (o + 1) = w.paid ∧ I 2 (o + 2) = w.nt ∧ I 2 (o + 3) = w.n ∧ ∀ i, i < w.n → I 2 (o + 4 + i) = w.d i ∧ I 2 (o + 66 + i) = w.f i
/-- a byte as the class keeps it -/
def sb (v : Int) : Int := if v < 128 then v else v - 256
def SOK (σ : Sg) : Prop := (tOK σ.T) ∧ (σ.tl ≤ 200) ∧ (∀ i, i < σ.tl → 0 ≤ σ.tb i ∧ σ.tb i < 256) ∧ (WkOK σ.T σ.w) ∧ (∀ i, i < 2 → σ.kp i = true → WkOK σ.T (σ.im i)) ∧ (EOK σ.T σ.en σ.fr σ.to)
theorem SOK.ok {σ : Sg} (hh : SOK σ) : tOK σ.T := hh.1
theorem SOK.tl {σ : Sg} (hh : SOK σ) : σ.tl ≤ 200 := hh.2.1
theorem SOK.tb {σ : Sg} (hh : SOK σ) : ∀ i, i < σ.tl → 0 ≤ σ.tb i ∧ σ.tb i < 256 := hh.2.2.1
theorem SOK.wk {σ : Sg} (hh : SOK σ) : WkOK σ.T σ.w := hh.2.2.2.1
theorem SOK.im {σ : Sg} (hh : SOK σ) : ∀ i, i < 2 → σ.kp i = true → WkOK σ.T (σ.im i) := hh.2.2.2.2.1
theorem SOK.er {σ : Sg} (hh : SOK σ) : EOK σ.T σ.en σ.fr σ.to := hh.2.2.2.2.2
def XI (σ : Sg) (h s w : Nat) (I : Nat → Nat → Int) (X : XX) : Prop := (X.2 = rX h s w) ∧ ((h = 41 ∧ s = 44) ∨ (h = 44 ∧ s = 41)) ∧ (TAt shX (I, X) h σ.T) ∧ (TNx (I, X) h σ.T) ∧ (I 33 0 = 0) ∧ (I 34 0 = 0) ∧ (I 1 0 = σ.tl) ∧ (∀ i, i < σ.tl → I 2 i = sb (σ.tb i)) ∧ (XWk I 3 σ.w) ∧ (∀ i, i < 2 → I 19 i = bi (σ.kp i) ∧ (σ.kp i = true → XWk I (9 + 5 * i) (σ.im i))) ∧ (XEr I σ.en σ.fr σ.to) ∧ (X.1 0 9 = σ.mk)
theorem XI.rf {σ : Sg} {h s w : Nat} {I : Nat → Nat → Int} {X : XX} (hh : XI σ h s w I X) : X.2 = rX h s w := hh.1
theorem XI.hs {σ : Sg} {h s w : Nat} {I : Nat → Nat → Int} {X : XX} (hh : XI σ h s w I X) : (h = 41 ∧ s = 44) ∨ (h = 44 ∧ s = 41) := hh.2.1
theorem XI.ta {σ : Sg} {h s w : Nat} {I : Nat → Nat → Int} {X : XX} (hh : XI σ h s w I X) : TAt shX (I, X) h σ.T := hh.2.2.1
theorem XI.tn {σ : Sg} {h s w : Nat} {I : Nat → Nat → Int} {X : XX} (hh : XI σ h s w I X) : TNx (I, X) h σ.T := hh.2.2.2.1
theorem XI.z3 {σ : Sg} {h s w : Nat} {I : Nat → Nat → Int} {X : XX} (hh : XI σ h s w I X) : I 33 0 = 0 := hh.2.2.2.2.1
theorem XI.z4 {σ : Sg} {h s w : Nat} {I : Nat → Nat → Int} {X : XX} (hh : XI σ h s w I X) : I 34 0 = 0 := hh.2.2.2.2.2.1
theorem XI.tl {σ : Sg} {h s w : Nat} {I : Nat → Nat → Int} {X : XX} (hh : XI σ h s w I X) : I 1 0 = σ.tl := hh.2.2.2.2.2.2.1
theorem XI.tb {σ : Sg} {h s w : Nat} {I : Nat → Nat → Int} {X : XX} (hh : XI σ h s w I X) : ∀ i, i < σ.tl → I 2 i = sb (σ.tb i) := hh.2.2.2.2.2.2.2.1
theorem XI.wk {σ : Sg} {h s w : Nat} {I : Nat → Nat → Int} {X : XX} (hh : XI σ h s w I X) : XWk I 3 σ.w := hh.2.2.2.2.2.2.2.2.1
theorem XI.kp {σ : Sg} {h s w : Nat} {I : Nat → Nat → Int} {X : XX} (hh : XI σ h s w I X) : ∀ i, i < 2 → I 19 i = bi (σ.kp i) ∧ (σ.kp i = true → XWk I (9 + 5 * i) (σ.im i)) := hh.2.2.2.2.2.2.2.2.2.1
theorem XI.er {σ : Sg} {h s w : Nat} {I : Nat → Nat → Int} {X : XX} (hh : XI σ h s w I X) : XEr I σ.en σ.fr σ.to := hh.2.2.2.2.2.2.2.2.2.2.1
theorem XI.mk {σ : Sg} {h s w : Nat} {I : Nat → Nat → Int} {X : XX} (hh : XI σ h s w I X) : X.1 0 9 = σ.mk := hh.2.2.2.2.2.2.2.2.2.2.2
def MI (σ : Sg) (I : Nat → Nat → Int) (X : XX) : Prop := (MT (I, X) σ.T) ∧ (X.2 = rM) ∧ (I 0 10 = σ.tl) ∧ (∀ i, i < σ.tl → I 1 i = σ.tb i) ∧ (MWk I 0 σ.w) ∧ (∀ i, i < 2 → I 3 i = bi (σ.kp i) ∧ (σ.kp i = true → MWk I (130 * (1 + i)) (σ.im i))) ∧ (MEr I σ.en σ.fr σ.to) ∧ (X.1 0 16 = σ.mk)
theorem MI.mt {σ : Sg} {I : Nat → Nat → Int} {X : XX} (hh : MI σ I X) : MT (I, X) σ.T := hh.1
theorem MI.rf {σ : Sg} {I : Nat → Nat → Int} {X : XX} (hh : MI σ I X) : X.2 = rM := hh.2.1
theorem MI.tl {σ : Sg} {I : Nat → Nat → Int} {X : XX} (hh : MI σ I X) : I 0 10 = σ.tl := hh.2.2.1
theorem MI.tb {σ : Sg} {I : Nat → Nat → Int} {X : XX} (hh : MI σ I X) : ∀ i, i < σ.tl → I 1 i = σ.tb i := hh.2.2.2.1
theorem MI.wk {σ : Sg} {I : Nat → Nat → Int} {X : XX} (hh : MI σ I X) : MWk I 0 σ.w := hh.2.2.2.2.1
theorem MI.kp {σ : Sg} {I : Nat → Nat → Int} {X : XX} (hh : MI σ I X) : ∀ i, i < 2 → I 3 i = bi (σ.kp i) ∧ (σ.kp i = true → MWk I (130 * (1 + i)) (σ.im i)) := hh.2.2.2.2.2.1
theorem MI.er {σ : Sg} {I : Nat → Nat → Int} {X : XX} (hh : MI σ I X) : MEr I σ.en σ.fr σ.to := hh.2.2.2.2.2.2.1
theorem MI.mk {σ : Sg} {I : Nat → Nat → Int} {X : XX} (hh : MI σ I X) : X.1 0 16 = σ.mk := hh.2.2.2.2.2.2.2
theorem XWk.same {I I' : Nat → Nat → Int} {c : Nat} {w : Wk} (h : XWk I c w) (e : ∀ k, k < 5 → I' (c + k) = I (c + k)) : XWk I' c w := by
  unfold XWk at h ⊢
  have e0 := e 0 (by omega)
  rw [Nat.add_zero] at e0
  rw [e0, e 1 (by omega), e 2 (by omega), e 3 (by omega), e 4 (by omega)]
  exact h
theorem MWk.same {I I' : Nat → Nat → Int} {o : Nat} {w : Wk} (h : MWk I o w) (e : I' 2 = I 2) : MWk I' o w := by
  unfold MWk at h ⊢
  rw [e]
  exact h
theorem XI.xb {σ : Sg} {h s w : Nat} {I : Nat → Nat → Int} {X : XX} (hX : XI σ h s w I X) (hS : SOK σ) : XB I X h s w σ.T σ.w.nt := ⟨hX.rf, by have := hX.hs; omega, hX.ta, hX.tn, hS.ok, hX.wk.2.2.2.1, hS.wk.nt01, hX.z3, hX.z4⟩
theorem MI.mb {σ : Sg} {I : Nat → Nat → Int} {X : XX} (hM : MI σ I X) (hS : SOK σ) : MB I X σ.T σ.w.nt := ⟨hM.mt, hM.rf, hS.ok, hM.wk.2.2.1, hS.wk.nt01⟩
/-- what ways leave alone -/
theorem XI.scr {σ : Sg} {h s w w' : Nat} {I I' : Nat → Nat → Int} {X : XX} (hX : XI σ h s w I X) (hs : ScrE I I') : XI σ h s w' I' (X.1, rX h s w') := by
  have hh := hX.hs
  have same : ∀ c, c ≠ 23 → c ≠ 24 → (c < 32 ∨ 40 < c) → I' c = I c := hs.1
  refine ⟨rfl, hX.hs, hX.ta.same (same h (by omega) (by omega) (by omega)) (same (h + 1) (by omega) (by omega) (by omega)) ?_, hX.tn.same (same (h + 2) (by omega) (by omega) (by omega)), by rw [hs.2.1]; exact hX.z3, by rw [hs.2.2]; exact hX.z4, by rw [same 1 (by omega) (by omega) (by omega)]; exact hX.tl, ?_, hX.wk.same (fun k hk => same _ (by omega) (by omega) (by omega)), fun i hi => ⟨?_, fun hk => ((hX.kp i hi).2 hk).same (fun k hk => same _ (by omega) (by omega) (by omega))⟩, hX.er.sc (fun c hc => same c (by omega) (by omega) (by omega)), hX.mk⟩
  · show rX h s w' h = X.2 h
    rw [hX.rf]
    exact rX_t (by omega)
  · rw [same 2 (by omega) (by omega) (by omega)]; exact hX.tb
  · rw [same 19 (by omega) (by omega) (by omega)]; exact (hX.kp i hi).1
theorem MI.scr {σ : Sg} {I I' : Nat → Nat → Int} {X : XX} (hM : MI σ I X) (hs : ScM I I') : MI σ I' X := by
  refine ⟨?_, hM.rf, by rw [hs 0 (by omega)]; exact hM.tl, by rw [hs 1 (by omega)]; exact hM.tb, hM.wk.same (hs 2 (by omega)), fun i hi => ⟨by rw [hs 3 (by omega)]; exact (hM.kp i hi).1, fun hk => ((hM.kp i hi).2 hk).same (hs 2 (by omega))⟩, hM.er.scr hs, hM.mk⟩
  have h1 := hM.mt
  unfold MT at h1 ⊢
  simp only [hs 0 (by omega)]
  exact h1
/-- a change of the class's cells below Ways -/
theorem XI.upd {σ σ' : Sg} {h s w : Nat} {I I' : Nat → Nat → Int} {X : XX} {L : Nat → Nat → Int64} (hX : XI σ h s w I X) (hT : σ'.T = σ.T) (hc : ∀ c, 32 ≤ c → I' c = I c) (tl : I' 1 0 = σ'.tl) (tb : ∀ i, i < σ'.tl → I' 2 i = sb (σ'.tb i)) (wk : XWk I' 3 σ'.w) (kp : ∀ i, i < 2 → I' 19 i = bi (σ'.kp i) ∧ (σ'.kp i = true → XWk I' (9 + 5 * i) (σ'.im i))) (er : XEr I' σ'.en σ'.fr σ'.to) (mk : L 0 9 = σ'.mk) : XI σ' h s w I' (L, X.2) := by
  have hh := hX.hs
  refine ⟨hX.rf, hX.hs, ?_, ?_, by rw [hc 33 (by omega)]; exact hX.z3, by rw [hc 34 (by omega)]; exact hX.z4, tl, tb, wk, kp, er, mk⟩
  · rw [hT]; exact hX.ta.same (hc h (by omega)) (hc (h + 1) (by omega)) rfl
  · rw [hT]; exact hX.tn.same (hc (h + 2) (by omega))
theorem MI.upd {σ σ' : Sg} {I I' : Nat → Nat → Int} {X : XX} {L : Nat → Nat → Int64} (hM : MI σ I X) (hT : σ'.T = σ.T) (hc : ∀ k, k < 9 → I' 0 k = I 0 k) (tl : I' 0 10 = σ'.tl) (tb : ∀ i, i < σ'.tl → I' 1 i = σ'.tb i) (wk : MWk I' 0 σ'.w) (kp : ∀ i, i < 2 → I' 3 i = bi (σ'.kp i) ∧ (σ'.kp i = true → MWk I' (130 * (1 + i)) (σ'.im i))) (er : MEr I' σ'.en σ'.fr σ'.to) (mk : L 0 16 = σ'.mk) : MI σ' I' (L, X.2) := by
  refine ⟨?_, hM.rf, tl, tb, wk, kp, er, mk⟩
  have h1 := hM.mt
  unfold MT at h1 ⊢
  rw [hT]
  simp only [hc 0 (by omega), hc 1 (by omega), hc 2 (by omega), hc 3 (by omega), hc 4 (by omega), hc 5 (by omega), hc 6 (by omega), hc 7 (by omega), hc 8 (by omega)]
  exact h1
/-- what both sides owe of a call: one answer, one state -/
def OX (σ : Sg) (h s w j d : Nat) (I : Nat → Nat → Int) (X : XX) (as : List Value) (v : Value) (σ' : Sg) : Prop := KC shX d j (.ref 0 :: as) (I, X) (fun r S2 => r = some v ∧ ∃ h s w, XI σ' h s w S2.1 S2.2)
def OM (j d : Nat) (I : Nat → Nat → Int) (X : XX) (as : List Value) (v : Value) (σ' : Sg) : Prop := KC shM d j (.ref 0 :: as) (I, X) (fun r S2 => r = some v ∧ MI σ' S2.1 S2.2)
/-! calls that ask for ways -/
section SW
variable {σ : Sg} {h s w d : Nat} {I : Nat → Nat → Int} {X : XX}
theorem ox_of (hX : XI σ h s w I X) {j : Nat} {as : List Value} {v : Value} (hk : KC shX d j (.ref 0 :: as) (I, X) (fun r S2 => r = some v ∧ ∃ I' w', S2 = (I', X.1, rX h s w') ∧ ScrE I I')) : OX σ h s w j d I X as v σ := by
  refine hk.mono (fun r S2 hh => ⟨hh.1, ?_⟩)
  obtain ⟨I', w', rfl, hs⟩ := hh.2
  exact ⟨h, s, w', hX.scr hs⟩
theorem ox_of' (hX : XI σ h s w I X) {j : Nat} {as : List Value} {v : Value} (hk : KC shX d j (.ref 0 :: as) (I, X) (fun r S2 => r = some v ∧ ∃ I' w', S2 = (I', X.1, rX h s w') ∧ Scr I I')) : OX σ h s w j d I X as v σ := ox_of hX (hk.mono (fun r S2 ⟨h1, I', w', h2, h3⟩ => ⟨h1, I', w', h2, h3.e⟩))
theorem ox_pure (hX : XI σ h s w I X) {j : Nat} {as : List Value} {v : Value} (hk : KP shX d j (.ref 0 :: as) (I, X) v) : OX σ h s w j d I X as v σ := by
  refine hk.mono (fun r S2 hh => ⟨hh.1, ?_⟩)
  rw [hh.2]
  exact ⟨h, s, w, hX⟩
theorem om_of (hM : MI σ I X) {j : Nat} {as : List Value} {v : Value} (hk : KC shM d j (.ref 0 :: as) (I, X) (fun r S2 => r = some v ∧ ∃ I', S2 = (I', X) ∧ ScM I I')) : OM j d I X as v σ := by
  refine hk.mono (fun r S2 hh => ⟨hh.1, ?_⟩)
  obtain ⟨I', rfl, hs⟩ := hh.2
  exact hM.scr hs
theorem om_pure (hM : MI σ I X) {j : Nat} {as : List Value} {v : Value} (hk : KP shM d j (.ref 0 :: as) (I, X) v) : OM j d I X as v σ := by
  refine hk.mono (fun r S2 hh => ⟨hh.1, ?_⟩)
  rw [hh.2]
  exact hM
theorem sx_cost (hX : XI σ h s w I X) (hS : SOK σ) (a b : Int) (ha : inJ a) (hb : inJ b) : OX σ h s w 79 (d + 4) I X [.int (J a), .int (J b)] (.int (J (Fco σ.T σ.w.nt a b))) σ := ox_of' hX (x_cost (hX.xb hS) a b ha hb)
theorem sx_cheapest (hX : XI σ h s w I X) (hS : SOK σ) (a b i : Int) (ha : inJ a) (hb : inJ b) (hi : inJ i) : OX σ h s w 81 (d + 5) I X [.int (J a), .int (J b), .int (J i)] (.int (J (Fch σ.T σ.w.nt a b i))) σ := ox_of' hX (x_cheapest (hX.xb hS) a b i ha hb hi)
theorem sx_quickest (hX : XI σ h s w I X) (hS : SOK σ) (a b i : Int) (ha : inJ a) (hb : inJ b) (hi : inJ i) : OX σ h s w 83 (d + 6) I X [.int (J a), .int (J b), .int (J i)] (.int (J (Fqu σ.T σ.w.nt a b i))) σ := ox_of' hX (x_quickest (hX.xb hS) a b i ha hb hi)
theorem sx_line (hX : XI σ h s w I X) (hS : SOK σ) (a b i t : Int) (ha : inJ a) (hb : inJ b) (hi : inJ i) (ht : inJ t) : OX σ h s w 84 (d + 6) I X [.int (J a), .int (J b), .int (J i), .int (J t)] (.int (J (Fln σ.T σ.w.nt a b i t))) σ := ox_of' hX (x_line (hX.xb hS) a b i t ha hb hi ht)
theorem sx_fewTurns (hX : XI σ h s w I X) (hS : SOK σ) (a b : Int) (ha : inJ a) (hb : inJ b) : OX σ h s w 85 (d + 4) I X [.int (J a), .int (J b)] (.int (J (Fft σ.T a b))) σ := ox_pure hX (x_fewTurns (hX.xb hS) a b ha hb)
theorem sx_round (hX : XI σ h s w I X) (hS : SOK σ) (a b : Int) (ha : inJ a) (hb : inJ b) : OX σ h s w 87 (d + 21) I X [.int (J a), .int (J b)] (.int (J (Fro σ.T σ.w.nt a b))) σ := ox_of' hX (x_round (hX.xb hS) a b ha hb)
theorem sx_help (hX : XI σ h s w I X) (hS : SOK σ) (a : Int) (ha : inJ a) : OX σ h s w 91 (d + 7) I X [.int (J a)] (.int (J (Fhe σ.T σ.w.nt σ.en σ.fr σ.to a))) σ := ox_of hX (x_help (hX.xb hS) hX.er hS.er a ha)
theorem sx_fits (hX : XI σ h s w I X) (hS : SOK σ) (a b i t : Int) (ha : inJ a) (hb : inJ b) (hi : inJ i) (ht : inJ t) : OX σ h s w 92 (d + 13) I X [.int (J a), .int (J b), .int (J i), .int (J t)] (.int (J (Ffi σ.T σ.w.nt a b i t))) σ := ox_of' hX (x_fits (hX.xb hS) a b i t ha hb hi ht)
theorem sm_cost (hM : MI σ I X) (hS : SOK σ) (a b : Int) (ha : inJ a) (hb : inJ b) : OM 124 (d + 3) I X [.int (J a), .int (J b)] (.int (J (Fco σ.T σ.w.nt a b))) σ := om_of hM ((m_cost (hM.mb hS) a b ha hb).mono (fun r S2 hh => ⟨hh.1, I, hh.2, ScM.rf⟩))
theorem sm_cheapest (hM : MI σ I X) (hS : SOK σ) (a b i : Int) (ha : inJ a) (hb : inJ b) (hi : inJ i) : OM 125 (d + 4) I X [.int (J a), .int (J b), .int (J i)] (.int (J (Fch σ.T σ.w.nt a b i))) σ := om_of hM (m_cheapest (hM.mb hS) a b i ha hb hi)
theorem sm_quickest (hM : MI σ I X) (hS : SOK σ) (a b i : Int) (ha : inJ a) (hb : inJ b) (hi : inJ i) : OM 131 (d + 4) I X [.int (J a), .int (J b), .int (J i)] (.int (J (Fqu σ.T σ.w.nt a b i))) σ := om_of hM (m_quickest (hM.mb hS) a b i ha hb hi)
theorem sm_line (hM : MI σ I X) (hS : SOK σ) (a b i t : Int) (ha : inJ a) (hb : inJ b) (hi : inJ i) (ht : inJ t) : OM 133 (d + 4) I X [.int (J a), .int (J b), .int (J i), .int (J t)] (.int (J (Fln σ.T σ.w.nt a b i t))) σ := om_of hM (m_line (hM.mb hS) a b i t ha hb hi ht)
theorem sm_fewTurns (hM : MI σ I X) (hS : SOK σ) (a b : Int) (ha : inJ a) (hb : inJ b) : OM 134 (d + 4) I X [.int (J a), .int (J b)] (.int (J (Fft σ.T a b))) σ := om_pure hM (m_fewTurns (hM.mb hS) a b ha hb)
theorem sm_round (hM : MI σ I X) (hS : SOK σ) (a b : Int) (ha : inJ a) (hb : inJ b) : OM 135 (d + 5) I X [.int (J a), .int (J b)] (.int (J (Fro σ.T σ.w.nt a b))) σ := om_of hM (m_round (hM.mb hS) a b ha hb)
theorem sm_help (hM : MI σ I X) (hS : SOK σ) (a : Int) (ha : inJ a) : OM 140 (d + 5) I X [.int (J a)] (.int (J (Fhe σ.T σ.w.nt σ.en σ.fr σ.to a))) σ := om_of hM (m_help (hM.mb hS) hM.er hS.er a ha)
theorem sm_fits (hM : MI σ I X) (hS : SOK σ) (a b i t : Int) (ha : inJ a) (hb : inJ b) (hi : inJ i) (ht : inJ t) : OM 141 (d + 4) I X [.int (J a), .int (J b), .int (J i), .int (J t)] (.int (J (Ffi σ.T σ.w.nt a b i t))) σ := om_of hM (m_fits (hM.mb hS) a b i t ha hb hi ht)
end SW
