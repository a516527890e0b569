/-! THE TWO SYSTEMS ARE ONE -/
theorem tAh_nx {T : Tn} (hw : tWF T) {c q : Int} (hc : 0 ≤ c ∧ c < tN T) (hq : 0 ≤ q ∧ q < 4) : tAh T c q = nx T c q := by
  have hN := tN_le hw
  unfold tAh
  rw [if_pos ⟨⟨hc.1, by omega⟩, hq⟩, if_pos hc.2]
theorem nx_open {T : Tn} {c q : Int} (h : 0 ≤ nx T c q) : tOpen T (nx T c q) = true := by
  unfold nx at h ⊢
  split at h
  · rename_i h1; rw [if_pos h1]; exact h1
  · omega
theorem open_house {T : Tn} (hw : tWF T) {c : Int} (hc : 0 ≤ c ∧ c < tN T) {s : Int} (hs : s / 17 = c) (h : tOpen T c = true) : ¬ mHouse T s := by
  have hN := tN_le hw
  unfold mHouse
  rw [hs]
  unfold tOpen tOn at h
  rw [if_pos (by omega)] at h
  simp at h
  exact h.2
theorem eE_range {T : Tn} (hw : tWF T) {nt b : Int} {el : Nat} {g : Int → Int} (hg : fx T nt el b 1024 1073741824 g) {c q : Int} (hq : 0 ≤ q ∧ q < 4) : 0 ≤ eE T nt b g c q ∧ eE T nt b g c q ≤ 1073741824 := by
  unfold eE
  split
  · rename_i h
    have h1 := nx_range hw c q
    have h2 := gs_range (T := T) (c := nx T c q) (q := q) (r := 1) (by omega) hq (by omega)
    have h3 := (hg _ h2.1 h2.2).1
    have h4 := tPrice4 hw (nt := nt) (r := 1) (by omega)
    unfold W1
    omega
  · omega
/-- from a state, by a step that begins a run -/
theorem fx_new {T : Tn} (hw : tWF T) {nt b : Int} {g : Int → Int} (hg : fx T nt (tMask T 2) b 1024 1073741824 g) {s : Int} (hs : 0 ≤ s ∧ s < 17 * tN T) (hsb : s / 17 ≠ b) (ho : tOpen T (s / 17) = true) {p : Int} (hp : 0 ≤ p ∧ p < 4) (hr : mRun s p = 1) : g s ≤ eE T nt b g (s / 17) p ∧ (0 ≤ mE T (tMask T 2) s p → eE T nt b g (s / 17) p = min 1073741824 (g (mE T (tMask T 2) s p) + 1024 * tPrice T nt (mRun s p) + 1)) := by
  have hd : 0 ≤ s / 17 ∧ s / 17 < tN T := by omega
  have hh := open_house hw hd rfl ho
  obtain ⟨f1, f2, f3, f4, f5⟩ := hg s hs.1 hs.2
  have e1 := mE_of hw hs hp (by omega)
  by_cases hn : nx T (s / 17) p < 0
  · rw [if_pos hn] at e1
    have e2 : eE T nt b g (s / 17) p = 1073741824 := by unfold eE; rw [if_neg (by rintro ⟨-, -, z⟩; omega)]
    exact ⟨by omega, fun z => by omega⟩
  · rw [if_neg hn, hr] at e1
    have e2 : eE T nt b g (s / 17) p = min 1073741824 (W1 T nt 1 + g (gs T (nx T (s / 17) p) p 1)) := by unfold eE; rw [if_pos ⟨hsb, ho, by omega⟩]
    have e3 : 0 ≤ mE T (tMask T 2) s p := by rw [e1]; exact (gs_range (T := T) (by have := nx_range hw (s / 17) p; omega) hp (by omega)).1
    have f6 := f4 hsb hh p hp.1 hp.2 e3
    rw [e1, hr] at f6
    rw [e2, e1, hr]
    unfold W1
    constructor
    · omega
    · intro _; omega
/-- going straight on, exactly -/
theorem sO_exact {T : Tn} (hw : tWF T) {nt b : Int} {g : Int → Int} (hg : fx T nt (tMask T 2) b 1024 1073741824 g) {q : Int} (hq : 0 ≤ q ∧ q < 4) : ∀ (m : Nat) (c : Int), m < 4 → 0 ≤ c → c < tN T → sO T nt (eV T nt b g) q (m + 1) c = if nx T c q < 0 then 1073741824 else min 1073741824 (W1 T nt (4 - (m : Int)) + g (gs T (nx T c q) q (4 - (m : Int)))) := by
  have hN := tN_le hw
  intro m
  induction m with
  | zero =>
    intro c hm c0 c1
    have e0 : tAh T c q = nx T c q := tAh_nx hw ⟨c0, c1⟩ hq
    show (if tAh T c q < 0 then 1073741824 else min 1073741824 (W1 T nt (4 - ((0 : Nat) : Int)) + min (eV T nt b g (tAh T c q) q) (if tElb T (tAh T c q) = true then 1073741824 else sO T nt (eV T nt b g) q 0 (tAh T c q)))) = if nx T c q < 0 then 1073741824 else min 1073741824 (W1 T nt (4 - ((0 : Nat) : Int)) + g (gs T (nx T c q) q (4 - ((0 : Nat) : Int))))
    rw [e0]
    by_cases hn : nx T c q < 0
    · rw [if_pos hn, if_pos hn]
    · rw [if_neg hn, if_neg hn]
      have h1 := nx_range hw c q
      have hgr := gs_range (T := T) (c := nx T c q) (q := q) (r := 4 - ((0 : Nat) : Int)) (by omega) hq (by omega)
      have hdv := gs_div (T := T) (c := nx T c q) (q := q) (r := 4 - ((0 : Nat) : Int)) hq (by omega)
      have hGr := (hg _ hgr.1 hgr.2).1
      have hW : 0 < W1 T nt (4 - ((0 : Nat) : Int)) := by
        have := tPrice4 hw (nt := nt) (r := 4 - ((0 : Nat) : Int)) (by omega)
        unfold W1; omega
      by_cases hb : nx T c q = b
      · have e1 : eV T nt b g (nx T c q) q = 0 := by unfold eV; rw [if_pos hb]
        have e2 := (hg _ hgr.1 hgr.2).2.1 (hdv.trans hb)
        rw [e1, e2]
        have : 0 ≤ (if tElb T (nx T c q) = true then 1073741824 else sO T nt (eV T nt b g) q 0 (nx T c q)) := by split <;> (try unfold sO) <;> omega
        omega
      · have ho := nx_open (T := T) (c := c) (q := q) (by omega)
        have eVd : eV T nt b g (nx T c q) q = tu (eE T nt b g) (nx T c q) (if tElb T (nx T c q) = true then -1 else q) := by unfold eV; rw [if_neg hb]
        have hsO : (if tElb T (nx T c q) = true then (1073741824 : Int) else sO T nt (eV T nt b g) q 0 (nx T c q)) = 1073741824 := by split <;> rfl
        rw [hsO, eVd]
        have hrun : ∀ p : Int, 0 ≤ p → p < 4 → p ≠ (if tElb T (nx T c q) = true then -1 else q) → mRun (gs T (nx T c q) q (4 - ((0 : Nat) : Int))) p = 1 := by
          intro p p0 p1 hpn
          rw [mRun_gs (by omega) hq (by omega), if_neg]
          rintro ⟨z1, z2⟩
          rw [if_neg (by rw [z1]; decide)] at hpn
          exact hpn z2.symm
        have hge : g (gs T (nx T c q) q (4 - ((0 : Nat) : Int))) ≤ tu (eE T nt b g) (nx T c q) (if tElb T (nx T c q) = true then -1 else q) := by
          rcases tuk_is (O := eE T nt b g) (c := nx T c q) (but := if tElb T (nx T c q) = true then -1 else q) 4 with h | ⟨p, p1, p2, p3⟩
          · unfold tu; omega
          · have := (fx_new hw hg hgr (by rw [hdv]; exact hb) (by rw [hdv]; exact ho) (p := p) (by omega) (hrun p p1.1 (by omega) p2)).1
            rw [hdv] at this
            unfold tu
            omega
        have hle : g (gs T (nx T c q) q (4 - ((0 : Nat) : Int))) < 1073741824 → tu (eE T nt b g) (nx T c q) (if tElb T (nx T c q) = true then -1 else q) ≤ g (gs T (nx T c q) q (4 - ((0 : Nat) : Int))) := by
          intro hF
          obtain ⟨p, p1, p2, p3⟩ := (hg _ hgr.1 hgr.2).2.2.2.2 (by rw [hdv]; exact hb) hF
          have hr4 := mE_run p2
          rw [mRun_gs (by omega) hq (by omega)] at hr4
          have hpn : p ≠ (if tElb T (nx T c q) = true then -1 else q) := by
            intro z
            by_cases he : tElb T (nx T c q) = true
            · rw [if_pos he] at z; omega
            · rw [if_neg he] at z
              rw [if_pos ⟨by cases h : tElb T (nx T c q); rfl; exact absurd h he, z.symm⟩] at hr4
              omega
          have h5 := (fx_new hw hg hgr (by rw [hdv]; exact hb) (by rw [hdv]; exact ho) p1 (hrun p p1.1 p1.2 hpn)).2 p2
          rw [hdv] at h5
          have h6 := tuk_ge (O := eE T nt b g) (c := nx T c q) 4 p p1.1 p1.2 hpn
          unfold tu
          omega
        have htl := tuk_le (O := eE T nt b g) (c := nx T c q) (but := if tElb T (nx T c q) = true then -1 else q) 4
        by_cases hF : g (gs T (nx T c q) q (4 - ((0 : Nat) : Int))) < 1073741824
        · have := hle hF; unfold tu at this hge ⊢; omega
        · unfold tu at hge ⊢; omega
  | succ m ih =>
    intro c hm c0 c1
    have e0 : tAh T c q = nx T c q := tAh_nx hw ⟨c0, c1⟩ hq
    show (if tAh T c q < 0 then 1073741824 else _) = _
    rw [e0]
    by_cases hn : nx T c q < 0
    · rw [if_pos hn, if_pos hn]
    · rw [if_neg hn, if_neg hn]
      have h1 := nx_range hw c q
      have ih1 := ih (nx T c q) (by omega) (by omega) (by omega)
      have hgr := gs_range (T := T) (c := nx T c q) (q := q) (r := 4 - ((m + 1 : Nat) : Int)) (by omega) hq (by omega)
      have hdv := gs_div (T := T) (c := nx T c q) (q := q) (r := 4 - ((m + 1 : Nat) : Int)) hq (by omega)
      have hGr := (hg _ hgr.1 hgr.2).1
      have hW : 0 < W1 T nt (4 - ((m + 1 : Nat) : Int)) := by
        have := tPrice4 hw (nt := nt) (r := 4 - ((m + 1 : Nat) : Int)) (by omega)
        unfold W1; omega
      have hW2 : 0 < W1 T nt (4 - (m : Int)) := by
        have := tPrice4 hw (nt := nt) (r := 4 - (m : Int)) (by omega)
        unfold W1; omega
      -- what going on costs
      have hson : 0 ≤ sO T nt (eV T nt b g) q (m + 1) (nx T c q) ∧ sO T nt (eV T nt b g) q (m + 1) (nx T c q) ≤ 1073741824 := by
        rw [ih1]
        split
        · omega
        · have h2 := nx_range hw (nx T c q) q
          have hg2 := gs_range (T := T) (c := nx T (nx T c q) q) (q := q) (r := 4 - (m : Int)) (by omega) hq (by omega)
          have := (hg _ hg2.1 hg2.2).1
          omega
      by_cases hb : nx T c q = b
      · have e1 : eV T nt b g (nx T c q) q = 0 := by unfold eV; rw [if_pos hb]
        have e2 := (hg _ hgr.1 hgr.2).2.1 (hdv.trans hb)
        rw [e1, e2]
        have : 0 ≤ (if tElb T (nx T c q) = true then 1073741824 else sO T nt (eV T nt b g) q (m + 1) (nx T c q)) := by split <;> omega
        omega
      · have ho := nx_open (T := T) (c := c) (q := q) (by omega)
        have hhs := open_house hw (c := nx T c q) (by omega) hdv ho
        have eVd : eV T nt b g (nx T c q) q = tu (eE T nt b g) (nx T c q) (if tElb T (nx T c q) = true then -1 else q) := by unfold eV; rw [if_neg hb]
        rw [eVd]
        have hrun : ∀ p : Int, 0 ≤ p → p < 4 → p ≠ (if tElb T (nx T c q) = true then -1 else q) → mRun (gs T (nx T c q) q (4 - ((m + 1 : Nat) : Int))) p = 1 := by
          intro p p0 p1 hpn
          rw [mRun_gs (by omega) hq (by omega), if_neg]
          rintro ⟨z1, z2⟩
          rw [if_neg (by rw [z1]; decide)] at hpn
          exact hpn z2.symm
        -- the straight edge
        have hstr : tElb T (nx T c q) = false → g (gs T (nx T c q) q (4 - ((m + 1 : Nat) : Int))) ≤ sO T nt (eV T nt b g) q (m + 1) (nx T c q) ∧ (0 ≤ mE T (tMask T 2) (gs T (nx T c q) q (4 - ((m + 1 : Nat) : Int))) q → sO T nt (eV T nt b g) q (m + 1) (nx T c q) = min 1073741824 (g (mE T (tMask T 2) (gs T (nx T c q) q (4 - ((m + 1 : Nat) : Int))) q) + 1024 * tPrice T nt (mRun (gs T (nx T c q) q (4 - ((m + 1 : Nat) : Int))) q) + 1)) := by
          intro he
          have hr : mRun (gs T (nx T c q) q (4 - ((m + 1 : Nat) : Int))) q = 4 - (m : Int) := by rw [mRun_gs (by omega) hq (by omega), if_pos ⟨he, rfl⟩]; omega
          have e1 := mE_of hw hgr hq (by omega)
          rw [hdv, hr] at e1
          rw [ih1, hr]
          by_cases hn2 : nx T (nx T c q) q < 0
          · rw [if_pos hn2] at e1 ⊢
            exact ⟨by omega, fun z => by omega⟩
          · rw [if_neg hn2] at e1 ⊢
            have h2 := nx_range hw (nx T c q) q
            have hg2 := gs_range (T := T) (c := nx T (nx T c q) q) (q := q) (r := 4 - (m : Int)) (by omega) hq (by omega)
            have f6 := (hg _ hgr.1 hgr.2).2.2.2.1 (by rw [hdv]; exact hb) hhs q hq.1 hq.2 (by rw [e1]; exact hg2.1)
            rw [e1, hr] at f6
            rw [e1]
            unfold W1
            exact ⟨by omega, fun _ => by omega⟩
        have hge : g (gs T (nx T c q) q (4 - ((m + 1 : Nat) : Int))) ≤ tu (eE T nt b g) (nx T c q) (if tElb T (nx T c q) = true then -1 else q) := by
          rcases tuk_is (O := eE T nt b g) (c := nx T c q) (but := if tElb T (nx T c q) = true then -1 else q) 4 with h | ⟨p, p1, p2, p3⟩
          · unfold tu; omega
          · have := (fx_new hw hg hgr (by rw [hdv]; exact hb) (by rw [hdv]; exact ho) (p := p) (by omega) (hrun p p1.1 (by omega) p2)).1
            rw [hdv] at this
            unfold tu
            omega
        have htl := tuk_le (O := eE T nt b g) (c := nx T c q) (but := if tElb T (nx T c q) = true then -1 else q) 4
        -- one of them is taken
        have hle : g (gs T (nx T c q) q (4 - ((m + 1 : Nat) : Int))) < 1073741824 → tu (eE T nt b g) (nx T c q) (if tElb T (nx T c q) = true then -1 else q) ≤ g (gs T (nx T c q) q (4 - ((m + 1 : Nat) : Int))) ∨ (tElb T (nx T c q) = false ∧ sO T nt (eV T nt b g) q (m + 1) (nx T c q) ≤ g (gs T (nx T c q) q (4 - ((m + 1 : Nat) : Int)))) := by
          intro hF
          obtain ⟨p, p1, p2, p3⟩ := (hg _ hgr.1 hgr.2).2.2.2.2 (by rw [hdv]; exact hb) hF
          by_cases hpn : p ≠ (if tElb T (nx T c q) = true then -1 else q)
          · left
            have h5 := (fx_new hw hg hgr (by rw [hdv]; exact hb) (by rw [hdv]; exact ho) p1 (hrun p p1.1 p1.2 hpn)).2 p2
            rw [hdv] at h5
            have h6 := tuk_ge (O := eE T nt b g) (c := nx T c q) 4 p p1.1 p1.2 hpn
            unfold tu
            omega
          · right
            have hpe : p = (if tElb T (nx T c q) = true then -1 else q) := Decidable.of_not_not hpn
            by_cases he : tElb T (nx T c q) = true
            · rw [if_pos he] at hpe; omega
            · rw [if_neg he] at hpe
              subst hpe
              have he' : tElb T (nx T c p) = false := by cases h : tElb T (nx T c p); rfl; exact absurd h he
              have := (hstr he').2 p2
              exact ⟨he', by omega⟩
        by_cases he : tElb T (nx T c q) = true
        · rw [if_pos he] at hge hle htl ⊢
          by_cases hF : g (gs T (nx T c q) q (4 - ((m + 1 : Nat) : Int))) < 1073741824
          · rcases hle hF with z | z
            · unfold tu at z hge ⊢; rw [if_pos he] ; omega
            · rw [he] at z; exact absurd z.1 (by decide)
          · unfold tu at hge ⊢; rw [if_pos he]; omega
        · have he' : tElb T (nx T c q) = false := by cases h : tElb T (nx T c q); rfl; exact absurd h he
          have h7 := (hstr he').1
          rw [if_neg he] at hge hle htl ⊢
          by_cases hF : g (gs T (nx T c q) q (4 - ((m + 1 : Nat) : Int))) < 1073741824
          · rcases hle hF with z | z
            · unfold tu at z hge ⊢; rw [if_neg he]; omega
            · unfold tu at hge ⊢; rw [if_neg he]; omega
          · unfold tu at hge ⊢; rw [if_neg he]; omega
theorem xfx_of {T : Tn} (hw : tWF T) {nt b : Int} {g : Int → Int} (hg : fx T nt (tMask T 2) b 1024 1073741824 g) : xfx T nt b (eV T nt b g) (eE T nt b g) := by
  have hN := tN_le hw
  refine ⟨fun c l c0 c1 l0 l1 => rfl, fun c q c0 c1 q0 q1 => ?_, fun c q c0 c1 q0 q1 => eE_range hw hg ⟨q0, q1⟩⟩
  by_cases h : c ≠ b ∧ tOpen T c = true
  · have hc : c < tN T := by
      have := h.2
      unfold tOpen tHas at this
      simp at this
      omega
    rw [if_pos h, sO_exact hw hg ⟨q0, q1⟩ 3 c (by omega) c0 hc]
    unfold eE
    by_cases hn : nx T c q < 0
    · rw [if_pos hn, if_neg (by rintro ⟨-, -, z⟩; omega)]
    · rw [if_neg hn, if_pos ⟨h.1, h.2, by omega⟩]
      rfl
  · rw [if_neg h]
    unfold eE
    rw [if_neg (fun z => h ⟨z.1, z.2.1⟩)]
/-- from a square where a run begins -/
theorem tu_exact {T : Tn} (hw : tWF T) {nt b : Int} {g : Int → Int} (hg : fx T nt (tMask T 2) b 1024 1073741824 g) {c : Int} (hc : 0 ≤ c ∧ c < tN T) (hcb : c ≠ b) (ho : tOpen T c = true) : tu (eE T nt b g) c (-1) = g (17 * c + 16) := by
  have hs : 0 ≤ 17 * c + 16 ∧ 17 * c + 16 < 17 * tN T := by omega
  have hd : (17 * c + 16) / 17 = c := by omega
  have hr : ∀ p : Int, mRun (17 * c + 16) p = 1 := fun p => by unfold mRun; rw [if_neg (by omega)]
  have hGr := (hg _ hs.1 hs.2).1
  have hge : g (17 * c + 16) ≤ tu (eE T nt b g) c (-1) := by
    rcases tuk_is (O := eE T nt b g) (c := c) (but := -1) 4 with h | ⟨p, p1, p2, p3⟩
    · unfold tu; omega
    · have := (fx_new hw hg hs (by rw [hd]; exact hcb) (by rw [hd]; exact ho) (p := p) (by omega) (hr p)).1
      rw [hd] at this
      unfold tu; omega
  have htl := tuk_le (O := eE T nt b g) (c := c) (but := -1) 4
  by_cases hF : g (17 * c + 16) < 1073741824
  · obtain ⟨p, p1, p2, p3⟩ := (hg _ hs.1 hs.2).2.2.2.2 (by rw [hd]; exact hcb) hF
    have h5 := (fx_new hw hg hs (by rw [hd]; exact hcb) (by rw [hd]; exact ho) p1 (hr p)).2 p2
    rw [hd] at h5
    have h6 := tuk_ge (O := eE T nt b g) (c := c) (but := -1) 4 p p1.1 p1.2 (by omega)
    unfold tu at hge ⊢
    omega
  · unfold tu at hge ⊢
    omega
