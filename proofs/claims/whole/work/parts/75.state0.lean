/-! THE FIRST STATE of both sides -/
def IX1 : Nat → Nat → Int := (q_up (q_up (q_up (q_up (q_up (q_up (q_up (q_up (jn T00 (bgn (jn T00 (bgn (q_up (q_up (jn T00 (bgn (q_up (q_up (q_up (q_up (q_up (q_up (fun _ _ => 0) 1 0 (0)) 3 0 (-1)) 3 1 (0)) 3 2 (0)) 3 3 (0)) 10 0 (0)) 17) 17 ((tN T00).toNat * 4)) 16 1 (0)) 16 2 (0)) 28) 28 ((tN T00).toNat * 4)) 31) 31 ((tN T00).toNat * 4)) 34 0 (-1)) 34 1 (0)) 34 2 (0)) 34 3 (0)) 39 0 (-1)) 39 1 (0)) 39 2 (0)) 39 3 (0))
def LX1 : Nat → Nat → Int64 := (q_up (fun _ _ => 0) 0 9 (Int64.ofNat 0))
def MX1 : List ((Nat × Nat) × Nat) := [((15, 5), 49), ((15, 4), 48), ((15, 3), 47), ((15, 2), 46), ((15, 1), 45), ((15, 0), 44), ((8, 1), 39), ((39, 7), 43), ((39, 6), 42), ((39, 5), 41), ((39, 4), 40), ((8, 0), 34), ((34, 7), 38), ((34, 6), 37), ((34, 5), 36), ((34, 4), 35), ((0, 8), 31), ((31, 8), 33), ((31, 7), 32), ((0, 7), 28), ((28, 8), 30), ((28, 7), 29), ((0, 6), 16), ((16, 10), 27), ((16, 9), 26), ((16, 8), 25), ((16, 7), 24), ((16, 6), 23), ((16, 5), 22), ((16, 4), 21), ((16, 3), 20), ((16, 0), 17), ((17, 8), 19), ((17, 7), 18), ((0, 5), 15), ((0, 4), 10), ((10, 4), 14), ((10, 3), 13), ((10, 2), 12), ((10, 1), 11), ((0, 3), 9), ((0, 2), 8), ((0, 1), 3), ((3, 7), 7), ((3, 6), 6), ((3, 5), 5), ((3, 4), 4), ((0, 0), 1), ((1, 1), 2)]
def IM1 : Nat → Nat → Int := (q_up (q_up (q_up (q_up (q_up (q_up (fun _ _ => 0) 0 0 (4)) 0 1 (3)) 0 4 (1)) 0 5 (1)) 0 6 (2)) 2 0 (-9))
def MM1 : List ((Nat × Nat) × Nat) := [((0, 34), 15), ((0, 33), 14), ((0, 32), 13), ((0, 31), 12), ((0, 30), 11), ((0, 29), 10), ((0, 28), 9), ((0, 27), 8), ((0, 26), 7), ((0, 21), 6), ((0, 15), 5), ((0, 14), 4), ((0, 12), 3), ((0, 11), 2), ((0, 9), 1)]
def piX : List Nat := [0, 1, 2, 3, 4, 5, 6, 7, 8, 34, 35, 36, 37, 38, 39, 40, 41, 42, 43, 9, 10, 11, 12, 13, 14, 15, 44, 45, 46, 47, 48, 49, 16, 20, 21, 22, 23, 24, 25, 26, 27, 28, 29, 30, 31, 32, 33, 17, 18, 19]
def qiX : List Nat := [0, 1, 2, 3, 4, 5, 6, 7, 8, 19, 20, 21, 22, 23, 24, 25, 32, 47, 48, 49, 33, 34, 35, 36, 37, 38, 39, 40, 41, 42, 43, 44, 45, 46, 9, 10, 11, 12, 13, 14, 15, 16, 17, 18, 26, 27, 28, 29, 30, 31]
def piN (c : Nat) : Nat := piX.getD c c
def qiN (c : Nat) : Nat := qiX.getD c c
theorem piN_o {c : Nat} (h : 50 ≤ c) : piN c = c := by
  unfold piN
  rw [List.getD_eq_getElem?_getD, List.getElem?_eq_none (by exact h)]
  rfl
theorem piN_l : ∀ c, c < 50 → piN c < 50 := by decide +kernel
theorem piN_q : ∀ c, c < 50 → piN (qiN c) = c := by decide +kernel
theorem qiN_p : ∀ c, c < 50 → qiN (piN c) = c := by decide +kernel
theorem shX_p : ∀ c, c < 50 → shX[c]? = (gX.take 50)[piN c]? := by decide +kernel
/-- cells by other numbers -/
def piS (S : QS) : QS := (fun c k => S.1 (piN c) k, fun c k => S.2.1 (piN c) k, fun c k => (S.2.2 (piN c) k).map qiN)
def piv {α : Type} (f : Nat → α) : Nat → α := fun c => f (piN c)
theorem piv_ad {av : Nat → Value} {c : Nat} : q_ad (piv av) c = q_ad av (piN c) := rfl
theorem piv_rf {av : Nat → Value} {r : Option Nat} (h : ∀ a, r = some a → a < 50) : q_lf (piv av) (q_rf (r.map qiN)) = q_lf av (q_rf r) := by
  cases r with
  | none => rfl
  | some a =>
    show av (piN (qiN a)) = av a
    rw [piN_q a (h a rfl)]
theorem piv_e {av : Nat → Value} {ca : Nat → ClassId} {S : QS} {c : Nat} {x : Nat × Nat} (hF : Fr 50 S) : q_e (piv av) (piv ca) (vv (piS S)) c x = q_e av ca (vv S) (piN c) x := by
  have h1 : ∀ k ty, q_lf (piv av) (q_rd (vv (piS S)) c k ty) = q_lf av (q_rd (vv S) (piN c) k ty) := by
    intro k ty
    cases ty with
    | object u => exact piv_rf (fun a ha => hF.1 (piN c) k a ha)
    | array u => exact piv_rf (fun a ha => hF.1 (piN c) k a ha)
    | _ => rfl
  have h2 : (fun k => ((vv (piS S)).2.2 c k).map (q_ad (piv av))) = fun k => ((vv S).2.2 (piN c) k).map (q_ad av) := by
    funext k
    show ((S.2.2 (piN c) k).map qiN).map (q_ad (piv av)) = (S.2.2 (piN c) k).map (q_ad av)
    cases h : S.2.2 (piN c) k with
    | none => rfl
    | some a =>
      show some (q_ad av (piN (qiN a))) = some (q_ad av a)
      rw [piN_q a (hF.1 _ _ a h)]
  unfold q_e q_fs
  simp only [h1, h2]
  rfl
theorem piN_ws {av : Nat → Value} {ca : Nat → ClassId} {S : QS} (hF : Fr 50 S) {k : Nat} {q : Nat × va_E} (h : (q_ws (piv av) (piv ca) shX (vv (piS S)))[k]? = some q) : k < 50 ∧ (q_ws av ca (gX.take 50) (vv S))[piN k]? = some q := by
  have hk : k < 50 := by
    have h1 := (List.getElem?_eq_some_iff.mp h).1
    have h2 : (q_ws (piv av) (piv ca) shX (vv (piS S))).length = 50 := by unfold q_ws; rw [List.length_map, List.length_range]; rfl
    omega
  refine ⟨hk, ?_⟩
  have hx : shX[k]? = some shX[k] := List.getElem?_eq_getElem (show k < shX.length from hk)
  have hy : (gX.take 50)[piN k]? = some shX[k] := by rw [← shX_p k hk]; exact hx
  rw [q_ws_at hx] at h
  rw [q_ws_at hy, ← h, piv_e hF]
  rfl
theorem q_perm {A : Nat → Prop} {av : Nat → Value} {ca : Nat → ClassId} {D : va_G} {S : QS} {U : State} {H : Heap} (hF : Fr 50 S) (h : q_R A av ca D (gX.take 50) (vv S) U H) : q_R A (piv av) (piv ca) D shX (vv (piS S)) U H := by
  obtain ⟨hP, hD, hK⟩ := h
  refine ⟨fun k q hk => hP _ q (piN_ws hF hk).2, ⟨fun i j a b hi hj hab => ?_, fun k q hk => hD.2 _ q (piN_ws hF hk).2⟩, hK.1, fun k q hk => ?_⟩
  · obtain ⟨i1, i2⟩ := piN_ws hF hi
    obtain ⟨j1, j2⟩ := piN_ws hF hj
    have e := hD.1 _ _ a b i2 j2 hab
    rw [← qiN_p i i1, ← qiN_p j j1, e]
  · have hm := List.mem_of_getElem? hk
    obtain ⟨c, hc, hq⟩ := List.mem_filterMap.mp hm
    have hc50 : c < 50 := List.mem_range.mp hc
    have hx : shX[c]? = some shX[c] := List.getElem?_eq_getElem (show c < shX.length from hc50)
    have hy : (gX.take 50)[piN c]? = some shX[c] := by rw [← shX_p c hc50]; exact hx
    have e1 : shX.getD c (0, 0) = shX[c] := (q_getD hx).2
    have e2 : (gX.take 50).getD (piN c) (0, 0) = shX[c] := (q_getD hy).2
    have hm2 : q ∈ q_tys ca (gX.take 50) := by
      refine List.mem_filterMap.mpr ⟨piN c, List.mem_range.mpr (q_getD hy).1, ?_⟩
      rw [e2]
      rw [e1] at hq
      exact hq
    obtain ⟨t, ht⟩ := List.getElem?_of_mem hm2
    exact hK.2 t q ht
theorem q_AV_p {av : Nat → Value} (h : q_AV av) : q_AV (piv av) := by
  refine ⟨fun c hc => ?_, ?_⟩
  · by_cases y : c < 50
    · have := piN_l c y
      exact h.1 (piN c) (by omega)
    · have e : piv av c = av c := by show av (piN c) = av c; rw [piN_o (by omega)]
      rw [e]
      exact h.1 c hc
  · have e : piv av 1030 = av 1030 := by show av (piN 1030) = av 1030; rw [piN_o (by omega)]
    rw [e]
    exact h.2
theorem q_Fx_p {A : Nat → Prop} {av : Nat → Value} {U : State} (h : q_Fx A av U) : q_Fx A (piv av) U := h.xt (n := 0) (fun c hc => by show av (piN c) = av c; rw [piN_o (by omega)])
theorem wfX : q_wf shX := by
  refine ⟨by decide, fun c k z hc hk => ?_⟩
  have h1 : ∀ c, c < 50 → ∀ x, shX[c]? = some x → x.1 < 100 → (vwCl[x.1]?).map (fun q => q.2.2) = some x.2 := by decide +kernel
  have h2 := h1 c (List.getElem?_eq_some_iff.mp hc).1 (k, z) hc hk
  cases hv : vwCl[k]? with
  | none => dsimp only at h2; rw [hv] at h2; cases h2
  | some q => dsimp only at h2; rw [hv] at h2; exact ⟨q, rfl, Option.some.inj h2⟩
theorem wfM : q_wf shM := by
  refine ⟨by decide, fun c k z hc hk => ?_⟩
  have h1 : ∀ c, c < 16 → ∀ x, shM[c]? = some x → x.1 < 100 → (vwCl[x.1]?).map (fun q => q.2.2) = some x.2 := by decide +kernel
  have h2 := h1 c (List.getElem?_eq_some_iff.mp hc).1 (k, z) hc hk
  cases hv : vwCl[k]? with
  | none => dsimp only at h2; rw [hv] at h2; cases h2
  | some q => dsimp only at h2; rw [hv] at h2; exact ⟨q, rfl, Option.some.inj h2⟩
theorem tb_none {c k : Nat} : ∀ {M : List ((Nat × Nat) × Nat)}, (∀ e ∈ M, ¬ (c = e.1.1 ∧ k = e.1.2)) → tb M c k = none
  | [], _ => rfl
  | a :: t, h => by
    show q_up (tb t) a.1.1 a.1.2 (some a.2) c k = none
    rw [q_up_n (h a List.mem_cons_self)]
    exact tb_none (fun e he => h e (List.mem_cons_of_mem _ he))
theorem rX_out {c k : Nat} (h : 11 ≤ k ∨ 50 ≤ c) : rX 41 44 47 c k = none := by
  unfold rX
  repeat' split
  all_goals first | rfl | (exfalso; omega)
theorem rM_out {c k : Nat} (h : 35 ≤ k ∨ 16 ≤ c) : rM c k = none := by
  unfold rM
  repeat' split
  all_goals first | rfl | (exfalso; omega)
theorem MX1_b : ∀ e ∈ MX1, e.1.1 < 50 ∧ e.1.2 < 11 := by decide +kernel
theorem MM1_b : ∀ e ∈ MM1, e.1.1 < 16 ∧ e.1.2 < 35 := by decide +kernel
theorem rX_1 : ∀ c, c < 50 → ∀ k, k < 11 → (tb MX1 (piN c) k).map qiN = rX 41 44 47 c k := by decide +kernel
theorem rM_1 : ∀ c, c < 16 → ∀ k, k < 35 → tb MM1 c k = rM c k := by decide +kernel
theorem rX_first : (fun c k => (tb MX1 (piN c) k).map qiN) = rX 41 44 47 := by
  funext c k
  by_cases h : c < 50 ∧ k < 11
  · exact rX_1 c h.1 k h.2
  · rw [rX_out (by omega), tb_none]
    · rfl
    · intro e he hh
      have h1 := MX1_b e he
      by_cases hc : c < 50
      · omega
      · rw [piN_o (by omega)] at hh
        omega
theorem rM_first : tb MM1 = rM := by
  funext c k
  by_cases h : c < 16 ∧ k < 35
  · exact rM_1 c h.1 k h.2
  · rw [rM_out (by omega), tb_none]
    intro e he hh
    have h1 := MM1_b e he
    omega
def σ0 : Sg := (T00, 0, fun _ => 0, wk0, fun _ => false, fun _ => wk0, 0, fun _ => 0, fun _ => 0, 0)
theorem SOK0 : SOK σ0 := SOK.anew (σ := σ0) T00_ok
theorem tg0 : ∀ c, c < 20 → IX1 (piN 42) c = tG T00 c := by decide +kernel
theorem nx0 : ∀ c : Nat, c < 20 → ∀ d : Nat, d < 4 → IX1 (piN 43) (c * 4 + d) = if (c : Int) < tN T00 then nx T00 c d else -1 := by decide +kernel
theorem XI0 : XI σ0 41 44 47 (piS (IX1, LX1, tb MX1)).1 (piS (IX1, LX1, tb MX1)).2 := by
  have hr : (piS (IX1, LX1, tb MX1)).2.2 = rX 41 44 47 := rX_first
  refine ⟨hr, Or.inl ⟨rfl, rfl⟩, ⟨rfl, rfl, rfl, ?_, ?_, by decide +kernel, by decide +kernel, by decide +kernel, by decide +kernel, by decide +kernel, by decide +kernel, by decide +kernel, tg0⟩, fun c d hc hd => nx0 c hc d hd, by decide +kernel, by decide +kernel, by decide +kernel, fun i hi => absurd hi (Nat.not_lt_zero i), ⟨by decide +kernel, by decide +kernel, by decide +kernel, by decide +kernel, fun i hi => absurd hi (Nat.not_lt_zero i)⟩, fun i hi => ⟨?_, fun hk => by cases hk⟩, ⟨by decide +kernel, fun i hi => absurd hi (Nat.not_lt_zero i)⟩, by decide +kernel⟩
  · show (piS (IX1, LX1, tb MX1)).2.2 41 7 = some 42
    rw [hr]; rfl
  · show (piS (IX1, LX1, tb MX1)).2.2 41 8 = some 43
    rw [hr]; rfl
  · have : i = 0 ∨ i = 1 := by omega
    rcases this with rfl | rfl <;> decide +kernel
theorem MI0 : MI σ0 IM1 (fun _ _ => 0, tb MM1) := by
  refine ⟨⟨by decide +kernel, by decide +kernel, by decide +kernel, by decide +kernel, by decide +kernel, by decide +kernel, by decide +kernel, by decide +kernel, by decide +kernel⟩, rM_first, by decide +kernel, fun i hi => absurd hi (Nat.not_lt_zero i), ⟨by decide +kernel, by decide +kernel, by decide +kernel, by decide +kernel, fun i hi => absurd hi (Nat.not_lt_zero i)⟩, fun i hi => ⟨?_, fun hk => by cases hk⟩, ⟨by decide +kernel, fun i hi => absurd hi (Nat.not_lt_zero i)⟩, by decide +kernel⟩
  have : i = 0 ∨ i = 1 := by omega
  rcases this with rfl | rfl <;> decide +kernel
