/-! THE LAW: its loop, its start -/
section LH
variable {p : Program} {l : Launch} {e : Env} {s : State} {m : MethodId} {below : List Frame} {meth : Method} {c : Code} {b L : Nat} {xs : Nat → Int32} {D : va_G} {x0 m0 : Nat}
theorem l_disp (C0 : lw_At p s m meth c b L xs) (hL : L ≤ 2560) {i : Int} {σ : Sg} {h0 s0 w0 : Nat} {I I2 : Nat → Nat → Int} {X X2 : XX} (hi0 : 0 ≤ i) (hi1 : i + 5 ≤ L) (hX : XI σ h0 s0 w0 I X) (hM : MI σ I2 X2) (hS : SOK σ) (kk : LK p l e s m below meth c b D x0 m0 i) : LW p l e s m below meth c b D x0 m0 i (I, X) (I2, X2) 26 [] := by
  refine l_s C0 d_law_26 (l_i C0 d_law_27 ?_)
  rw [show (Value.int (J i)) = .int (J (i + 0)) by rw [Int.add_zero]]
  refine l_ld C0 hL d_law_28 (by omega) (by omega) ?_
  refine l_bp (v := 31) C0 d_law_29 (by decide +kernel) ?_
  refine l_and C0 d_law_31 ?_
  generalize J (xa xs i 0) &&& 31 = z
  intro H locs ls hI hl
  by_cases z0 : z.toInt = 0
  · exact lv_tableIn (off := 116) (tgt := 148) C0.1 C0.2.1 d_law_32 (by omega) (by omega) (by rw [z0]; rfl) (by decide) (l_c0 C0 hL hi0 hi1 hX hM hS kk H locs ls hI hl)
  by_cases z1 : z.toInt = 1
  · exact lv_tableIn (off := 179) (tgt := 211) C0.1 C0.2.1 d_law_32 (by omega) (by omega) (by rw [z1]; rfl) (by decide) (l_c1 C0 hL hi0 hi1 hX hM hS kk H locs ls hI hl)
  by_cases z2 : z.toInt = 2
  · exact lv_tableIn (off := 192) (tgt := 224) C0.1 C0.2.1 d_law_32 (by omega) (by omega) (by rw [z2]; rfl) (by decide) (l_c2 C0 hL hi0 hi1 hX hM hS kk H locs ls hI hl)
  by_cases z3 : z.toInt = 3
  · exact lv_tableIn (off := 205) (tgt := 237) C0.1 C0.2.1 d_law_32 (by omega) (by omega) (by rw [z3]; rfl) (by decide) (l_c3 C0 hL hi0 hi1 hX hM hS kk H locs ls hI hl)
  by_cases z4 : z.toInt = 4
  · exact lv_tableIn (off := 228) (tgt := 260) C0.1 C0.2.1 d_law_32 (by omega) (by omega) (by rw [z4]; rfl) (by decide) (l_c4 C0 hL hi0 hi1 hX hM hS kk H locs ls hI hl)
  by_cases z5 : z.toInt = 5
  · exact lv_tableIn (off := 251) (tgt := 283) C0.1 C0.2.1 d_law_32 (by omega) (by omega) (by rw [z5]; rfl) (by decide) (l_c5 C0 hL hi0 hi1 hX hM hS kk H locs ls hI hl)
  by_cases z6 : z.toInt = 6
  · exact lv_tableIn (off := 274) (tgt := 306) C0.1 C0.2.1 d_law_32 (by omega) (by omega) (by rw [z6]; rfl) (by decide) (l_c6 C0 hL hi0 hi1 hX hM hS kk H locs ls hI hl)
  by_cases z7 : z.toInt = 7
  · exact lv_tableIn (off := 297) (tgt := 329) C0.1 C0.2.1 d_law_32 (by omega) (by omega) (by rw [z7]; rfl) (by decide) (l_c7 C0 hL hi0 hi1 hX hM hS kk H locs ls hI hl)
  by_cases z8 : z.toInt = 8
  · exact lv_tableIn (off := 310) (tgt := 342) C0.1 C0.2.1 d_law_32 (by omega) (by omega) (by rw [z8]; rfl) (by decide) (l_c8 C0 hL hi0 hi1 hX hM hS kk H locs ls hI hl)
  by_cases z9 : z.toInt = 9
  · exact lv_tableIn (off := 333) (tgt := 365) C0.1 C0.2.1 d_law_32 (by omega) (by omega) (by rw [z9]; rfl) (by decide) (l_c9 C0 hL hi0 hi1 hX hM hS kk H locs ls hI hl)
  by_cases z10 : z.toInt = 10
  · exact lv_tableIn (off := 356) (tgt := 388) C0.1 C0.2.1 d_law_32 (by omega) (by omega) (by rw [z10]; rfl) (by decide) (l_c10 C0 hL hi0 hi1 hX hM hS kk H locs ls hI hl)
  by_cases z11 : z.toInt = 11
  · exact lv_tableIn (off := 389) (tgt := 421) C0.1 C0.2.1 d_law_32 (by omega) (by omega) (by rw [z11]; rfl) (by decide) (l_c11 C0 hL hi0 hi1 hX hM hS kk H locs ls hI hl)
  by_cases z12 : z.toInt = 12
  · exact lv_tableIn (off := 432) (tgt := 464) C0.1 C0.2.1 d_law_32 (by omega) (by omega) (by rw [z12]; rfl) (by decide) (l_c12 C0 hL hi0 hi1 hX hM hS kk H locs ls hI hl)
  by_cases z13 : z.toInt = 13
  · exact lv_tableIn (off := 475) (tgt := 507) C0.1 C0.2.1 d_law_32 (by omega) (by omega) (by rw [z13]; rfl) (by decide) (l_c13 C0 hL hi0 hi1 hX hM hS kk H locs ls hI hl)
  by_cases z14 : z.toInt = 14
  · exact lv_tableIn (off := 528) (tgt := 560) C0.1 C0.2.1 d_law_32 (by omega) (by omega) (by rw [z14]; rfl) (by decide) (l_c14 C0 hL hi0 hi1 hX hM hS kk H locs ls hI hl)
  by_cases z15 : z.toInt = 15
  · exact lv_tableIn (off := 561) (tgt := 593) C0.1 C0.2.1 d_law_32 (by omega) (by omega) (by rw [z15]; rfl) (by decide) (l_c15 C0 hL hi0 hi1 hX hM hS kk H locs ls hI hl)
  by_cases z16 : z.toInt = 16
  · exact lv_tableIn (off := 594) (tgt := 626) C0.1 C0.2.1 d_law_32 (by omega) (by omega) (by rw [z16]; rfl) (by decide) (l_c16 C0 hL hi0 hi1 hX hM hS kk H locs ls hI hl)
  by_cases z17 : z.toInt = 17
  · exact lv_tableIn (off := 627) (tgt := 659) C0.1 C0.2.1 d_law_32 (by omega) (by omega) (by rw [z17]; rfl) (by decide) (l_c17 C0 hL hi0 hi1 hX hM hS kk H locs ls hI hl)
  by_cases z18 : z.toInt = 18
  · exact lv_tableIn (off := 640) (tgt := 672) C0.1 C0.2.1 d_law_32 (by omega) (by omega) (by rw [z18]; rfl) (by decide) (l_c18 C0 hL hi0 hi1 hX hM hS kk H locs ls hI hl)
  by_cases z19 : z.toInt = 19
  · exact lv_tableIn (off := 663) (tgt := 695) C0.1 C0.2.1 d_law_32 (by omega) (by omega) (by rw [z19]; rfl) (by decide) (l_c19 C0 hL hi0 hi1 hX hM hS kk H locs ls hI hl)
  by_cases z20 : z.toInt = 20
  · exact lv_tableIn (off := 716) (tgt := 748) C0.1 C0.2.1 d_law_32 (by omega) (by omega) (by rw [z20]; rfl) (by decide) (l_c20 C0 hL hi0 hi1 hX hM hS kk H locs ls hI hl)
  by_cases z21 : z.toInt = 21
  · exact lv_tableIn (off := 739) (tgt := 771) C0.1 C0.2.1 d_law_32 (by omega) (by omega) (by rw [z21]; rfl) (by decide) (l_c21 C0 hL hi0 hi1 hX hM hS kk H locs ls hI hl)
  by_cases z22 : z.toInt = 22
  · exact lv_tableIn (off := 762) (tgt := 794) C0.1 C0.2.1 d_law_32 (by omega) (by omega) (by rw [z22]; rfl) (by decide) (l_c22 C0 hL hi0 hi1 hX hM hS kk H locs ls hI hl)
  by_cases z23 : z.toInt = 23
  · exact lv_tableIn (off := 785) (tgt := 817) C0.1 C0.2.1 d_law_32 (by omega) (by omega) (by rw [z23]; rfl) (by decide) (l_c23 C0 hL hi0 hi1 hX hM hS kk H locs ls hI hl)
  by_cases z24 : z.toInt = 24
  · exact lv_tableIn (off := 808) (tgt := 840) C0.1 C0.2.1 d_law_32 (by omega) (by omega) (by rw [z24]; rfl) (by decide) (l_c24 C0 hL hi0 hi1 hX hM hS kk H locs ls hI hl)
  exact lv_tableOut (tgt := 854) C0.1 C0.2.1 d_law_32 (by omega) (by decide) (kk σ I X I2 X2 hS ⟨_, _, _, hX⟩ hM H locs ls hI hl)
theorem l_loop (C0 : lw_At p s m meth c b L xs) (hL : L ≤ 2560) : ∀ (n : Nat) (i : Int) (σ : Sg) (I : Nat → Nat → Int) (X : XX) (I2 : Nat → Nat → Int) (X2 : XX), 0 ≤ i → i ≤ 2560 → (L : Int) < i + 5 * n → SOK σ → (∃ h s w, XI σ h s w I X) → MI σ I2 X2 → LW p l e s m below meth c b D x0 m0 i (I, X) (I2, X2) 18 [] := by
  intro n
  induction n with
  | zero =>
    intro i σ I X I2 X2 h0 h1 h2 hS hX hM
    refine l_i C0 d_law_18 (l_s C0 d_law_19 (l_len C0 d_law_20 (l_ic C0 d_law_21 (l_sub C0 d_law_22 ?_))))
    intro H locs ls hI hl
    refine lv_icmp_gt (tgt := 860) C0.1 C0.2.1 d_law_23 (by decide) (fun _ => l_fin C0 d_law_860 d_law_861 H locs ls hI hl) (fun hn => ?_)
    rw [J_lt (by omega) (by omega)] at hn
    omega
  | succ n ih =>
    intro i σ I X I2 X2 h0 h1 h2 hS hX hM
    refine l_i C0 d_law_18 (l_s C0 d_law_19 (l_len C0 d_law_20 (l_ic C0 d_law_21 (l_sub C0 d_law_22 ?_))))
    intro H locs ls hI hl
    refine lv_icmp_gt (tgt := 860) C0.1 C0.2.1 d_law_23 (by decide) (fun _ => l_fin C0 d_law_860 d_law_861 H locs ls hI hl) (fun hn => ?_)
    rw [J_lt (by omega) (by omega)] at hn
    obtain ⟨h, s', w, hX⟩ := hX
    exact l_disp C0 hL h0 (by omega) hX hM hS (fun σ' I' X' I2' X2' hS' hX' hM' => l_next C0 d_law_854 d_law_857 (ih (i + 5) σ' I' X' I2' X2' (by omega) (by omega) (by omega) hS' hX' hM')) H locs ls hI hl
end LH
theorem q_inst : ∀ ci, ci < 13 → ∀ r, vwCl[ci]? = some r → Cond.instantiable r.1 r.2.2 ∈ lw_tbl := by decide +kernel
theorem q_known {args : Array Value} {s : State} (hts : ∀ w ∈ lw_tbl, w.before args s = true) : ∃ D : va_G, va_K D vwCl [] s := by
  have hone : ∀ (ci : Nat) (r : vw_C), vwCl[ci]? = some r → ∃ (cC : ClassId) (iS : Nat → Nat), u_Kn s r.1 r.2.1 r.2.2 cC iS := by
    intro ci r hr
    have hci : ci < 13 := (List.getElem?_eq_some_iff.mp hr).1
    exact u_known hts (fun w hw => (qinX ci r hr w hw).1) (hts _ (q_inst ci hci r hr))
  obtain ⟨c0, i0, -⟩ := hone 0 _ rfl
  have hall : ∀ ci : Nat, ∃ z : ClassId × (Nat → Nat), ∀ r : vw_C, vwCl[ci]? = some r → u_Kn s r.1 r.2.1 r.2.2 z.1 z.2 := by
    intro ci
    cases hv : vwCl[ci]? with
    | none => exact ⟨(c0, i0), fun r hr => by cases hr⟩
    | some r =>
      obtain ⟨cC, iS, hk⟩ := hone ci r hv
      exact ⟨(cC, iS), fun r' hr' => by cases hr'; exact hk⟩
  obtain ⟨f, hf⟩ := Classical.axiomOfChoice hall
  exact ⟨(fun ci => (f ci).1, fun ci => (f ci).2), fun ci r hr => hf ci r hr, fun k q h => by simp at h⟩
theorem wf1 {ci n : Nat} (h : (vwCl[ci]?).map (fun q => q.2.2) = some n) : q_wf [(ci, n)] := by
  refine ⟨Nat.le_of_ble_eq_true rfl, fun c k z hc hk => ?_⟩
  cases c with
  | zero =>
    cases hc
    cases hv : vwCl[ci]? with
    | none => rw [hv] at h; cases h
    | some q => rw [hv] at h; exact ⟨q, rfl, Option.some.inj h⟩
  | succ c => cases hc
set_option maxHeartbeats 4000000 in
set_option maxRecDepth 100000 in
theorem whole_start {p : Program} {e : Env} {s : State} {m : MethodId} {below : List Frame} {meth : Method} {c : Code} (l : Launch) {b L : Nat} {xs : Nat → Int32} (hL : L ≤ 2560) (C0 : lw_At p s m meth c b L xs) : W p l e room_1 s m #[Value.ref b] below meth c s.heap [] 0 0 (lw_Z below #[Value.ref b] s) (entryFrame m ([Value.ref b] : List Value).toArray 4) := by
  obtain ⟨hx, hb, hr, hml, hown, hts, hX, hbl, hlocks, hgv⟩ := id C0
  obtain ⟨av, hav, hfx⟩ := q_first hts hgv
  have hfy := q_firstY hts
  obtain ⟨D, hK⟩ := q_known hts
  have hl := lv_entry ([.ref b]) (n := 4) (Nat.le_of_ble_eq_true rfl)
  rw [lg_entry_eq]
  generalize (lg_sl ([.ref b]) ++ List.replicate (4 - (lg_sl ([.ref b])).length) Slot.unset).toArray = ls at hl ⊢
  have hl : lv_has ls 4 [(0, .ref b)] := hl
  have ca : Nat → ClassId := fun _ => D.1 0
  refine lw_new (ws2 := []) (ci := 11) (ca := ca) C0 hav hfx hK (fun k q h => by simp at h) ⟨fun i j p q h => by simp at h, fun k q h => by simp at h⟩ va_S.rf d_law_0 rfl (by decide +kernel) (by decide +kernel) (by decide +kernel) (Nat.le_of_ble_eq_true rfl) (Nat.le_of_ble_eq_true rfl) (fun q H1 av1 a1 a2 a3 hR1 hP1 hn1 hS1 => ?_)
  refine lv_dup hx hb d_law_3 rfl ?_
  refine lw_init (ws2 := []) (ci := 11) (n := 10) (S := S0) (S2 := (IX1, LX1, tb MX1)) (sh2 := gX.take 50) C0 hfy a1 a2 a3 Fr0 (wf1 (by decide +kernel)) hR1 hP1 hn1 hS1 (ci_11_1 (I := fun _ _ => 0) (L := fun _ _ => 0) (M := [])) d_law_4 (by decide +kernel) hc_11 hi_11 hm_11 rfl ⟨by decide +kernel, by decide +kernel⟩ (by decide +kernel) (by decide) (by decide) (Nat.le_of_ble_eq_true rfl) (Nat.le_of_ble_eq_true rfl) (Nat.le_of_ble_eq_true rfl) hl.1 (fun H2 locs2 av2 ca2 b1 b2 b3 hF2 hR2 hP2 hn2 hS2 => ?_)
  refine lv_astore_n (lv' := [(1, .ref q), (0, .ref b)]) hx hb d_law_7 rfl hl (by decide) rfl (fun ls hl => ?_)
  have hR2 := q_perm hF2 hR2
  refine lw_new (ws2 := q_ws (piv av2) (piv ca2) shX (vv (piS (IX1, LX1, tb MX1)))) (ci := 12) (ca := ca) C0 hav hfx hK hR2.1 hR2.2.1 hS2 d_law_8 rfl (by decide +kernel) (by decide +kernel) (by decide +kernel) (Nat.le_of_ble_eq_true rfl) (Nat.le_of_ble_eq_true rfl) (fun q3 H3 av3 c1 c2 c3 hR3 hP3 hn3 hS3 => ?_)
  refine lv_dup hx hb d_law_11 rfl ?_
  refine lw_init (ws2 := q_ws (piv av2) (piv ca2) shX (vv (piS (IX1, LX1, tb MX1)))) (ci := 12) (n := 35) (S := S0) (S2 := (IM1, (fun _ _ => 0), tb MM1)) (sh2 := shM.take 16) C0 hfy c1 c2 c3 Fr0 (wf1 (by decide +kernel)) hR3 hP3 hn3 hS3 (ci_12_1 (I := fun _ _ => 0) (L := fun _ _ => 0) (M := [])) d_law_12 (by decide +kernel) hc_12 hi_12 hm_12 rfl ⟨by decide +kernel, by decide +kernel⟩ (by decide +kernel) (by decide) (by decide) (Nat.le_of_ble_eq_true rfl) (Nat.le_of_ble_eq_true rfl) (Nat.le_of_ble_eq_true rfl) hl.1 (fun H4 locs4 av4 ca4 e1 e2 e3 hF4 hR4 hP4 hn4 hS4 => ?_)
  refine lv_astore_n (lv' := [(2, .ref q3), (1, .ref q), (0, .ref b)]) hx hb d_law_15 rfl hl (by decide) rfl (fun ls hl => ?_)
  refine lv_iconst (v := J 0) hx hb d_law_16 rfl ?_
  refine lv_istore_n (lv' := [(3, .int (J 0)), (2, .ref q3), (1, .ref q), (0, .ref b)]) hx hb d_law_17 rfl hl (by decide) rfl (fun ls hl => ?_)
  refine W.widen (k := 600000) (n := 7302250) (Nat.le_of_ble_eq_true rfl) (Nat.le_of_ble_eq_true rfl) ?_
  have hq : q_ad (piv av2) 0 = q := by
    show q_ad av2 0 = q
    unfold q_ad
    rw [b3]
  have hq3 : q_ad av4 0 = q3 := by
    unfold q_ad
    rw [e3]
  refine l_loop (D := D) (x0 := q) (m0 := q3) C0 hL 513 0 σ0 (piS (IX1, LX1, tb MX1)).1 (piS (IX1, LX1, tb MX1)).2 IM1 (fun _ _ => 0, tb MM1) (Int.le_refl _) (by decide) (by omega) SOK0 ⟨41, 44, 47, XI0⟩ MI0 H4 locs4 ls ⟨piv av2, piv ca2, av4, ca4, ⟨q_AV_p b1, e1⟩, ⟨hq, hq3⟩, ⟨q_Fx_p b2, e2⟩, ⟨hP4, hR2.2⟩, hR4, fun i k hi hk hh => ?_, hS4⟩ (lv_sub hl [3, 2, 1, 0] rfl)
  have hs : shX[i]? = some shX[i] := List.getElem?_eq_getElem hi
  exact hn4 i _ (q_ws_at hs) k hk hh.symm
