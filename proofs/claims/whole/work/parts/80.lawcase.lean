/-! THE LAW: each kind of call -/
section LG
variable {σ : Sg} {h0 s0 w0 : Nat} {I I2 : Nat → Nat → Int} {X X2 : XX}
theorem t_trace2 (hX : XI σ h0 s0 w0 I X) (hM : MI σ I2 X2) (hS : SOK σ) : ∃ σ', SOK σ' ∧ OX σ h0 s0 w0 98 21 I X [] (.long σ.mk) σ' ∧ OM 147 21 I2 X2 [] (.long σ.mk) σ' := by
  refine ⟨σ, hS, ?_, ?_⟩
  · unfold OX
-- method 98: StraightTax.trace.()J
    refine k_start ql_98 (Nat.le_of_ble_eq_true rfl) ?_
    simp only [q_en, List.replicate]
    refine k_aload_n i_98_0 rfl ?_
    refine k_gfL i_98_1 f_11_61 (by first | rfl | assumption | (rw [hR]; rfl) | (dsimp only; rw [hR]; rfl)) (by decide) (by decide) rfl ?_
    refine k_lret i_98_4 qt_98 ?_
    exact ⟨by rw [← hX.mk], _, _, _, hX⟩
  · unfold OM
-- method 147: StraightTaxModel.trace.()J
    refine k_start ql_147 (Nat.le_of_ble_eq_true rfl) ?_
    simp only [q_en, List.replicate]
    refine k_aload_n i_147_0 rfl ?_
    refine k_gfL i_147_1 f_12_229 (by first | rfl | assumption | (rw [hR]; rfl) | (dsimp only; rw [hR]; rfl)) (by decide) (by decide) rfl ?_
    refine k_lret i_147_4 qt_147 ?_
    exact ⟨by rw [← hM.mk], hM⟩
end LG
section LF
variable {p : Program} {l : Launch} {e : Env} {s : State} {m : MethodId} {below : List Frame} {meth : Method} {c : Code} {b L : Nat} {xs : Nat → Int32} {D : va_G} {x0 m0 : Nat} {i : Int} {σ : Sg} {h0 s0 w0 : Nat} {I I2 : Nat → Nat → Int} {X X2 : XX}
/-- what stands behind a call -/
def LK (p : Program) (l : Launch) (e : Env) (s : State) (m : MethodId) (below : List Frame) (meth : Method) (c : Code) (b : Nat) (D : va_G) (x0 m0 : Nat) (i : Int) : Prop := ∀ (σ : Sg) (I : Nat → Nat → Int) (X : XX) (I2 : Nat → Nat → Int) (X2 : XX), SOK σ → (∃ h s w, XI σ h s w I X) → MI σ I2 X2 → LW p l e s m below meth c b D x0 m0 i (I, X) (I2, X2) 854 []
theorem hw_long : Cond.constantLong R_law 13 4294967295 ∈ lw_tbl := by decide +kernel
set_option maxHeartbeats 1000000 in
theorem l_c0 (C0 : lw_At p s m meth c b L xs) (hL : L ≤ 2560) (hi0 : 0 ≤ i) (hi1 : i + 5 ≤ L) (hX : XI σ h0 s0 w0 I X) (hM : MI σ I2 X2) (hS : SOK σ) (kk : LK p l e s m below meth c b D x0 m0 i) : LW p l e s m below meth c b D x0 m0 i (I, X) (I2, X2) 148 [] := by
  obtain ⟨v, σ', hS', hx, hm⟩ := t_type hX hM hS (lngA xs i) (xa xs i 3) (xa_in xs i 3)
  obtain ⟨r, rfl⟩ := ox_int hx (by rw [qt_67]; decide)
  refine l_x C0 d_law_148 ?_
  refine l_arg C0 hL hi0 hi1 (by decide) d_law_149 d_law_150 d_law_151 d_law_152 d_law_153 ?_
  refine l_i2l C0 d_law_154 ?_
  refine l_bp (v := 32) C0 d_law_155 (by decide +kernel) ?_
  refine l_lshl C0 d_law_157 ?_
  refine l_arg C0 hL hi0 hi1 (by decide) d_law_158 d_law_159 d_law_160 d_law_161 d_law_162 ?_
  refine l_i2l C0 d_law_163 ?_
  refine l_ldc2 C0 d_law_164 hw_long ?_
  refine l_land C0 d_law_167 ?_
  refine l_lor C0 d_law_168 ?_
  refine l_arg C0 hL hi0 hi1 (by decide) d_law_169 d_law_170 d_law_171 d_law_172 d_law_173 ?_
  refine l_callX C0 d_law_174 (show qmt[67]? = some _ from rfl) rfl lk1_15 lk2_15 lk3_15 hi_11 hx (fun _ => rfl) rfl (fun _ => rfl) (Nat.le_of_ble_eq_true rfl) rfl (fun I' X' hX' => ?_)
  refine l_m C0 d_law_177 ?_
  refine l_arg C0 hL hi0 hi1 (by decide) d_law_178 d_law_179 d_law_180 d_law_181 d_law_182 ?_
  refine l_i2l C0 d_law_183 ?_
  refine l_bp (v := 32) C0 d_law_184 (by decide +kernel) ?_
  refine l_lshl C0 d_law_186 ?_
  refine l_arg C0 hL hi0 hi1 (by decide) d_law_187 d_law_188 d_law_189 d_law_190 d_law_191 ?_
  refine l_i2l C0 d_law_192 ?_
  refine l_ldc2 C0 d_law_193 hw_long ?_
  refine l_land C0 d_law_196 ?_
  refine l_lor C0 d_law_197 ?_
  refine l_arg C0 hL hi0 hi1 (by decide) d_law_198 d_law_199 d_law_200 d_law_201 d_law_202 ?_
  refine l_callM C0 d_law_203 (show qmt[99]? = some _ from rfl) rfl lk1_19 lk2_19 lk3_19 hi_12 hm (fun _ => rfl) rfl (fun _ => rfl) (Nat.le_of_ble_eq_true rfl) rfl (fun I2' X2' hM' => ?_)
  refine l_eq (tgt := 854) C0 d_law_206 (by decide) ?_
  exact kk σ' I' X' I2' X2' hS' hX' hM'
set_option maxHeartbeats 1000000 in
theorem l_c1 (C0 : lw_At p s m meth c b L xs) (hL : L ≤ 2560) (hi0 : 0 ≤ i) (hi1 : i + 5 ≤ L) (hX : XI σ h0 s0 w0 I X) (hM : MI σ I2 X2) (hS : SOK σ) (kk : LK p l e s m below meth c b D x0 m0 i) : LW p l e s m below meth c b D x0 m0 i (I, X) (I2, X2) 211 [] := by
  obtain ⟨v, σ', hS', hx, hm⟩ := t_clear hX hM hS  
  obtain ⟨r, rfl⟩ := ox_int hx (by rw [qt_68]; decide)
  refine l_x C0 d_law_211 ?_
  refine l_callX C0 d_law_212 (show qmt[68]? = some _ from rfl) rfl lk1_20 lk2_20 lk3_20 hi_11 hx (fun _ => rfl) rfl (fun _ => rfl) (Nat.le_of_ble_eq_true rfl) rfl (fun I' X' hX' => ?_)
  refine l_m C0 d_law_215 ?_
  refine l_callM C0 d_law_216 (show qmt[101]? = some _ from rfl) rfl lk1_24 lk2_24 lk3_24 hi_12 hm (fun _ => rfl) rfl (fun _ => rfl) (Nat.le_of_ble_eq_true rfl) rfl (fun I2' X2' hM' => ?_)
  refine l_eq (tgt := 854) C0 d_law_219 (by decide) ?_
  exact kk σ' I' X' I2' X2' hS' hX' hM'
set_option maxHeartbeats 1000000 in
theorem l_c2 (C0 : lw_At p s m meth c b L xs) (hL : L ≤ 2560) (hi0 : 0 ≤ i) (hi1 : i + 5 ≤ L) (hX : XI σ h0 s0 w0 I X) (hM : MI σ I2 X2) (hS : SOK σ) (kk : LK p l e s m below meth c b D x0 m0 i) : LW p l e s m below meth c b D x0 m0 i (I, X) (I2, X2) 224 [] := by
  obtain ⟨v, σ', hS', hx, hm⟩ := t_town hX hM hS  
  obtain ⟨r, rfl⟩ := ox_int hx (by rw [qt_69]; decide)
  refine l_x C0 d_law_224 ?_
  refine l_callX C0 d_law_225 (show qmt[69]? = some _ from rfl) rfl lk1_25 lk2_25 lk3_25 hi_11 hx (fun _ => rfl) rfl (fun _ => rfl) (Nat.le_of_ble_eq_true rfl) rfl (fun I' X' hX' => ?_)
  refine l_m C0 d_law_228 ?_
  refine l_callM C0 d_law_229 (show qmt[102]? = some _ from rfl) rfl lk1_28 lk2_28 lk3_28 hi_12 hm (fun _ => rfl) rfl (fun _ => rfl) (Nat.le_of_ble_eq_true rfl) rfl (fun I2' X2' hM' => ?_)
  refine l_eq (tgt := 854) C0 d_law_232 (by decide) ?_
  exact kk σ' I' X' I2' X2' hS' hX' hM'
set_option maxHeartbeats 1000000 in
theorem l_c3 (C0 : lw_At p s m meth c b L xs) (hL : L ≤ 2560) (hi0 : 0 ≤ i) (hi1 : i + 5 ≤ L) (hX : XI σ h0 s0 w0 I X) (hM : MI σ I2 X2) (hS : SOK σ) (kk : LK p l e s m below meth c b D x0 m0 i) : LW p l e s m below meth c b D x0 m0 i (I, X) (I2, X2) 237 [] := by
  obtain ⟨v, σ', hS', hx, hm⟩ := t_square hX hM hS (xa xs i 1) (xa_in xs i 1)
  obtain ⟨r, rfl⟩ := ox_int hx (by rw [qt_70]; decide)
  refine l_x C0 d_law_237 ?_
  refine l_arg C0 hL hi0 hi1 (by decide) d_law_238 d_law_239 d_law_240 d_law_241 d_law_242 ?_
  refine l_callX C0 d_law_243 (show qmt[70]? = some _ from rfl) rfl lk1_29 lk2_29 lk3_29 hi_11 hx (fun _ => rfl) rfl (fun _ => rfl) (Nat.le_of_ble_eq_true rfl) rfl (fun I' X' hX' => ?_)
  refine l_m C0 d_law_246 ?_
  refine l_arg C0 hL hi0 hi1 (by decide) d_law_247 d_law_248 d_law_249 d_law_250 d_law_251 ?_
  refine l_callM C0 d_law_252 (show qmt[111]? = some _ from rfl) rfl lk1_33 lk2_33 lk3_33 hi_12 hm (fun _ => rfl) rfl (fun _ => rfl) (Nat.le_of_ble_eq_true rfl) rfl (fun I2' X2' hM' => ?_)
  refine l_eq (tgt := 854) C0 d_law_255 (by decide) ?_
  exact kk σ' I' X' I2' X2' hS' hX' hM'
set_option maxHeartbeats 1000000 in
theorem l_c4 (C0 : lw_At p s m meth c b L xs) (hL : L ≤ 2560) (hi0 : 0 ≤ i) (hi1 : i + 5 ≤ L) (hX : XI σ h0 s0 w0 I X) (hM : MI σ I2 X2) (hS : SOK σ) (kk : LK p l e s m below meth c b D x0 m0 i) : LW p l e s m below meth c b D x0 m0 i (I, X) (I2, X2) 260 [] := by
  obtain ⟨v, σ', hS', hx, hm⟩ := t_law hX hM hS (xa xs i 1) (xa_in xs i 1)
  obtain ⟨r, rfl⟩ := ox_int hx (by rw [qt_71]; decide)
  refine l_x C0 d_law_260 ?_
  refine l_arg C0 hL hi0 hi1 (by decide) d_law_261 d_law_262 d_law_263 d_law_264 d_law_265 ?_
  refine l_callX C0 d_law_266 (show qmt[71]? = some _ from rfl) rfl lk1_34 lk2_34 lk3_34 hi_11 hx (fun _ => rfl) rfl (fun _ => rfl) (Nat.le_of_ble_eq_true rfl) rfl (fun I' X' hX' => ?_)
  refine l_m C0 d_law_269 ?_
  refine l_arg C0 hL hi0 hi1 (by decide) d_law_270 d_law_271 d_law_272 d_law_273 d_law_274 ?_
  refine l_callM C0 d_law_275 (show qmt[113]? = some _ from rfl) rfl lk1_37 lk2_37 lk3_37 hi_12 hm (fun _ => rfl) rfl (fun _ => rfl) (Nat.le_of_ble_eq_true rfl) rfl (fun I2' X2' hM' => ?_)
  refine l_eq (tgt := 854) C0 d_law_278 (by decide) ?_
  exact kk σ' I' X' I2' X2' hS' hX' hM'
set_option maxHeartbeats 1000000 in
theorem l_c5 (C0 : lw_At p s m meth c b L xs) (hL : L ≤ 2560) (hi0 : 0 ≤ i) (hi1 : i + 5 ≤ L) (hX : XI σ h0 s0 w0 I X) (hM : MI σ I2 X2) (hS : SOK σ) (kk : LK p l e s m below meth c b D x0 m0 i) : LW p l e s m below meth c b D x0 m0 i (I, X) (I2, X2) 283 [] := by
  obtain ⟨v, σ', hS', hx, hm⟩ := t_stand hX hM hS (xa xs i 1) (xa_in xs i 1)
  obtain ⟨r, rfl⟩ := ox_int hx (by rw [qt_72]; decide)
  refine l_x C0 d_law_283 ?_
  refine l_arg C0 hL hi0 hi1 (by decide) d_law_284 d_law_285 d_law_286 d_law_287 d_law_288 ?_
  refine l_callX C0 d_law_289 (show qmt[72]? = some _ from rfl) rfl lk1_38 lk2_38 lk3_38 hi_11 hx (fun _ => rfl) rfl (fun _ => rfl) (Nat.le_of_ble_eq_true rfl) rfl (fun I' X' hX' => ?_)
  refine l_m C0 d_law_292 ?_
  refine l_arg C0 hL hi0 hi1 (by decide) d_law_293 d_law_294 d_law_295 d_law_296 d_law_297 ?_
  refine l_callM C0 d_law_298 (show qmt[114]? = some _ from rfl) rfl lk1_41 lk2_41 lk3_41 hi_12 hm (fun _ => rfl) rfl (fun _ => rfl) (Nat.le_of_ble_eq_true rfl) rfl (fun I2' X2' hM' => ?_)
  refine l_eq (tgt := 854) C0 d_law_301 (by decide) ?_
  exact kk σ' I' X' I2' X2' hS' hX' hM'
set_option maxHeartbeats 1000000 in
theorem l_c6 (C0 : lw_At p s m meth c b L xs) (hL : L ≤ 2560) (hi0 : 0 ≤ i) (hi1 : i + 5 ≤ L) (hX : XI σ h0 s0 w0 I X) (hM : MI σ I2 X2) (hS : SOK σ) (kk : LK p l e s m below meth c b D x0 m0 i) : LW p l e s m below meth c b D x0 m0 i (I, X) (I2, X2) 306 [] := by
  obtain ⟨v, σ', hS', hx, hm⟩ := t_step hX hM hS (xa xs i 1) (xa_in xs i 1)
  obtain ⟨r, rfl⟩ := ox_int hx (by rw [qt_73]; decide)
  refine l_x C0 d_law_306 ?_
  refine l_arg C0 hL hi0 hi1 (by decide) d_law_307 d_law_308 d_law_309 d_law_310 d_law_311 ?_
  refine l_callX C0 d_law_312 (show qmt[73]? = some _ from rfl) rfl lk1_42 lk2_42 lk3_42 hi_11 hx (fun _ => rfl) rfl (fun _ => rfl) (Nat.le_of_ble_eq_true rfl) rfl (fun I' X' hX' => ?_)
  refine l_m C0 d_law_315 ?_
  refine l_arg C0 hL hi0 hi1 (by decide) d_law_316 d_law_317 d_law_318 d_law_319 d_law_320 ?_
  refine l_callM C0 d_law_321 (show qmt[116]? = some _ from rfl) rfl lk1_45 lk2_45 lk3_45 hi_12 hm (fun _ => rfl) rfl (fun _ => rfl) (Nat.le_of_ble_eq_true rfl) rfl (fun I2' X2' hM' => ?_)
  refine l_eq (tgt := 854) C0 d_law_324 (by decide) ?_
  exact kk σ' I' X' I2' X2' hS' hX' hM'
set_option maxHeartbeats 1000000 in
theorem l_c7 (C0 : lw_At p s m meth c b L xs) (hL : L ≤ 2560) (hi0 : 0 ≤ i) (hi1 : i + 5 ≤ L) (hX : XI σ h0 s0 w0 I X) (hM : MI σ I2 X2) (hS : SOK σ) (kk : LK p l e s m below meth c b D x0 m0 i) : LW p l e s m below meth c b D x0 m0 i (I, X) (I2, X2) 329 [] := by
  obtain ⟨v, σ', hS', hx, hm⟩ := t_undo hX hM hS  
  obtain ⟨r, rfl⟩ := ox_int hx (by rw [qt_75]; decide)
  refine l_x C0 d_law_329 ?_
  refine l_callX C0 d_law_330 (show qmt[75]? = some _ from rfl) rfl lk1_46 lk2_46 lk3_46 hi_11 hx (fun _ => rfl) rfl (fun _ => rfl) (Nat.le_of_ble_eq_true rfl) rfl (fun I' X' hX' => ?_)
  refine l_m C0 d_law_333 ?_
  refine l_callM C0 d_law_334 (show qmt[121]? = some _ from rfl) rfl lk1_49 lk2_49 lk3_49 hi_12 hm (fun _ => rfl) rfl (fun _ => rfl) (Nat.le_of_ble_eq_true rfl) rfl (fun I2' X2' hM' => ?_)
  refine l_eq (tgt := 854) C0 d_law_337 (by decide) ?_
  exact kk σ' I' X' I2' X2' hS' hX' hM'
set_option maxHeartbeats 1000000 in
theorem l_c8 (C0 : lw_At p s m meth c b L xs) (hL : L ≤ 2560) (hi0 : 0 ≤ i) (hi1 : i + 5 ≤ L) (hX : XI σ h0 s0 w0 I X) (hM : MI σ I2 X2) (hS : SOK σ) (kk : LK p l e s m below meth c b D x0 m0 i) : LW p l e s m below meth c b D x0 m0 i (I, X) (I2, X2) 342 [] := by
  obtain ⟨v, σ', hS', hx, hm⟩ := t_one hX hM hS (xa xs i 1) (xa_in xs i 1)
  obtain ⟨r, rfl⟩ := ox_int hx (by rw [qt_76]; decide)
  refine l_x C0 d_law_342 ?_
  refine l_arg C0 hL hi0 hi1 (by decide) d_law_343 d_law_344 d_law_345 d_law_346 d_law_347 ?_
  refine l_callX C0 d_law_348 (show qmt[76]? = some _ from rfl) rfl lk1_50 lk2_50 lk3_50 hi_11 hx (fun _ => rfl) rfl (fun _ => rfl) (Nat.le_of_ble_eq_true rfl) rfl (fun I' X' hX' => ?_)
  refine l_m C0 d_law_351 ?_
  refine l_arg C0 hL hi0 hi1 (by decide) d_law_352 d_law_353 d_law_354 d_law_355 d_law_356 ?_
  refine l_callM C0 d_law_357 (show qmt[122]? = some _ from rfl) rfl lk1_53 lk2_53 lk3_53 hi_12 hm (fun _ => rfl) rfl (fun _ => rfl) (Nat.le_of_ble_eq_true rfl) rfl (fun I2' X2' hM' => ?_)
  refine l_eq (tgt := 854) C0 d_law_360 (by decide) ?_
  exact kk σ' I' X' I2' X2' hS' hX' hM'
set_option maxHeartbeats 1000000 in
theorem l_c9 (C0 : lw_At p s m meth c b L xs) (hL : L ≤ 2560) (hi0 : 0 ≤ i) (hi1 : i + 5 ≤ L) (hX : XI σ h0 s0 w0 I X) (hM : MI σ I2 X2) (hS : SOK σ) (kk : LK p l e s m below meth c b D x0 m0 i) : LW p l e s m below meth c b D x0 m0 i (I, X) (I2, X2) 365 [] := by
  obtain ⟨v, σ', hS', hx, hm⟩ := t_dusk hX hM hS (xa xs i 1) (xa_in xs i 1)
  obtain ⟨r, rfl⟩ := ox_int hx (by rw [qt_77]; decide)
  refine l_x C0 d_law_365 ?_
  refine l_arg C0 hL hi0 hi1 (by decide) d_law_366 d_law_367 d_law_368 d_law_369 d_law_370 ?_
  refine l_callX C0 d_law_371 (show qmt[77]? = some _ from rfl) rfl lk1_54 lk2_54 lk3_54 hi_11 hx (fun _ => rfl) rfl (fun _ => rfl) (Nat.le_of_ble_eq_true rfl) rfl (fun I' X' hX' => ?_)
  refine l_m C0 d_law_374 ?_
  refine l_arg C0 hL hi0 hi1 (by decide) d_law_375 d_law_376 d_law_377 d_law_378 d_law_379 ?_
  refine l_callM C0 d_law_380 (show qmt[123]? = some _ from rfl) rfl lk1_57 lk2_57 lk3_57 hi_12 hm (fun _ => rfl) rfl (fun _ => rfl) (Nat.le_of_ble_eq_true rfl) rfl (fun I2' X2' hM' => ?_)
  refine l_eq (tgt := 854) C0 d_law_383 (by decide) ?_
  exact kk σ' I' X' I2' X2' hS' hX' hM'
set_option maxHeartbeats 1000000 in
theorem l_c10 (C0 : lw_At p s m meth c b L xs) (hL : L ≤ 2560) (hi0 : 0 ≤ i) (hi1 : i + 5 ≤ L) (hX : XI σ h0 s0 w0 I X) (hM : MI σ I2 X2) (hS : SOK σ) (kk : LK p l e s m below meth c b D x0 m0 i) : LW p l e s m below meth c b D x0 m0 i (I, X) (I2, X2) 388 [] := by
  obtain ⟨v, σ', hS', hx, hm⟩ := t_cost hX hM hS (xa xs i 1) (xa xs i 2) (xa_in xs i 1) (xa_in xs i 2)
  obtain ⟨r, rfl⟩ := ox_int hx (by rw [qt_79]; decide)
  refine l_x C0 d_law_388 ?_
  refine l_arg C0 hL hi0 hi1 (by decide) d_law_389 d_law_390 d_law_391 d_law_392 d_law_393 ?_
  refine l_arg C0 hL hi0 hi1 (by decide) d_law_394 d_law_395 d_law_396 d_law_397 d_law_398 ?_
  refine l_callX C0 d_law_399 (show qmt[79]? = some _ from rfl) rfl lk1_58 lk2_58 lk3_58 hi_11 hx (fun _ => rfl) rfl (fun _ => rfl) (Nat.le_of_ble_eq_true rfl) rfl (fun I' X' hX' => ?_)
  refine l_m C0 d_law_402 ?_
  refine l_arg C0 hL hi0 hi1 (by decide) d_law_403 d_law_404 d_law_405 d_law_406 d_law_407 ?_
  refine l_arg C0 hL hi0 hi1 (by decide) d_law_408 d_law_409 d_law_410 d_law_411 d_law_412 ?_
  refine l_callM C0 d_law_413 (show qmt[124]? = some _ from rfl) rfl lk1_62 lk2_62 lk3_62 hi_12 hm (fun _ => rfl) rfl (fun _ => rfl) (Nat.le_of_ble_eq_true rfl) rfl (fun I2' X2' hM' => ?_)
  refine l_eq (tgt := 854) C0 d_law_416 (by decide) ?_
  exact kk σ' I' X' I2' X2' hS' hX' hM'
set_option maxHeartbeats 1000000 in
theorem l_c11 (C0 : lw_At p s m meth c b L xs) (hL : L ≤ 2560) (hi0 : 0 ≤ i) (hi1 : i + 5 ≤ L) (hX : XI σ h0 s0 w0 I X) (hM : MI σ I2 X2) (hS : SOK σ) (kk : LK p l e s m below meth c b D x0 m0 i) : LW p l e s m below meth c b D x0 m0 i (I, X) (I2, X2) 421 [] := by
  obtain ⟨v, σ', hS', hx, hm⟩ := t_cheapest hX hM hS (xa xs i 1) (xa xs i 2) (xa xs i 3) (xa_in xs i 1) (xa_in xs i 2) (xa_in xs i 3)
  obtain ⟨r, rfl⟩ := ox_int hx (by rw [qt_81]; decide)
  refine l_x C0 d_law_421 ?_
  refine l_arg C0 hL hi0 hi1 (by decide) d_law_422 d_law_423 d_law_424 d_law_425 d_law_426 ?_
  refine l_arg C0 hL hi0 hi1 (by decide) d_law_427 d_law_428 d_law_429 d_law_430 d_law_431 ?_
  refine l_arg C0 hL hi0 hi1 (by decide) d_law_432 d_law_433 d_law_434 d_law_435 d_law_436 ?_
  refine l_callX C0 d_law_437 (show qmt[81]? = some _ from rfl) rfl lk1_63 lk2_63 lk3_63 hi_11 hx (fun _ => rfl) rfl (fun _ => rfl) (Nat.le_of_ble_eq_true rfl) rfl (fun I' X' hX' => ?_)
  refine l_m C0 d_law_440 ?_
  refine l_arg C0 hL hi0 hi1 (by decide) d_law_441 d_law_442 d_law_443 d_law_444 d_law_445 ?_
  refine l_arg C0 hL hi0 hi1 (by decide) d_law_446 d_law_447 d_law_448 d_law_449 d_law_450 ?_
  refine l_arg C0 hL hi0 hi1 (by decide) d_law_451 d_law_452 d_law_453 d_law_454 d_law_455 ?_
  refine l_callM C0 d_law_456 (show qmt[125]? = some _ from rfl) rfl lk1_67 lk2_67 lk3_67 hi_12 hm (fun _ => rfl) rfl (fun _ => rfl) (Nat.le_of_ble_eq_true rfl) rfl (fun I2' X2' hM' => ?_)
  refine l_eq (tgt := 854) C0 d_law_459 (by decide) ?_
  exact kk σ' I' X' I2' X2' hS' hX' hM'
set_option maxHeartbeats 1000000 in
theorem l_c12 (C0 : lw_At p s m meth c b L xs) (hL : L ≤ 2560) (hi0 : 0 ≤ i) (hi1 : i + 5 ≤ L) (hX : XI σ h0 s0 w0 I X) (hM : MI σ I2 X2) (hS : SOK σ) (kk : LK p l e s m below meth c b D x0 m0 i) : LW p l e s m below meth c b D x0 m0 i (I, X) (I2, X2) 464 [] := by
  obtain ⟨v, σ', hS', hx, hm⟩ := t_quickest hX hM hS (xa xs i 1) (xa xs i 2) (xa xs i 3) (xa_in xs i 1) (xa_in xs i 2) (xa_in xs i 3)
  obtain ⟨r, rfl⟩ := ox_int hx (by rw [qt_83]; decide)
  refine l_x C0 d_law_464 ?_
  refine l_arg C0 hL hi0 hi1 (by decide) d_law_465 d_law_466 d_law_467 d_law_468 d_law_469 ?_
  refine l_arg C0 hL hi0 hi1 (by decide) d_law_470 d_law_471 d_law_472 d_law_473 d_law_474 ?_
  refine l_arg C0 hL hi0 hi1 (by decide) d_law_475 d_law_476 d_law_477 d_law_478 d_law_479 ?_
  refine l_callX C0 d_law_480 (show qmt[83]? = some _ from rfl) rfl lk1_68 lk2_68 lk3_68 hi_11 hx (fun _ => rfl) rfl (fun _ => rfl) (Nat.le_of_ble_eq_true rfl) rfl (fun I' X' hX' => ?_)
  refine l_m C0 d_law_483 ?_
  refine l_arg C0 hL hi0 hi1 (by decide) d_law_484 d_law_485 d_law_486 d_law_487 d_law_488 ?_
  refine l_arg C0 hL hi0 hi1 (by decide) d_law_489 d_law_490 d_law_491 d_law_492 d_law_493 ?_
  refine l_arg C0 hL hi0 hi1 (by decide) d_law_494 d_law_495 d_law_496 d_law_497 d_law_498 ?_
  refine l_callM C0 d_law_499 (show qmt[131]? = some _ from rfl) rfl lk1_71 lk2_71 lk3_71 hi_12 hm (fun _ => rfl) rfl (fun _ => rfl) (Nat.le_of_ble_eq_true rfl) rfl (fun I2' X2' hM' => ?_)
  refine l_eq (tgt := 854) C0 d_law_502 (by decide) ?_
  exact kk σ' I' X' I2' X2' hS' hX' hM'
set_option maxHeartbeats 1000000 in
theorem l_c13 (C0 : lw_At p s m meth c b L xs) (hL : L ≤ 2560) (hi0 : 0 ≤ i) (hi1 : i + 5 ≤ L) (hX : XI σ h0 s0 w0 I X) (hM : MI σ I2 X2) (hS : SOK σ) (kk : LK p l e s m below meth c b D x0 m0 i) : LW p l e s m below meth c b D x0 m0 i (I, X) (I2, X2) 507 [] := by
  obtain ⟨v, σ', hS', hx, hm⟩ := t_line hX hM hS (xa xs i 1) (xa xs i 2) (xa xs i 3) (xa xs i 4) (xa_in xs i 1) (xa_in xs i 2) (xa_in xs i 3) (xa_in xs i 4)
  obtain ⟨r, rfl⟩ := ox_int hx (by rw [qt_84]; decide)
  refine l_x C0 d_law_507 ?_
  refine l_arg C0 hL hi0 hi1 (by decide) d_law_508 d_law_509 d_law_510 d_law_511 d_law_512 ?_
  refine l_arg C0 hL hi0 hi1 (by decide) d_law_513 d_law_514 d_law_515 d_law_516 d_law_517 ?_
  refine l_arg C0 hL hi0 hi1 (by decide) d_law_518 d_law_519 d_law_520 d_law_521 d_law_522 ?_
  refine l_arg C0 hL hi0 hi1 (by decide) d_law_523 d_law_524 d_law_525 d_law_526 d_law_527 ?_
  refine l_callX C0 d_law_528 (show qmt[84]? = some _ from rfl) rfl lk1_72 lk2_72 lk3_72 hi_11 hx (fun _ => rfl) rfl (fun _ => rfl) (Nat.le_of_ble_eq_true rfl) rfl (fun I' X' hX' => ?_)
  refine l_m C0 d_law_531 ?_
  refine l_arg C0 hL hi0 hi1 (by decide) d_law_532 d_law_533 d_law_534 d_law_535 d_law_536 ?_
  refine l_arg C0 hL hi0 hi1 (by decide) d_law_537 d_law_538 d_law_539 d_law_540 d_law_541 ?_
  refine l_arg C0 hL hi0 hi1 (by decide) d_law_542 d_law_543 d_law_544 d_law_545 d_law_546 ?_
  refine l_arg C0 hL hi0 hi1 (by decide) d_law_547 d_law_548 d_law_549 d_law_550 d_law_551 ?_
  refine l_callM C0 d_law_552 (show qmt[133]? = some _ from rfl) rfl lk1_76 lk2_76 lk3_76 hi_12 hm (fun _ => rfl) rfl (fun _ => rfl) (Nat.le_of_ble_eq_true rfl) rfl (fun I2' X2' hM' => ?_)
  refine l_eq (tgt := 854) C0 d_law_555 (by decide) ?_
  exact kk σ' I' X' I2' X2' hS' hX' hM'
set_option maxHeartbeats 1000000 in
theorem l_c14 (C0 : lw_At p s m meth c b L xs) (hL : L ≤ 2560) (hi0 : 0 ≤ i) (hi1 : i + 5 ≤ L) (hX : XI σ h0 s0 w0 I X) (hM : MI σ I2 X2) (hS : SOK σ) (kk : LK p l e s m below meth c b D x0 m0 i) : LW p l e s m below meth c b D x0 m0 i (I, X) (I2, X2) 560 [] := by
  obtain ⟨v, σ', hS', hx, hm⟩ := t_fewTurns hX hM hS (xa xs i 1) (xa xs i 2) (xa_in xs i 1) (xa_in xs i 2)
  obtain ⟨r, rfl⟩ := ox_int hx (by rw [qt_85]; decide)
  refine l_x C0 d_law_560 ?_
  refine l_arg C0 hL hi0 hi1 (by decide) d_law_561 d_law_562 d_law_563 d_law_564 d_law_565 ?_
  refine l_arg C0 hL hi0 hi1 (by decide) d_law_566 d_law_567 d_law_568 d_law_569 d_law_570 ?_
  refine l_callX C0 d_law_571 (show qmt[85]? = some _ from rfl) rfl lk1_77 lk2_77 lk3_77 hi_11 hx (fun _ => rfl) rfl (fun _ => rfl) (Nat.le_of_ble_eq_true rfl) rfl (fun I' X' hX' => ?_)
  refine l_m C0 d_law_574 ?_
  refine l_arg C0 hL hi0 hi1 (by decide) d_law_575 d_law_576 d_law_577 d_law_578 d_law_579 ?_
  refine l_arg C0 hL hi0 hi1 (by decide) d_law_580 d_law_581 d_law_582 d_law_583 d_law_584 ?_
  refine l_callM C0 d_law_585 (show qmt[134]? = some _ from rfl) rfl lk1_80 lk2_80 lk3_80 hi_12 hm (fun _ => rfl) rfl (fun _ => rfl) (Nat.le_of_ble_eq_true rfl) rfl (fun I2' X2' hM' => ?_)
  refine l_eq (tgt := 854) C0 d_law_588 (by decide) ?_
  exact kk σ' I' X' I2' X2' hS' hX' hM'
set_option maxHeartbeats 1000000 in
theorem l_c15 (C0 : lw_At p s m meth c b L xs) (hL : L ≤ 2560) (hi0 : 0 ≤ i) (hi1 : i + 5 ≤ L) (hX : XI σ h0 s0 w0 I X) (hM : MI σ I2 X2) (hS : SOK σ) (kk : LK p l e s m below meth c b D x0 m0 i) : LW p l e s m below meth c b D x0 m0 i (I, X) (I2, X2) 593 [] := by
  obtain ⟨v, σ', hS', hx, hm⟩ := t_round hX hM hS (xa xs i 1) (xa xs i 2) (xa_in xs i 1) (xa_in xs i 2)
  obtain ⟨r, rfl⟩ := ox_int hx (by rw [qt_87]; decide)
  refine l_x C0 d_law_593 ?_
  refine l_arg C0 hL hi0 hi1 (by decide) d_law_594 d_law_595 d_law_596 d_law_597 d_law_598 ?_
  refine l_arg C0 hL hi0 hi1 (by decide) d_law_599 d_law_600 d_law_601 d_law_602 d_law_603 ?_
  refine l_callX C0 d_law_604 (show qmt[87]? = some _ from rfl) rfl lk1_81 lk2_81 lk3_81 hi_11 hx (fun _ => rfl) rfl (fun _ => rfl) (Nat.le_of_ble_eq_true rfl) rfl (fun I' X' hX' => ?_)
  refine l_m C0 d_law_607 ?_
  refine l_arg C0 hL hi0 hi1 (by decide) d_law_608 d_law_609 d_law_610 d_law_611 d_law_612 ?_
  refine l_arg C0 hL hi0 hi1 (by decide) d_law_613 d_law_614 d_law_615 d_law_616 d_law_617 ?_
  refine l_callM C0 d_law_618 (show qmt[135]? = some _ from rfl) rfl lk1_84 lk2_84 lk3_84 hi_12 hm (fun _ => rfl) rfl (fun _ => rfl) (Nat.le_of_ble_eq_true rfl) rfl (fun I2' X2' hM' => ?_)
  refine l_eq (tgt := 854) C0 d_law_621 (by decide) ?_
  exact kk σ' I' X' I2' X2' hS' hX' hM'
set_option maxHeartbeats 1000000 in
theorem l_c16 (C0 : lw_At p s m meth c b L xs) (hL : L ≤ 2560) (hi0 : 0 ≤ i) (hi1 : i + 5 ≤ L) (hX : XI σ h0 s0 w0 I X) (hM : MI σ I2 X2) (hS : SOK σ) (kk : LK p l e s m below meth c b D x0 m0 i) : LW p l e s m below meth c b D x0 m0 i (I, X) (I2, X2) 626 [] := by
  obtain ⟨v, σ', hS', hx, hm⟩ := t_errand hX hM hS (xa xs i 1) (xa xs i 2) (xa_in xs i 1) (xa_in xs i 2)
  obtain ⟨r, rfl⟩ := ox_int hx (by rw [qt_89]; decide)
  refine l_x C0 d_law_626 ?_
  refine l_arg C0 hL hi0 hi1 (by decide) d_law_627 d_law_628 d_law_629 d_law_630 d_law_631 ?_
  refine l_arg C0 hL hi0 hi1 (by decide) d_law_632 d_law_633 d_law_634 d_law_635 d_law_636 ?_
  refine l_callX C0 d_law_637 (show qmt[89]? = some _ from rfl) rfl lk1_85 lk2_85 lk3_85 hi_11 hx (fun _ => rfl) rfl (fun _ => rfl) (Nat.le_of_ble_eq_true rfl) rfl (fun I' X' hX' => ?_)
  refine l_m C0 d_law_640 ?_
  refine l_arg C0 hL hi0 hi1 (by decide) d_law_641 d_law_642 d_law_643 d_law_644 d_law_645 ?_
  refine l_arg C0 hL hi0 hi1 (by decide) d_law_646 d_law_647 d_law_648 d_law_649 d_law_650 ?_
  refine l_callM C0 d_law_651 (show qmt[138]? = some _ from rfl) rfl lk1_88 lk2_88 lk3_88 hi_12 hm (fun _ => rfl) rfl (fun _ => rfl) (Nat.le_of_ble_eq_true rfl) rfl (fun I2' X2' hM' => ?_)
  refine l_eq (tgt := 854) C0 d_law_654 (by decide) ?_
  exact kk σ' I' X' I2' X2' hS' hX' hM'
set_option maxHeartbeats 1000000 in
theorem l_c17 (C0 : lw_At p s m meth c b L xs) (hL : L ≤ 2560) (hi0 : 0 ≤ i) (hi1 : i + 5 ≤ L) (hX : XI σ h0 s0 w0 I X) (hM : MI σ I2 X2) (hS : SOK σ) (kk : LK p l e s m below meth c b D x0 m0 i) : LW p l e s m below meth c b D x0 m0 i (I, X) (I2, X2) 659 [] := by
  obtain ⟨v, σ', hS', hx, hm⟩ := t_home hX hM hS  
  obtain ⟨r, rfl⟩ := ox_int hx (by rw [qt_90]; decide)
  refine l_x C0 d_law_659 ?_
  refine l_callX C0 d_law_660 (show qmt[90]? = some _ from rfl) rfl lk1_89 lk2_89 lk3_89 hi_11 hx (fun _ => rfl) rfl (fun _ => rfl) (Nat.le_of_ble_eq_true rfl) rfl (fun I' X' hX' => ?_)
  refine l_m C0 d_law_663 ?_
  refine l_callM C0 d_law_664 (show qmt[139]? = some _ from rfl) rfl lk1_92 lk2_92 lk3_92 hi_12 hm (fun _ => rfl) rfl (fun _ => rfl) (Nat.le_of_ble_eq_true rfl) rfl (fun I2' X2' hM' => ?_)
  refine l_eq (tgt := 854) C0 d_law_667 (by decide) ?_
  exact kk σ' I' X' I2' X2' hS' hX' hM'
set_option maxHeartbeats 1000000 in
theorem l_c18 (C0 : lw_At p s m meth c b L xs) (hL : L ≤ 2560) (hi0 : 0 ≤ i) (hi1 : i + 5 ≤ L) (hX : XI σ h0 s0 w0 I X) (hM : MI σ I2 X2) (hS : SOK σ) (kk : LK p l e s m below meth c b D x0 m0 i) : LW p l e s m below meth c b D x0 m0 i (I, X) (I2, X2) 672 [] := by
  obtain ⟨v, σ', hS', hx, hm⟩ := t_help hX hM hS (xa xs i 1) (xa_in xs i 1)
  obtain ⟨r, rfl⟩ := ox_int hx (by rw [qt_91]; decide)
  refine l_x C0 d_law_672 ?_
  refine l_arg C0 hL hi0 hi1 (by decide) d_law_673 d_law_674 d_law_675 d_law_676 d_law_677 ?_
  refine l_callX C0 d_law_678 (show qmt[91]? = some _ from rfl) rfl lk1_93 lk2_93 lk3_93 hi_11 hx (fun _ => rfl) rfl (fun _ => rfl) (Nat.le_of_ble_eq_true rfl) rfl (fun I' X' hX' => ?_)
  refine l_m C0 d_law_681 ?_
  refine l_arg C0 hL hi0 hi1 (by decide) d_law_682 d_law_683 d_law_684 d_law_685 d_law_686 ?_
  refine l_callM C0 d_law_687 (show qmt[140]? = some _ from rfl) rfl lk1_96 lk2_96 lk3_96 hi_12 hm (fun _ => rfl) rfl (fun _ => rfl) (Nat.le_of_ble_eq_true rfl) rfl (fun I2' X2' hM' => ?_)
  refine l_eq (tgt := 854) C0 d_law_690 (by decide) ?_
  exact kk σ' I' X' I2' X2' hS' hX' hM'
set_option maxHeartbeats 1000000 in
theorem l_c19 (C0 : lw_At p s m meth c b L xs) (hL : L ≤ 2560) (hi0 : 0 ≤ i) (hi1 : i + 5 ≤ L) (hX : XI σ h0 s0 w0 I X) (hM : MI σ I2 X2) (hS : SOK σ) (kk : LK p l e s m below meth c b D x0 m0 i) : LW p l e s m below meth c b D x0 m0 i (I, X) (I2, X2) 695 [] := by
  obtain ⟨v, σ', hS', hx, hm⟩ := t_fits hX hM hS (xa xs i 1) (xa xs i 2) (xa xs i 3) (xa xs i 4) (xa_in xs i 1) (xa_in xs i 2) (xa_in xs i 3) (xa_in xs i 4)
  obtain ⟨r, rfl⟩ := ox_int hx (by rw [qt_92]; decide)
  refine l_x C0 d_law_695 ?_
  refine l_arg C0 hL hi0 hi1 (by decide) d_law_696 d_law_697 d_law_698 d_law_699 d_law_700 ?_
  refine l_arg C0 hL hi0 hi1 (by decide) d_law_701 d_law_702 d_law_703 d_law_704 d_law_705 ?_
  refine l_arg C0 hL hi0 hi1 (by decide) d_law_706 d_law_707 d_law_708 d_law_709 d_law_710 ?_
  refine l_arg C0 hL hi0 hi1 (by decide) d_law_711 d_law_712 d_law_713 d_law_714 d_law_715 ?_
  refine l_callX C0 d_law_716 (show qmt[92]? = some _ from rfl) rfl lk1_97 lk2_97 lk3_97 hi_11 hx (fun _ => rfl) rfl (fun _ => rfl) (Nat.le_of_ble_eq_true rfl) rfl (fun I' X' hX' => ?_)
  refine l_m C0 d_law_719 ?_
  refine l_arg C0 hL hi0 hi1 (by decide) d_law_720 d_law_721 d_law_722 d_law_723 d_law_724 ?_
  refine l_arg C0 hL hi0 hi1 (by decide) d_law_725 d_law_726 d_law_727 d_law_728 d_law_729 ?_
  refine l_arg C0 hL hi0 hi1 (by decide) d_law_730 d_law_731 d_law_732 d_law_733 d_law_734 ?_
  refine l_arg C0 hL hi0 hi1 (by decide) d_law_735 d_law_736 d_law_737 d_law_738 d_law_739 ?_
  refine l_callM C0 d_law_740 (show qmt[141]? = some _ from rfl) rfl lk1_100 lk2_100 lk3_100 hi_12 hm (fun _ => rfl) rfl (fun _ => rfl) (Nat.le_of_ble_eq_true rfl) rfl (fun I2' X2' hM' => ?_)
  refine l_eq (tgt := 854) C0 d_law_743 (by decide) ?_
  exact kk σ' I' X' I2' X2' hS' hX' hM'
set_option maxHeartbeats 1000000 in
theorem l_c20 (C0 : lw_At p s m meth c b L xs) (hL : L ≤ 2560) (hi0 : 0 ≤ i) (hi1 : i + 5 ≤ L) (hX : XI σ h0 s0 w0 I X) (hM : MI σ I2 X2) (hS : SOK σ) (kk : LK p l e s m below meth c b D x0 m0 i) : LW p l e s m below meth c b D x0 m0 i (I, X) (I2, X2) 748 [] := by
  obtain ⟨v, σ', hS', hx, hm⟩ := t_rating hX hM hS (xa xs i 1) (xa_in xs i 1)
  obtain ⟨r, rfl⟩ := ox_int hx (by rw [qt_93]; decide)
  refine l_x C0 d_law_748 ?_
  refine l_arg C0 hL hi0 hi1 (by decide) d_law_749 d_law_750 d_law_751 d_law_752 d_law_753 ?_
  refine l_callX C0 d_law_754 (show qmt[93]? = some _ from rfl) rfl lk1_101 lk2_101 lk3_101 hi_11 hx (fun _ => rfl) rfl (fun _ => rfl) (Nat.le_of_ble_eq_true rfl) rfl (fun I' X' hX' => ?_)
  refine l_m C0 d_law_757 ?_
  refine l_arg C0 hL hi0 hi1 (by decide) d_law_758 d_law_759 d_law_760 d_law_761 d_law_762 ?_
  refine l_callM C0 d_law_763 (show qmt[142]? = some _ from rfl) rfl lk1_104 lk2_104 lk3_104 hi_12 hm (fun _ => rfl) rfl (fun _ => rfl) (Nat.le_of_ble_eq_true rfl) rfl (fun I2' X2' hM' => ?_)
  refine l_eq (tgt := 854) C0 d_law_766 (by decide) ?_
  exact kk σ' I' X' I2' X2' hS' hX' hM'
set_option maxHeartbeats 1000000 in
theorem l_c21 (C0 : lw_At p s m meth c b L xs) (hL : L ≤ 2560) (hi0 : 0 ≤ i) (hi1 : i + 5 ≤ L) (hX : XI σ h0 s0 w0 I X) (hM : MI σ I2 X2) (hS : SOK σ) (kk : LK p l e s m below meth c b D x0 m0 i) : LW p l e s m below meth c b D x0 m0 i (I, X) (I2, X2) 771 [] := by
  obtain ⟨v, σ', hS', hx, hm⟩ := t_keep hX hM hS (xa xs i 1) (xa_in xs i 1)
  obtain ⟨r, rfl⟩ := ox_int hx (by rw [qt_94]; decide)
  refine l_x C0 d_law_771 ?_
  refine l_arg C0 hL hi0 hi1 (by decide) d_law_772 d_law_773 d_law_774 d_law_775 d_law_776 ?_
  refine l_callX C0 d_law_777 (show qmt[94]? = some _ from rfl) rfl lk1_105 lk2_105 lk3_105 hi_11 hx (fun _ => rfl) rfl (fun _ => rfl) (Nat.le_of_ble_eq_true rfl) rfl (fun I' X' hX' => ?_)
  refine l_m C0 d_law_780 ?_
  refine l_arg C0 hL hi0 hi1 (by decide) d_law_781 d_law_782 d_law_783 d_law_784 d_law_785 ?_
  refine l_callM C0 d_law_786 (show qmt[143]? = some _ from rfl) rfl lk1_108 lk2_108 lk3_108 hi_12 hm (fun _ => rfl) rfl (fun _ => rfl) (Nat.le_of_ble_eq_true rfl) rfl (fun I2' X2' hM' => ?_)
  refine l_eq (tgt := 854) C0 d_law_789 (by decide) ?_
  exact kk σ' I' X' I2' X2' hS' hX' hM'
set_option maxHeartbeats 1000000 in
theorem l_c22 (C0 : lw_At p s m meth c b L xs) (hL : L ≤ 2560) (hi0 : 0 ≤ i) (hi1 : i + 5 ≤ L) (hX : XI σ h0 s0 w0 I X) (hM : MI σ I2 X2) (hS : SOK σ) (kk : LK p l e s m below meth c b D x0 m0 i) : LW p l e s m below meth c b D x0 m0 i (I, X) (I2, X2) 794 [] := by
  obtain ⟨v, σ', hS', hx, hm⟩ := t_back hX hM hS (xa xs i 1) (xa_in xs i 1)
  obtain ⟨r, rfl⟩ := ox_int hx (by rw [qt_96]; decide)
  refine l_x C0 d_law_794 ?_
  refine l_arg C0 hL hi0 hi1 (by decide) d_law_795 d_law_796 d_law_797 d_law_798 d_law_799 ?_
  refine l_callX C0 d_law_800 (show qmt[96]? = some _ from rfl) rfl lk1_109 lk2_109 lk3_109 hi_11 hx (fun _ => rfl) rfl (fun _ => rfl) (Nat.le_of_ble_eq_true rfl) rfl (fun I' X' hX' => ?_)
  refine l_m C0 d_law_803 ?_
  refine l_arg C0 hL hi0 hi1 (by decide) d_law_804 d_law_805 d_law_806 d_law_807 d_law_808 ?_
  refine l_callM C0 d_law_809 (show qmt[145]? = some _ from rfl) rfl lk1_112 lk2_112 lk3_112 hi_12 hm (fun _ => rfl) rfl (fun _ => rfl) (Nat.le_of_ble_eq_true rfl) rfl (fun I2' X2' hM' => ?_)
  refine l_eq (tgt := 854) C0 d_law_812 (by decide) ?_
  exact kk σ' I' X' I2' X2' hS' hX' hM'
set_option maxHeartbeats 1000000 in
theorem l_c23 (C0 : lw_At p s m meth c b L xs) (hL : L ≤ 2560) (hi0 : 0 ≤ i) (hi1 : i + 5 ≤ L) (hX : XI σ h0 s0 w0 I X) (hM : MI σ I2 X2) (hS : SOK σ) (kk : LK p l e s m below meth c b D x0 m0 i) : LW p l e s m below meth c b D x0 m0 i (I, X) (I2, X2) 817 [] := by
  obtain ⟨v, σ', hS', hx, hm⟩ := t_count hX hM hS (xa xs i 1) (xa_in xs i 1)
  obtain ⟨r, rfl⟩ := ox_int hx (by rw [qt_97]; decide)
  refine l_x C0 d_law_817 ?_
  refine l_arg C0 hL hi0 hi1 (by decide) d_law_818 d_law_819 d_law_820 d_law_821 d_law_822 ?_
  refine l_callX C0 d_law_823 (show qmt[97]? = some _ from rfl) rfl lk1_113 lk2_113 lk3_113 hi_11 hx (fun _ => rfl) rfl (fun _ => rfl) (Nat.le_of_ble_eq_true rfl) rfl (fun I' X' hX' => ?_)
  refine l_m C0 d_law_826 ?_
  refine l_arg C0 hL hi0 hi1 (by decide) d_law_827 d_law_828 d_law_829 d_law_830 d_law_831 ?_
  refine l_callM C0 d_law_832 (show qmt[146]? = some _ from rfl) rfl lk1_116 lk2_116 lk3_116 hi_12 hm (fun _ => rfl) rfl (fun _ => rfl) (Nat.le_of_ble_eq_true rfl) rfl (fun I2' X2' hM' => ?_)
  refine l_eq (tgt := 854) C0 d_law_835 (by decide) ?_
  exact kk σ' I' X' I2' X2' hS' hX' hM'
set_option maxHeartbeats 1000000 in
theorem l_c24 (C0 : lw_At p s m meth c b L xs) (hL : L ≤ 2560) (hi0 : 0 ≤ i) (hi1 : i + 5 ≤ L) (hX : XI σ h0 s0 w0 I X) (hM : MI σ I2 X2) (hS : SOK σ) (kk : LK p l e s m below meth c b D x0 m0 i) : LW p l e s m below meth c b D x0 m0 i (I, X) (I2, X2) 840 [] := by
  obtain ⟨σ', hS', hx, hm⟩ : ∃ σ', SOK σ' ∧ OX σ h0 s0 w0 98 21 I X [] (.long σ.mk) σ' ∧ OM 147 21 I2 X2 [] (.long σ.mk) σ' := t_trace2 hX hM hS
  refine l_x C0 d_law_840 ?_
  refine l_callX C0 d_law_841 (show qmt[98]? = some _ from rfl) rfl lk1_117 lk2_117 lk3_117 hi_11 hx (fun _ => rfl) rfl (fun _ => rfl) (Nat.le_of_ble_eq_true rfl) rfl (fun I' X' hX' => ?_)
  refine l_m C0 d_law_844 ?_
  refine l_callM C0 d_law_845 (show qmt[147]? = some _ from rfl) rfl lk1_121 lk2_121 lk3_121 hi_12 hm (fun _ => rfl) rfl (fun _ => rfl) (Nat.le_of_ble_eq_true rfl) rfl (fun I2' X2' hM' => ?_)
  refine l_eqL (tgt := 854) C0 d_law_848 d_law_849 (by decide) ?_
  exact kk σ' I' X' I2' X2' hS' hX' hM'
end LF
