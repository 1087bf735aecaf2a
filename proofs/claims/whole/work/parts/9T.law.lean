/-! THE LAW: its script, its calls one behind another, and its start -/
theorem b_63 : ∀ i, i < 32 → bt (63 : Int32) i = decide (i < 6) := by decide +kernel
theorem b63 (x : Int32) : ∃ k, k < 64 ∧ x &&& 63 = nI k := bt_small (m := 6) (by omega) (fun i h1 h2 => by
  rw [b_and, b_63 i h2, decide_eq_false (by omega), Bool.and_false])
abbrev mL (nm : String) : xMI := (⟨RL, nm, "([I)Z"⟩, cL_law, 4, some .boolean)
abbrev lL (i : Nat) : List (Option Value) := [some (.ref 0), some (.ref 8), some (.ref 655), some (.int (nI i))]
section LAW
variable {g : xGT} {d nx nx' : Nat} {nm : String} {pc : Nat} {ls : List (Option Value)} {st : List Value} {u : xU} {w : xW} {r : xQ} {P : xPost}
theorem xe_slen {mi : xMI} {v : Int32} (hd : decode mi.2.1 pc = .ok (.arraylength, 1)) (h0 : xpre g 0 < xz g) (hv : Int32.ofNat (xL g) = v) (kk : xEv g d mi (pc + 1) ls (.int v :: st) nx u w r nx' P) : xEv g d mi pc ls (.ref 0 :: st) nx u w r nx' P := by
  subst hv
  refine xEv.lift (fun p e R s m args below meth c H locs kc ks rl Q F G hR ho kk => ?_) kk
  obtain ⟨scr, h1, h2, h3, h4, h5⟩ := G.2.2.1.1
  rw [xv_pre (show 0 < 8 by omega)]
  exact W.alen (n := Int32.ofNat (xL g)) F.1 F.2.1 (by rw [hR.2.2.1 _ h0]; exact h1) h2 (by rw [h4] <;> rfl) rfl rfl hd kk
theorem xe_sld {mi : xMI} {i : Int32} (hd : decode mi.2.1 pc = .ok (.iaload, 1)) (h0 : xpre g 0 < xz g) (hin : vp_in i (xL g)) (kk : xEv g d mi (pc + 1) ls (.int (xXs g i.toNatClampNeg) :: st) nx u w r nx' P) : xEv g d mi pc ls (.int i :: .ref 0 :: st) nx u w r nx' P := by
  refine xEv.lift (fun p e R s m args below meth c H locs kc ks rl Q F G hR ho kk => ?_) kk
  obtain ⟨scr, h1, h2, h3, h4, h5⟩ := G.2.2.1.1
  have hlt : i.toNatClampNeg < xL g := Nat.not_le.mp fun q => hin (Or.inr q)
  show W p (xl g) e R s m args below meth c H locs kc ks Q (F0 m pc rl (.int i :: (Value.ref 0 :: st).map (xv g)))
  rw [xv_pre (show 0 < 8 by omega)]
  exact W.iald (v := .int (xXs g i.toNatClampNeg)) F.1 F.2.1 (by rw [hR.2.2.1 _ h0]; exact h1) h2 h3 (by rw [h4]; exact hin) (h5 _ hlt) rfl rfl hd kk
/-- one number of the script, for a call -/
theorem xe_arg {i k : Nat} {kc : Int} (d0 : decode cL_law pc = .ok (.aload_n 0, 1)) (d1 : decode cL_law (pc + 1) = .ok (.iload_n 3, 1)) (d2 : decode cL_law (pc + 2) = .ok (.iconst kc, 1)) (d3 : decode cL_law (pc + 3) = .ok (.iadd, 1)) (d4 : decode cL_law (pc + 4) = .ok (.iaload, 1)) (hk : Int32.ofInt kc = nI k) (k6 : k < 6) (h0 : xpre g 0 < xz g) (hL : xL g ≤ 3072) (hi : i + 6 ≤ xL g)
    (kk : xEv g d (mL nm) (pc + 5) (lL i) (.int (xXs g (i + k)) :: st) nx u w r nx' P) : xEv g d (mL nm) pc (lL i) st nx u w r nx' P := by
  refine xe_aload_n (mi := mL nm) d0 rfl ?_
  refine xe_iload_n (mi := mL nm) d1 rfl ?_
  refine xe_iconst (mi := mL nm) (v := nI k) d2 hk ?_
  refine xe_iadd (mi := mL nm) d3 ?_
  rw [nI_add]
  refine xe_sld (mi := mL nm) d4 h0 (vpn (by omega) (by omega)) ?_
  rw [nc (by omega)]
  exact kk
theorem L_0 {j i : Nat} (h0 : xpre g 0 < xz g) (hL : xL g ≤ 3072) (hi : i + 6 ≤ xL g) (S : vS j u w r) (hj : j ≤ 900) (kk : ∀ u' w' r', vS (j + 1) u' w' r' → xEv g (d + 111) (mL nm) 1223 (lL i) [] 698 u' w' r' 698 P) : xEv g (d + 111) (mL nm) 196 (lL i) [] 698 u w r 698 P := by
  refine xe_aload_n dL_law_196 rfl ?_
  refine xe_arg (k := 1) dL_law_197 dL_law_198 dL_law_199 dL_law_200 dL_law_201 (by decide) (by omega) h0 hL hi ?_
  refine xe_arg (k := 2) dL_law_202 dL_law_203 dL_law_204 dL_law_205 dL_law_206 (by decide) (by omega) h0 hL hi ?_
  refine xe_arg (k := 3) dL_law_207 dL_law_208 dL_law_209 dL_law_210 dL_law_211 (by decide) (by omega) h0 hL hi ?_
  refine xe_arg (k := 4) dL_law_212 dL_law_213 dL_law_214 dL_law_215 dL_law_216 (by decide) (by omega) h0 hL hi ?_
  refine xe_arg (k := 5) dL_law_217 dL_law_218 dL_law_219 dL_law_220 dL_law_221 (by decide) (by omega) h0 hL hi ?_
  refine xe_callV (args := [.int (xXs g (i + 1)), .int (xXs g (i + 2)), .int (xXs g (i + 3)), .int (xXs g (i + 4)), .int (xXs g (i + 5))]) dL_law_222 vlL_13 rfl rfl (by show 0 ≤ 8; omega) kk8 (by omega) rfl rfl (V_feed S hj (xXs g (i + 1)) (xXs g (i + 2)) (xXs g (i + 3)) (xXs g (i + 4)) (xXs g (i + 5))) (Nat.le_refl _) (fun rv1 u1 w1 r1 k => ?_)
  obtain ⟨A, rfl, hr⟩ := k
  refine xe_aload_n dL_law_225 rfl ?_
  refine xe_arg (k := 1) dL_law_226 dL_law_227 dL_law_228 dL_law_229 dL_law_230 (by decide) (by omega) h0 hL hi ?_
  refine xe_arg (k := 2) dL_law_231 dL_law_232 dL_law_233 dL_law_234 dL_law_235 (by decide) (by omega) h0 hL hi ?_
  refine xe_arg (k := 3) dL_law_236 dL_law_237 dL_law_238 dL_law_239 dL_law_240 (by decide) (by omega) h0 hL hi ?_
  refine xe_arg (k := 4) dL_law_241 dL_law_242 dL_law_243 dL_law_244 dL_law_245 (by decide) (by omega) h0 hL hi ?_
  refine xe_arg (k := 5) dL_law_246 dL_law_247 dL_law_248 dL_law_249 dL_law_250 (by decide) (by omega) h0 hL hi ?_
  refine xe_callV (args := [.int (xXs g (i + 1)), .int (xXs g (i + 2)), .int (xXs g (i + 3)), .int (xXs g (i + 4)), .int (xXs g (i + 5))]) dL_law_251 vlL_17 rfl rfl (by show 1 ≤ 8; omega) kk655 (by omega) rfl rfl hr (Nat.le_refl _) (fun rv2 u2 w2 r2 k => ?_)
  obtain ⟨rfl, S2⟩ := k
  exact xe_icmp_eq dL_law_254 rfl (fun _ => kk u2 w2 r2 S2) (fun z => absurd rfl z)
theorem L_1 {j i : Nat} (h0 : xpre g 0 < xz g) (hL : xL g ≤ 3072) (hi : i + 6 ≤ xL g) (S : vS j u w r) (hj : j ≤ 900) (kk : ∀ u' w' r', vS (j + 1) u' w' r' → xEv g (d + 111) (mL nm) 1223 (lL i) [] 698 u' w' r' 698 P) : xEv g (d + 111) (mL nm) 259 (lL i) [] 698 u w r 698 P := by
  refine xe_aload_n dL_law_259 rfl ?_
  refine xe_arg (k := 1) dL_law_260 dL_law_261 dL_law_262 dL_law_263 dL_law_264 (by decide) (by omega) h0 hL hi ?_
  refine xe_callV (args := [.int (xXs g (i + 1))]) dL_law_265 vlL_18 rfl rfl (by show 0 ≤ 8; omega) kk8 (by omega) rfl rfl (V_end S hj (xXs g (i + 1))) (Nat.le_refl _) (fun rv1 u1 w1 r1 k => ?_)
  obtain ⟨A, rfl, hr⟩ := k
  refine xe_aload_n dL_law_268 rfl ?_
  refine xe_arg (k := 1) dL_law_269 dL_law_270 dL_law_271 dL_law_272 dL_law_273 (by decide) (by omega) h0 hL hi ?_
  refine xe_callV (args := [.int (xXs g (i + 1))]) dL_law_274 vlL_22 rfl rfl (by show 1 ≤ 8; omega) kk655 (by omega) rfl rfl hr (Nat.le_refl _) (fun rv2 u2 w2 r2 k => ?_)
  obtain ⟨rfl, S2⟩ := k
  exact xe_icmp_eq dL_law_277 rfl (fun _ => kk u2 w2 r2 S2) (fun z => absurd rfl z)
theorem L_2 {j i : Nat} (h0 : xpre g 0 < xz g) (hL : xL g ≤ 3072) (hi : i + 6 ≤ xL g) (S : vS j u w r) (hj : j ≤ 900) (kk : ∀ u' w' r', vS (j + 1) u' w' r' → xEv g (d + 111) (mL nm) 1223 (lL i) [] 698 u' w' r' 698 P) : xEv g (d + 111) (mL nm) 282 (lL i) [] 698 u w r 698 P := by
  refine xe_aload_n dL_law_282 rfl ?_
  refine xe_callV (args := []) dL_law_283 vlL_23 rfl rfl (by show 0 ≤ 8; omega) kk8 (by omega) rfl rfl (V_land S hj ) (Nat.le_refl _) (fun rv1 u1 w1 r1 k => ?_)
  obtain ⟨A, rfl, hr⟩ := k
  refine xe_aload_n dL_law_286 rfl ?_
  refine xe_callV (args := []) dL_law_287 vlL_27 rfl rfl (by show 1 ≤ 8; omega) kk655 (by omega) rfl rfl hr (Nat.le_refl _) (fun rv2 u2 w2 r2 k => ?_)
  obtain ⟨rfl, S2⟩ := k
  exact xe_icmp_eq dL_law_290 rfl (fun _ => kk u2 w2 r2 S2) (fun z => absurd rfl z)
theorem L_3 {j i : Nat} (h0 : xpre g 0 < xz g) (hL : xL g ≤ 3072) (hi : i + 6 ≤ xL g) (S : vS j u w r) (hj : j ≤ 900) (kk : ∀ u' w' r', vS (j + 1) u' w' r' → xEv g (d + 111) (mL nm) 1223 (lL i) [] 698 u' w' r' 698 P) : xEv g (d + 111) (mL nm) 295 (lL i) [] 698 u w r 698 P := by
  refine xe_aload_n dL_law_295 rfl ?_
  refine xe_arg (k := 1) dL_law_296 dL_law_297 dL_law_298 dL_law_299 dL_law_300 (by decide) (by omega) h0 hL hi ?_
  refine xe_callV (args := [.int (xXs g (i + 1))]) dL_law_301 vlL_28 rfl rfl (by show 0 ≤ 8; omega) kk8 (by omega) rfl rfl (V_fault S hj (xXs g (i + 1))) (Nat.le_refl _) (fun rv1 u1 w1 r1 k => ?_)
  obtain ⟨A, rfl, hr⟩ := k
  refine xe_aload_n dL_law_304 rfl ?_
  refine xe_arg (k := 1) dL_law_305 dL_law_306 dL_law_307 dL_law_308 dL_law_309 (by decide) (by omega) h0 hL hi ?_
  refine xe_callV (args := [.int (xXs g (i + 1))]) dL_law_310 vlL_31 rfl rfl (by show 1 ≤ 8; omega) kk655 (by omega) rfl rfl hr (Nat.le_refl _) (fun rv2 u2 w2 r2 k => ?_)
  obtain ⟨rfl, S2⟩ := k
  exact xe_icmp_eq dL_law_313 rfl (fun _ => kk u2 w2 r2 S2) (fun z => absurd rfl z)
theorem L_4 {j i : Nat} (h0 : xpre g 0 < xz g) (hL : xL g ≤ 3072) (hi : i + 6 ≤ xL g) (S : vS j u w r) (hj : j ≤ 900) (kk : ∀ u' w' r', vS (j + 1) u' w' r' → xEv g (d + 111) (mL nm) 1223 (lL i) [] 698 u' w' r' 698 P) : xEv g (d + 111) (mL nm) 318 (lL i) [] 698 u w r 698 P := by
  refine xe_aload_n dL_law_318 rfl ?_
  refine xe_arg (k := 1) dL_law_319 dL_law_320 dL_law_321 dL_law_322 dL_law_323 (by decide) (by omega) h0 hL hi ?_
  refine xe_arg (k := 2) dL_law_324 dL_law_325 dL_law_326 dL_law_327 dL_law_328 (by decide) (by omega) h0 hL hi ?_
  refine xe_callV (args := [.int (xXs g (i + 1)), .int (xXs g (i + 2))]) dL_law_329 vlL_32 rfl rfl (by show 0 ≤ 8; omega) kk8 (by omega) rfl rfl (V_bier S hj (xXs g (i + 1)) (xXs g (i + 2))) (Nat.le_refl _) (fun rv1 u1 w1 r1 k => ?_)
  obtain ⟨A, rfl, hr⟩ := k
  refine xe_aload_n dL_law_332 rfl ?_
  refine xe_arg (k := 1) dL_law_333 dL_law_334 dL_law_335 dL_law_336 dL_law_337 (by decide) (by omega) h0 hL hi ?_
  refine xe_arg (k := 2) dL_law_338 dL_law_339 dL_law_340 dL_law_341 dL_law_342 (by decide) (by omega) h0 hL hi ?_
  refine xe_callV (args := [.int (xXs g (i + 1)), .int (xXs g (i + 2))]) dL_law_343 vlL_36 rfl rfl (by show 1 ≤ 8; omega) kk655 (by omega) rfl rfl hr (Nat.le_refl _) (fun rv2 u2 w2 r2 k => ?_)
  obtain ⟨rfl, S2⟩ := k
  exact xe_icmp_eq dL_law_346 rfl (fun _ => kk u2 w2 r2 S2) (fun z => absurd rfl z)
theorem L_5 {j i : Nat} (h0 : xpre g 0 < xz g) (hL : xL g ≤ 3072) (hi : i + 6 ≤ xL g) (S : vS j u w r) (hj : j ≤ 900) (kk : ∀ u' w' r', vS (j + 1) u' w' r' → xEv g (d + 111) (mL nm) 1223 (lL i) [] 698 u' w' r' 698 P) : xEv g (d + 111) (mL nm) 351 (lL i) [] 698 u w r 698 P := by
  refine xe_aload_n dL_law_351 rfl ?_
  refine xe_arg (k := 1) dL_law_352 dL_law_353 dL_law_354 dL_law_355 dL_law_356 (by decide) (by omega) h0 hL hi ?_
  refine xe_arg (k := 2) dL_law_357 dL_law_358 dL_law_359 dL_law_360 dL_law_361 (by decide) (by omega) h0 hL hi ?_
  refine xe_callV (args := [.int (xXs g (i + 1)), .int (xXs g (i + 2))]) dL_law_362 vlL_37 rfl rfl (by show 0 ≤ 8; omega) kk8 (by omega) rfl rfl (V_letter S hj (xXs g (i + 1)) (xXs g (i + 2))) (Nat.le_refl _) (fun rv1 u1 w1 r1 k => ?_)
  obtain ⟨A, rfl, hr⟩ := k
  refine xe_aload_n dL_law_365 rfl ?_
  refine xe_arg (k := 1) dL_law_366 dL_law_367 dL_law_368 dL_law_369 dL_law_370 (by decide) (by omega) h0 hL hi ?_
  refine xe_arg (k := 2) dL_law_371 dL_law_372 dL_law_373 dL_law_374 dL_law_375 (by decide) (by omega) h0 hL hi ?_
  refine xe_callV (args := [.int (xXs g (i + 1)), .int (xXs g (i + 2))]) dL_law_376 vlL_40 rfl rfl (by show 1 ≤ 8; omega) kk655 (by omega) rfl rfl hr (Nat.le_refl _) (fun rv2 u2 w2 r2 k => ?_)
  obtain ⟨rfl, S2⟩ := k
  exact xe_icmp_eq dL_law_379 rfl (fun _ => kk u2 w2 r2 S2) (fun z => absurd rfl z)
theorem L_6 {j i : Nat} (h0 : xpre g 0 < xz g) (hL : xL g ≤ 3072) (hi : i + 6 ≤ xL g) (S : vS j u w r) (hj : j ≤ 900) (kk : ∀ u' w' r', vS (j + 1) u' w' r' → xEv g (d + 111) (mL nm) 1223 (lL i) [] 698 u' w' r' 698 P) : xEv g (d + 111) (mL nm) 384 (lL i) [] 698 u w r 698 P := by
  refine xe_aload_n dL_law_384 rfl ?_
  refine xe_arg (k := 1) dL_law_385 dL_law_386 dL_law_387 dL_law_388 dL_law_389 (by decide) (by omega) h0 hL hi ?_
  refine xe_arg (k := 2) dL_law_390 dL_law_391 dL_law_392 dL_law_393 dL_law_394 (by decide) (by omega) h0 hL hi ?_
  refine xe_callV (args := [.int (xXs g (i + 1)), .int (xXs g (i + 2))]) dL_law_395 vlL_41 rfl rfl (by show 0 ≤ 8; omega) kk8 (by omega) rfl rfl (V_village S hj (xXs g (i + 1)) (xXs g (i + 2))) (Nat.le_refl _) (fun rv1 u1 w1 r1 k => ?_)
  obtain ⟨A, rfl, hr⟩ := k
  refine xe_aload_n dL_law_398 rfl ?_
  refine xe_arg (k := 1) dL_law_399 dL_law_400 dL_law_401 dL_law_402 dL_law_403 (by decide) (by omega) h0 hL hi ?_
  refine xe_arg (k := 2) dL_law_404 dL_law_405 dL_law_406 dL_law_407 dL_law_408 (by decide) (by omega) h0 hL hi ?_
  refine xe_callV (args := [.int (xXs g (i + 1)), .int (xXs g (i + 2))]) dL_law_409 vlL_44 rfl rfl (by show 1 ≤ 8; omega) kk655 (by omega) rfl rfl hr (Nat.le_refl _) (fun rv2 u2 w2 r2 k => ?_)
  obtain ⟨rfl, S2⟩ := k
  exact xe_icmp_eq dL_law_412 rfl (fun _ => kk u2 w2 r2 S2) (fun z => absurd rfl z)
theorem L_7 {j i : Nat} (h0 : xpre g 0 < xz g) (hL : xL g ≤ 3072) (hi : i + 6 ≤ xL g) (S : vS j u w r) (hj : j ≤ 900) (kk : ∀ u' w' r', vS (j + 1) u' w' r' → xEv g (d + 111) (mL nm) 1223 (lL i) [] 698 u' w' r' 698 P) : xEv g (d + 111) (mL nm) 417 (lL i) [] 698 u w r 698 P := by
  refine xe_aload_n dL_law_417 rfl ?_
  refine xe_arg (k := 1) dL_law_418 dL_law_419 dL_law_420 dL_law_421 dL_law_422 (by decide) (by omega) h0 hL hi ?_
  refine xe_arg (k := 2) dL_law_423 dL_law_424 dL_law_425 dL_law_426 dL_law_427 (by decide) (by omega) h0 hL hi ?_
  refine xe_callV (args := [.int (xXs g (i + 1)), .int (xXs g (i + 2))]) dL_law_428 vlL_45 rfl rfl (by show 0 ≤ 8; omega) kk8 (by omega) rfl rfl (V_far S hj (xXs g (i + 1)) (xXs g (i + 2))) (Nat.le_refl _) (fun rv1 u1 w1 r1 k => ?_)
  obtain ⟨A, rfl, hr⟩ := k
  refine xe_aload_n dL_law_431 rfl ?_
  refine xe_arg (k := 1) dL_law_432 dL_law_433 dL_law_434 dL_law_435 dL_law_436 (by decide) (by omega) h0 hL hi ?_
  refine xe_arg (k := 2) dL_law_437 dL_law_438 dL_law_439 dL_law_440 dL_law_441 (by decide) (by omega) h0 hL hi ?_
  refine xe_callV (args := [.int (xXs g (i + 1)), .int (xXs g (i + 2))]) dL_law_442 vlL_48 rfl rfl (by show 1 ≤ 8; omega) kk655 (by omega) rfl rfl hr (Nat.le_refl _) (fun rv2 u2 w2 r2 k => ?_)
  obtain ⟨rfl, S2⟩ := k
  exact xe_icmp_eq dL_law_445 rfl (fun _ => kk u2 w2 r2 S2) (fun z => absurd rfl z)
theorem L_8 {j i : Nat} (h0 : xpre g 0 < xz g) (hL : xL g ≤ 3072) (hi : i + 6 ≤ xL g) (S : vS j u w r) (hj : j ≤ 900) (kk : ∀ u' w' r', vS (j + 1) u' w' r' → xEv g (d + 111) (mL nm) 1223 (lL i) [] 698 u' w' r' 698 P) : xEv g (d + 111) (mL nm) 450 (lL i) [] 698 u w r 698 P := by
  refine xe_aload_n dL_law_450 rfl ?_
  refine xe_callV (args := []) dL_law_451 vlL_49 rfl rfl (by show 0 ≤ 8; omega) kk8 (by omega) rfl rfl (V_day S hj ) (Nat.le_refl _) (fun rv1 u1 w1 r1 k => ?_)
  obtain ⟨A, rfl, hr⟩ := k
  refine xe_aload_n dL_law_454 rfl ?_
  refine xe_callV (args := []) dL_law_455 vlL_52 rfl rfl (by show 1 ≤ 8; omega) kk655 (by omega) rfl rfl hr (Nat.le_refl _) (fun rv2 u2 w2 r2 k => ?_)
  obtain ⟨rfl, S2⟩ := k
  exact xe_icmp_eq dL_law_458 rfl (fun _ => kk u2 w2 r2 S2) (fun z => absurd rfl z)
theorem L_9 {j i : Nat} (h0 : xpre g 0 < xz g) (hL : xL g ≤ 3072) (hi : i + 6 ≤ xL g) (S : vS j u w r) (hj : j ≤ 900) (kk : ∀ u' w' r', vS (j + 1) u' w' r' → xEv g (d + 111) (mL nm) 1223 (lL i) [] 698 u' w' r' 698 P) : xEv g (d + 111) (mL nm) 463 (lL i) [] 698 u w r 698 P := by
  refine xe_aload_n dL_law_463 rfl ?_
  refine xe_arg (k := 1) dL_law_464 dL_law_465 dL_law_466 dL_law_467 dL_law_468 (by decide) (by omega) h0 hL hi ?_
  refine xe_arg (k := 2) dL_law_469 dL_law_470 dL_law_471 dL_law_472 dL_law_473 (by decide) (by omega) h0 hL hi ?_
  refine xe_callV (args := [.int (xXs g (i + 1)), .int (xXs g (i + 2))]) dL_law_474 vlL_53 rfl rfl (by show 0 ≤ 8; omega) kk8 (by omega) rfl rfl (V_post S hj (xXs g (i + 1)) (xXs g (i + 2))) (Nat.le_refl _) (fun rv1 u1 w1 r1 k => ?_)
  obtain ⟨A, rfl, hr⟩ := k
  refine xe_aload_n dL_law_477 rfl ?_
  refine xe_arg (k := 1) dL_law_478 dL_law_479 dL_law_480 dL_law_481 dL_law_482 (by decide) (by omega) h0 hL hi ?_
  refine xe_arg (k := 2) dL_law_483 dL_law_484 dL_law_485 dL_law_486 dL_law_487 (by decide) (by omega) h0 hL hi ?_
  refine xe_callV (args := [.int (xXs g (i + 1)), .int (xXs g (i + 2))]) dL_law_488 vlL_56 rfl rfl (by show 1 ≤ 8; omega) kk655 (by omega) rfl rfl hr (Nat.le_refl _) (fun rv2 u2 w2 r2 k => ?_)
  obtain ⟨rfl, S2⟩ := k
  exact xe_icmp_eq dL_law_491 rfl (fun _ => kk u2 w2 r2 S2) (fun z => absurd rfl z)
theorem L_10 {j i : Nat} (h0 : xpre g 0 < xz g) (hL : xL g ≤ 3072) (hi : i + 6 ≤ xL g) (S : vS j u w r) (hj : j ≤ 900) (kk : ∀ u' w' r', vS (j + 1) u' w' r' → xEv g (d + 111) (mL nm) 1223 (lL i) [] 698 u' w' r' 698 P) : xEv g (d + 111) (mL nm) 496 (lL i) [] 698 u w r 698 P := by
  refine xe_aload_n dL_law_496 rfl ?_
  refine xe_arg (k := 1) dL_law_497 dL_law_498 dL_law_499 dL_law_500 dL_law_501 (by decide) (by omega) h0 hL hi ?_
  refine xe_arg (k := 2) dL_law_502 dL_law_503 dL_law_504 dL_law_505 dL_law_506 (by decide) (by omega) h0 hL hi ?_
  refine xe_callV (args := [.int (xXs g (i + 1)), .int (xXs g (i + 2))]) dL_law_507 vlL_57 rfl rfl (by show 0 ≤ 8; omega) kk8 (by omega) rfl rfl (V_hand S hj (xXs g (i + 1)) (xXs g (i + 2))) (Nat.le_refl _) (fun rv1 u1 w1 r1 k => ?_)
  obtain ⟨A, rfl, hr⟩ := k
  refine xe_aload_n dL_law_510 rfl ?_
  refine xe_arg (k := 1) dL_law_511 dL_law_512 dL_law_513 dL_law_514 dL_law_515 (by decide) (by omega) h0 hL hi ?_
  refine xe_arg (k := 2) dL_law_516 dL_law_517 dL_law_518 dL_law_519 dL_law_520 (by decide) (by omega) h0 hL hi ?_
  refine xe_callV (args := [.int (xXs g (i + 1)), .int (xXs g (i + 2))]) dL_law_521 vlL_61 rfl rfl (by show 1 ≤ 8; omega) kk655 (by omega) rfl rfl hr (Nat.le_refl _) (fun rv2 u2 w2 r2 k => ?_)
  obtain ⟨rfl, S2⟩ := k
  exact xe_icmp_eq dL_law_524 rfl (fun _ => kk u2 w2 r2 S2) (fun z => absurd rfl z)
theorem L_11 {j i : Nat} (h0 : xpre g 0 < xz g) (hL : xL g ≤ 3072) (hi : i + 6 ≤ xL g) (S : vS j u w r) (hj : j ≤ 900) (kk : ∀ u' w' r', vS (j + 1) u' w' r' → xEv g (d + 111) (mL nm) 1223 (lL i) [] 698 u' w' r' 698 P) : xEv g (d + 111) (mL nm) 529 (lL i) [] 698 u w r 698 P := by
  refine xe_aload_n dL_law_529 rfl ?_
  refine xe_arg (k := 1) dL_law_530 dL_law_531 dL_law_532 dL_law_533 dL_law_534 (by decide) (by omega) h0 hL hi ?_
  refine xe_callV (args := [.int (xXs g (i + 1))]) dL_law_535 vlL_62 rfl rfl (by show 0 ≤ 8; omega) kk8 (by omega) rfl rfl (V_take S hj (xXs g (i + 1))) (Nat.le_refl _) (fun rv1 u1 w1 r1 k => ?_)
  obtain ⟨A, rfl, hr⟩ := k
  refine xe_aload_n dL_law_538 rfl ?_
  refine xe_arg (k := 1) dL_law_539 dL_law_540 dL_law_541 dL_law_542 dL_law_543 (by decide) (by omega) h0 hL hi ?_
  refine xe_callV (args := [.int (xXs g (i + 1))]) dL_law_544 vlL_65 rfl rfl (by show 1 ≤ 8; omega) kk655 (by omega) rfl rfl hr (Nat.le_refl _) (fun rv2 u2 w2 r2 k => ?_)
  obtain ⟨rfl, S2⟩ := k
  exact xe_icmp_eq dL_law_547 rfl (fun _ => kk u2 w2 r2 S2) (fun z => absurd rfl z)
theorem L_12 {j i : Nat} (h0 : xpre g 0 < xz g) (hL : xL g ≤ 3072) (hi : i + 6 ≤ xL g) (S : vS j u w r) (hj : j ≤ 900) (kk : ∀ u' w' r', vS (j + 1) u' w' r' → xEv g (d + 111) (mL nm) 1223 (lL i) [] 698 u' w' r' 698 P) : xEv g (d + 111) (mL nm) 552 (lL i) [] 698 u w r 698 P := by
  refine xe_aload_n dL_law_552 rfl ?_
  refine xe_arg (k := 1) dL_law_553 dL_law_554 dL_law_555 dL_law_556 dL_law_557 (by decide) (by omega) h0 hL hi ?_
  refine xe_callV (args := [.int (xXs g (i + 1))]) dL_law_558 vlL_66 rfl rfl (by show 0 ≤ 8; omega) kk8 (by omega) rfl rfl (V_close S hj (xXs g (i + 1))) (Nat.le_refl _) (fun rv1 u1 w1 r1 k => ?_)
  obtain ⟨A, rfl, hr⟩ := k
  refine xe_aload_n dL_law_561 rfl ?_
  refine xe_arg (k := 1) dL_law_562 dL_law_563 dL_law_564 dL_law_565 dL_law_566 (by decide) (by omega) h0 hL hi ?_
  refine xe_callV (args := [.int (xXs g (i + 1))]) dL_law_567 vlL_69 rfl rfl (by show 1 ≤ 8; omega) kk655 (by omega) rfl rfl hr (Nat.le_refl _) (fun rv2 u2 w2 r2 k => ?_)
  obtain ⟨rfl, S2⟩ := k
  exact xe_icmp_eq dL_law_570 rfl (fun _ => kk u2 w2 r2 S2) (fun z => absurd rfl z)
theorem L_13 {j i : Nat} (h0 : xpre g 0 < xz g) (hL : xL g ≤ 3072) (hi : i + 6 ≤ xL g) (S : vS j u w r) (hj : j ≤ 900) (kk : ∀ u' w' r', vS (j + 1) u' w' r' → xEv g (d + 111) (mL nm) 1223 (lL i) [] 698 u' w' r' 698 P) : xEv g (d + 111) (mL nm) 575 (lL i) [] 698 u w r 698 P := by
  refine xe_aload_n dL_law_575 rfl ?_
  refine xe_callV (args := []) dL_law_576 vlL_70 rfl rfl (by show 0 ≤ 8; omega) kk8 (by omega) rfl rfl (V_undo S hj ) (Nat.le_refl _) (fun rv1 u1 w1 r1 k => ?_)
  obtain ⟨A, rfl, hr⟩ := k
  refine xe_aload_n dL_law_579 rfl ?_
  refine xe_callV (args := []) dL_law_580 vlL_74 rfl rfl (by show 1 ≤ 8; omega) kk655 (by omega) rfl rfl hr (Nat.le_refl _) (fun rv2 u2 w2 r2 k => ?_)
  obtain ⟨rfl, S2⟩ := k
  exact xe_icmp_eq dL_law_583 rfl (fun _ => kk u2 w2 r2 S2) (fun z => absurd rfl z)
theorem L_14 {j i : Nat} (h0 : xpre g 0 < xz g) (hL : xL g ≤ 3072) (hi : i + 6 ≤ xL g) (S : vS j u w r) (hj : j ≤ 900) (kk : ∀ u' w' r', vS (j + 1) u' w' r' → xEv g (d + 111) (mL nm) 1223 (lL i) [] 698 u' w' r' 698 P) : xEv g (d + 111) (mL nm) 588 (lL i) [] 698 u w r 698 P := by
  refine xe_aload_n dL_law_588 rfl ?_
  refine xe_callV (args := []) dL_law_589 vlL_75 rfl rfl (by show 0 ≤ 8; omega) kk8 (by omega) rfl rfl (V_redo S hj ) (Nat.le_refl _) (fun rv1 u1 w1 r1 k => ?_)
  obtain ⟨A, rfl, hr⟩ := k
  refine xe_aload_n dL_law_592 rfl ?_
  refine xe_callV (args := []) dL_law_593 vlL_78 rfl rfl (by show 1 ≤ 8; omega) kk655 (by omega) rfl rfl hr (Nat.le_refl _) (fun rv2 u2 w2 r2 k => ?_)
  obtain ⟨rfl, S2⟩ := k
  exact xe_icmp_eq dL_law_596 rfl (fun _ => kk u2 w2 r2 S2) (fun z => absurd rfl z)
theorem L_15 {j i : Nat} (h0 : xpre g 0 < xz g) (hL : xL g ≤ 3072) (hi : i + 6 ≤ xL g) (S : vS j u w r) (hj : j ≤ 900) (kk : ∀ u' w' r', vS (j + 1) u' w' r' → xEv g (d + 111) (mL nm) 1223 (lL i) [] 698 u' w' r' 698 P) : xEv g (d + 111) (mL nm) 601 (lL i) [] 698 u w r 698 P := by
  refine xe_aload_n dL_law_601 rfl ?_
  refine xe_arg (k := 1) dL_law_602 dL_law_603 dL_law_604 dL_law_605 dL_law_606 (by decide) (by omega) h0 hL hi ?_
  refine xe_callV (args := [.int (xXs g (i + 1))]) dL_law_607 vlL_79 rfl rfl (by show 0 ≤ 8; omega) kk8 (by omega) rfl rfl (V_comes S hj (xXs g (i + 1))) (Nat.le_refl _) (fun rv1 u1 w1 r1 k => ?_)
  obtain ⟨A, rfl, hr⟩ := k
  refine xe_aload_n dL_law_610 rfl ?_
  refine xe_arg (k := 1) dL_law_611 dL_law_612 dL_law_613 dL_law_614 dL_law_615 (by decide) (by omega) h0 hL hi ?_
  refine xe_callV (args := [.int (xXs g (i + 1))]) dL_law_616 vlL_82 rfl rfl (by show 1 ≤ 8; omega) kk655 (by omega) rfl rfl hr (Nat.le_refl _) (fun rv2 u2 w2 r2 k => ?_)
  obtain ⟨rfl, S2⟩ := k
  exact xe_icmp_eq dL_law_619 rfl (fun _ => kk u2 w2 r2 S2) (fun z => absurd rfl z)
theorem L_16 {j i : Nat} (h0 : xpre g 0 < xz g) (hL : xL g ≤ 3072) (hi : i + 6 ≤ xL g) (S : vS j u w r) (hj : j ≤ 900) (kk : ∀ u' w' r', vS (j + 1) u' w' r' → xEv g (d + 111) (mL nm) 1223 (lL i) [] 698 u' w' r' 698 P) : xEv g (d + 111) (mL nm) 624 (lL i) [] 698 u w r 698 P := by
  refine xe_aload_n dL_law_624 rfl ?_
  refine xe_callV (args := []) dL_law_625 vlL_83 rfl rfl (by show 0 ≤ 8; omega) kk8 (by omega) rfl rfl (V_late S hj ) (Nat.le_refl _) (fun rv1 u1 w1 r1 k => ?_)
  obtain ⟨A, rfl, hr⟩ := k
  refine xe_aload_n dL_law_628 rfl ?_
  refine xe_callV (args := []) dL_law_629 vlL_86 rfl rfl (by show 1 ≤ 8; omega) kk655 (by omega) rfl rfl hr (Nat.le_refl _) (fun rv2 u2 w2 r2 k => ?_)
  obtain ⟨rfl, S2⟩ := k
  exact xe_icmp_eq dL_law_632 rfl (fun _ => kk u2 w2 r2 S2) (fun z => absurd rfl z)
theorem L_17 {j i : Nat} (h0 : xpre g 0 < xz g) (hL : xL g ≤ 3072) (hi : i + 6 ≤ xL g) (S : vS j u w r) (hj : j ≤ 900) (kk : ∀ u' w' r', vS (j + 1) u' w' r' → xEv g (d + 111) (mL nm) 1223 (lL i) [] 698 u' w' r' 698 P) : xEv g (d + 111) (mL nm) 637 (lL i) [] 698 u w r 698 P := by
  refine xe_aload_n dL_law_637 rfl ?_
  refine xe_callV (args := []) dL_law_638 vlL_87 rfl rfl (by show 0 ≤ 8; omega) kk8 (by omega) rfl rfl (V_worth S hj ) (Nat.le_refl _) (fun rv1 u1 w1 r1 k => ?_)
  obtain ⟨A, rfl, hr⟩ := k
  refine xe_aload_n dL_law_641 rfl ?_
  refine xe_callV (args := []) dL_law_642 vlL_90 rfl rfl (by show 1 ≤ 8; omega) kk655 (by omega) rfl rfl hr (Nat.le_refl _) (fun rv2 u2 w2 r2 k => ?_)
  obtain ⟨rfl, S2⟩ := k
  exact xe_icmp_eq dL_law_645 rfl (fun _ => kk u2 w2 r2 S2) (fun z => absurd rfl z)
theorem L_18 {j i : Nat} (h0 : xpre g 0 < xz g) (hL : xL g ≤ 3072) (hi : i + 6 ≤ xL g) (S : vS j u w r) (hj : j ≤ 900) (kk : ∀ u' w' r', vS (j + 1) u' w' r' → xEv g (d + 111) (mL nm) 1223 (lL i) [] 698 u' w' r' 698 P) : xEv g (d + 111) (mL nm) 650 (lL i) [] 698 u w r 698 P := by
  refine xe_aload_n dL_law_650 rfl ?_
  refine xe_callV (args := []) dL_law_651 vlL_91 rfl rfl (by show 0 ≤ 8; omega) kk8 (by omega) rfl rfl (V_stuck S hj ) (Nat.le_refl _) (fun rv1 u1 w1 r1 k => ?_)
  obtain ⟨A, rfl, hr⟩ := k
  refine xe_aload_n dL_law_654 rfl ?_
  refine xe_callV (args := []) dL_law_655 vlL_94 rfl rfl (by show 1 ≤ 8; omega) kk655 (by omega) rfl rfl hr (Nat.le_refl _) (fun rv2 u2 w2 r2 k => ?_)
  obtain ⟨rfl, S2⟩ := k
  exact xe_icmp_eq dL_law_658 rfl (fun _ => kk u2 w2 r2 S2) (fun z => absurd rfl z)
theorem L_19 {j i : Nat} (h0 : xpre g 0 < xz g) (hL : xL g ≤ 3072) (hi : i + 6 ≤ xL g) (S : vS j u w r) (hj : j ≤ 900) (kk : ∀ u' w' r', vS (j + 1) u' w' r' → xEv g (d + 111) (mL nm) 1223 (lL i) [] 698 u' w' r' 698 P) : xEv g (d + 111) (mL nm) 663 (lL i) [] 698 u w r 698 P := by
  refine xe_aload_n dL_law_663 rfl ?_
  refine xe_arg (k := 1) dL_law_664 dL_law_665 dL_law_666 dL_law_667 dL_law_668 (by decide) (by omega) h0 hL hi ?_
  refine xe_arg (k := 2) dL_law_669 dL_law_670 dL_law_671 dL_law_672 dL_law_673 (by decide) (by omega) h0 hL hi ?_
  refine xe_arg (k := 3) dL_law_674 dL_law_675 dL_law_676 dL_law_677 dL_law_678 (by decide) (by omega) h0 hL hi ?_
  refine xe_callV (args := [.int (xXs g (i + 1)), .int (xXs g (i + 2)), .int (xXs g (i + 3))]) dL_law_679 vlL_95 rfl rfl (by show 0 ≤ 8; omega) kk8 (by omega) rfl rfl (V_meets S hj (xXs g (i + 1)) (xXs g (i + 2)) (xXs g (i + 3))) (Nat.le_refl _) (fun rv1 u1 w1 r1 k => ?_)
  obtain ⟨A, rfl, hr⟩ := k
  refine xe_aload_n dL_law_682 rfl ?_
  refine xe_arg (k := 1) dL_law_683 dL_law_684 dL_law_685 dL_law_686 dL_law_687 (by decide) (by omega) h0 hL hi ?_
  refine xe_arg (k := 2) dL_law_688 dL_law_689 dL_law_690 dL_law_691 dL_law_692 (by decide) (by omega) h0 hL hi ?_
  refine xe_arg (k := 3) dL_law_693 dL_law_694 dL_law_695 dL_law_696 dL_law_697 (by decide) (by omega) h0 hL hi ?_
  refine xe_callV (args := [.int (xXs g (i + 1)), .int (xXs g (i + 2)), .int (xXs g (i + 3))]) dL_law_698 vlL_99 rfl rfl (by show 1 ≤ 8; omega) kk655 (by omega) rfl rfl hr (Nat.le_refl _) (fun rv2 u2 w2 r2 k => ?_)
  obtain ⟨rfl, S2⟩ := k
  exact xe_icmp_eq dL_law_701 rfl (fun _ => kk u2 w2 r2 S2) (fun z => absurd rfl z)
theorem L_20 {j i : Nat} (h0 : xpre g 0 < xz g) (hL : xL g ≤ 3072) (hi : i + 6 ≤ xL g) (S : vS j u w r) (hj : j ≤ 900) (kk : ∀ u' w' r', vS (j + 1) u' w' r' → xEv g (d + 111) (mL nm) 1223 (lL i) [] 698 u' w' r' 698 P) : xEv g (d + 111) (mL nm) 706 (lL i) [] 698 u w r 698 P := by
  refine xe_aload_n dL_law_706 rfl ?_
  refine xe_arg (k := 1) dL_law_707 dL_law_708 dL_law_709 dL_law_710 dL_law_711 (by decide) (by omega) h0 hL hi ?_
  refine xe_callV (args := [.int (xXs g (i + 1))]) dL_law_712 vlL_100 rfl rfl (by show 0 ≤ 8; omega) kk8 (by omega) rfl rfl (V_buried S hj (xXs g (i + 1))) (Nat.le_refl _) (fun rv1 u1 w1 r1 k => ?_)
  obtain ⟨A, rfl, hr⟩ := k
  refine xe_aload_n dL_law_715 rfl ?_
  refine xe_arg (k := 1) dL_law_716 dL_law_717 dL_law_718 dL_law_719 dL_law_720 (by decide) (by omega) h0 hL hi ?_
  refine xe_callV (args := [.int (xXs g (i + 1))]) dL_law_721 vlL_103 rfl rfl (by show 1 ≤ 8; omega) kk655 (by omega) rfl rfl hr (Nat.le_refl _) (fun rv2 u2 w2 r2 k => ?_)
  obtain ⟨rfl, S2⟩ := k
  exact xe_icmp_eq dL_law_724 rfl (fun _ => kk u2 w2 r2 S2) (fun z => absurd rfl z)
theorem L_21 {j i : Nat} (h0 : xpre g 0 < xz g) (hL : xL g ≤ 3072) (hi : i + 6 ≤ xL g) (S : vS j u w r) (hj : j ≤ 900) (kk : ∀ u' w' r', vS (j + 1) u' w' r' → xEv g (d + 111) (mL nm) 1223 (lL i) [] 698 u' w' r' 698 P) : xEv g (d + 111) (mL nm) 729 (lL i) [] 698 u w r 698 P := by
  refine xe_aload_n dL_law_729 rfl ?_
  refine xe_arg (k := 1) dL_law_730 dL_law_731 dL_law_732 dL_law_733 dL_law_734 (by decide) (by omega) h0 hL hi ?_
  refine xe_arg (k := 2) dL_law_735 dL_law_736 dL_law_737 dL_law_738 dL_law_739 (by decide) (by omega) h0 hL hi ?_
  refine xe_arg (k := 3) dL_law_740 dL_law_741 dL_law_742 dL_law_743 dL_law_744 (by decide) (by omega) h0 hL hi ?_
  refine xe_callV (args := [.int (xXs g (i + 1)), .int (xXs g (i + 2)), .int (xXs g (i + 3))]) dL_law_745 vlL_104 rfl rfl (by show 0 ≤ 8; omega) kk8 (by omega) rfl rfl (V_swap S hj (xXs g (i + 1)) (xXs g (i + 2)) (xXs g (i + 3))) (Nat.le_refl _) (fun rv1 u1 w1 r1 k => ?_)
  obtain ⟨A, rfl, hr⟩ := k
  refine xe_aload_n dL_law_748 rfl ?_
  refine xe_arg (k := 1) dL_law_749 dL_law_750 dL_law_751 dL_law_752 dL_law_753 (by decide) (by omega) h0 hL hi ?_
  refine xe_arg (k := 2) dL_law_754 dL_law_755 dL_law_756 dL_law_757 dL_law_758 (by decide) (by omega) h0 hL hi ?_
  refine xe_arg (k := 3) dL_law_759 dL_law_760 dL_law_761 dL_law_762 dL_law_763 (by decide) (by omega) h0 hL hi ?_
  refine xe_callV (args := [.int (xXs g (i + 1)), .int (xXs g (i + 2)), .int (xXs g (i + 3))]) dL_law_764 vlL_107 rfl rfl (by show 1 ≤ 8; omega) kk655 (by omega) rfl rfl hr (Nat.le_refl _) (fun rv2 u2 w2 r2 k => ?_)
  obtain ⟨rfl, S2⟩ := k
  exact xe_icmp_eq dL_law_767 rfl (fun _ => kk u2 w2 r2 S2) (fun z => absurd rfl z)
theorem L_22 {j i : Nat} (h0 : xpre g 0 < xz g) (hL : xL g ≤ 3072) (hi : i + 6 ≤ xL g) (S : vS j u w r) (hj : j ≤ 900) (kk : ∀ u' w' r', vS (j + 1) u' w' r' → xEv g (d + 111) (mL nm) 1223 (lL i) [] 698 u' w' r' 698 P) : xEv g (d + 111) (mL nm) 772 (lL i) [] 698 u w r 698 P := by
  refine xe_aload_n dL_law_772 rfl ?_
  refine xe_arg (k := 1) dL_law_773 dL_law_774 dL_law_775 dL_law_776 dL_law_777 (by decide) (by omega) h0 hL hi ?_
  refine xe_arg (k := 2) dL_law_778 dL_law_779 dL_law_780 dL_law_781 dL_law_782 (by decide) (by omega) h0 hL hi ?_
  refine xe_callV (args := [.int (xXs g (i + 1)), .int (xXs g (i + 2))]) dL_law_783 vlL_108 rfl rfl (by show 0 ≤ 8; omega) kk8 (by omega) rfl rfl (V_cover S hj (xXs g (i + 1)) (xXs g (i + 2))) (Nat.le_refl _) (fun rv1 u1 w1 r1 k => ?_)
  obtain ⟨A, rfl, hr⟩ := k
  refine xe_aload_n dL_law_786 rfl ?_
  refine xe_arg (k := 1) dL_law_787 dL_law_788 dL_law_789 dL_law_790 dL_law_791 (by decide) (by omega) h0 hL hi ?_
  refine xe_arg (k := 2) dL_law_792 dL_law_793 dL_law_794 dL_law_795 dL_law_796 (by decide) (by omega) h0 hL hi ?_
  refine xe_callV (args := [.int (xXs g (i + 1)), .int (xXs g (i + 2))]) dL_law_797 vlL_111 rfl rfl (by show 1 ≤ 8; omega) kk655 (by omega) rfl rfl hr (Nat.le_refl _) (fun rv2 u2 w2 r2 k => ?_)
  obtain ⟨rfl, S2⟩ := k
  exact xe_icmp_eq dL_law_800 rfl (fun _ => kk u2 w2 r2 S2) (fun z => absurd rfl z)
theorem L_23 {j i : Nat} (h0 : xpre g 0 < xz g) (hL : xL g ≤ 3072) (hi : i + 6 ≤ xL g) (S : vS j u w r) (hj : j ≤ 900) (kk : ∀ u' w' r', vS (j + 1) u' w' r' → xEv g (d + 111) (mL nm) 1223 (lL i) [] 698 u' w' r' 698 P) : xEv g (d + 111) (mL nm) 805 (lL i) [] 698 u w r 698 P := by
  refine xe_aload_n dL_law_805 rfl ?_
  refine xe_arg (k := 1) dL_law_806 dL_law_807 dL_law_808 dL_law_809 dL_law_810 (by decide) (by omega) h0 hL hi ?_
  refine xe_arg (k := 2) dL_law_811 dL_law_812 dL_law_813 dL_law_814 dL_law_815 (by decide) (by omega) h0 hL hi ?_
  refine xe_callV (args := [.int (xXs g (i + 1)), .int (xXs g (i + 2))]) dL_law_816 vlL_112 rfl rfl (by show 0 ≤ 8; omega) kk8 (by omega) rfl rfl (V_soon S hj (xXs g (i + 1)) (xXs g (i + 2))) (Nat.le_refl _) (fun rv1 u1 w1 r1 k => ?_)
  obtain ⟨A, rfl, hr⟩ := k
  refine xe_aload_n dL_law_819 rfl ?_
  refine xe_arg (k := 1) dL_law_820 dL_law_821 dL_law_822 dL_law_823 dL_law_824 (by decide) (by omega) h0 hL hi ?_
  refine xe_arg (k := 2) dL_law_825 dL_law_826 dL_law_827 dL_law_828 dL_law_829 (by decide) (by omega) h0 hL hi ?_
  refine xe_callV (args := [.int (xXs g (i + 1)), .int (xXs g (i + 2))]) dL_law_830 vlL_115 rfl rfl (by show 1 ≤ 8; omega) kk655 (by omega) rfl rfl hr (Nat.le_refl _) (fun rv2 u2 w2 r2 k => ?_)
  obtain ⟨rfl, S2⟩ := k
  exact xe_icmp_eq dL_law_833 rfl (fun _ => kk u2 w2 r2 S2) (fun z => absurd rfl z)
theorem L_24 {j i : Nat} (h0 : xpre g 0 < xz g) (hL : xL g ≤ 3072) (hi : i + 6 ≤ xL g) (S : vS j u w r) (hj : j ≤ 900) (kk : ∀ u' w' r', vS (j + 1) u' w' r' → xEv g (d + 111) (mL nm) 1223 (lL i) [] 698 u' w' r' 698 P) : xEv g (d + 111) (mL nm) 838 (lL i) [] 698 u w r 698 P := by
  refine xe_aload_n dL_law_838 rfl ?_
  refine xe_arg (k := 1) dL_law_839 dL_law_840 dL_law_841 dL_law_842 dL_law_843 (by decide) (by omega) h0 hL hi ?_
  refine xe_callV (args := [.int (xXs g (i + 1))]) dL_law_844 vlL_116 rfl rfl (by show 0 ≤ 8; omega) kk8 (by omega) rfl rfl (V_heard S hj (xXs g (i + 1))) (Nat.le_refl _) (fun rv1 u1 w1 r1 k => ?_)
  obtain ⟨A, rfl, hr⟩ := k
  refine xe_aload_n dL_law_847 rfl ?_
  refine xe_arg (k := 1) dL_law_848 dL_law_849 dL_law_850 dL_law_851 dL_law_852 (by decide) (by omega) h0 hL hi ?_
  refine xe_callV (args := [.int (xXs g (i + 1))]) dL_law_853 vlL_119 rfl rfl (by show 1 ≤ 8; omega) kk655 (by omega) rfl rfl hr (Nat.le_refl _) (fun rv2 u2 w2 r2 k => ?_)
  obtain ⟨rfl, S2⟩ := k
  exact xe_icmp_eq dL_law_856 rfl (fun _ => kk u2 w2 r2 S2) (fun z => absurd rfl z)
theorem L_25 {j i : Nat} (h0 : xpre g 0 < xz g) (hL : xL g ≤ 3072) (hi : i + 6 ≤ xL g) (S : vS j u w r) (hj : j ≤ 900) (kk : ∀ u' w' r', vS (j + 1) u' w' r' → xEv g (d + 111) (mL nm) 1223 (lL i) [] 698 u' w' r' 698 P) : xEv g (d + 111) (mL nm) 861 (lL i) [] 698 u w r 698 P := by
  refine xe_aload_n dL_law_861 rfl ?_
  refine xe_arg (k := 1) dL_law_862 dL_law_863 dL_law_864 dL_law_865 dL_law_866 (by decide) (by omega) h0 hL hi ?_
  refine xe_callV (args := [.int (xXs g (i + 1))]) dL_law_867 vlL_120 rfl rfl (by show 0 ≤ 8; omega) kk8 (by omega) rfl rfl (V_deaf S hj (xXs g (i + 1))) (Nat.le_refl _) (fun rv1 u1 w1 r1 k => ?_)
  obtain ⟨A, rfl, hr⟩ := k
  refine xe_aload_n dL_law_870 rfl ?_
  refine xe_arg (k := 1) dL_law_871 dL_law_872 dL_law_873 dL_law_874 dL_law_875 (by decide) (by omega) h0 hL hi ?_
  refine xe_callV (args := [.int (xXs g (i + 1))]) dL_law_876 vlL_123 rfl rfl (by show 1 ≤ 8; omega) kk655 (by omega) rfl rfl hr (Nat.le_refl _) (fun rv2 u2 w2 r2 k => ?_)
  obtain ⟨rfl, S2⟩ := k
  exact xe_icmp_eq dL_law_879 rfl (fun _ => kk u2 w2 r2 S2) (fun z => absurd rfl z)
theorem L_26 {j i : Nat} (h0 : xpre g 0 < xz g) (hL : xL g ≤ 3072) (hi : i + 6 ≤ xL g) (S : vS j u w r) (hj : j ≤ 900) (kk : ∀ u' w' r', vS (j + 1) u' w' r' → xEv g (d + 111) (mL nm) 1223 (lL i) [] 698 u' w' r' 698 P) : xEv g (d + 111) (mL nm) 884 (lL i) [] 698 u w r 698 P := by
  refine xe_aload_n dL_law_884 rfl ?_
  refine xe_arg (k := 1) dL_law_885 dL_law_886 dL_law_887 dL_law_888 dL_law_889 (by decide) (by omega) h0 hL hi ?_
  refine xe_arg (k := 2) dL_law_890 dL_law_891 dL_law_892 dL_law_893 dL_law_894 (by decide) (by omega) h0 hL hi ?_
  refine xe_arg (k := 3) dL_law_895 dL_law_896 dL_law_897 dL_law_898 dL_law_899 (by decide) (by omega) h0 hL hi ?_
  refine xe_callV (args := [.int (xXs g (i + 1)), .int (xXs g (i + 2)), .int (xXs g (i + 3))]) dL_law_900 vlL_124 rfl rfl (by show 0 ≤ 8; omega) kk8 (by omega) rfl rfl (V_bars S hj (xXs g (i + 1)) (xXs g (i + 2)) (xXs g (i + 3))) (Nat.le_refl _) (fun rv1 u1 w1 r1 k => ?_)
  obtain ⟨A, rfl, hr⟩ := k
  refine xe_aload_n dL_law_903 rfl ?_
  refine xe_arg (k := 1) dL_law_904 dL_law_905 dL_law_906 dL_law_907 dL_law_908 (by decide) (by omega) h0 hL hi ?_
  refine xe_arg (k := 2) dL_law_909 dL_law_910 dL_law_911 dL_law_912 dL_law_913 (by decide) (by omega) h0 hL hi ?_
  refine xe_arg (k := 3) dL_law_914 dL_law_915 dL_law_916 dL_law_917 dL_law_918 (by decide) (by omega) h0 hL hi ?_
  refine xe_callV (args := [.int (xXs g (i + 1)), .int (xXs g (i + 2)), .int (xXs g (i + 3))]) dL_law_919 vlL_127 rfl rfl (by show 1 ≤ 8; omega) kk655 (by omega) rfl rfl hr (Nat.le_refl _) (fun rv2 u2 w2 r2 k => ?_)
  obtain ⟨rfl, S2⟩ := k
  exact xe_icmp_eq dL_law_922 rfl (fun _ => kk u2 w2 r2 S2) (fun z => absurd rfl z)
theorem L_27 {j i : Nat} (h0 : xpre g 0 < xz g) (hL : xL g ≤ 3072) (hi : i + 6 ≤ xL g) (S : vS j u w r) (hj : j ≤ 900) (kk : ∀ u' w' r', vS (j + 1) u' w' r' → xEv g (d + 111) (mL nm) 1223 (lL i) [] 698 u' w' r' 698 P) : xEv g (d + 111) (mL nm) 927 (lL i) [] 698 u w r 698 P := by
  refine xe_aload_n dL_law_927 rfl ?_
  refine xe_arg (k := 1) dL_law_928 dL_law_929 dL_law_930 dL_law_931 dL_law_932 (by decide) (by omega) h0 hL hi ?_
  refine xe_arg (k := 2) dL_law_933 dL_law_934 dL_law_935 dL_law_936 dL_law_937 (by decide) (by omega) h0 hL hi ?_
  refine xe_callV (args := [.int (xXs g (i + 1)), .int (xXs g (i + 2))]) dL_law_938 vlL_128 rfl rfl (by show 0 ≤ 8; omega) kk8 (by omega) rfl rfl (V_trace S hj (xXs g (i + 1)) (xXs g (i + 2))) (Nat.le_refl _) (fun rv1 u1 w1 r1 k => ?_)
  obtain ⟨A, rfl, hr⟩ := k
  refine xe_aload_n dL_law_941 rfl ?_
  refine xe_arg (k := 1) dL_law_942 dL_law_943 dL_law_944 dL_law_945 dL_law_946 (by decide) (by omega) h0 hL hi ?_
  refine xe_arg (k := 2) dL_law_947 dL_law_948 dL_law_949 dL_law_950 dL_law_951 (by decide) (by omega) h0 hL hi ?_
  refine xe_callV (args := [.int (xXs g (i + 1)), .int (xXs g (i + 2))]) dL_law_952 vlL_131 rfl rfl (by show 1 ≤ 8; omega) kk655 (by omega) rfl rfl hr (Nat.le_refl _) (fun rv2 u2 w2 r2 k => ?_)
  obtain ⟨rfl, S2⟩ := k
  exact xe_icmp_eq dL_law_955 rfl (fun _ => kk u2 w2 r2 S2) (fun z => absurd rfl z)
theorem L_28 {j i : Nat} (h0 : xpre g 0 < xz g) (hL : xL g ≤ 3072) (hi : i + 6 ≤ xL g) (S : vS j u w r) (hj : j ≤ 900) (kk : ∀ u' w' r', vS (j + 1) u' w' r' → xEv g (d + 111) (mL nm) 1223 (lL i) [] 698 u' w' r' 698 P) : xEv g (d + 111) (mL nm) 960 (lL i) [] 698 u w r 698 P := by
  refine xe_aload_n dL_law_960 rfl ?_
  refine xe_arg (k := 1) dL_law_961 dL_law_962 dL_law_963 dL_law_964 dL_law_965 (by decide) (by omega) h0 hL hi ?_
  refine xe_callV (args := [.int (xXs g (i + 1))]) dL_law_966 vlL_132 rfl rfl (by show 0 ≤ 8; omega) kk8 (by omega) rfl rfl (V_lies S hj (xXs g (i + 1))) (Nat.le_refl _) (fun rv1 u1 w1 r1 k => ?_)
  obtain ⟨A, rfl, hr⟩ := k
  refine xe_aload_n dL_law_969 rfl ?_
  refine xe_arg (k := 1) dL_law_970 dL_law_971 dL_law_972 dL_law_973 dL_law_974 (by decide) (by omega) h0 hL hi ?_
  refine xe_callV (args := [.int (xXs g (i + 1))]) dL_law_975 vlL_135 rfl rfl (by show 1 ≤ 8; omega) kk655 (by omega) rfl rfl hr (Nat.le_refl _) (fun rv2 u2 w2 r2 k => ?_)
  obtain ⟨rfl, S2⟩ := k
  exact xe_icmp_eq dL_law_978 rfl (fun _ => kk u2 w2 r2 S2) (fun z => absurd rfl z)
theorem L_30 {j i : Nat} (h0 : xpre g 0 < xz g) (hL : xL g ≤ 3072) (hi : i + 6 ≤ xL g) (S : vS j u w r) (hj : j ≤ 900) (kk : ∀ u' w' r', vS (j + 1) u' w' r' → xEv g (d + 111) (mL nm) 1223 (lL i) [] 698 u' w' r' 698 P) : xEv g (d + 111) (mL nm) 1032 (lL i) [] 698 u w r 698 P := by
  refine xe_aload_n dL_law_1032 rfl ?_
  refine xe_arg (k := 1) dL_law_1033 dL_law_1034 dL_law_1035 dL_law_1036 dL_law_1037 (by decide) (by omega) h0 hL hi ?_
  refine xe_callV (args := [.int (xXs g (i + 1))]) dL_law_1038 vlL_141 rfl rfl (by show 0 ≤ 8; omega) kk8 (by omega) rfl rfl (V_untell S hj (xXs g (i + 1))) (Nat.le_refl _) (fun rv1 u1 w1 r1 k => ?_)
  obtain ⟨A, rfl, hr⟩ := k
  refine xe_aload_n dL_law_1041 rfl ?_
  refine xe_arg (k := 1) dL_law_1042 dL_law_1043 dL_law_1044 dL_law_1045 dL_law_1046 (by decide) (by omega) h0 hL hi ?_
  refine xe_callV (args := [.int (xXs g (i + 1))]) dL_law_1047 vlL_145 rfl rfl (by show 1 ≤ 8; omega) kk655 (by omega) rfl rfl hr (Nat.le_refl _) (fun rv2 u2 w2 r2 k => ?_)
  obtain ⟨rfl, S2⟩ := k
  exact xe_icmp_eq dL_law_1050 rfl (fun _ => kk u2 w2 r2 S2) (fun z => absurd rfl z)
theorem L_31 {j i : Nat} (h0 : xpre g 0 < xz g) (hL : xL g ≤ 3072) (hi : i + 6 ≤ xL g) (S : vS j u w r) (hj : j ≤ 900) (kk : ∀ u' w' r', vS (j + 1) u' w' r' → xEv g (d + 111) (mL nm) 1223 (lL i) [] 698 u' w' r' 698 P) : xEv g (d + 111) (mL nm) 1055 (lL i) [] 698 u w r 698 P := by
  refine xe_aload_n dL_law_1055 rfl ?_
  refine xe_arg (k := 1) dL_law_1056 dL_law_1057 dL_law_1058 dL_law_1059 dL_law_1060 (by decide) (by omega) h0 hL hi ?_
  refine xe_callV (args := [.int (xXs g (i + 1))]) dL_law_1061 vlL_146 rfl rfl (by show 0 ≤ 8; omega) kk8 (by omega) rfl rfl (V_later S hj (xXs g (i + 1))) (Nat.le_refl _) (fun rv1 u1 w1 r1 k => ?_)
  obtain ⟨A, rfl, hr⟩ := k
  refine xe_aload_n dL_law_1064 rfl ?_
  refine xe_arg (k := 1) dL_law_1065 dL_law_1066 dL_law_1067 dL_law_1068 dL_law_1069 (by decide) (by omega) h0 hL hi ?_
  refine xe_callV (args := [.int (xXs g (i + 1))]) dL_law_1070 vlL_149 rfl rfl (by show 1 ≤ 8; omega) kk655 (by omega) rfl rfl hr (Nat.le_refl _) (fun rv2 u2 w2 r2 k => ?_)
  obtain ⟨rfl, S2⟩ := k
  exact xe_icmp_eq dL_law_1073 rfl (fun _ => kk u2 w2 r2 S2) (fun z => absurd rfl z)
theorem L_32 {j i : Nat} (h0 : xpre g 0 < xz g) (hL : xL g ≤ 3072) (hi : i + 6 ≤ xL g) (S : vS j u w r) (hj : j ≤ 900) (kk : ∀ u' w' r', vS (j + 1) u' w' r' → xEv g (d + 111) (mL nm) 1223 (lL i) [] 698 u' w' r' 698 P) : xEv g (d + 111) (mL nm) 1078 (lL i) [] 698 u w r 698 P := by
  refine xe_aload_n dL_law_1078 rfl ?_
  refine xe_arg (k := 1) dL_law_1079 dL_law_1080 dL_law_1081 dL_law_1082 dL_law_1083 (by decide) (by omega) h0 hL hi ?_
  refine xe_arg (k := 2) dL_law_1084 dL_law_1085 dL_law_1086 dL_law_1087 dL_law_1088 (by decide) (by omega) h0 hL hi ?_
  refine xe_callV (args := [.int (xXs g (i + 1)), .int (xXs g (i + 2))]) dL_law_1089 vlL_150 rfl rfl (by show 0 ≤ 8; omega) kk8 (by omega) rfl rfl (V_fit S hj (xXs g (i + 1)) (xXs g (i + 2))) (Nat.le_refl _) (fun rv1 u1 w1 r1 k => ?_)
  obtain ⟨A, rfl, hr⟩ := k
  refine xe_aload_n dL_law_1092 rfl ?_
  refine xe_arg (k := 1) dL_law_1093 dL_law_1094 dL_law_1095 dL_law_1096 dL_law_1097 (by decide) (by omega) h0 hL hi ?_
  refine xe_arg (k := 2) dL_law_1098 dL_law_1099 dL_law_1100 dL_law_1101 dL_law_1102 (by decide) (by omega) h0 hL hi ?_
  refine xe_callV (args := [.int (xXs g (i + 1)), .int (xXs g (i + 2))]) dL_law_1103 vlL_153 rfl rfl (by show 1 ≤ 8; omega) kk655 (by omega) rfl rfl hr (Nat.le_refl _) (fun rv2 u2 w2 r2 k => ?_)
  obtain ⟨rfl, S2⟩ := k
  exact xe_icmp_eq dL_law_1106 rfl (fun _ => kk u2 w2 r2 S2) (fun z => absurd rfl z)
theorem L_33 {j i : Nat} (h0 : xpre g 0 < xz g) (hL : xL g ≤ 3072) (hi : i + 6 ≤ xL g) (S : vS j u w r) (hj : j ≤ 900) (kk : ∀ u' w' r', vS (j + 1) u' w' r' → xEv g (d + 111) (mL nm) 1223 (lL i) [] 698 u' w' r' 698 P) : xEv g (d + 111) (mL nm) 1111 (lL i) [] 698 u w r 698 P := by
  refine xe_aload_n dL_law_1111 rfl ?_
  refine xe_arg (k := 1) dL_law_1112 dL_law_1113 dL_law_1114 dL_law_1115 dL_law_1116 (by decide) (by omega) h0 hL hi ?_
  refine xe_arg (k := 2) dL_law_1117 dL_law_1118 dL_law_1119 dL_law_1120 dL_law_1121 (by decide) (by omega) h0 hL hi ?_
  refine xe_arg (k := 3) dL_law_1122 dL_law_1123 dL_law_1124 dL_law_1125 dL_law_1126 (by decide) (by omega) h0 hL hi ?_
  refine xe_callV (args := [.int (xXs g (i + 1)), .int (xXs g (i + 2)), .int (xXs g (i + 3))]) dL_law_1127 vlL_154 rfl rfl (by show 0 ≤ 8; omega) kk8 (by omega) rfl rfl (V_ask S hj (xXs g (i + 1)) (xXs g (i + 2)) (xXs g (i + 3))) (Nat.le_refl _) (fun rv1 u1 w1 r1 k => ?_)
  obtain ⟨A, rfl, hr⟩ := k
  refine xe_aload_n dL_law_1130 rfl ?_
  refine xe_arg (k := 1) dL_law_1131 dL_law_1132 dL_law_1133 dL_law_1134 dL_law_1135 (by decide) (by omega) h0 hL hi ?_
  refine xe_arg (k := 2) dL_law_1136 dL_law_1137 dL_law_1138 dL_law_1139 dL_law_1140 (by decide) (by omega) h0 hL hi ?_
  refine xe_arg (k := 3) dL_law_1141 dL_law_1142 dL_law_1143 dL_law_1144 dL_law_1145 (by decide) (by omega) h0 hL hi ?_
  refine xe_callV (args := [.int (xXs g (i + 1)), .int (xXs g (i + 2)), .int (xXs g (i + 3))]) dL_law_1146 vlL_157 rfl rfl (by show 1 ≤ 8; omega) kk655 (by omega) rfl rfl hr (Nat.le_refl _) (fun rv2 u2 w2 r2 k => ?_)
  obtain ⟨rfl, S2⟩ := k
  exact xe_icmp_eq dL_law_1149 rfl (fun _ => kk u2 w2 r2 S2) (fun z => absurd rfl z)
theorem L_34 {j i : Nat} (h0 : xpre g 0 < xz g) (hL : xL g ≤ 3072) (hi : i + 6 ≤ xL g) (S : vS j u w r) (hj : j ≤ 900) (kk : ∀ u' w' r', vS (j + 1) u' w' r' → xEv g (d + 111) (mL nm) 1223 (lL i) [] 698 u' w' r' 698 P) : xEv g (d + 111) (mL nm) 1154 (lL i) [] 698 u w r 698 P := by
  refine xe_aload_n dL_law_1154 rfl ?_
  refine xe_arg (k := 1) dL_law_1155 dL_law_1156 dL_law_1157 dL_law_1158 dL_law_1159 (by decide) (by omega) h0 hL hi ?_
  refine xe_callV (args := [.int (xXs g (i + 1))]) dL_law_1160 vlL_158 rfl rfl (by show 0 ≤ 8; omega) kk8 (by omega) rfl rfl (V_image S hj (xXs g (i + 1))) (Nat.le_refl _) (fun rv1 u1 w1 r1 k => ?_)
  obtain ⟨A, rfl, hr⟩ := k
  refine xe_aload_n dL_law_1163 rfl ?_
  refine xe_arg (k := 1) dL_law_1164 dL_law_1165 dL_law_1166 dL_law_1167 dL_law_1168 (by decide) (by omega) h0 hL hi ?_
  refine xe_callV (args := [.int (xXs g (i + 1))]) dL_law_1169 vlL_161 rfl rfl (by show 1 ≤ 8; omega) kk655 (by omega) rfl rfl hr (Nat.le_refl _) (fun rv2 u2 w2 r2 k => ?_)
  obtain ⟨rfl, S2⟩ := k
  exact xe_icmp_eq dL_law_1172 rfl (fun _ => kk u2 w2 r2 S2) (fun z => absurd rfl z)
theorem L_35 {j i : Nat} (h0 : xpre g 0 < xz g) (hL : xL g ≤ 3072) (hi : i + 6 ≤ xL g) (S : vS j u w r) (hj : j ≤ 900) (kk : ∀ u' w' r', vS (j + 1) u' w' r' → xEv g (d + 111) (mL nm) 1223 (lL i) [] 698 u' w' r' 698 P) : xEv g (d + 111) (mL nm) 1177 (lL i) [] 698 u w r 698 P := by
  refine xe_aload_n dL_law_1177 rfl ?_
  refine xe_arg (k := 1) dL_law_1178 dL_law_1179 dL_law_1180 dL_law_1181 dL_law_1182 (by decide) (by omega) h0 hL hi ?_
  refine xe_callV (args := [.int (xXs g (i + 1))]) dL_law_1183 vlL_162 rfl rfl (by show 0 ≤ 8; omega) kk8 (by omega) rfl rfl (V_back S hj (xXs g (i + 1))) (Nat.le_refl _) (fun rv1 u1 w1 r1 k => ?_)
  obtain ⟨A, rfl, hr⟩ := k
  refine xe_aload_n dL_law_1186 rfl ?_
  refine xe_arg (k := 1) dL_law_1187 dL_law_1188 dL_law_1189 dL_law_1190 dL_law_1191 (by decide) (by omega) h0 hL hi ?_
  refine xe_callV (args := [.int (xXs g (i + 1))]) dL_law_1192 vlL_165 rfl rfl (by show 1 ≤ 8; omega) kk655 (by omega) rfl rfl hr (Nat.le_refl _) (fun rv2 u2 w2 r2 k => ?_)
  obtain ⟨rfl, S2⟩ := k
  exact xe_icmp_eq dL_law_1195 rfl (fun _ => kk u2 w2 r2 S2) (fun z => absurd rfl z)
theorem L_36 {j i : Nat} (h0 : xpre g 0 < xz g) (hL : xL g ≤ 3072) (hi : i + 6 ≤ xL g) (S : vS j u w r) (hj : j ≤ 900) (kk : ∀ u' w' r', vS (j + 1) u' w' r' → xEv g (d + 111) (mL nm) 1223 (lL i) [] 698 u' w' r' 698 P) : xEv g (d + 111) (mL nm) 1200 (lL i) [] 698 u w r 698 P := by
  refine xe_aload_n dL_law_1200 rfl ?_
  refine xe_arg (k := 1) dL_law_1201 dL_law_1202 dL_law_1203 dL_law_1204 dL_law_1205 (by decide) (by omega) h0 hL hi ?_
  refine xe_callV (args := [.int (xXs g (i + 1))]) dL_law_1206 vlL_166 rfl rfl (by show 0 ≤ 8; omega) kk8 (by omega) rfl rfl (V_about S hj (xXs g (i + 1))) (Nat.le_refl _) (fun rv1 u1 w1 r1 k => ?_)
  obtain ⟨A, rfl, hr⟩ := k
  refine xe_aload_n dL_law_1209 rfl ?_
  refine xe_arg (k := 1) dL_law_1210 dL_law_1211 dL_law_1212 dL_law_1213 dL_law_1214 (by decide) (by omega) h0 hL hi ?_
  refine xe_callV (args := [.int (xXs g (i + 1))]) dL_law_1215 vlL_169 rfl rfl (by show 1 ≤ 8; omega) kk655 (by omega) rfl rfl hr (Nat.le_refl _) (fun rv2 u2 w2 r2 k => ?_)
  obtain ⟨rfl, S2⟩ := k
  exact xe_icmp_eq dL_law_1218 rfl (fun _ => kk u2 w2 r2 S2) (fun z => absurd rfl z)
theorem L_29 {j i : Nat} (h0 : xpre g 0 < xz g) (hL : xL g ≤ 3072) (hi : i + 6 ≤ xL g) (S : vS j u w r) (hj : j ≤ 900) (kk : ∀ u' w' r', vS (j + 1) u' w' r' → xEv g (d + 111) (mL nm) 1223 (lL i) [] 698 u' w' r' 698 P) : xEv g (d + 111) (mL nm) 983 (lL i) [] 698 u w r 698 P := by
  refine xe_aload_n dL_law_983 rfl ?_
  refine xe_arg (k := 1) dL_law_984 dL_law_985 dL_law_986 dL_law_987 dL_law_988 (by decide) (by omega) h0 hL hi ?_
  refine xe_arg (k := 2) dL_law_989 dL_law_990 dL_law_991 dL_law_992 dL_law_993 (by decide) (by omega) h0 hL hi ?_
  by_cases z : xXs g (i + 2) = 0
  · refine xe_if_eq dL_law_994 rfl (fun _ => ?_) (fun y => absurd z y)
    refine xe_iconst (v := 0) dL_law_1001 rfl ?_
    refine xe_callV (args := [.int (xXs g (i + 1)), .int 0]) dL_law_1002 vlL_136 rfl rfl (by show 0 ≤ 8; omega) kk8 (by omega) rfl rfl (V_had S hj (xXs g (i + 1)) 0 (Or.inl rfl)) (Nat.le_refl _) (fun rv1 u1 w1 r1 k => ?_)
    obtain ⟨A, rfl, hr⟩ := k
    refine xe_aload_n dL_law_1005 rfl ?_
    refine xe_arg (k := 1) dL_law_1006 dL_law_1007 dL_law_1008 dL_law_1009 dL_law_1010 (by decide) (by omega) h0 hL hi ?_
    refine xe_arg (k := 2) dL_law_1011 dL_law_1012 dL_law_1013 dL_law_1014 dL_law_1015 (by decide) (by omega) h0 hL hi ?_
    refine xe_if_eq dL_law_1016 rfl (fun _ => ?_) (fun y => absurd z y)
    refine xe_iconst (v := 0) dL_law_1023 rfl ?_
    refine xe_callV (args := [.int (xXs g (i + 1)), .int 0]) dL_law_1024 vlL_140 rfl rfl (by show 1 ≤ 8; omega) kk655 (by omega) rfl rfl hr (Nat.le_refl _) (fun rv2 u2 w2 r2 k => ?_)
    obtain ⟨rfl, S2⟩ := k
    exact xe_icmp_eq dL_law_1027 rfl (fun _ => kk u2 w2 r2 S2) (fun z => absurd rfl z)
  · refine xe_if_eq dL_law_994 rfl (fun y => absurd y z) (fun _ => ?_)
    refine xe_iconst (v := 1) dL_law_997 rfl ?_
    refine xe_goto (tgt := 1002) dL_law_998 rfl ?_
    refine xe_callV (args := [.int (xXs g (i + 1)), .int 1]) dL_law_1002 vlL_136 rfl rfl (by show 0 ≤ 8; omega) kk8 (by omega) rfl rfl (V_had S hj (xXs g (i + 1)) 1 (Or.inr rfl)) (Nat.le_refl _) (fun rv1 u1 w1 r1 k => ?_)
    obtain ⟨A, rfl, hr⟩ := k
    refine xe_aload_n dL_law_1005 rfl ?_
    refine xe_arg (k := 1) dL_law_1006 dL_law_1007 dL_law_1008 dL_law_1009 dL_law_1010 (by decide) (by omega) h0 hL hi ?_
    refine xe_arg (k := 2) dL_law_1011 dL_law_1012 dL_law_1013 dL_law_1014 dL_law_1015 (by decide) (by omega) h0 hL hi ?_
    refine xe_if_eq dL_law_1016 rfl (fun y => absurd y z) (fun _ => ?_)
    refine xe_iconst (v := 1) dL_law_1019 rfl ?_
    refine xe_goto (tgt := 1024) dL_law_1020 rfl ?_
    refine xe_callV (args := [.int (xXs g (i + 1)), .int 1]) dL_law_1024 vlL_140 rfl rfl (by show 1 ≤ 8; omega) kk655 (by omega) rfl rfl hr (Nat.le_refl _) (fun rv2 u2 w2 r2 k => ?_)
    obtain ⟨rfl, S2⟩ := k
    exact xe_icmp_eq dL_law_1027 rfl (fun _ => kk u2 w2 r2 S2) (fun z => absurd rfl z)
theorem sub6 (n : Nat) (h : n < 3073) : (nI n - 6).toInt = (n : Int) - 6 := by
  rcases Nat.lt_or_ge n 6 with q | q
  · exact (by decide +kernel : ∀ n, n < 6 → (nI n - 6).toInt = (n : Int) - 6) n q
  · rw [show (6 : Int32) = nI 6 from rfl, nI_sub q, nI_toInt (by omega)]
    omega
/-- the calls, one behind another -/
theorem L_loop (h0 : xpre g 0 < xz g) (hL : xL g ≤ 3072) (hP : ∀ u w r, P (some (.int 1)) u w r) : ∀ m j (u : xU) (w : xW) (r : xQ), m + j = 513 → vS j u w r → xEv g (d + 111) (mL nm) 18 (lL (6 * j)) [] 698 u w r 698 P := by
  intro m
  induction m with
  | zero =>
    intro j u w r hj S
    refine xe_iload_n dL_law_18 rfl ?_
    refine xe_aload_n dL_law_19 rfl ?_
    refine xe_slen (v := nI (xL g)) dL_law_20 h0 rfl ?_
    refine xe_bipush (v := 6) dL_law_21 rfl ?_
    refine xe_isub dL_law_23 ?_
    refine xe_icmp_gt (tgt := 1229) dL_law_24 rfl (fun _ => ?_) (fun z => absurd (by rw [ti_lt, sub6 _ (by omega), nI_toInt (by omega)]; omega) z)
    exact xe_iconst (v := 1) dL_law_1229 rfl (xe_ireturn dL_law_1230 rfl (hP _ _ _))
  | succ m ih =>
    intro j u w r hj S
    refine xe_iload_n dL_law_18 rfl ?_
    refine xe_aload_n dL_law_19 rfl ?_
    refine xe_slen (v := nI (xL g)) dL_law_20 h0 rfl ?_
    refine xe_bipush (v := 6) dL_law_21 rfl ?_
    refine xe_isub dL_law_23 ?_
    refine xe_icmp_gt (tgt := 1229) dL_law_24 rfl (fun _ => ?_) (fun z => ?_)
    · exact xe_iconst (v := 1) dL_law_1229 rfl (xe_ireturn dL_law_1230 rfl (hP _ _ _))
    · rw [ti_lt, sub6 _ (by omega), nI_toInt (by omega)] at z
      have hi : 6 * j + 6 ≤ xL g := by omega
      have next : ∀ u' w' r', vS (j + 1) u' w' r' → xEv g (d + 111) (mL nm) 1223 (lL (6 * j)) [] 698 u' w' r' 698 P := fun u' w' r' S' => by
        refine xe_iinc (v := nI (6 * j + 6)) (ls' := lL (6 * j + 6)) dL_law_1223 rfl (by show 3 < 4; omega) (by rw [show Int32.ofInt 6 = nI 6 by decide]; exact nI_add _ _) rfl ?_
        refine xe_goto (tgt := 18) dL_law_1226 rfl ?_
        exact ih (j + 1) u' w' r' (by omega) S'
      refine xe_aload_n dL_law_27 rfl ?_
      refine xe_iload_n dL_law_28 rfl ?_
      refine xe_sld dL_law_29 h0 (vpn (by omega) (by omega)) ?_
      refine xe_bipush (v := 63) dL_law_30 rfl ?_
      refine xe_iand dL_law_32 ?_
      obtain ⟨c, hc, ec⟩ := b63 (xXs g (nI (6 * j)).toNatClampNeg)
      rw [ec]
      clear ec
      have hj9 : j ≤ 900 := by omega
      have cs : c = 0 ∨ c = 1 ∨ c = 2 ∨ c = 3 ∨ c = 4 ∨ c = 5 ∨ c = 6 ∨ c = 7 ∨ c = 8 ∨ c = 9 ∨ c = 10 ∨ c = 11 ∨ c = 12 ∨ c = 13 ∨ c = 14 ∨ c = 15 ∨ c = 16 ∨ c = 17 ∨ c = 18 ∨ c = 19 ∨ c = 20 ∨ c = 21 ∨ c = 22 ∨ c = 23 ∨ c = 24 ∨ c = 25 ∨ c = 26 ∨ c = 27 ∨ c = 28 ∨ c = 29 ∨ c = 30 ∨ c = 31 ∨ c = 32 ∨ c = 33 ∨ c = 34 ∨ c = 35 ∨ c = 36 ∨ 37 ≤ c := by omega
      rcases cs with rfl | rfl | rfl | rfl | rfl | rfl | rfl | rfl | rfl | rfl | rfl | rfl | rfl | rfl | rfl | rfl | rfl | rfl | rfl | rfl | rfl | rfl | rfl | rfl | rfl | rfl | rfl | rfl | rfl | rfl | rfl | rfl | rfl | rfl | rfl | rfl | rfl | h
      · exact xe_tableIn (off := 163) (tgt := 196) dL_law_33 (by decide) (by decide) (by decide) rfl (L_0 h0 hL hi S hj9 next)
      · exact xe_tableIn (off := 226) (tgt := 259) dL_law_33 (by decide) (by decide) (by decide) rfl (L_1 h0 hL hi S hj9 next)
      · exact xe_tableIn (off := 249) (tgt := 282) dL_law_33 (by decide) (by decide) (by decide) rfl (L_2 h0 hL hi S hj9 next)
      · exact xe_tableIn (off := 262) (tgt := 295) dL_law_33 (by decide) (by decide) (by decide) rfl (L_3 h0 hL hi S hj9 next)
      · exact xe_tableIn (off := 285) (tgt := 318) dL_law_33 (by decide) (by decide) (by decide) rfl (L_4 h0 hL hi S hj9 next)
      · exact xe_tableIn (off := 318) (tgt := 351) dL_law_33 (by decide) (by decide) (by decide) rfl (L_5 h0 hL hi S hj9 next)
      · exact xe_tableIn (off := 351) (tgt := 384) dL_law_33 (by decide) (by decide) (by decide) rfl (L_6 h0 hL hi S hj9 next)
      · exact xe_tableIn (off := 384) (tgt := 417) dL_law_33 (by decide) (by decide) (by decide) rfl (L_7 h0 hL hi S hj9 next)
      · exact xe_tableIn (off := 417) (tgt := 450) dL_law_33 (by decide) (by decide) (by decide) rfl (L_8 h0 hL hi S hj9 next)
      · exact xe_tableIn (off := 430) (tgt := 463) dL_law_33 (by decide) (by decide) (by decide) rfl (L_9 h0 hL hi S hj9 next)
      · exact xe_tableIn (off := 463) (tgt := 496) dL_law_33 (by decide) (by decide) (by decide) rfl (L_10 h0 hL hi S hj9 next)
      · exact xe_tableIn (off := 496) (tgt := 529) dL_law_33 (by decide) (by decide) (by decide) rfl (L_11 h0 hL hi S hj9 next)
      · exact xe_tableIn (off := 519) (tgt := 552) dL_law_33 (by decide) (by decide) (by decide) rfl (L_12 h0 hL hi S hj9 next)
      · exact xe_tableIn (off := 542) (tgt := 575) dL_law_33 (by decide) (by decide) (by decide) rfl (L_13 h0 hL hi S hj9 next)
      · exact xe_tableIn (off := 555) (tgt := 588) dL_law_33 (by decide) (by decide) (by decide) rfl (L_14 h0 hL hi S hj9 next)
      · exact xe_tableIn (off := 568) (tgt := 601) dL_law_33 (by decide) (by decide) (by decide) rfl (L_15 h0 hL hi S hj9 next)
      · exact xe_tableIn (off := 591) (tgt := 624) dL_law_33 (by decide) (by decide) (by decide) rfl (L_16 h0 hL hi S hj9 next)
      · exact xe_tableIn (off := 604) (tgt := 637) dL_law_33 (by decide) (by decide) (by decide) rfl (L_17 h0 hL hi S hj9 next)
      · exact xe_tableIn (off := 617) (tgt := 650) dL_law_33 (by decide) (by decide) (by decide) rfl (L_18 h0 hL hi S hj9 next)
      · exact xe_tableIn (off := 630) (tgt := 663) dL_law_33 (by decide) (by decide) (by decide) rfl (L_19 h0 hL hi S hj9 next)
      · exact xe_tableIn (off := 673) (tgt := 706) dL_law_33 (by decide) (by decide) (by decide) rfl (L_20 h0 hL hi S hj9 next)
      · exact xe_tableIn (off := 696) (tgt := 729) dL_law_33 (by decide) (by decide) (by decide) rfl (L_21 h0 hL hi S hj9 next)
      · exact xe_tableIn (off := 739) (tgt := 772) dL_law_33 (by decide) (by decide) (by decide) rfl (L_22 h0 hL hi S hj9 next)
      · exact xe_tableIn (off := 772) (tgt := 805) dL_law_33 (by decide) (by decide) (by decide) rfl (L_23 h0 hL hi S hj9 next)
      · exact xe_tableIn (off := 805) (tgt := 838) dL_law_33 (by decide) (by decide) (by decide) rfl (L_24 h0 hL hi S hj9 next)
      · exact xe_tableIn (off := 828) (tgt := 861) dL_law_33 (by decide) (by decide) (by decide) rfl (L_25 h0 hL hi S hj9 next)
      · exact xe_tableIn (off := 851) (tgt := 884) dL_law_33 (by decide) (by decide) (by decide) rfl (L_26 h0 hL hi S hj9 next)
      · exact xe_tableIn (off := 894) (tgt := 927) dL_law_33 (by decide) (by decide) (by decide) rfl (L_27 h0 hL hi S hj9 next)
      · exact xe_tableIn (off := 927) (tgt := 960) dL_law_33 (by decide) (by decide) (by decide) rfl (L_28 h0 hL hi S hj9 next)
      · exact xe_tableIn (off := 950) (tgt := 983) dL_law_33 (by decide) (by decide) (by decide) rfl (L_29 h0 hL hi S hj9 next)
      · exact xe_tableIn (off := 999) (tgt := 1032) dL_law_33 (by decide) (by decide) (by decide) rfl (L_30 h0 hL hi S hj9 next)
      · exact xe_tableIn (off := 1022) (tgt := 1055) dL_law_33 (by decide) (by decide) (by decide) rfl (L_31 h0 hL hi S hj9 next)
      · exact xe_tableIn (off := 1045) (tgt := 1078) dL_law_33 (by decide) (by decide) (by decide) rfl (L_32 h0 hL hi S hj9 next)
      · exact xe_tableIn (off := 1078) (tgt := 1111) dL_law_33 (by decide) (by decide) (by decide) rfl (L_33 h0 hL hi S hj9 next)
      · exact xe_tableIn (off := 1121) (tgt := 1154) dL_law_33 (by decide) (by decide) (by decide) rfl (L_34 h0 hL hi S hj9 next)
      · exact xe_tableIn (off := 1144) (tgt := 1177) dL_law_33 (by decide) (by decide) (by decide) rfl (L_35 h0 hL hi S hj9 next)
      · exact xe_tableIn (off := 1167) (tgt := 1200) dL_law_33 (by decide) (by decide) (by decide) rfl (L_36 h0 hL hi S hj9 next)
      · exact xe_tableOut (tgt := 1223) dL_law_33 (Or.inr (by rw [nI_toInt (by omega)]; omega)) rfl (next u w r (S.up (Nat.le_succ j)))
/-- all is as it was made -/
def uLo (u : xU) : xU := fun b i => if b < 655 then u b i else 0
def wLw (w : xW) : xW := fun b i => if b < 655 then w b i else 0
def rLow (r : xQ) : xQ := fun b i => if b < 655 then r b i else none
theorem cut_Z {u : xU} {w : xW} {r : xQ} : xZ 655 (uLo u) (wLw w) (rLow r) := fun b i hb => ⟨if_neg (by omega), if_neg (by omega), if_neg (by omega)⟩
def xRMl : List (Nat × Nat × Nat) := [(655, 0, 656), (655, 10, 657), (655, 11, 658), (655, 12, 659), (655, 13, 660), (655, 14, 661), (655, 15, 662), (655, 16, 663), (655, 24, 664), (655, 25, 665), (655, 26, 666), (655, 27, 667), (655, 28, 668), (655, 29, 669), (655, 30, 670), (655, 31, 671), (655, 32, 672), (655, 33, 673), (655, 34, 674), (655, 35, 675), (655, 36, 676), (655, 37, 677), (655, 38, 678), (655, 39, 679), (655, 40, 680), (655, 41, 681), (655, 42, 682), (655, 57, 683), (655, 58, 684), (655, 59, 685), (655, 60, 686), (655, 62, 687), (655, 65, 688), (655, 66, 689), (655, 67, 690), (655, 69, 691), (655, 70, 692), (655, 71, 693), (655, 72, 694), (655, 75, 695), (655, 76, 696), (655, 77, 697)]
theorem xRl_two : ∀ q ∈ xRl, q.1 < 655 ∨ q ∈ xRMl := by decide +kernel
theorem xSb_lo : ∀ s ∈ xSb, s < 655 := by decide +kernel
theorem rf_made {r r2 : xQ} (h : xRf r) (hm : xAll r2 xRMl) (e : ∀ b i, b < 655 → r2 b i = r b i) : xRf r2 := by
  obtain ⟨h1, h2, h3, h4, h5, h6, h7⟩ := h
  refine ⟨fun q hq => ?_, fun s hs => (h2 s hs).to (fun k => e _ _ (xSb_lo s hs)), h3.to (fun k => e _ _ (by omega)) (fun k => e _ _ (by omega)), h4.to (fun k => e _ _ (by omega)) (fun k => e _ _ (by omega)), (e _ _ (by omega)).trans h5, (e _ _ (by omega)).trans h6, (e _ _ (by omega)).trans h7⟩
  rcases xRl_two q hq with y | y
  · rw [e _ _ y]; exact h1 q hq
  · exact hm.mem q y
abbrev uM (u : xU) : xU := x2 (x2 (uLo u) 655 3 (-1)) 655 52 300
theorem uM_lo {u : xU} {b i : Nat} (h : b < 655) : uM u b i = u b i := by
  show x2 (x2 (uLo u) 655 3 (-1)) 655 52 300 b i = _
  rw [x2_a _ _ (by omega), x2_a _ _ (by omega)]
  exact if_pos h
theorem uM_hi {u : xU} {b i : Nat} (h : 655 ≤ b) (h3 : ¬ (b = 655 ∧ i = 3)) (h52 : ¬ (b = 655 ∧ i = 52)) : uM u b i = 0 := by
  show x2 (x2 (uLo u) 655 3 (-1)) 655 52 300 b i = _
  rw [x2_ne _ _ h52, x2_ne _ _ h3]
  exact if_neg (by omega)
theorem v_start {u1 : xU} {w1 : xW} {r1 r2 : xQ} {T : Nat → Int32} (hr : xRf r1) (t10 : r1 8 10 = some 22) (t11 : r1 8 11 = some 37) (t52 : r1 52 1 = some 22) (kw : kWd w1) (bg : bgn 0 T 22 D0 u1 w1) (fb : xSm fBe uP u1) (f5 : u1 611 5 = 0) (hm : xAll r2 xRMl) (e : ∀ b i, b < 655 → r2 b i = r1 b i) : vS 0 (uM u1) (wLw w1) r2 := by
  have hr2 := rf_made hr hm e
  have hs : sRow D0 (uM u1 683) := by
    have z : ∀ i, uM u1 683 i = 0 := fun i => uM_hi (by omega) (by omega) (by omega)
    exact ⟨fun b hb => ⟨z _, by rw [z]; exact (if_neg (Nat.not_lt_zero _)).symm, fun q => absurd q (Nat.not_lt_zero _)⟩, fun i hi => absurd hi (Nat.not_lt_zero _), z _, z _, z _⟩
  have z655 : ∀ i, ¬ i = 3 → ¬ i = 52 → uM u1 655 i = 0 := fun i h1 h2 => uM_hi (by omega) (by omega) (by omega)
  have hb : rbgn D0 (uM u1) := by
    refine ⟨⟨z655 _ (by decide) (by decide), z655 _ (by decide) (by decide), z655 _ (by decide) (by decide), fun _ => ⟨x2_same _ _ _ _, z655 _ (by decide) (by decide)⟩, fun q => absurd (show (0 : Nat) = 1 from q) (by decide), z655 _ (by decide) (by decide), z655 _ (by decide) (by decide), z655 _ (by decide) (by decide)⟩, fun k hk => absurd hk (Nat.not_lt_zero _), fun k hk => absurd hk (Nat.not_lt_zero _), fun k hk => absurd hk (Nat.not_lt_zero _), hs, ⟨z655 _ (by decide) (by decide), z655 _ (by decide) (by decide), z655 _ (by decide) (by decide), z655 _ (by decide) (by decide)⟩, fun i _ => uM_hi (by omega) (by omega) (by omega)⟩
  have hO := oD_0 0 T
  have hD := lDr_of hb
  obtain ⟨c1, c2⟩ := land_k hO hD hs bg
  obtain ⟨d1, d2⟩ := land_r hO hb (fun j hj => by rw [uM_hi (b := 684) (by omega) (by omega) (by omega), uM_hi (b := 683) (by omega) (by omega) (by omega)])
  obtain ⟨-, -, -, -, -, b611, b89, b653⟩ := bg
  have fr : xSm (fun b => 655 ≤ b) u1 (uM u1) := fun b i hb => uM_lo (by omega)
  have K1 : kR r2 22 := ⟨hr2, ld22, hr2.ld (Or.inl rfl), (e _ _ (by omega)).trans t52, (e _ _ (by omega)).trans t10, by omega⟩
  refine vS.mk (L := lOf (uM u1)) (l := 22) (l2 := 37) (o := 0) (n := D0.1 2) (e := 0) (σ := uM u1 683) (a := 0) (b := 0) (RS := fun _ => uM u1 683) (h := 0) (t := 0) (Z := fun _ _ => 0) (BF := fun _ => false) (BR := fun _ _ => 0) (m := 0) (Y := fun _ => 0) (N := 0) (T := T) (f := 0) (p := -1) (Nat.le_refl _) ⟨lDr.ok hO hD, lDr.row hO hD hs, fun j _ => rfl, by omega, ⟨by omega, by omega, fun i hi => absurd hi (Nat.not_lt_zero _)⟩, by omega, ⟨by omega, fun i hi => absurd hi (Nat.not_lt_zero _)⟩⟩ ⟨K1, Or.inl ⟨rfl, rfl⟩, (e _ _ (by omega)).trans t11, fun i hi => (if_pos (by omega)).trans (kw i hi)⟩ ⟨c1.kept K1 fr (fun b hb z => by omega), c2.kept fr (fun b h1 h2 z => by omega), ⟨?_, ?_, fun i hi => absurd hi (Nat.not_lt_zero _)⟩, fun i hi => ⟨?_, fun z => by cases z⟩, ⟨?_, fun i hi => absurd hi (Nat.not_lt_zero _)⟩, ⟨?_, fun i hi => absurd hi (Nat.not_lt_zero _)⟩, ?_, ?_⟩ ⟨d1, d2 _, ⟨z655 _ (by decide) (by decide), z655 _ (by decide) (by decide), fun i hi => absurd hi (Nat.not_lt_zero _)⟩, fun i hi => ⟨uM_hi (by omega) (by omega) (by omega), fun z => by cases z⟩, ⟨z655 _ (by decide) (by decide), fun i hi => absurd hi (Nat.not_lt_zero _)⟩, ⟨z655 _ (by decide) (by decide), fun i hi => absurd hi (Nat.not_lt_zero _)⟩, ⟨z655 _ (by decide) (by decide), ?_⟩, rfl⟩
  · rw [fr _ _ (by omega)]; exact b611
  · rw [fr _ _ (by omega)]; exact f5
  · rw [fr _ _ (by omega)]; exact b653 i hi
  · rw [fr _ _ (by omega)]; exact b89
  · rw [fr _ _ (by omega), fb _ _ (by omega)]; rfl
  · rw [fr _ _ (by omega), fb _ _ (by omega)]; rfl
  · rw [fr _ _ (by omega), fb _ _ (by omega)]; rfl
  · exact (x2_i _ _ (by decide)).trans (x2_same _ _ _ _)
theorem L_all (h0 : xpre g 0 < xz g) (hL : xL g ≤ 3072) (hP : ∀ u w r, P (some (.int 1)) u w r) : xEv g (d + 111) (mL nm) 0 [some (.ref 0), none, none, none] [] 8 uZ wZ rZ 698 P := by
  have hZ0 : xZ 8 uZ wZ rZ := fun b i _ => ⟨rfl, rfl, rfl⟩
  refine xe_new (ci := 11) dL_law_0 rfl (show Cond.classLink RL 7 RX11 ∈ xT from xT_at 139 (by decide +kernel) (by decide +kernel)) (xT_at 140 (by decide +kernel) (by decide +kernel)) (xT_at 118 (by decide +kernel) (by decide +kernel)) kk8 hZ0 ?_
  refine xe_dup dL_law_3 rfl ?_
  refine xe_callI (args := []) (P1 := fun rv u1 w1 r1 => rv = none ∧ xRf r1 ∧ r1 8 10 = some 22 ∧ r1 8 11 = some 37 ∧ r1 52 1 = some 22 ∧ kWd w1 ∧ bgn 0 (fun _ => 0) 22 D0 u1 w1 ∧ xSm fBe uP u1 ∧ u1 611 5 = 0) dL_law_4 ilL_9 rfl rfl (Nat.le_of_ble_eq_true rfl) (C_Post (d := d + 104) (N := 0) (T := fun _ => 0) (fun u1 w1 r1 y1 y2 y3 y4 y5 y6 y7 y8 => ⟨rfl, y1, y2, y3, y4, y5, y6, y7, y8⟩)) (Nat.le_of_ble_eq_true rfl) (fun rv1 u1 w1 r1 k => ?_)
  obtain ⟨rfl, hr, t10, t11, t52, kw, bg, fb, f5⟩ := k
  refine xe_astore_n (ls' := [some (.ref 0), some (.ref 8), none, none]) dL_law_7 rfl (by show 1 < 4; omega) rfl ?_
  refine xEv.cg (u' := uLo u1) (w' := wLw w1) (r' := rLow r1) ?_ (fun b i hb => ⟨if_pos hb, if_pos hb, if_pos hb⟩)
  refine xe_new (ci := 12) dL_law_8 rfl (show Cond.classLink RL 10 RX12 ∈ xT from xT_at 1352 (by decide +kernel) (by decide +kernel)) (xT_at 1353 (by decide +kernel) (by decide +kernel)) (xT_at 136 (by decide +kernel) (by decide +kernel)) kk655 cut_Z ?_
  refine xe_dup dL_law_11 rfl ?_
  refine xe_callI (args := []) (P1 := fun rv u2 w2 r2 => rv = none ∧ uM u1 = u2 ∧ wLw w1 = w2 ∧ xAll r2 xRMl ∧ ∀ b i, b < 655 → r2 b i = r1 b i) dL_law_12 ilL_12 rfl rfl (Nat.le_of_ble_eq_true rfl) (C_Model (d := d + 109) (cut_Z.le (Nat.le_succ _)) (fun r2 y1 y2 => ⟨rfl, rfl, rfl, ?_, fun b i hb => (y2 b i (by omega)).trans (if_pos hb)⟩)) (Nat.le_of_ble_eq_true rfl) (fun rv1 u2 w2 r2 k => ?_)
  · obtain ⟨a0, a1, a2, a3, a4, a5, a6, a7, a8, a9, a10, a11, a12, a13, a14, a15, a16, a17, a18, a19, a20, a21, a22, a23, a24, a25, a26, a27, a28, a29, a30, a31, a32, a33, a34, a35, a36, a37, a38, a39, a40, a41⟩ := y1
    exact ⟨a0, a1, a2, a3, a4, a5, a6, a7, a8, a9, a10, a11, a12, a13, a14, a15, a16, a17, a18, a19, a20, a21, a22, a23, a24, a25, a26, a27, a28, a29, a30, a31, a32, a33, a34, a35, a36, a37, a38, a39, a40, a41, trivial⟩
  · obtain ⟨rfl, rfl, rfl, hm, e⟩ := k
    refine xe_astore_n (ls' := [some (.ref 0), some (.ref 8), some (.ref 655), none]) dL_law_15 rfl (by show 2 < 4; omega) rfl ?_
    refine xe_iconst (v := nI 0) dL_law_16 rfl ?_
    refine xe_istore_n (ls' := lL 0) dL_law_17 rfl (by show 3 < 4; omega) rfl ?_
    exact L_loop h0 hL hP 513 0 _ _ _ rfl (v_start hr t10 t11 t52 kw bg fb f5 hm e)
end LAW
