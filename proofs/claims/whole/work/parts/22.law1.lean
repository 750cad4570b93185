/-! ===== the law: what its cases do (laid by program) ===== -/
set_option maxRecDepth 100000 in
set_option maxHeartbeats 4000000 in
theorem J_qL_law_j264 {g : yG} {a : Nat → Nat} {μ ν : zM} {o : zO} {kc ks : Nat} {scL : Int} {scV : Int → Int} {v5 : Int} {rec : zM → Int → Option ((Int ⊕ Unit) × zM)} {R : (Int ⊕ Unit) × zM} (hL : scL = (g.2.2.2.2.1 : Int)) (hLi : y_in scL) (hV : ∀ i : Int, 0 ≤ i → g.2.2.2.2.2 i.toNat = scV i) (hVi : ∀ i, y_in (scV i)) (hr : ∀ (x : Int) (m : zM), R = (.inl x, m) → o = .inl (some (zi x)) ∧ ν = m) (he : ∀ (tz : Unit) (m : zM), R = (.inr tz, m) → Z g a mL_law 2038 0 0 2466 [some (zr 1050), some (zr 0), some (zr 142), some (zr 156), some (zr 157), none, none, none, none] [] m o ν) (hrec : ∀ (μ : zM) (v5 : Int), rec μ v5 = some R → Z g a mL_law 2038 kc ks 28 [some (zr 1050), some (zr 0), some (zr 142), some (zr 156), some (zr 157), some (zi v5), none, none, none] [] μ o ν) (hq : qL_law_j264 rec scL scV μ v5 = some R) : Z g a mL_law 2038 (kc + 2) (ks + 12) 264 [some (zr 1050), some (zr 0), some (zr 142), some (zr 156), some (zr 157), some (zi v5), none, none, none] [] μ o ν := by
  unfold qL_law_j264 at hq
  refine z_aload_n 265 dL_law_264 rfl rfl ?_
  refine z_aload_n 266 dL_law_265 rfl rfl ?_
  refine z_iload 268 dL_law_266 rfl rfl ?_
  refine z_iconst 269 dL_law_268 rfl (by decide) ?_
  refine z_iadd (r := (wr (v5 + 1))) 270 dL_law_269 rfl rfl ?_
  obtain ⟨hg270, hq⟩ := z_g hq
  refine z_sld 271 dL_law_270 rfl ⟨hg270.1, hL ▸ hg270.2⟩ (hV _ hg270.1) (hVi _) ?_
  refine z_aload_n 272 dL_law_271 rfl rfl ?_
  refine z_iload 274 dL_law_272 rfl rfl ?_
  refine z_iconst 275 dL_law_274 rfl (by decide) ?_
  refine z_iadd (r := (wr (v5 + 2))) 276 dL_law_275 rfl rfl ?_
  obtain ⟨hg276, hq⟩ := z_g hq
  refine z_sld 277 dL_law_276 rfl ⟨hg276.1, hL ▸ hg276.2⟩ (hV _ hg276.1) (hVi _) ?_
  refine z_aload_n 278 dL_law_277 rfl rfl ?_
  obtain ⟨a1, m1, h1, hq⟩ := bnd2_some hq
  refine z_callSH1 (as := [zr 0, zi (scV (wr (v5 + 1))), zi (scV (wr (v5 + 2))), zr 156]) (S := []) (kc := kc + 1) (ks := ks + 6) 281 dL_law_278 rfl (Q_qL_addFlat h1) kL_addFlat l_RL_135 rfl rfl rfl rfl rfl rfl rfl ?_
  refine z_istore (L' := [some (zr 1050), some (zr 0), some (zr 142), some (zr 156), some (zr 157), some (zi v5), some (zi a1), none, none]) 283 dL_law_281 rfl rfl rfl rfl ?_
  refine z_aload_n 284 dL_law_283 rfl rfl ?_
  refine z_aload_n 285 dL_law_284 rfl rfl ?_
  refine z_iload 287 dL_law_285 rfl rfl ?_
  refine z_iconst 288 dL_law_287 rfl (by decide) ?_
  refine z_iadd (r := (wr (v5 + 1))) 289 dL_law_288 rfl rfl ?_
  obtain ⟨hg289, hq⟩ := z_g hq
  refine z_sld 290 dL_law_289 rfl ⟨hg289.1, hL ▸ hg289.2⟩ (hV _ hg289.1) (hVi _) ?_
  refine z_aload_n 291 dL_law_290 rfl rfl ?_
  refine z_iload 293 dL_law_291 rfl rfl ?_
  refine z_iconst 294 dL_law_293 rfl (by decide) ?_
  refine z_iadd (r := (wr (v5 + 2))) 295 dL_law_294 rfl rfl ?_
  obtain ⟨hg295, hq⟩ := z_g hq
  refine z_sld 296 dL_law_295 rfl ⟨hg295.1, hL ▸ hg295.2⟩ (hV _ hg295.1) (hVi _) ?_
  obtain ⟨a2, m2, h2, hq⟩ := bnd2_some hq
  refine z_callV1 (as := [zi (scV (wr (v5 + 1))), zi (scV (wr (v5 + 2)))]) (S := []) 299 dL_law_296 rfl (Q_qM_addFlat  h2) kX10_addFlat ⟨_, _, rfl⟩ ar_142 l_RL_140 rfl rfl rfl rfl rfl rfl rfl ?_
  refine z_istore (L' := [some (zr 1050), some (zr 0), some (zr 142), some (zr 156), some (zr 157), some (zi v5), some (zi a1), some (zi a2), none]) 301 dL_law_299 rfl rfl rfl rfl ?_
  refine z_aload_n 302 dL_law_301 rfl rfl ?_
  obtain ⟨a3, h3, hq⟩ := z_b hq
  refine z_callV1 (as := []) (S := []) 305 dL_law_302 rfl (Q_qM_thrown  h3) kX10_thrown ⟨_, _, rfl⟩ ar_142 l_RL_141 rfl rfl rfl rfl rfl rfl rfl ?_
  refine z_iload 307 dL_law_305 rfl rfl ?_
  refine z_icmp_eq 312 310 dL_law_307 rfl rfl (fun hc => ?_) (fun hc => ?_)
  · replace hq := z_ip hq hc
    refine z_iload 314 dL_law_312 rfl rfl ?_
    refine z_if_ne 329 317 dL_law_314 rfl rfl (fun hc => ?_) (fun hc => ?_)
    · replace hq := z_in hq hc
      refine z_goto 2460 dL_law_329 rfl ?_
      refine z_iinc (r := (wr (v5 + 5))) (L' := [some (zr 1050), some (zr 0), some (zr 142), some (zr 156), some (zr 157), some (zi (wr (v5 + 5))), some (zi a1), some (zi a2), none]) 2463 dL_law_2460 rfl rfl rfl rfl rfl rfl ?_
      refine z_goto 28 dL_law_2463 rfl ?_
      exact z_mono (by omega) (by omega) (Z.sub (zle_s (zle_s (zle_s (zle_s (zle_s (zle_s (zle_n (zle_n (zle_n zle_nil))))))))) (hrec _ _ hq))
    · replace hq := z_ip hq hc
      refine z_aload_n 318 dL_law_317 rfl rfl ?_
      refine z_iconst 319 dL_law_318 rfl (by decide) ?_
      refine z_laload (x := (m2 156 0)) 320 dL_law_319 rfl ar_156 ⟨by decide, by decide⟩ rfl ?_
      refine z_iload 322 dL_law_320 rfl rfl ?_
      refine z_i2l 323 dL_law_322 rfl ?_
      refine z_lcmp 324 dL_law_323 rfl ?_
      refine z_if_eq 329 327 dL_law_324 rfl rfl (fun hc => ?_) (fun hc => ?_)
      · replace hq := z_ip hq hc
        refine z_goto 2460 dL_law_329 rfl ?_
        refine z_iinc (r := (wr (v5 + 5))) (L' := [some (zr 1050), some (zr 0), some (zr 142), some (zr 156), some (zr 157), some (zi (wr (v5 + 5))), some (zi a1), some (zi a2), none]) 2463 dL_law_2460 rfl rfl rfl rfl rfl rfl ?_
        refine z_goto 28 dL_law_2463 rfl ?_
        exact z_mono (by omega) (by omega) (Z.sub (zle_s (zle_s (zle_s (zle_s (zle_s (zle_s (zle_n (zle_n (zle_n zle_nil))))))))) (hrec _ _ hq))
      · replace hq := z_in hq hc
        refine z_iconst 328 dL_law_327 rfl (by decide) ?_
        obtain ⟨ho, hv⟩ := hr _ _ (Option.some.inj hq).symm
        exact z_conv ho hv (z_zreturn rfl dL_law_328 (by decide))
  · replace hq := z_in hq hc
    refine z_iconst 311 dL_law_310 rfl (by decide) ?_
    obtain ⟨ho, hv⟩ := hr _ _ (Option.some.inj hq).symm
    exact z_conv ho hv (z_zreturn rfl dL_law_311 (by decide))
set_option maxRecDepth 100000 in
set_option maxHeartbeats 4000000 in
theorem J_qL_law_j332 {g : yG} {a : Nat → Nat} {μ ν : zM} {o : zO} {kc ks : Nat} {scL : Int} {scV : Int → Int} {v5 : Int} {rec : zM → Int → Option ((Int ⊕ Unit) × zM)} {R : (Int ⊕ Unit) × zM} (hL : scL = (g.2.2.2.2.1 : Int)) (hLi : y_in scL) (hV : ∀ i : Int, 0 ≤ i → g.2.2.2.2.2 i.toNat = scV i) (hVi : ∀ i, y_in (scV i)) (hr : ∀ (x : Int) (m : zM), R = (.inl x, m) → o = .inl (some (zi x)) ∧ ν = m) (he : ∀ (tz : Unit) (m : zM), R = (.inr tz, m) → Z g a mL_law 2038 0 0 2466 [some (zr 1050), some (zr 0), some (zr 142), some (zr 156), some (zr 157), none, none, none, none] [] m o ν) (hrec : ∀ (μ : zM) (v5 : Int), rec μ v5 = some R → Z g a mL_law 2038 kc ks 28 [some (zr 1050), some (zr 0), some (zr 142), some (zr 156), some (zr 157), some (zi v5), none, none, none] [] μ o ν) (hq : qL_law_j332 rec scL scV μ v5 = some R) : Z g a mL_law 2038 (kc + 2) (ks + 12) 332 [some (zr 1050), some (zr 0), some (zr 142), some (zr 156), some (zr 157), some (zi v5), none, none, none] [] μ o ν := by
  unfold qL_law_j332 at hq
  refine z_aload_n 333 dL_law_332 rfl rfl ?_
  refine z_aload_n 334 dL_law_333 rfl rfl ?_
  refine z_iload 336 dL_law_334 rfl rfl ?_
  refine z_iconst 337 dL_law_336 rfl (by decide) ?_
  refine z_iadd (r := (wr (v5 + 1))) 338 dL_law_337 rfl rfl ?_
  obtain ⟨hg338, hq⟩ := z_g hq
  refine z_sld 339 dL_law_338 rfl ⟨hg338.1, hL ▸ hg338.2⟩ (hV _ hg338.1) (hVi _) ?_
  refine z_aload_n 340 dL_law_339 rfl rfl ?_
  refine z_iload 342 dL_law_340 rfl rfl ?_
  refine z_iconst 343 dL_law_342 rfl (by decide) ?_
  refine z_iadd (r := (wr (v5 + 2))) 344 dL_law_343 rfl rfl ?_
  obtain ⟨hg344, hq⟩ := z_g hq
  refine z_sld 345 dL_law_344 rfl ⟨hg344.1, hL ▸ hg344.2⟩ (hV _ hg344.1) (hVi _) ?_
  refine z_aload_n 346 dL_law_345 rfl rfl ?_
  refine z_iload 348 dL_law_346 rfl rfl ?_
  refine z_iconst 349 dL_law_348 rfl (by decide) ?_
  refine z_iadd (r := (wr (v5 + 3))) 350 dL_law_349 rfl rfl ?_
  obtain ⟨hg350, hq⟩ := z_g hq
  refine z_sld 351 dL_law_350 rfl ⟨hg350.1, hL ▸ hg350.2⟩ (hV _ hg350.1) (hVi _) ?_
  refine z_aload_n 352 dL_law_351 rfl rfl ?_
  refine z_iload 354 dL_law_352 rfl rfl ?_
  refine z_iconst 355 dL_law_354 rfl (by decide) ?_
  refine z_iadd (r := (wr (v5 + 4))) 356 dL_law_355 rfl rfl ?_
  obtain ⟨hg356, hq⟩ := z_g hq
  refine z_sld 357 dL_law_356 rfl ⟨hg356.1, hL ▸ hg356.2⟩ (hV _ hg356.1) (hVi _) ?_
  refine z_aload_n 358 dL_law_357 rfl rfl ?_
  obtain ⟨a4, m4, h4, hq⟩ := bnd2_some hq
  refine z_callSH1 (as := [zr 0, zi (scV (wr (v5 + 1))), zi (scV (wr (v5 + 2))), zi (scV (wr (v5 + 3))), zi (scV (wr (v5 + 4))), zr 156]) (S := []) (kc := kc + 1) (ks := ks + 6) 361 dL_law_358 rfl (Q_qL_addTenant h4) kL_addTenant l_RL_144 rfl rfl rfl rfl rfl rfl rfl ?_
  refine z_istore (L' := [some (zr 1050), some (zr 0), some (zr 142), some (zr 156), some (zr 157), some (zi v5), some (zi a4), none, none]) 363 dL_law_361 rfl rfl rfl rfl ?_
  refine z_aload_n 364 dL_law_363 rfl rfl ?_
  refine z_aload_n 365 dL_law_364 rfl rfl ?_
  refine z_iload 367 dL_law_365 rfl rfl ?_
  refine z_iconst 368 dL_law_367 rfl (by decide) ?_
  refine z_iadd (r := (wr (v5 + 1))) 369 dL_law_368 rfl rfl ?_
  obtain ⟨hg369, hq⟩ := z_g hq
  refine z_sld 370 dL_law_369 rfl ⟨hg369.1, hL ▸ hg369.2⟩ (hV _ hg369.1) (hVi _) ?_
  refine z_aload_n 371 dL_law_370 rfl rfl ?_
  refine z_iload 373 dL_law_371 rfl rfl ?_
  refine z_iconst 374 dL_law_373 rfl (by decide) ?_
  refine z_iadd (r := (wr (v5 + 2))) 375 dL_law_374 rfl rfl ?_
  obtain ⟨hg375, hq⟩ := z_g hq
  refine z_sld 376 dL_law_375 rfl ⟨hg375.1, hL ▸ hg375.2⟩ (hV _ hg375.1) (hVi _) ?_
  refine z_aload_n 377 dL_law_376 rfl rfl ?_
  refine z_iload 379 dL_law_377 rfl rfl ?_
  refine z_iconst 380 dL_law_379 rfl (by decide) ?_
  refine z_iadd (r := (wr (v5 + 3))) 381 dL_law_380 rfl rfl ?_
  obtain ⟨hg381, hq⟩ := z_g hq
  refine z_sld 382 dL_law_381 rfl ⟨hg381.1, hL ▸ hg381.2⟩ (hV _ hg381.1) (hVi _) ?_
  refine z_aload_n 383 dL_law_382 rfl rfl ?_
  refine z_iload 385 dL_law_383 rfl rfl ?_
  refine z_iconst 386 dL_law_385 rfl (by decide) ?_
  refine z_iadd (r := (wr (v5 + 4))) 387 dL_law_386 rfl rfl ?_
  obtain ⟨hg387, hq⟩ := z_g hq
  refine z_sld 388 dL_law_387 rfl ⟨hg387.1, hL ▸ hg387.2⟩ (hV _ hg387.1) (hVi _) ?_
  obtain ⟨a5, m5, h5, hq⟩ := bnd2_some hq
  refine z_callV1 (as := [zi (scV (wr (v5 + 1))), zi (scV (wr (v5 + 2))), zi (scV (wr (v5 + 3))), zi (scV (wr (v5 + 4)))]) (S := []) 391 dL_law_388 rfl (Q_qM_addTenant  h5) kX10_addTenant ⟨_, _, rfl⟩ ar_142 l_RL_147 rfl rfl rfl rfl rfl rfl rfl ?_
  refine z_istore (L' := [some (zr 1050), some (zr 0), some (zr 142), some (zr 156), some (zr 157), some (zi v5), some (zi a4), some (zi a5), none]) 393 dL_law_391 rfl rfl rfl rfl ?_
  refine z_aload_n 394 dL_law_393 rfl rfl ?_
  obtain ⟨a6, h6, hq⟩ := z_b hq
  refine z_callV1 (as := []) (S := []) 397 dL_law_394 rfl (Q_qM_thrown  h6) kX10_thrown ⟨_, _, rfl⟩ ar_142 l_RL_141 rfl rfl rfl rfl rfl rfl rfl ?_
  refine z_iload 399 dL_law_397 rfl rfl ?_
  refine z_icmp_eq 404 402 dL_law_399 rfl rfl (fun hc => ?_) (fun hc => ?_)
  · replace hq := z_ip hq hc
    refine z_iload 406 dL_law_404 rfl rfl ?_
    refine z_if_ne 421 409 dL_law_406 rfl rfl (fun hc => ?_) (fun hc => ?_)
    · replace hq := z_in hq hc
      refine z_goto 2460 dL_law_421 rfl ?_
      refine z_iinc (r := (wr (v5 + 5))) (L' := [some (zr 1050), some (zr 0), some (zr 142), some (zr 156), some (zr 157), some (zi (wr (v5 + 5))), some (zi a4), some (zi a5), none]) 2463 dL_law_2460 rfl rfl rfl rfl rfl rfl ?_
      refine z_goto 28 dL_law_2463 rfl ?_
      exact z_mono (by omega) (by omega) (Z.sub (zle_s (zle_s (zle_s (zle_s (zle_s (zle_s (zle_n (zle_n (zle_n zle_nil))))))))) (hrec _ _ hq))
    · replace hq := z_ip hq hc
      refine z_aload_n 410 dL_law_409 rfl rfl ?_
      refine z_iconst 411 dL_law_410 rfl (by decide) ?_
      refine z_laload (x := (m5 156 0)) 412 dL_law_411 rfl ar_156 ⟨by decide, by decide⟩ rfl ?_
      refine z_iload 414 dL_law_412 rfl rfl ?_
      refine z_i2l 415 dL_law_414 rfl ?_
      refine z_lcmp 416 dL_law_415 rfl ?_
      refine z_if_eq 421 419 dL_law_416 rfl rfl (fun hc => ?_) (fun hc => ?_)
      · replace hq := z_ip hq hc
        refine z_goto 2460 dL_law_421 rfl ?_
        refine z_iinc (r := (wr (v5 + 5))) (L' := [some (zr 1050), some (zr 0), some (zr 142), some (zr 156), some (zr 157), some (zi (wr (v5 + 5))), some (zi a4), some (zi a5), none]) 2463 dL_law_2460 rfl rfl rfl rfl rfl rfl ?_
        refine z_goto 28 dL_law_2463 rfl ?_
        exact z_mono (by omega) (by omega) (Z.sub (zle_s (zle_s (zle_s (zle_s (zle_s (zle_s (zle_n (zle_n (zle_n zle_nil))))))))) (hrec _ _ hq))
      · replace hq := z_in hq hc
        refine z_iconst 420 dL_law_419 rfl (by decide) ?_
        obtain ⟨ho, hv⟩ := hr _ _ (Option.some.inj hq).symm
        exact z_conv ho hv (z_zreturn rfl dL_law_420 (by decide))
  · replace hq := z_in hq hc
    refine z_iconst 403 dL_law_402 rfl (by decide) ?_
    obtain ⟨ho, hv⟩ := hr _ _ (Option.some.inj hq).symm
    exact z_conv ho hv (z_zreturn rfl dL_law_403 (by decide))
set_option maxRecDepth 100000 in
set_option maxHeartbeats 4000000 in
theorem J_qL_law_j424 {g : yG} {a : Nat → Nat} {μ ν : zM} {o : zO} {kc ks : Nat} {scL : Int} {scV : Int → Int} {v5 : Int} {rec : zM → Int → Option ((Int ⊕ Unit) × zM)} {R : (Int ⊕ Unit) × zM} (hL : scL = (g.2.2.2.2.1 : Int)) (hLi : y_in scL) (hV : ∀ i : Int, 0 ≤ i → g.2.2.2.2.2 i.toNat = scV i) (hVi : ∀ i, y_in (scV i)) (hr : ∀ (x : Int) (m : zM), R = (.inl x, m) → o = .inl (some (zi x)) ∧ ν = m) (he : ∀ (tz : Unit) (m : zM), R = (.inr tz, m) → Z g a mL_law 2038 0 0 2466 [some (zr 1050), some (zr 0), some (zr 142), some (zr 156), some (zr 157), none, none, none, none] [] m o ν) (hrec : ∀ (μ : zM) (v5 : Int), rec μ v5 = some R → Z g a mL_law 2038 kc ks 28 [some (zr 1050), some (zr 0), some (zr 142), some (zr 156), some (zr 157), some (zi v5), none, none, none] [] μ o ν) (hq : qL_law_j424 rec scL scV μ v5 = some R) : Z g a mL_law 2038 (kc + 2) (ks + 12) 424 [some (zr 1050), some (zr 0), some (zr 142), some (zr 156), some (zr 157), some (zi v5), none, none, none] [] μ o ν := by
  unfold qL_law_j424 at hq
  refine z_aload_n 425 dL_law_424 rfl rfl ?_
  refine z_aload_n 426 dL_law_425 rfl rfl ?_
  refine z_iload 428 dL_law_426 rfl rfl ?_
  refine z_iconst 429 dL_law_428 rfl (by decide) ?_
  refine z_iadd (r := (wr (v5 + 1))) 430 dL_law_429 rfl rfl ?_
  obtain ⟨hg430, hq⟩ := z_g hq
  refine z_sld 431 dL_law_430 rfl ⟨hg430.1, hL ▸ hg430.2⟩ (hV _ hg430.1) (hVi _) ?_
  refine z_aload_n 432 dL_law_431 rfl rfl ?_
  obtain ⟨a7, m7, h7, hq⟩ := bnd2_some hq
  refine z_callSH1 (as := [zr 0, zi (scV (wr (v5 + 1))), zr 156]) (S := []) (kc := kc + 1) (ks := ks + 6) 435 dL_law_432 rfl (Q_qL_removeTenant h7) kL_removeTenant l_RL_148 rfl rfl rfl rfl rfl rfl rfl ?_
  refine z_istore (L' := [some (zr 1050), some (zr 0), some (zr 142), some (zr 156), some (zr 157), some (zi v5), some (zi a7), none, none]) 437 dL_law_435 rfl rfl rfl rfl ?_
  refine z_aload_n 438 dL_law_437 rfl rfl ?_
  refine z_aload_n 439 dL_law_438 rfl rfl ?_
  refine z_iload 441 dL_law_439 rfl rfl ?_
  refine z_iconst 442 dL_law_441 rfl (by decide) ?_
  refine z_iadd (r := (wr (v5 + 1))) 443 dL_law_442 rfl rfl ?_
  obtain ⟨hg443, hq⟩ := z_g hq
  refine z_sld 444 dL_law_443 rfl ⟨hg443.1, hL ▸ hg443.2⟩ (hV _ hg443.1) (hVi _) ?_
  obtain ⟨a8, m8, h8, hq⟩ := bnd2_some hq
  refine z_callV1 (as := [zi (scV (wr (v5 + 1)))]) (S := []) 447 dL_law_444 rfl (Q_qM_removeTenant  h8) kX10_removeTenant ⟨_, _, rfl⟩ ar_142 l_RL_151 rfl rfl rfl rfl rfl rfl rfl ?_
  refine z_istore (L' := [some (zr 1050), some (zr 0), some (zr 142), some (zr 156), some (zr 157), some (zi v5), some (zi a7), some (zi a8), none]) 449 dL_law_447 rfl rfl rfl rfl ?_
  refine z_aload_n 450 dL_law_449 rfl rfl ?_
  obtain ⟨a9, h9, hq⟩ := z_b hq
  refine z_callV1 (as := []) (S := []) 453 dL_law_450 rfl (Q_qM_thrown  h9) kX10_thrown ⟨_, _, rfl⟩ ar_142 l_RL_141 rfl rfl rfl rfl rfl rfl rfl ?_
  refine z_iload 455 dL_law_453 rfl rfl ?_
  refine z_icmp_eq 460 458 dL_law_455 rfl rfl (fun hc => ?_) (fun hc => ?_)
  · replace hq := z_ip hq hc
    refine z_iload 462 dL_law_460 rfl rfl ?_
    refine z_if_ne 477 465 dL_law_462 rfl rfl (fun hc => ?_) (fun hc => ?_)
    · replace hq := z_in hq hc
      refine z_goto 2460 dL_law_477 rfl ?_
      refine z_iinc (r := (wr (v5 + 5))) (L' := [some (zr 1050), some (zr 0), some (zr 142), some (zr 156), some (zr 157), some (zi (wr (v5 + 5))), some (zi a7), some (zi a8), none]) 2463 dL_law_2460 rfl rfl rfl rfl rfl rfl ?_
      refine z_goto 28 dL_law_2463 rfl ?_
      exact z_mono (by omega) (by omega) (Z.sub (zle_s (zle_s (zle_s (zle_s (zle_s (zle_s (zle_n (zle_n (zle_n zle_nil))))))))) (hrec _ _ hq))
    · replace hq := z_ip hq hc
      refine z_aload_n 466 dL_law_465 rfl rfl ?_
      refine z_iconst 467 dL_law_466 rfl (by decide) ?_
      refine z_laload (x := (m8 156 0)) 468 dL_law_467 rfl ar_156 ⟨by decide, by decide⟩ rfl ?_
      refine z_iload 470 dL_law_468 rfl rfl ?_
      refine z_i2l 471 dL_law_470 rfl ?_
      refine z_lcmp 472 dL_law_471 rfl ?_
      refine z_if_eq 477 475 dL_law_472 rfl rfl (fun hc => ?_) (fun hc => ?_)
      · replace hq := z_ip hq hc
        refine z_goto 2460 dL_law_477 rfl ?_
        refine z_iinc (r := (wr (v5 + 5))) (L' := [some (zr 1050), some (zr 0), some (zr 142), some (zr 156), some (zr 157), some (zi (wr (v5 + 5))), some (zi a7), some (zi a8), none]) 2463 dL_law_2460 rfl rfl rfl rfl rfl rfl ?_
        refine z_goto 28 dL_law_2463 rfl ?_
        exact z_mono (by omega) (by omega) (Z.sub (zle_s (zle_s (zle_s (zle_s (zle_s (zle_s (zle_n (zle_n (zle_n zle_nil))))))))) (hrec _ _ hq))
      · replace hq := z_in hq hc
        refine z_iconst 476 dL_law_475 rfl (by decide) ?_
        obtain ⟨ho, hv⟩ := hr _ _ (Option.some.inj hq).symm
        exact z_conv ho hv (z_zreturn rfl dL_law_476 (by decide))
  · replace hq := z_in hq hc
    refine z_iconst 459 dL_law_458 rfl (by decide) ?_
    obtain ⟨ho, hv⟩ := hr _ _ (Option.some.inj hq).symm
    exact z_conv ho hv (z_zreturn rfl dL_law_459 (by decide))
set_option maxRecDepth 100000 in
set_option maxHeartbeats 4000000 in
theorem J_qL_law_j480 {g : yG} {a : Nat → Nat} {μ ν : zM} {o : zO} {kc ks : Nat} {scL : Int} {scV : Int → Int} {v5 : Int} {rec : zM → Int → Option ((Int ⊕ Unit) × zM)} {R : (Int ⊕ Unit) × zM} (hL : scL = (g.2.2.2.2.1 : Int)) (hLi : y_in scL) (hV : ∀ i : Int, 0 ≤ i → g.2.2.2.2.2 i.toNat = scV i) (hVi : ∀ i, y_in (scV i)) (hr : ∀ (x : Int) (m : zM), R = (.inl x, m) → o = .inl (some (zi x)) ∧ ν = m) (he : ∀ (tz : Unit) (m : zM), R = (.inr tz, m) → Z g a mL_law 2038 0 0 2466 [some (zr 1050), some (zr 0), some (zr 142), some (zr 156), some (zr 157), none, none, none, none] [] m o ν) (hrec : ∀ (μ : zM) (v5 : Int), rec μ v5 = some R → Z g a mL_law 2038 kc ks 28 [some (zr 1050), some (zr 0), some (zr 142), some (zr 156), some (zr 157), some (zi v5), none, none, none] [] μ o ν) (hq : qL_law_j480 rec scL scV μ v5 = some R) : Z g a mL_law 2038 (kc + 2) (ks + 12) 480 [some (zr 1050), some (zr 0), some (zr 142), some (zr 156), some (zr 157), some (zi v5), none, none, none] [] μ o ν := by
  unfold qL_law_j480 at hq
  refine z_aload_n 481 dL_law_480 rfl rfl ?_
  refine z_aload_n 482 dL_law_481 rfl rfl ?_
  refine z_iload 484 dL_law_482 rfl rfl ?_
  refine z_iconst 485 dL_law_484 rfl (by decide) ?_
  refine z_iadd (r := (wr (v5 + 1))) 486 dL_law_485 rfl rfl ?_
  obtain ⟨hg486, hq⟩ := z_g hq
  refine z_sld 487 dL_law_486 rfl ⟨hg486.1, hL ▸ hg486.2⟩ (hV _ hg486.1) (hVi _) ?_
  refine z_aload_n 488 dL_law_487 rfl rfl ?_
  refine z_iload 490 dL_law_488 rfl rfl ?_
  refine z_iconst 491 dL_law_490 rfl (by decide) ?_
  refine z_iadd (r := (wr (v5 + 2))) 492 dL_law_491 rfl rfl ?_
  obtain ⟨hg492, hq⟩ := z_g hq
  refine z_sld 493 dL_law_492 rfl ⟨hg492.1, hL ▸ hg492.2⟩ (hV _ hg492.1) (hVi _) ?_
  refine z_aload_n 494 dL_law_493 rfl rfl ?_
  obtain ⟨a10, m10, h10, hq⟩ := bnd2_some hq
  refine z_callSH1 (as := [zr 0, zi (scV (wr (v5 + 1))), zi (scV (wr (v5 + 2))), zr 156]) (S := []) (kc := kc + 1) (ks := ks + 6) 497 dL_law_494 rfl (Q_qL_moveIn h10) kL_moveIn l_RL_152 rfl rfl rfl rfl rfl rfl rfl ?_
  refine z_istore (L' := [some (zr 1050), some (zr 0), some (zr 142), some (zr 156), some (zr 157), some (zi v5), some (zi a10), none, none]) 499 dL_law_497 rfl rfl rfl rfl ?_
  refine z_aload_n 500 dL_law_499 rfl rfl ?_
  refine z_aload_n 501 dL_law_500 rfl rfl ?_
  refine z_iload 503 dL_law_501 rfl rfl ?_
  refine z_iconst 504 dL_law_503 rfl (by decide) ?_
  refine z_iadd (r := (wr (v5 + 1))) 505 dL_law_504 rfl rfl ?_
  obtain ⟨hg505, hq⟩ := z_g hq
  refine z_sld 506 dL_law_505 rfl ⟨hg505.1, hL ▸ hg505.2⟩ (hV _ hg505.1) (hVi _) ?_
  refine z_aload_n 507 dL_law_506 rfl rfl ?_
  refine z_iload 509 dL_law_507 rfl rfl ?_
  refine z_iconst 510 dL_law_509 rfl (by decide) ?_
  refine z_iadd (r := (wr (v5 + 2))) 511 dL_law_510 rfl rfl ?_
  obtain ⟨hg511, hq⟩ := z_g hq
  refine z_sld 512 dL_law_511 rfl ⟨hg511.1, hL ▸ hg511.2⟩ (hV _ hg511.1) (hVi _) ?_
  obtain ⟨a11, m11, h11, hq⟩ := bnd2_some hq
  refine z_callV1 (as := [zi (scV (wr (v5 + 1))), zi (scV (wr (v5 + 2)))]) (S := []) 515 dL_law_512 rfl (Q_qM_moveIn  h11) kX10_moveIn ⟨_, _, rfl⟩ ar_142 l_RL_154 rfl rfl rfl rfl rfl rfl rfl ?_
  refine z_istore (L' := [some (zr 1050), some (zr 0), some (zr 142), some (zr 156), some (zr 157), some (zi v5), some (zi a10), some (zi a11), none]) 517 dL_law_515 rfl rfl rfl rfl ?_
  refine z_aload_n 518 dL_law_517 rfl rfl ?_
  obtain ⟨a12, h12, hq⟩ := z_b hq
  refine z_callV1 (as := []) (S := []) 521 dL_law_518 rfl (Q_qM_thrown  h12) kX10_thrown ⟨_, _, rfl⟩ ar_142 l_RL_141 rfl rfl rfl rfl rfl rfl rfl ?_
  refine z_iload 523 dL_law_521 rfl rfl ?_
  refine z_icmp_eq 528 526 dL_law_523 rfl rfl (fun hc => ?_) (fun hc => ?_)
  · replace hq := z_ip hq hc
    refine z_iload 530 dL_law_528 rfl rfl ?_
    refine z_if_ne 545 533 dL_law_530 rfl rfl (fun hc => ?_) (fun hc => ?_)
    · replace hq := z_in hq hc
      refine z_goto 2460 dL_law_545 rfl ?_
      refine z_iinc (r := (wr (v5 + 5))) (L' := [some (zr 1050), some (zr 0), some (zr 142), some (zr 156), some (zr 157), some (zi (wr (v5 + 5))), some (zi a10), some (zi a11), none]) 2463 dL_law_2460 rfl rfl rfl rfl rfl rfl ?_
      refine z_goto 28 dL_law_2463 rfl ?_
      exact z_mono (by omega) (by omega) (Z.sub (zle_s (zle_s (zle_s (zle_s (zle_s (zle_s (zle_n (zle_n (zle_n zle_nil))))))))) (hrec _ _ hq))
    · replace hq := z_ip hq hc
      refine z_aload_n 534 dL_law_533 rfl rfl ?_
      refine z_iconst 535 dL_law_534 rfl (by decide) ?_
      refine z_laload (x := (m11 156 0)) 536 dL_law_535 rfl ar_156 ⟨by decide, by decide⟩ rfl ?_
      refine z_iload 538 dL_law_536 rfl rfl ?_
      refine z_i2l 539 dL_law_538 rfl ?_
      refine z_lcmp 540 dL_law_539 rfl ?_
      refine z_if_eq 545 543 dL_law_540 rfl rfl (fun hc => ?_) (fun hc => ?_)
      · replace hq := z_ip hq hc
        refine z_goto 2460 dL_law_545 rfl ?_
        refine z_iinc (r := (wr (v5 + 5))) (L' := [some (zr 1050), some (zr 0), some (zr 142), some (zr 156), some (zr 157), some (zi (wr (v5 + 5))), some (zi a10), some (zi a11), none]) 2463 dL_law_2460 rfl rfl rfl rfl rfl rfl ?_
        refine z_goto 28 dL_law_2463 rfl ?_
        exact z_mono (by omega) (by omega) (Z.sub (zle_s (zle_s (zle_s (zle_s (zle_s (zle_s (zle_n (zle_n (zle_n zle_nil))))))))) (hrec _ _ hq))
      · replace hq := z_in hq hc
        refine z_iconst 544 dL_law_543 rfl (by decide) ?_
        obtain ⟨ho, hv⟩ := hr _ _ (Option.some.inj hq).symm
        exact z_conv ho hv (z_zreturn rfl dL_law_544 (by decide))
  · replace hq := z_in hq hc
    refine z_iconst 527 dL_law_526 rfl (by decide) ?_
    obtain ⟨ho, hv⟩ := hr _ _ (Option.some.inj hq).symm
    exact z_conv ho hv (z_zreturn rfl dL_law_527 (by decide))
set_option maxRecDepth 100000 in
set_option maxHeartbeats 4000000 in
theorem J_qL_law_j548 {g : yG} {a : Nat → Nat} {μ ν : zM} {o : zO} {kc ks : Nat} {scL : Int} {scV : Int → Int} {v5 : Int} {rec : zM → Int → Option ((Int ⊕ Unit) × zM)} {R : (Int ⊕ Unit) × zM} (hL : scL = (g.2.2.2.2.1 : Int)) (hLi : y_in scL) (hV : ∀ i : Int, 0 ≤ i → g.2.2.2.2.2 i.toNat = scV i) (hVi : ∀ i, y_in (scV i)) (hr : ∀ (x : Int) (m : zM), R = (.inl x, m) → o = .inl (some (zi x)) ∧ ν = m) (he : ∀ (tz : Unit) (m : zM), R = (.inr tz, m) → Z g a mL_law 2038 0 0 2466 [some (zr 1050), some (zr 0), some (zr 142), some (zr 156), some (zr 157), none, none, none, none] [] m o ν) (hrec : ∀ (μ : zM) (v5 : Int), rec μ v5 = some R → Z g a mL_law 2038 kc ks 28 [some (zr 1050), some (zr 0), some (zr 142), some (zr 156), some (zr 157), some (zi v5), none, none, none] [] μ o ν) (hq : qL_law_j548 rec scL scV μ v5 = some R) : Z g a mL_law 2038 (kc + 2) (ks + 12) 548 [some (zr 1050), some (zr 0), some (zr 142), some (zr 156), some (zr 157), some (zi v5), none, none, none] [] μ o ν := by
  unfold qL_law_j548 at hq
  refine z_aload_n 549 dL_law_548 rfl rfl ?_
  refine z_aload_n 550 dL_law_549 rfl rfl ?_
  refine z_iload 552 dL_law_550 rfl rfl ?_
  refine z_iconst 553 dL_law_552 rfl (by decide) ?_
  refine z_iadd (r := (wr (v5 + 1))) 554 dL_law_553 rfl rfl ?_
  obtain ⟨hg554, hq⟩ := z_g hq
  refine z_sld 555 dL_law_554 rfl ⟨hg554.1, hL ▸ hg554.2⟩ (hV _ hg554.1) (hVi _) ?_
  refine z_aload_n 556 dL_law_555 rfl rfl ?_
  obtain ⟨a13, m13, h13, hq⟩ := bnd2_some hq
  refine z_callSH1 (as := [zr 0, zi (scV (wr (v5 + 1))), zr 156]) (S := []) (kc := kc + 1) (ks := ks + 6) 559 dL_law_556 rfl (Q_qL_moveOut h13) kL_moveOut l_RL_155 rfl rfl rfl rfl rfl rfl rfl ?_
  refine z_istore (L' := [some (zr 1050), some (zr 0), some (zr 142), some (zr 156), some (zr 157), some (zi v5), some (zi a13), none, none]) 561 dL_law_559 rfl rfl rfl rfl ?_
  refine z_aload_n 562 dL_law_561 rfl rfl ?_
  refine z_aload_n 563 dL_law_562 rfl rfl ?_
  refine z_iload 565 dL_law_563 rfl rfl ?_
  refine z_iconst 566 dL_law_565 rfl (by decide) ?_
  refine z_iadd (r := (wr (v5 + 1))) 567 dL_law_566 rfl rfl ?_
  obtain ⟨hg567, hq⟩ := z_g hq
  refine z_sld 568 dL_law_567 rfl ⟨hg567.1, hL ▸ hg567.2⟩ (hV _ hg567.1) (hVi _) ?_
  obtain ⟨a14, m14, h14, hq⟩ := bnd2_some hq
  refine z_callV1 (as := [zi (scV (wr (v5 + 1)))]) (S := []) 571 dL_law_568 rfl (Q_qM_moveOut  h14) kX10_moveOut ⟨_, _, rfl⟩ ar_142 l_RL_157 rfl rfl rfl rfl rfl rfl rfl ?_
  refine z_istore (L' := [some (zr 1050), some (zr 0), some (zr 142), some (zr 156), some (zr 157), some (zi v5), some (zi a13), some (zi a14), none]) 573 dL_law_571 rfl rfl rfl rfl ?_
  refine z_aload_n 574 dL_law_573 rfl rfl ?_
  obtain ⟨a15, h15, hq⟩ := z_b hq
  refine z_callV1 (as := []) (S := []) 577 dL_law_574 rfl (Q_qM_thrown  h15) kX10_thrown ⟨_, _, rfl⟩ ar_142 l_RL_141 rfl rfl rfl rfl rfl rfl rfl ?_
  refine z_iload 579 dL_law_577 rfl rfl ?_
  refine z_icmp_eq 584 582 dL_law_579 rfl rfl (fun hc => ?_) (fun hc => ?_)
  · replace hq := z_ip hq hc
    refine z_iload 586 dL_law_584 rfl rfl ?_
    refine z_if_ne 601 589 dL_law_586 rfl rfl (fun hc => ?_) (fun hc => ?_)
    · replace hq := z_in hq hc
      refine z_goto 2460 dL_law_601 rfl ?_
      refine z_iinc (r := (wr (v5 + 5))) (L' := [some (zr 1050), some (zr 0), some (zr 142), some (zr 156), some (zr 157), some (zi (wr (v5 + 5))), some (zi a13), some (zi a14), none]) 2463 dL_law_2460 rfl rfl rfl rfl rfl rfl ?_
      refine z_goto 28 dL_law_2463 rfl ?_
      exact z_mono (by omega) (by omega) (Z.sub (zle_s (zle_s (zle_s (zle_s (zle_s (zle_s (zle_n (zle_n (zle_n zle_nil))))))))) (hrec _ _ hq))
    · replace hq := z_ip hq hc
      refine z_aload_n 590 dL_law_589 rfl rfl ?_
      refine z_iconst 591 dL_law_590 rfl (by decide) ?_
      refine z_laload (x := (m14 156 0)) 592 dL_law_591 rfl ar_156 ⟨by decide, by decide⟩ rfl ?_
      refine z_iload 594 dL_law_592 rfl rfl ?_
      refine z_i2l 595 dL_law_594 rfl ?_
      refine z_lcmp 596 dL_law_595 rfl ?_
      refine z_if_eq 601 599 dL_law_596 rfl rfl (fun hc => ?_) (fun hc => ?_)
      · replace hq := z_ip hq hc
        refine z_goto 2460 dL_law_601 rfl ?_
        refine z_iinc (r := (wr (v5 + 5))) (L' := [some (zr 1050), some (zr 0), some (zr 142), some (zr 156), some (zr 157), some (zi (wr (v5 + 5))), some (zi a13), some (zi a14), none]) 2463 dL_law_2460 rfl rfl rfl rfl rfl rfl ?_
        refine z_goto 28 dL_law_2463 rfl ?_
        exact z_mono (by omega) (by omega) (Z.sub (zle_s (zle_s (zle_s (zle_s (zle_s (zle_s (zle_n (zle_n (zle_n zle_nil))))))))) (hrec _ _ hq))
      · replace hq := z_in hq hc
        refine z_iconst 600 dL_law_599 rfl (by decide) ?_
        obtain ⟨ho, hv⟩ := hr _ _ (Option.some.inj hq).symm
        exact z_conv ho hv (z_zreturn rfl dL_law_600 (by decide))
  · replace hq := z_in hq hc
    refine z_iconst 583 dL_law_582 rfl (by decide) ?_
    obtain ⟨ho, hv⟩ := hr _ _ (Option.some.inj hq).symm
    exact z_conv ho hv (z_zreturn rfl dL_law_583 (by decide))
set_option maxRecDepth 100000 in
set_option maxHeartbeats 4000000 in
theorem J_qL_law_j604 {g : yG} {a : Nat → Nat} {μ ν : zM} {o : zO} {kc ks : Nat} {scL : Int} {scV : Int → Int} {v5 : Int} {rec : zM → Int → Option ((Int ⊕ Unit) × zM)} {R : (Int ⊕ Unit) × zM} (hL : scL = (g.2.2.2.2.1 : Int)) (hLi : y_in scL) (hV : ∀ i : Int, 0 ≤ i → g.2.2.2.2.2 i.toNat = scV i) (hVi : ∀ i, y_in (scV i)) (hr : ∀ (x : Int) (m : zM), R = (.inl x, m) → o = .inl (some (zi x)) ∧ ν = m) (he : ∀ (tz : Unit) (m : zM), R = (.inr tz, m) → Z g a mL_law 2038 0 0 2466 [some (zr 1050), some (zr 0), some (zr 142), some (zr 156), some (zr 157), none, none, none, none] [] m o ν) (hrec : ∀ (μ : zM) (v5 : Int), rec μ v5 = some R → Z g a mL_law 2038 kc ks 28 [some (zr 1050), some (zr 0), some (zr 142), some (zr 156), some (zr 157), some (zi v5), none, none, none] [] μ o ν) (hq : qL_law_j604 rec scL scV μ v5 = some R) : Z g a mL_law 2038 (kc + 2) (ks + 12) 604 [some (zr 1050), some (zr 0), some (zr 142), some (zr 156), some (zr 157), some (zi v5), none, none, none] [] μ o ν := by
  unfold qL_law_j604 at hq
  refine z_aload_n 605 dL_law_604 rfl rfl ?_
  refine z_aload_n 606 dL_law_605 rfl rfl ?_
  refine z_iload 608 dL_law_606 rfl rfl ?_
  refine z_iconst 609 dL_law_608 rfl (by decide) ?_
  refine z_iadd (r := (wr (v5 + 1))) 610 dL_law_609 rfl rfl ?_
  obtain ⟨hg610, hq⟩ := z_g hq
  refine z_sld 611 dL_law_610 rfl ⟨hg610.1, hL ▸ hg610.2⟩ (hV _ hg610.1) (hVi _) ?_
  refine z_aload_n 612 dL_law_611 rfl rfl ?_
  refine z_iload 614 dL_law_612 rfl rfl ?_
  refine z_iconst 615 dL_law_614 rfl (by decide) ?_
  refine z_iadd (r := (wr (v5 + 2))) 616 dL_law_615 rfl rfl ?_
  obtain ⟨hg616, hq⟩ := z_g hq
  refine z_sld 617 dL_law_616 rfl ⟨hg616.1, hL ▸ hg616.2⟩ (hV _ hg616.1) (hVi _) ?_
  refine z_aload_n 618 dL_law_617 rfl rfl ?_
  obtain ⟨a16, m16, h16, hq⟩ := bnd2_some hq
  refine z_callSH1 (as := [zr 0, zi (scV (wr (v5 + 1))), zi (scV (wr (v5 + 2))), zr 156]) (S := []) (kc := kc + 1) (ks := ks + 6) 621 dL_law_618 rfl (Q_qL_setRent h16) kL_setRent l_RL_158 rfl rfl rfl rfl rfl rfl rfl ?_
  refine z_istore (L' := [some (zr 1050), some (zr 0), some (zr 142), some (zr 156), some (zr 157), some (zi v5), some (zi a16), none, none]) 623 dL_law_621 rfl rfl rfl rfl ?_
  refine z_aload_n 624 dL_law_623 rfl rfl ?_
  refine z_aload_n 625 dL_law_624 rfl rfl ?_
  refine z_iload 627 dL_law_625 rfl rfl ?_
  refine z_iconst 628 dL_law_627 rfl (by decide) ?_
  refine z_iadd (r := (wr (v5 + 1))) 629 dL_law_628 rfl rfl ?_
  obtain ⟨hg629, hq⟩ := z_g hq
  refine z_sld 630 dL_law_629 rfl ⟨hg629.1, hL ▸ hg629.2⟩ (hV _ hg629.1) (hVi _) ?_
  refine z_aload_n 631 dL_law_630 rfl rfl ?_
  refine z_iload 633 dL_law_631 rfl rfl ?_
  refine z_iconst 634 dL_law_633 rfl (by decide) ?_
  refine z_iadd (r := (wr (v5 + 2))) 635 dL_law_634 rfl rfl ?_
  obtain ⟨hg635, hq⟩ := z_g hq
  refine z_sld 636 dL_law_635 rfl ⟨hg635.1, hL ▸ hg635.2⟩ (hV _ hg635.1) (hVi _) ?_
  obtain ⟨a17, m17, h17, hq⟩ := bnd2_some hq
  refine z_callV1 (as := [zi (scV (wr (v5 + 1))), zi (scV (wr (v5 + 2)))]) (S := []) 639 dL_law_636 rfl (Q_qM_setRent  h17) kX10_setRent ⟨_, _, rfl⟩ ar_142 l_RL_160 rfl rfl rfl rfl rfl rfl rfl ?_
  refine z_istore (L' := [some (zr 1050), some (zr 0), some (zr 142), some (zr 156), some (zr 157), some (zi v5), some (zi a16), some (zi a17), none]) 641 dL_law_639 rfl rfl rfl rfl ?_
  refine z_aload_n 642 dL_law_641 rfl rfl ?_
  obtain ⟨a18, h18, hq⟩ := z_b hq
  refine z_callV1 (as := []) (S := []) 645 dL_law_642 rfl (Q_qM_thrown  h18) kX10_thrown ⟨_, _, rfl⟩ ar_142 l_RL_141 rfl rfl rfl rfl rfl rfl rfl ?_
  refine z_iload 647 dL_law_645 rfl rfl ?_
  refine z_icmp_eq 652 650 dL_law_647 rfl rfl (fun hc => ?_) (fun hc => ?_)
  · replace hq := z_ip hq hc
    refine z_iload 654 dL_law_652 rfl rfl ?_
    refine z_if_ne 669 657 dL_law_654 rfl rfl (fun hc => ?_) (fun hc => ?_)
    · replace hq := z_in hq hc
      refine z_goto 2460 dL_law_669 rfl ?_
      refine z_iinc (r := (wr (v5 + 5))) (L' := [some (zr 1050), some (zr 0), some (zr 142), some (zr 156), some (zr 157), some (zi (wr (v5 + 5))), some (zi a16), some (zi a17), none]) 2463 dL_law_2460 rfl rfl rfl rfl rfl rfl ?_
      refine z_goto 28 dL_law_2463 rfl ?_
      exact z_mono (by omega) (by omega) (Z.sub (zle_s (zle_s (zle_s (zle_s (zle_s (zle_s (zle_n (zle_n (zle_n zle_nil))))))))) (hrec _ _ hq))
    · replace hq := z_ip hq hc
      refine z_aload_n 658 dL_law_657 rfl rfl ?_
      refine z_iconst 659 dL_law_658 rfl (by decide) ?_
      refine z_laload (x := (m17 156 0)) 660 dL_law_659 rfl ar_156 ⟨by decide, by decide⟩ rfl ?_
      refine z_iload 662 dL_law_660 rfl rfl ?_
      refine z_i2l 663 dL_law_662 rfl ?_
      refine z_lcmp 664 dL_law_663 rfl ?_
      refine z_if_eq 669 667 dL_law_664 rfl rfl (fun hc => ?_) (fun hc => ?_)
      · replace hq := z_ip hq hc
        refine z_goto 2460 dL_law_669 rfl ?_
        refine z_iinc (r := (wr (v5 + 5))) (L' := [some (zr 1050), some (zr 0), some (zr 142), some (zr 156), some (zr 157), some (zi (wr (v5 + 5))), some (zi a16), some (zi a17), none]) 2463 dL_law_2460 rfl rfl rfl rfl rfl rfl ?_
        refine z_goto 28 dL_law_2463 rfl ?_
        exact z_mono (by omega) (by omega) (Z.sub (zle_s (zle_s (zle_s (zle_s (zle_s (zle_s (zle_n (zle_n (zle_n zle_nil))))))))) (hrec _ _ hq))
      · replace hq := z_in hq hc
        refine z_iconst 668 dL_law_667 rfl (by decide) ?_
        obtain ⟨ho, hv⟩ := hr _ _ (Option.some.inj hq).symm
        exact z_conv ho hv (z_zreturn rfl dL_law_668 (by decide))
  · replace hq := z_in hq hc
    refine z_iconst 651 dL_law_650 rfl (by decide) ?_
    obtain ⟨ho, hv⟩ := hr _ _ (Option.some.inj hq).symm
    exact z_conv ho hv (z_zreturn rfl dL_law_651 (by decide))
set_option maxRecDepth 100000 in
set_option maxHeartbeats 4000000 in
theorem J_qL_law_j672 {g : yG} {a : Nat → Nat} {μ ν : zM} {o : zO} {kc ks : Nat} {scL : Int} {scV : Int → Int} {v5 : Int} {rec : zM → Int → Option ((Int ⊕ Unit) × zM)} {R : (Int ⊕ Unit) × zM} (hL : scL = (g.2.2.2.2.1 : Int)) (hLi : y_in scL) (hV : ∀ i : Int, 0 ≤ i → g.2.2.2.2.2 i.toNat = scV i) (hVi : ∀ i, y_in (scV i)) (hr : ∀ (x : Int) (m : zM), R = (.inl x, m) → o = .inl (some (zi x)) ∧ ν = m) (he : ∀ (tz : Unit) (m : zM), R = (.inr tz, m) → Z g a mL_law 2038 0 0 2466 [some (zr 1050), some (zr 0), some (zr 142), some (zr 156), some (zr 157), none, none, none, none] [] m o ν) (hrec : ∀ (μ : zM) (v5 : Int), rec μ v5 = some R → Z g a mL_law 2038 kc ks 28 [some (zr 1050), some (zr 0), some (zr 142), some (zr 156), some (zr 157), some (zi v5), none, none, none] [] μ o ν) (hq : qL_law_j672 rec scL scV μ v5 = some R) : Z g a mL_law 2038 (kc + 2) (ks + 12) 672 [some (zr 1050), some (zr 0), some (zr 142), some (zr 156), some (zr 157), some (zi v5), none, none, none] [] μ o ν := by
  unfold qL_law_j672 at hq
  refine z_aload_n 673 dL_law_672 rfl rfl ?_
  refine z_aload_n 674 dL_law_673 rfl rfl ?_
  refine z_iload 676 dL_law_674 rfl rfl ?_
  refine z_iconst 677 dL_law_676 rfl (by decide) ?_
  refine z_iadd (r := (wr (v5 + 1))) 678 dL_law_677 rfl rfl ?_
  obtain ⟨hg678, hq⟩ := z_g hq
  refine z_sld 679 dL_law_678 rfl ⟨hg678.1, hL ▸ hg678.2⟩ (hV _ hg678.1) (hVi _) ?_
  refine z_aload_n 680 dL_law_679 rfl rfl ?_
  refine z_iload 682 dL_law_680 rfl rfl ?_
  refine z_iconst 683 dL_law_682 rfl (by decide) ?_
  refine z_iadd (r := (wr (v5 + 2))) 684 dL_law_683 rfl rfl ?_
  obtain ⟨hg684, hq⟩ := z_g hq
  refine z_sld 685 dL_law_684 rfl ⟨hg684.1, hL ▸ hg684.2⟩ (hV _ hg684.1) (hVi _) ?_
  refine z_aload_n 686 dL_law_685 rfl rfl ?_
  obtain ⟨a19, m19, h19, hq⟩ := bnd2_some hq
  refine z_callSH1 (as := [zr 0, zi (scV (wr (v5 + 1))), zi (scV (wr (v5 + 2))), zr 156]) (S := []) (kc := kc + 1) (ks := ks + 6) 689 dL_law_686 rfl (Q_qL_give h19) kL_give l_RL_161 rfl rfl rfl rfl rfl rfl rfl ?_
  refine z_istore (L' := [some (zr 1050), some (zr 0), some (zr 142), some (zr 156), some (zr 157), some (zi v5), some (zi a19), none, none]) 691 dL_law_689 rfl rfl rfl rfl ?_
  refine z_aload_n 692 dL_law_691 rfl rfl ?_
  refine z_aload_n 693 dL_law_692 rfl rfl ?_
  refine z_iload 695 dL_law_693 rfl rfl ?_
  refine z_iconst 696 dL_law_695 rfl (by decide) ?_
  refine z_iadd (r := (wr (v5 + 1))) 697 dL_law_696 rfl rfl ?_
  obtain ⟨hg697, hq⟩ := z_g hq
  refine z_sld 698 dL_law_697 rfl ⟨hg697.1, hL ▸ hg697.2⟩ (hV _ hg697.1) (hVi _) ?_
  refine z_aload_n 699 dL_law_698 rfl rfl ?_
  refine z_iload 701 dL_law_699 rfl rfl ?_
  refine z_iconst 702 dL_law_701 rfl (by decide) ?_
  refine z_iadd (r := (wr (v5 + 2))) 703 dL_law_702 rfl rfl ?_
  obtain ⟨hg703, hq⟩ := z_g hq
  refine z_sld 704 dL_law_703 rfl ⟨hg703.1, hL ▸ hg703.2⟩ (hV _ hg703.1) (hVi _) ?_
  obtain ⟨a20, m20, h20, hq⟩ := bnd2_some hq
  refine z_callV1 (as := [zi (scV (wr (v5 + 1))), zi (scV (wr (v5 + 2)))]) (S := []) 707 dL_law_704 rfl (Q_qM_give  h20) kX10_give ⟨_, _, rfl⟩ ar_142 l_RL_163 rfl rfl rfl rfl rfl rfl rfl ?_
  refine z_istore (L' := [some (zr 1050), some (zr 0), some (zr 142), some (zr 156), some (zr 157), some (zi v5), some (zi a19), some (zi a20), none]) 709 dL_law_707 rfl rfl rfl rfl ?_
  refine z_aload_n 710 dL_law_709 rfl rfl ?_
  obtain ⟨a21, h21, hq⟩ := z_b hq
  refine z_callV1 (as := []) (S := []) 713 dL_law_710 rfl (Q_qM_thrown  h21) kX10_thrown ⟨_, _, rfl⟩ ar_142 l_RL_141 rfl rfl rfl rfl rfl rfl rfl ?_
  refine z_iload 715 dL_law_713 rfl rfl ?_
  refine z_icmp_eq 720 718 dL_law_715 rfl rfl (fun hc => ?_) (fun hc => ?_)
  · replace hq := z_ip hq hc
    refine z_iload 722 dL_law_720 rfl rfl ?_
    refine z_if_ne 737 725 dL_law_722 rfl rfl (fun hc => ?_) (fun hc => ?_)
    · replace hq := z_in hq hc
      refine z_goto 2460 dL_law_737 rfl ?_
      refine z_iinc (r := (wr (v5 + 5))) (L' := [some (zr 1050), some (zr 0), some (zr 142), some (zr 156), some (zr 157), some (zi (wr (v5 + 5))), some (zi a19), some (zi a20), none]) 2463 dL_law_2460 rfl rfl rfl rfl rfl rfl ?_
      refine z_goto 28 dL_law_2463 rfl ?_
      exact z_mono (by omega) (by omega) (Z.sub (zle_s (zle_s (zle_s (zle_s (zle_s (zle_s (zle_n (zle_n (zle_n zle_nil))))))))) (hrec _ _ hq))
    · replace hq := z_ip hq hc
      refine z_aload_n 726 dL_law_725 rfl rfl ?_
      refine z_iconst 727 dL_law_726 rfl (by decide) ?_
      refine z_laload (x := (m20 156 0)) 728 dL_law_727 rfl ar_156 ⟨by decide, by decide⟩ rfl ?_
      refine z_iload 730 dL_law_728 rfl rfl ?_
      refine z_i2l 731 dL_law_730 rfl ?_
      refine z_lcmp 732 dL_law_731 rfl ?_
      refine z_if_eq 737 735 dL_law_732 rfl rfl (fun hc => ?_) (fun hc => ?_)
      · replace hq := z_ip hq hc
        refine z_goto 2460 dL_law_737 rfl ?_
        refine z_iinc (r := (wr (v5 + 5))) (L' := [some (zr 1050), some (zr 0), some (zr 142), some (zr 156), some (zr 157), some (zi (wr (v5 + 5))), some (zi a19), some (zi a20), none]) 2463 dL_law_2460 rfl rfl rfl rfl rfl rfl ?_
        refine z_goto 28 dL_law_2463 rfl ?_
        exact z_mono (by omega) (by omega) (Z.sub (zle_s (zle_s (zle_s (zle_s (zle_s (zle_s (zle_n (zle_n (zle_n zle_nil))))))))) (hrec _ _ hq))
      · replace hq := z_in hq hc
        refine z_iconst 736 dL_law_735 rfl (by decide) ?_
        obtain ⟨ho, hv⟩ := hr _ _ (Option.some.inj hq).symm
        exact z_conv ho hv (z_zreturn rfl dL_law_736 (by decide))
  · replace hq := z_in hq hc
    refine z_iconst 719 dL_law_718 rfl (by decide) ?_
    obtain ⟨ho, hv⟩ := hr _ _ (Option.some.inj hq).symm
    exact z_conv ho hv (z_zreturn rfl dL_law_719 (by decide))
set_option maxRecDepth 100000 in
set_option maxHeartbeats 4000000 in
theorem J_qL_law_j740 {g : yG} {a : Nat → Nat} {μ ν : zM} {o : zO} {kc ks : Nat} {scL : Int} {scV : Int → Int} {v5 : Int} {rec : zM → Int → Option ((Int ⊕ Unit) × zM)} {R : (Int ⊕ Unit) × zM} (hL : scL = (g.2.2.2.2.1 : Int)) (hLi : y_in scL) (hV : ∀ i : Int, 0 ≤ i → g.2.2.2.2.2 i.toNat = scV i) (hVi : ∀ i, y_in (scV i)) (hr : ∀ (x : Int) (m : zM), R = (.inl x, m) → o = .inl (some (zi x)) ∧ ν = m) (he : ∀ (tz : Unit) (m : zM), R = (.inr tz, m) → Z g a mL_law 2038 0 0 2466 [some (zr 1050), some (zr 0), some (zr 142), some (zr 156), some (zr 157), none, none, none, none] [] m o ν) (hrec : ∀ (μ : zM) (v5 : Int), rec μ v5 = some R → Z g a mL_law 2038 kc ks 28 [some (zr 1050), some (zr 0), some (zr 142), some (zr 156), some (zr 157), some (zi v5), none, none, none] [] μ o ν) (hq : qL_law_j740 rec scL scV μ v5 = some R) : Z g a mL_law 2038 (kc + 2) (ks + 12) 740 [some (zr 1050), some (zr 0), some (zr 142), some (zr 156), some (zr 157), some (zi v5), none, none, none] [] μ o ν := by
  unfold qL_law_j740 at hq
  refine z_aload_n 741 dL_law_740 rfl rfl ?_
  obtain ⟨a22, m22, h22, hq⟩ := bnd2_some hq
  refine z_callV1 (as := []) (S := []) 744 dL_law_741 rfl (Q_qT_settle  h22) kX9_settle ⟨_, _, rfl⟩ ar_0 l_RL_164 rfl rfl rfl rfl rfl rfl rfl ?_
  refine z_aload_n 745 dL_law_744 rfl rfl ?_
  obtain ⟨a23, m23, h23, hq⟩ := bnd2_some hq
  refine z_callV1 (as := []) (S := [zi a22]) 748 dL_law_745 rfl (Q_qM_settle  h23) kX10_settle ⟨_, _, rfl⟩ ar_142 l_RL_167 rfl rfl rfl rfl rfl rfl rfl ?_
  refine z_icmp_eq 2460 751 dL_law_748 rfl rfl (fun hc => ?_) (fun hc => ?_)
  · replace hq := z_ip hq hc
    refine z_iinc (r := (wr (v5 + 5))) (L' := [some (zr 1050), some (zr 0), some (zr 142), some (zr 156), some (zr 157), some (zi (wr (v5 + 5))), none, none, none]) 2463 dL_law_2460 rfl rfl rfl rfl rfl rfl ?_
    refine z_goto 28 dL_law_2463 rfl ?_
    exact z_mono (by omega) (by omega) (Z.sub (zle_s (zle_s (zle_s (zle_s (zle_s (zle_s (zle_n (zle_n (zle_n zle_nil))))))))) (hrec _ _ hq))
  · replace hq := z_in hq hc
    refine z_iconst 752 dL_law_751 rfl (by decide) ?_
    obtain ⟨ho, hv⟩ := hr _ _ (Option.some.inj hq).symm
    exact z_conv ho hv (z_zreturn rfl dL_law_752 (by decide))
set_option maxRecDepth 100000 in
set_option maxHeartbeats 4000000 in
theorem J_qL_law_j753 {g : yG} {a : Nat → Nat} {μ ν : zM} {o : zO} {kc ks : Nat} {scL : Int} {scV : Int → Int} {v5 : Int} {rec : zM → Int → Option ((Int ⊕ Unit) × zM)} {R : (Int ⊕ Unit) × zM} (hL : scL = (g.2.2.2.2.1 : Int)) (hLi : y_in scL) (hV : ∀ i : Int, 0 ≤ i → g.2.2.2.2.2 i.toNat = scV i) (hVi : ∀ i, y_in (scV i)) (hr : ∀ (x : Int) (m : zM), R = (.inl x, m) → o = .inl (some (zi x)) ∧ ν = m) (he : ∀ (tz : Unit) (m : zM), R = (.inr tz, m) → Z g a mL_law 2038 0 0 2466 [some (zr 1050), some (zr 0), some (zr 142), some (zr 156), some (zr 157), none, none, none, none] [] m o ν) (hrec : ∀ (μ : zM) (v5 : Int), rec μ v5 = some R → Z g a mL_law 2038 kc ks 28 [some (zr 1050), some (zr 0), some (zr 142), some (zr 156), some (zr 157), some (zi v5), none, none, none] [] μ o ν) (hq : qL_law_j753 rec scL scV μ v5 = some R) : Z g a mL_law 2038 (kc + 2) (ks + 12) 753 [some (zr 1050), some (zr 0), some (zr 142), some (zr 156), some (zr 157), some (zi v5), none, none, none] [] μ o ν := by
  unfold qL_law_j753 at hq
  refine z_aload_n 754 dL_law_753 rfl rfl ?_
  refine z_aload_n 755 dL_law_754 rfl rfl ?_
  refine z_iload 757 dL_law_755 rfl rfl ?_
  refine z_iconst 758 dL_law_757 rfl (by decide) ?_
  refine z_iadd (r := (wr (v5 + 1))) 759 dL_law_758 rfl rfl ?_
  obtain ⟨hg759, hq⟩ := z_g hq
  refine z_sld 760 dL_law_759 rfl ⟨hg759.1, hL ▸ hg759.2⟩ (hV _ hg759.1) (hVi _) ?_
  refine z_aload_n 761 dL_law_760 rfl rfl ?_
  obtain ⟨a24, m24, h24, hq⟩ := bnd2_some hq
  refine z_callSH1 (as := [zr 0, zi (scV (wr (v5 + 1))), zr 156]) (S := []) (kc := kc + 1) (ks := ks + 6) 764 dL_law_761 rfl (Q_qL_pass h24) kL_pass l_RL_168 rfl rfl rfl rfl rfl rfl rfl ?_
  refine z_istore (L' := [some (zr 1050), some (zr 0), some (zr 142), some (zr 156), some (zr 157), some (zi v5), some (zi a24), none, none]) 766 dL_law_764 rfl rfl rfl rfl ?_
  refine z_aload_n 767 dL_law_766 rfl rfl ?_
  refine z_aload_n 768 dL_law_767 rfl rfl ?_
  refine z_iload 770 dL_law_768 rfl rfl ?_
  refine z_iconst 771 dL_law_770 rfl (by decide) ?_
  refine z_iadd (r := (wr (v5 + 1))) 772 dL_law_771 rfl rfl ?_
  obtain ⟨hg772, hq⟩ := z_g hq
  refine z_sld 773 dL_law_772 rfl ⟨hg772.1, hL ▸ hg772.2⟩ (hV _ hg772.1) (hVi _) ?_
  obtain ⟨a25, m25, h25, hq⟩ := bnd2_some hq
  refine z_callV1 (as := [zi (scV (wr (v5 + 1)))]) (S := []) 776 dL_law_773 rfl (Q_qM_pass  h25) kX10_pass ⟨_, _, rfl⟩ ar_142 l_RL_170 rfl rfl rfl rfl rfl rfl rfl ?_
  refine z_istore (L' := [some (zr 1050), some (zr 0), some (zr 142), some (zr 156), some (zr 157), some (zi v5), some (zi a24), some (zi a25), none]) 778 dL_law_776 rfl rfl rfl rfl ?_
  refine z_aload_n 779 dL_law_778 rfl rfl ?_
  obtain ⟨a26, h26, hq⟩ := z_b hq
  refine z_callV1 (as := []) (S := []) 782 dL_law_779 rfl (Q_qM_thrown  h26) kX10_thrown ⟨_, _, rfl⟩ ar_142 l_RL_141 rfl rfl rfl rfl rfl rfl rfl ?_
  refine z_iload 784 dL_law_782 rfl rfl ?_
  refine z_icmp_eq 789 787 dL_law_784 rfl rfl (fun hc => ?_) (fun hc => ?_)
  · replace hq := z_ip hq hc
    refine z_iload 791 dL_law_789 rfl rfl ?_
    refine z_if_ne 806 794 dL_law_791 rfl rfl (fun hc => ?_) (fun hc => ?_)
    · replace hq := z_in hq hc
      refine z_goto 2460 dL_law_806 rfl ?_
      refine z_iinc (r := (wr (v5 + 5))) (L' := [some (zr 1050), some (zr 0), some (zr 142), some (zr 156), some (zr 157), some (zi (wr (v5 + 5))), some (zi a24), some (zi a25), none]) 2463 dL_law_2460 rfl rfl rfl rfl rfl rfl ?_
      refine z_goto 28 dL_law_2463 rfl ?_
      exact z_mono (by omega) (by omega) (Z.sub (zle_s (zle_s (zle_s (zle_s (zle_s (zle_s (zle_n (zle_n (zle_n zle_nil))))))))) (hrec _ _ hq))
    · replace hq := z_ip hq hc
      refine z_aload_n 795 dL_law_794 rfl rfl ?_
      refine z_iconst 796 dL_law_795 rfl (by decide) ?_
      refine z_laload (x := (m25 156 0)) 797 dL_law_796 rfl ar_156 ⟨by decide, by decide⟩ rfl ?_
      refine z_iload 799 dL_law_797 rfl rfl ?_
      refine z_i2l 800 dL_law_799 rfl ?_
      refine z_lcmp 801 dL_law_800 rfl ?_
      refine z_if_eq 806 804 dL_law_801 rfl rfl (fun hc => ?_) (fun hc => ?_)
      · replace hq := z_ip hq hc
        refine z_goto 2460 dL_law_806 rfl ?_
        refine z_iinc (r := (wr (v5 + 5))) (L' := [some (zr 1050), some (zr 0), some (zr 142), some (zr 156), some (zr 157), some (zi (wr (v5 + 5))), some (zi a24), some (zi a25), none]) 2463 dL_law_2460 rfl rfl rfl rfl rfl rfl ?_
        refine z_goto 28 dL_law_2463 rfl ?_
        exact z_mono (by omega) (by omega) (Z.sub (zle_s (zle_s (zle_s (zle_s (zle_s (zle_s (zle_n (zle_n (zle_n zle_nil))))))))) (hrec _ _ hq))
      · replace hq := z_in hq hc
        refine z_iconst 805 dL_law_804 rfl (by decide) ?_
        obtain ⟨ho, hv⟩ := hr _ _ (Option.some.inj hq).symm
        exact z_conv ho hv (z_zreturn rfl dL_law_805 (by decide))
  · replace hq := z_in hq hc
    refine z_iconst 788 dL_law_787 rfl (by decide) ?_
    obtain ⟨ho, hv⟩ := hr _ _ (Option.some.inj hq).symm
    exact z_conv ho hv (z_zreturn rfl dL_law_788 (by decide))
set_option maxRecDepth 100000 in
set_option maxHeartbeats 4000000 in
theorem J_qL_law_j809 {g : yG} {a : Nat → Nat} {μ ν : zM} {o : zO} {kc ks : Nat} {scL : Int} {scV : Int → Int} {v5 : Int} {rec : zM → Int → Option ((Int ⊕ Unit) × zM)} {R : (Int ⊕ Unit) × zM} (hL : scL = (g.2.2.2.2.1 : Int)) (hLi : y_in scL) (hV : ∀ i : Int, 0 ≤ i → g.2.2.2.2.2 i.toNat = scV i) (hVi : ∀ i, y_in (scV i)) (hr : ∀ (x : Int) (m : zM), R = (.inl x, m) → o = .inl (some (zi x)) ∧ ν = m) (he : ∀ (tz : Unit) (m : zM), R = (.inr tz, m) → Z g a mL_law 2038 0 0 2466 [some (zr 1050), some (zr 0), some (zr 142), some (zr 156), some (zr 157), none, none, none, none] [] m o ν) (hrec : ∀ (μ : zM) (v5 : Int), rec μ v5 = some R → Z g a mL_law 2038 kc ks 28 [some (zr 1050), some (zr 0), some (zr 142), some (zr 156), some (zr 157), some (zi v5), none, none, none] [] μ o ν) (hq : qL_law_j809 rec scL scV μ v5 = some R) : Z g a mL_law 2038 (kc + 2) (ks + 12) 809 [some (zr 1050), some (zr 0), some (zr 142), some (zr 156), some (zr 157), some (zi v5), none, none, none] [] μ o ν := by
  unfold qL_law_j809 at hq
  refine z_aload_n 810 dL_law_809 rfl rfl ?_
  obtain ⟨a27, h27, hq⟩ := z_b hq
  refine z_callV1 (as := []) (S := []) 813 dL_law_810 rfl (Q_qT_flats  h27) kX9_flats ⟨_, _, rfl⟩ ar_0 l_RL_171 rfl rfl rfl rfl rfl rfl rfl ?_
  refine z_aload_n 814 dL_law_813 rfl rfl ?_
  obtain ⟨a28, m28, h28, hq⟩ := bnd2_some hq
  refine z_callV1 (as := []) (S := [zi a27]) 817 dL_law_814 rfl (Q_qM_flats  h28) kX10_flats ⟨_, _, rfl⟩ ar_142 l_RL_174 rfl rfl rfl rfl rfl rfl rfl ?_
  refine z_icmp_eq 2460 820 dL_law_817 rfl rfl (fun hc => ?_) (fun hc => ?_)
  · replace hq := z_ip hq hc
    refine z_iinc (r := (wr (v5 + 5))) (L' := [some (zr 1050), some (zr 0), some (zr 142), some (zr 156), some (zr 157), some (zi (wr (v5 + 5))), none, none, none]) 2463 dL_law_2460 rfl rfl rfl rfl rfl rfl ?_
    refine z_goto 28 dL_law_2463 rfl ?_
    exact z_mono (by omega) (by omega) (Z.sub (zle_s (zle_s (zle_s (zle_s (zle_s (zle_s (zle_n (zle_n (zle_n zle_nil))))))))) (hrec _ _ hq))
  · replace hq := z_in hq hc
    refine z_iconst 821 dL_law_820 rfl (by decide) ?_
    obtain ⟨ho, hv⟩ := hr _ _ (Option.some.inj hq).symm
    exact z_conv ho hv (z_zreturn rfl dL_law_821 (by decide))
set_option maxRecDepth 100000 in
set_option maxHeartbeats 4000000 in
theorem J_qL_law_j822 {g : yG} {a : Nat → Nat} {μ ν : zM} {o : zO} {kc ks : Nat} {scL : Int} {scV : Int → Int} {v5 : Int} {rec : zM → Int → Option ((Int ⊕ Unit) × zM)} {R : (Int ⊕ Unit) × zM} (hL : scL = (g.2.2.2.2.1 : Int)) (hLi : y_in scL) (hV : ∀ i : Int, 0 ≤ i → g.2.2.2.2.2 i.toNat = scV i) (hVi : ∀ i, y_in (scV i)) (hr : ∀ (x : Int) (m : zM), R = (.inl x, m) → o = .inl (some (zi x)) ∧ ν = m) (he : ∀ (tz : Unit) (m : zM), R = (.inr tz, m) → Z g a mL_law 2038 0 0 2466 [some (zr 1050), some (zr 0), some (zr 142), some (zr 156), some (zr 157), none, none, none, none] [] m o ν) (hrec : ∀ (μ : zM) (v5 : Int), rec μ v5 = some R → Z g a mL_law 2038 kc ks 28 [some (zr 1050), some (zr 0), some (zr 142), some (zr 156), some (zr 157), some (zi v5), none, none, none] [] μ o ν) (hq : qL_law_j822 rec scL scV μ v5 = some R) : Z g a mL_law 2038 (kc + 2) (ks + 12) 822 [some (zr 1050), some (zr 0), some (zr 142), some (zr 156), some (zr 157), some (zi v5), none, none, none] [] μ o ν := by
  unfold qL_law_j822 at hq
  refine z_aload_n 823 dL_law_822 rfl rfl ?_
  refine z_aload_n 824 dL_law_823 rfl rfl ?_
  refine z_iload 826 dL_law_824 rfl rfl ?_
  refine z_iconst 827 dL_law_826 rfl (by decide) ?_
  refine z_iadd (r := (wr (v5 + 1))) 828 dL_law_827 rfl rfl ?_
  obtain ⟨hg828, hq⟩ := z_g hq
  refine z_sld 829 dL_law_828 rfl ⟨hg828.1, hL ▸ hg828.2⟩ (hV _ hg828.1) (hVi _) ?_
  refine z_aload_n 830 dL_law_829 rfl rfl ?_
  obtain ⟨a29, m29, h29, hq⟩ := bnd2_some hq
  refine z_callSH1 (as := [zr 0, zi (scV (wr (v5 + 1))), zr 156]) (S := []) (kc := kc + 1) (ks := ks + 6) 833 dL_law_830 rfl (Q_qL_floorOf h29) kL_floorOf l_RL_175 rfl rfl rfl rfl rfl rfl rfl ?_
  refine z_istore (L' := [some (zr 1050), some (zr 0), some (zr 142), some (zr 156), some (zr 157), some (zi v5), some (zi a29), none, none]) 835 dL_law_833 rfl rfl rfl rfl ?_
  refine z_aload_n 836 dL_law_835 rfl rfl ?_
  refine z_aload_n 837 dL_law_836 rfl rfl ?_
  refine z_iload 839 dL_law_837 rfl rfl ?_
  refine z_iconst 840 dL_law_839 rfl (by decide) ?_
  refine z_iadd (r := (wr (v5 + 1))) 841 dL_law_840 rfl rfl ?_
  obtain ⟨hg841, hq⟩ := z_g hq
  refine z_sld 842 dL_law_841 rfl ⟨hg841.1, hL ▸ hg841.2⟩ (hV _ hg841.1) (hVi _) ?_
  obtain ⟨a30, m30, h30, hq⟩ := bnd2_some hq
  refine z_callV1 (as := [zi (scV (wr (v5 + 1)))]) (S := []) 845 dL_law_842 rfl (Q_qM_floorOf  h30) kX10_floorOf ⟨_, _, rfl⟩ ar_142 l_RL_177 rfl rfl rfl rfl rfl rfl rfl ?_
  refine z_istore (L' := [some (zr 1050), some (zr 0), some (zr 142), some (zr 156), some (zr 157), some (zi v5), some (zi a29), some (zi a30), none]) 847 dL_law_845 rfl rfl rfl rfl ?_
  refine z_aload_n 848 dL_law_847 rfl rfl ?_
  obtain ⟨a31, h31, hq⟩ := z_b hq
  refine z_callV1 (as := []) (S := []) 851 dL_law_848 rfl (Q_qM_thrown  h31) kX10_thrown ⟨_, _, rfl⟩ ar_142 l_RL_141 rfl rfl rfl rfl rfl rfl rfl ?_
  refine z_iload 853 dL_law_851 rfl rfl ?_
  refine z_icmp_eq 858 856 dL_law_853 rfl rfl (fun hc => ?_) (fun hc => ?_)
  · replace hq := z_ip hq hc
    refine z_iload 860 dL_law_858 rfl rfl ?_
    refine z_if_ne 875 863 dL_law_860 rfl rfl (fun hc => ?_) (fun hc => ?_)
    · replace hq := z_in hq hc
      refine z_goto 2460 dL_law_875 rfl ?_
      refine z_iinc (r := (wr (v5 + 5))) (L' := [some (zr 1050), some (zr 0), some (zr 142), some (zr 156), some (zr 157), some (zi (wr (v5 + 5))), some (zi a29), some (zi a30), none]) 2463 dL_law_2460 rfl rfl rfl rfl rfl rfl ?_
      refine z_goto 28 dL_law_2463 rfl ?_
      exact z_mono (by omega) (by omega) (Z.sub (zle_s (zle_s (zle_s (zle_s (zle_s (zle_s (zle_n (zle_n (zle_n zle_nil))))))))) (hrec _ _ hq))
    · replace hq := z_ip hq hc
      refine z_aload_n 864 dL_law_863 rfl rfl ?_
      refine z_iconst 865 dL_law_864 rfl (by decide) ?_
      refine z_laload (x := (m30 156 0)) 866 dL_law_865 rfl ar_156 ⟨by decide, by decide⟩ rfl ?_
      refine z_iload 868 dL_law_866 rfl rfl ?_
      refine z_i2l 869 dL_law_868 rfl ?_
      refine z_lcmp 870 dL_law_869 rfl ?_
      refine z_if_eq 875 873 dL_law_870 rfl rfl (fun hc => ?_) (fun hc => ?_)
      · replace hq := z_ip hq hc
        refine z_goto 2460 dL_law_875 rfl ?_
        refine z_iinc (r := (wr (v5 + 5))) (L' := [some (zr 1050), some (zr 0), some (zr 142), some (zr 156), some (zr 157), some (zi (wr (v5 + 5))), some (zi a29), some (zi a30), none]) 2463 dL_law_2460 rfl rfl rfl rfl rfl rfl ?_
        refine z_goto 28 dL_law_2463 rfl ?_
        exact z_mono (by omega) (by omega) (Z.sub (zle_s (zle_s (zle_s (zle_s (zle_s (zle_s (zle_n (zle_n (zle_n zle_nil))))))))) (hrec _ _ hq))
      · replace hq := z_in hq hc
        refine z_iconst 874 dL_law_873 rfl (by decide) ?_
        obtain ⟨ho, hv⟩ := hr _ _ (Option.some.inj hq).symm
        exact z_conv ho hv (z_zreturn rfl dL_law_874 (by decide))
  · replace hq := z_in hq hc
    refine z_iconst 857 dL_law_856 rfl (by decide) ?_
    obtain ⟨ho, hv⟩ := hr _ _ (Option.some.inj hq).symm
    exact z_conv ho hv (z_zreturn rfl dL_law_857 (by decide))
set_option maxRecDepth 100000 in
set_option maxHeartbeats 4000000 in
theorem J_qL_law_j878 {g : yG} {a : Nat → Nat} {μ ν : zM} {o : zO} {kc ks : Nat} {scL : Int} {scV : Int → Int} {v5 : Int} {rec : zM → Int → Option ((Int ⊕ Unit) × zM)} {R : (Int ⊕ Unit) × zM} (hL : scL = (g.2.2.2.2.1 : Int)) (hLi : y_in scL) (hV : ∀ i : Int, 0 ≤ i → g.2.2.2.2.2 i.toNat = scV i) (hVi : ∀ i, y_in (scV i)) (hr : ∀ (x : Int) (m : zM), R = (.inl x, m) → o = .inl (some (zi x)) ∧ ν = m) (he : ∀ (tz : Unit) (m : zM), R = (.inr tz, m) → Z g a mL_law 2038 0 0 2466 [some (zr 1050), some (zr 0), some (zr 142), some (zr 156), some (zr 157), none, none, none, none] [] m o ν) (hrec : ∀ (μ : zM) (v5 : Int), rec μ v5 = some R → Z g a mL_law 2038 kc ks 28 [some (zr 1050), some (zr 0), some (zr 142), some (zr 156), some (zr 157), some (zi v5), none, none, none] [] μ o ν) (hq : qL_law_j878 rec scL scV μ v5 = some R) : Z g a mL_law 2038 (kc + 2) (ks + 12) 878 [some (zr 1050), some (zr 0), some (zr 142), some (zr 156), some (zr 157), some (zi v5), none, none, none] [] μ o ν := by
  unfold qL_law_j878 at hq
  refine z_aload_n 879 dL_law_878 rfl rfl ?_
  refine z_aload_n 880 dL_law_879 rfl rfl ?_
  refine z_iload 882 dL_law_880 rfl rfl ?_
  refine z_iconst 883 dL_law_882 rfl (by decide) ?_
  refine z_iadd (r := (wr (v5 + 1))) 884 dL_law_883 rfl rfl ?_
  obtain ⟨hg884, hq⟩ := z_g hq
  refine z_sld 885 dL_law_884 rfl ⟨hg884.1, hL ▸ hg884.2⟩ (hV _ hg884.1) (hVi _) ?_
  refine z_aload_n 886 dL_law_885 rfl rfl ?_
  obtain ⟨a32, m32, h32, hq⟩ := bnd2_some hq
  refine z_callSH1 (as := [zr 0, zi (scV (wr (v5 + 1))), zr 156]) (S := []) (kc := kc + 1) (ks := ks + 6) 889 dL_law_886 rfl (Q_qL_rentOf h32) kL_rentOf l_RL_178 rfl rfl rfl rfl rfl rfl rfl ?_
  refine z_istore (L' := [some (zr 1050), some (zr 0), some (zr 142), some (zr 156), some (zr 157), some (zi v5), some (zi a32), none, none]) 891 dL_law_889 rfl rfl rfl rfl ?_
  refine z_aload_n 892 dL_law_891 rfl rfl ?_
  refine z_aload_n 893 dL_law_892 rfl rfl ?_
  refine z_iload 895 dL_law_893 rfl rfl ?_
  refine z_iconst 896 dL_law_895 rfl (by decide) ?_
  refine z_iadd (r := (wr (v5 + 1))) 897 dL_law_896 rfl rfl ?_
  obtain ⟨hg897, hq⟩ := z_g hq
  refine z_sld 898 dL_law_897 rfl ⟨hg897.1, hL ▸ hg897.2⟩ (hV _ hg897.1) (hVi _) ?_
  obtain ⟨a33, m33, h33, hq⟩ := bnd2_some hq
  refine z_callV1 (as := [zi (scV (wr (v5 + 1)))]) (S := []) 901 dL_law_898 rfl (Q_qM_rentOf  h33) kX10_rentOf ⟨_, _, rfl⟩ ar_142 l_RL_180 rfl rfl rfl rfl rfl rfl rfl ?_
  refine z_istore (L' := [some (zr 1050), some (zr 0), some (zr 142), some (zr 156), some (zr 157), some (zi v5), some (zi a32), some (zi a33), none]) 903 dL_law_901 rfl rfl rfl rfl ?_
  refine z_aload_n 904 dL_law_903 rfl rfl ?_
  obtain ⟨a34, h34, hq⟩ := z_b hq
  refine z_callV1 (as := []) (S := []) 907 dL_law_904 rfl (Q_qM_thrown  h34) kX10_thrown ⟨_, _, rfl⟩ ar_142 l_RL_141 rfl rfl rfl rfl rfl rfl rfl ?_
  refine z_iload 909 dL_law_907 rfl rfl ?_
  refine z_icmp_eq 914 912 dL_law_909 rfl rfl (fun hc => ?_) (fun hc => ?_)
  · replace hq := z_ip hq hc
    refine z_iload 916 dL_law_914 rfl rfl ?_
    refine z_if_ne 931 919 dL_law_916 rfl rfl (fun hc => ?_) (fun hc => ?_)
    · replace hq := z_in hq hc
      refine z_goto 2460 dL_law_931 rfl ?_
      refine z_iinc (r := (wr (v5 + 5))) (L' := [some (zr 1050), some (zr 0), some (zr 142), some (zr 156), some (zr 157), some (zi (wr (v5 + 5))), some (zi a32), some (zi a33), none]) 2463 dL_law_2460 rfl rfl rfl rfl rfl rfl ?_
      refine z_goto 28 dL_law_2463 rfl ?_
      exact z_mono (by omega) (by omega) (Z.sub (zle_s (zle_s (zle_s (zle_s (zle_s (zle_s (zle_n (zle_n (zle_n zle_nil))))))))) (hrec _ _ hq))
    · replace hq := z_ip hq hc
      refine z_aload_n 920 dL_law_919 rfl rfl ?_
      refine z_iconst 921 dL_law_920 rfl (by decide) ?_
      refine z_laload (x := (m33 156 0)) 922 dL_law_921 rfl ar_156 ⟨by decide, by decide⟩ rfl ?_
      refine z_iload 924 dL_law_922 rfl rfl ?_
      refine z_i2l 925 dL_law_924 rfl ?_
      refine z_lcmp 926 dL_law_925 rfl ?_
      refine z_if_eq 931 929 dL_law_926 rfl rfl (fun hc => ?_) (fun hc => ?_)
      · replace hq := z_ip hq hc
        refine z_goto 2460 dL_law_931 rfl ?_
        refine z_iinc (r := (wr (v5 + 5))) (L' := [some (zr 1050), some (zr 0), some (zr 142), some (zr 156), some (zr 157), some (zi (wr (v5 + 5))), some (zi a32), some (zi a33), none]) 2463 dL_law_2460 rfl rfl rfl rfl rfl rfl ?_
        refine z_goto 28 dL_law_2463 rfl ?_
        exact z_mono (by omega) (by omega) (Z.sub (zle_s (zle_s (zle_s (zle_s (zle_s (zle_s (zle_n (zle_n (zle_n zle_nil))))))))) (hrec _ _ hq))
      · replace hq := z_in hq hc
        refine z_iconst 930 dL_law_929 rfl (by decide) ?_
        obtain ⟨ho, hv⟩ := hr _ _ (Option.some.inj hq).symm
        exact z_conv ho hv (z_zreturn rfl dL_law_930 (by decide))
  · replace hq := z_in hq hc
    refine z_iconst 913 dL_law_912 rfl (by decide) ?_
    obtain ⟨ho, hv⟩ := hr _ _ (Option.some.inj hq).symm
    exact z_conv ho hv (z_zreturn rfl dL_law_913 (by decide))
set_option maxRecDepth 100000 in
set_option maxHeartbeats 4000000 in
theorem J_qL_law_j934 {g : yG} {a : Nat → Nat} {μ ν : zM} {o : zO} {kc ks : Nat} {scL : Int} {scV : Int → Int} {v5 : Int} {rec : zM → Int → Option ((Int ⊕ Unit) × zM)} {R : (Int ⊕ Unit) × zM} (hL : scL = (g.2.2.2.2.1 : Int)) (hLi : y_in scL) (hV : ∀ i : Int, 0 ≤ i → g.2.2.2.2.2 i.toNat = scV i) (hVi : ∀ i, y_in (scV i)) (hr : ∀ (x : Int) (m : zM), R = (.inl x, m) → o = .inl (some (zi x)) ∧ ν = m) (he : ∀ (tz : Unit) (m : zM), R = (.inr tz, m) → Z g a mL_law 2038 0 0 2466 [some (zr 1050), some (zr 0), some (zr 142), some (zr 156), some (zr 157), none, none, none, none] [] m o ν) (hrec : ∀ (μ : zM) (v5 : Int), rec μ v5 = some R → Z g a mL_law 2038 kc ks 28 [some (zr 1050), some (zr 0), some (zr 142), some (zr 156), some (zr 157), some (zi v5), none, none, none] [] μ o ν) (hq : qL_law_j934 rec scL scV μ v5 = some R) : Z g a mL_law 2038 (kc + 2) (ks + 12) 934 [some (zr 1050), some (zr 0), some (zr 142), some (zr 156), some (zr 157), some (zi v5), none, none, none] [] μ o ν := by
  unfold qL_law_j934 at hq
  refine z_aload_n 935 dL_law_934 rfl rfl ?_
  refine z_aload_n 936 dL_law_935 rfl rfl ?_
  refine z_iload 938 dL_law_936 rfl rfl ?_
  refine z_iconst 939 dL_law_938 rfl (by decide) ?_
  refine z_iadd (r := (wr (v5 + 1))) 940 dL_law_939 rfl rfl ?_
  obtain ⟨hg940, hq⟩ := z_g hq
  refine z_sld 941 dL_law_940 rfl ⟨hg940.1, hL ▸ hg940.2⟩ (hV _ hg940.1) (hVi _) ?_
  refine z_aload_n 942 dL_law_941 rfl rfl ?_
  obtain ⟨a35, m35, h35, hq⟩ := bnd2_some hq
  refine z_callSH1 (as := [zr 0, zi (scV (wr (v5 + 1))), zr 156]) (S := []) (kc := kc + 0) (ks := ks + 0) 945 dL_law_942 rfl (Q_qL_tenantIn h35) kL_tenantIn l_RL_181 rfl rfl rfl rfl rfl rfl rfl ?_
  refine z_istore (L' := [some (zr 1050), some (zr 0), some (zr 142), some (zr 156), some (zr 157), some (zi v5), some (zi a35), none, none]) 947 dL_law_945 rfl rfl rfl rfl ?_
  refine z_aload_n 948 dL_law_947 rfl rfl ?_
  refine z_aload_n 949 dL_law_948 rfl rfl ?_
  refine z_iload 951 dL_law_949 rfl rfl ?_
  refine z_iconst 952 dL_law_951 rfl (by decide) ?_
  refine z_iadd (r := (wr (v5 + 1))) 953 dL_law_952 rfl rfl ?_
  obtain ⟨hg953, hq⟩ := z_g hq
  refine z_sld 954 dL_law_953 rfl ⟨hg953.1, hL ▸ hg953.2⟩ (hV _ hg953.1) (hVi _) ?_
  obtain ⟨a36, m36, h36, hq⟩ := bnd2_some hq
  refine z_callV1 (as := [zi (scV (wr (v5 + 1)))]) (S := []) 957 dL_law_954 rfl (Q_qM_tenantIn  h36) kX10_tenantIn ⟨_, _, rfl⟩ ar_142 l_RL_183 rfl rfl rfl rfl rfl rfl rfl ?_
  refine z_istore (L' := [some (zr 1050), some (zr 0), some (zr 142), some (zr 156), some (zr 157), some (zi v5), some (zi a35), some (zi a36), none]) 959 dL_law_957 rfl rfl rfl rfl ?_
  refine z_aload_n 960 dL_law_959 rfl rfl ?_
  obtain ⟨a37, h37, hq⟩ := z_b hq
  refine z_callV1 (as := []) (S := []) 963 dL_law_960 rfl (Q_qM_thrown  h37) kX10_thrown ⟨_, _, rfl⟩ ar_142 l_RL_141 rfl rfl rfl rfl rfl rfl rfl ?_
  refine z_iload 965 dL_law_963 rfl rfl ?_
  refine z_icmp_eq 970 968 dL_law_965 rfl rfl (fun hc => ?_) (fun hc => ?_)
  · replace hq := z_ip hq hc
    refine z_iload 972 dL_law_970 rfl rfl ?_
    refine z_if_ne 987 975 dL_law_972 rfl rfl (fun hc => ?_) (fun hc => ?_)
    · replace hq := z_in hq hc
      refine z_goto 2460 dL_law_987 rfl ?_
      refine z_iinc (r := (wr (v5 + 5))) (L' := [some (zr 1050), some (zr 0), some (zr 142), some (zr 156), some (zr 157), some (zi (wr (v5 + 5))), some (zi a35), some (zi a36), none]) 2463 dL_law_2460 rfl rfl rfl rfl rfl rfl ?_
      refine z_goto 28 dL_law_2463 rfl ?_
      exact z_mono (by omega) (by omega) (Z.sub (zle_s (zle_s (zle_s (zle_s (zle_s (zle_s (zle_n (zle_n (zle_n zle_nil))))))))) (hrec _ _ hq))
    · replace hq := z_ip hq hc
      refine z_aload_n 976 dL_law_975 rfl rfl ?_
      refine z_iconst 977 dL_law_976 rfl (by decide) ?_
      refine z_laload (x := (m36 156 0)) 978 dL_law_977 rfl ar_156 ⟨by decide, by decide⟩ rfl ?_
      refine z_iload 980 dL_law_978 rfl rfl ?_
      refine z_i2l 981 dL_law_980 rfl ?_
      refine z_lcmp 982 dL_law_981 rfl ?_
      refine z_if_eq 987 985 dL_law_982 rfl rfl (fun hc => ?_) (fun hc => ?_)
      · replace hq := z_ip hq hc
        refine z_goto 2460 dL_law_987 rfl ?_
        refine z_iinc (r := (wr (v5 + 5))) (L' := [some (zr 1050), some (zr 0), some (zr 142), some (zr 156), some (zr 157), some (zi (wr (v5 + 5))), some (zi a35), some (zi a36), none]) 2463 dL_law_2460 rfl rfl rfl rfl rfl rfl ?_
        refine z_goto 28 dL_law_2463 rfl ?_
        exact z_mono (by omega) (by omega) (Z.sub (zle_s (zle_s (zle_s (zle_s (zle_s (zle_s (zle_n (zle_n (zle_n zle_nil))))))))) (hrec _ _ hq))
      · replace hq := z_in hq hc
        refine z_iconst 986 dL_law_985 rfl (by decide) ?_
        obtain ⟨ho, hv⟩ := hr _ _ (Option.some.inj hq).symm
        exact z_conv ho hv (z_zreturn rfl dL_law_986 (by decide))
  · replace hq := z_in hq hc
    refine z_iconst 969 dL_law_968 rfl (by decide) ?_
    obtain ⟨ho, hv⟩ := hr _ _ (Option.some.inj hq).symm
    exact z_conv ho hv (z_zreturn rfl dL_law_969 (by decide))
set_option maxRecDepth 100000 in
set_option maxHeartbeats 4000000 in
theorem J_qL_law_j990 {g : yG} {a : Nat → Nat} {μ ν : zM} {o : zO} {kc ks : Nat} {scL : Int} {scV : Int → Int} {v5 : Int} {rec : zM → Int → Option ((Int ⊕ Unit) × zM)} {R : (Int ⊕ Unit) × zM} (hL : scL = (g.2.2.2.2.1 : Int)) (hLi : y_in scL) (hV : ∀ i : Int, 0 ≤ i → g.2.2.2.2.2 i.toNat = scV i) (hVi : ∀ i, y_in (scV i)) (hr : ∀ (x : Int) (m : zM), R = (.inl x, m) → o = .inl (some (zi x)) ∧ ν = m) (he : ∀ (tz : Unit) (m : zM), R = (.inr tz, m) → Z g a mL_law 2038 0 0 2466 [some (zr 1050), some (zr 0), some (zr 142), some (zr 156), some (zr 157), none, none, none, none] [] m o ν) (hrec : ∀ (μ : zM) (v5 : Int), rec μ v5 = some R → Z g a mL_law 2038 kc ks 28 [some (zr 1050), some (zr 0), some (zr 142), some (zr 156), some (zr 157), some (zi v5), none, none, none] [] μ o ν) (hq : qL_law_j990 rec scL scV μ v5 = some R) : Z g a mL_law 2038 (kc + 2) (ks + 12) 990 [some (zr 1050), some (zr 0), some (zr 142), some (zr 156), some (zr 157), some (zi v5), none, none, none] [] μ o ν := by
  unfold qL_law_j990 at hq
  refine z_aload_n 991 dL_law_990 rfl rfl ?_
  obtain ⟨a38, h38, hq⟩ := z_b hq
  refine z_callV1 (as := []) (S := []) 994 dL_law_991 rfl (Q_qT_vacantFlats  h38) kX9_vacantFlats ⟨_, _, rfl⟩ ar_0 l_RL_184 rfl rfl rfl rfl rfl rfl rfl ?_
  refine z_aload_n 995 dL_law_994 rfl rfl ?_
  obtain ⟨a39, m39, h39, hq⟩ := bnd2_some hq
  refine z_callV1 (as := []) (S := [zi a38]) 998 dL_law_995 rfl (Q_qM_vacantFlats  h39) kX10_vacantFlats ⟨_, _, rfl⟩ ar_142 l_RL_187 rfl rfl rfl rfl rfl rfl rfl ?_
  refine z_icmp_eq 2460 1001 dL_law_998 rfl rfl (fun hc => ?_) (fun hc => ?_)
  · replace hq := z_ip hq hc
    refine z_iinc (r := (wr (v5 + 5))) (L' := [some (zr 1050), some (zr 0), some (zr 142), some (zr 156), some (zr 157), some (zi (wr (v5 + 5))), none, none, none]) 2463 dL_law_2460 rfl rfl rfl rfl rfl rfl ?_
    refine z_goto 28 dL_law_2463 rfl ?_
    exact z_mono (by omega) (by omega) (Z.sub (zle_s (zle_s (zle_s (zle_s (zle_s (zle_s (zle_n (zle_n (zle_n zle_nil))))))))) (hrec _ _ hq))
  · replace hq := z_in hq hc
    refine z_iconst 1002 dL_law_1001 rfl (by decide) ?_
    obtain ⟨ho, hv⟩ := hr _ _ (Option.some.inj hq).symm
    exact z_conv ho hv (z_zreturn rfl dL_law_1002 (by decide))
set_option maxRecDepth 100000 in
set_option maxHeartbeats 4000000 in
theorem J_qL_law_j1003 {g : yG} {a : Nat → Nat} {μ ν : zM} {o : zO} {kc ks : Nat} {scL : Int} {scV : Int → Int} {v5 : Int} {rec : zM → Int → Option ((Int ⊕ Unit) × zM)} {R : (Int ⊕ Unit) × zM} (hL : scL = (g.2.2.2.2.1 : Int)) (hLi : y_in scL) (hV : ∀ i : Int, 0 ≤ i → g.2.2.2.2.2 i.toNat = scV i) (hVi : ∀ i, y_in (scV i)) (hr : ∀ (x : Int) (m : zM), R = (.inl x, m) → o = .inl (some (zi x)) ∧ ν = m) (he : ∀ (tz : Unit) (m : zM), R = (.inr tz, m) → Z g a mL_law 2038 0 0 2466 [some (zr 1050), some (zr 0), some (zr 142), some (zr 156), some (zr 157), none, none, none, none] [] m o ν) (hrec : ∀ (μ : zM) (v5 : Int), rec μ v5 = some R → Z g a mL_law 2038 kc ks 28 [some (zr 1050), some (zr 0), some (zr 142), some (zr 156), some (zr 157), some (zi v5), none, none, none] [] μ o ν) (hq : qL_law_j1003 rec scL scV μ v5 = some R) : Z g a mL_law 2038 (kc + 2) (ks + 12) 1003 [some (zr 1050), some (zr 0), some (zr 142), some (zr 156), some (zr 157), some (zi v5), none, none, none] [] μ o ν := by
  unfold qL_law_j1003 at hq
  refine z_aload_n 1004 dL_law_1003 rfl rfl ?_
  obtain ⟨a40, h40, hq⟩ := z_b hq
  refine z_callV1 (as := []) (S := []) 1007 dL_law_1004 rfl (Q_qT_tenants  h40) kX9_tenants ⟨_, _, rfl⟩ ar_0 l_RL_188 rfl rfl rfl rfl rfl rfl rfl ?_
  refine z_aload_n 1008 dL_law_1007 rfl rfl ?_
  obtain ⟨a41, m41, h41, hq⟩ := bnd2_some hq
  refine z_callV1 (as := []) (S := [zi a40]) 1011 dL_law_1008 rfl (Q_qM_tenants  h41) kX10_tenants ⟨_, _, rfl⟩ ar_142 l_RL_191 rfl rfl rfl rfl rfl rfl rfl ?_
  refine z_icmp_eq 2460 1014 dL_law_1011 rfl rfl (fun hc => ?_) (fun hc => ?_)
  · replace hq := z_ip hq hc
    refine z_iinc (r := (wr (v5 + 5))) (L' := [some (zr 1050), some (zr 0), some (zr 142), some (zr 156), some (zr 157), some (zi (wr (v5 + 5))), none, none, none]) 2463 dL_law_2460 rfl rfl rfl rfl rfl rfl ?_
    refine z_goto 28 dL_law_2463 rfl ?_
    exact z_mono (by omega) (by omega) (Z.sub (zle_s (zle_s (zle_s (zle_s (zle_s (zle_s (zle_n (zle_n (zle_n zle_nil))))))))) (hrec _ _ hq))
  · replace hq := z_in hq hc
    refine z_iconst 1015 dL_law_1014 rfl (by decide) ?_
    obtain ⟨ho, hv⟩ := hr _ _ (Option.some.inj hq).symm
    exact z_conv ho hv (z_zreturn rfl dL_law_1015 (by decide))
set_option maxRecDepth 100000 in
set_option maxHeartbeats 4000000 in
theorem J_qL_law_j1016 {g : yG} {a : Nat → Nat} {μ ν : zM} {o : zO} {kc ks : Nat} {scL : Int} {scV : Int → Int} {v5 : Int} {rec : zM → Int → Option ((Int ⊕ Unit) × zM)} {R : (Int ⊕ Unit) × zM} (hL : scL = (g.2.2.2.2.1 : Int)) (hLi : y_in scL) (hV : ∀ i : Int, 0 ≤ i → g.2.2.2.2.2 i.toNat = scV i) (hVi : ∀ i, y_in (scV i)) (hr : ∀ (x : Int) (m : zM), R = (.inl x, m) → o = .inl (some (zi x)) ∧ ν = m) (he : ∀ (tz : Unit) (m : zM), R = (.inr tz, m) → Z g a mL_law 2038 0 0 2466 [some (zr 1050), some (zr 0), some (zr 142), some (zr 156), some (zr 157), none, none, none, none] [] m o ν) (hrec : ∀ (μ : zM) (v5 : Int), rec μ v5 = some R → Z g a mL_law 2038 kc ks 28 [some (zr 1050), some (zr 0), some (zr 142), some (zr 156), some (zr 157), some (zi v5), none, none, none] [] μ o ν) (hq : qL_law_j1016 rec scL scV μ v5 = some R) : Z g a mL_law 2038 (kc + 2) (ks + 12) 1016 [some (zr 1050), some (zr 0), some (zr 142), some (zr 156), some (zr 157), some (zi v5), none, none, none] [] μ o ν := by
  unfold qL_law_j1016 at hq
  refine z_aload_n 1017 dL_law_1016 rfl rfl ?_
  refine z_aload_n 1018 dL_law_1017 rfl rfl ?_
  refine z_iload 1020 dL_law_1018 rfl rfl ?_
  refine z_iconst 1021 dL_law_1020 rfl (by decide) ?_
  refine z_iadd (r := (wr (v5 + 1))) 1022 dL_law_1021 rfl rfl ?_
  obtain ⟨hg1022, hq⟩ := z_g hq
  refine z_sld 1023 dL_law_1022 rfl ⟨hg1022.1, hL ▸ hg1022.2⟩ (hV _ hg1022.1) (hVi _) ?_
  obtain ⟨a42, h42, hq⟩ := z_b hq
  refine z_callV1 (as := [zi (scV (wr (v5 + 1)))]) (S := []) 1026 dL_law_1023 rfl (Q_qT_isPresent  h42) kX9_isPresent ⟨_, _, rfl⟩ ar_0 l_RL_192 rfl rfl rfl rfl rfl rfl rfl ?_
  refine z_aload_n 1027 dL_law_1026 rfl rfl ?_
  refine z_aload_n 1028 dL_law_1027 rfl rfl ?_
  refine z_iload 1030 dL_law_1028 rfl rfl ?_
  refine z_iconst 1031 dL_law_1030 rfl (by decide) ?_
  refine z_iadd (r := (wr (v5 + 1))) 1032 dL_law_1031 rfl rfl ?_
  obtain ⟨hg1032, hq⟩ := z_g hq
  refine z_sld 1033 dL_law_1032 rfl ⟨hg1032.1, hL ▸ hg1032.2⟩ (hV _ hg1032.1) (hVi _) ?_
  obtain ⟨a43, m43, h43, hq⟩ := bnd2_some hq
  refine z_callV1 (as := [zi (scV (wr (v5 + 1)))]) (S := [zi a42]) 1036 dL_law_1033 rfl (Q_qM_isPresent  h43) kX10_isPresent ⟨_, _, rfl⟩ ar_142 l_RL_196 rfl rfl rfl rfl rfl rfl rfl ?_
  refine z_icmp_eq 2460 1039 dL_law_1036 rfl rfl (fun hc => ?_) (fun hc => ?_)
  · replace hq := z_ip hq hc
    refine z_iinc (r := (wr (v5 + 5))) (L' := [some (zr 1050), some (zr 0), some (zr 142), some (zr 156), some (zr 157), some (zi (wr (v5 + 5))), none, none, none]) 2463 dL_law_2460 rfl rfl rfl rfl rfl rfl ?_
    refine z_goto 28 dL_law_2463 rfl ?_
    exact z_mono (by omega) (by omega) (Z.sub (zle_s (zle_s (zle_s (zle_s (zle_s (zle_s (zle_n (zle_n (zle_n zle_nil))))))))) (hrec _ _ hq))
  · replace hq := z_in hq hc
    refine z_iconst 1040 dL_law_1039 rfl (by decide) ?_
    obtain ⟨ho, hv⟩ := hr _ _ (Option.some.inj hq).symm
    exact z_conv ho hv (z_zreturn rfl dL_law_1040 (by decide))
set_option maxRecDepth 100000 in
set_option maxHeartbeats 4000000 in
theorem J_qL_law_j1041 {g : yG} {a : Nat → Nat} {μ ν : zM} {o : zO} {kc ks : Nat} {scL : Int} {scV : Int → Int} {v5 : Int} {rec : zM → Int → Option ((Int ⊕ Unit) × zM)} {R : (Int ⊕ Unit) × zM} (hL : scL = (g.2.2.2.2.1 : Int)) (hLi : y_in scL) (hV : ∀ i : Int, 0 ≤ i → g.2.2.2.2.2 i.toNat = scV i) (hVi : ∀ i, y_in (scV i)) (hr : ∀ (x : Int) (m : zM), R = (.inl x, m) → o = .inl (some (zi x)) ∧ ν = m) (he : ∀ (tz : Unit) (m : zM), R = (.inr tz, m) → Z g a mL_law 2038 0 0 2466 [some (zr 1050), some (zr 0), some (zr 142), some (zr 156), some (zr 157), none, none, none, none] [] m o ν) (hrec : ∀ (μ : zM) (v5 : Int), rec μ v5 = some R → Z g a mL_law 2038 kc ks 28 [some (zr 1050), some (zr 0), some (zr 142), some (zr 156), some (zr 157), some (zi v5), none, none, none] [] μ o ν) (hq : qL_law_j1041 rec scL scV μ v5 = some R) : Z g a mL_law 2038 (kc + 2) (ks + 12) 1041 [some (zr 1050), some (zr 0), some (zr 142), some (zr 156), some (zr 157), some (zi v5), none, none, none] [] μ o ν := by
  unfold qL_law_j1041 at hq
  refine z_aload_n 1042 dL_law_1041 rfl rfl ?_
  refine z_aload_n 1043 dL_law_1042 rfl rfl ?_
  refine z_iload 1045 dL_law_1043 rfl rfl ?_
  refine z_iconst 1046 dL_law_1045 rfl (by decide) ?_
  refine z_iadd (r := (wr (v5 + 1))) 1047 dL_law_1046 rfl rfl ?_
  obtain ⟨hg1047, hq⟩ := z_g hq
  refine z_sld 1048 dL_law_1047 rfl ⟨hg1047.1, hL ▸ hg1047.2⟩ (hV _ hg1047.1) (hVi _) ?_
  refine z_aload_n 1049 dL_law_1048 rfl rfl ?_
  obtain ⟨a44, m44, h44, hq⟩ := bnd2_some hq
  refine z_callSH1 (as := [zr 0, zi (scV (wr (v5 + 1))), zr 156]) (S := []) (kc := kc + 1) (ks := ks + 6) 1052 dL_law_1049 rfl (Q_qL_weightOf h44) kL_weightOf l_RL_197 rfl rfl rfl rfl rfl rfl rfl ?_
  refine z_istore (L' := [some (zr 1050), some (zr 0), some (zr 142), some (zr 156), some (zr 157), some (zi v5), some (zi a44), none, none]) 1054 dL_law_1052 rfl rfl rfl rfl ?_
  refine z_aload_n 1055 dL_law_1054 rfl rfl ?_
  refine z_aload_n 1056 dL_law_1055 rfl rfl ?_
  refine z_iload 1058 dL_law_1056 rfl rfl ?_
  refine z_iconst 1059 dL_law_1058 rfl (by decide) ?_
  refine z_iadd (r := (wr (v5 + 1))) 1060 dL_law_1059 rfl rfl ?_
  obtain ⟨hg1060, hq⟩ := z_g hq
  refine z_sld 1061 dL_law_1060 rfl ⟨hg1060.1, hL ▸ hg1060.2⟩ (hV _ hg1060.1) (hVi _) ?_
  obtain ⟨a45, m45, h45, hq⟩ := bnd2_some hq
  refine z_callV1 (as := [zi (scV (wr (v5 + 1)))]) (S := []) 1064 dL_law_1061 rfl (Q_qM_weightOf  h45) kX10_weightOf ⟨_, _, rfl⟩ ar_142 l_RL_199 rfl rfl rfl rfl rfl rfl rfl ?_
  refine z_istore (L' := [some (zr 1050), some (zr 0), some (zr 142), some (zr 156), some (zr 157), some (zi v5), some (zi a44), some (zi a45), none]) 1066 dL_law_1064 rfl rfl rfl rfl ?_
  refine z_aload_n 1067 dL_law_1066 rfl rfl ?_
  obtain ⟨a46, h46, hq⟩ := z_b hq
  refine z_callV1 (as := []) (S := []) 1070 dL_law_1067 rfl (Q_qM_thrown  h46) kX10_thrown ⟨_, _, rfl⟩ ar_142 l_RL_141 rfl rfl rfl rfl rfl rfl rfl ?_
  refine z_iload 1072 dL_law_1070 rfl rfl ?_
  refine z_icmp_eq 1077 1075 dL_law_1072 rfl rfl (fun hc => ?_) (fun hc => ?_)
  · replace hq := z_ip hq hc
    refine z_iload 1079 dL_law_1077 rfl rfl ?_
    refine z_if_ne 1094 1082 dL_law_1079 rfl rfl (fun hc => ?_) (fun hc => ?_)
    · replace hq := z_in hq hc
      refine z_goto 2460 dL_law_1094 rfl ?_
      refine z_iinc (r := (wr (v5 + 5))) (L' := [some (zr 1050), some (zr 0), some (zr 142), some (zr 156), some (zr 157), some (zi (wr (v5 + 5))), some (zi a44), some (zi a45), none]) 2463 dL_law_2460 rfl rfl rfl rfl rfl rfl ?_
      refine z_goto 28 dL_law_2463 rfl ?_
      exact z_mono (by omega) (by omega) (Z.sub (zle_s (zle_s (zle_s (zle_s (zle_s (zle_s (zle_n (zle_n (zle_n zle_nil))))))))) (hrec _ _ hq))
    · replace hq := z_ip hq hc
      refine z_aload_n 1083 dL_law_1082 rfl rfl ?_
      refine z_iconst 1084 dL_law_1083 rfl (by decide) ?_
      refine z_laload (x := (m45 156 0)) 1085 dL_law_1084 rfl ar_156 ⟨by decide, by decide⟩ rfl ?_
      refine z_iload 1087 dL_law_1085 rfl rfl ?_
      refine z_i2l 1088 dL_law_1087 rfl ?_
      refine z_lcmp 1089 dL_law_1088 rfl ?_
      refine z_if_eq 1094 1092 dL_law_1089 rfl rfl (fun hc => ?_) (fun hc => ?_)
      · replace hq := z_ip hq hc
        refine z_goto 2460 dL_law_1094 rfl ?_
        refine z_iinc (r := (wr (v5 + 5))) (L' := [some (zr 1050), some (zr 0), some (zr 142), some (zr 156), some (zr 157), some (zi (wr (v5 + 5))), some (zi a44), some (zi a45), none]) 2463 dL_law_2460 rfl rfl rfl rfl rfl rfl ?_
        refine z_goto 28 dL_law_2463 rfl ?_
        exact z_mono (by omega) (by omega) (Z.sub (zle_s (zle_s (zle_s (zle_s (zle_s (zle_s (zle_n (zle_n (zle_n zle_nil))))))))) (hrec _ _ hq))
      · replace hq := z_in hq hc
        refine z_iconst 1093 dL_law_1092 rfl (by decide) ?_
        obtain ⟨ho, hv⟩ := hr _ _ (Option.some.inj hq).symm
        exact z_conv ho hv (z_zreturn rfl dL_law_1093 (by decide))
  · replace hq := z_in hq hc
    refine z_iconst 1076 dL_law_1075 rfl (by decide) ?_
    obtain ⟨ho, hv⟩ := hr _ _ (Option.some.inj hq).symm
    exact z_conv ho hv (z_zreturn rfl dL_law_1076 (by decide))
set_option maxRecDepth 100000 in
set_option maxHeartbeats 4000000 in
theorem J_qL_law_j1097 {g : yG} {a : Nat → Nat} {μ ν : zM} {o : zO} {kc ks : Nat} {scL : Int} {scV : Int → Int} {v5 : Int} {rec : zM → Int → Option ((Int ⊕ Unit) × zM)} {R : (Int ⊕ Unit) × zM} (hL : scL = (g.2.2.2.2.1 : Int)) (hLi : y_in scL) (hV : ∀ i : Int, 0 ≤ i → g.2.2.2.2.2 i.toNat = scV i) (hVi : ∀ i, y_in (scV i)) (hr : ∀ (x : Int) (m : zM), R = (.inl x, m) → o = .inl (some (zi x)) ∧ ν = m) (he : ∀ (tz : Unit) (m : zM), R = (.inr tz, m) → Z g a mL_law 2038 0 0 2466 [some (zr 1050), some (zr 0), some (zr 142), some (zr 156), some (zr 157), none, none, none, none] [] m o ν) (hrec : ∀ (μ : zM) (v5 : Int), rec μ v5 = some R → Z g a mL_law 2038 kc ks 28 [some (zr 1050), some (zr 0), some (zr 142), some (zr 156), some (zr 157), some (zi v5), none, none, none] [] μ o ν) (hq : qL_law_j1097 rec scL scV μ v5 = some R) : Z g a mL_law 2038 (kc + 2) (ks + 12) 1097 [some (zr 1050), some (zr 0), some (zr 142), some (zr 156), some (zr 157), some (zi v5), none, none, none] [] μ o ν := by
  unfold qL_law_j1097 at hq
  refine z_aload_n 1098 dL_law_1097 rfl rfl ?_
  refine z_aload_n 1099 dL_law_1098 rfl rfl ?_
  refine z_iload 1101 dL_law_1099 rfl rfl ?_
  refine z_iconst 1102 dL_law_1101 rfl (by decide) ?_
  refine z_iadd (r := (wr (v5 + 1))) 1103 dL_law_1102 rfl rfl ?_
  obtain ⟨hg1103, hq⟩ := z_g hq
  refine z_sld 1104 dL_law_1103 rfl ⟨hg1103.1, hL ▸ hg1103.2⟩ (hV _ hg1103.1) (hVi _) ?_
  refine z_aload_n 1105 dL_law_1104 rfl rfl ?_
  obtain ⟨a47, m47, h47, hq⟩ := bnd2_some hq
  refine z_callSH1 (as := [zr 0, zi (scV (wr (v5 + 1))), zr 156]) (S := []) (kc := kc + 1) (ks := ks + 6) 1108 dL_law_1105 rfl (Q_qL_purseOf h47) kL_purseOf l_RL_200 rfl rfl rfl rfl rfl rfl rfl ?_
  refine z_istore (L' := [some (zr 1050), some (zr 0), some (zr 142), some (zr 156), some (zr 157), some (zi v5), some (zi a47), none, none]) 1110 dL_law_1108 rfl rfl rfl rfl ?_
  refine z_aload_n 1111 dL_law_1110 rfl rfl ?_
  refine z_aload_n 1112 dL_law_1111 rfl rfl ?_
  refine z_iload 1114 dL_law_1112 rfl rfl ?_
  refine z_iconst 1115 dL_law_1114 rfl (by decide) ?_
  refine z_iadd (r := (wr (v5 + 1))) 1116 dL_law_1115 rfl rfl ?_
  obtain ⟨hg1116, hq⟩ := z_g hq
  refine z_sld 1117 dL_law_1116 rfl ⟨hg1116.1, hL ▸ hg1116.2⟩ (hV _ hg1116.1) (hVi _) ?_
  obtain ⟨a48, m48, h48, hq⟩ := bnd2_some hq
  refine z_callV1 (as := [zi (scV (wr (v5 + 1)))]) (S := []) 1120 dL_law_1117 rfl (Q_qM_purseOf  h48) kX10_purseOf ⟨_, _, rfl⟩ ar_142 l_RL_202 rfl rfl rfl rfl rfl rfl rfl ?_
  refine z_istore (L' := [some (zr 1050), some (zr 0), some (zr 142), some (zr 156), some (zr 157), some (zi v5), some (zi a47), some (zi a48), none]) 1122 dL_law_1120 rfl rfl rfl rfl ?_
  refine z_aload_n 1123 dL_law_1122 rfl rfl ?_
  obtain ⟨a49, h49, hq⟩ := z_b hq
  refine z_callV1 (as := []) (S := []) 1126 dL_law_1123 rfl (Q_qM_thrown  h49) kX10_thrown ⟨_, _, rfl⟩ ar_142 l_RL_141 rfl rfl rfl rfl rfl rfl rfl ?_
  refine z_iload 1128 dL_law_1126 rfl rfl ?_
  refine z_icmp_eq 1133 1131 dL_law_1128 rfl rfl (fun hc => ?_) (fun hc => ?_)
  · replace hq := z_ip hq hc
    refine z_iload 1135 dL_law_1133 rfl rfl ?_
    refine z_if_ne 1150 1138 dL_law_1135 rfl rfl (fun hc => ?_) (fun hc => ?_)
    · replace hq := z_in hq hc
      refine z_goto 2460 dL_law_1150 rfl ?_
      refine z_iinc (r := (wr (v5 + 5))) (L' := [some (zr 1050), some (zr 0), some (zr 142), some (zr 156), some (zr 157), some (zi (wr (v5 + 5))), some (zi a47), some (zi a48), none]) 2463 dL_law_2460 rfl rfl rfl rfl rfl rfl ?_
      refine z_goto 28 dL_law_2463 rfl ?_
      exact z_mono (by omega) (by omega) (Z.sub (zle_s (zle_s (zle_s (zle_s (zle_s (zle_s (zle_n (zle_n (zle_n zle_nil))))))))) (hrec _ _ hq))
    · replace hq := z_ip hq hc
      refine z_aload_n 1139 dL_law_1138 rfl rfl ?_
      refine z_iconst 1140 dL_law_1139 rfl (by decide) ?_
      refine z_laload (x := (m48 156 0)) 1141 dL_law_1140 rfl ar_156 ⟨by decide, by decide⟩ rfl ?_
      refine z_iload 1143 dL_law_1141 rfl rfl ?_
      refine z_i2l 1144 dL_law_1143 rfl ?_
      refine z_lcmp 1145 dL_law_1144 rfl ?_
      refine z_if_eq 1150 1148 dL_law_1145 rfl rfl (fun hc => ?_) (fun hc => ?_)
      · replace hq := z_ip hq hc
        refine z_goto 2460 dL_law_1150 rfl ?_
        refine z_iinc (r := (wr (v5 + 5))) (L' := [some (zr 1050), some (zr 0), some (zr 142), some (zr 156), some (zr 157), some (zi (wr (v5 + 5))), some (zi a47), some (zi a48), none]) 2463 dL_law_2460 rfl rfl rfl rfl rfl rfl ?_
        refine z_goto 28 dL_law_2463 rfl ?_
        exact z_mono (by omega) (by omega) (Z.sub (zle_s (zle_s (zle_s (zle_s (zle_s (zle_s (zle_n (zle_n (zle_n zle_nil))))))))) (hrec _ _ hq))
      · replace hq := z_in hq hc
        refine z_iconst 1149 dL_law_1148 rfl (by decide) ?_
        obtain ⟨ho, hv⟩ := hr _ _ (Option.some.inj hq).symm
        exact z_conv ho hv (z_zreturn rfl dL_law_1149 (by decide))
  · replace hq := z_in hq hc
    refine z_iconst 1132 dL_law_1131 rfl (by decide) ?_
    obtain ⟨ho, hv⟩ := hr _ _ (Option.some.inj hq).symm
    exact z_conv ho hv (z_zreturn rfl dL_law_1132 (by decide))
set_option maxRecDepth 100000 in
set_option maxHeartbeats 4000000 in
theorem J_qL_law_j1153 {g : yG} {a : Nat → Nat} {μ ν : zM} {o : zO} {kc ks : Nat} {scL : Int} {scV : Int → Int} {v5 : Int} {rec : zM → Int → Option ((Int ⊕ Unit) × zM)} {R : (Int ⊕ Unit) × zM} (hL : scL = (g.2.2.2.2.1 : Int)) (hLi : y_in scL) (hV : ∀ i : Int, 0 ≤ i → g.2.2.2.2.2 i.toNat = scV i) (hVi : ∀ i, y_in (scV i)) (hr : ∀ (x : Int) (m : zM), R = (.inl x, m) → o = .inl (some (zi x)) ∧ ν = m) (he : ∀ (tz : Unit) (m : zM), R = (.inr tz, m) → Z g a mL_law 2038 0 0 2466 [some (zr 1050), some (zr 0), some (zr 142), some (zr 156), some (zr 157), none, none, none, none] [] m o ν) (hrec : ∀ (μ : zM) (v5 : Int), rec μ v5 = some R → Z g a mL_law 2038 kc ks 28 [some (zr 1050), some (zr 0), some (zr 142), some (zr 156), some (zr 157), some (zi v5), none, none, none] [] μ o ν) (hq : qL_law_j1153 rec scL scV μ v5 = some R) : Z g a mL_law 2038 (kc + 2) (ks + 12) 1153 [some (zr 1050), some (zr 0), some (zr 142), some (zr 156), some (zr 157), some (zi v5), none, none, none] [] μ o ν := by
  unfold qL_law_j1153 at hq
  refine z_aload_n 1154 dL_law_1153 rfl rfl ?_
  refine z_aload_n 1155 dL_law_1154 rfl rfl ?_
  refine z_iload 1157 dL_law_1155 rfl rfl ?_
  refine z_iconst 1158 dL_law_1157 rfl (by decide) ?_
  refine z_iadd (r := (wr (v5 + 1))) 1159 dL_law_1158 rfl rfl ?_
  obtain ⟨hg1159, hq⟩ := z_g hq
  refine z_sld 1160 dL_law_1159 rfl ⟨hg1159.1, hL ▸ hg1159.2⟩ (hV _ hg1159.1) (hVi _) ?_
  refine z_aload_n 1161 dL_law_1160 rfl rfl ?_
  obtain ⟨a50, m50, h50, hq⟩ := bnd2_some hq
  refine z_callSH1 (as := [zr 0, zi (scV (wr (v5 + 1))), zr 156]) (S := []) (kc := kc + 1) (ks := ks + 6) 1164 dL_law_1161 rfl (Q_qL_noticesOf h50) kL_noticesOf l_RL_203 rfl rfl rfl rfl rfl rfl rfl ?_
  refine z_istore (L' := [some (zr 1050), some (zr 0), some (zr 142), some (zr 156), some (zr 157), some (zi v5), some (zi a50), none, none]) 1166 dL_law_1164 rfl rfl rfl rfl ?_
  refine z_aload_n 1167 dL_law_1166 rfl rfl ?_
  refine z_aload_n 1168 dL_law_1167 rfl rfl ?_
  refine z_iload 1170 dL_law_1168 rfl rfl ?_
  refine z_iconst 1171 dL_law_1170 rfl (by decide) ?_
  refine z_iadd (r := (wr (v5 + 1))) 1172 dL_law_1171 rfl rfl ?_
  obtain ⟨hg1172, hq⟩ := z_g hq
  refine z_sld 1173 dL_law_1172 rfl ⟨hg1172.1, hL ▸ hg1172.2⟩ (hV _ hg1172.1) (hVi _) ?_
  obtain ⟨a51, m51, h51, hq⟩ := bnd2_some hq
  refine z_callV1 (as := [zi (scV (wr (v5 + 1)))]) (S := []) 1176 dL_law_1173 rfl (Q_qM_noticesOf  h51) kX10_noticesOf ⟨_, _, rfl⟩ ar_142 l_RL_205 rfl rfl rfl rfl rfl rfl rfl ?_
  refine z_istore (L' := [some (zr 1050), some (zr 0), some (zr 142), some (zr 156), some (zr 157), some (zi v5), some (zi a50), some (zi a51), none]) 1178 dL_law_1176 rfl rfl rfl rfl ?_
  refine z_aload_n 1179 dL_law_1178 rfl rfl ?_
  obtain ⟨a52, h52, hq⟩ := z_b hq
  refine z_callV1 (as := []) (S := []) 1182 dL_law_1179 rfl (Q_qM_thrown  h52) kX10_thrown ⟨_, _, rfl⟩ ar_142 l_RL_141 rfl rfl rfl rfl rfl rfl rfl ?_
  refine z_iload 1184 dL_law_1182 rfl rfl ?_
  refine z_icmp_eq 1189 1187 dL_law_1184 rfl rfl (fun hc => ?_) (fun hc => ?_)
  · replace hq := z_ip hq hc
    refine z_iload 1191 dL_law_1189 rfl rfl ?_
    refine z_if_ne 1206 1194 dL_law_1191 rfl rfl (fun hc => ?_) (fun hc => ?_)
    · replace hq := z_in hq hc
      refine z_goto 2460 dL_law_1206 rfl ?_
      refine z_iinc (r := (wr (v5 + 5))) (L' := [some (zr 1050), some (zr 0), some (zr 142), some (zr 156), some (zr 157), some (zi (wr (v5 + 5))), some (zi a50), some (zi a51), none]) 2463 dL_law_2460 rfl rfl rfl rfl rfl rfl ?_
      refine z_goto 28 dL_law_2463 rfl ?_
      exact z_mono (by omega) (by omega) (Z.sub (zle_s (zle_s (zle_s (zle_s (zle_s (zle_s (zle_n (zle_n (zle_n zle_nil))))))))) (hrec _ _ hq))
    · replace hq := z_ip hq hc
      refine z_aload_n 1195 dL_law_1194 rfl rfl ?_
      refine z_iconst 1196 dL_law_1195 rfl (by decide) ?_
      refine z_laload (x := (m51 156 0)) 1197 dL_law_1196 rfl ar_156 ⟨by decide, by decide⟩ rfl ?_
      refine z_iload 1199 dL_law_1197 rfl rfl ?_
      refine z_i2l 1200 dL_law_1199 rfl ?_
      refine z_lcmp 1201 dL_law_1200 rfl ?_
      refine z_if_eq 1206 1204 dL_law_1201 rfl rfl (fun hc => ?_) (fun hc => ?_)
      · replace hq := z_ip hq hc
        refine z_goto 2460 dL_law_1206 rfl ?_
        refine z_iinc (r := (wr (v5 + 5))) (L' := [some (zr 1050), some (zr 0), some (zr 142), some (zr 156), some (zr 157), some (zi (wr (v5 + 5))), some (zi a50), some (zi a51), none]) 2463 dL_law_2460 rfl rfl rfl rfl rfl rfl ?_
        refine z_goto 28 dL_law_2463 rfl ?_
        exact z_mono (by omega) (by omega) (Z.sub (zle_s (zle_s (zle_s (zle_s (zle_s (zle_s (zle_n (zle_n (zle_n zle_nil))))))))) (hrec _ _ hq))
      · replace hq := z_in hq hc
        refine z_iconst 1205 dL_law_1204 rfl (by decide) ?_
        obtain ⟨ho, hv⟩ := hr _ _ (Option.some.inj hq).symm
        exact z_conv ho hv (z_zreturn rfl dL_law_1205 (by decide))
  · replace hq := z_in hq hc
    refine z_iconst 1188 dL_law_1187 rfl (by decide) ?_
    obtain ⟨ho, hv⟩ := hr _ _ (Option.some.inj hq).symm
    exact z_conv ho hv (z_zreturn rfl dL_law_1188 (by decide))
set_option maxRecDepth 100000 in
set_option maxHeartbeats 4000000 in
theorem J_qL_law_j1209 {g : yG} {a : Nat → Nat} {μ ν : zM} {o : zO} {kc ks : Nat} {scL : Int} {scV : Int → Int} {v5 : Int} {rec : zM → Int → Option ((Int ⊕ Unit) × zM)} {R : (Int ⊕ Unit) × zM} (hL : scL = (g.2.2.2.2.1 : Int)) (hLi : y_in scL) (hV : ∀ i : Int, 0 ≤ i → g.2.2.2.2.2 i.toNat = scV i) (hVi : ∀ i, y_in (scV i)) (hr : ∀ (x : Int) (m : zM), R = (.inl x, m) → o = .inl (some (zi x)) ∧ ν = m) (he : ∀ (tz : Unit) (m : zM), R = (.inr tz, m) → Z g a mL_law 2038 0 0 2466 [some (zr 1050), some (zr 0), some (zr 142), some (zr 156), some (zr 157), none, none, none, none] [] m o ν) (hrec : ∀ (μ : zM) (v5 : Int), rec μ v5 = some R → Z g a mL_law 2038 kc ks 28 [some (zr 1050), some (zr 0), some (zr 142), some (zr 156), some (zr 157), some (zi v5), none, none, none] [] μ o ν) (hq : qL_law_j1209 rec scL scV μ v5 = some R) : Z g a mL_law 2038 (kc + 2) (ks + 12) 1209 [some (zr 1050), some (zr 0), some (zr 142), some (zr 156), some (zr 157), some (zi v5), none, none, none] [] μ o ν := by
  unfold qL_law_j1209 at hq
  refine z_aload_n 1210 dL_law_1209 rfl rfl ?_
  refine z_aload_n 1211 dL_law_1210 rfl rfl ?_
  refine z_iload 1213 dL_law_1211 rfl rfl ?_
  refine z_iconst 1214 dL_law_1213 rfl (by decide) ?_
  refine z_iadd (r := (wr (v5 + 1))) 1215 dL_law_1214 rfl rfl ?_
  obtain ⟨hg1215, hq⟩ := z_g hq
  refine z_sld 1216 dL_law_1215 rfl ⟨hg1215.1, hL ▸ hg1215.2⟩ (hV _ hg1215.1) (hVi _) ?_
  refine z_aload_n 1217 dL_law_1216 rfl rfl ?_
  obtain ⟨a53, m53, h53, hq⟩ := bnd2_some hq
  refine z_callSH1 (as := [zr 0, zi (scV (wr (v5 + 1))), zr 156]) (S := []) (kc := kc + 0) (ks := ks + 0) 1220 dL_law_1217 rfl (Q_qL_flatOf h53) kL_flatOf l_RL_206 rfl rfl rfl rfl rfl rfl rfl ?_
  refine z_istore (L' := [some (zr 1050), some (zr 0), some (zr 142), some (zr 156), some (zr 157), some (zi v5), some (zi a53), none, none]) 1222 dL_law_1220 rfl rfl rfl rfl ?_
  refine z_aload_n 1223 dL_law_1222 rfl rfl ?_
  refine z_aload_n 1224 dL_law_1223 rfl rfl ?_
  refine z_iload 1226 dL_law_1224 rfl rfl ?_
  refine z_iconst 1227 dL_law_1226 rfl (by decide) ?_
  refine z_iadd (r := (wr (v5 + 1))) 1228 dL_law_1227 rfl rfl ?_
  obtain ⟨hg1228, hq⟩ := z_g hq
  refine z_sld 1229 dL_law_1228 rfl ⟨hg1228.1, hL ▸ hg1228.2⟩ (hV _ hg1228.1) (hVi _) ?_
  obtain ⟨a54, m54, h54, hq⟩ := bnd2_some hq
  refine z_callV1 (as := [zi (scV (wr (v5 + 1)))]) (S := []) 1232 dL_law_1229 rfl (Q_qM_flatOf  h54) kX10_flatOf ⟨_, _, rfl⟩ ar_142 l_RL_208 rfl rfl rfl rfl rfl rfl rfl ?_
  refine z_istore (L' := [some (zr 1050), some (zr 0), some (zr 142), some (zr 156), some (zr 157), some (zi v5), some (zi a53), some (zi a54), none]) 1234 dL_law_1232 rfl rfl rfl rfl ?_
  refine z_aload_n 1235 dL_law_1234 rfl rfl ?_
  obtain ⟨a55, h55, hq⟩ := z_b hq
  refine z_callV1 (as := []) (S := []) 1238 dL_law_1235 rfl (Q_qM_thrown  h55) kX10_thrown ⟨_, _, rfl⟩ ar_142 l_RL_141 rfl rfl rfl rfl rfl rfl rfl ?_
  refine z_iload 1240 dL_law_1238 rfl rfl ?_
  refine z_icmp_eq 1245 1243 dL_law_1240 rfl rfl (fun hc => ?_) (fun hc => ?_)
  · replace hq := z_ip hq hc
    refine z_iload 1247 dL_law_1245 rfl rfl ?_
    refine z_if_ne 1262 1250 dL_law_1247 rfl rfl (fun hc => ?_) (fun hc => ?_)
    · replace hq := z_in hq hc
      refine z_goto 2460 dL_law_1262 rfl ?_
      refine z_iinc (r := (wr (v5 + 5))) (L' := [some (zr 1050), some (zr 0), some (zr 142), some (zr 156), some (zr 157), some (zi (wr (v5 + 5))), some (zi a53), some (zi a54), none]) 2463 dL_law_2460 rfl rfl rfl rfl rfl rfl ?_
      refine z_goto 28 dL_law_2463 rfl ?_
      exact z_mono (by omega) (by omega) (Z.sub (zle_s (zle_s (zle_s (zle_s (zle_s (zle_s (zle_n (zle_n (zle_n zle_nil))))))))) (hrec _ _ hq))
    · replace hq := z_ip hq hc
      refine z_aload_n 1251 dL_law_1250 rfl rfl ?_
      refine z_iconst 1252 dL_law_1251 rfl (by decide) ?_
      refine z_laload (x := (m54 156 0)) 1253 dL_law_1252 rfl ar_156 ⟨by decide, by decide⟩ rfl ?_
      refine z_iload 1255 dL_law_1253 rfl rfl ?_
      refine z_i2l 1256 dL_law_1255 rfl ?_
      refine z_lcmp 1257 dL_law_1256 rfl ?_
      refine z_if_eq 1262 1260 dL_law_1257 rfl rfl (fun hc => ?_) (fun hc => ?_)
      · replace hq := z_ip hq hc
        refine z_goto 2460 dL_law_1262 rfl ?_
        refine z_iinc (r := (wr (v5 + 5))) (L' := [some (zr 1050), some (zr 0), some (zr 142), some (zr 156), some (zr 157), some (zi (wr (v5 + 5))), some (zi a53), some (zi a54), none]) 2463 dL_law_2460 rfl rfl rfl rfl rfl rfl ?_
        refine z_goto 28 dL_law_2463 rfl ?_
        exact z_mono (by omega) (by omega) (Z.sub (zle_s (zle_s (zle_s (zle_s (zle_s (zle_s (zle_n (zle_n (zle_n zle_nil))))))))) (hrec _ _ hq))
      · replace hq := z_in hq hc
        refine z_iconst 1261 dL_law_1260 rfl (by decide) ?_
        obtain ⟨ho, hv⟩ := hr _ _ (Option.some.inj hq).symm
        exact z_conv ho hv (z_zreturn rfl dL_law_1261 (by decide))
  · replace hq := z_in hq hc
    refine z_iconst 1244 dL_law_1243 rfl (by decide) ?_
    obtain ⟨ho, hv⟩ := hr _ _ (Option.some.inj hq).symm
    exact z_conv ho hv (z_zreturn rfl dL_law_1244 (by decide))
set_option maxRecDepth 100000 in
set_option maxHeartbeats 4000000 in
theorem J_qL_law_j1265 {g : yG} {a : Nat → Nat} {μ ν : zM} {o : zO} {kc ks : Nat} {scL : Int} {scV : Int → Int} {v5 : Int} {rec : zM → Int → Option ((Int ⊕ Unit) × zM)} {R : (Int ⊕ Unit) × zM} (hL : scL = (g.2.2.2.2.1 : Int)) (hLi : y_in scL) (hV : ∀ i : Int, 0 ≤ i → g.2.2.2.2.2 i.toNat = scV i) (hVi : ∀ i, y_in (scV i)) (hr : ∀ (x : Int) (m : zM), R = (.inl x, m) → o = .inl (some (zi x)) ∧ ν = m) (he : ∀ (tz : Unit) (m : zM), R = (.inr tz, m) → Z g a mL_law 2038 0 0 2466 [some (zr 1050), some (zr 0), some (zr 142), some (zr 156), some (zr 157), none, none, none, none] [] m o ν) (hrec : ∀ (μ : zM) (v5 : Int), rec μ v5 = some R → Z g a mL_law 2038 kc ks 28 [some (zr 1050), some (zr 0), some (zr 142), some (zr 156), some (zr 157), some (zi v5), none, none, none] [] μ o ν) (hq : qL_law_j1265 rec scL scV μ v5 = some R) : Z g a mL_law 2038 (kc + 2) (ks + 12) 1265 [some (zr 1050), some (zr 0), some (zr 142), some (zr 156), some (zr 157), some (zi v5), none, none, none] [] μ o ν := by
  unfold qL_law_j1265 at hq
  refine z_aload_n 1266 dL_law_1265 rfl rfl ?_
  refine z_aload_n 1267 dL_law_1266 rfl rfl ?_
  refine z_iload 1269 dL_law_1267 rfl rfl ?_
  refine z_iconst 1270 dL_law_1269 rfl (by decide) ?_
  refine z_iadd (r := (wr (v5 + 1))) 1271 dL_law_1270 rfl rfl ?_
  obtain ⟨hg1271, hq⟩ := z_g hq
  refine z_sld 1272 dL_law_1271 rfl ⟨hg1271.1, hL ▸ hg1271.2⟩ (hV _ hg1271.1) (hVi _) ?_
  refine z_aload_n 1273 dL_law_1272 rfl rfl ?_
  refine z_iload 1275 dL_law_1273 rfl rfl ?_
  refine z_iconst 1276 dL_law_1275 rfl (by decide) ?_
  refine z_iadd (r := (wr (v5 + 2))) 1277 dL_law_1276 rfl rfl ?_
  obtain ⟨hg1277, hq⟩ := z_g hq
  refine z_sld 1278 dL_law_1277 rfl ⟨hg1277.1, hL ▸ hg1277.2⟩ (hV _ hg1277.1) (hVi _) ?_
  refine z_aload_n 1279 dL_law_1278 rfl rfl ?_
  obtain ⟨a56, m56, h56, hq⟩ := bnd2_some hq
  refine z_callSH1 (as := [zr 0, zi (scV (wr (v5 + 1))), zi (scV (wr (v5 + 2))), zr 156]) (S := []) (kc := kc + 0) (ks := ks + 0) 1282 dL_law_1279 rfl (Q_qL_burden h56) kL_burden l_RL_209 rfl rfl rfl rfl rfl rfl rfl ?_
  refine z_istore (L' := [some (zr 1050), some (zr 0), some (zr 142), some (zr 156), some (zr 157), some (zi v5), some (zi a56), none, none]) 1284 dL_law_1282 rfl rfl rfl rfl ?_
  refine z_aload_n 1285 dL_law_1284 rfl rfl ?_
  refine z_aload_n 1286 dL_law_1285 rfl rfl ?_
  refine z_iload 1288 dL_law_1286 rfl rfl ?_
  refine z_iconst 1289 dL_law_1288 rfl (by decide) ?_
  refine z_iadd (r := (wr (v5 + 1))) 1290 dL_law_1289 rfl rfl ?_
  obtain ⟨hg1290, hq⟩ := z_g hq
  refine z_sld 1291 dL_law_1290 rfl ⟨hg1290.1, hL ▸ hg1290.2⟩ (hV _ hg1290.1) (hVi _) ?_
  refine z_aload_n 1292 dL_law_1291 rfl rfl ?_
  refine z_iload 1294 dL_law_1292 rfl rfl ?_
  refine z_iconst 1295 dL_law_1294 rfl (by decide) ?_
  refine z_iadd (r := (wr (v5 + 2))) 1296 dL_law_1295 rfl rfl ?_
  obtain ⟨hg1296, hq⟩ := z_g hq
  refine z_sld 1297 dL_law_1296 rfl ⟨hg1296.1, hL ▸ hg1296.2⟩ (hV _ hg1296.1) (hVi _) ?_
  obtain ⟨a57, m57, h57, hq⟩ := bnd2_some hq
  refine z_callV1 (as := [zi (scV (wr (v5 + 1))), zi (scV (wr (v5 + 2)))]) (S := []) 1300 dL_law_1297 rfl (Q_qM_burden  h57) kX10_burden ⟨_, _, rfl⟩ ar_142 l_RL_211 rfl rfl rfl rfl rfl rfl rfl ?_
  refine z_istore (L' := [some (zr 1050), some (zr 0), some (zr 142), some (zr 156), some (zr 157), some (zi v5), some (zi a56), some (zi a57), none]) 1302 dL_law_1300 rfl rfl rfl rfl ?_
  refine z_aload_n 1303 dL_law_1302 rfl rfl ?_
  obtain ⟨a58, h58, hq⟩ := z_b hq
  refine z_callV1 (as := []) (S := []) 1306 dL_law_1303 rfl (Q_qM_thrown  h58) kX10_thrown ⟨_, _, rfl⟩ ar_142 l_RL_141 rfl rfl rfl rfl rfl rfl rfl ?_
  refine z_iload 1308 dL_law_1306 rfl rfl ?_
  refine z_icmp_eq 1313 1311 dL_law_1308 rfl rfl (fun hc => ?_) (fun hc => ?_)
  · replace hq := z_ip hq hc
    refine z_iload 1315 dL_law_1313 rfl rfl ?_
    refine z_if_ne 1330 1318 dL_law_1315 rfl rfl (fun hc => ?_) (fun hc => ?_)
    · replace hq := z_in hq hc
      refine z_goto 2460 dL_law_1330 rfl ?_
      refine z_iinc (r := (wr (v5 + 5))) (L' := [some (zr 1050), some (zr 0), some (zr 142), some (zr 156), some (zr 157), some (zi (wr (v5 + 5))), some (zi a56), some (zi a57), none]) 2463 dL_law_2460 rfl rfl rfl rfl rfl rfl ?_
      refine z_goto 28 dL_law_2463 rfl ?_
      exact z_mono (by omega) (by omega) (Z.sub (zle_s (zle_s (zle_s (zle_s (zle_s (zle_s (zle_n (zle_n (zle_n zle_nil))))))))) (hrec _ _ hq))
    · replace hq := z_ip hq hc
      refine z_aload_n 1319 dL_law_1318 rfl rfl ?_
      refine z_iconst 1320 dL_law_1319 rfl (by decide) ?_
      refine z_laload (x := (m57 156 0)) 1321 dL_law_1320 rfl ar_156 ⟨by decide, by decide⟩ rfl ?_
      refine z_iload 1323 dL_law_1321 rfl rfl ?_
      refine z_i2l 1324 dL_law_1323 rfl ?_
      refine z_lcmp 1325 dL_law_1324 rfl ?_
      refine z_if_eq 1330 1328 dL_law_1325 rfl rfl (fun hc => ?_) (fun hc => ?_)
      · replace hq := z_ip hq hc
        refine z_goto 2460 dL_law_1330 rfl ?_
        refine z_iinc (r := (wr (v5 + 5))) (L' := [some (zr 1050), some (zr 0), some (zr 142), some (zr 156), some (zr 157), some (zi (wr (v5 + 5))), some (zi a56), some (zi a57), none]) 2463 dL_law_2460 rfl rfl rfl rfl rfl rfl ?_
        refine z_goto 28 dL_law_2463 rfl ?_
        exact z_mono (by omega) (by omega) (Z.sub (zle_s (zle_s (zle_s (zle_s (zle_s (zle_s (zle_n (zle_n (zle_n zle_nil))))))))) (hrec _ _ hq))
      · replace hq := z_in hq hc
        refine z_iconst 1329 dL_law_1328 rfl (by decide) ?_
        obtain ⟨ho, hv⟩ := hr _ _ (Option.some.inj hq).symm
        exact z_conv ho hv (z_zreturn rfl dL_law_1329 (by decide))
  · replace hq := z_in hq hc
    refine z_iconst 1312 dL_law_1311 rfl (by decide) ?_
    obtain ⟨ho, hv⟩ := hr _ _ (Option.some.inj hq).symm
    exact z_conv ho hv (z_zreturn rfl dL_law_1312 (by decide))
set_option maxRecDepth 100000 in
set_option maxHeartbeats 4000000 in
theorem J_qL_law_j1333 {g : yG} {a : Nat → Nat} {μ ν : zM} {o : zO} {kc ks : Nat} {scL : Int} {scV : Int → Int} {v5 : Int} {rec : zM → Int → Option ((Int ⊕ Unit) × zM)} {R : (Int ⊕ Unit) × zM} (hL : scL = (g.2.2.2.2.1 : Int)) (hLi : y_in scL) (hV : ∀ i : Int, 0 ≤ i → g.2.2.2.2.2 i.toNat = scV i) (hVi : ∀ i, y_in (scV i)) (hr : ∀ (x : Int) (m : zM), R = (.inl x, m) → o = .inl (some (zi x)) ∧ ν = m) (he : ∀ (tz : Unit) (m : zM), R = (.inr tz, m) → Z g a mL_law 2038 0 0 2466 [some (zr 1050), some (zr 0), some (zr 142), some (zr 156), some (zr 157), none, none, none, none] [] m o ν) (hrec : ∀ (μ : zM) (v5 : Int), rec μ v5 = some R → Z g a mL_law 2038 kc ks 28 [some (zr 1050), some (zr 0), some (zr 142), some (zr 156), some (zr 157), some (zi v5), none, none, none] [] μ o ν) (hq : qL_law_j1333 rec scL scV μ v5 = some R) : Z g a mL_law 2038 (kc + 2) (ks + 12) 1333 [some (zr 1050), some (zr 0), some (zr 142), some (zr 156), some (zr 157), some (zi v5), none, none, none] [] μ o ν := by
  unfold qL_law_j1333 at hq
  refine z_aload_n 1334 dL_law_1333 rfl rfl ?_
  refine z_aload_n 1335 dL_law_1334 rfl rfl ?_
  refine z_iload 1337 dL_law_1335 rfl rfl ?_
  refine z_iconst 1338 dL_law_1337 rfl (by decide) ?_
  refine z_iadd (r := (wr (v5 + 1))) 1339 dL_law_1338 rfl rfl ?_
  obtain ⟨hg1339, hq⟩ := z_g hq
  refine z_sld 1340 dL_law_1339 rfl ⟨hg1339.1, hL ▸ hg1339.2⟩ (hV _ hg1339.1) (hVi _) ?_
  refine z_aload_n 1341 dL_law_1340 rfl rfl ?_
  refine z_iload 1343 dL_law_1341 rfl rfl ?_
  refine z_iconst 1344 dL_law_1343 rfl (by decide) ?_
  refine z_iadd (r := (wr (v5 + 2))) 1345 dL_law_1344 rfl rfl ?_
  obtain ⟨hg1345, hq⟩ := z_g hq
  refine z_sld 1346 dL_law_1345 rfl ⟨hg1345.1, hL ▸ hg1345.2⟩ (hV _ hg1345.1) (hVi _) ?_
  refine z_aload_n 1347 dL_law_1346 rfl rfl ?_
  obtain ⟨a59, m59, h59, hq⟩ := bnd2_some hq
  refine z_callSH1 (as := [zr 0, zi (scV (wr (v5 + 1))), zi (scV (wr (v5 + 2))), zr 156]) (S := []) (kc := kc + 0) (ks := ks + 0) 1350 dL_law_1347 rfl (Q_qL_flatByRank h59) kL_flatByRank l_RL_212 rfl rfl rfl rfl rfl rfl rfl ?_
  refine z_istore (L' := [some (zr 1050), some (zr 0), some (zr 142), some (zr 156), some (zr 157), some (zi v5), some (zi a59), none, none]) 1352 dL_law_1350 rfl rfl rfl rfl ?_
  refine z_aload_n 1353 dL_law_1352 rfl rfl ?_
  refine z_aload_n 1354 dL_law_1353 rfl rfl ?_
  refine z_iload 1356 dL_law_1354 rfl rfl ?_
  refine z_iconst 1357 dL_law_1356 rfl (by decide) ?_
  refine z_iadd (r := (wr (v5 + 1))) 1358 dL_law_1357 rfl rfl ?_
  obtain ⟨hg1358, hq⟩ := z_g hq
  refine z_sld 1359 dL_law_1358 rfl ⟨hg1358.1, hL ▸ hg1358.2⟩ (hV _ hg1358.1) (hVi _) ?_
  refine z_aload_n 1360 dL_law_1359 rfl rfl ?_
  refine z_iload 1362 dL_law_1360 rfl rfl ?_
  refine z_iconst 1363 dL_law_1362 rfl (by decide) ?_
  refine z_iadd (r := (wr (v5 + 2))) 1364 dL_law_1363 rfl rfl ?_
  obtain ⟨hg1364, hq⟩ := z_g hq
  refine z_sld 1365 dL_law_1364 rfl ⟨hg1364.1, hL ▸ hg1364.2⟩ (hV _ hg1364.1) (hVi _) ?_
  obtain ⟨a60, m60, h60, hq⟩ := bnd2_some hq
  refine z_callV1 (as := [zi (scV (wr (v5 + 1))), zi (scV (wr (v5 + 2)))]) (S := []) 1368 dL_law_1365 rfl (Q_qM_flatByRank  h60) kX10_flatByRank ⟨_, _, rfl⟩ ar_142 l_RL_214 rfl rfl rfl rfl rfl rfl rfl ?_
  refine z_istore (L' := [some (zr 1050), some (zr 0), some (zr 142), some (zr 156), some (zr 157), some (zi v5), some (zi a59), some (zi a60), none]) 1370 dL_law_1368 rfl rfl rfl rfl ?_
  refine z_aload_n 1371 dL_law_1370 rfl rfl ?_
  obtain ⟨a61, h61, hq⟩ := z_b hq
  refine z_callV1 (as := []) (S := []) 1374 dL_law_1371 rfl (Q_qM_thrown  h61) kX10_thrown ⟨_, _, rfl⟩ ar_142 l_RL_141 rfl rfl rfl rfl rfl rfl rfl ?_
  refine z_iload 1376 dL_law_1374 rfl rfl ?_
  refine z_icmp_eq 1381 1379 dL_law_1376 rfl rfl (fun hc => ?_) (fun hc => ?_)
  · replace hq := z_ip hq hc
    refine z_iload 1383 dL_law_1381 rfl rfl ?_
    refine z_if_ne 1398 1386 dL_law_1383 rfl rfl (fun hc => ?_) (fun hc => ?_)
    · replace hq := z_in hq hc
      refine z_goto 2460 dL_law_1398 rfl ?_
      refine z_iinc (r := (wr (v5 + 5))) (L' := [some (zr 1050), some (zr 0), some (zr 142), some (zr 156), some (zr 157), some (zi (wr (v5 + 5))), some (zi a59), some (zi a60), none]) 2463 dL_law_2460 rfl rfl rfl rfl rfl rfl ?_
      refine z_goto 28 dL_law_2463 rfl ?_
      exact z_mono (by omega) (by omega) (Z.sub (zle_s (zle_s (zle_s (zle_s (zle_s (zle_s (zle_n (zle_n (zle_n zle_nil))))))))) (hrec _ _ hq))
    · replace hq := z_ip hq hc
      refine z_aload_n 1387 dL_law_1386 rfl rfl ?_
      refine z_iconst 1388 dL_law_1387 rfl (by decide) ?_
      refine z_laload (x := (m60 156 0)) 1389 dL_law_1388 rfl ar_156 ⟨by decide, by decide⟩ rfl ?_
      refine z_iload 1391 dL_law_1389 rfl rfl ?_
      refine z_i2l 1392 dL_law_1391 rfl ?_
      refine z_lcmp 1393 dL_law_1392 rfl ?_
      refine z_if_eq 1398 1396 dL_law_1393 rfl rfl (fun hc => ?_) (fun hc => ?_)
      · replace hq := z_ip hq hc
        refine z_goto 2460 dL_law_1398 rfl ?_
        refine z_iinc (r := (wr (v5 + 5))) (L' := [some (zr 1050), some (zr 0), some (zr 142), some (zr 156), some (zr 157), some (zi (wr (v5 + 5))), some (zi a59), some (zi a60), none]) 2463 dL_law_2460 rfl rfl rfl rfl rfl rfl ?_
        refine z_goto 28 dL_law_2463 rfl ?_
        exact z_mono (by omega) (by omega) (Z.sub (zle_s (zle_s (zle_s (zle_s (zle_s (zle_s (zle_n (zle_n (zle_n zle_nil))))))))) (hrec _ _ hq))
      · replace hq := z_in hq hc
        refine z_iconst 1397 dL_law_1396 rfl (by decide) ?_
        obtain ⟨ho, hv⟩ := hr _ _ (Option.some.inj hq).symm
        exact z_conv ho hv (z_zreturn rfl dL_law_1397 (by decide))
  · replace hq := z_in hq hc
    refine z_iconst 1380 dL_law_1379 rfl (by decide) ?_
    obtain ⟨ho, hv⟩ := hr _ _ (Option.some.inj hq).symm
    exact z_conv ho hv (z_zreturn rfl dL_law_1380 (by decide))
set_option maxRecDepth 100000 in
set_option maxHeartbeats 4000000 in
theorem J_qL_law_j1401 {g : yG} {a : Nat → Nat} {μ ν : zM} {o : zO} {kc ks : Nat} {scL : Int} {scV : Int → Int} {v5 : Int} {rec : zM → Int → Option ((Int ⊕ Unit) × zM)} {R : (Int ⊕ Unit) × zM} (hL : scL = (g.2.2.2.2.1 : Int)) (hLi : y_in scL) (hV : ∀ i : Int, 0 ≤ i → g.2.2.2.2.2 i.toNat = scV i) (hVi : ∀ i, y_in (scV i)) (hr : ∀ (x : Int) (m : zM), R = (.inl x, m) → o = .inl (some (zi x)) ∧ ν = m) (he : ∀ (tz : Unit) (m : zM), R = (.inr tz, m) → Z g a mL_law 2038 0 0 2466 [some (zr 1050), some (zr 0), some (zr 142), some (zr 156), some (zr 157), none, none, none, none] [] m o ν) (hrec : ∀ (μ : zM) (v5 : Int), rec μ v5 = some R → Z g a mL_law 2038 kc ks 28 [some (zr 1050), some (zr 0), some (zr 142), some (zr 156), some (zr 157), some (zi v5), none, none, none] [] μ o ν) (hq : qL_law_j1401 rec scL scV μ v5 = some R) : Z g a mL_law 2038 (kc + 2) (ks + 12) 1401 [some (zr 1050), some (zr 0), some (zr 142), some (zr 156), some (zr 157), some (zi v5), none, none, none] [] μ o ν := by
  unfold qL_law_j1401 at hq
  refine z_aload_n 1402 dL_law_1401 rfl rfl ?_
  refine z_aload_n 1403 dL_law_1402 rfl rfl ?_
  refine z_iload 1405 dL_law_1403 rfl rfl ?_
  refine z_iconst 1406 dL_law_1405 rfl (by decide) ?_
  refine z_iadd (r := (wr (v5 + 1))) 1407 dL_law_1406 rfl rfl ?_
  obtain ⟨hg1407, hq⟩ := z_g hq
  refine z_sld 1408 dL_law_1407 rfl ⟨hg1407.1, hL ▸ hg1407.2⟩ (hV _ hg1407.1) (hVi _) ?_
  refine z_aload_n 1409 dL_law_1408 rfl rfl ?_
  obtain ⟨a62, m62, h62, hq⟩ := bnd2_some hq
  refine z_callSH1 (as := [zr 0, zi (scV (wr (v5 + 1))), zr 156]) (S := []) (kc := kc + 1) (ks := ks + 6) 1412 dL_law_1409 rfl (Q_qL_tenantByPurse h62) kL_tenantByPurse l_RL_215 rfl rfl rfl rfl rfl rfl rfl ?_
  refine z_istore (L' := [some (zr 1050), some (zr 0), some (zr 142), some (zr 156), some (zr 157), some (zi v5), some (zi a62), none, none]) 1414 dL_law_1412 rfl rfl rfl rfl ?_
  refine z_aload_n 1415 dL_law_1414 rfl rfl ?_
  refine z_aload_n 1416 dL_law_1415 rfl rfl ?_
  refine z_iload 1418 dL_law_1416 rfl rfl ?_
  refine z_iconst 1419 dL_law_1418 rfl (by decide) ?_
  refine z_iadd (r := (wr (v5 + 1))) 1420 dL_law_1419 rfl rfl ?_
  obtain ⟨hg1420, hq⟩ := z_g hq
  refine z_sld 1421 dL_law_1420 rfl ⟨hg1420.1, hL ▸ hg1420.2⟩ (hV _ hg1420.1) (hVi _) ?_
  obtain ⟨a63, m63, h63, hq⟩ := bnd2_some hq
  refine z_callV1 (as := [zi (scV (wr (v5 + 1)))]) (S := []) 1424 dL_law_1421 rfl (Q_qM_tenantByPurse  h63) kX10_tenantByPurse ⟨_, _, rfl⟩ ar_142 l_RL_217 rfl rfl rfl rfl rfl rfl rfl ?_
  refine z_istore (L' := [some (zr 1050), some (zr 0), some (zr 142), some (zr 156), some (zr 157), some (zi v5), some (zi a62), some (zi a63), none]) 1426 dL_law_1424 rfl rfl rfl rfl ?_
  refine z_aload_n 1427 dL_law_1426 rfl rfl ?_
  obtain ⟨a64, h64, hq⟩ := z_b hq
  refine z_callV1 (as := []) (S := []) 1430 dL_law_1427 rfl (Q_qM_thrown  h64) kX10_thrown ⟨_, _, rfl⟩ ar_142 l_RL_141 rfl rfl rfl rfl rfl rfl rfl ?_
  refine z_iload 1432 dL_law_1430 rfl rfl ?_
  refine z_icmp_eq 1437 1435 dL_law_1432 rfl rfl (fun hc => ?_) (fun hc => ?_)
  · replace hq := z_ip hq hc
    refine z_iload 1439 dL_law_1437 rfl rfl ?_
    refine z_if_ne 1454 1442 dL_law_1439 rfl rfl (fun hc => ?_) (fun hc => ?_)
    · replace hq := z_in hq hc
      refine z_goto 2460 dL_law_1454 rfl ?_
      refine z_iinc (r := (wr (v5 + 5))) (L' := [some (zr 1050), some (zr 0), some (zr 142), some (zr 156), some (zr 157), some (zi (wr (v5 + 5))), some (zi a62), some (zi a63), none]) 2463 dL_law_2460 rfl rfl rfl rfl rfl rfl ?_
      refine z_goto 28 dL_law_2463 rfl ?_
      exact z_mono (by omega) (by omega) (Z.sub (zle_s (zle_s (zle_s (zle_s (zle_s (zle_s (zle_n (zle_n (zle_n zle_nil))))))))) (hrec _ _ hq))
    · replace hq := z_ip hq hc
      refine z_aload_n 1443 dL_law_1442 rfl rfl ?_
      refine z_iconst 1444 dL_law_1443 rfl (by decide) ?_
      refine z_laload (x := (m63 156 0)) 1445 dL_law_1444 rfl ar_156 ⟨by decide, by decide⟩ rfl ?_
      refine z_iload 1447 dL_law_1445 rfl rfl ?_
      refine z_i2l 1448 dL_law_1447 rfl ?_
      refine z_lcmp 1449 dL_law_1448 rfl ?_
      refine z_if_eq 1454 1452 dL_law_1449 rfl rfl (fun hc => ?_) (fun hc => ?_)
      · replace hq := z_ip hq hc
        refine z_goto 2460 dL_law_1454 rfl ?_
        refine z_iinc (r := (wr (v5 + 5))) (L' := [some (zr 1050), some (zr 0), some (zr 142), some (zr 156), some (zr 157), some (zi (wr (v5 + 5))), some (zi a62), some (zi a63), none]) 2463 dL_law_2460 rfl rfl rfl rfl rfl rfl ?_
        refine z_goto 28 dL_law_2463 rfl ?_
        exact z_mono (by omega) (by omega) (Z.sub (zle_s (zle_s (zle_s (zle_s (zle_s (zle_s (zle_n (zle_n (zle_n zle_nil))))))))) (hrec _ _ hq))
      · replace hq := z_in hq hc
        refine z_iconst 1453 dL_law_1452 rfl (by decide) ?_
        obtain ⟨ho, hv⟩ := hr _ _ (Option.some.inj hq).symm
        exact z_conv ho hv (z_zreturn rfl dL_law_1453 (by decide))
  · replace hq := z_in hq hc
    refine z_iconst 1436 dL_law_1435 rfl (by decide) ?_
    obtain ⟨ho, hv⟩ := hr _ _ (Option.some.inj hq).symm
    exact z_conv ho hv (z_zreturn rfl dL_law_1436 (by decide))
set_option maxRecDepth 100000 in
set_option maxHeartbeats 4000000 in
theorem J_qL_law_j1457 {g : yG} {a : Nat → Nat} {μ ν : zM} {o : zO} {kc ks : Nat} {scL : Int} {scV : Int → Int} {v5 : Int} {rec : zM → Int → Option ((Int ⊕ Unit) × zM)} {R : (Int ⊕ Unit) × zM} (hL : scL = (g.2.2.2.2.1 : Int)) (hLi : y_in scL) (hV : ∀ i : Int, 0 ≤ i → g.2.2.2.2.2 i.toNat = scV i) (hVi : ∀ i, y_in (scV i)) (hr : ∀ (x : Int) (m : zM), R = (.inl x, m) → o = .inl (some (zi x)) ∧ ν = m) (he : ∀ (tz : Unit) (m : zM), R = (.inr tz, m) → Z g a mL_law 2038 0 0 2466 [some (zr 1050), some (zr 0), some (zr 142), some (zr 156), some (zr 157), none, none, none, none] [] m o ν) (hrec : ∀ (μ : zM) (v5 : Int), rec μ v5 = some R → Z g a mL_law 2038 kc ks 28 [some (zr 1050), some (zr 0), some (zr 142), some (zr 156), some (zr 157), some (zi v5), none, none, none] [] μ o ν) (hq : qL_law_j1457 rec scL scV μ v5 = some R) : Z g a mL_law 2038 (kc + 2) (ks + 12) 1457 [some (zr 1050), some (zr 0), some (zr 142), some (zr 156), some (zr 157), some (zi v5), none, none, none] [] μ o ν := by
  unfold qL_law_j1457 at hq
  refine z_aload_n 1458 dL_law_1457 rfl rfl ?_
  refine z_aload_n 1459 dL_law_1458 rfl rfl ?_
  refine z_iload 1461 dL_law_1459 rfl rfl ?_
  refine z_iconst 1462 dL_law_1461 rfl (by decide) ?_
  refine z_iadd (r := (wr (v5 + 1))) 1463 dL_law_1462 rfl rfl ?_
  obtain ⟨hg1463, hq⟩ := z_g hq
  refine z_sld 1464 dL_law_1463 rfl ⟨hg1463.1, hL ▸ hg1463.2⟩ (hV _ hg1463.1) (hVi _) ?_
  refine z_aload_n 1465 dL_law_1464 rfl rfl ?_
  obtain ⟨a65, m65, h65, hq⟩ := bnd2_some hq
  refine z_callSH1 (as := [zr 0, zi (scV (wr (v5 + 1))), zr 156]) (S := []) (kc := kc + 1) (ks := ks + 6) 1468 dL_law_1465 rfl (Q_qL_creak h65) kL_creak l_RL_218 rfl rfl rfl rfl rfl rfl rfl ?_
  refine z_istore (L' := [some (zr 1050), some (zr 0), some (zr 142), some (zr 156), some (zr 157), some (zi v5), some (zi a65), none, none]) 1470 dL_law_1468 rfl rfl rfl rfl ?_
  refine z_aload_n 1471 dL_law_1470 rfl rfl ?_
  refine z_aload_n 1472 dL_law_1471 rfl rfl ?_
  refine z_iload 1474 dL_law_1472 rfl rfl ?_
  refine z_iconst 1475 dL_law_1474 rfl (by decide) ?_
  refine z_iadd (r := (wr (v5 + 1))) 1476 dL_law_1475 rfl rfl ?_
  obtain ⟨hg1476, hq⟩ := z_g hq
  refine z_sld 1477 dL_law_1476 rfl ⟨hg1476.1, hL ▸ hg1476.2⟩ (hV _ hg1476.1) (hVi _) ?_
  obtain ⟨a66, m66, h66, hq⟩ := bnd2_some hq
  refine z_callV1 (as := [zi (scV (wr (v5 + 1)))]) (S := []) 1480 dL_law_1477 rfl (Q_qM_creak  h66) kX10_creak ⟨_, _, rfl⟩ ar_142 l_RL_220 rfl rfl rfl rfl rfl rfl rfl ?_
  refine z_istore (L' := [some (zr 1050), some (zr 0), some (zr 142), some (zr 156), some (zr 157), some (zi v5), some (zi a65), some (zi a66), none]) 1482 dL_law_1480 rfl rfl rfl rfl ?_
  refine z_aload_n 1483 dL_law_1482 rfl rfl ?_
  obtain ⟨a67, h67, hq⟩ := z_b hq
  refine z_callV1 (as := []) (S := []) 1486 dL_law_1483 rfl (Q_qM_thrown  h67) kX10_thrown ⟨_, _, rfl⟩ ar_142 l_RL_141 rfl rfl rfl rfl rfl rfl rfl ?_
  refine z_iload 1488 dL_law_1486 rfl rfl ?_
  refine z_icmp_eq 1493 1491 dL_law_1488 rfl rfl (fun hc => ?_) (fun hc => ?_)
  · replace hq := z_ip hq hc
    refine z_iload 1495 dL_law_1493 rfl rfl ?_
    refine z_if_ne 1510 1498 dL_law_1495 rfl rfl (fun hc => ?_) (fun hc => ?_)
    · replace hq := z_in hq hc
      refine z_goto 2460 dL_law_1510 rfl ?_
      refine z_iinc (r := (wr (v5 + 5))) (L' := [some (zr 1050), some (zr 0), some (zr 142), some (zr 156), some (zr 157), some (zi (wr (v5 + 5))), some (zi a65), some (zi a66), none]) 2463 dL_law_2460 rfl rfl rfl rfl rfl rfl ?_
      refine z_goto 28 dL_law_2463 rfl ?_
      exact z_mono (by omega) (by omega) (Z.sub (zle_s (zle_s (zle_s (zle_s (zle_s (zle_s (zle_n (zle_n (zle_n zle_nil))))))))) (hrec _ _ hq))
    · replace hq := z_ip hq hc
      refine z_aload_n 1499 dL_law_1498 rfl rfl ?_
      refine z_iconst 1500 dL_law_1499 rfl (by decide) ?_
      refine z_laload (x := (m66 156 0)) 1501 dL_law_1500 rfl ar_156 ⟨by decide, by decide⟩ rfl ?_
      refine z_iload 1503 dL_law_1501 rfl rfl ?_
      refine z_i2l 1504 dL_law_1503 rfl ?_
      refine z_lcmp 1505 dL_law_1504 rfl ?_
      refine z_if_eq 1510 1508 dL_law_1505 rfl rfl (fun hc => ?_) (fun hc => ?_)
      · replace hq := z_ip hq hc
        refine z_goto 2460 dL_law_1510 rfl ?_
        refine z_iinc (r := (wr (v5 + 5))) (L' := [some (zr 1050), some (zr 0), some (zr 142), some (zr 156), some (zr 157), some (zi (wr (v5 + 5))), some (zi a65), some (zi a66), none]) 2463 dL_law_2460 rfl rfl rfl rfl rfl rfl ?_
        refine z_goto 28 dL_law_2463 rfl ?_
        exact z_mono (by omega) (by omega) (Z.sub (zle_s (zle_s (zle_s (zle_s (zle_s (zle_s (zle_n (zle_n (zle_n zle_nil))))))))) (hrec _ _ hq))
      · replace hq := z_in hq hc
        refine z_iconst 1509 dL_law_1508 rfl (by decide) ?_
        obtain ⟨ho, hv⟩ := hr _ _ (Option.some.inj hq).symm
        exact z_conv ho hv (z_zreturn rfl dL_law_1509 (by decide))
  · replace hq := z_in hq hc
    refine z_iconst 1492 dL_law_1491 rfl (by decide) ?_
    obtain ⟨ho, hv⟩ := hr _ _ (Option.some.inj hq).symm
    exact z_conv ho hv (z_zreturn rfl dL_law_1492 (by decide))
