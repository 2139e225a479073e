/-! The law's cases, group 1. (printed by law_y.py) -/
section LC
variable {X : Cx} {b L j N : Nat} {ys : Nat → Int32} {a : Ab} {U : Nat → List Nat} {μ : Mem}
set_option maxHeartbeats 1000000 in
theorem law_c0 (hX : Ok M_lw_law 2047 X) (hE : EXT (xA X) (xs X) (xs X).heap) (hfl : (xl X).flags = flags0) (hq : Scr X b L ys) (i1 : vp_in (nI (5 * j) + 1) L) (i2 : vp_in (nI (5 * j) + 2) L) (i3 : vp_in (nI (5 * j) + 3) L) (i4 : vp_in (nI (5 * j) + 4) L) (h1 : One N a U μ) (hN : N < 600) (kk : ∀ a' U' μ' dy', One (N + 1) a' U' μ' → AW X 1569 (lwLs X b (nI (5 * j))) [] μ' dy') (dy : Nat → Nat) : AW X 240 (lwLs X b (nI (5 * j))) [] μ dy := by
  obtain ⟨ans, μ1, μ2, a2, U2, g1, g2, h2⟩ := (op_sign (ys (nI (5 * j) + 1).toNatClampNeg)).u.step h1 hN
  refine r_aload_n hX dL_240 3 rfl ?_
  refine r_aload_n hX dL_241 4 rfl ?_
  refine r_iload hX dL_242 0 rfl ?_
  refine r_iconst hX (1 : Int32) dL_244 rfl ?_
  refine r_iadd hX dL_245 ?_
  refine r_sld hX hq i1 dL_246 ?_
  refine r_callVI (Ok.le hX (by omega)) (c_x_sign (d := 1000) g1) cv_L_26 (w_0 _ _ _) rfl rfl (st := []) rfl rfl rfl dL_247 (fun dy => ?_)
  refine r_aload_n hX dL_250 2 rfl ?_
  refine r_aload_n hX dL_251 4 rfl ?_
  refine r_iload hX dL_252 0 rfl ?_
  refine r_iconst hX (1 : Int32) dL_254 rfl ?_
  refine r_iadd hX dL_255 ?_
  refine r_sld hX hq i1 dL_256 ?_
  refine r_callVI (Ok.le hX (by omega)) (c_m_sign (d := 1000) g2) cv_L_30 (w_111 _ _ _) rfl rfl (st := [.int ans]) rfl rfl rfl dL_257 (fun dy => ?_)
  exact r_icmp_eq hX 1569 dL_260 rfl (fun _ => kk _ _ _ _ h2) (fun hc => absurd rfl hc)
set_option maxHeartbeats 1000000 in
theorem law_c1 (hX : Ok M_lw_law 2047 X) (hE : EXT (xA X) (xs X) (xs X).heap) (hfl : (xl X).flags = flags0) (hq : Scr X b L ys) (i1 : vp_in (nI (5 * j) + 1) L) (i2 : vp_in (nI (5 * j) + 2) L) (i3 : vp_in (nI (5 * j) + 3) L) (i4 : vp_in (nI (5 * j) + 4) L) (h1 : One N a U μ) (hN : N < 600) (kk : ∀ a' U' μ' dy', One (N + 1) a' U' μ' → AW X 1569 (lwLs X b (nI (5 * j))) [] μ' dy') (dy : Nat → Nat) : AW X 265 (lwLs X b (nI (5 * j))) [] μ dy := by
  obtain ⟨ans, μ1, μ2, a2, U2, g1, g2, h2⟩ := (op_end (ys (nI (5 * j) + 1).toNatClampNeg)).u.step h1 hN
  refine r_aload_n hX dL_265 3 rfl ?_
  refine r_aload_n hX dL_266 4 rfl ?_
  refine r_iload hX dL_267 0 rfl ?_
  refine r_iconst hX (1 : Int32) dL_269 rfl ?_
  refine r_iadd hX dL_270 ?_
  refine r_sld hX hq i1 dL_271 ?_
  refine r_callVI (Ok.le hX (by omega)) (c_x_end (d := 1000) g1) cv_L_31 (w_0 _ _ _) rfl rfl (st := []) rfl rfl rfl dL_272 (fun dy => ?_)
  refine r_aload_n hX dL_275 2 rfl ?_
  refine r_aload_n hX dL_276 4 rfl ?_
  refine r_iload hX dL_277 0 rfl ?_
  refine r_iconst hX (1 : Int32) dL_279 rfl ?_
  refine r_iadd hX dL_280 ?_
  refine r_sld hX hq i1 dL_281 ?_
  refine r_callVI (Ok.le hX (by omega)) (c_m_end (d := 1000) g2) cv_L_35 (w_111 _ _ _) rfl rfl (st := [.int ans]) rfl rfl rfl dL_282 (fun dy => ?_)
  exact r_icmp_eq hX 1569 dL_285 rfl (fun _ => kk _ _ _ _ h2) (fun hc => absurd rfl hc)
set_option maxHeartbeats 1000000 in
theorem law_c2 (hX : Ok M_lw_law 2047 X) (hE : EXT (xA X) (xs X) (xs X).heap) (hfl : (xl X).flags = flags0) (hq : Scr X b L ys) (i1 : vp_in (nI (5 * j) + 1) L) (i2 : vp_in (nI (5 * j) + 2) L) (i3 : vp_in (nI (5 * j) + 3) L) (i4 : vp_in (nI (5 * j) + 4) L) (h1 : One N a U μ) (hN : N < 600) (kk : ∀ a' U' μ' dy', One (N + 1) a' U' μ' → AW X 1569 (lwLs X b (nI (5 * j))) [] μ' dy') (dy : Nat → Nat) : AW X 290 (lwLs X b (nI (5 * j))) [] μ dy := by
  obtain ⟨ans, μ1, μ2, a2, U2, g1, g2, h2⟩ := op_street.u.step h1 hN
  refine r_aload_n hX dL_290 3 rfl ?_
  refine r_callVI (Ok.le hX (by omega)) (c_x_street (d := 1000) g1) cv_L_36 (w_0 _ _ _) rfl rfl (st := []) rfl rfl rfl dL_291 (fun dy => ?_)
  refine r_aload_n hX dL_294 2 rfl ?_
  refine r_callVI (Ok.le hX (by omega)) (c_m_street (d := 1000) g2) cv_L_40 (w_111 _ _ _) rfl rfl (st := [.int ans]) rfl rfl rfl dL_295 (fun dy => ?_)
  exact r_icmp_eq hX 1569 dL_298 rfl (fun _ => kk _ _ _ _ h2) (fun hc => absurd rfl hc)
set_option maxHeartbeats 1000000 in
theorem law_c4 (hX : Ok M_lw_law 2047 X) (hE : EXT (xA X) (xs X) (xs X).heap) (hfl : (xl X).flags = flags0) (hq : Scr X b L ys) (i1 : vp_in (nI (5 * j) + 1) L) (i2 : vp_in (nI (5 * j) + 2) L) (i3 : vp_in (nI (5 * j) + 3) L) (i4 : vp_in (nI (5 * j) + 4) L) (h1 : One N a U μ) (hN : N < 600) (kk : ∀ a' U' μ' dy', One (N + 1) a' U' μ' → AW X 1569 (lwLs X b (nI (5 * j))) [] μ' dy') (dy : Nat → Nat) : AW X 371 (lwLs X b (nI (5 * j))) [] μ dy := by
  obtain ⟨ans, μ1, μ2, a2, U2, g1, g2, h2⟩ := (op_set (ys (nI (5 * j) + 1).toNatClampNeg) (ys (nI (5 * j) + 2).toNatClampNeg) (ys (nI (5 * j) + 3).toNatClampNeg)).u.step h1 hN
  refine r_aload_n hX dL_371 3 rfl ?_
  refine r_aload_n hX dL_372 4 rfl ?_
  refine r_iload hX dL_373 0 rfl ?_
  refine r_iconst hX (1 : Int32) dL_375 rfl ?_
  refine r_iadd hX dL_376 ?_
  refine r_sld hX hq i1 dL_377 ?_
  refine r_aload_n hX dL_378 4 rfl ?_
  refine r_iload hX dL_379 0 rfl ?_
  refine r_iconst hX (2 : Int32) dL_381 rfl ?_
  refine r_iadd hX dL_382 ?_
  refine r_sld hX hq i2 dL_383 ?_
  refine r_aload_n hX dL_384 4 rfl ?_
  refine r_iload hX dL_385 0 rfl ?_
  refine r_iconst hX (3 : Int32) dL_387 rfl ?_
  refine r_iadd hX dL_388 ?_
  refine r_sld hX hq i3 dL_389 ?_
  refine r_callVI (Ok.le hX (by omega)) (c_x_set (d := 1000) g1) cv_L_50 (w_0 _ _ _) rfl rfl (st := []) rfl rfl rfl dL_390 (fun dy => ?_)
  refine r_aload_n hX dL_393 2 rfl ?_
  refine r_aload_n hX dL_394 4 rfl ?_
  refine r_iload hX dL_395 0 rfl ?_
  refine r_iconst hX (1 : Int32) dL_397 rfl ?_
  refine r_iadd hX dL_398 ?_
  refine r_sld hX hq i1 dL_399 ?_
  refine r_aload_n hX dL_400 4 rfl ?_
  refine r_iload hX dL_401 0 rfl ?_
  refine r_iconst hX (2 : Int32) dL_403 rfl ?_
  refine r_iadd hX dL_404 ?_
  refine r_sld hX hq i2 dL_405 ?_
  refine r_aload_n hX dL_406 4 rfl ?_
  refine r_iload hX dL_407 0 rfl ?_
  refine r_iconst hX (3 : Int32) dL_409 rfl ?_
  refine r_iadd hX dL_410 ?_
  refine r_sld hX hq i3 dL_411 ?_
  refine r_callVI (Ok.le hX (by omega)) (c_m_set (d := 1000) g2) cv_L_54 (w_111 _ _ _) rfl rfl (st := [.int ans]) rfl rfl rfl dL_412 (fun dy => ?_)
  exact r_icmp_eq hX 1569 dL_415 rfl (fun _ => kk _ _ _ _ h2) (fun hc => absurd rfl hc)
set_option maxHeartbeats 1000000 in
theorem law_c5 (hX : Ok M_lw_law 2047 X) (hE : EXT (xA X) (xs X) (xs X).heap) (hfl : (xl X).flags = flags0) (hq : Scr X b L ys) (i1 : vp_in (nI (5 * j) + 1) L) (i2 : vp_in (nI (5 * j) + 2) L) (i3 : vp_in (nI (5 * j) + 3) L) (i4 : vp_in (nI (5 * j) + 4) L) (h1 : One N a U μ) (hN : N < 600) (kk : ∀ a' U' μ' dy', One (N + 1) a' U' μ' → AW X 1569 (lwLs X b (nI (5 * j))) [] μ' dy') (dy : Nat → Nat) : AW X 420 (lwLs X b (nI (5 * j))) [] μ dy := by
  obtain ⟨ans, μ1, μ2, a2, U2, g1, g2, h2⟩ := (op_hears (ys (nI (5 * j) + 1).toNatClampNeg) (ys (nI (5 * j) + 2).toNatClampNeg)).u.step h1 hN
  refine r_aload_n hX dL_420 3 rfl ?_
  refine r_aload_n hX dL_421 4 rfl ?_
  refine r_iload hX dL_422 0 rfl ?_
  refine r_iconst hX (1 : Int32) dL_424 rfl ?_
  refine r_iadd hX dL_425 ?_
  refine r_sld hX hq i1 dL_426 ?_
  refine r_aload_n hX dL_427 4 rfl ?_
  refine r_iload hX dL_428 0 rfl ?_
  refine r_iconst hX (2 : Int32) dL_430 rfl ?_
  refine r_iadd hX dL_431 ?_
  refine r_sld hX hq i2 dL_432 ?_
  refine r_callVI (Ok.le hX (by omega)) (c_x_hears (d := 1000) g1) cv_L_55 (w_0 _ _ _) rfl rfl (st := []) rfl rfl rfl dL_433 (fun dy => ?_)
  refine r_aload_n hX dL_436 2 rfl ?_
  refine r_aload_n hX dL_437 4 rfl ?_
  refine r_iload hX dL_438 0 rfl ?_
  refine r_iconst hX (1 : Int32) dL_440 rfl ?_
  refine r_iadd hX dL_441 ?_
  refine r_sld hX hq i1 dL_442 ?_
  refine r_aload_n hX dL_443 4 rfl ?_
  refine r_iload hX dL_444 0 rfl ?_
  refine r_iconst hX (2 : Int32) dL_446 rfl ?_
  refine r_iadd hX dL_447 ?_
  refine r_sld hX hq i2 dL_448 ?_
  refine r_callVI (Ok.le hX (by omega)) (c_m_hears (d := 1000) g2) cv_L_58 (w_111 _ _ _) rfl rfl (st := [.int ans]) rfl rfl rfl dL_449 (fun dy => ?_)
  exact r_icmp_eq hX 1569 dL_452 rfl (fun _ => kk _ _ _ _ h2) (fun hc => absurd rfl hc)
set_option maxHeartbeats 1000000 in
theorem law_c6 (hX : Ok M_lw_law 2047 X) (hE : EXT (xA X) (xs X) (xs X).heap) (hfl : (xl X).flags = flags0) (hq : Scr X b L ys) (i1 : vp_in (nI (5 * j) + 1) L) (i2 : vp_in (nI (5 * j) + 2) L) (i3 : vp_in (nI (5 * j) + 3) L) (i4 : vp_in (nI (5 * j) + 4) L) (h1 : One N a U μ) (hN : N < 600) (kk : ∀ a' U' μ' dy', One (N + 1) a' U' μ' → AW X 1569 (lwLs X b (nI (5 * j))) [] μ' dy') (dy : Nat → Nat) : AW X 457 (lwLs X b (nI (5 * j))) [] μ dy := by
  obtain ⟨ans, μ1, μ2, a2, U2, g1, g2, h2⟩ := (op_sheet (ys (nI (5 * j) + 1).toNatClampNeg) (ys (nI (5 * j) + 2).toNatClampNeg) (ys (nI (5 * j) + 3).toNatClampNeg) (ys (nI (5 * j) + 4).toNatClampNeg)).u.step h1 hN
  refine r_aload_n hX dL_457 3 rfl ?_
  refine r_aload_n hX dL_458 4 rfl ?_
  refine r_iload hX dL_459 0 rfl ?_
  refine r_iconst hX (1 : Int32) dL_461 rfl ?_
  refine r_iadd hX dL_462 ?_
  refine r_sld hX hq i1 dL_463 ?_
  refine r_aload_n hX dL_464 4 rfl ?_
  refine r_iload hX dL_465 0 rfl ?_
  refine r_iconst hX (2 : Int32) dL_467 rfl ?_
  refine r_iadd hX dL_468 ?_
  refine r_sld hX hq i2 dL_469 ?_
  refine r_aload_n hX dL_470 4 rfl ?_
  refine r_iload hX dL_471 0 rfl ?_
  refine r_iconst hX (3 : Int32) dL_473 rfl ?_
  refine r_iadd hX dL_474 ?_
  refine r_sld hX hq i3 dL_475 ?_
  refine r_aload_n hX dL_476 4 rfl ?_
  refine r_iload hX dL_477 0 rfl ?_
  refine r_iconst hX (4 : Int32) dL_479 rfl ?_
  refine r_iadd hX dL_480 ?_
  refine r_sld hX hq i4 dL_481 ?_
  refine r_callVI (Ok.le hX (by omega)) (c_x_sheet (d := 1000) g1) cv_L_59 (w_0 _ _ _) rfl rfl (st := []) rfl rfl rfl dL_482 (fun dy => ?_)
  refine r_aload_n hX dL_485 2 rfl ?_
  refine r_aload_n hX dL_486 4 rfl ?_
  refine r_iload hX dL_487 0 rfl ?_
  refine r_iconst hX (1 : Int32) dL_489 rfl ?_
  refine r_iadd hX dL_490 ?_
  refine r_sld hX hq i1 dL_491 ?_
  refine r_aload_n hX dL_492 4 rfl ?_
  refine r_iload hX dL_493 0 rfl ?_
  refine r_iconst hX (2 : Int32) dL_495 rfl ?_
  refine r_iadd hX dL_496 ?_
  refine r_sld hX hq i2 dL_497 ?_
  refine r_aload_n hX dL_498 4 rfl ?_
  refine r_iload hX dL_499 0 rfl ?_
  refine r_iconst hX (3 : Int32) dL_501 rfl ?_
  refine r_iadd hX dL_502 ?_
  refine r_sld hX hq i3 dL_503 ?_
  refine r_aload_n hX dL_504 4 rfl ?_
  refine r_iload hX dL_505 0 rfl ?_
  refine r_iconst hX (4 : Int32) dL_507 rfl ?_
  refine r_iadd hX dL_508 ?_
  refine r_sld hX hq i4 dL_509 ?_
  refine r_callVI (Ok.le hX (by omega)) (c_m_sheet (d := 1000) g2) cv_L_63 (w_111 _ _ _) rfl rfl (st := [.int ans]) rfl rfl rfl dL_510 (fun dy => ?_)
  exact r_icmp_eq hX 1569 dL_513 rfl (fun _ => kk _ _ _ _ h2) (fun hc => absurd rfl hc)
set_option maxHeartbeats 1000000 in
theorem law_c7 (hX : Ok M_lw_law 2047 X) (hE : EXT (xA X) (xs X) (xs X).heap) (hfl : (xl X).flags = flags0) (hq : Scr X b L ys) (i1 : vp_in (nI (5 * j) + 1) L) (i2 : vp_in (nI (5 * j) + 2) L) (i3 : vp_in (nI (5 * j) + 3) L) (i4 : vp_in (nI (5 * j) + 4) L) (h1 : One N a U μ) (hN : N < 600) (kk : ∀ a' U' μ' dy', One (N + 1) a' U' μ' → AW X 1569 (lwLs X b (nI (5 * j))) [] μ' dy') (dy : Nat → Nat) : AW X 518 (lwLs X b (nI (5 * j))) [] μ dy := by
  obtain ⟨ans, μ1, μ2, a2, U2, g1, g2, h2⟩ := op_alike.u.step h1 hN
  refine r_aload_n hX dL_518 3 rfl ?_
  refine r_callVI (Ok.le hX (by omega)) (c_x_alike (d := 1000) g1) cv_L_64 (w_0 _ _ _) rfl rfl (st := []) rfl rfl rfl dL_519 (fun dy => ?_)
  refine r_aload_n hX dL_522 2 rfl ?_
  refine r_callVI (Ok.le hX (by omega)) (c_m_alike (d := 1000) g2) cv_L_67 (w_111 _ _ _) rfl rfl (st := [.int ans]) rfl rfl rfl dL_523 (fun dy => ?_)
  exact r_icmp_eq hX 1569 dL_526 rfl (fun _ => kk _ _ _ _ h2) (fun hc => absurd rfl hc)
set_option maxHeartbeats 1000000 in
theorem law_c8 (hX : Ok M_lw_law 2047 X) (hE : EXT (xA X) (xs X) (xs X).heap) (hfl : (xl X).flags = flags0) (hq : Scr X b L ys) (i1 : vp_in (nI (5 * j) + 1) L) (i2 : vp_in (nI (5 * j) + 2) L) (i3 : vp_in (nI (5 * j) + 3) L) (i4 : vp_in (nI (5 * j) + 4) L) (h1 : One N a U μ) (hN : N < 600) (kk : ∀ a' U' μ' dy', One (N + 1) a' U' μ' → AW X 1569 (lwLs X b (nI (5 * j))) [] μ' dy') (dy : Nat → Nat) : AW X 531 (lwLs X b (nI (5 * j))) [] μ dy := by
  obtain ⟨ans, μ1, μ2, a2, U2, g1, g2, h2⟩ := (op_state (ys (nI (5 * j) + 1).toNatClampNeg)).u.step h1 hN
  refine r_aload_n hX dL_531 3 rfl ?_
  refine r_aload_n hX dL_532 4 rfl ?_
  refine r_iload hX dL_533 0 rfl ?_
  refine r_iconst hX (1 : Int32) dL_535 rfl ?_
  refine r_iadd hX dL_536 ?_
  refine r_sld hX hq i1 dL_537 ?_
  refine r_callVI (Ok.le hX (by omega)) (c_x_state (d := 1000) g1) cv_L_68 (w_0 _ _ _) rfl rfl (st := []) rfl rfl rfl dL_538 (fun dy => ?_)
  refine r_aload_n hX dL_541 2 rfl ?_
  refine r_aload_n hX dL_542 4 rfl ?_
  refine r_iload hX dL_543 0 rfl ?_
  refine r_iconst hX (1 : Int32) dL_545 rfl ?_
  refine r_iadd hX dL_546 ?_
  refine r_sld hX hq i1 dL_547 ?_
  refine r_callVI (Ok.le hX (by omega)) (c_m_state (d := 1000) g2) cv_L_71 (w_111 _ _ _) rfl rfl (st := [.int ans]) rfl rfl rfl dL_548 (fun dy => ?_)
  exact r_icmp_eq hX 1569 dL_551 rfl (fun _ => kk _ _ _ _ h2) (fun hc => absurd rfl hc)
set_option maxHeartbeats 1000000 in
theorem law_c9 (hX : Ok M_lw_law 2047 X) (hE : EXT (xA X) (xs X) (xs X).heap) (hfl : (xl X).flags = flags0) (hq : Scr X b L ys) (i1 : vp_in (nI (5 * j) + 1) L) (i2 : vp_in (nI (5 * j) + 2) L) (i3 : vp_in (nI (5 * j) + 3) L) (i4 : vp_in (nI (5 * j) + 4) L) (h1 : One N a U μ) (hN : N < 600) (kk : ∀ a' U' μ' dy', One (N + 1) a' U' μ' → AW X 1569 (lwLs X b (nI (5 * j))) [] μ' dy') (dy : Nat → Nat) : AW X 556 (lwLs X b (nI (5 * j))) [] μ dy := by
  obtain ⟨ans, μ1, μ2, a2, U2, g1, g2, h2⟩ := (op_go (ys (nI (5 * j) + 1).toNatClampNeg)).u.step h1 hN
  refine r_aload_n hX dL_556 3 rfl ?_
  refine r_aload_n hX dL_557 4 rfl ?_
  refine r_iload hX dL_558 0 rfl ?_
  refine r_iconst hX (1 : Int32) dL_560 rfl ?_
  refine r_iadd hX dL_561 ?_
  refine r_sld hX hq i1 dL_562 ?_
  refine r_callVI (Ok.le hX (by omega)) (c_x_go (d := 1000) g1) cv_L_72 (w_0 _ _ _) rfl rfl (st := []) rfl rfl rfl dL_563 (fun dy => ?_)
  refine r_aload_n hX dL_566 2 rfl ?_
  refine r_aload_n hX dL_567 4 rfl ?_
  refine r_iload hX dL_568 0 rfl ?_
  refine r_iconst hX (1 : Int32) dL_570 rfl ?_
  refine r_iadd hX dL_571 ?_
  refine r_sld hX hq i1 dL_572 ?_
  refine r_callVI (Ok.le hX (by omega)) (c_m_go (d := 1000) g2) cv_L_75 (w_111 _ _ _) rfl rfl (st := [.int ans]) rfl rfl rfl dL_573 (fun dy => ?_)
  exact r_icmp_eq hX 1569 dL_576 rfl (fun _ => kk _ _ _ _ h2) (fun hc => absurd rfl hc)
set_option maxHeartbeats 1000000 in
theorem law_c10 (hX : Ok M_lw_law 2047 X) (hE : EXT (xA X) (xs X) (xs X).heap) (hfl : (xl X).flags = flags0) (hq : Scr X b L ys) (i1 : vp_in (nI (5 * j) + 1) L) (i2 : vp_in (nI (5 * j) + 2) L) (i3 : vp_in (nI (5 * j) + 3) L) (i4 : vp_in (nI (5 * j) + 4) L) (h1 : One N a U μ) (hN : N < 600) (kk : ∀ a' U' μ' dy', One (N + 1) a' U' μ' → AW X 1569 (lwLs X b (nI (5 * j))) [] μ' dy') (dy : Nat → Nat) : AW X 581 (lwLs X b (nI (5 * j))) [] μ dy := by
  obtain ⟨ans, μ1, μ2, a2, U2, g1, g2, h2⟩ := (op_talk (ys (nI (5 * j) + 1).toNatClampNeg)).u.step h1 hN
  refine r_aload_n hX dL_581 3 rfl ?_
  refine r_aload_n hX dL_582 4 rfl ?_
  refine r_iload hX dL_583 0 rfl ?_
  refine r_iconst hX (1 : Int32) dL_585 rfl ?_
  refine r_iadd hX dL_586 ?_
  refine r_sld hX hq i1 dL_587 ?_
  refine r_callVI (Ok.le hX (by omega)) (c_x_talk (d := 1000) g1) cv_L_76 (w_0 _ _ _) rfl rfl (st := []) rfl rfl rfl dL_588 (fun dy => ?_)
  refine r_aload_n hX dL_591 2 rfl ?_
  refine r_aload_n hX dL_592 4 rfl ?_
  refine r_iload hX dL_593 0 rfl ?_
  refine r_iconst hX (1 : Int32) dL_595 rfl ?_
  refine r_iadd hX dL_596 ?_
  refine r_sld hX hq i1 dL_597 ?_
  refine r_callVI (Ok.le hX (by omega)) (c_m_talk (d := 1000) g2) cv_L_79 (w_111 _ _ _) rfl rfl (st := [.int ans]) rfl rfl rfl dL_598 (fun dy => ?_)
  exact r_icmp_eq hX 1569 dL_601 rfl (fun _ => kk _ _ _ _ h2) (fun hc => absurd rfl hc)
set_option maxHeartbeats 1000000 in
theorem law_c11 (hX : Ok M_lw_law 2047 X) (hE : EXT (xA X) (xs X) (xs X).heap) (hfl : (xl X).flags = flags0) (hq : Scr X b L ys) (i1 : vp_in (nI (5 * j) + 1) L) (i2 : vp_in (nI (5 * j) + 2) L) (i3 : vp_in (nI (5 * j) + 3) L) (i4 : vp_in (nI (5 * j) + 4) L) (h1 : One N a U μ) (hN : N < 600) (kk : ∀ a' U' μ' dy', One (N + 1) a' U' μ' → AW X 1569 (lwLs X b (nI (5 * j))) [] μ' dy') (dy : Nat → Nat) : AW X 606 (lwLs X b (nI (5 * j))) [] μ dy := by
  obtain ⟨ans, μ1, μ2, a2, U2, g1, g2, h2⟩ := (op_behind (ys (nI (5 * j) + 1).toNatClampNeg)).u.step h1 hN
  refine r_aload_n hX dL_606 3 rfl ?_
  refine r_aload_n hX dL_607 4 rfl ?_
  refine r_iload hX dL_608 0 rfl ?_
  refine r_iconst hX (1 : Int32) dL_610 rfl ?_
  refine r_iadd hX dL_611 ?_
  refine r_sld hX hq i1 dL_612 ?_
  refine r_callVI (Ok.le hX (by omega)) (c_x_behind (d := 1000) g1) cv_L_80 (w_0 _ _ _) rfl rfl (st := []) rfl rfl rfl dL_613 (fun dy => ?_)
  refine r_aload_n hX dL_616 2 rfl ?_
  refine r_aload_n hX dL_617 4 rfl ?_
  refine r_iload hX dL_618 0 rfl ?_
  refine r_iconst hX (1 : Int32) dL_620 rfl ?_
  refine r_iadd hX dL_621 ?_
  refine r_sld hX hq i1 dL_622 ?_
  refine r_callVI (Ok.le hX (by omega)) (c_m_behind (d := 1000) g2) cv_L_83 (w_111 _ _ _) rfl rfl (st := [.int ans]) rfl rfl rfl dL_623 (fun dy => ?_)
  exact r_icmp_eq hX 1569 dL_626 rfl (fun _ => kk _ _ _ _ h2) (fun hc => absurd rfl hc)
end LC
