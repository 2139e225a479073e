/-! The law's cases, group 0. (printed by law_y.py) -/
section LC
variable {X : Cx} {b L j N : Nat} {ys : Nat → Int32} {a : Ab} {U : Nat → List Nat} {μ : Mem}
set_option maxHeartbeats 1000000 in
theorem law_c3 (hX : Ok M_lw_law 2047 X) (hE : EXT (xA X) (xs X) (xs X).heap) (hfl : (xl X).flags = flags0) (hq : Scr X b L ys) (i1 : vp_in (nI (5 * j) + 1) L) (i2 : vp_in (nI (5 * j) + 2) L) (i3 : vp_in (nI (5 * j) + 3) L) (i4 : vp_in (nI (5 * j) + 4) L) (h1 : One N a U μ) (hN : N < 600) (kk : ∀ a' U' μ' dy', One (N + 1) a' U' μ' → AW X 1569 (lwLs X b (nI (5 * j))) [] μ' dy') (dy : Nat → Nat) : AW X 303 (lwLs X b (nI (5 * j))) [] μ dy := by
  have hz := h1.1.room
  rcases (op_person (ys (nI (5 * j) + 1).toNatClampNeg) (ys (nI (5 * j) + 2).toNatClampNeg)).u.step (fun _ _ h => person_thr_same h) h1 hN with ⟨ans, μ1, g1, g2⟩ | ⟨g1, g2⟩
  · obtain ⟨μ2, a2, U2, g3, h2, e1, e2⟩ := g2 (ans.toInt64)
    refine r_aload_n hX dL_303 3 rfl ?_
    refine r_aload_n hX dL_304 4 rfl ?_
    refine r_iload hX dL_305 0 rfl ?_
    refine r_iconst hX (1 : Int32) dL_307 rfl ?_
    refine r_iadd hX dL_308 ?_
    refine r_sld hX hq i1 dL_309 ?_
    refine r_aload_n hX dL_310 4 rfl ?_
    refine r_iload hX dL_311 0 rfl ?_
    refine r_iconst hX (2 : Int32) dL_313 rfl ?_
    refine r_iadd hX dL_314 ?_
    refine r_sld hX hq i2 dL_315 ?_
    refine r_aload_n hX dL_316 1 rfl ?_
    refine r_callH (d := 2046) hX hE hfl (h_person (d := 2037) g1) ch_person (st := []) rfl rfl rfl dL_317 (fun dy => ?_)
    refine r_istore (ls' := (5, .int 0) :: lwLs X b (nI (5 * j))) hX dL_320 rfl rfl ?_
    refine r_aload_n hX dL_322 3 rfl ?_
    refine r_aload_n hX dL_323 5 rfl ?_
    refine r_iload hX dL_324 1 rfl ?_
    refine r_iconst hX (1 : Int32) dL_326 rfl ?_
    refine r_iadd hX dL_327 ?_
    refine r_sld hX hq i1 dL_328 ?_
    refine r_aload_n hX dL_329 5 rfl ?_
    refine r_iload hX dL_330 1 rfl ?_
    refine r_iconst hX (2 : Int32) dL_332 rfl ?_
    refine r_iadd hX dL_333 ?_
    refine r_sld hX hq i2 dL_334 ?_
    refine r_callVI (Ok.le hX (by omega)) (c_m_person (d := 1000) g3) cv_L_46 (w_111 _ _ _) rfl rfl (st := []) rfl rfl rfl dL_335 (fun dy => ?_)
    refine r_istore (ls' := (6, .int ans) :: (5, .int 0) :: lwLs X b (nI (5 * j))) hX dL_338 rfl rfl ?_
    refine r_aload_n hX dL_340 4 rfl ?_
    refine r_callVI (v := μ2.1 v_m_thrown 0) (μ1 := μ2) (Ok.le hX (by omega)) (c_m_thrown (d := 1000) (r := (μ2.1 v_m_thrown 0, μ2)) rfl) cv_L_47 (w_111 _ _ _) rfl rfl (st := []) rfl rfl rfl dL_341 (fun dy => ?_)
    refine r_iload hX dL_344 1 rfl ?_
    refine r_icmp_eq hX 351 dL_346 rfl (fun _ => ?_) (fun hc => absurd e1 hc)
    refine r_iload hX dL_351 1 rfl ?_
    refine r_if_ne hX 368 dL_353 rfl (fun hc => absurd rfl hc) (fun _ => ?_)
    refine r_aload_n hX dL_356 3 rfl ?_
    refine r_iconst hX (0 : Int32) dL_357 rfl ?_
    refine r_lald hX (w_134 _ _ _) (inb_in (by decide)) dL_358 ?_
    refine r_iload hX dL_359 0 rfl ?_
    refine r_i2l hX dL_361 ?_
    refine r_lcmp hX dL_362 ?_
    refine r_if_eq hX 368 dL_363 rfl (fun _ => ?_) (fun hc => absurd (by show lg_cmp (μ2.2.1 l_out 0) (ans.toInt64) = 0; rw [e2]; exact lg_self _) hc)
    refine r_goto hX 1569 dL_368 rfl ?_
    refine r_weak [2, 3, 4, 5, 6] rfl ?_
    exact kk _ _ _ _ h2
  · obtain ⟨ans, μ2, a2, U2, g3, h2, e1⟩ := g2 6 (by omega)
    refine r_aload_n hX dL_303 3 rfl ?_
    refine r_aload_n hX dL_304 4 rfl ?_
    refine r_iload hX dL_305 0 rfl ?_
    refine r_iconst hX (1 : Int32) dL_307 rfl ?_
    refine r_iadd hX dL_308 ?_
    refine r_sld hX hq i1 dL_309 ?_
    refine r_aload_n hX dL_310 4 rfl ?_
    refine r_iload hX dL_311 0 rfl ?_
    refine r_iconst hX (2 : Int32) dL_313 rfl ?_
    refine r_iadd hX dL_314 ?_
    refine r_sld hX hq i2 dL_315 ?_
    refine r_aload_n hX dL_316 1 rfl ?_
    refine r_callH (d := 2046) hX hE hfl (ht_person (d := 2037) hz g1) ch_person (st := []) rfl rfl rfl dL_317 (fun dy => ?_)
    refine r_istore (ls' := (5, .int 1) :: lwLs X b (nI (5 * j))) hX dL_320 rfl rfl ?_
    refine r_aload_n hX dL_322 3 rfl ?_
    refine r_aload_n hX dL_323 5 rfl ?_
    refine r_iload hX dL_324 1 rfl ?_
    refine r_iconst hX (1 : Int32) dL_326 rfl ?_
    refine r_iadd hX dL_327 ?_
    refine r_sld hX hq i1 dL_328 ?_
    refine r_aload_n hX dL_329 5 rfl ?_
    refine r_iload hX dL_330 1 rfl ?_
    refine r_iconst hX (2 : Int32) dL_332 rfl ?_
    refine r_iadd hX dL_333 ?_
    refine r_sld hX hq i2 dL_334 ?_
    refine r_callVI (Ok.le hX (by omega)) (c_m_person (d := 1000) g3) cv_L_46 (w_111 _ _ _) rfl rfl (st := []) rfl rfl rfl dL_335 (fun dy => ?_)
    refine r_istore (ls' := (6, .int ans) :: (5, .int 1) :: lwLs X b (nI (5 * j))) hX dL_338 rfl rfl ?_
    refine r_aload_n hX dL_340 4 rfl ?_
    refine r_callVI (v := μ2.1 v_m_thrown 0) (μ1 := μ2) (Ok.le hX (by omega)) (c_m_thrown (d := 1000) (r := (μ2.1 v_m_thrown 0, μ2)) rfl) cv_L_47 (w_111 _ _ _) rfl rfl (st := []) rfl rfl rfl dL_341 (fun dy => ?_)
    refine r_iload hX dL_344 1 rfl ?_
    refine r_icmp_eq hX 351 dL_346 rfl (fun _ => ?_) (fun hc => absurd e1 hc)
    refine r_iload hX dL_351 1 rfl ?_
    refine r_if_ne hX 368 dL_353 rfl (fun _ => ?_) (fun hc => absurd hc (by decide))
    refine r_goto hX 1569 dL_368 rfl ?_
    refine r_weak [2, 3, 4, 5, 6] rfl ?_
    exact kk _ _ _ _ h2
set_option maxHeartbeats 1000000 in
theorem law_c35 (hX : Ok M_lw_law 2047 X) (hE : EXT (xA X) (xs X) (xs X).heap) (hfl : (xl X).flags = flags0) (hq : Scr X b L ys) (i1 : vp_in (nI (5 * j) + 1) L) (i2 : vp_in (nI (5 * j) + 2) L) (i3 : vp_in (nI (5 * j) + 3) L) (i4 : vp_in (nI (5 * j) + 4) L) (h1 : One N a U μ) (hN : N < 600) (kk : ∀ a' U' μ' dy', One (N + 1) a' U' μ' → AW X 1569 (lwLs X b (nI (5 * j))) [] μ' dy') (dy : Nat → Nat) : AW X 1172 (lwLs X b (nI (5 * j))) [] μ dy := by
  have hz := h1.1.room
  rcases (op_rates (x := (ys (nI (5 * j) + 1).toNatClampNeg)) (y := (ys (nI (5 * j) + 2).toNatClampNeg))).step (fun _ _ h => rates_thr_same h) h1 hN with ⟨ans, μ1, g1, g2⟩ | ⟨g1, g2⟩
  · obtain ⟨μ2, a2, U2, g3, h2, e1, e2⟩ := g2 (ans.toInt64)
    refine r_aload_n hX dL_1172 3 rfl ?_
    refine r_aload_n hX dL_1173 4 rfl ?_
    refine r_iload hX dL_1174 0 rfl ?_
    refine r_iconst hX (1 : Int32) dL_1176 rfl ?_
    refine r_iadd hX dL_1177 ?_
    refine r_sld hX hq i1 dL_1178 ?_
    refine r_aload_n hX dL_1179 4 rfl ?_
    refine r_iload hX dL_1180 0 rfl ?_
    refine r_iconst hX (2 : Int32) dL_1182 rfl ?_
    refine r_iadd hX dL_1183 ?_
    refine r_sld hX hq i2 dL_1184 ?_
    refine r_aload_n hX dL_1185 1 rfl ?_
    refine r_callH (d := 2046) hX hE hfl (h_rates (d := 2037) g1) ch_rates (st := []) rfl rfl rfl dL_1186 (fun dy => ?_)
    refine r_istore (ls' := (5, .int 0) :: lwLs X b (nI (5 * j))) hX dL_1189 rfl rfl ?_
    refine r_aload_n hX dL_1191 3 rfl ?_
    refine r_aload_n hX dL_1192 5 rfl ?_
    refine r_iload hX dL_1193 1 rfl ?_
    refine r_iconst hX (1 : Int32) dL_1195 rfl ?_
    refine r_iadd hX dL_1196 ?_
    refine r_sld hX hq i1 dL_1197 ?_
    refine r_aload_n hX dL_1198 5 rfl ?_
    refine r_iload hX dL_1199 1 rfl ?_
    refine r_iconst hX (2 : Int32) dL_1201 rfl ?_
    refine r_iadd hX dL_1202 ?_
    refine r_sld hX hq i2 dL_1203 ?_
    refine r_callVI (Ok.le hX (by omega)) (c_m_rates (d := 1000) g3) cv_L_179 (w_111 _ _ _) rfl rfl (st := []) rfl rfl rfl dL_1204 (fun dy => ?_)
    refine r_istore (ls' := (6, .int ans) :: (5, .int 0) :: lwLs X b (nI (5 * j))) hX dL_1207 rfl rfl ?_
    refine r_aload_n hX dL_1209 4 rfl ?_
    refine r_callVI (v := μ2.1 v_m_thrown 0) (μ1 := μ2) (Ok.le hX (by omega)) (c_m_thrown (d := 1000) (r := (μ2.1 v_m_thrown 0, μ2)) rfl) cv_L_47 (w_111 _ _ _) rfl rfl (st := []) rfl rfl rfl dL_1210 (fun dy => ?_)
    refine r_iload hX dL_1213 1 rfl ?_
    refine r_icmp_eq hX 1220 dL_1215 rfl (fun _ => ?_) (fun hc => absurd e1 hc)
    refine r_iload hX dL_1220 1 rfl ?_
    refine r_if_ne hX 1237 dL_1222 rfl (fun hc => absurd rfl hc) (fun _ => ?_)
    refine r_aload_n hX dL_1225 3 rfl ?_
    refine r_iconst hX (0 : Int32) dL_1226 rfl ?_
    refine r_lald hX (w_134 _ _ _) (inb_in (by decide)) dL_1227 ?_
    refine r_iload hX dL_1228 0 rfl ?_
    refine r_i2l hX dL_1230 ?_
    refine r_lcmp hX dL_1231 ?_
    refine r_if_eq hX 1237 dL_1232 rfl (fun _ => ?_) (fun hc => absurd (by show lg_cmp (μ2.2.1 l_out 0) (ans.toInt64) = 0; rw [e2]; exact lg_self _) hc)
    refine r_goto hX 1569 dL_1237 rfl ?_
    refine r_weak [2, 3, 4, 5, 6] rfl ?_
    exact kk _ _ _ _ h2
  · obtain ⟨ans, μ2, a2, U2, g3, h2, e1⟩ := g2 6 (by omega)
    refine r_aload_n hX dL_1172 3 rfl ?_
    refine r_aload_n hX dL_1173 4 rfl ?_
    refine r_iload hX dL_1174 0 rfl ?_
    refine r_iconst hX (1 : Int32) dL_1176 rfl ?_
    refine r_iadd hX dL_1177 ?_
    refine r_sld hX hq i1 dL_1178 ?_
    refine r_aload_n hX dL_1179 4 rfl ?_
    refine r_iload hX dL_1180 0 rfl ?_
    refine r_iconst hX (2 : Int32) dL_1182 rfl ?_
    refine r_iadd hX dL_1183 ?_
    refine r_sld hX hq i2 dL_1184 ?_
    refine r_aload_n hX dL_1185 1 rfl ?_
    refine r_callH (d := 2046) hX hE hfl (ht_rates (d := 2037) hz g1) ch_rates (st := []) rfl rfl rfl dL_1186 (fun dy => ?_)
    refine r_istore (ls' := (5, .int 1) :: lwLs X b (nI (5 * j))) hX dL_1189 rfl rfl ?_
    refine r_aload_n hX dL_1191 3 rfl ?_
    refine r_aload_n hX dL_1192 5 rfl ?_
    refine r_iload hX dL_1193 1 rfl ?_
    refine r_iconst hX (1 : Int32) dL_1195 rfl ?_
    refine r_iadd hX dL_1196 ?_
    refine r_sld hX hq i1 dL_1197 ?_
    refine r_aload_n hX dL_1198 5 rfl ?_
    refine r_iload hX dL_1199 1 rfl ?_
    refine r_iconst hX (2 : Int32) dL_1201 rfl ?_
    refine r_iadd hX dL_1202 ?_
    refine r_sld hX hq i2 dL_1203 ?_
    refine r_callVI (Ok.le hX (by omega)) (c_m_rates (d := 1000) g3) cv_L_179 (w_111 _ _ _) rfl rfl (st := []) rfl rfl rfl dL_1204 (fun dy => ?_)
    refine r_istore (ls' := (6, .int ans) :: (5, .int 1) :: lwLs X b (nI (5 * j))) hX dL_1207 rfl rfl ?_
    refine r_aload_n hX dL_1209 4 rfl ?_
    refine r_callVI (v := μ2.1 v_m_thrown 0) (μ1 := μ2) (Ok.le hX (by omega)) (c_m_thrown (d := 1000) (r := (μ2.1 v_m_thrown 0, μ2)) rfl) cv_L_47 (w_111 _ _ _) rfl rfl (st := []) rfl rfl rfl dL_1210 (fun dy => ?_)
    refine r_iload hX dL_1213 1 rfl ?_
    refine r_icmp_eq hX 1220 dL_1215 rfl (fun _ => ?_) (fun hc => absurd e1 hc)
    refine r_iload hX dL_1220 1 rfl ?_
    refine r_if_ne hX 1237 dL_1222 rfl (fun _ => ?_) (fun hc => absurd hc (by decide))
    refine r_goto hX 1569 dL_1237 rfl ?_
    refine r_weak [2, 3, 4, 5, 6] rfl ?_
    exact kk _ _ _ _ h2
set_option maxHeartbeats 1000000 in
theorem law_c46 (hX : Ok M_lw_law 2047 X) (hE : EXT (xA X) (xs X) (xs X).heap) (hfl : (xl X).flags = flags0) (hq : Scr X b L ys) (i1 : vp_in (nI (5 * j) + 1) L) (i2 : vp_in (nI (5 * j) + 2) L) (i3 : vp_in (nI (5 * j) + 3) L) (i4 : vp_in (nI (5 * j) + 4) L) (h1 : One N a U μ) (hN : N < 600) (kk : ∀ a' U' μ' dy', One (N + 1) a' U' μ' → AW X 1569 (lwLs X b (nI (5 * j))) [] μ' dy') (dy : Nat → Nat) : AW X 1514 (lwLs X b (nI (5 * j))) [] μ dy := by
  have hz := h1.1.room
  rcases (op_row (ys (nI (5 * j) + 1).toNatClampNeg)).u.step (fun _ _ h => row_thr_same h) h1 hN with ⟨ans, μ1, g1, g2⟩ | ⟨g1, g2⟩
  · obtain ⟨μ2, a2, U2, g3, h2, e1, e2⟩ := g2 (ans)
    refine r_aload_n hX dL_1514 3 rfl ?_
    refine r_aload_n hX dL_1515 4 rfl ?_
    refine r_iload hX dL_1516 0 rfl ?_
    refine r_iconst hX (1 : Int32) dL_1518 rfl ?_
    refine r_iadd hX dL_1519 ?_
    refine r_sld hX hq i1 dL_1520 ?_
    refine r_aload_n hX dL_1521 1 rfl ?_
    refine r_callH (d := 2046) hX hE hfl (h_row (d := 2037) g1) ch_row (st := []) rfl rfl rfl dL_1522 (fun dy => ?_)
    refine r_istore (ls' := (5, .int 0) :: lwLs X b (nI (5 * j))) hX dL_1525 rfl rfl ?_
    refine r_aload_n hX dL_1527 3 rfl ?_
    refine r_aload_n hX dL_1528 5 rfl ?_
    refine r_iload hX dL_1529 1 rfl ?_
    refine r_iconst hX (1 : Int32) dL_1531 rfl ?_
    refine r_iadd hX dL_1532 ?_
    refine r_sld hX hq i1 dL_1533 ?_
    refine r_callVL (Ok.le hX (by omega)) (c_m_row (d := 1000) g3) cv_L_223 (w_111 _ _ _) rfl rfl (st := []) rfl rfl rfl dL_1534 (fun dy => ?_)
    refine r_lstore (ls' := (6, .long ans) :: (5, .int 0) :: lwLs X b (nI (5 * j))) hX dL_1537 rfl rfl ?_
    refine r_aload_n hX dL_1539 4 rfl ?_
    refine r_callVI (v := μ2.1 v_m_thrown 0) (μ1 := μ2) (Ok.le hX (by omega)) (c_m_thrown (d := 1000) (r := (μ2.1 v_m_thrown 0, μ2)) rfl) cv_L_47 (w_111 _ _ _) rfl rfl (st := []) rfl rfl rfl dL_1540 (fun dy => ?_)
    refine r_iload hX dL_1543 1 rfl ?_
    refine r_icmp_eq hX 1550 dL_1545 rfl (fun _ => ?_) (fun hc => absurd e1 hc)
    refine r_iload hX dL_1550 1 rfl ?_
    refine r_if_ne hX 1566 dL_1552 rfl (fun hc => absurd rfl hc) (fun _ => ?_)
    refine r_aload_n hX dL_1555 3 rfl ?_
    refine r_iconst hX (0 : Int32) dL_1556 rfl ?_
    refine r_lald hX (w_134 _ _ _) (inb_in (by decide)) dL_1557 ?_
    refine r_lload hX dL_1558 0 rfl ?_
    refine r_lcmp hX dL_1560 ?_
    refine r_if_eq hX 1566 dL_1561 rfl (fun _ => ?_) (fun hc => absurd (by show lg_cmp (μ2.2.1 l_out 0) (ans) = 0; rw [e2]; exact lg_self _) hc)
    refine r_goto hX 1569 dL_1566 rfl ?_
    refine r_weak [2, 3, 4, 5, 6] rfl ?_
    exact kk _ _ _ _ h2
  · obtain ⟨ans, μ2, a2, U2, g3, h2, e1⟩ := g2 6 (by omega)
    refine r_aload_n hX dL_1514 3 rfl ?_
    refine r_aload_n hX dL_1515 4 rfl ?_
    refine r_iload hX dL_1516 0 rfl ?_
    refine r_iconst hX (1 : Int32) dL_1518 rfl ?_
    refine r_iadd hX dL_1519 ?_
    refine r_sld hX hq i1 dL_1520 ?_
    refine r_aload_n hX dL_1521 1 rfl ?_
    refine r_callH (d := 2046) hX hE hfl (ht_row (d := 2037) hz g1) ch_row (st := []) rfl rfl rfl dL_1522 (fun dy => ?_)
    refine r_istore (ls' := (5, .int 1) :: lwLs X b (nI (5 * j))) hX dL_1525 rfl rfl ?_
    refine r_aload_n hX dL_1527 3 rfl ?_
    refine r_aload_n hX dL_1528 5 rfl ?_
    refine r_iload hX dL_1529 1 rfl ?_
    refine r_iconst hX (1 : Int32) dL_1531 rfl ?_
    refine r_iadd hX dL_1532 ?_
    refine r_sld hX hq i1 dL_1533 ?_
    refine r_callVL (Ok.le hX (by omega)) (c_m_row (d := 1000) g3) cv_L_223 (w_111 _ _ _) rfl rfl (st := []) rfl rfl rfl dL_1534 (fun dy => ?_)
    refine r_lstore (ls' := (6, .long ans) :: (5, .int 1) :: lwLs X b (nI (5 * j))) hX dL_1537 rfl rfl ?_
    refine r_aload_n hX dL_1539 4 rfl ?_
    refine r_callVI (v := μ2.1 v_m_thrown 0) (μ1 := μ2) (Ok.le hX (by omega)) (c_m_thrown (d := 1000) (r := (μ2.1 v_m_thrown 0, μ2)) rfl) cv_L_47 (w_111 _ _ _) rfl rfl (st := []) rfl rfl rfl dL_1540 (fun dy => ?_)
    refine r_iload hX dL_1543 1 rfl ?_
    refine r_icmp_eq hX 1550 dL_1545 rfl (fun _ => ?_) (fun hc => absurd e1 hc)
    refine r_iload hX dL_1550 1 rfl ?_
    refine r_if_ne hX 1566 dL_1552 rfl (fun _ => ?_) (fun hc => absurd hc (by decide))
    refine r_goto hX 1569 dL_1566 rfl ?_
    refine r_weak [2, 3, 4, 5, 6] rfl ?_
    exact kk _ _ _ _ h2
end LC
