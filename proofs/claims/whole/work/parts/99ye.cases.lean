/-! The law's cases, group 4. (printed by law_y.py) -/
section LC
variable {X : Cx} {b L j N : Nat} {ys : Nat → Int32} {a : Ab} {U : Nat → List Nat} {μ : Mem}
set_option maxHeartbeats 1000000 in
theorem law_c34 (hX : Ok M_lw_law 2047 X) (hE : EXT (xA X) (xs X) (xs X).heap) (hfl : (xl X).flags = flags0) (hq : Scr X b L ys) (i1 : vp_in (nI (5 * j) + 1) L) (i2 : vp_in (nI (5 * j) + 2) L) (i3 : vp_in (nI (5 * j) + 3) L) (i4 : vp_in (nI (5 * j) + 4) L) (h1 : One N a U μ) (hN : N < 600) (kk : ∀ a' U' μ' dy', One (N + 1) a' U' μ' → AW X 1569 (lwLs X b (nI (5 * j))) [] μ' dy') (dy : Nat → Nat) : AW X 1147 (lwLs X b (nI (5 * j))) [] μ dy := by
  obtain ⟨ans, μ1, μ2, a2, U2, g1, g2, h2⟩ := (op_rule (x := (ys (nI (5 * j) + 1).toNatClampNeg))).step h1 hN
  refine r_aload_n hX dL_1147 3 rfl ?_
  refine r_aload_n hX dL_1148 4 rfl ?_
  refine r_iload hX dL_1149 0 rfl ?_
  refine r_iconst hX (1 : Int32) dL_1151 rfl ?_
  refine r_iadd hX dL_1152 ?_
  refine r_sld hX hq i1 dL_1153 ?_
  refine r_callVI (Ok.le hX (by omega)) (c_x_rule (d := 1000) g1) cv_L_173 (w_0 _ _ _) rfl rfl (st := []) rfl rfl rfl dL_1154 (fun dy => ?_)
  refine r_aload_n hX dL_1157 2 rfl ?_
  refine r_aload_n hX dL_1158 4 rfl ?_
  refine r_iload hX dL_1159 0 rfl ?_
  refine r_iconst hX (1 : Int32) dL_1161 rfl ?_
  refine r_iadd hX dL_1162 ?_
  refine r_sld hX hq i1 dL_1163 ?_
  refine r_callVI (Ok.le hX (by omega)) (c_m_rule (d := 1000) g2) cv_L_176 (w_111 _ _ _) rfl rfl (st := [.int ans]) rfl rfl rfl dL_1164 (fun dy => ?_)
  exact r_icmp_eq hX 1569 dL_1167 rfl (fun _ => kk _ _ _ _ h2) (fun hc => absurd rfl hc)
set_option maxHeartbeats 1000000 in
theorem law_c36 (hX : Ok M_lw_law 2047 X) (hE : EXT (xA X) (xs X) (xs X).heap) (hfl : (xl X).flags = flags0) (hq : Scr X b L ys) (i1 : vp_in (nI (5 * j) + 1) L) (i2 : vp_in (nI (5 * j) + 2) L) (i3 : vp_in (nI (5 * j) + 3) L) (i4 : vp_in (nI (5 * j) + 4) L) (h1 : One N a U μ) (hN : N < 600) (kk : ∀ a' U' μ' dy', One (N + 1) a' U' μ' → AW X 1569 (lwLs X b (nI (5 * j))) [] μ' dy') (dy : Nat → Nat) : AW X 1240 (lwLs X b (nI (5 * j))) [] μ dy := by
  obtain ⟨ans, μ1, μ2, a2, U2, g1, g2, h2⟩ := (op_picks (x := (ys (nI (5 * j) + 1).toNatClampNeg))).step h1 hN
  refine r_aload_n hX dL_1240 3 rfl ?_
  refine r_aload_n hX dL_1241 4 rfl ?_
  refine r_iload hX dL_1242 0 rfl ?_
  refine r_iconst hX (1 : Int32) dL_1244 rfl ?_
  refine r_iadd hX dL_1245 ?_
  refine r_sld hX hq i1 dL_1246 ?_
  refine r_callVI (Ok.le hX (by omega)) (c_x_picks (d := 1000) g1) cv_L_180 (w_0 _ _ _) rfl rfl (st := []) rfl rfl rfl dL_1247 (fun dy => ?_)
  refine r_aload_n hX dL_1250 2 rfl ?_
  refine r_aload_n hX dL_1251 4 rfl ?_
  refine r_iload hX dL_1252 0 rfl ?_
  refine r_iconst hX (1 : Int32) dL_1254 rfl ?_
  refine r_iadd hX dL_1255 ?_
  refine r_sld hX hq i1 dL_1256 ?_
  refine r_callVI (Ok.le hX (by omega)) (c_m_picks (d := 1000) g2) cv_L_183 (w_111 _ _ _) rfl rfl (st := [.int ans]) rfl rfl rfl dL_1257 (fun dy => ?_)
  exact r_icmp_eq hX 1569 dL_1260 rfl (fun _ => kk _ _ _ _ h2) (fun hc => absurd rfl hc)
set_option maxHeartbeats 1000000 in
theorem law_c37 (hX : Ok M_lw_law 2047 X) (hE : EXT (xA X) (xs X) (xs X).heap) (hfl : (xl X).flags = flags0) (hq : Scr X b L ys) (i1 : vp_in (nI (5 * j) + 1) L) (i2 : vp_in (nI (5 * j) + 2) L) (i3 : vp_in (nI (5 * j) + 3) L) (i4 : vp_in (nI (5 * j) + 4) L) (h1 : One N a U μ) (hN : N < 600) (kk : ∀ a' U' μ' dy', One (N + 1) a' U' μ' → AW X 1569 (lwLs X b (nI (5 * j))) [] μ' dy') (dy : Nat → Nat) : AW X 1265 (lwLs X b (nI (5 * j))) [] μ dy := by
  obtain ⟨ans, μ1, μ2, a2, U2, g1, g2, h2⟩ := (op_market (x := (ys (nI (5 * j) + 1).toNatClampNeg))).step h1 hN
  refine r_aload_n hX dL_1265 3 rfl ?_
  refine r_aload_n hX dL_1266 4 rfl ?_
  refine r_iload hX dL_1267 0 rfl ?_
  refine r_iconst hX (1 : Int32) dL_1269 rfl ?_
  refine r_iadd hX dL_1270 ?_
  refine r_sld hX hq i1 dL_1271 ?_
  refine r_callVI (Ok.le hX (by omega)) (c_x_market (d := 1000) g1) cv_L_184 (w_0 _ _ _) rfl rfl (st := []) rfl rfl rfl dL_1272 (fun dy => ?_)
  refine r_aload_n hX dL_1275 2 rfl ?_
  refine r_aload_n hX dL_1276 4 rfl ?_
  refine r_iload hX dL_1277 0 rfl ?_
  refine r_iconst hX (1 : Int32) dL_1279 rfl ?_
  refine r_iadd hX dL_1280 ?_
  refine r_sld hX hq i1 dL_1281 ?_
  refine r_callVI (Ok.le hX (by omega)) (c_m_market (d := 1000) g2) cv_L_187 (w_111 _ _ _) rfl rfl (st := [.int ans]) rfl rfl rfl dL_1282 (fun dy => ?_)
  exact r_icmp_eq hX 1569 dL_1285 rfl (fun _ => kk _ _ _ _ h2) (fun hc => absurd rfl hc)
set_option maxHeartbeats 1000000 in
theorem law_c38 (hX : Ok M_lw_law 2047 X) (hE : EXT (xA X) (xs X) (xs X).heap) (hfl : (xl X).flags = flags0) (hq : Scr X b L ys) (i1 : vp_in (nI (5 * j) + 1) L) (i2 : vp_in (nI (5 * j) + 2) L) (i3 : vp_in (nI (5 * j) + 3) L) (i4 : vp_in (nI (5 * j) + 4) L) (h1 : One N a U μ) (hN : N < 600) (kk : ∀ a' U' μ' dy', One (N + 1) a' U' μ' → AW X 1569 (lwLs X b (nI (5 * j))) [] μ' dy') (dy : Nat → Nat) : AW X 1290 (lwLs X b (nI (5 * j))) [] μ dy := by
  obtain ⟨ans, μ1, μ2, a2, U2, g1, g2, h2⟩ := (op_game (ys (nI (5 * j) + 1).toNatClampNeg)).u.step h1 hN
  refine r_aload_n hX dL_1290 3 rfl ?_
  refine r_aload_n hX dL_1291 4 rfl ?_
  refine r_iload hX dL_1292 0 rfl ?_
  refine r_iconst hX (1 : Int32) dL_1294 rfl ?_
  refine r_iadd hX dL_1295 ?_
  refine r_sld hX hq i1 dL_1296 ?_
  refine r_callVI (Ok.le hX (by omega)) (c_x_game (d := 1000) g1) cv_L_188 (w_0 _ _ _) rfl rfl (st := []) rfl rfl rfl dL_1297 (fun dy => ?_)
  refine r_aload_n hX dL_1300 2 rfl ?_
  refine r_aload_n hX dL_1301 4 rfl ?_
  refine r_iload hX dL_1302 0 rfl ?_
  refine r_iconst hX (1 : Int32) dL_1304 rfl ?_
  refine r_iadd hX dL_1305 ?_
  refine r_sld hX hq i1 dL_1306 ?_
  refine r_callVI (Ok.le hX (by omega)) (c_m_game_ (d := 1000) g2) cv_L_191 (w_111 _ _ _) rfl rfl (st := [.int ans]) rfl rfl rfl dL_1307 (fun dy => ?_)
  exact r_icmp_eq hX 1569 dL_1310 rfl (fun _ => kk _ _ _ _ h2) (fun hc => absurd rfl hc)
set_option maxHeartbeats 1000000 in
theorem law_c39 (hX : Ok M_lw_law 2047 X) (hE : EXT (xA X) (xs X) (xs X).heap) (hfl : (xl X).flags = flags0) (hq : Scr X b L ys) (i1 : vp_in (nI (5 * j) + 1) L) (i2 : vp_in (nI (5 * j) + 2) L) (i3 : vp_in (nI (5 * j) + 3) L) (i4 : vp_in (nI (5 * j) + 4) L) (h1 : One N a U μ) (hN : N < 600) (kk : ∀ a' U' μ' dy', One (N + 1) a' U' μ' → AW X 1569 (lwLs X b (nI (5 * j))) [] μ' dy') (dy : Nat → Nat) : AW X 1315 (lwLs X b (nI (5 * j))) [] μ dy := by
  obtain ⟨ans, μ1, μ2, a2, U2, g1, g2, h2⟩ := (op_against (x := (ys (nI (5 * j) + 1).toNatClampNeg))).step h1 hN
  refine r_aload_n hX dL_1315 3 rfl ?_
  refine r_aload_n hX dL_1316 4 rfl ?_
  refine r_iload hX dL_1317 0 rfl ?_
  refine r_iconst hX (1 : Int32) dL_1319 rfl ?_
  refine r_iadd hX dL_1320 ?_
  refine r_sld hX hq i1 dL_1321 ?_
  refine r_callVI (Ok.le hX (by omega)) (c_x_against (d := 1000) g1) cv_L_192 (w_0 _ _ _) rfl rfl (st := []) rfl rfl rfl dL_1322 (fun dy => ?_)
  refine r_aload_n hX dL_1325 2 rfl ?_
  refine r_aload_n hX dL_1326 4 rfl ?_
  refine r_iload hX dL_1327 0 rfl ?_
  refine r_iconst hX (1 : Int32) dL_1329 rfl ?_
  refine r_iadd hX dL_1330 ?_
  refine r_sld hX hq i1 dL_1331 ?_
  refine r_callVI (Ok.le hX (by omega)) (c_m_against (d := 1000) g2) cv_L_195 (w_111 _ _ _) rfl rfl (st := [.int ans]) rfl rfl rfl dL_1332 (fun dy => ?_)
  exact r_icmp_eq hX 1569 dL_1335 rfl (fun _ => kk _ _ _ _ h2) (fun hc => absurd rfl hc)
set_option maxHeartbeats 1000000 in
theorem law_c40 (hX : Ok M_lw_law 2047 X) (hE : EXT (xA X) (xs X) (xs X).heap) (hfl : (xl X).flags = flags0) (hq : Scr X b L ys) (i1 : vp_in (nI (5 * j) + 1) L) (i2 : vp_in (nI (5 * j) + 2) L) (i3 : vp_in (nI (5 * j) + 3) L) (i4 : vp_in (nI (5 * j) + 4) L) (h1 : One N a U μ) (hN : N < 600) (kk : ∀ a' U' μ' dy', One (N + 1) a' U' μ' → AW X 1569 (lwLs X b (nI (5 * j))) [] μ' dy') (dy : Nat → Nat) : AW X 1340 (lwLs X b (nI (5 * j))) [] μ dy := by
  obtain ⟨ans, μ1, μ2, a2, U2, g1, g2, h2⟩ := (op_change (ys (nI (5 * j) + 1).toNatClampNeg)).u.step h1 hN
  refine r_aload_n hX dL_1340 3 rfl ?_
  refine r_aload_n hX dL_1341 4 rfl ?_
  refine r_iload hX dL_1342 0 rfl ?_
  refine r_iconst hX (1 : Int32) dL_1344 rfl ?_
  refine r_iadd hX dL_1345 ?_
  refine r_sld hX hq i1 dL_1346 ?_
  refine r_callVI (Ok.le hX (by omega)) (c_x_change (d := 1000) g1) cv_L_196 (w_0 _ _ _) rfl rfl (st := []) rfl rfl rfl dL_1347 (fun dy => ?_)
  refine r_aload_n hX dL_1350 2 rfl ?_
  refine r_aload_n hX dL_1351 4 rfl ?_
  refine r_iload hX dL_1352 0 rfl ?_
  refine r_iconst hX (1 : Int32) dL_1354 rfl ?_
  refine r_iadd hX dL_1355 ?_
  refine r_sld hX hq i1 dL_1356 ?_
  refine r_callVI (Ok.le hX (by omega)) (c_m_change (d := 1000) g2) cv_L_199 (w_111 _ _ _) rfl rfl (st := [.int ans]) rfl rfl rfl dL_1357 (fun dy => ?_)
  exact r_icmp_eq hX 1569 dL_1360 rfl (fun _ => kk _ _ _ _ h2) (fun hc => absurd rfl hc)
set_option maxHeartbeats 1000000 in
theorem law_c41 (hX : Ok M_lw_law 2047 X) (hE : EXT (xA X) (xs X) (xs X).heap) (hfl : (xl X).flags = flags0) (hq : Scr X b L ys) (i1 : vp_in (nI (5 * j) + 1) L) (i2 : vp_in (nI (5 * j) + 2) L) (i3 : vp_in (nI (5 * j) + 3) L) (i4 : vp_in (nI (5 * j) + 4) L) (h1 : One N a U μ) (hN : N < 600) (kk : ∀ a' U' μ' dy', One (N + 1) a' U' μ' → AW X 1569 (lwLs X b (nI (5 * j))) [] μ' dy') (dy : Nat → Nat) : AW X 1365 (lwLs X b (nI (5 * j))) [] μ dy := by
  obtain ⟨ans, μ1, μ2, a2, U2, g1, g2, h2⟩ := (op_single (ys (nI (5 * j) + 1).toNatClampNeg)).u.step h1 hN
  refine r_aload_n hX dL_1365 3 rfl ?_
  refine r_aload_n hX dL_1366 4 rfl ?_
  refine r_iload hX dL_1367 0 rfl ?_
  refine r_iconst hX (1 : Int32) dL_1369 rfl ?_
  refine r_iadd hX dL_1370 ?_
  refine r_sld hX hq i1 dL_1371 ?_
  refine r_callVI (Ok.le hX (by omega)) (c_x_single (d := 1000) g1) cv_L_200 (w_0 _ _ _) rfl rfl (st := []) rfl rfl rfl dL_1372 (fun dy => ?_)
  refine r_aload_n hX dL_1375 2 rfl ?_
  refine r_aload_n hX dL_1376 4 rfl ?_
  refine r_iload hX dL_1377 0 rfl ?_
  refine r_iconst hX (1 : Int32) dL_1379 rfl ?_
  refine r_iadd hX dL_1380 ?_
  refine r_sld hX hq i1 dL_1381 ?_
  refine r_callVI (Ok.le hX (by omega)) (c_m_single (d := 1000) g2) cv_L_203 (w_111 _ _ _) rfl rfl (st := [.int ans]) rfl rfl rfl dL_1382 (fun dy => ?_)
  exact r_icmp_eq hX 1569 dL_1385 rfl (fun _ => kk _ _ _ _ h2) (fun hc => absurd rfl hc)
set_option maxHeartbeats 1000000 in
theorem law_c42 (hX : Ok M_lw_law 2047 X) (hE : EXT (xA X) (xs X) (xs X).heap) (hfl : (xl X).flags = flags0) (hq : Scr X b L ys) (i1 : vp_in (nI (5 * j) + 1) L) (i2 : vp_in (nI (5 * j) + 2) L) (i3 : vp_in (nI (5 * j) + 3) L) (i4 : vp_in (nI (5 * j) + 4) L) (h1 : One N a U μ) (hN : N < 600) (kk : ∀ a' U' μ' dy', One (N + 1) a' U' μ' → AW X 1569 (lwLs X b (nI (5 * j))) [] μ' dy') (dy : Nat → Nat) : AW X 1390 (lwLs X b (nI (5 * j))) [] μ dy := by
  obtain ⟨ans, μ1, μ2, a2, U2, g1, g2, h2⟩ := (op_meet (ys (nI (5 * j) + 1).toNatClampNeg) (ys (nI (5 * j) + 2).toNatClampNeg) (ys (nI (5 * j) + 3).toNatClampNeg)).u.step h1 hN
  refine r_aload_n hX dL_1390 3 rfl ?_
  refine r_aload_n hX dL_1391 4 rfl ?_
  refine r_iload hX dL_1392 0 rfl ?_
  refine r_iconst hX (1 : Int32) dL_1394 rfl ?_
  refine r_iadd hX dL_1395 ?_
  refine r_sld hX hq i1 dL_1396 ?_
  refine r_aload_n hX dL_1397 4 rfl ?_
  refine r_iload hX dL_1398 0 rfl ?_
  refine r_iconst hX (2 : Int32) dL_1400 rfl ?_
  refine r_iadd hX dL_1401 ?_
  refine r_sld hX hq i2 dL_1402 ?_
  refine r_aload_n hX dL_1403 4 rfl ?_
  refine r_iload hX dL_1404 0 rfl ?_
  refine r_iconst hX (3 : Int32) dL_1406 rfl ?_
  refine r_iadd hX dL_1407 ?_
  refine r_sld hX hq i3 dL_1408 ?_
  refine r_callVI (Ok.le hX (by omega)) (c_x_meet (d := 1000) g1) cv_L_204 (w_0 _ _ _) rfl rfl (st := []) rfl rfl rfl dL_1409 (fun dy => ?_)
  refine r_aload_n hX dL_1412 2 rfl ?_
  refine r_aload_n hX dL_1413 4 rfl ?_
  refine r_iload hX dL_1414 0 rfl ?_
  refine r_iconst hX (1 : Int32) dL_1416 rfl ?_
  refine r_iadd hX dL_1417 ?_
  refine r_sld hX hq i1 dL_1418 ?_
  refine r_aload_n hX dL_1419 4 rfl ?_
  refine r_iload hX dL_1420 0 rfl ?_
  refine r_iconst hX (2 : Int32) dL_1422 rfl ?_
  refine r_iadd hX dL_1423 ?_
  refine r_sld hX hq i2 dL_1424 ?_
  refine r_aload_n hX dL_1425 4 rfl ?_
  refine r_iload hX dL_1426 0 rfl ?_
  refine r_iconst hX (3 : Int32) dL_1428 rfl ?_
  refine r_iadd hX dL_1429 ?_
  refine r_sld hX hq i3 dL_1430 ?_
  refine r_callVI (Ok.le hX (by omega)) (c_m_meet (d := 1000) g2) cv_L_207 (w_111 _ _ _) rfl rfl (st := [.int ans]) rfl rfl rfl dL_1431 (fun dy => ?_)
  exact r_icmp_eq hX 1569 dL_1434 rfl (fun _ => kk _ _ _ _ h2) (fun hc => absurd rfl hc)
set_option maxHeartbeats 1000000 in
theorem law_c43 (hX : Ok M_lw_law 2047 X) (hE : EXT (xA X) (xs X) (xs X).heap) (hfl : (xl X).flags = flags0) (hq : Scr X b L ys) (i1 : vp_in (nI (5 * j) + 1) L) (i2 : vp_in (nI (5 * j) + 2) L) (i3 : vp_in (nI (5 * j) + 3) L) (i4 : vp_in (nI (5 * j) + 4) L) (h1 : One N a U μ) (hN : N < 600) (kk : ∀ a' U' μ' dy', One (N + 1) a' U' μ' → AW X 1569 (lwLs X b (nI (5 * j))) [] μ' dy') (dy : Nat → Nat) : AW X 1439 (lwLs X b (nI (5 * j))) [] μ dy := by
  obtain ⟨ans, μ1, μ2, a2, U2, g1, g2, h2⟩ := (op_keep (ys (nI (5 * j) + 1).toNatClampNeg)).u.step h1 hN
  refine r_aload_n hX dL_1439 3 rfl ?_
  refine r_aload_n hX dL_1440 4 rfl ?_
  refine r_iload hX dL_1441 0 rfl ?_
  refine r_iconst hX (1 : Int32) dL_1443 rfl ?_
  refine r_iadd hX dL_1444 ?_
  refine r_sld hX hq i1 dL_1445 ?_
  refine r_callVI (Ok.le hX (by omega)) (c_x_keep (d := 1000) g1) cv_L_208 (w_0 _ _ _) rfl rfl (st := []) rfl rfl rfl dL_1446 (fun dy => ?_)
  refine r_aload_n hX dL_1449 2 rfl ?_
  refine r_aload_n hX dL_1450 4 rfl ?_
  refine r_iload hX dL_1451 0 rfl ?_
  refine r_iconst hX (1 : Int32) dL_1453 rfl ?_
  refine r_iadd hX dL_1454 ?_
  refine r_sld hX hq i1 dL_1455 ?_
  refine r_callVI (Ok.le hX (by omega)) (c_m_keep (d := 1000) g2) cv_L_211 (w_111 _ _ _) rfl rfl (st := [.int ans]) rfl rfl rfl dL_1456 (fun dy => ?_)
  exact r_icmp_eq hX 1569 dL_1459 rfl (fun _ => kk _ _ _ _ h2) (fun hc => absurd rfl hc)
set_option maxHeartbeats 1000000 in
theorem law_c44 (hX : Ok M_lw_law 2047 X) (hE : EXT (xA X) (xs X) (xs X).heap) (hfl : (xl X).flags = flags0) (hq : Scr X b L ys) (i1 : vp_in (nI (5 * j) + 1) L) (i2 : vp_in (nI (5 * j) + 2) L) (i3 : vp_in (nI (5 * j) + 3) L) (i4 : vp_in (nI (5 * j) + 4) L) (h1 : One N a U μ) (hN : N < 600) (kk : ∀ a' U' μ' dy', One (N + 1) a' U' μ' → AW X 1569 (lwLs X b (nI (5 * j))) [] μ' dy') (dy : Nat → Nat) : AW X 1464 (lwLs X b (nI (5 * j))) [] μ dy := by
  obtain ⟨ans, μ1, μ2, a2, U2, g1, g2, h2⟩ := (op_again (ys (nI (5 * j) + 1).toNatClampNeg)).u.step h1 hN
  refine r_aload_n hX dL_1464 3 rfl ?_
  refine r_aload_n hX dL_1465 4 rfl ?_
  refine r_iload hX dL_1466 0 rfl ?_
  refine r_iconst hX (1 : Int32) dL_1468 rfl ?_
  refine r_iadd hX dL_1469 ?_
  refine r_sld hX hq i1 dL_1470 ?_
  refine r_callVI (Ok.le hX (by omega)) (c_x_again (d := 1000) g1) cv_L_212 (w_0 _ _ _) rfl rfl (st := []) rfl rfl rfl dL_1471 (fun dy => ?_)
  refine r_aload_n hX dL_1474 2 rfl ?_
  refine r_aload_n hX dL_1475 4 rfl ?_
  refine r_iload hX dL_1476 0 rfl ?_
  refine r_iconst hX (1 : Int32) dL_1478 rfl ?_
  refine r_iadd hX dL_1479 ?_
  refine r_sld hX hq i1 dL_1480 ?_
  refine r_callVI (Ok.le hX (by omega)) (c_m_again (d := 1000) g2) cv_L_215 (w_111 _ _ _) rfl rfl (st := [.int ans]) rfl rfl rfl dL_1481 (fun dy => ?_)
  exact r_icmp_eq hX 1569 dL_1484 rfl (fun _ => kk _ _ _ _ h2) (fun hc => absurd rfl hc)
set_option maxHeartbeats 1000000 in
theorem law_c45 (hX : Ok M_lw_law 2047 X) (hE : EXT (xA X) (xs X) (xs X).heap) (hfl : (xl X).flags = flags0) (hq : Scr X b L ys) (i1 : vp_in (nI (5 * j) + 1) L) (i2 : vp_in (nI (5 * j) + 2) L) (i3 : vp_in (nI (5 * j) + 3) L) (i4 : vp_in (nI (5 * j) + 4) L) (h1 : One N a U μ) (hN : N < 600) (kk : ∀ a' U' μ' dy', One (N + 1) a' U' μ' → AW X 1569 (lwLs X b (nI (5 * j))) [] μ' dy') (dy : Nat → Nat) : AW X 1489 (lwLs X b (nI (5 * j))) [] μ dy := by
  obtain ⟨ans, μ1, μ2, a2, U2, g1, g2, h2⟩ := (op_count (x := (ys (nI (5 * j) + 1).toNatClampNeg))).step h1 hN
  refine r_aload_n hX dL_1489 3 rfl ?_
  refine r_aload_n hX dL_1490 4 rfl ?_
  refine r_iload hX dL_1491 0 rfl ?_
  refine r_iconst hX (1 : Int32) dL_1493 rfl ?_
  refine r_iadd hX dL_1494 ?_
  refine r_sld hX hq i1 dL_1495 ?_
  refine r_callVI (Ok.le hX (by omega)) (c_x_count (d := 1000) g1) cv_L_216 (w_0 _ _ _) rfl rfl (st := []) rfl rfl rfl dL_1496 (fun dy => ?_)
  refine r_aload_n hX dL_1499 2 rfl ?_
  refine r_aload_n hX dL_1500 4 rfl ?_
  refine r_iload hX dL_1501 0 rfl ?_
  refine r_iconst hX (1 : Int32) dL_1503 rfl ?_
  refine r_iadd hX dL_1504 ?_
  refine r_sld hX hq i1 dL_1505 ?_
  refine r_callVI (Ok.le hX (by omega)) (c_m_count (d := 1000) g2) cv_L_219 (w_111 _ _ _) rfl rfl (st := [.int ans]) rfl rfl rfl dL_1506 (fun dy => ?_)
  exact r_icmp_eq hX 1569 dL_1509 rfl (fun _ => kk _ _ _ _ h2) (fun hc => absurd rfl hc)
end LC
