/-! The law's cases, group 3. (printed by law_y.py) -/
section LC
variable {X : Cx} {b L j N : Nat} {ys : Nat → Int32} {a : Ab} {U : Nat → List Nat} {μ : Mem}
set_option maxHeartbeats 1000000 in
theorem law_c23 (hX : Ok M_lw_law 2047 X) (hE : EXT (xA X) (xs X) (xs X).heap) (hfl : (xl X).flags = flags0) (hq : Scr X b L ys) (i1 : vp_in (nI (5 * j) + 1) L) (i2 : vp_in (nI (5 * j) + 2) L) (i3 : vp_in (nI (5 * j) + 3) L) (i4 : vp_in (nI (5 * j) + 4) L) (h1 : One N a U μ) (hN : N < 600) (kk : ∀ a' U' μ' dy', One (N + 1) a' U' μ' → AW X 1569 (lwLs X b (nI (5 * j))) [] μ' dy') (dy : Nat → Nat) : AW X 884 (lwLs X b (nI (5 * j))) [] μ dy := by
  obtain ⟨ans, μ1, μ2, a2, U2, g1, g2, h2⟩ := op_first.u.step h1 hN
  refine r_aload_n hX dL_884 3 rfl ?_
  refine r_callVI (Ok.le hX (by omega)) (c_x_first (d := 1000) g1) cv_L_129 (w_0 _ _ _) rfl rfl (st := []) rfl rfl rfl dL_885 (fun dy => ?_)
  refine r_aload_n hX dL_888 2 rfl ?_
  refine r_callVI (Ok.le hX (by omega)) (c_m_first (d := 1000) g2) cv_L_132 (w_111 _ _ _) rfl rfl (st := [.int ans]) rfl rfl rfl dL_889 (fun dy => ?_)
  exact r_icmp_eq hX 1569 dL_892 rfl (fun _ => kk _ _ _ _ h2) (fun hc => absurd rfl hc)
set_option maxHeartbeats 1000000 in
theorem law_c24 (hX : Ok M_lw_law 2047 X) (hE : EXT (xA X) (xs X) (xs X).heap) (hfl : (xl X).flags = flags0) (hq : Scr X b L ys) (i1 : vp_in (nI (5 * j) + 1) L) (i2 : vp_in (nI (5 * j) + 2) L) (i3 : vp_in (nI (5 * j) + 3) L) (i4 : vp_in (nI (5 * j) + 4) L) (h1 : One N a U μ) (hN : N < 600) (kk : ∀ a' U' μ' dy', One (N + 1) a' U' μ' → AW X 1569 (lwLs X b (nI (5 * j))) [] μ' dy') (dy : Nat → Nat) : AW X 897 (lwLs X b (nI (5 * j))) [] μ dy := by
  obtain ⟨ans, μ1, μ2, a2, U2, g1, g2, h2⟩ := op_last.u.step h1 hN
  refine r_aload_n hX dL_897 3 rfl ?_
  refine r_callVI (Ok.le hX (by omega)) (c_x_last (d := 1000) g1) cv_L_133 (w_0 _ _ _) rfl rfl (st := []) rfl rfl rfl dL_898 (fun dy => ?_)
  refine r_aload_n hX dL_901 2 rfl ?_
  refine r_callVI (Ok.le hX (by omega)) (c_m_last (d := 1000) g2) cv_L_136 (w_111 _ _ _) rfl rfl (st := [.int ans]) rfl rfl rfl dL_902 (fun dy => ?_)
  exact r_icmp_eq hX 1569 dL_905 rfl (fun _ => kk _ _ _ _ h2) (fun hc => absurd rfl hc)
set_option maxHeartbeats 1000000 in
theorem law_c25 (hX : Ok M_lw_law 2047 X) (hE : EXT (xA X) (xs X) (xs X).heap) (hfl : (xl X).flags = flags0) (hq : Scr X b L ys) (i1 : vp_in (nI (5 * j) + 1) L) (i2 : vp_in (nI (5 * j) + 2) L) (i3 : vp_in (nI (5 * j) + 3) L) (i4 : vp_in (nI (5 * j) + 4) L) (h1 : One N a U μ) (hN : N < 600) (kk : ∀ a' U' μ' dy', One (N + 1) a' U' μ' → AW X 1569 (lwLs X b (nI (5 * j))) [] μ' dy') (dy : Nat → Nat) : AW X 910 (lwLs X b (nI (5 * j))) [] μ dy := by
  obtain ⟨ans, μ1, μ2, a2, U2, g1, g2, h2⟩ := op_fates.u.step h1 hN
  refine r_aload_n hX dL_910 3 rfl ?_
  refine r_callVI (Ok.le hX (by omega)) (c_x_fates (d := 1000) g1) cv_L_137 (w_0 _ _ _) rfl rfl (st := []) rfl rfl rfl dL_911 (fun dy => ?_)
  refine r_aload_n hX dL_914 2 rfl ?_
  refine r_callVI (Ok.le hX (by omega)) (c_m_fates (d := 1000) g2) cv_L_140 (w_111 _ _ _) rfl rfl (st := [.int ans]) rfl rfl rfl dL_915 (fun dy => ?_)
  exact r_icmp_eq hX 1569 dL_918 rfl (fun _ => kk _ _ _ _ h2) (fun hc => absurd rfl hc)
set_option maxHeartbeats 1000000 in
theorem law_c26 (hX : Ok M_lw_law 2047 X) (hE : EXT (xA X) (xs X) (xs X).heap) (hfl : (xl X).flags = flags0) (hq : Scr X b L ys) (i1 : vp_in (nI (5 * j) + 1) L) (i2 : vp_in (nI (5 * j) + 2) L) (i3 : vp_in (nI (5 * j) + 3) L) (i4 : vp_in (nI (5 * j) + 4) L) (h1 : One N a U μ) (hN : N < 600) (kk : ∀ a' U' μ' dy', One (N + 1) a' U' μ' → AW X 1569 (lwLs X b (nI (5 * j))) [] μ' dy') (dy : Nat → Nat) : AW X 923 (lwLs X b (nI (5 * j))) [] μ dy := by
  obtain ⟨ans, μ1, μ2, a2, U2, g1, g2, h2⟩ := (op_fewest (ys (nI (5 * j) + 1).toNatClampNeg) (ys (nI (5 * j) + 2).toNatClampNeg)).u.step h1 hN
  refine r_aload_n hX dL_923 3 rfl ?_
  refine r_aload_n hX dL_924 4 rfl ?_
  refine r_iload hX dL_925 0 rfl ?_
  refine r_iconst hX (1 : Int32) dL_927 rfl ?_
  refine r_iadd hX dL_928 ?_
  refine r_sld hX hq i1 dL_929 ?_
  refine r_aload_n hX dL_930 4 rfl ?_
  refine r_iload hX dL_931 0 rfl ?_
  refine r_iconst hX (2 : Int32) dL_933 rfl ?_
  refine r_iadd hX dL_934 ?_
  refine r_sld hX hq i2 dL_935 ?_
  refine r_callVI (Ok.le hX (by omega)) (c_x_fewest (d := 1000) g1) cv_L_141 (w_0 _ _ _) rfl rfl (st := []) rfl rfl rfl dL_936 (fun dy => ?_)
  refine r_aload_n hX dL_939 2 rfl ?_
  refine r_aload_n hX dL_940 4 rfl ?_
  refine r_iload hX dL_941 0 rfl ?_
  refine r_iconst hX (1 : Int32) dL_943 rfl ?_
  refine r_iadd hX dL_944 ?_
  refine r_sld hX hq i1 dL_945 ?_
  refine r_aload_n hX dL_946 4 rfl ?_
  refine r_iload hX dL_947 0 rfl ?_
  refine r_iconst hX (2 : Int32) dL_949 rfl ?_
  refine r_iadd hX dL_950 ?_
  refine r_sld hX hq i2 dL_951 ?_
  refine r_callVI (Ok.le hX (by omega)) (c_m_fewest (d := 1000) g2) cv_L_144 (w_111 _ _ _) rfl rfl (st := [.int ans]) rfl rfl rfl dL_952 (fun dy => ?_)
  exact r_icmp_eq hX 1569 dL_955 rfl (fun _ => kk _ _ _ _ h2) (fun hc => absurd rfl hc)
set_option maxHeartbeats 1000000 in
theorem law_c27 (hX : Ok M_lw_law 2047 X) (hE : EXT (xA X) (xs X) (xs X).heap) (hfl : (xl X).flags = flags0) (hq : Scr X b L ys) (i1 : vp_in (nI (5 * j) + 1) L) (i2 : vp_in (nI (5 * j) + 2) L) (i3 : vp_in (nI (5 * j) + 3) L) (i4 : vp_in (nI (5 * j) + 4) L) (h1 : One N a U μ) (hN : N < 600) (kk : ∀ a' U' μ' dy', One (N + 1) a' U' μ' → AW X 1569 (lwLs X b (nI (5 * j))) [] μ' dy') (dy : Nat → Nat) : AW X 960 (lwLs X b (nI (5 * j))) [] μ dy := by
  obtain ⟨ans, μ1, μ2, a2, U2, g1, g2, h2⟩ := (op_cheapest (ys (nI (5 * j) + 1).toNatClampNeg) (ys (nI (5 * j) + 2).toNatClampNeg)).u.step h1 hN
  refine r_aload_n hX dL_960 3 rfl ?_
  refine r_aload_n hX dL_961 4 rfl ?_
  refine r_iload hX dL_962 0 rfl ?_
  refine r_iconst hX (1 : Int32) dL_964 rfl ?_
  refine r_iadd hX dL_965 ?_
  refine r_sld hX hq i1 dL_966 ?_
  refine r_aload_n hX dL_967 4 rfl ?_
  refine r_iload hX dL_968 0 rfl ?_
  refine r_iconst hX (2 : Int32) dL_970 rfl ?_
  refine r_iadd hX dL_971 ?_
  refine r_sld hX hq i2 dL_972 ?_
  refine r_callVI (Ok.le hX (by omega)) (c_x_cheapest (d := 1000) g1) cv_L_145 (w_0 _ _ _) rfl rfl (st := []) rfl rfl rfl dL_973 (fun dy => ?_)
  refine r_aload_n hX dL_976 2 rfl ?_
  refine r_aload_n hX dL_977 4 rfl ?_
  refine r_iload hX dL_978 0 rfl ?_
  refine r_iconst hX (1 : Int32) dL_980 rfl ?_
  refine r_iadd hX dL_981 ?_
  refine r_sld hX hq i1 dL_982 ?_
  refine r_aload_n hX dL_983 4 rfl ?_
  refine r_iload hX dL_984 0 rfl ?_
  refine r_iconst hX (2 : Int32) dL_986 rfl ?_
  refine r_iadd hX dL_987 ?_
  refine r_sld hX hq i2 dL_988 ?_
  refine r_callVI (Ok.le hX (by omega)) (c_m_cheapest (d := 1000) g2) cv_L_148 (w_111 _ _ _) rfl rfl (st := [.int ans]) rfl rfl rfl dL_989 (fun dy => ?_)
  exact r_icmp_eq hX 1569 dL_992 rfl (fun _ => kk _ _ _ _ h2) (fun hc => absurd rfl hc)
set_option maxHeartbeats 1000000 in
theorem law_c28 (hX : Ok M_lw_law 2047 X) (hE : EXT (xA X) (xs X) (xs X).heap) (hfl : (xl X).flags = flags0) (hq : Scr X b L ys) (i1 : vp_in (nI (5 * j) + 1) L) (i2 : vp_in (nI (5 * j) + 2) L) (i3 : vp_in (nI (5 * j) + 3) L) (i4 : vp_in (nI (5 * j) + 4) L) (h1 : One N a U μ) (hN : N < 600) (kk : ∀ a' U' μ' dy', One (N + 1) a' U' μ' → AW X 1569 (lwLs X b (nI (5 * j))) [] μ' dy') (dy : Nat → Nat) : AW X 997 (lwLs X b (nI (5 * j))) [] μ dy := by
  obtain ⟨ans, μ1, μ2, a2, U2, g1, g2, h2⟩ := (op_daily (ys (nI (5 * j) + 1).toNatClampNeg) (ys (nI (5 * j) + 2).toNatClampNeg)).u.step h1 hN
  refine r_aload_n hX dL_997 3 rfl ?_
  refine r_aload_n hX dL_998 4 rfl ?_
  refine r_iload hX dL_999 0 rfl ?_
  refine r_iconst hX (1 : Int32) dL_1001 rfl ?_
  refine r_iadd hX dL_1002 ?_
  refine r_sld hX hq i1 dL_1003 ?_
  refine r_aload_n hX dL_1004 4 rfl ?_
  refine r_iload hX dL_1005 0 rfl ?_
  refine r_iconst hX (2 : Int32) dL_1007 rfl ?_
  refine r_iadd hX dL_1008 ?_
  refine r_sld hX hq i2 dL_1009 ?_
  refine r_callVI (Ok.le hX (by omega)) (c_x_daily (d := 1000) g1) cv_L_149 (w_0 _ _ _) rfl rfl (st := []) rfl rfl rfl dL_1010 (fun dy => ?_)
  refine r_aload_n hX dL_1013 2 rfl ?_
  refine r_aload_n hX dL_1014 4 rfl ?_
  refine r_iload hX dL_1015 0 rfl ?_
  refine r_iconst hX (1 : Int32) dL_1017 rfl ?_
  refine r_iadd hX dL_1018 ?_
  refine r_sld hX hq i1 dL_1019 ?_
  refine r_aload_n hX dL_1020 4 rfl ?_
  refine r_iload hX dL_1021 0 rfl ?_
  refine r_iconst hX (2 : Int32) dL_1023 rfl ?_
  refine r_iadd hX dL_1024 ?_
  refine r_sld hX hq i2 dL_1025 ?_
  refine r_callVI (Ok.le hX (by omega)) (c_m_daily (d := 1000) g2) cv_L_152 (w_111 _ _ _) rfl rfl (st := [.int ans]) rfl rfl rfl dL_1026 (fun dy => ?_)
  exact r_icmp_eq hX 1569 dL_1029 rfl (fun _ => kk _ _ _ _ h2) (fun hc => absurd rfl hc)
set_option maxHeartbeats 1000000 in
theorem law_c29 (hX : Ok M_lw_law 2047 X) (hE : EXT (xA X) (xs X) (xs X).heap) (hfl : (xl X).flags = flags0) (hq : Scr X b L ys) (i1 : vp_in (nI (5 * j) + 1) L) (i2 : vp_in (nI (5 * j) + 2) L) (i3 : vp_in (nI (5 * j) + 3) L) (i4 : vp_in (nI (5 * j) + 4) L) (h1 : One N a U μ) (hN : N < 600) (kk : ∀ a' U' μ' dy', One (N + 1) a' U' μ' → AW X 1569 (lwLs X b (nI (5 * j))) [] μ' dy') (dy : Nat → Nat) : AW X 1034 (lwLs X b (nI (5 * j))) [] μ dy := by
  obtain ⟨ans, μ1, μ2, a2, U2, g1, g2, h2⟩ := (op_plan (ys (nI (5 * j) + 1).toNatClampNeg) (ys (nI (5 * j) + 2).toNatClampNeg)).u.step h1 hN
  refine r_aload_n hX dL_1034 3 rfl ?_
  refine r_aload_n hX dL_1035 4 rfl ?_
  refine r_iload hX dL_1036 0 rfl ?_
  refine r_iconst hX (1 : Int32) dL_1038 rfl ?_
  refine r_iadd hX dL_1039 ?_
  refine r_sld hX hq i1 dL_1040 ?_
  refine r_aload_n hX dL_1041 4 rfl ?_
  refine r_iload hX dL_1042 0 rfl ?_
  refine r_iconst hX (2 : Int32) dL_1044 rfl ?_
  refine r_iadd hX dL_1045 ?_
  refine r_sld hX hq i2 dL_1046 ?_
  refine r_callVI (Ok.le hX (by omega)) (c_x_plan (d := 1000) g1) cv_L_153 (w_0 _ _ _) rfl rfl (st := []) rfl rfl rfl dL_1047 (fun dy => ?_)
  refine r_aload_n hX dL_1050 2 rfl ?_
  refine r_aload_n hX dL_1051 4 rfl ?_
  refine r_iload hX dL_1052 0 rfl ?_
  refine r_iconst hX (1 : Int32) dL_1054 rfl ?_
  refine r_iadd hX dL_1055 ?_
  refine r_sld hX hq i1 dL_1056 ?_
  refine r_aload_n hX dL_1057 4 rfl ?_
  refine r_iload hX dL_1058 0 rfl ?_
  refine r_iconst hX (2 : Int32) dL_1060 rfl ?_
  refine r_iadd hX dL_1061 ?_
  refine r_sld hX hq i2 dL_1062 ?_
  refine r_callVI (Ok.le hX (by omega)) (c_m_plan (d := 1000) g2) cv_L_156 (w_111 _ _ _) rfl rfl (st := [.int ans]) rfl rfl rfl dL_1063 (fun dy => ?_)
  exact r_icmp_eq hX 1569 dL_1066 rfl (fun _ => kk _ _ _ _ h2) (fun hc => absurd rfl hc)
set_option maxHeartbeats 1000000 in
theorem law_c30 (hX : Ok M_lw_law 2047 X) (hE : EXT (xA X) (xs X) (xs X).heap) (hfl : (xl X).flags = flags0) (hq : Scr X b L ys) (i1 : vp_in (nI (5 * j) + 1) L) (i2 : vp_in (nI (5 * j) + 2) L) (i3 : vp_in (nI (5 * j) + 3) L) (i4 : vp_in (nI (5 * j) + 4) L) (h1 : One N a U μ) (hN : N < 600) (kk : ∀ a' U' μ' dy', One (N + 1) a' U' μ' → AW X 1569 (lwLs X b (nI (5 * j))) [] μ' dy') (dy : Nat → Nat) : AW X 1071 (lwLs X b (nI (5 * j))) [] μ dy := by
  obtain ⟨ans, μ1, μ2, a2, U2, g1, g2, h2⟩ := (op_guard (ys (nI (5 * j) + 1).toNatClampNeg)).u.step h1 hN
  refine r_aload_n hX dL_1071 3 rfl ?_
  refine r_aload_n hX dL_1072 4 rfl ?_
  refine r_iload hX dL_1073 0 rfl ?_
  refine r_iconst hX (1 : Int32) dL_1075 rfl ?_
  refine r_iadd hX dL_1076 ?_
  refine r_sld hX hq i1 dL_1077 ?_
  refine r_callVI (Ok.le hX (by omega)) (c_x_guard (d := 1000) g1) cv_L_157 (w_0 _ _ _) rfl rfl (st := []) rfl rfl rfl dL_1078 (fun dy => ?_)
  refine r_aload_n hX dL_1081 2 rfl ?_
  refine r_aload_n hX dL_1082 4 rfl ?_
  refine r_iload hX dL_1083 0 rfl ?_
  refine r_iconst hX (1 : Int32) dL_1085 rfl ?_
  refine r_iadd hX dL_1086 ?_
  refine r_sld hX hq i1 dL_1087 ?_
  refine r_callVI (Ok.le hX (by omega)) (c_m_guard (d := 1000) g2) cv_L_160 (w_111 _ _ _) rfl rfl (st := [.int ans]) rfl rfl rfl dL_1088 (fun dy => ?_)
  exact r_icmp_eq hX 1569 dL_1091 rfl (fun _ => kk _ _ _ _ h2) (fun hc => absurd rfl hc)
set_option maxHeartbeats 1000000 in
theorem law_c31 (hX : Ok M_lw_law 2047 X) (hE : EXT (xA X) (xs X) (xs X).heap) (hfl : (xl X).flags = flags0) (hq : Scr X b L ys) (i1 : vp_in (nI (5 * j) + 1) L) (i2 : vp_in (nI (5 * j) + 2) L) (i3 : vp_in (nI (5 * j) + 3) L) (i4 : vp_in (nI (5 * j) + 4) L) (h1 : One N a U μ) (hN : N < 600) (kk : ∀ a' U' μ' dy', One (N + 1) a' U' μ' → AW X 1569 (lwLs X b (nI (5 * j))) [] μ' dy') (dy : Nat → Nat) : AW X 1096 (lwLs X b (nI (5 * j))) [] μ dy := by
  obtain ⟨ans, μ1, μ2, a2, U2, g1, g2, h2⟩ := op_holds.u.step h1 hN
  refine r_aload_n hX dL_1096 3 rfl ?_
  refine r_callVI (Ok.le hX (by omega)) (c_x_holds (d := 1000) g1) cv_L_161 (w_0 _ _ _) rfl rfl (st := []) rfl rfl rfl dL_1097 (fun dy => ?_)
  refine r_aload_n hX dL_1100 2 rfl ?_
  refine r_callVI (Ok.le hX (by omega)) (c_m_holds (d := 1000) g2) cv_L_164 (w_111 _ _ _) rfl rfl (st := [.int ans]) rfl rfl rfl dL_1101 (fun dy => ?_)
  exact r_icmp_eq hX 1569 dL_1104 rfl (fun _ => kk _ _ _ _ h2) (fun hc => absurd rfl hc)
set_option maxHeartbeats 1000000 in
theorem law_c32 (hX : Ok M_lw_law 2047 X) (hE : EXT (xA X) (xs X) (xs X).heap) (hfl : (xl X).flags = flags0) (hq : Scr X b L ys) (i1 : vp_in (nI (5 * j) + 1) L) (i2 : vp_in (nI (5 * j) + 2) L) (i3 : vp_in (nI (5 * j) + 3) L) (i4 : vp_in (nI (5 * j) + 4) L) (h1 : One N a U μ) (hN : N < 600) (kk : ∀ a' U' μ' dy', One (N + 1) a' U' μ' → AW X 1569 (lwLs X b (nI (5 * j))) [] μ' dy') (dy : Nat → Nat) : AW X 1109 (lwLs X b (nI (5 * j))) [] μ dy := by
  obtain ⟨ans, μ1, μ2, a2, U2, g1, g2, h2⟩ := (op_shield (ys (nI (5 * j) + 1).toNatClampNeg)).u.step h1 hN
  refine r_aload_n hX dL_1109 3 rfl ?_
  refine r_aload_n hX dL_1110 4 rfl ?_
  refine r_iload hX dL_1111 0 rfl ?_
  refine r_iconst hX (1 : Int32) dL_1113 rfl ?_
  refine r_iadd hX dL_1114 ?_
  refine r_sld hX hq i1 dL_1115 ?_
  refine r_callVI (Ok.le hX (by omega)) (c_x_shield (d := 1000) g1) cv_L_165 (w_0 _ _ _) rfl rfl (st := []) rfl rfl rfl dL_1116 (fun dy => ?_)
  refine r_aload_n hX dL_1119 2 rfl ?_
  refine r_aload_n hX dL_1120 4 rfl ?_
  refine r_iload hX dL_1121 0 rfl ?_
  refine r_iconst hX (1 : Int32) dL_1123 rfl ?_
  refine r_iadd hX dL_1124 ?_
  refine r_sld hX hq i1 dL_1125 ?_
  refine r_callVI (Ok.le hX (by omega)) (c_m_shield (d := 1000) g2) cv_L_168 (w_111 _ _ _) rfl rfl (st := [.int ans]) rfl rfl rfl dL_1126 (fun dy => ?_)
  exact r_icmp_eq hX 1569 dL_1129 rfl (fun _ => kk _ _ _ _ h2) (fun hc => absurd rfl hc)
set_option maxHeartbeats 1000000 in
theorem law_c33 (hX : Ok M_lw_law 2047 X) (hE : EXT (xA X) (xs X) (xs X).heap) (hfl : (xl X).flags = flags0) (hq : Scr X b L ys) (i1 : vp_in (nI (5 * j) + 1) L) (i2 : vp_in (nI (5 * j) + 2) L) (i3 : vp_in (nI (5 * j) + 3) L) (i4 : vp_in (nI (5 * j) + 4) L) (h1 : One N a U μ) (hN : N < 600) (kk : ∀ a' U' μ' dy', One (N + 1) a' U' μ' → AW X 1569 (lwLs X b (nI (5 * j))) [] μ' dy') (dy : Nat → Nat) : AW X 1134 (lwLs X b (nI (5 * j))) [] μ dy := by
  obtain ⟨ans, μ1, μ2, a2, U2, g1, g2, h2⟩ := op_bound.u.step h1 hN
  refine r_aload_n hX dL_1134 3 rfl ?_
  refine r_callVI (Ok.le hX (by omega)) (c_x_bound (d := 1000) g1) cv_L_169 (w_0 _ _ _) rfl rfl (st := []) rfl rfl rfl dL_1135 (fun dy => ?_)
  refine r_aload_n hX dL_1138 2 rfl ?_
  refine r_callVI (Ok.le hX (by omega)) (c_m_bound (d := 1000) g2) cv_L_172 (w_111 _ _ _) rfl rfl (st := [.int ans]) rfl rfl rfl dL_1139 (fun dy => ?_)
  exact r_icmp_eq hX 1569 dL_1142 rfl (fun _ => kk _ _ _ _ h2) (fun hc => absurd rfl hc)
end LC
