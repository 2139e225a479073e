/-! The law's cases, group 2. (printed by law_y.py) -/
section LC
variable {X : Cx} {b L j N : Nat} {ys : Nat → Int32} {a : Ab} {U : Nat → List Nat} {μ : Mem}
set_option maxHeartbeats 1000000 in
theorem law_c12 (hX : Ok M_lw_law 2047 X) (hE : EXT (xA X) (xs X) (xs X).heap) (hfl : (xl X).flags = flags0) (hq : Scr X b L ys) (i1 : vp_in (nI (5 * j) + 1) L) (i2 : vp_in (nI (5 * j) + 2) L) (i3 : vp_in (nI (5 * j) + 3) L) (i4 : vp_in (nI (5 * j) + 4) L) (h1 : One N a U μ) (hN : N < 600) (kk : ∀ a' U' μ' dy', One (N + 1) a' U' μ' → AW X 1569 (lwLs X b (nI (5 * j))) [] μ' dy') (dy : Nat → Nat) : AW X 631 (lwLs X b (nI (5 * j))) [] μ dy := by
  obtain ⟨ans, μ1, μ2, a2, U2, g1, g2, h2⟩ := op_rest.u.step h1 hN
  refine r_aload_n hX dL_631 3 rfl ?_
  refine r_callVI (Ok.le hX (by omega)) (c_x_rest (d := 1000) g1) cv_L_84 (w_0 _ _ _) rfl rfl (st := []) rfl rfl rfl dL_632 (fun dy => ?_)
  refine r_aload_n hX dL_635 2 rfl ?_
  refine r_callVI (Ok.le hX (by omega)) (c_m_rest (d := 1000) g2) cv_L_87 (w_111 _ _ _) rfl rfl (st := [.int ans]) rfl rfl rfl dL_636 (fun dy => ?_)
  exact r_icmp_eq hX 1569 dL_639 rfl (fun _ => kk _ _ _ _ h2) (fun hc => absurd rfl hc)
set_option maxHeartbeats 1000000 in
theorem law_c13 (hX : Ok M_lw_law 2047 X) (hE : EXT (xA X) (xs X) (xs X).heap) (hfl : (xl X).flags = flags0) (hq : Scr X b L ys) (i1 : vp_in (nI (5 * j) + 1) L) (i2 : vp_in (nI (5 * j) + 2) L) (i3 : vp_in (nI (5 * j) + 3) L) (i4 : vp_in (nI (5 * j) + 4) L) (h1 : One N a U μ) (hN : N < 600) (kk : ∀ a' U' μ' dy', One (N + 1) a' U' μ' → AW X 1569 (lwLs X b (nI (5 * j))) [] μ' dy') (dy : Nat → Nat) : AW X 644 (lwLs X b (nI (5 * j))) [] μ dy := by
  obtain ⟨ans, μ1, μ2, a2, U2, g1, g2, h2⟩ := (op_fall (ys (nI (5 * j) + 1).toNatClampNeg)).u.step h1 hN
  refine r_aload_n hX dL_644 3 rfl ?_
  refine r_aload_n hX dL_645 4 rfl ?_
  refine r_iload hX dL_646 0 rfl ?_
  refine r_iconst hX (1 : Int32) dL_648 rfl ?_
  refine r_iadd hX dL_649 ?_
  refine r_sld hX hq i1 dL_650 ?_
  refine r_callVL (Ok.le hX (by omega)) (c_x_fall (d := 1000) g1) cv_L_88 (w_0 _ _ _) rfl rfl (st := []) rfl rfl rfl dL_651 (fun dy => ?_)
  refine r_aload_n hX dL_654 2 rfl ?_
  refine r_aload_n hX dL_655 4 rfl ?_
  refine r_iload hX dL_656 0 rfl ?_
  refine r_iconst hX (1 : Int32) dL_658 rfl ?_
  refine r_iadd hX dL_659 ?_
  refine r_sld hX hq i1 dL_660 ?_
  refine r_callVL (Ok.le hX (by omega)) (c_m_fall (d := 1000) g2) cv_L_91 (w_111 _ _ _) rfl rfl (st := [.long ans]) rfl rfl rfl dL_661 (fun dy => ?_)
  refine r_lcmp hX dL_664 ?_
  exact r_if_eq hX 1569 dL_665 rfl (fun _ => kk _ _ _ _ h2) (fun hc => absurd (lg_self ans) hc)
set_option maxHeartbeats 1000000 in
theorem law_c14 (hX : Ok M_lw_law 2047 X) (hE : EXT (xA X) (xs X) (xs X).heap) (hfl : (xl X).flags = flags0) (hq : Scr X b L ys) (i1 : vp_in (nI (5 * j) + 1) L) (i2 : vp_in (nI (5 * j) + 2) L) (i3 : vp_in (nI (5 * j) + 3) L) (i4 : vp_in (nI (5 * j) + 4) L) (h1 : One N a U μ) (hN : N < 600) (kk : ∀ a' U' μ' dy', One (N + 1) a' U' μ' → AW X 1569 (lwLs X b (nI (5 * j))) [] μ' dy') (dy : Nat → Nat) : AW X 670 (lwLs X b (nI (5 * j))) [] μ dy := by
  obtain ⟨ans, μ1, μ2, a2, U2, g1, g2, h2⟩ := op_falls.u.step h1 hN
  refine r_aload_n hX dL_670 3 rfl ?_
  refine r_callVL (Ok.le hX (by omega)) (c_x_falls (d := 1000) g1) cv_L_92 (w_0 _ _ _) rfl rfl (st := []) rfl rfl rfl dL_671 (fun dy => ?_)
  refine r_aload_n hX dL_674 2 rfl ?_
  refine r_callVL (Ok.le hX (by omega)) (c_m_falls (d := 1000) g2) cv_L_96 (w_111 _ _ _) rfl rfl (st := [.long ans]) rfl rfl rfl dL_675 (fun dy => ?_)
  refine r_lcmp hX dL_678 ?_
  exact r_if_eq hX 1569 dL_679 rfl (fun _ => kk _ _ _ _ h2) (fun hc => absurd (lg_self ans) hc)
set_option maxHeartbeats 1000000 in
theorem law_c15 (hX : Ok M_lw_law 2047 X) (hE : EXT (xA X) (xs X) (xs X).heap) (hfl : (xl X).flags = flags0) (hq : Scr X b L ys) (i1 : vp_in (nI (5 * j) + 1) L) (i2 : vp_in (nI (5 * j) + 2) L) (i3 : vp_in (nI (5 * j) + 3) L) (i4 : vp_in (nI (5 * j) + 4) L) (h1 : One N a U μ) (hN : N < 600) (kk : ∀ a' U' μ' dy', One (N + 1) a' U' μ' → AW X 1569 (lwLs X b (nI (5 * j))) [] μ' dy') (dy : Nat → Nat) : AW X 684 (lwLs X b (nI (5 * j))) [] μ dy := by
  obtain ⟨ans, μ1, μ2, a2, U2, g1, g2, h2⟩ := op_swings.u.step h1 hN
  refine r_aload_n hX dL_684 3 rfl ?_
  refine r_callVI (Ok.le hX (by omega)) (c_x_swings (d := 1000) g1) cv_L_97 (w_0 _ _ _) rfl rfl (st := []) rfl rfl rfl dL_685 (fun dy => ?_)
  refine r_aload_n hX dL_688 2 rfl ?_
  refine r_callVI (Ok.le hX (by omega)) (c_m_swings (d := 1000) g2) cv_L_100 (w_111 _ _ _) rfl rfl (st := [.int ans]) rfl rfl rfl dL_689 (fun dy => ?_)
  exact r_icmp_eq hX 1569 dL_692 rfl (fun _ => kk _ _ _ _ h2) (fun hc => absurd rfl hc)
set_option maxHeartbeats 1000000 in
theorem law_c16 (hX : Ok M_lw_law 2047 X) (hE : EXT (xA X) (xs X) (xs X).heap) (hfl : (xl X).flags = flags0) (hq : Scr X b L ys) (i1 : vp_in (nI (5 * j) + 1) L) (i2 : vp_in (nI (5 * j) + 2) L) (i3 : vp_in (nI (5 * j) + 3) L) (i4 : vp_in (nI (5 * j) + 4) L) (h1 : One N a U μ) (hN : N < 600) (kk : ∀ a' U' μ' dy', One (N + 1) a' U' μ' → AW X 1569 (lwLs X b (nI (5 * j))) [] μ' dy') (dy : Nat → Nat) : AW X 697 (lwLs X b (nI (5 * j))) [] μ dy := by
  obtain ⟨ans, μ1, μ2, a2, U2, g1, g2, h2⟩ := (op_otherwise (ys (nI (5 * j) + 1).toNatClampNeg) (ys (nI (5 * j) + 2).toNatClampNeg)).u.step h1 hN
  refine r_aload_n hX dL_697 3 rfl ?_
  refine r_aload_n hX dL_698 4 rfl ?_
  refine r_iload hX dL_699 0 rfl ?_
  refine r_iconst hX (1 : Int32) dL_701 rfl ?_
  refine r_iadd hX dL_702 ?_
  refine r_sld hX hq i1 dL_703 ?_
  refine r_aload_n hX dL_704 4 rfl ?_
  refine r_iload hX dL_705 0 rfl ?_
  refine r_iconst hX (2 : Int32) dL_707 rfl ?_
  refine r_iadd hX dL_708 ?_
  refine r_sld hX hq i2 dL_709 ?_
  refine r_callVI (Ok.le hX (by omega)) (c_x_otherwise (d := 1000) g1) cv_L_101 (w_0 _ _ _) rfl rfl (st := []) rfl rfl rfl dL_710 (fun dy => ?_)
  refine r_aload_n hX dL_713 2 rfl ?_
  refine r_aload_n hX dL_714 4 rfl ?_
  refine r_iload hX dL_715 0 rfl ?_
  refine r_iconst hX (1 : Int32) dL_717 rfl ?_
  refine r_iadd hX dL_718 ?_
  refine r_sld hX hq i1 dL_719 ?_
  refine r_aload_n hX dL_720 4 rfl ?_
  refine r_iload hX dL_721 0 rfl ?_
  refine r_iconst hX (2 : Int32) dL_723 rfl ?_
  refine r_iadd hX dL_724 ?_
  refine r_sld hX hq i2 dL_725 ?_
  refine r_callVI (Ok.le hX (by omega)) (c_m_otherwise (d := 1000) g2) cv_L_104 (w_111 _ _ _) rfl rfl (st := [.int ans]) rfl rfl rfl dL_726 (fun dy => ?_)
  exact r_icmp_eq hX 1569 dL_729 rfl (fun _ => kk _ _ _ _ h2) (fun hc => absurd rfl hc)
set_option maxHeartbeats 1000000 in
theorem law_c17 (hX : Ok M_lw_law 2047 X) (hE : EXT (xA X) (xs X) (xs X).heap) (hfl : (xl X).flags = flags0) (hq : Scr X b L ys) (i1 : vp_in (nI (5 * j) + 1) L) (i2 : vp_in (nI (5 * j) + 2) L) (i3 : vp_in (nI (5 * j) + 3) L) (i4 : vp_in (nI (5 * j) + 4) L) (h1 : One N a U μ) (hN : N < 600) (kk : ∀ a' U' μ' dy', One (N + 1) a' U' μ' → AW X 1569 (lwLs X b (nI (5 * j))) [] μ' dy') (dy : Nat → Nat) : AW X 734 (lwLs X b (nI (5 * j))) [] μ dy := by
  obtain ⟨ans, μ1, μ2, a2, U2, g1, g2, h2⟩ := op_onebyone.u.step h1 hN
  refine r_aload_n hX dL_734 3 rfl ?_
  refine r_callVI (Ok.le hX (by omega)) (c_x_onebyone (d := 1000) g1) cv_L_105 (w_0 _ _ _) rfl rfl (st := []) rfl rfl rfl dL_735 (fun dy => ?_)
  refine r_aload_n hX dL_738 2 rfl ?_
  refine r_callVI (Ok.le hX (by omega)) (c_m_onebyone (d := 1000) g2) cv_L_108 (w_111 _ _ _) rfl rfl (st := [.int ans]) rfl rfl rfl dL_739 (fun dy => ?_)
  exact r_icmp_eq hX 1569 dL_742 rfl (fun _ => kk _ _ _ _ h2) (fun hc => absurd rfl hc)
set_option maxHeartbeats 1000000 in
theorem law_c18 (hX : Ok M_lw_law 2047 X) (hE : EXT (xA X) (xs X) (xs X).heap) (hfl : (xl X).flags = flags0) (hq : Scr X b L ys) (i1 : vp_in (nI (5 * j) + 1) L) (i2 : vp_in (nI (5 * j) + 2) L) (i3 : vp_in (nI (5 * j) + 3) L) (i4 : vp_in (nI (5 * j) + 4) L) (h1 : One N a U μ) (hN : N < 600) (kk : ∀ a' U' μ' dy', One (N + 1) a' U' μ' → AW X 1569 (lwLs X b (nI (5 * j))) [] μ' dy') (dy : Nat → Nat) : AW X 747 (lwLs X b (nI (5 * j))) [] μ dy := by
  obtain ⟨ans, μ1, μ2, a2, U2, g1, g2, h2⟩ := (op_level (ys (nI (5 * j) + 1).toNatClampNeg)).u.step h1 hN
  refine r_aload_n hX dL_747 3 rfl ?_
  refine r_aload_n hX dL_748 4 rfl ?_
  refine r_iload hX dL_749 0 rfl ?_
  refine r_iconst hX (1 : Int32) dL_751 rfl ?_
  refine r_iadd hX dL_752 ?_
  refine r_sld hX hq i1 dL_753 ?_
  refine r_callVI (Ok.le hX (by omega)) (c_x_level (d := 1000) g1) cv_L_109 (w_0 _ _ _) rfl rfl (st := []) rfl rfl rfl dL_754 (fun dy => ?_)
  refine r_aload_n hX dL_757 2 rfl ?_
  refine r_aload_n hX dL_758 4 rfl ?_
  refine r_iload hX dL_759 0 rfl ?_
  refine r_iconst hX (1 : Int32) dL_761 rfl ?_
  refine r_iadd hX dL_762 ?_
  refine r_sld hX hq i1 dL_763 ?_
  refine r_callVI (Ok.le hX (by omega)) (c_m_level (d := 1000) g2) cv_L_112 (w_111 _ _ _) rfl rfl (st := [.int ans]) rfl rfl rfl dL_764 (fun dy => ?_)
  exact r_icmp_eq hX 1569 dL_767 rfl (fun _ => kk _ _ _ _ h2) (fun hc => absurd rfl hc)
set_option maxHeartbeats 1000000 in
theorem law_c19 (hX : Ok M_lw_law 2047 X) (hE : EXT (xA X) (xs X) (xs X).heap) (hfl : (xl X).flags = flags0) (hq : Scr X b L ys) (i1 : vp_in (nI (5 * j) + 1) L) (i2 : vp_in (nI (5 * j) + 2) L) (i3 : vp_in (nI (5 * j) + 3) L) (i4 : vp_in (nI (5 * j) + 4) L) (h1 : One N a U μ) (hN : N < 600) (kk : ∀ a' U' μ' dy', One (N + 1) a' U' μ' → AW X 1569 (lwLs X b (nI (5 * j))) [] μ' dy') (dy : Nat → Nat) : AW X 772 (lwLs X b (nI (5 * j))) [] μ dy := by
  obtain ⟨ans, μ1, μ2, a2, U2, g1, g2, h2⟩ := (op_hops (ys (nI (5 * j) + 1).toNatClampNeg) (ys (nI (5 * j) + 2).toNatClampNeg)).u.step h1 hN
  refine r_aload_n hX dL_772 3 rfl ?_
  refine r_aload_n hX dL_773 4 rfl ?_
  refine r_iload hX dL_774 0 rfl ?_
  refine r_iconst hX (1 : Int32) dL_776 rfl ?_
  refine r_iadd hX dL_777 ?_
  refine r_sld hX hq i1 dL_778 ?_
  refine r_aload_n hX dL_779 4 rfl ?_
  refine r_iload hX dL_780 0 rfl ?_
  refine r_iconst hX (2 : Int32) dL_782 rfl ?_
  refine r_iadd hX dL_783 ?_
  refine r_sld hX hq i2 dL_784 ?_
  refine r_callVI (Ok.le hX (by omega)) (c_x_hops (d := 1000) g1) cv_L_113 (w_0 _ _ _) rfl rfl (st := []) rfl rfl rfl dL_785 (fun dy => ?_)
  refine r_aload_n hX dL_788 2 rfl ?_
  refine r_aload_n hX dL_789 4 rfl ?_
  refine r_iload hX dL_790 0 rfl ?_
  refine r_iconst hX (1 : Int32) dL_792 rfl ?_
  refine r_iadd hX dL_793 ?_
  refine r_sld hX hq i1 dL_794 ?_
  refine r_aload_n hX dL_795 4 rfl ?_
  refine r_iload hX dL_796 0 rfl ?_
  refine r_iconst hX (2 : Int32) dL_798 rfl ?_
  refine r_iadd hX dL_799 ?_
  refine r_sld hX hq i2 dL_800 ?_
  refine r_callVI (Ok.le hX (by omega)) (c_m_hops (d := 1000) g2) cv_L_116 (w_111 _ _ _) rfl rfl (st := [.int ans]) rfl rfl rfl dL_801 (fun dy => ?_)
  exact r_icmp_eq hX 1569 dL_804 rfl (fun _ => kk _ _ _ _ h2) (fun hc => absurd rfl hc)
set_option maxHeartbeats 1000000 in
theorem law_c20 (hX : Ok M_lw_law 2047 X) (hE : EXT (xA X) (xs X) (xs X).heap) (hfl : (xl X).flags = flags0) (hq : Scr X b L ys) (i1 : vp_in (nI (5 * j) + 1) L) (i2 : vp_in (nI (5 * j) + 2) L) (i3 : vp_in (nI (5 * j) + 3) L) (i4 : vp_in (nI (5 * j) + 4) L) (h1 : One N a U μ) (hN : N < 600) (kk : ∀ a' U' μ' dy', One (N + 1) a' U' μ' → AW X 1569 (lwLs X b (nI (5 * j))) [] μ' dy') (dy : Nat → Nat) : AW X 809 (lwLs X b (nI (5 * j))) [] μ dy := by
  obtain ⟨ans, μ1, μ2, a2, U2, g1, g2, h2⟩ := (op_part (ys (nI (5 * j) + 1).toNatClampNeg)).u.step h1 hN
  refine r_aload_n hX dL_809 3 rfl ?_
  refine r_aload_n hX dL_810 4 rfl ?_
  refine r_iload hX dL_811 0 rfl ?_
  refine r_iconst hX (1 : Int32) dL_813 rfl ?_
  refine r_iadd hX dL_814 ?_
  refine r_sld hX hq i1 dL_815 ?_
  refine r_callVI (Ok.le hX (by omega)) (c_x_part (d := 1000) g1) cv_L_117 (w_0 _ _ _) rfl rfl (st := []) rfl rfl rfl dL_816 (fun dy => ?_)
  refine r_aload_n hX dL_819 2 rfl ?_
  refine r_aload_n hX dL_820 4 rfl ?_
  refine r_iload hX dL_821 0 rfl ?_
  refine r_iconst hX (1 : Int32) dL_823 rfl ?_
  refine r_iadd hX dL_824 ?_
  refine r_sld hX hq i1 dL_825 ?_
  refine r_callVI (Ok.le hX (by omega)) (c_m_part (d := 1000) g2) cv_L_120 (w_111 _ _ _) rfl rfl (st := [.int ans]) rfl rfl rfl dL_826 (fun dy => ?_)
  exact r_icmp_eq hX 1569 dL_829 rfl (fun _ => kk _ _ _ _ h2) (fun hc => absurd rfl hc)
set_option maxHeartbeats 1000000 in
theorem law_c21 (hX : Ok M_lw_law 2047 X) (hE : EXT (xA X) (xs X) (xs X).heap) (hfl : (xl X).flags = flags0) (hq : Scr X b L ys) (i1 : vp_in (nI (5 * j) + 1) L) (i2 : vp_in (nI (5 * j) + 2) L) (i3 : vp_in (nI (5 * j) + 3) L) (i4 : vp_in (nI (5 * j) + 4) L) (h1 : One N a U μ) (hN : N < 600) (kk : ∀ a' U' μ' dy', One (N + 1) a' U' μ' → AW X 1569 (lwLs X b (nI (5 * j))) [] μ' dy') (dy : Nat → Nat) : AW X 834 (lwLs X b (nI (5 * j))) [] μ dy := by
  obtain ⟨ans, μ1, μ2, a2, U2, g1, g2, h2⟩ := (op_ahead (ys (nI (5 * j) + 1).toNatClampNeg)).u.step h1 hN
  refine r_aload_n hX dL_834 3 rfl ?_
  refine r_aload_n hX dL_835 4 rfl ?_
  refine r_iload hX dL_836 0 rfl ?_
  refine r_iconst hX (1 : Int32) dL_838 rfl ?_
  refine r_iadd hX dL_839 ?_
  refine r_sld hX hq i1 dL_840 ?_
  refine r_callVI (Ok.le hX (by omega)) (c_x_ahead (d := 1000) g1) cv_L_121 (w_0 _ _ _) rfl rfl (st := []) rfl rfl rfl dL_841 (fun dy => ?_)
  refine r_aload_n hX dL_844 2 rfl ?_
  refine r_aload_n hX dL_845 4 rfl ?_
  refine r_iload hX dL_846 0 rfl ?_
  refine r_iconst hX (1 : Int32) dL_848 rfl ?_
  refine r_iadd hX dL_849 ?_
  refine r_sld hX hq i1 dL_850 ?_
  refine r_callVI (Ok.le hX (by omega)) (c_m_ahead (d := 1000) g2) cv_L_124 (w_111 _ _ _) rfl rfl (st := [.int ans]) rfl rfl rfl dL_851 (fun dy => ?_)
  exact r_icmp_eq hX 1569 dL_854 rfl (fun _ => kk _ _ _ _ h2) (fun hc => absurd rfl hc)
set_option maxHeartbeats 1000000 in
theorem law_c22 (hX : Ok M_lw_law 2047 X) (hE : EXT (xA X) (xs X) (xs X).heap) (hfl : (xl X).flags = flags0) (hq : Scr X b L ys) (i1 : vp_in (nI (5 * j) + 1) L) (i2 : vp_in (nI (5 * j) + 2) L) (i3 : vp_in (nI (5 * j) + 3) L) (i4 : vp_in (nI (5 * j) + 4) L) (h1 : One N a U μ) (hN : N < 600) (kk : ∀ a' U' μ' dy', One (N + 1) a' U' μ' → AW X 1569 (lwLs X b (nI (5 * j))) [] μ' dy') (dy : Nat → Nat) : AW X 859 (lwLs X b (nI (5 * j))) [] μ dy := by
  obtain ⟨ans, μ1, μ2, a2, U2, g1, g2, h2⟩ := (op_twins (ys (nI (5 * j) + 1).toNatClampNeg)).u.step h1 hN
  refine r_aload_n hX dL_859 3 rfl ?_
  refine r_aload_n hX dL_860 4 rfl ?_
  refine r_iload hX dL_861 0 rfl ?_
  refine r_iconst hX (1 : Int32) dL_863 rfl ?_
  refine r_iadd hX dL_864 ?_
  refine r_sld hX hq i1 dL_865 ?_
  refine r_callVI (Ok.le hX (by omega)) (c_x_twins (d := 1000) g1) cv_L_125 (w_0 _ _ _) rfl rfl (st := []) rfl rfl rfl dL_866 (fun dy => ?_)
  refine r_aload_n hX dL_869 2 rfl ?_
  refine r_aload_n hX dL_870 4 rfl ?_
  refine r_iload hX dL_871 0 rfl ?_
  refine r_iconst hX (1 : Int32) dL_873 rfl ?_
  refine r_iadd hX dL_874 ?_
  refine r_sld hX hq i1 dL_875 ?_
  refine r_callVI (Ok.le hX (by omega)) (c_m_twins (d := 1000) g2) cv_L_128 (w_111 _ _ _) rfl rfl (st := [.int ans]) rfl rfl rfl dL_876 (fun dy => ?_)
  exact r_icmp_eq hX 1569 dL_879 rfl (fun _ => kk _ _ _ _ h2) (fun hc => absurd rfl hc)
end LC
