theorem dX9_read_0 : decode cX9_read 0 = .ok (.iload_n 2, 1) := by decide +kernel
theorem dX9_read_1 : decode cX9_read 1 = .ok (.ifCond .ne 5, 3) := by decide +kernel
theorem dX9_read_4 : decode cX9_read 4 = .ok (.iconst 0, 1) := by decide +kernel
theorem dX9_read_5 : decode cX9_read 5 = .ok (.ireturn, 1) := by decide +kernel
theorem dX9_read_6 : decode cX9_read 6 = .ok (.aload_n 0, 1) := by decide +kernel
theorem dX9_read_7 : decode cX9_read 7 = .ok (.aload_n 1, 1) := by decide +kernel
theorem dX9_read_8 : decode cX9_read 8 = .ok (.putfield 15, 3) := by decide +kernel
theorem dX9_read_11 : decode cX9_read 11 = .ok (.aload_n 0, 1) := by decide +kernel
theorem dX9_read_12 : decode cX9_read 12 = .ok (.iload_n 2, 1) := by decide +kernel
theorem dX9_read_13 : decode cX9_read 13 = .ok (.putfield 19, 3) := by decide +kernel
theorem dX9_read_16 : decode cX9_read 16 = .ok (.aload_n 0, 1) := by decide +kernel
theorem dX9_read_17 : decode cX9_read 17 = .ok (.iload_n 2, 1) := by decide +kernel
theorem dX9_read_18 : decode cX9_read 18 = .ok (.bipush 76, 2) := by decide +kernel
theorem dX9_read_20 : decode cX9_read 20 = .ok (.invokestatic 23, 3) := by decide +kernel
theorem dX9_read_23 : decode cX9_read 23 = .ok (.putfield 29, 3) := by decide +kernel
theorem dX9_read_26 : decode cX9_read 26 = .ok (.aload_n 0, 1) := by decide +kernel
theorem dX9_read_27 : decode cX9_read 27 = .ok (.iconst 0, 1) := by decide +kernel
theorem dX9_read_28 : decode cX9_read 28 = .ok (.invokevirtual 32, 3) := by decide +kernel
theorem dX9_read_31 : decode cX9_read 31 = .ok (.istore_n 3, 1) := by decide +kernel
theorem dX9_read_32 : decode cX9_read 32 = .ok (.iload_n 3, 1) := by decide +kernel
theorem dX9_read_33 : decode cX9_read 33 = .ok (.ifCond .ge 7, 3) := by decide +kernel
theorem dX9_read_36 : decode cX9_read 36 = .ok (.iload_n 3, 1) := by decide +kernel
theorem dX9_read_37 : decode cX9_read 37 = .ok (.goto 8, 3) := by decide +kernel
theorem dX9_read_40 : decode cX9_read 40 = .ok (.aload_n 0, 1) := by decide +kernel
theorem dX9_read_41 : decode cX9_read 41 = .ok (.iconst 1, 1) := by decide +kernel
theorem dX9_read_42 : decode cX9_read 42 = .ok (.invokevirtual 32, 3) := by decide +kernel
theorem dX9_read_45 : decode cX9_read 45 = .ok (.ireturn, 1) := by decide +kernel
set_option maxHeartbeats 4000000 in
set_option maxRecDepth 20000 in
theorem c_sr_read {G : Gx} {d : Nat} {x2 : Int32} {μ : Mem} {r : Int32 × Mem} (hf : f_sr_read x2 μ = some r) : Con G M_sr_read (d + 6) [.ref (gA G 76), .ref (gA G 1), .int x2] μ (some (.int r.1), r.2) := by
  refine Con.ofI ⟨rfl, rfl, Nat.le_of_ble_eq_true rfl⟩ rfl rfl (fun X hG hX hr dy => ?_)
  subst hG
  show AW X 0 [(0, .ref (gA (xG X) 76)), (1, .ref (gA (xG X) 1)), (2, .int x2)] [] μ dy
  unfold f_sr_read at hf
  refine r_iload_n hX dX9_read_0 2 rfl ?_
  refine r_if_ne hX 6 dX9_read_1 rfl (fun hc1 => ?_) (fun hc1 => ?_)
  · rw [if_neg hc1] at hf
    refine r_aload_n hX dX9_read_6 0 rfl ?_
    refine r_aload_n hX dX9_read_7 1 rfl ?_
    obtain ⟨μ2, e3, hf⟩ := bnd_eq hf
    refine r_put hX fl_X9_15 ft_X9_1 (w_76 _ _ _) rfl rfl rfl (sD_76 _ _ _) e3 rfl dX9_read_8 ?_
    refine r_aload_n hX dX9_read_11 0 rfl ?_
    refine r_iload_n hX dX9_read_12 2 rfl ?_
    obtain ⟨μ4, e5, hf⟩ := bnd_eq hf
    refine r_put hX fl_X9_19 ft_X9_2 (w_76 _ _ _) rfl rfl rfl (s_76_2 _ _ _ _) e5 rfl dX9_read_13 ?_
    refine r_aload_n hX dX9_read_16 0 rfl ?_
    refine r_iload_n hX dX9_read_17 2 rfl ?_
    refine r_bipush hX (76 : Int32) dX9_read_18 rfl ?_
    refine r_min (d := d + 5) (Ok.le hX (by omega)) cs_X9_23 rfl dX9_read_20 ?_
    obtain ⟨μ6, e7, hf⟩ := bnd_eq hf
    refine r_put hX fl_X9_29 ft_X9_3 (w_76 _ _ _) rfl rfl rfl (s_76_3 _ _ _ _) e7 rfl dX9_read_23 ?_
    refine r_aload_n hX dX9_read_26 0 rfl ?_
    refine r_iconst hX (0 : Int32) dX9_read_27 rfl ?_
    obtain ⟨v10, μ8, h9, hf⟩ := bd2_eq hf
    refine r_callVI (Ok.le hX (by omega)) (c_sr_readLines (d := d)  h9) cv_X9_32 (w_76 _ _ _) rfl rfl (st := []) rfl rfl rfl dX9_read_28 (fun dy => ?_)
    refine r_istore_n hX dX9_read_31 rfl (ls' := [(3, .int v10), (0, .ref (gA (xG X) 76)), (1, .ref (gA (xG X) 1)), (2, .int x2)]) rfl ?_
    refine r_iload_n hX dX9_read_32 0 rfl ?_
    refine r_if_ge hX 40 dX9_read_33 rfl (fun hc11 => ?_) (fun hc11 => ?_)
    · rw [if_pos hc11] at hf
      refine r_aload_n hX dX9_read_40 1 rfl ?_
      refine r_iconst hX (1 : Int32) dX9_read_41 rfl ?_
      obtain ⟨v14, μ12, h13, hf⟩ := bd2_eq hf
      refine r_callVI (Ok.le hX (by omega)) (c_sr_readLines (d := d)  h13) cv_X9_32 (w_76 _ _ _) rfl rfl (st := []) rfl rfl rfl dX9_read_42 (fun dy => ?_)
      exact fin_I hf hr _ _ _ dX9_read_45
    · rw [if_neg hc11] at hf
      refine r_iload_n hX dX9_read_36 0 rfl ?_
      refine r_goto hX 45 dX9_read_37 rfl ?_
      exact fin_I hf hr _ _ _ dX9_read_45
  · rw [if_pos hc1] at hf
    refine r_iconst hX (0 : Int32) dX9_read_4 rfl ?_
    exact fin_I hf hr _ _ _ dX9_read_5
theorem dX10_atOnce_0 : decode cX10_atOnce 0 = .ok (.aload_n 0, 1) := by decide +kernel
theorem dX10_atOnce_1 : decode cX10_atOnce 1 = .ok (.getfield 9, 3) := by decide +kernel
theorem dX10_atOnce_4 : decode cX10_atOnce 4 = .ok (.invokevirtual 27, 3) := by decide +kernel
theorem dX10_atOnce_7 : decode cX10_atOnce 7 = .ok (.istore 4, 2) := by decide +kernel
theorem dX10_atOnce_9 : decode cX10_atOnce 9 = .ok (.iconst (-1), 1) := by decide +kernel
theorem dX10_atOnce_10 : decode cX10_atOnce 10 = .ok (.istore 5, 2) := by decide +kernel
theorem dX10_atOnce_12 : decode cX10_atOnce 12 = .ok (.sipush 16000, 3) := by decide +kernel
theorem dX10_atOnce_15 : decode cX10_atOnce 15 = .ok (.istore 6, 2) := by decide +kernel
theorem dX10_atOnce_17 : decode cX10_atOnce 17 = .ok (.iconst 0, 1) := by decide +kernel
theorem dX10_atOnce_18 : decode cX10_atOnce 18 = .ok (.istore 7, 2) := by decide +kernel
theorem dX10_atOnce_20 : decode cX10_atOnce 20 = .ok (.iload 7, 2) := by decide +kernel
theorem dX10_atOnce_22 : decode cX10_atOnce 22 = .ok (.aload_n 0, 1) := by decide +kernel
theorem dX10_atOnce_23 : decode cX10_atOnce 23 = .ok (.getfield 9, 3) := by decide +kernel
theorem dX10_atOnce_26 : decode cX10_atOnce 26 = .ok (.invokevirtual 33, 3) := by decide +kernel
theorem dX10_atOnce_29 : decode cX10_atOnce 29 = .ok (.if_icmp .gt 85, 3) := by decide +kernel
theorem dX10_atOnce_32 : decode cX10_atOnce 32 = .ok (.iload 7, 2) := by decide +kernel
theorem dX10_atOnce_34 : decode cX10_atOnce 34 = .ok (.iload 4, 2) := by decide +kernel
theorem dX10_atOnce_36 : decode cX10_atOnce 36 = .ok (.iconst (-1), 1) := by decide +kernel
theorem dX10_atOnce_37 : decode cX10_atOnce 37 = .ok (.ixor, 1) := by decide +kernel
theorem dX10_atOnce_38 : decode cX10_atOnce 38 = .ok (.iand, 1) := by decide +kernel
theorem dX10_atOnce_39 : decode cX10_atOnce 39 = .ok (.ifCond .ne 69, 3) := by decide +kernel
theorem dX10_atOnce_42 : decode cX10_atOnce 42 = .ok (.iload 7, 2) := by decide +kernel
theorem dX10_atOnce_44 : decode cX10_atOnce 44 = .ok (.invokestatic 36, 3) := by decide +kernel
theorem dX10_atOnce_47 : decode cX10_atOnce 47 = .ok (.iload_n 3, 1) := by decide +kernel
theorem dX10_atOnce_48 : decode cX10_atOnce 48 = .ok (.ifCond .eq 18, 3) := by decide +kernel
theorem dX10_atOnce_51 : decode cX10_atOnce 51 = .ok (.aload_n 0, 1) := by decide +kernel
theorem dX10_atOnce_52 : decode cX10_atOnce 52 = .ok (.getfield 9, 3) := by decide +kernel
theorem dX10_atOnce_55 : decode cX10_atOnce 55 = .ok (.iload 7, 2) := by decide +kernel
theorem dX10_atOnce_57 : decode cX10_atOnce 57 = .ok (.invokevirtual 42, 3) := by decide +kernel
theorem dX10_atOnce_60 : decode cX10_atOnce 60 = .ok (.bipush 16, 2) := by decide +kernel
theorem dX10_atOnce_62 : decode cX10_atOnce 62 = .ok (.imul, 1) := by decide +kernel
theorem dX10_atOnce_63 : decode cX10_atOnce 63 = .ok (.goto 4, 3) := by decide +kernel
theorem dX10_atOnce_66 : decode cX10_atOnce 66 = .ok (.iconst 0, 1) := by decide +kernel
theorem dX10_atOnce_67 : decode cX10_atOnce 67 = .ok (.iadd, 1) := by decide +kernel
theorem dX10_atOnce_68 : decode cX10_atOnce 68 = .ok (.istore 8, 2) := by decide +kernel
theorem dX10_atOnce_70 : decode cX10_atOnce 70 = .ok (.iload 8, 2) := by decide +kernel
theorem dX10_atOnce_72 : decode cX10_atOnce 72 = .ok (.iload 6, 2) := by decide +kernel
theorem dX10_atOnce_74 : decode cX10_atOnce 74 = .ok (.if_icmp .ge 34, 3) := by decide +kernel
theorem dX10_atOnce_77 : decode cX10_atOnce 77 = .ok (.aload_n 0, 1) := by decide +kernel
theorem dX10_atOnce_78 : decode cX10_atOnce 78 = .ok (.getfield 15, 3) := by decide +kernel
theorem dX10_atOnce_81 : decode cX10_atOnce 81 = .ok (.aload_n 0, 1) := by decide +kernel
theorem dX10_atOnce_82 : decode cX10_atOnce 82 = .ok (.getfield 9, 3) := by decide +kernel
theorem dX10_atOnce_85 : decode cX10_atOnce 85 = .ok (.invokevirtual 45, 3) := by decide +kernel
theorem dX10_atOnce_88 : decode cX10_atOnce 88 = .ok (.iload 7, 2) := by decide +kernel
theorem dX10_atOnce_90 : decode cX10_atOnce 90 = .ok (.ior, 1) := by decide +kernel
theorem dX10_atOnce_91 : decode cX10_atOnce 91 = .ok (.iload_n 1, 1) := by decide +kernel
theorem dX10_atOnce_92 : decode cX10_atOnce 92 = .ok (.iload_n 2, 1) := by decide +kernel
theorem dX10_atOnce_93 : decode cX10_atOnce 93 = .ok (.invokevirtual 48, 3) := by decide +kernel
theorem dX10_atOnce_96 : decode cX10_atOnce 96 = .ok (.iconst (-1), 1) := by decide +kernel
theorem dX10_atOnce_97 : decode cX10_atOnce 97 = .ok (.if_icmp .eq 11, 3) := by decide +kernel
theorem dX10_atOnce_100 : decode cX10_atOnce 100 = .ok (.iload 8, 2) := by decide +kernel
theorem dX10_atOnce_102 : decode cX10_atOnce 102 = .ok (.istore 6, 2) := by decide +kernel
theorem dX10_atOnce_104 : decode cX10_atOnce 104 = .ok (.iload 7, 2) := by decide +kernel
theorem dX10_atOnce_106 : decode cX10_atOnce 106 = .ok (.istore 5, 2) := by decide +kernel
theorem dX10_atOnce_108 : decode cX10_atOnce 108 = .ok (.iinc 7 1, 3) := by decide +kernel
theorem dX10_atOnce_111 : decode cX10_atOnce 111 = .ok (.goto (-91), 3) := by decide +kernel
theorem dX10_atOnce_114 : decode cX10_atOnce 114 = .ok (.iload 5, 2) := by decide +kernel
theorem dX10_atOnce_116 : decode cX10_atOnce 116 = .ok (.iconst (-1), 1) := by decide +kernel
theorem dX10_atOnce_117 : decode cX10_atOnce 117 = .ok (.if_icmp .ne 6, 3) := by decide +kernel
theorem dX10_atOnce_120 : decode cX10_atOnce 120 = .ok (.bipush (-2), 2) := by decide +kernel
theorem dX10_atOnce_122 : decode cX10_atOnce 122 = .ok (.ireturn, 1) := by decide +kernel
theorem dX10_atOnce_123 : decode cX10_atOnce 123 = .ok (.aload_n 0, 1) := by decide +kernel
theorem dX10_atOnce_124 : decode cX10_atOnce 124 = .ok (.getfield 23, 3) := by decide +kernel
theorem dX10_atOnce_127 : decode cX10_atOnce 127 = .ok (.iload 5, 2) := by decide +kernel
theorem dX10_atOnce_129 : decode cX10_atOnce 129 = .ok (.i2l, 1) := by decide +kernel
theorem dX10_atOnce_130 : decode cX10_atOnce 130 = .ok (.invokevirtual 54, 3) := by decide +kernel
theorem dX10_atOnce_133 : decode cX10_atOnce 133 = .ok (.iload_n 3, 1) := by decide +kernel
theorem dX10_atOnce_134 : decode cX10_atOnce 134 = .ok (.ifCond .eq 11, 3) := by decide +kernel
theorem dX10_atOnce_137 : decode cX10_atOnce 137 = .ok (.iload 6, 2) := by decide +kernel
theorem dX10_atOnce_139 : decode cX10_atOnce 139 = .ok (.bipush 16, 2) := by decide +kernel
theorem dX10_atOnce_141 : decode cX10_atOnce 141 = .ok (.idiv, 1) := by decide +kernel
theorem dX10_atOnce_142 : decode cX10_atOnce 142 = .ok (.goto 5, 3) := by decide +kernel
theorem dX10_atOnce_145 : decode cX10_atOnce 145 = .ok (.iload 6, 2) := by decide +kernel
theorem dX10_atOnce_147 : decode cX10_atOnce 147 = .ok (.ireturn, 1) := by decide +kernel
set_option maxHeartbeats 4000000 in
set_option maxRecDepth 20000 in
theorem b_ta_atOnce_b67 {X : Cx} {d : Nat} (hX : Ok M_ta_atOnce (d + 4) X) {r : Int32 × Mem} (hr : RetI M_ta_atOnce X r.1 r.2) {k20 : Int32 → Int32 → Int32 → Int32 → Int32 → Int32 → Int32 → Mem → Option (Int32 × Mem)} (hk20 : ∀ (x1 : Int32) (x2 : Int32) (x3 : Int32) (x4 : Int32) (x5 : Int32) (x6 : Int32) (x7 : Int32) (μ : Mem) (dy : Nat → Nat), k20 x1 x2 x3 x4 x5 x6 x7 μ = some r → AW X 20 [(0, .ref (gA (xG X) 92)), (1, .int x1), (2, .int x2), (3, .int x3), (4, .int x4), (5, .int x5), (6, .int x6), (7, .int x7)] [] μ dy) (x1 : Int32) (x2 : Int32) (x3 : Int32) (x4 : Int32) (x5 : Int32) (x6 : Int32) (x7 : Int32) (s0 : Int32) (s1 : Int32) (μ : Mem) (dy : Nat → Nat) (hf : f_ta_atOnce_b67 k20 x1 x2 x3 x4 x5 x6 x7 s0 s1 μ = some r) : AW X 67 [(0, .ref (gA (xG X) 92)), (1, .int x1), (2, .int x2), (3, .int x3), (4, .int x4), (5, .int x5), (6, .int x6), (7, .int x7)] [.int s1, .int s0] μ dy := by
  unfold f_ta_atOnce_b67 at hf
  refine r_iadd hX dX10_atOnce_67 ?_
  refine r_istore hX dX10_atOnce_68 rfl (ls' := [(8, .int (s0 + s1)), (0, .ref (gA (xG X) 92)), (1, .int x1), (2, .int x2), (3, .int x3), (4, .int x4), (5, .int x5), (6, .int x6), (7, .int x7)]) rfl ?_
  refine r_iload hX dX10_atOnce_70 0 rfl ?_
  refine r_iload hX dX10_atOnce_72 7 rfl ?_
  refine r_icmp_ge hX 108 dX10_atOnce_74 rfl (fun hc18 => ?_) (fun hc18 => ?_)
  · rw [if_pos hc18] at hf
    refine r_iinc hX (x7 + (1 : Int32)) dX10_atOnce_108 8 rfl rfl rfl (ls' := [(7, .int (x7 + (1 : Int32))), (8, .int (s0 + s1)), (0, .ref (gA (xG X) 92)), (1, .int x1), (2, .int x2), (3, .int x3), (4, .int x4), (5, .int x5), (6, .int x6)]) rfl ?_
    refine r_goto hX 20 dX10_atOnce_111 rfl ?_
    refine r_weak [2, 3, 4, 5, 6, 7, 8, 0] rfl ?_
    exact hk20 _ _ _ _ _ _ _ _ _ hf
  · rw [if_neg hc18] at hf
    refine r_aload_n hX dX10_atOnce_77 1 rfl ?_
    refine r_get hX fl_X10_15 (w_92 _ _ _) rfl dX10_atOnce_78 ?_
    refine r_aload_n hX dX10_atOnce_81 1 rfl ?_
    refine r_get hX fl_X10_9 (w_92 _ _ _) rfl dX10_atOnce_82 ?_
    obtain ⟨v21, μ19, h20, hf⟩ := bd2_eq hf
    refine r_callVI (Ok.le hX (by omega)) (c_st_now (d := d)  h20) cv_X10_45 (w_4 _ _ _) rfl rfl (st := [.ref (gA (xG X) 80)]) rfl rfl rfl dX10_atOnce_85 (fun dy => ?_)
    refine r_iload hX dX10_atOnce_88 8 rfl ?_
    refine r_ior hX dX10_atOnce_90 ?_
    refine r_iload_n hX dX10_atOnce_91 2 rfl ?_
    refine r_iload_n hX dX10_atOnce_92 3 rfl ?_
    obtain ⟨v24, μ22, h23, hf⟩ := bd2_eq hf
    refine r_callVI (Ok.le hX (by omega)) (c_he_dayOf (d := d) (by decide) h23) cv_X10_48 (w_80 _ _ _) rfl rfl (st := []) rfl rfl rfl dX10_atOnce_93 (fun dy => ?_)
    refine r_iconst hX (-1 : Int32) dX10_atOnce_96 rfl ?_
    refine r_icmp_eq hX 108 dX10_atOnce_97 rfl (fun hc25 => ?_) (fun hc25 => ?_)
    · rw [if_pos hc25] at hf
      refine r_iinc hX (x7 + (1 : Int32)) dX10_atOnce_108 8 rfl rfl rfl (ls' := [(7, .int (x7 + (1 : Int32))), (8, .int (s0 + s1)), (0, .ref (gA (xG X) 92)), (1, .int x1), (2, .int x2), (3, .int x3), (4, .int x4), (5, .int x5), (6, .int x6)]) rfl ?_
      refine r_goto hX 20 dX10_atOnce_111 rfl ?_
      refine r_weak [2, 3, 4, 5, 6, 7, 8, 0] rfl ?_
      exact hk20 _ _ _ _ _ _ _ _ _ hf
    · rw [if_neg hc25] at hf
      refine r_iload hX dX10_atOnce_100 0 rfl ?_
      refine r_istore hX dX10_atOnce_102 rfl (ls' := [(6, .int (s0 + s1)), (8, .int (s0 + s1)), (0, .ref (gA (xG X) 92)), (1, .int x1), (2, .int x2), (3, .int x3), (4, .int x4), (5, .int x5), (7, .int x7)]) rfl ?_
      refine r_iload hX dX10_atOnce_104 8 rfl ?_
      refine r_istore hX dX10_atOnce_106 rfl (ls' := [(5, .int x7), (6, .int (s0 + s1)), (8, .int (s0 + s1)), (0, .ref (gA (xG X) 92)), (1, .int x1), (2, .int x2), (3, .int x3), (4, .int x4), (7, .int x7)]) rfl ?_
      refine r_iinc hX (x7 + (1 : Int32)) dX10_atOnce_108 8 rfl rfl rfl (ls' := [(7, .int (x7 + (1 : Int32))), (5, .int x7), (6, .int (s0 + s1)), (8, .int (s0 + s1)), (0, .ref (gA (xG X) 92)), (1, .int x1), (2, .int x2), (3, .int x3), (4, .int x4)]) rfl ?_
      refine r_goto hX 20 dX10_atOnce_111 rfl ?_
      refine r_weak [4, 5, 6, 7, 8, 1, 2, 0] rfl ?_
      exact hk20 _ _ _ _ _ _ _ _ _ hf
set_option maxHeartbeats 4000000 in
set_option maxRecDepth 20000 in
theorem b_ta_atOnce_b20 {X : Cx} {d : Nat} (hX : Ok M_ta_atOnce (d + 4) X) {r : Int32 × Mem} (hr : RetI M_ta_atOnce X r.1 r.2) : ∀ (n : Nat) (x1 : Int32) (x2 : Int32) (x3 : Int32) (x4 : Int32) (x5 : Int32) (x6 : Int32) (x7 : Int32) (μ : Mem) (dy : Nat → Nat), f_ta_atOnce_b20 n x1 x2 x3 x4 x5 x6 x7 μ = some r → AW X 20 [(0, .ref (gA (xG X) 92)), (1, .int x1), (2, .int x2), (3, .int x3), (4, .int x4), (5, .int x5), (6, .int x6), (7, .int x7)] [] μ dy := by
  intro n
  induction n with
  | zero => intro x1 x2 x3 x4 x5 x6 x7 μ dy hf; exact nomatch hf
  | succ n ih =>
    intro x1 x2 x3 x4 x5 x6 x7 μ dy hf
    rw [f_ta_atOnce_b20] at hf
    refine r_iload hX dX10_atOnce_20 7 rfl ?_
    refine r_aload_n hX dX10_atOnce_22 0 rfl ?_
    refine r_get hX fl_X10_9 (w_92 _ _ _) rfl dX10_atOnce_23 ?_
    obtain ⟨v6, μ4, h5, hf⟩ := bd2_eq hf
    refine r_callVI (Ok.le hX (by omega)) (c_st_everybody (d := d)  h5) cv_X10_33 (w_4 _ _ _) rfl rfl (st := [.int x7]) rfl rfl rfl dX10_atOnce_26 (fun dy => ?_)
    refine r_icmp_gt hX 114 dX10_atOnce_29 rfl (fun hc7 => ?_) (fun hc7 => ?_)
    · rw [if_pos hc7] at hf
      refine r_iload hX dX10_atOnce_114 5 rfl ?_
      refine r_iconst hX (-1 : Int32) dX10_atOnce_116 rfl ?_
      refine r_icmp_ne hX 123 dX10_atOnce_117 rfl (fun hc8 => ?_) (fun hc8 => ?_)
      · rw [if_neg hc8] at hf
        refine r_aload_n hX dX10_atOnce_123 0 rfl ?_
        refine r_get hX fl_X10_23 (w_92 _ _ _) rfl dX10_atOnce_124 ?_
        refine r_iload hX dX10_atOnce_127 5 rfl ?_
        refine r_i2l hX dX10_atOnce_129 ?_
        obtain ⟨μ9, h10, hf⟩ := bd1_eq hf
        refine r_callVV (Ok.le hX (by omega)) (c_rw_only (d := d)  h10) cv_X10_54 (w_2 _ _ _) rfl rfl (st := []) rfl rfl rfl dX10_atOnce_130 (fun dy => ?_)
        refine r_iload_n hX dX10_atOnce_133 3 rfl ?_
        refine r_if_eq hX 145 dX10_atOnce_134 rfl (fun hc11 => ?_) (fun hc11 => ?_)
        · rw [if_pos hc11] at hf
          refine r_iload hX dX10_atOnce_145 6 rfl ?_
          exact fin_I hf hr _ _ _ dX10_atOnce_147
        · rw [if_neg hc11] at hf
          refine r_iload hX dX10_atOnce_137 6 rfl ?_
          refine r_bipush hX (16 : Int32) dX10_atOnce_139 rfl ?_
          refine r_idiv hX dX10_atOnce_141 (by decide) ?_
          refine r_goto hX 147 dX10_atOnce_142 rfl ?_
          exact fin_I hf hr _ _ _ dX10_atOnce_147
      · rw [if_pos hc8] at hf
        refine r_bipush hX (-2 : Int32) dX10_atOnce_120 rfl ?_
        exact fin_I hf hr _ _ _ dX10_atOnce_122
    · rw [if_neg hc7] at hf
      refine r_iload hX dX10_atOnce_32 7 rfl ?_
      refine r_iload hX dX10_atOnce_34 4 rfl ?_
      refine r_iconst hX (-1 : Int32) dX10_atOnce_36 rfl ?_
      refine r_ixor hX dX10_atOnce_37 ?_
      refine r_iand hX dX10_atOnce_38 ?_
      refine r_if_ne hX 108 dX10_atOnce_39 rfl (fun hc13 => ?_) (fun hc13 => ?_)
      · rw [if_neg hc13] at hf
        refine r_iinc hX (x7 + (1 : Int32)) dX10_atOnce_108 7 rfl rfl rfl (ls' := [(7, .int (x7 + (1 : Int32))), (0, .ref (gA (xG X) 92)), (1, .int x1), (2, .int x2), (3, .int x3), (4, .int x4), (5, .int x5), (6, .int x6)]) rfl ?_
        refine r_goto hX 20 dX10_atOnce_111 rfl ?_
        refine r_weak [1, 2, 3, 4, 5, 6, 7, 0] rfl ?_
        exact ih _ _ _ _ _ _ _ _ _ hf
      · rw [if_pos hc13] at hf
        refine r_iload hX dX10_atOnce_42 7 rfl ?_
        obtain ⟨v16, μ14, h15, hf⟩ := bd2_eq hf
        refine r_callSI (Ok.le hX (by omega)) (c_jd_bitCount (d := d)  h15) cs_X10_36 (st := []) rfl rfl rfl dX10_atOnce_44 (fun dy => ?_)
        refine r_iload_n hX dX10_atOnce_47 3 rfl ?_
        refine r_if_eq hX 66 dX10_atOnce_48 rfl (fun hc17 => ?_) (fun hc17 => ?_)
        · rw [if_pos hc17] at hf
          refine r_iconst hX (0 : Int32) dX10_atOnce_66 rfl ?_
          refine r_weak [0, 1, 2, 3, 4, 5, 6, 7] rfl ?_
          exact b_ta_atOnce_b67 hX hr ih _ _ _ _ _ _ _ _ _ _ _ hf
        · rw [if_neg hc17] at hf
          refine r_aload_n hX dX10_atOnce_51 0 rfl ?_
          refine r_get hX fl_X10_9 (w_92 _ _ _) rfl dX10_atOnce_52 ?_
          refine r_iload hX dX10_atOnce_55 7 rfl ?_
          obtain ⟨v28, μ26, h27, hf⟩ := bd2_eq hf
          refine r_callVI (Ok.le hX (by omega)) (c_st_priceOf (d := d)  h27) cv_X10_42 (w_4 _ _ _) rfl rfl (st := [.int v16]) rfl rfl rfl dX10_atOnce_57 (fun dy => ?_)
          refine r_bipush hX (16 : Int32) dX10_atOnce_60 rfl ?_
          refine r_imul hX dX10_atOnce_62 ?_
          refine r_goto hX 67 dX10_atOnce_63 rfl ?_
          refine r_weak [0, 1, 2, 3, 4, 5, 6, 7] rfl ?_
          exact b_ta_atOnce_b67 hX hr ih _ _ _ _ _ _ _ _ _ _ _ hf
set_option maxHeartbeats 4000000 in
set_option maxRecDepth 20000 in
theorem c_ta_atOnce {G : Gx} {d : Nat} {x1 : Int32} {x2 : Int32} {x3 : Int32} {μ : Mem} {r : Int32 × Mem} (hf : f_ta_atOnce x1 x2 x3 μ = some r) : Con G M_ta_atOnce (d + 4) [.ref (gA G 92), .int x1, .int x2, .int x3] μ (some (.int r.1), r.2) := by
  refine Con.ofI ⟨rfl, rfl, Nat.le_of_ble_eq_true rfl⟩ rfl rfl (fun X hG hX hr dy => ?_)
  subst hG
  show AW X 0 [(0, .ref (gA (xG X) 92)), (1, .int x1), (2, .int x2), (3, .int x3)] [] μ dy
  unfold f_ta_atOnce at hf
  refine r_aload_n hX dX10_atOnce_0 0 rfl ?_
  refine r_get hX fl_X10_9 (w_92 _ _ _) rfl dX10_atOnce_1 ?_
  obtain ⟨v3, μ1, h2, hf⟩ := bd2_eq hf
  refine r_callVI (Ok.le hX (by omega)) (c_st_openToTalk (d := d)  h2) cv_X10_27 (w_4 _ _ _) rfl rfl (st := []) rfl rfl rfl dX10_atOnce_4 (fun dy => ?_)
  refine r_istore hX dX10_atOnce_7 rfl (ls' := [(4, .int v3), (0, .ref (gA (xG X) 92)), (1, .int x1), (2, .int x2), (3, .int x3)]) rfl ?_
  refine r_iconst hX (-1 : Int32) dX10_atOnce_9 rfl ?_
  refine r_istore hX dX10_atOnce_10 rfl (ls' := [(5, .int (-1 : Int32)), (4, .int v3), (0, .ref (gA (xG X) 92)), (1, .int x1), (2, .int x2), (3, .int x3)]) rfl ?_
  refine r_sipush hX (16000 : Int32) dX10_atOnce_12 rfl ?_
  refine r_istore hX dX10_atOnce_15 rfl (ls' := [(6, .int (16000 : Int32)), (5, .int (-1 : Int32)), (4, .int v3), (0, .ref (gA (xG X) 92)), (1, .int x1), (2, .int x2), (3, .int x3)]) rfl ?_
  refine r_iconst hX (0 : Int32) dX10_atOnce_17 rfl ?_
  refine r_istore hX dX10_atOnce_18 rfl (ls' := [(7, .int (0 : Int32)), (6, .int (16000 : Int32)), (5, .int (-1 : Int32)), (4, .int v3), (0, .ref (gA (xG X) 92)), (1, .int x1), (2, .int x2), (3, .int x3)]) rfl ?_
  refine r_weak [4, 5, 6, 7, 3, 2, 1, 0] rfl ?_
  exact b_ta_atOnce_b20 hX hr FU _ _ _ _ _ _ _ _ _ hf
theorem dX10_leastSumWith_0 : decode cX10_leastSumWith 0 = .ok (.aload_n 0, 1) := by decide +kernel
theorem dX10_leastSumWith_1 : decode cX10_leastSumWith 1 = .ok (.getfield 9, 3) := by decide +kernel
theorem dX10_leastSumWith_4 : decode cX10_leastSumWith 4 = .ok (.getfield 82, 3) := by decide +kernel
theorem dX10_leastSumWith_7 : decode cX10_leastSumWith 7 = .ok (.iload_n 1, 1) := by decide +kernel
theorem dX10_leastSumWith_8 : decode cX10_leastSumWith 8 = .ok (.iaload, 1) := by decide +kernel
theorem dX10_leastSumWith_9 : decode cX10_leastSumWith 9 = .ok (.aload_n 0, 1) := by decide +kernel
theorem dX10_leastSumWith_10 : decode cX10_leastSumWith 10 = .ok (.aload_n 0, 1) := by decide +kernel
theorem dX10_leastSumWith_11 : decode cX10_leastSumWith 11 = .ok (.getfield 15, 3) := by decide +kernel
theorem dX10_leastSumWith_14 : decode cX10_leastSumWith 14 = .ok (.iload_n 2, 1) := by decide +kernel
theorem dX10_leastSumWith_15 : decode cX10_leastSumWith 15 = .ok (.iconst 1, 1) := by decide +kernel
theorem dX10_leastSumWith_16 : decode cX10_leastSumWith 16 = .ok (.iload_n 1, 1) := by decide +kernel
theorem dX10_leastSumWith_17 : decode cX10_leastSumWith 17 = .ok (.ishl, 1) := by decide +kernel
theorem dX10_leastSumWith_18 : decode cX10_leastSumWith 18 = .ok (.ior, 1) := by decide +kernel
theorem dX10_leastSumWith_19 : decode cX10_leastSumWith 19 = .ok (.invokevirtual 86, 3) := by decide +kernel
theorem dX10_leastSumWith_22 : decode cX10_leastSumWith 22 = .ok (.iload_n 3, 1) := by decide +kernel
theorem dX10_leastSumWith_23 : decode cX10_leastSumWith 23 = .ok (.iconst 1, 1) := by decide +kernel
theorem dX10_leastSumWith_24 : decode cX10_leastSumWith 24 = .ok (.isub, 1) := by decide +kernel
theorem dX10_leastSumWith_25 : decode cX10_leastSumWith 25 = .ok (.invokevirtual 101, 3) := by decide +kernel
theorem dX10_leastSumWith_28 : decode cX10_leastSumWith 28 = .ok (.iadd, 1) := by decide +kernel
theorem dX10_leastSumWith_29 : decode cX10_leastSumWith 29 = .ok (.ireturn, 1) := by decide +kernel
set_option maxHeartbeats 4000000 in
set_option maxRecDepth 20000 in
theorem c_ta_leastSumWith {G : Gx} {d : Nat} {R : Int32 → Int32 → Mem → Option (Int32 × Mem)} (hR : ∀ (x1 : Int32) (x2 : Int32) (μ : Mem) (r : Int32 × Mem), R x1 x2 μ = some r → Con G M_ta_leastSum (d + 8) [.ref (gA G 92), .int x1, .int x2] μ (some (.int r.1), r.2)) {x1 : Int32} {x2 : Int32} {x3 : Int32} {μ : Mem} {r : Int32 × Mem} (hf : f_ta_leastSumWith R x1 x2 x3 μ = some r) : Con G M_ta_leastSumWith (d + 9) [.ref (gA G 92), .int x1, .int x2, .int x3] μ (some (.int r.1), r.2) := by
  refine Con.ofI ⟨rfl, rfl, Nat.le_of_ble_eq_true rfl⟩ rfl rfl (fun X hG hX hr dy => ?_)
  subst hG
  show AW X 0 [(0, .ref (gA (xG X) 92)), (1, .int x1), (2, .int x2), (3, .int x3)] [] μ dy
  unfold f_ta_leastSumWith at hf
  refine r_aload_n hX dX10_leastSumWith_0 0 rfl ?_
  refine r_get hX fl_X10_9 (w_92 _ _ _) rfl dX10_leastSumWith_1 ?_
  refine r_getN hX fl_X10_82 (w_4 _ _ _) rfl dX10_leastSumWith_4 ?_
  refine r_iload_n hX dX10_leastSumWith_7 1 rfl ?_
  obtain ⟨b1, hf⟩ := chk_eq hf
  refine r_iald hX (w_6 _ _ _) (inb_in b1) dX10_leastSumWith_8 ?_
  refine r_aload_n hX dX10_leastSumWith_9 0 rfl ?_
  refine r_aload_n hX dX10_leastSumWith_10 0 rfl ?_
  refine r_get hX fl_X10_15 (w_92 _ _ _) rfl dX10_leastSumWith_11 ?_
  refine r_iload_n hX dX10_leastSumWith_14 2 rfl ?_
  refine r_iconst hX (1 : Int32) dX10_leastSumWith_15 rfl ?_
  refine r_iload_n hX dX10_leastSumWith_16 1 rfl ?_
  refine r_ishl hX dX10_leastSumWith_17 ?_
  refine r_ior hX dX10_leastSumWith_18 ?_
  obtain ⟨v4, μ2, h3, hf⟩ := bd2_eq hf
  refine r_callVI (Ok.le hX (by omega)) (c_he_after (d := d) (by decide) h3) cv_X10_86 (w_80 _ _ _) rfl rfl (st := [.ref (gA (xG X) 92), .int (μ.1 (vSt 0 5) x1.toNatClampNeg)]) rfl rfl rfl dX10_leastSumWith_19 (fun dy => ?_)
  refine r_iload_n hX dX10_leastSumWith_22 3 rfl ?_
  refine r_iconst hX (1 : Int32) dX10_leastSumWith_23 rfl ?_
  refine r_isub hX dX10_leastSumWith_24 ?_
  obtain ⟨v7, μ5, h6, hf⟩ := bd2_eq hf
  refine r_callVI (Ok.le hX (by omega)) (hR _ _ _ _ h6) cv_X10_101 (w_92 _ _ _) rfl rfl (st := [.int (μ.1 (vSt 0 5) x1.toNatClampNeg)]) rfl rfl rfl dX10_leastSumWith_25 (fun dy => ?_)
  refine r_iadd hX dX10_leastSumWith_28 ?_
  exact fin_I hf hr _ _ _ dX10_leastSumWith_29
theorem dX10_leastSum_0 : decode cX10_leastSum 0 = .ok (.iload_n 2, 1) := by decide +kernel
theorem dX10_leastSum_1 : decode cX10_leastSum 1 = .ok (.ifCond .gt 24, 3) := by decide +kernel
theorem dX10_leastSum_4 : decode cX10_leastSum 4 = .ok (.iload_n 1, 1) := by decide +kernel
theorem dX10_leastSum_5 : decode cX10_leastSum 5 = .ok (.aload_n 0, 1) := by decide +kernel
theorem dX10_leastSum_6 : decode cX10_leastSum 6 = .ok (.getfield 89, 3) := by decide +kernel
theorem dX10_leastSum_9 : decode cX10_leastSum 9 = .ok (.iand, 1) := by decide +kernel
theorem dX10_leastSum_10 : decode cX10_leastSum 10 = .ok (.aload_n 0, 1) := by decide +kernel
theorem dX10_leastSum_11 : decode cX10_leastSum 11 = .ok (.getfield 89, 3) := by decide +kernel
theorem dX10_leastSum_14 : decode cX10_leastSum 14 = .ok (.if_icmp .ne 7, 3) := by decide +kernel
theorem dX10_leastSum_17 : decode cX10_leastSum 17 = .ok (.iconst 0, 1) := by decide +kernel
theorem dX10_leastSum_18 : decode cX10_leastSum 18 = .ok (.goto 6, 3) := by decide +kernel
theorem dX10_leastSum_21 : decode cX10_leastSum 21 = .ok (.sipush 1000, 3) := by decide +kernel
theorem dX10_leastSum_24 : decode cX10_leastSum 24 = .ok (.ireturn, 1) := by decide +kernel
theorem dX10_leastSum_25 : decode cX10_leastSum 25 = .ok (.aload_n 0, 1) := by decide +kernel
theorem dX10_leastSum_26 : decode cX10_leastSum 26 = .ok (.getfield 19, 3) := by decide +kernel
theorem dX10_leastSum_29 : decode cX10_leastSum 29 = .ok (.iload_n 2, 1) := by decide +kernel
theorem dX10_leastSum_30 : decode cX10_leastSum 30 = .ok (.iload_n 1, 1) := by decide +kernel
theorem dX10_leastSum_31 : decode cX10_leastSum 31 = .ok (.invokevirtual 105, 3) := by decide +kernel
theorem dX10_leastSum_34 : decode cX10_leastSum 34 = .ok (.istore_n 3, 1) := by decide +kernel
theorem dX10_leastSum_35 : decode cX10_leastSum 35 = .ok (.iload_n 3, 1) := by decide +kernel
theorem dX10_leastSum_36 : decode cX10_leastSum 36 = .ok (.iconst (-1), 1) := by decide +kernel
theorem dX10_leastSum_37 : decode cX10_leastSum 37 = .ok (.if_icmp .eq 5, 3) := by decide +kernel
theorem dX10_leastSum_40 : decode cX10_leastSum 40 = .ok (.iload_n 3, 1) := by decide +kernel
theorem dX10_leastSum_41 : decode cX10_leastSum 41 = .ok (.ireturn, 1) := by decide +kernel
theorem dX10_leastSum_42 : decode cX10_leastSum 42 = .ok (.aload_n 0, 1) := by decide +kernel
theorem dX10_leastSum_43 : decode cX10_leastSum 43 = .ok (.aload_n 0, 1) := by decide +kernel
theorem dX10_leastSum_44 : decode cX10_leastSum 44 = .ok (.getfield 15, 3) := by decide +kernel
theorem dX10_leastSum_47 : decode cX10_leastSum 47 = .ok (.iload_n 1, 1) := by decide +kernel
theorem dX10_leastSum_48 : decode cX10_leastSum 48 = .ok (.invokevirtual 86, 3) := by decide +kernel
theorem dX10_leastSum_51 : decode cX10_leastSum 51 = .ok (.iload_n 2, 1) := by decide +kernel
theorem dX10_leastSum_52 : decode cX10_leastSum 52 = .ok (.iconst 1, 1) := by decide +kernel
theorem dX10_leastSum_53 : decode cX10_leastSum 53 = .ok (.isub, 1) := by decide +kernel
theorem dX10_leastSum_54 : decode cX10_leastSum 54 = .ok (.invokevirtual 101, 3) := by decide +kernel
theorem dX10_leastSum_57 : decode cX10_leastSum 57 = .ok (.istore 4, 2) := by decide +kernel
theorem dX10_leastSum_59 : decode cX10_leastSum 59 = .ok (.aload_n 0, 1) := by decide +kernel
theorem dX10_leastSum_60 : decode cX10_leastSum 60 = .ok (.getfield 9, 3) := by decide +kernel
theorem dX10_leastSum_63 : decode cX10_leastSum 63 = .ok (.invokevirtual 33, 3) := by decide +kernel
theorem dX10_leastSum_66 : decode cX10_leastSum 66 = .ok (.aload_n 0, 1) := by decide +kernel
theorem dX10_leastSum_67 : decode cX10_leastSum 67 = .ok (.getfield 9, 3) := by decide +kernel
theorem dX10_leastSum_70 : decode cX10_leastSum 70 = .ok (.getfield 108, 3) := by decide +kernel
theorem dX10_leastSum_73 : decode cX10_leastSum 73 = .ok (.iconst (-1), 1) := by decide +kernel
theorem dX10_leastSum_74 : decode cX10_leastSum 74 = .ok (.ixor, 1) := by decide +kernel
theorem dX10_leastSum_75 : decode cX10_leastSum 75 = .ok (.iand, 1) := by decide +kernel
theorem dX10_leastSum_76 : decode cX10_leastSum 76 = .ok (.iload_n 1, 1) := by decide +kernel
theorem dX10_leastSum_77 : decode cX10_leastSum 77 = .ok (.iconst (-1), 1) := by decide +kernel
theorem dX10_leastSum_78 : decode cX10_leastSum 78 = .ok (.ixor, 1) := by decide +kernel
theorem dX10_leastSum_79 : decode cX10_leastSum 79 = .ok (.iand, 1) := by decide +kernel
theorem dX10_leastSum_80 : decode cX10_leastSum 80 = .ok (.istore 5, 2) := by decide +kernel
theorem dX10_leastSum_82 : decode cX10_leastSum 82 = .ok (.iconst 0, 1) := by decide +kernel
theorem dX10_leastSum_83 : decode cX10_leastSum 83 = .ok (.istore 6, 2) := by decide +kernel
theorem dX10_leastSum_85 : decode cX10_leastSum 85 = .ok (.iload 6, 2) := by decide +kernel
theorem dX10_leastSum_87 : decode cX10_leastSum 87 = .ok (.aload_n 0, 1) := by decide +kernel
theorem dX10_leastSum_88 : decode cX10_leastSum 88 = .ok (.getfield 9, 3) := by decide +kernel
theorem dX10_leastSum_91 : decode cX10_leastSum 91 = .ok (.getfield 92, 3) := by decide +kernel
theorem dX10_leastSum_94 : decode cX10_leastSum 94 = .ok (.if_icmp .ge 34, 3) := by decide +kernel
theorem dX10_leastSum_97 : decode cX10_leastSum 97 = .ok (.iload 5, 2) := by decide +kernel
theorem dX10_leastSum_99 : decode cX10_leastSum 99 = .ok (.iload 6, 2) := by decide +kernel
theorem dX10_leastSum_101 : decode cX10_leastSum 101 = .ok (.ishr, 1) := by decide +kernel
theorem dX10_leastSum_102 : decode cX10_leastSum 102 = .ok (.iconst 1, 1) := by decide +kernel
theorem dX10_leastSum_103 : decode cX10_leastSum 103 = .ok (.iand, 1) := by decide +kernel
theorem dX10_leastSum_104 : decode cX10_leastSum 104 = .ok (.ifCond .eq 18, 3) := by decide +kernel
theorem dX10_leastSum_107 : decode cX10_leastSum 107 = .ok (.iload 4, 2) := by decide +kernel
theorem dX10_leastSum_109 : decode cX10_leastSum 109 = .ok (.aload_n 0, 1) := by decide +kernel
theorem dX10_leastSum_110 : decode cX10_leastSum 110 = .ok (.iload 6, 2) := by decide +kernel
theorem dX10_leastSum_112 : decode cX10_leastSum 112 = .ok (.iload_n 1, 1) := by decide +kernel
theorem dX10_leastSum_113 : decode cX10_leastSum 113 = .ok (.iload_n 2, 1) := by decide +kernel
theorem dX10_leastSum_114 : decode cX10_leastSum 114 = .ok (.invokevirtual 111, 3) := by decide +kernel
theorem dX10_leastSum_117 : decode cX10_leastSum 117 = .ok (.invokestatic 114, 3) := by decide +kernel
theorem dX10_leastSum_120 : decode cX10_leastSum 120 = .ok (.istore 4, 2) := by decide +kernel
theorem dX10_leastSum_122 : decode cX10_leastSum 122 = .ok (.iinc 6 1, 3) := by decide +kernel
theorem dX10_leastSum_125 : decode cX10_leastSum 125 = .ok (.goto (-40), 3) := by decide +kernel
theorem dX10_leastSum_128 : decode cX10_leastSum 128 = .ok (.aload_n 0, 1) := by decide +kernel
theorem dX10_leastSum_129 : decode cX10_leastSum 129 = .ok (.getfield 19, 3) := by decide +kernel
theorem dX10_leastSum_132 : decode cX10_leastSum 132 = .ok (.iload_n 2, 1) := by decide +kernel
theorem dX10_leastSum_133 : decode cX10_leastSum 133 = .ok (.iload_n 1, 1) := by decide +kernel
theorem dX10_leastSum_134 : decode cX10_leastSum 134 = .ok (.iload 4, 2) := by decide +kernel
theorem dX10_leastSum_136 : decode cX10_leastSum 136 = .ok (.invokevirtual 119, 3) := by decide +kernel
theorem dX10_leastSum_139 : decode cX10_leastSum 139 = .ok (.iload 4, 2) := by decide +kernel
theorem dX10_leastSum_141 : decode cX10_leastSum 141 = .ok (.ireturn, 1) := by decide +kernel
set_option maxHeartbeats 4000000 in
set_option maxRecDepth 20000 in
theorem b_ta_leastSum_b85 {X : Cx} {d : Nat} {R : Int32 → Int32 → Mem → Option (Int32 × Mem)} (hR : ∀ (x1 : Int32) (x2 : Int32) (μ : Mem) (r : Int32 × Mem), R x1 x2 μ = some r → Con (xG X) M_ta_leastSum (d + 8) [.ref (gA (xG X) 92), .int x1, .int x2] μ (some (.int r.1), r.2)) (hX : Ok M_ta_leastSum (d + 10) X) {r : Int32 × Mem} (hr : RetI M_ta_leastSum X r.1 r.2) : ∀ (n : Nat) (x1 : Int32) (x2 : Int32) (x4 : Int32) (x5 : Int32) (x6 : Int32) (μ : Mem) (dy : Nat → Nat), f_ta_leastSum_b85 R n x1 x2 x4 x5 x6 μ = some r → AW X 85 [(0, .ref (gA (xG X) 92)), (1, .int x1), (2, .int x2), (4, .int x4), (5, .int x5), (6, .int x6)] [] μ dy := by
  intro n
  induction n with
  | zero => intro x1 x2 x4 x5 x6 μ dy hf; exact nomatch hf
  | succ n ih =>
    intro x1 x2 x4 x5 x6 μ dy hf
    rw [f_ta_leastSum_b85] at hf
    refine r_iload hX dX10_leastSum_85 5 rfl ?_
    refine r_aload_n hX dX10_leastSum_87 0 rfl ?_
    refine r_get hX fl_X10_9 (w_92 _ _ _) rfl dX10_leastSum_88 ?_
    refine r_getN hX fl_X10_92 (w_4 _ _ _) rfl dX10_leastSum_91 ?_
    refine r_icmp_ge hX 128 dX10_leastSum_94 rfl (fun hc17 => ?_) (fun hc17 => ?_)
    · rw [if_pos hc17] at hf
      refine r_aload_n hX dX10_leastSum_128 0 rfl ?_
      refine r_get hX fl_X10_19 (w_92 _ _ _) rfl dX10_leastSum_129 ?_
      refine r_iload_n hX dX10_leastSum_132 2 rfl ?_
      refine r_iload_n hX dX10_leastSum_133 1 rfl ?_
      refine r_iload hX dX10_leastSum_134 3 rfl ?_
      obtain ⟨μ18, h19, hf⟩ := bd1_eq hf
      refine r_callVV (Ok.le hX (by omega)) (c_me_note (d := d)  h19) cv_X10_119 (w_90 _ _ _) rfl rfl (st := []) rfl rfl rfl dX10_leastSum_136 (fun dy => ?_)
      refine r_iload hX dX10_leastSum_139 3 rfl ?_
      exact fin_I hf hr _ _ _ dX10_leastSum_141
    · rw [if_neg hc17] at hf
      refine r_iload hX dX10_leastSum_97 4 rfl ?_
      refine r_iload hX dX10_leastSum_99 5 rfl ?_
      refine r_ishr hX dX10_leastSum_101 ?_
      refine r_iconst hX (1 : Int32) dX10_leastSum_102 rfl ?_
      refine r_iand hX dX10_leastSum_103 ?_
      refine r_if_eq hX 122 dX10_leastSum_104 rfl (fun hc20 => ?_) (fun hc20 => ?_)
      · rw [if_pos hc20] at hf
        refine r_iinc hX (x6 + (1 : Int32)) dX10_leastSum_122 5 rfl rfl rfl (ls' := [(6, .int (x6 + (1 : Int32))), (0, .ref (gA (xG X) 92)), (1, .int x1), (2, .int x2), (4, .int x4), (5, .int x5)]) rfl ?_
        refine r_goto hX 85 dX10_leastSum_125 rfl ?_
        refine r_weak [1, 2, 3, 4, 5, 0] rfl ?_
        exact ih _ _ _ _ _ _ _ hf
      · rw [if_neg hc20] at hf
        refine r_iload hX dX10_leastSum_107 3 rfl ?_
        refine r_aload_n hX dX10_leastSum_109 0 rfl ?_
        refine r_iload hX dX10_leastSum_110 5 rfl ?_
        refine r_iload_n hX dX10_leastSum_112 1 rfl ?_
        refine r_iload_n hX dX10_leastSum_113 2 rfl ?_
        obtain ⟨v23, μ21, h22, hf⟩ := bd2_eq hf
        refine r_callVI (Ok.le hX (by omega)) (c_ta_leastSumWith (d := d) hR h22) cv_X10_111 (w_92 _ _ _) rfl rfl (st := [.int x4]) rfl rfl rfl dX10_leastSum_114 (fun dy => ?_)
        refine r_min (d := d + 9) (Ok.le hX (by omega)) cs_X10_114 rfl dX10_leastSum_117 ?_
        refine r_istore hX dX10_leastSum_120 rfl (ls' := [(4, .int (imin x4 v23)), (0, .ref (gA (xG X) 92)), (1, .int x1), (2, .int x2), (5, .int x5), (6, .int x6)]) rfl ?_
        refine r_iinc hX (x6 + (1 : Int32)) dX10_leastSum_122 5 rfl rfl rfl (ls' := [(6, .int (x6 + (1 : Int32))), (4, .int (imin x4 v23)), (0, .ref (gA (xG X) 92)), (1, .int x1), (2, .int x2), (5, .int x5)]) rfl ?_
        refine r_goto hX 85 dX10_leastSum_125 rfl ?_
        refine r_weak [2, 3, 4, 1, 5, 0] rfl ?_
        exact ih _ _ _ _ _ _ _ hf
set_option maxHeartbeats 4000000 in
set_option maxRecDepth 20000 in
theorem c_ta_leastSum_body {G : Gx} {d : Nat} {R : Int32 → Int32 → Mem → Option (Int32 × Mem)} (hR : ∀ (x1 : Int32) (x2 : Int32) (μ : Mem) (r : Int32 × Mem), R x1 x2 μ = some r → Con G M_ta_leastSum (d + 8) [.ref (gA G 92), .int x1, .int x2] μ (some (.int r.1), r.2)) {x1 : Int32} {x2 : Int32} {μ : Mem} {r : Int32 × Mem} (hf : f_ta_leastSum_body R x1 x2 μ = some r) : Con G M_ta_leastSum (d + 10) [.ref (gA G 92), .int x1, .int x2] μ (some (.int r.1), r.2) := by
  refine Con.ofI ⟨rfl, rfl, Nat.le_of_ble_eq_true rfl⟩ rfl rfl (fun X hG hX hr dy => ?_)
  subst hG
  show AW X 0 [(0, .ref (gA (xG X) 92)), (1, .int x1), (2, .int x2)] [] μ dy
  unfold f_ta_leastSum_body at hf
  refine r_iload_n hX dX10_leastSum_0 2 rfl ?_
  refine r_if_gt hX 25 dX10_leastSum_1 rfl (fun hc1 => ?_) (fun hc1 => ?_)
  · rw [if_pos hc1] at hf
    refine r_aload_n hX dX10_leastSum_25 0 rfl ?_
    refine r_get hX fl_X10_19 (w_92 _ _ _) rfl dX10_leastSum_26 ?_
    refine r_iload_n hX dX10_leastSum_29 2 rfl ?_
    refine r_iload_n hX dX10_leastSum_30 1 rfl ?_
    obtain ⟨v4, μ2, h3, hf⟩ := bd2_eq hf
    refine r_callVI (Ok.le hX (by omega)) (c_me_recall (d := d)  h3) cv_X10_105 (w_90 _ _ _) rfl rfl (st := []) rfl rfl rfl dX10_leastSum_31 (fun dy => ?_)
    refine r_istore_n hX dX10_leastSum_34 rfl (ls' := [(3, .int v4), (0, .ref (gA (xG X) 92)), (1, .int x1), (2, .int x2)]) rfl ?_
    refine r_iload_n hX dX10_leastSum_35 0 rfl ?_
    refine r_iconst hX (-1 : Int32) dX10_leastSum_36 rfl ?_
    refine r_icmp_eq hX 42 dX10_leastSum_37 rfl (fun hc5 => ?_) (fun hc5 => ?_)
    · rw [if_pos hc5] at hf
      refine r_aload_n hX dX10_leastSum_42 1 rfl ?_
      refine r_aload_n hX dX10_leastSum_43 1 rfl ?_
      refine r_get hX fl_X10_15 (w_92 _ _ _) rfl dX10_leastSum_44 ?_
      refine r_iload_n hX dX10_leastSum_47 2 rfl ?_
      obtain ⟨v8, μ6, h7, hf⟩ := bd2_eq hf
      refine r_callVI (Ok.le hX (by omega)) (c_he_after (d := d) (by decide) h7) cv_X10_86 (w_80 _ _ _) rfl rfl (st := [.ref (gA (xG X) 92)]) rfl rfl rfl dX10_leastSum_48 (fun dy => ?_)
      refine r_iload_n hX dX10_leastSum_51 3 rfl ?_
      refine r_iconst hX (1 : Int32) dX10_leastSum_52 rfl ?_
      refine r_isub hX dX10_leastSum_53 ?_
      obtain ⟨v11, μ9, h10, hf⟩ := bd2_eq hf
      refine r_callVI (Ok.le hX (by omega)) (hR _ _ _ _ h10) cv_X10_101 (w_92 _ _ _) rfl rfl (st := []) rfl rfl rfl dX10_leastSum_54 (fun dy => ?_)
      refine r_istore hX dX10_leastSum_57 rfl (ls' := [(4, .int v11), (3, .int v4), (0, .ref (gA (xG X) 92)), (1, .int x1), (2, .int x2)]) rfl ?_
      refine r_aload_n hX dX10_leastSum_59 2 rfl ?_
      refine r_get hX fl_X10_9 (w_92 _ _ _) rfl dX10_leastSum_60 ?_
      obtain ⟨v14, μ12, h13, hf⟩ := bd2_eq hf
      refine r_callVI (Ok.le hX (by omega)) (c_st_everybody (d := d)  h13) cv_X10_33 (w_4 _ _ _) rfl rfl (st := []) rfl rfl rfl dX10_leastSum_63 (fun dy => ?_)
      refine r_aload_n hX dX10_leastSum_66 2 rfl ?_
      refine r_get hX fl_X10_9 (w_92 _ _ _) rfl dX10_leastSum_67 ?_
      refine r_getN hX fl_X10_108 (w_4 _ _ _) rfl dX10_leastSum_70 ?_
      refine r_iconst hX (-1 : Int32) dX10_leastSum_73 rfl ?_
      refine r_ixor hX dX10_leastSum_74 ?_
      refine r_iand hX dX10_leastSum_75 ?_
      refine r_iload_n hX dX10_leastSum_76 3 rfl ?_
      refine r_iconst hX (-1 : Int32) dX10_leastSum_77 rfl ?_
      refine r_ixor hX dX10_leastSum_78 ?_
      refine r_iand hX dX10_leastSum_79 ?_
      obtain ⟨v15, e16, hf⟩ := bnd_eq hf
      refine r_topI e16 ?_
      refine r_istore hX dX10_leastSum_80 rfl (ls' := [(5, .int v15), (4, .int v11), (3, .int v4), (0, .ref (gA (xG X) 92)), (1, .int x1), (2, .int x2)]) rfl ?_
      refine r_iconst hX (0 : Int32) dX10_leastSum_82 rfl ?_
      refine r_istore hX dX10_leastSum_83 rfl (ls' := [(6, .int (0 : Int32)), (5, .int v15), (4, .int v11), (3, .int v4), (0, .ref (gA (xG X) 92)), (1, .int x1), (2, .int x2)]) rfl ?_
      refine r_weak [4, 5, 6, 2, 1, 0] rfl ?_
      exact b_ta_leastSum_b85 hR hX hr FU _ _ _ _ _ _ _ hf
    · rw [if_neg hc5] at hf
      refine r_iload_n hX dX10_leastSum_40 0 rfl ?_
      exact fin_I hf hr _ _ _ dX10_leastSum_41
  · rw [if_neg hc1] at hf
    refine r_iload_n hX dX10_leastSum_4 1 rfl ?_
    refine r_aload_n hX dX10_leastSum_5 0 rfl ?_
    refine r_get hX fl_X10_89 (w_92 _ _ _) rfl dX10_leastSum_6 ?_
    refine r_iand hX dX10_leastSum_9 ?_
    refine r_aload_n hX dX10_leastSum_10 0 rfl ?_
    refine r_get hX fl_X10_89 (w_92 _ _ _) rfl dX10_leastSum_11 ?_
    obtain ⟨v24, e25, hf⟩ := bnd_eq hf
    have J26 : AW X 24 [(0, .ref (gA (xG X) 92)), (1, .int x1), (2, .int x2)] [.int v24] μ dy := by
      exact fin_I hf hr _ _ _ dX10_leastSum_24
    refine r_icmp_ne hX 21 dX10_leastSum_14 rfl (fun hc27 => ?_) (fun hc27 => ?_)
    · refine r_sipush hX (1000 : Int32) dX10_leastSum_21 rfl ?_
      exact r_topI (e25.trans (by rw [if_neg hc27])) J26
    · refine r_iconst hX (0 : Int32) dX10_leastSum_17 rfl ?_
      refine r_goto hX 24 dX10_leastSum_18 rfl ?_
      exact r_topI (e25.trans (by rw [if_pos hc27])) J26
theorem c_ta_leastSum {G : Gx} {d : Nat} (k : Nat) : ∀ {x1 : Int32} {x2 : Int32} {μ : Mem} {r : Int32 × Mem}, f_ta_leastSum k x1 x2 μ = some r → Con G M_ta_leastSum (d + 2 * k + 8) [.ref (gA G 92), .int x1, .int x2] μ (some (.int r.1), r.2) := by
  induction k with
  | zero => intro x1 x2 μ r hf; exact nomatch hf
  | succ k ih =>
    intro x1 x2 μ r hf
    rw [f_ta_leastSum] at hf
    have h := c_ta_leastSum_body (d := d + 2 * k) (fun x1 x2 μ r h => ih h) hf
    have e : d + 2 * k + 10 = d + 2 * (k + 1) + 8 := by omega
    rw [← e]
    exact h
theorem dX10_seek_0 : decode cX10_seek 0 = .ok (.aload_n 0, 1) := by decide +kernel
theorem dX10_seek_1 : decode cX10_seek 1 = .ok (.iload_n 1, 1) := by decide +kernel
theorem dX10_seek_2 : decode cX10_seek 2 = .ok (.putfield 89, 3) := by decide +kernel
theorem dX10_seek_5 : decode cX10_seek 5 = .ok (.aload_n 0, 1) := by decide +kernel
theorem dX10_seek_6 : decode cX10_seek 6 = .ok (.getfield 19, 3) := by decide +kernel
theorem dX10_seek_9 : decode cX10_seek 9 = .ok (.aload_n 0, 1) := by decide +kernel
theorem dX10_seek_10 : decode cX10_seek 10 = .ok (.getfield 9, 3) := by decide +kernel
theorem dX10_seek_13 : decode cX10_seek 13 = .ok (.getfield 92, 3) := by decide +kernel
theorem dX10_seek_16 : decode cX10_seek 16 = .ok (.invokevirtual 95, 3) := by decide +kernel
theorem dX10_seek_19 : decode cX10_seek 19 = .ok (.aload_n 0, 1) := by decide +kernel
theorem dX10_seek_20 : decode cX10_seek 20 = .ok (.sipush 1000, 3) := by decide +kernel
theorem dX10_seek_23 : decode cX10_seek 23 = .ok (.putfield 70, 3) := by decide +kernel
theorem dX10_seek_26 : decode cX10_seek 26 = .ok (.iconst 0, 1) := by decide +kernel
theorem dX10_seek_27 : decode cX10_seek 27 = .ok (.istore_n 3, 1) := by decide +kernel
theorem dX10_seek_28 : decode cX10_seek 28 = .ok (.iload_n 3, 1) := by decide +kernel
theorem dX10_seek_29 : decode cX10_seek 29 = .ok (.iload_n 2, 1) := by decide +kernel
theorem dX10_seek_30 : decode cX10_seek 30 = .ok (.if_icmp .gt 43, 3) := by decide +kernel
theorem dX10_seek_33 : decode cX10_seek 33 = .ok (.aload_n 0, 1) := by decide +kernel
theorem dX10_seek_34 : decode cX10_seek 34 = .ok (.aload_n 0, 1) := by decide +kernel
theorem dX10_seek_35 : decode cX10_seek 35 = .ok (.getfield 9, 3) := by decide +kernel
theorem dX10_seek_38 : decode cX10_seek 38 = .ok (.invokevirtual 45, 3) := by decide +kernel
theorem dX10_seek_41 : decode cX10_seek 41 = .ok (.iload_n 3, 1) := by decide +kernel
theorem dX10_seek_42 : decode cX10_seek 42 = .ok (.invokevirtual 101, 3) := by decide +kernel
theorem dX10_seek_45 : decode cX10_seek 45 = .ok (.istore 4, 2) := by decide +kernel
theorem dX10_seek_47 : decode cX10_seek 47 = .ok (.iload 4, 2) := by decide +kernel
theorem dX10_seek_49 : decode cX10_seek 49 = .ok (.aload_n 0, 1) := by decide +kernel
theorem dX10_seek_50 : decode cX10_seek 50 = .ok (.getfield 70, 3) := by decide +kernel
theorem dX10_seek_53 : decode cX10_seek 53 = .ok (.if_icmp .ge 14, 3) := by decide +kernel
theorem dX10_seek_56 : decode cX10_seek 56 = .ok (.aload_n 0, 1) := by decide +kernel
theorem dX10_seek_57 : decode cX10_seek 57 = .ok (.iload 4, 2) := by decide +kernel
theorem dX10_seek_59 : decode cX10_seek 59 = .ok (.putfield 70, 3) := by decide +kernel
theorem dX10_seek_62 : decode cX10_seek 62 = .ok (.aload_n 0, 1) := by decide +kernel
theorem dX10_seek_63 : decode cX10_seek 63 = .ok (.iload_n 3, 1) := by decide +kernel
theorem dX10_seek_64 : decode cX10_seek 64 = .ok (.putfield 64, 3) := by decide +kernel
theorem dX10_seek_67 : decode cX10_seek 67 = .ok (.iinc 3 1, 3) := by decide +kernel
theorem dX10_seek_70 : decode cX10_seek 70 = .ok (.goto (-42), 3) := by decide +kernel
theorem dX10_seek_73 : decode cX10_seek 73 = .ok (.aload_n 0, 1) := by decide +kernel
theorem dX10_seek_74 : decode cX10_seek 74 = .ok (.getfield 70, 3) := by decide +kernel
theorem dX10_seek_77 : decode cX10_seek 77 = .ok (.sipush 1000, 3) := by decide +kernel
theorem dX10_seek_80 : decode cX10_seek 80 = .ok (.if_icmp .ge 7, 3) := by decide +kernel
theorem dX10_seek_83 : decode cX10_seek 83 = .ok (.iconst 1, 1) := by decide +kernel
theorem dX10_seek_84 : decode cX10_seek 84 = .ok (.goto 4, 3) := by decide +kernel
theorem dX10_seek_87 : decode cX10_seek 87 = .ok (.iconst 0, 1) := by decide +kernel
theorem dX10_seek_88 : decode cX10_seek 88 = .ok (.ireturn, 1) := by decide +kernel
set_option maxHeartbeats 4000000 in
set_option maxRecDepth 20000 in
theorem b_ta_seek_b28 {X : Cx} {d : Nat} (hX : Ok M_ta_seek (d + 25) X) {r : Int32 × Mem} (hr : RetZ M_ta_seek X r.1 r.2) : ∀ (n : Nat) (x2 : Int32) (x3 : Int32) (μ : Mem) (dy : Nat → Nat), f_ta_seek_b28 n x2 x3 μ = some r → AW X 28 [(0, .ref (gA (xG X) 92)), (2, .int x2), (3, .int x3)] [] μ dy := by
  intro n
  induction n with
  | zero => intro x2 x3 μ dy hf; exact nomatch hf
  | succ n ih =>
    intro x2 x3 μ dy hf
    rw [f_ta_seek_b28] at hf
    refine r_iload_n hX dX10_seek_28 2 rfl ?_
    refine r_iload_n hX dX10_seek_29 1 rfl ?_
    refine r_icmp_gt hX 73 dX10_seek_30 rfl (fun hc7 => ?_) (fun hc7 => ?_)
    · rw [if_pos hc7] at hf
      refine r_aload_n hX dX10_seek_73 0 rfl ?_
      refine r_get hX fl_X10_70 (w_92 _ _ _) rfl dX10_seek_74 ?_
      refine r_sipush hX (1000 : Int32) dX10_seek_77 rfl ?_
      obtain ⟨v8, e9, hf⟩ := bnd_eq hf
      have J10 : AW X 88 [(0, .ref (gA (xG X) 92)), (2, .int x2), (3, .int x3)] [.int v8] μ dy := by
        obtain ⟨b11, hf⟩ := chk_eq hf
        exact fin_Z hf hr _ _ _ (zb_nar b11) dX10_seek_88
      refine r_icmp_ge hX 87 dX10_seek_80 rfl (fun hc12 => ?_) (fun hc12 => ?_)
      · refine r_iconst hX (0 : Int32) dX10_seek_87 rfl ?_
        exact r_topI (e9.trans (by rw [if_pos hc12])) J10
      · refine r_iconst hX (1 : Int32) dX10_seek_83 rfl ?_
        refine r_goto hX 88 dX10_seek_84 rfl ?_
        exact r_topI (e9.trans (by rw [if_neg hc12])) J10
    · rw [if_neg hc7] at hf
      refine r_aload_n hX dX10_seek_33 0 rfl ?_
      refine r_aload_n hX dX10_seek_34 0 rfl ?_
      refine r_get hX fl_X10_9 (w_92 _ _ _) rfl dX10_seek_35 ?_
      obtain ⟨v15, μ13, h14, hf⟩ := bd2_eq hf
      refine r_callVI (Ok.le hX (by omega)) (c_st_now (d := d)  h14) cv_X10_45 (w_4 _ _ _) rfl rfl (st := [.ref (gA (xG X) 92)]) rfl rfl rfl dX10_seek_38 (fun dy => ?_)
      refine r_iload_n hX dX10_seek_41 2 rfl ?_
      obtain ⟨v18, μ16, h17, hf⟩ := bd2_eq hf
      refine r_callVI (Ok.le hX (by omega)) (c_ta_leastSum (d := d) 8 h17) cv_X10_101 (w_92 _ _ _) rfl rfl (st := []) rfl rfl rfl dX10_seek_42 (fun dy => ?_)
      refine r_istore hX dX10_seek_45 rfl (ls' := [(4, .int v18), (0, .ref (gA (xG X) 92)), (2, .int x2), (3, .int x3)]) rfl ?_
      refine r_iload hX dX10_seek_47 0 rfl ?_
      refine r_aload_n hX dX10_seek_49 1 rfl ?_
      refine r_get hX fl_X10_70 (w_92 _ _ _) rfl dX10_seek_50 ?_
      refine r_icmp_ge hX 67 dX10_seek_53 rfl (fun hc19 => ?_) (fun hc19 => ?_)
      · rw [if_pos hc19] at hf
        refine r_iinc hX (x3 + (1 : Int32)) dX10_seek_67 3 rfl rfl rfl (ls' := [(3, .int (x3 + (1 : Int32))), (4, .int v18), (0, .ref (gA (xG X) 92)), (2, .int x2)]) rfl ?_
        refine r_goto hX 28 dX10_seek_70 rfl ?_
        refine r_weak [2, 3, 0] rfl ?_
        exact ih _ _ _ _ hf
      · rw [if_neg hc19] at hf
        refine r_aload_n hX dX10_seek_56 1 rfl ?_
        refine r_iload hX dX10_seek_57 0 rfl ?_
        obtain ⟨μ20, e21, hf⟩ := bnd_eq hf
        refine r_put hX fl_X10_70 ft_X10_5 (w_92 _ _ _) rfl rfl rfl (s_92_5 _ _ _ _) e21 rfl dX10_seek_59 ?_
        refine r_aload_n hX dX10_seek_62 1 rfl ?_
        refine r_iload_n hX dX10_seek_63 3 rfl ?_
        obtain ⟨μ22, e23, hf⟩ := bnd_eq hf
        refine r_put hX fl_X10_64 ft_X10_6 (w_92 _ _ _) rfl rfl rfl (s_92_6 _ _ _ _) e23 rfl dX10_seek_64 ?_
        refine r_iinc hX (x3 + (1 : Int32)) dX10_seek_67 3 rfl rfl rfl (ls' := [(3, .int (x3 + (1 : Int32))), (4, .int v18), (0, .ref (gA (xG X) 92)), (2, .int x2)]) rfl ?_
        refine r_goto hX 28 dX10_seek_70 rfl ?_
        refine r_weak [2, 3, 0] rfl ?_
        exact ih _ _ _ _ hf
set_option maxHeartbeats 4000000 in
set_option maxRecDepth 20000 in
theorem c_ta_seek {G : Gx} {d : Nat} {x1 : Int32} {x2 : Int32} {μ : Mem} {r : Int32 × Mem} (hf : f_ta_seek x1 x2 μ = some r) : Con G M_ta_seek (d + 25) [.ref (gA G 92), .int x1, .int x2] μ (some (.int r.1), r.2) := by
  refine Con.ofZ ⟨rfl, rfl, Nat.le_of_ble_eq_true rfl⟩ rfl (fun X hG hX hr dy => ?_)
  subst hG
  show AW X 0 [(0, .ref (gA (xG X) 92)), (1, .int x1), (2, .int x2)] [] μ dy
  unfold f_ta_seek at hf
  refine r_aload_n hX dX10_seek_0 0 rfl ?_
  refine r_iload_n hX dX10_seek_1 1 rfl ?_
  obtain ⟨μ1, e2, hf⟩ := bnd_eq hf
  refine r_put hX fl_X10_89 ft_X10_4 (w_92 _ _ _) rfl rfl rfl (s_92_4 _ _ _ _) e2 rfl dX10_seek_2 ?_
  refine r_aload_n hX dX10_seek_5 0 rfl ?_
  refine r_get hX fl_X10_19 (w_92 _ _ _) rfl dX10_seek_6 ?_
  refine r_aload_n hX dX10_seek_9 0 rfl ?_
  refine r_get hX fl_X10_9 (w_92 _ _ _) rfl dX10_seek_10 ?_
  refine r_getN hX fl_X10_92 (w_4 _ _ _) rfl dX10_seek_13 ?_
  obtain ⟨μ3, h4, hf⟩ := bd1_eq hf
  refine r_callVV (Ok.le hX (by omega)) (c_me_begin (d := d)  h4) cv_X10_95 (w_90 _ _ _) rfl rfl (st := []) rfl rfl rfl dX10_seek_16 (fun dy => ?_)
  refine r_aload_n hX dX10_seek_19 0 rfl ?_
  refine r_sipush hX (1000 : Int32) dX10_seek_20 rfl ?_
  obtain ⟨μ5, e6, hf⟩ := bnd_eq hf
  refine r_put hX fl_X10_70 ft_X10_5 (w_92 _ _ _) rfl rfl rfl (s_92_5 _ _ _ _) e6 rfl dX10_seek_23 ?_
  refine r_iconst hX (0 : Int32) dX10_seek_26 rfl ?_
  refine r_istore_n hX dX10_seek_27 rfl (ls' := [(3, .int (0 : Int32)), (0, .ref (gA (xG X) 92)), (1, .int x1), (2, .int x2)]) rfl ?_
  refine r_weak [1, 3, 0] rfl ?_
  exact b_ta_seek_b28 hX hr FU _ _ _ _ hf
theorem dX10_whomFirst_0 : decode cX10_whomFirst 0 = .ok (.aload_n 0, 1) := by decide +kernel
theorem dX10_whomFirst_1 : decode cX10_whomFirst 1 = .ok (.aload_n 0, 1) := by decide +kernel
theorem dX10_whomFirst_2 : decode cX10_whomFirst 2 = .ok (.getfield 15, 3) := by decide +kernel
theorem dX10_whomFirst_5 : decode cX10_whomFirst 5 = .ok (.iload_n 1, 1) := by decide +kernel
theorem dX10_whomFirst_6 : decode cX10_whomFirst 6 = .ok (.invokevirtual 86, 3) := by decide +kernel
theorem dX10_whomFirst_9 : decode cX10_whomFirst 9 = .ok (.iload_n 2, 1) := by decide +kernel
theorem dX10_whomFirst_10 : decode cX10_whomFirst 10 = .ok (.iconst 1, 1) := by decide +kernel
theorem dX10_whomFirst_11 : decode cX10_whomFirst 11 = .ok (.isub, 1) := by decide +kernel
theorem dX10_whomFirst_12 : decode cX10_whomFirst 12 = .ok (.invokevirtual 101, 3) := by decide +kernel
theorem dX10_whomFirst_15 : decode cX10_whomFirst 15 = .ok (.iload_n 3, 1) := by decide +kernel
theorem dX10_whomFirst_16 : decode cX10_whomFirst 16 = .ok (.if_icmp .ne 5, 3) := by decide +kernel
theorem dX10_whomFirst_19 : decode cX10_whomFirst 19 = .ok (.iconst (-1), 1) := by decide +kernel
theorem dX10_whomFirst_20 : decode cX10_whomFirst 20 = .ok (.ireturn, 1) := by decide +kernel
theorem dX10_whomFirst_21 : decode cX10_whomFirst 21 = .ok (.aload_n 0, 1) := by decide +kernel
theorem dX10_whomFirst_22 : decode cX10_whomFirst 22 = .ok (.getfield 9, 3) := by decide +kernel
theorem dX10_whomFirst_25 : decode cX10_whomFirst 25 = .ok (.invokevirtual 33, 3) := by decide +kernel
theorem dX10_whomFirst_28 : decode cX10_whomFirst 28 = .ok (.aload_n 0, 1) := by decide +kernel
theorem dX10_whomFirst_29 : decode cX10_whomFirst 29 = .ok (.getfield 9, 3) := by decide +kernel
theorem dX10_whomFirst_32 : decode cX10_whomFirst 32 = .ok (.getfield 108, 3) := by decide +kernel
theorem dX10_whomFirst_35 : decode cX10_whomFirst 35 = .ok (.iconst (-1), 1) := by decide +kernel
theorem dX10_whomFirst_36 : decode cX10_whomFirst 36 = .ok (.ixor, 1) := by decide +kernel
theorem dX10_whomFirst_37 : decode cX10_whomFirst 37 = .ok (.iand, 1) := by decide +kernel
theorem dX10_whomFirst_38 : decode cX10_whomFirst 38 = .ok (.iload_n 1, 1) := by decide +kernel
theorem dX10_whomFirst_39 : decode cX10_whomFirst 39 = .ok (.iconst (-1), 1) := by decide +kernel
theorem dX10_whomFirst_40 : decode cX10_whomFirst 40 = .ok (.ixor, 1) := by decide +kernel
theorem dX10_whomFirst_41 : decode cX10_whomFirst 41 = .ok (.iand, 1) := by decide +kernel
theorem dX10_whomFirst_42 : decode cX10_whomFirst 42 = .ok (.istore 4, 2) := by decide +kernel
theorem dX10_whomFirst_44 : decode cX10_whomFirst 44 = .ok (.iconst 0, 1) := by decide +kernel
theorem dX10_whomFirst_45 : decode cX10_whomFirst 45 = .ok (.istore 5, 2) := by decide +kernel
theorem dX10_whomFirst_47 : decode cX10_whomFirst 47 = .ok (.iload 5, 2) := by decide +kernel
theorem dX10_whomFirst_49 : decode cX10_whomFirst 49 = .ok (.aload_n 0, 1) := by decide +kernel
theorem dX10_whomFirst_50 : decode cX10_whomFirst 50 = .ok (.getfield 9, 3) := by decide +kernel
theorem dX10_whomFirst_53 : decode cX10_whomFirst 53 = .ok (.getfield 92, 3) := by decide +kernel
theorem dX10_whomFirst_56 : decode cX10_whomFirst 56 = .ok (.if_icmp .ge 34, 3) := by decide +kernel
theorem dX10_whomFirst_59 : decode cX10_whomFirst 59 = .ok (.iload 4, 2) := by decide +kernel
theorem dX10_whomFirst_61 : decode cX10_whomFirst 61 = .ok (.iload 5, 2) := by decide +kernel
theorem dX10_whomFirst_63 : decode cX10_whomFirst 63 = .ok (.ishr, 1) := by decide +kernel
theorem dX10_whomFirst_64 : decode cX10_whomFirst 64 = .ok (.iconst 1, 1) := by decide +kernel
theorem dX10_whomFirst_65 : decode cX10_whomFirst 65 = .ok (.iand, 1) := by decide +kernel
theorem dX10_whomFirst_66 : decode cX10_whomFirst 66 = .ok (.ifCond .eq 18, 3) := by decide +kernel
theorem dX10_whomFirst_69 : decode cX10_whomFirst 69 = .ok (.aload_n 0, 1) := by decide +kernel
theorem dX10_whomFirst_70 : decode cX10_whomFirst 70 = .ok (.iload 5, 2) := by decide +kernel
theorem dX10_whomFirst_72 : decode cX10_whomFirst 72 = .ok (.iload_n 1, 1) := by decide +kernel
theorem dX10_whomFirst_73 : decode cX10_whomFirst 73 = .ok (.iload_n 2, 1) := by decide +kernel
theorem dX10_whomFirst_74 : decode cX10_whomFirst 74 = .ok (.invokevirtual 111, 3) := by decide +kernel
theorem dX10_whomFirst_77 : decode cX10_whomFirst 77 = .ok (.iload_n 3, 1) := by decide +kernel
theorem dX10_whomFirst_78 : decode cX10_whomFirst 78 = .ok (.if_icmp .ne 6, 3) := by decide +kernel
theorem dX10_whomFirst_81 : decode cX10_whomFirst 81 = .ok (.iload 5, 2) := by decide +kernel
theorem dX10_whomFirst_83 : decode cX10_whomFirst 83 = .ok (.ireturn, 1) := by decide +kernel
theorem dX10_whomFirst_84 : decode cX10_whomFirst 84 = .ok (.iinc 5 1, 3) := by decide +kernel
theorem dX10_whomFirst_87 : decode cX10_whomFirst 87 = .ok (.goto (-40), 3) := by decide +kernel
theorem dX10_whomFirst_90 : decode cX10_whomFirst 90 = .ok (.iconst (-1), 1) := by decide +kernel
theorem dX10_whomFirst_91 : decode cX10_whomFirst 91 = .ok (.ireturn, 1) := by decide +kernel
set_option maxHeartbeats 4000000 in
set_option maxRecDepth 20000 in
theorem b_ta_whomFirst_b47 {X : Cx} {d : Nat} (hX : Ok M_ta_whomFirst (d + 26) X) {r : Int32 × Mem} (hr : RetI M_ta_whomFirst X r.1 r.2) : ∀ (n : Nat) (x1 : Int32) (x2 : Int32) (x3 : Int32) (x4 : Int32) (x5 : Int32) (μ : Mem) (dy : Nat → Nat), f_ta_whomFirst_b47 n x1 x2 x3 x4 x5 μ = some r → AW X 47 [(0, .ref (gA (xG X) 92)), (1, .int x1), (2, .int x2), (3, .int x3), (4, .int x4), (5, .int x5)] [] μ dy := by
  intro n
  induction n with
  | zero => intro x1 x2 x3 x4 x5 μ dy hf; exact nomatch hf
  | succ n ih =>
    intro x1 x2 x3 x4 x5 μ dy hf
    rw [f_ta_whomFirst_b47] at hf
    refine r_iload hX dX10_whomFirst_47 5 rfl ?_
    refine r_aload_n hX dX10_whomFirst_49 0 rfl ?_
    refine r_get hX fl_X10_9 (w_92 _ _ _) rfl dX10_whomFirst_50 ?_
    refine r_getN hX fl_X10_92 (w_4 _ _ _) rfl dX10_whomFirst_53 ?_
    refine r_icmp_ge hX 90 dX10_whomFirst_56 rfl (fun hc13 => ?_) (fun hc13 => ?_)
    · rw [if_pos hc13] at hf
      refine r_iconst hX (-1 : Int32) dX10_whomFirst_90 rfl ?_
      exact fin_I hf hr _ _ _ dX10_whomFirst_91
    · rw [if_neg hc13] at hf
      refine r_iload hX dX10_whomFirst_59 4 rfl ?_
      refine r_iload hX dX10_whomFirst_61 5 rfl ?_
      refine r_ishr hX dX10_whomFirst_63 ?_
      refine r_iconst hX (1 : Int32) dX10_whomFirst_64 rfl ?_
      refine r_iand hX dX10_whomFirst_65 ?_
      refine r_if_eq hX 84 dX10_whomFirst_66 rfl (fun hc14 => ?_) (fun hc14 => ?_)
      · rw [if_pos hc14] at hf
        refine r_iinc hX (x5 + (1 : Int32)) dX10_whomFirst_84 5 rfl rfl rfl (ls' := [(5, .int (x5 + (1 : Int32))), (0, .ref (gA (xG X) 92)), (1, .int x1), (2, .int x2), (3, .int x3), (4, .int x4)]) rfl ?_
        refine r_goto hX 47 dX10_whomFirst_87 rfl ?_
        refine r_weak [1, 2, 3, 4, 5, 0] rfl ?_
        exact ih _ _ _ _ _ _ _ hf
      · rw [if_neg hc14] at hf
        refine r_aload_n hX dX10_whomFirst_69 0 rfl ?_
        refine r_iload hX dX10_whomFirst_70 5 rfl ?_
        refine r_iload_n hX dX10_whomFirst_72 1 rfl ?_
        refine r_iload_n hX dX10_whomFirst_73 2 rfl ?_
        obtain ⟨v17, μ15, h16, hf⟩ := bd2_eq hf
        refine r_callVI (Ok.le hX (by omega)) (c_ta_leastSumWith (d := d + 2 * 8) (fun _ _ _ _ h9 => c_ta_leastSum (d := d) 8 h9) h16) cv_X10_111 (w_92 _ _ _) rfl rfl (st := []) rfl rfl rfl dX10_whomFirst_74 (fun dy => ?_)
        refine r_iload_n hX dX10_whomFirst_77 3 rfl ?_
        refine r_icmp_ne hX 84 dX10_whomFirst_78 rfl (fun hc18 => ?_) (fun hc18 => ?_)
        · rw [if_neg hc18] at hf
          refine r_iinc hX (x5 + (1 : Int32)) dX10_whomFirst_84 5 rfl rfl rfl (ls' := [(5, .int (x5 + (1 : Int32))), (0, .ref (gA (xG X) 92)), (1, .int x1), (2, .int x2), (3, .int x3), (4, .int x4)]) rfl ?_
          refine r_goto hX 47 dX10_whomFirst_87 rfl ?_
          refine r_weak [1, 2, 3, 4, 5, 0] rfl ?_
          exact ih _ _ _ _ _ _ _ hf
        · rw [if_pos hc18] at hf
          refine r_iload hX dX10_whomFirst_81 5 rfl ?_
          exact fin_I hf hr _ _ _ dX10_whomFirst_83
set_option maxHeartbeats 4000000 in
set_option maxRecDepth 20000 in
theorem c_ta_whomFirst {G : Gx} {d : Nat} {x1 : Int32} {x2 : Int32} {x3 : Int32} {μ : Mem} {r : Int32 × Mem} (hf : f_ta_whomFirst x1 x2 x3 μ = some r) : Con G M_ta_whomFirst (d + 26) [.ref (gA G 92), .int x1, .int x2, .int x3] μ (some (.int r.1), r.2) := by
  refine Con.ofI ⟨rfl, rfl, Nat.le_of_ble_eq_true rfl⟩ rfl rfl (fun X hG hX hr dy => ?_)
  subst hG
  show AW X 0 [(0, .ref (gA (xG X) 92)), (1, .int x1), (2, .int x2), (3, .int x3)] [] μ dy
  unfold f_ta_whomFirst at hf
  refine r_aload_n hX dX10_whomFirst_0 0 rfl ?_
  refine r_aload_n hX dX10_whomFirst_1 0 rfl ?_
  refine r_get hX fl_X10_15 (w_92 _ _ _) rfl dX10_whomFirst_2 ?_
  refine r_iload_n hX dX10_whomFirst_5 1 rfl ?_
  obtain ⟨v3, μ1, h2, hf⟩ := bd2_eq hf
  refine r_callVI (Ok.le hX (by omega)) (c_he_after (d := d) (by decide) h2) cv_X10_86 (w_80 _ _ _) rfl rfl (st := [.ref (gA (xG X) 92)]) rfl rfl rfl dX10_whomFirst_6 (fun dy => ?_)
  refine r_iload_n hX dX10_whomFirst_9 2 rfl ?_
  refine r_iconst hX (1 : Int32) dX10_whomFirst_10 rfl ?_
  refine r_isub hX dX10_whomFirst_11 ?_
  obtain ⟨v6, μ4, h5, hf⟩ := bd2_eq hf
  refine r_callVI (Ok.le hX (by omega)) (c_ta_leastSum (d := d) 8 h5) cv_X10_101 (w_92 _ _ _) rfl rfl (st := []) rfl rfl rfl dX10_whomFirst_12 (fun dy => ?_)
  refine r_iload_n hX dX10_whomFirst_15 3 rfl ?_
  refine r_icmp_ne hX 21 dX10_whomFirst_16 rfl (fun hc7 => ?_) (fun hc7 => ?_)
  · rw [if_neg hc7] at hf
    refine r_aload_n hX dX10_whomFirst_21 0 rfl ?_
    refine r_get hX fl_X10_9 (w_92 _ _ _) rfl dX10_whomFirst_22 ?_
    obtain ⟨v10, μ8, h9, hf⟩ := bd2_eq hf
    refine r_callVI (Ok.le hX (by omega)) (c_st_everybody (d := d)  h9) cv_X10_33 (w_4 _ _ _) rfl rfl (st := []) rfl rfl rfl dX10_whomFirst_25 (fun dy => ?_)
    refine r_aload_n hX dX10_whomFirst_28 0 rfl ?_
    refine r_get hX fl_X10_9 (w_92 _ _ _) rfl dX10_whomFirst_29 ?_
    refine r_getN hX fl_X10_108 (w_4 _ _ _) rfl dX10_whomFirst_32 ?_
    refine r_iconst hX (-1 : Int32) dX10_whomFirst_35 rfl ?_
    refine r_ixor hX dX10_whomFirst_36 ?_
    refine r_iand hX dX10_whomFirst_37 ?_
    refine r_iload_n hX dX10_whomFirst_38 1 rfl ?_
    refine r_iconst hX (-1 : Int32) dX10_whomFirst_39 rfl ?_
    refine r_ixor hX dX10_whomFirst_40 ?_
    refine r_iand hX dX10_whomFirst_41 ?_
    obtain ⟨v11, e12, hf⟩ := bnd_eq hf
    refine r_topI e12 ?_
    refine r_istore hX dX10_whomFirst_42 rfl (ls' := [(4, .int v11), (0, .ref (gA (xG X) 92)), (1, .int x1), (2, .int x2), (3, .int x3)]) rfl ?_
    refine r_iconst hX (0 : Int32) dX10_whomFirst_44 rfl ?_
    refine r_istore hX dX10_whomFirst_45 rfl (ls' := [(5, .int (0 : Int32)), (4, .int v11), (0, .ref (gA (xG X) 92)), (1, .int x1), (2, .int x2), (3, .int x3)]) rfl ?_
    refine r_weak [2, 3, 4, 5, 1, 0] rfl ?_
    exact b_ta_whomFirst_b47 hX hr FU _ _ _ _ _ _ _ hf
  · rw [if_pos hc7] at hf
    refine r_iconst hX (-1 : Int32) dX10_whomFirst_19 rfl ?_
    exact fin_I hf hr _ _ _ dX10_whomFirst_20
theorem dX10_dayByDay_0 : decode cX10_dayByDay 0 = .ok (.aload_n 0, 1) := by decide +kernel
theorem dX10_dayByDay_1 : decode cX10_dayByDay 1 = .ok (.iload_n 1, 1) := by decide +kernel
theorem dX10_dayByDay_2 : decode cX10_dayByDay 2 = .ok (.iload_n 2, 1) := by decide +kernel
theorem dX10_dayByDay_3 : decode cX10_dayByDay 3 = .ok (.invokevirtual 60, 3) := by decide +kernel
theorem dX10_dayByDay_6 : decode cX10_dayByDay 6 = .ok (.ifCond .ne 6, 3) := by decide +kernel
theorem dX10_dayByDay_9 : decode cX10_dayByDay 9 = .ok (.bipush (-2), 2) := by decide +kernel
theorem dX10_dayByDay_11 : decode cX10_dayByDay 11 = .ok (.ireturn, 1) := by decide +kernel
theorem dX10_dayByDay_12 : decode cX10_dayByDay 12 = .ok (.aload_n 0, 1) := by decide +kernel
theorem dX10_dayByDay_13 : decode cX10_dayByDay 13 = .ok (.getfield 23, 3) := by decide +kernel
theorem dX10_dayByDay_16 : decode cX10_dayByDay 16 = .ok (.aload_n 0, 1) := by decide +kernel
theorem dX10_dayByDay_17 : decode cX10_dayByDay 17 = .ok (.getfield 64, 3) := by decide +kernel
theorem dX10_dayByDay_20 : decode cX10_dayByDay 20 = .ok (.i2l, 1) := by decide +kernel
theorem dX10_dayByDay_21 : decode cX10_dayByDay 21 = .ok (.invokevirtual 54, 3) := by decide +kernel
theorem dX10_dayByDay_24 : decode cX10_dayByDay 24 = .ok (.aload_n 0, 1) := by decide +kernel
theorem dX10_dayByDay_25 : decode cX10_dayByDay 25 = .ok (.getfield 23, 3) := by decide +kernel
theorem dX10_dayByDay_28 : decode cX10_dayByDay 28 = .ok (.aload_n 0, 1) := by decide +kernel
theorem dX10_dayByDay_29 : decode cX10_dayByDay 29 = .ok (.getfield 64, 3) := by decide +kernel
theorem dX10_dayByDay_32 : decode cX10_dayByDay 32 = .ok (.ifCond .ne 9, 3) := by decide +kernel
theorem dX10_dayByDay_35 : decode cX10_dayByDay 35 = .ok (.ldc2_w 68, 3) := by decide +kernel
theorem dX10_dayByDay_38 : decode cX10_dayByDay 38 = .ok (.goto 23, 3) := by decide +kernel
theorem dX10_dayByDay_41 : decode cX10_dayByDay 41 = .ok (.aload_n 0, 1) := by decide +kernel
theorem dX10_dayByDay_42 : decode cX10_dayByDay 42 = .ok (.aload_n 0, 1) := by decide +kernel
theorem dX10_dayByDay_43 : decode cX10_dayByDay 43 = .ok (.getfield 9, 3) := by decide +kernel
theorem dX10_dayByDay_46 : decode cX10_dayByDay 46 = .ok (.invokevirtual 45, 3) := by decide +kernel
theorem dX10_dayByDay_49 : decode cX10_dayByDay 49 = .ok (.aload_n 0, 1) := by decide +kernel
theorem dX10_dayByDay_50 : decode cX10_dayByDay 50 = .ok (.getfield 64, 3) := by decide +kernel
theorem dX10_dayByDay_53 : decode cX10_dayByDay 53 = .ok (.aload_n 0, 1) := by decide +kernel
theorem dX10_dayByDay_54 : decode cX10_dayByDay 54 = .ok (.getfield 70, 3) := by decide +kernel
theorem dX10_dayByDay_57 : decode cX10_dayByDay 57 = .ok (.invokevirtual 73, 3) := by decide +kernel
theorem dX10_dayByDay_60 : decode cX10_dayByDay 60 = .ok (.i2l, 1) := by decide +kernel
theorem dX10_dayByDay_61 : decode cX10_dayByDay 61 = .ok (.invokevirtual 76, 3) := by decide +kernel
theorem dX10_dayByDay_64 : decode cX10_dayByDay 64 = .ok (.aload_n 0, 1) := by decide +kernel
theorem dX10_dayByDay_65 : decode cX10_dayByDay 65 = .ok (.getfield 70, 3) := by decide +kernel
theorem dX10_dayByDay_68 : decode cX10_dayByDay 68 = .ok (.ireturn, 1) := by decide +kernel
set_option maxHeartbeats 4000000 in
set_option maxRecDepth 20000 in
theorem b_ta_dayByDay_b61 {X : Cx} {d : Nat} (hX : Ok M_ta_dayByDay (d + 27) X) {r : Int32 × Mem} (hr : RetI M_ta_dayByDay X r.1 r.2) (z1 : Int64) (μ : Mem) (dy : Nat → Nat) (hf : f_ta_dayByDay_b61 z1 μ = some r) : AW X 61 [(0, .ref (gA (xG X) 92))] [.long z1, .ref (gA (xG X) 2)] μ dy := by
  unfold f_ta_dayByDay_b61 at hf
  obtain ⟨μ14, h15, hf⟩ := bd1_eq hf
  refine r_callVV (Ok.le hX (by omega)) (c_rw_add (d := d)  h15) cv_X10_76 (w_2 _ _ _) rfl rfl (st := []) rfl rfl rfl dX10_dayByDay_61 (fun dy => ?_)
  refine r_aload_n hX dX10_dayByDay_64 0 rfl ?_
  refine r_get hX fl_X10_70 (w_92 _ _ _) rfl dX10_dayByDay_65 ?_
  exact fin_I hf hr _ _ _ dX10_dayByDay_68
set_option maxHeartbeats 4000000 in
set_option maxRecDepth 20000 in
theorem c_ta_dayByDay {G : Gx} {d : Nat} {x1 : Int32} {x2 : Int32} {μ : Mem} {r : Int32 × Mem} (hf : f_ta_dayByDay x1 x2 μ = some r) : Con G M_ta_dayByDay (d + 27) [.ref (gA G 92), .int x1, .int x2] μ (some (.int r.1), r.2) := by
  refine Con.ofI ⟨rfl, rfl, Nat.le_of_ble_eq_true rfl⟩ rfl rfl (fun X hG hX hr dy => ?_)
  subst hG
  show AW X 0 [(0, .ref (gA (xG X) 92)), (1, .int x1), (2, .int x2)] [] μ dy
  unfold f_ta_dayByDay at hf
  refine r_aload_n hX dX10_dayByDay_0 0 rfl ?_
  refine r_iload_n hX dX10_dayByDay_1 1 rfl ?_
  refine r_iload_n hX dX10_dayByDay_2 2 rfl ?_
  obtain ⟨v3, μ1, h2, hf⟩ := bd2_eq hf
  refine r_callVI (Ok.le hX (by omega)) (c_ta_seek (d := d)  h2) cv_X10_60 (w_92 _ _ _) rfl rfl (st := []) rfl rfl rfl dX10_dayByDay_3 (fun dy => ?_)
  refine r_if_ne hX 12 dX10_dayByDay_6 rfl (fun hc4 => ?_) (fun hc4 => ?_)
  · rw [if_neg hc4] at hf
    refine r_aload_n hX dX10_dayByDay_12 0 rfl ?_
    refine r_get hX fl_X10_23 (w_92 _ _ _) rfl dX10_dayByDay_13 ?_
    refine r_aload_n hX dX10_dayByDay_16 0 rfl ?_
    refine r_get hX fl_X10_64 (w_92 _ _ _) rfl dX10_dayByDay_17 ?_
    refine r_i2l hX dX10_dayByDay_20 ?_
    obtain ⟨μ5, h6, hf⟩ := bd1_eq hf
    refine r_callVV (Ok.le hX (by omega)) (c_rw_only (d := d)  h6) cv_X10_54 (w_2 _ _ _) rfl rfl (st := []) rfl rfl rfl dX10_dayByDay_21 (fun dy => ?_)
    refine r_aload_n hX dX10_dayByDay_24 0 rfl ?_
    refine r_get hX fl_X10_23 (w_92 _ _ _) rfl dX10_dayByDay_25 ?_
    refine r_aload_n hX dX10_dayByDay_28 0 rfl ?_
    refine r_get hX fl_X10_64 (w_92 _ _ _) rfl dX10_dayByDay_29 ?_
    refine r_if_ne hX 41 dX10_dayByDay_32 rfl (fun hc7 => ?_) (fun hc7 => ?_)
    · rw [if_neg hc7] at hf
      refine r_aload_n hX dX10_dayByDay_41 0 rfl ?_
      refine r_aload_n hX dX10_dayByDay_42 0 rfl ?_
      refine r_get hX fl_X10_9 (w_92 _ _ _) rfl dX10_dayByDay_43 ?_
      obtain ⟨v10, μ8, h9, hf⟩ := bd2_eq hf
      refine r_callVI (Ok.le hX (by omega)) (c_st_now (d := d)  h9) cv_X10_45 (w_4 _ _ _) rfl rfl (st := [.ref (gA (xG X) 92), .ref (gA (xG X) 2)]) rfl rfl rfl dX10_dayByDay_46 (fun dy => ?_)
      refine r_aload_n hX dX10_dayByDay_49 0 rfl ?_
      refine r_get hX fl_X10_64 (w_92 _ _ _) rfl dX10_dayByDay_50 ?_
      refine r_aload_n hX dX10_dayByDay_53 0 rfl ?_
      refine r_get hX fl_X10_70 (w_92 _ _ _) rfl dX10_dayByDay_54 ?_
      obtain ⟨v13, μ11, h12, hf⟩ := bd2_eq hf
      refine r_callVI (Ok.le hX (by omega)) (c_ta_whomFirst (d := d)  h12) cv_X10_73 (w_92 _ _ _) rfl rfl (st := [.ref (gA (xG X) 2)]) rfl rfl rfl dX10_dayByDay_57 (fun dy => ?_)
      refine r_i2l hX dX10_dayByDay_60 ?_
      refine r_weak [0] rfl ?_
      exact b_ta_dayByDay_b61 hX hr _ _ _ hf
    · rw [if_pos hc7] at hf
      refine r_ldc2 hX dX10_dayByDay_35 kc_X10_68 ?_
      refine r_goto hX 61 dX10_dayByDay_38 rfl ?_
      refine r_weak [0] rfl ?_
      exact b_ta_dayByDay_b61 hX hr _ _ _ hf
  · rw [if_pos hc4] at hf
    refine r_bipush hX (-2 : Int32) dX10_dayByDay_9 rfl ?_
    exact fin_I hf hr _ _ _ dX10_dayByDay_11
theorem dX10_wholePlan_0 : decode cX10_wholePlan 0 = .ok (.aload_n 0, 1) := by decide +kernel
theorem dX10_wholePlan_1 : decode cX10_wholePlan 1 = .ok (.iload_n 1, 1) := by decide +kernel
theorem dX10_wholePlan_2 : decode cX10_wholePlan 2 = .ok (.iload_n 2, 1) := by decide +kernel
theorem dX10_wholePlan_3 : decode cX10_wholePlan 3 = .ok (.invokevirtual 60, 3) := by decide +kernel
theorem dX10_wholePlan_6 : decode cX10_wholePlan 6 = .ok (.ifCond .ne 6, 3) := by decide +kernel
theorem dX10_wholePlan_9 : decode cX10_wholePlan 9 = .ok (.bipush (-2), 2) := by decide +kernel
theorem dX10_wholePlan_11 : decode cX10_wholePlan 11 = .ok (.ireturn, 1) := by decide +kernel
theorem dX10_wholePlan_12 : decode cX10_wholePlan 12 = .ok (.aload_n 0, 1) := by decide +kernel
theorem dX10_wholePlan_13 : decode cX10_wholePlan 13 = .ok (.getfield 23, 3) := by decide +kernel
theorem dX10_wholePlan_16 : decode cX10_wholePlan 16 = .ok (.invokevirtual 79, 3) := by decide +kernel
theorem dX10_wholePlan_19 : decode cX10_wholePlan 19 = .ok (.aload_n 0, 1) := by decide +kernel
theorem dX10_wholePlan_20 : decode cX10_wholePlan 20 = .ok (.getfield 9, 3) := by decide +kernel
theorem dX10_wholePlan_23 : decode cX10_wholePlan 23 = .ok (.invokevirtual 45, 3) := by decide +kernel
theorem dX10_wholePlan_26 : decode cX10_wholePlan 26 = .ok (.istore_n 3, 1) := by decide +kernel
theorem dX10_wholePlan_27 : decode cX10_wholePlan 27 = .ok (.aload_n 0, 1) := by decide +kernel
theorem dX10_wholePlan_28 : decode cX10_wholePlan 28 = .ok (.getfield 70, 3) := by decide +kernel
theorem dX10_wholePlan_31 : decode cX10_wholePlan 31 = .ok (.istore 4, 2) := by decide +kernel
theorem dX10_wholePlan_33 : decode cX10_wholePlan 33 = .ok (.aload_n 0, 1) := by decide +kernel
theorem dX10_wholePlan_34 : decode cX10_wholePlan 34 = .ok (.getfield 64, 3) := by decide +kernel
theorem dX10_wholePlan_37 : decode cX10_wholePlan 37 = .ok (.istore 5, 2) := by decide +kernel
theorem dX10_wholePlan_39 : decode cX10_wholePlan 39 = .ok (.iload 5, 2) := by decide +kernel
theorem dX10_wholePlan_41 : decode cX10_wholePlan 41 = .ok (.ifCond .le 67, 3) := by decide +kernel
theorem dX10_wholePlan_44 : decode cX10_wholePlan 44 = .ok (.aload_n 0, 1) := by decide +kernel
theorem dX10_wholePlan_45 : decode cX10_wholePlan 45 = .ok (.iload_n 3, 1) := by decide +kernel
theorem dX10_wholePlan_46 : decode cX10_wholePlan 46 = .ok (.iload 5, 2) := by decide +kernel
theorem dX10_wholePlan_48 : decode cX10_wholePlan 48 = .ok (.iload 4, 2) := by decide +kernel
theorem dX10_wholePlan_50 : decode cX10_wholePlan 50 = .ok (.invokevirtual 73, 3) := by decide +kernel
theorem dX10_wholePlan_53 : decode cX10_wholePlan 53 = .ok (.istore 6, 2) := by decide +kernel
theorem dX10_wholePlan_55 : decode cX10_wholePlan 55 = .ok (.aload_n 0, 1) := by decide +kernel
theorem dX10_wholePlan_56 : decode cX10_wholePlan 56 = .ok (.getfield 23, 3) := by decide +kernel
theorem dX10_wholePlan_59 : decode cX10_wholePlan 59 = .ok (.iload 6, 2) := by decide +kernel
theorem dX10_wholePlan_61 : decode cX10_wholePlan 61 = .ok (.i2l, 1) := by decide +kernel
theorem dX10_wholePlan_62 : decode cX10_wholePlan 62 = .ok (.invokevirtual 76, 3) := by decide +kernel
theorem dX10_wholePlan_65 : decode cX10_wholePlan 65 = .ok (.iload 6, 2) := by decide +kernel
theorem dX10_wholePlan_67 : decode cX10_wholePlan 67 = .ok (.iconst (-1), 1) := by decide +kernel
theorem dX10_wholePlan_68 : decode cX10_wholePlan 68 = .ok (.if_icmp .eq 25, 3) := by decide +kernel
theorem dX10_wholePlan_71 : decode cX10_wholePlan 71 = .ok (.iload 4, 2) := by decide +kernel
theorem dX10_wholePlan_73 : decode cX10_wholePlan 73 = .ok (.aload_n 0, 1) := by decide +kernel
theorem dX10_wholePlan_74 : decode cX10_wholePlan 74 = .ok (.getfield 9, 3) := by decide +kernel
theorem dX10_wholePlan_77 : decode cX10_wholePlan 77 = .ok (.getfield 82, 3) := by decide +kernel
theorem dX10_wholePlan_80 : decode cX10_wholePlan 80 = .ok (.iload 6, 2) := by decide +kernel
theorem dX10_wholePlan_82 : decode cX10_wholePlan 82 = .ok (.iaload, 1) := by decide +kernel
theorem dX10_wholePlan_83 : decode cX10_wholePlan 83 = .ok (.isub, 1) := by decide +kernel
theorem dX10_wholePlan_84 : decode cX10_wholePlan 84 = .ok (.istore 4, 2) := by decide +kernel
theorem dX10_wholePlan_86 : decode cX10_wholePlan 86 = .ok (.iload_n 3, 1) := by decide +kernel
theorem dX10_wholePlan_87 : decode cX10_wholePlan 87 = .ok (.iconst 1, 1) := by decide +kernel
theorem dX10_wholePlan_88 : decode cX10_wholePlan 88 = .ok (.iload 6, 2) := by decide +kernel
theorem dX10_wholePlan_90 : decode cX10_wholePlan 90 = .ok (.ishl, 1) := by decide +kernel
theorem dX10_wholePlan_91 : decode cX10_wholePlan 91 = .ok (.ior, 1) := by decide +kernel
theorem dX10_wholePlan_92 : decode cX10_wholePlan 92 = .ok (.istore_n 3, 1) := by decide +kernel
theorem dX10_wholePlan_93 : decode cX10_wholePlan 93 = .ok (.aload_n 0, 1) := by decide +kernel
theorem dX10_wholePlan_94 : decode cX10_wholePlan 94 = .ok (.getfield 15, 3) := by decide +kernel
theorem dX10_wholePlan_97 : decode cX10_wholePlan 97 = .ok (.iload_n 3, 1) := by decide +kernel
theorem dX10_wholePlan_98 : decode cX10_wholePlan 98 = .ok (.invokevirtual 86, 3) := by decide +kernel
theorem dX10_wholePlan_101 : decode cX10_wholePlan 101 = .ok (.istore_n 3, 1) := by decide +kernel
theorem dX10_wholePlan_102 : decode cX10_wholePlan 102 = .ok (.iinc 5 (-1), 3) := by decide +kernel
theorem dX10_wholePlan_105 : decode cX10_wholePlan 105 = .ok (.goto (-66), 3) := by decide +kernel
theorem dX10_wholePlan_108 : decode cX10_wholePlan 108 = .ok (.aload_n 0, 1) := by decide +kernel
theorem dX10_wholePlan_109 : decode cX10_wholePlan 109 = .ok (.getfield 64, 3) := by decide +kernel
theorem dX10_wholePlan_112 : decode cX10_wholePlan 112 = .ok (.ireturn, 1) := by decide +kernel
set_option maxHeartbeats 4000000 in
set_option maxRecDepth 20000 in
theorem b_ta_wholePlan_b93 {X : Cx} {d : Nat} (hX : Ok M_ta_wholePlan (d + 27) X) {r : Int32 × Mem} (hr : RetI M_ta_wholePlan X r.1 r.2) {k39 : Int32 → Int32 → Int32 → Mem → Option (Int32 × Mem)} (hk39 : ∀ (x3 : Int32) (x4 : Int32) (x5 : Int32) (μ : Mem) (dy : Nat → Nat), k39 x3 x4 x5 μ = some r → AW X 39 [(0, .ref (gA (xG X) 92)), (3, .int x3), (4, .int x4), (5, .int x5)] [] μ dy) (x3 : Int32) (x4 : Int32) (x5 : Int32) (μ : Mem) (dy : Nat → Nat) (hf : f_ta_wholePlan_b93 k39 x3 x4 x5 μ = some r) : AW X 93 [(0, .ref (gA (xG X) 92)), (3, .int x3), (4, .int x4), (5, .int x5)] [] μ dy := by
  unfold f_ta_wholePlan_b93 at hf
  refine r_aload_n hX dX10_wholePlan_93 0 rfl ?_
  refine r_get hX fl_X10_15 (w_92 _ _ _) rfl dX10_wholePlan_94 ?_
  refine r_iload_n hX dX10_wholePlan_97 1 rfl ?_
  obtain ⟨v19, μ17, h18, hf⟩ := bd2_eq hf
  refine r_callVI (Ok.le hX (by omega)) (c_he_after (d := d) (by decide) h18) cv_X10_86 (w_80 _ _ _) rfl rfl (st := []) rfl rfl rfl dX10_wholePlan_98 (fun dy => ?_)
  refine r_istore_n hX dX10_wholePlan_101 rfl (ls' := [(3, .int v19), (0, .ref (gA (xG X) 92)), (4, .int x4), (5, .int x5)]) rfl ?_
  refine r_iinc hX (x5 + (-1 : Int32)) dX10_wholePlan_102 3 rfl rfl rfl (ls' := [(5, .int (x5 + (-1 : Int32))), (3, .int v19), (0, .ref (gA (xG X) 92)), (4, .int x4)]) rfl ?_
  refine r_goto hX 39 dX10_wholePlan_105 rfl ?_
  refine r_weak [2, 1, 3, 0] rfl ?_
  exact hk39 _ _ _ _ _ hf
set_option maxHeartbeats 4000000 in
set_option maxRecDepth 20000 in
theorem b_ta_wholePlan_b39 {X : Cx} {d : Nat} (hX : Ok M_ta_wholePlan (d + 27) X) {r : Int32 × Mem} (hr : RetI M_ta_wholePlan X r.1 r.2) : ∀ (n : Nat) (x3 : Int32) (x4 : Int32) (x5 : Int32) (μ : Mem) (dy : Nat → Nat), f_ta_wholePlan_b39 n x3 x4 x5 μ = some r → AW X 39 [(0, .ref (gA (xG X) 92)), (3, .int x3), (4, .int x4), (5, .int x5)] [] μ dy := by
  intro n
  induction n with
  | zero => intro x3 x4 x5 μ dy hf; exact nomatch hf
  | succ n ih =>
    intro x3 x4 x5 μ dy hf
    rw [f_ta_wholePlan_b39] at hf
    refine r_iload hX dX10_wholePlan_39 3 rfl ?_
    refine r_if_le hX 108 dX10_wholePlan_41 rfl (fun hc10 => ?_) (fun hc10 => ?_)
    · rw [if_pos hc10] at hf
      refine r_aload_n hX dX10_wholePlan_108 0 rfl ?_
      refine r_get hX fl_X10_64 (w_92 _ _ _) rfl dX10_wholePlan_109 ?_
      exact fin_I hf hr _ _ _ dX10_wholePlan_112
    · rw [if_neg hc10] at hf
      refine r_aload_n hX dX10_wholePlan_44 0 rfl ?_
      refine r_iload_n hX dX10_wholePlan_45 1 rfl ?_
      refine r_iload hX dX10_wholePlan_46 3 rfl ?_
      refine r_iload hX dX10_wholePlan_48 2 rfl ?_
      obtain ⟨v13, μ11, h12, hf⟩ := bd2_eq hf
      refine r_callVI (Ok.le hX (by omega)) (c_ta_whomFirst (d := d)  h12) cv_X10_73 (w_92 _ _ _) rfl rfl (st := []) rfl rfl rfl dX10_wholePlan_50 (fun dy => ?_)
      refine r_istore hX dX10_wholePlan_53 rfl (ls' := [(6, .int v13), (0, .ref (gA (xG X) 92)), (3, .int x3), (4, .int x4), (5, .int x5)]) rfl ?_
      refine r_aload_n hX dX10_wholePlan_55 1 rfl ?_
      refine r_get hX fl_X10_23 (w_92 _ _ _) rfl dX10_wholePlan_56 ?_
      refine r_iload hX dX10_wholePlan_59 0 rfl ?_
      refine r_i2l hX dX10_wholePlan_61 ?_
      obtain ⟨μ14, h15, hf⟩ := bd1_eq hf
      refine r_callVV (Ok.le hX (by omega)) (c_rw_add (d := d)  h15) cv_X10_76 (w_2 _ _ _) rfl rfl (st := []) rfl rfl rfl dX10_wholePlan_62 (fun dy => ?_)
      refine r_iload hX dX10_wholePlan_65 0 rfl ?_
      refine r_iconst hX (-1 : Int32) dX10_wholePlan_67 rfl ?_
      refine r_icmp_eq hX 93 dX10_wholePlan_68 rfl (fun hc16 => ?_) (fun hc16 => ?_)
      · rw [if_pos hc16] at hf
        refine r_weak [1, 2, 3, 4] rfl ?_
        exact b_ta_wholePlan_b93 hX hr ih _ _ _ _ _ hf
      · rw [if_neg hc16] at hf
        refine r_iload hX dX10_wholePlan_71 3 rfl ?_
        refine r_aload_n hX dX10_wholePlan_73 1 rfl ?_
        refine r_get hX fl_X10_9 (w_92 _ _ _) rfl dX10_wholePlan_74 ?_
        refine r_getN hX fl_X10_82 (w_4 _ _ _) rfl dX10_wholePlan_77 ?_
        refine r_iload hX dX10_wholePlan_80 0 rfl ?_
        obtain ⟨b20, hf⟩ := chk_eq hf
        refine r_iald hX (w_6 _ _ _) (inb_in b20) dX10_wholePlan_82 ?_
        refine r_isub hX dX10_wholePlan_83 ?_
        obtain ⟨v21, e22, hf⟩ := bnd_eq hf
        refine r_topI e22 ?_
        refine r_istore hX dX10_wholePlan_84 rfl (ls' := [(4, .int v21), (6, .int v13), (0, .ref (gA (xG X) 92)), (3, .int x3), (5, .int x5)]) rfl ?_
        refine r_iload_n hX dX10_wholePlan_86 3 rfl ?_
        refine r_iconst hX (1 : Int32) dX10_wholePlan_87 rfl ?_
        refine r_iload hX dX10_wholePlan_88 1 rfl ?_
        refine r_ishl hX dX10_wholePlan_90 ?_
        refine r_ior hX dX10_wholePlan_91 ?_
        obtain ⟨v23, e24, hf⟩ := bnd_eq hf
        refine r_topI e24 ?_
        refine r_istore_n hX dX10_wholePlan_92 rfl (ls' := [(3, .int v23), (4, .int v21), (6, .int v13), (0, .ref (gA (xG X) 92)), (5, .int x5)]) rfl ?_
        refine r_weak [3, 0, 1, 4] rfl ?_
        exact b_ta_wholePlan_b93 hX hr ih _ _ _ _ _ hf
set_option maxHeartbeats 4000000 in
set_option maxRecDepth 20000 in
theorem c_ta_wholePlan {G : Gx} {d : Nat} {x1 : Int32} {x2 : Int32} {μ : Mem} {r : Int32 × Mem} (hf : f_ta_wholePlan x1 x2 μ = some r) : Con G M_ta_wholePlan (d + 27) [.ref (gA G 92), .int x1, .int x2] μ (some (.int r.1), r.2) := by
  refine Con.ofI ⟨rfl, rfl, Nat.le_of_ble_eq_true rfl⟩ rfl rfl (fun X hG hX hr dy => ?_)
  subst hG
  show AW X 0 [(0, .ref (gA (xG X) 92)), (1, .int x1), (2, .int x2)] [] μ dy
  unfold f_ta_wholePlan at hf
  refine r_aload_n hX dX10_wholePlan_0 0 rfl ?_
  refine r_iload_n hX dX10_wholePlan_1 1 rfl ?_
  refine r_iload_n hX dX10_wholePlan_2 2 rfl ?_
  obtain ⟨v3, μ1, h2, hf⟩ := bd2_eq hf
  refine r_callVI (Ok.le hX (by omega)) (c_ta_seek (d := d)  h2) cv_X10_60 (w_92 _ _ _) rfl rfl (st := []) rfl rfl rfl dX10_wholePlan_3 (fun dy => ?_)
  refine r_if_ne hX 12 dX10_wholePlan_6 rfl (fun hc4 => ?_) (fun hc4 => ?_)
  · rw [if_neg hc4] at hf
    refine r_aload_n hX dX10_wholePlan_12 0 rfl ?_
    refine r_get hX fl_X10_23 (w_92 _ _ _) rfl dX10_wholePlan_13 ?_
    obtain ⟨μ5, h6, hf⟩ := bd1_eq hf
    refine r_callVV (Ok.le hX (by omega)) (c_rw_clear (d := d)  h6) cv_X10_79 (w_2 _ _ _) rfl rfl (st := []) rfl rfl rfl dX10_wholePlan_16 (fun dy => ?_)
    refine r_aload_n hX dX10_wholePlan_19 0 rfl ?_
    refine r_get hX fl_X10_9 (w_92 _ _ _) rfl dX10_wholePlan_20 ?_
    obtain ⟨v9, μ7, h8, hf⟩ := bd2_eq hf
    refine r_callVI (Ok.le hX (by omega)) (c_st_now (d := d)  h8) cv_X10_45 (w_4 _ _ _) rfl rfl (st := []) rfl rfl rfl dX10_wholePlan_23 (fun dy => ?_)
    refine r_istore_n hX dX10_wholePlan_26 rfl (ls' := [(3, .int v9), (0, .ref (gA (xG X) 92)), (1, .int x1), (2, .int x2)]) rfl ?_
    refine r_aload_n hX dX10_wholePlan_27 1 rfl ?_
    refine r_get hX fl_X10_70 (w_92 _ _ _) rfl dX10_wholePlan_28 ?_
    refine r_istore hX dX10_wholePlan_31 rfl (ls' := [(4, .int (μ7.1 v_ta_sum 0)), (3, .int v9), (0, .ref (gA (xG X) 92)), (1, .int x1), (2, .int x2)]) rfl ?_
    refine r_aload_n hX dX10_wholePlan_33 2 rfl ?_
    refine r_get hX fl_X10_64 (w_92 _ _ _) rfl dX10_wholePlan_34 ?_
    refine r_istore hX dX10_wholePlan_37 rfl (ls' := [(5, .int (μ7.1 v_ta_soonest 0)), (4, .int (μ7.1 v_ta_sum 0)), (3, .int v9), (0, .ref (gA (xG X) 92)), (1, .int x1), (2, .int x2)]) rfl ?_
    refine r_weak [3, 2, 1, 0] rfl ?_
    exact b_ta_wholePlan_b39 hX hr FU _ _ _ _ _ hf
  · rw [if_pos hc4] at hf
    refine r_bipush hX (-2 : Int32) dX10_wholePlan_9 rfl ?_
    exact fin_I hf hr _ _ _ dX10_wholePlan_11
theorem dJ6_lowestOneBit_0f7a4_0 : decode cJ6_lowestOneBit_0f7a4 0 = .ok (.iload_n 0, 1) := by decide +kernel
theorem dJ6_lowestOneBit_0f7a4_1 : decode cJ6_lowestOneBit_0f7a4 1 = .ok (.iload_n 0, 1) := by decide +kernel
theorem dJ6_lowestOneBit_0f7a4_2 : decode cJ6_lowestOneBit_0f7a4 2 = .ok (.ineg, 1) := by decide +kernel
theorem dJ6_lowestOneBit_0f7a4_3 : decode cJ6_lowestOneBit_0f7a4 3 = .ok (.iand, 1) := by decide +kernel
theorem dJ6_lowestOneBit_0f7a4_4 : decode cJ6_lowestOneBit_0f7a4 4 = .ok (.ireturn, 1) := by decide +kernel
set_option maxHeartbeats 4000000 in
set_option maxRecDepth 20000 in
theorem c_jd_lowestOneBit {G : Gx} {d : Nat} {x0 : Int32} {μ : Mem} {r : Int32 × Mem} (hf : f_jd_lowestOneBit x0 μ = some r) : Con G M_jd_lowestOneBit (d + 0) [.int x0] μ (some (.int r.1), r.2) := by
  refine Con.ofI ⟨rfl, rfl, Nat.le_of_ble_eq_true rfl⟩ rfl rfl (fun X hG hX hr dy => ?_)
  subst hG
  show AW X 0 [(0, .int x0)] [] μ dy
  unfold f_jd_lowestOneBit at hf
  refine r_iload_n hX dJ6_lowestOneBit_0f7a4_0 0 rfl ?_
  refine r_iload_n hX dJ6_lowestOneBit_0f7a4_1 0 rfl ?_
  refine r_ineg hX dJ6_lowestOneBit_0f7a4_2 ?_
  refine r_iand hX dJ6_lowestOneBit_0f7a4_3 ?_
  exact fin_I hf hr _ _ _ dJ6_lowestOneBit_0f7a4_4
theorem dX10_keepFrom_0 : decode cX10_keepFrom 0 = .ok (.iload_n 1, 1) := by decide +kernel
theorem dX10_keepFrom_1 : decode cX10_keepFrom 1 = .ok (.aload_n 0, 1) := by decide +kernel
theorem dX10_keepFrom_2 : decode cX10_keepFrom 2 = .ok (.getfield 9, 3) := by decide +kernel
theorem dX10_keepFrom_5 : decode cX10_keepFrom 5 = .ok (.invokevirtual 45, 3) := by decide +kernel
theorem dX10_keepFrom_8 : decode cX10_keepFrom 8 = .ok (.iconst (-1), 1) := by decide +kernel
theorem dX10_keepFrom_9 : decode cX10_keepFrom 9 = .ok (.ixor, 1) := by decide +kernel
theorem dX10_keepFrom_10 : decode cX10_keepFrom 10 = .ok (.iand, 1) := by decide +kernel
theorem dX10_keepFrom_11 : decode cX10_keepFrom 11 = .ok (.istore_n 2, 1) := by decide +kernel
theorem dX10_keepFrom_12 : decode cX10_keepFrom 12 = .ok (.iload_n 2, 1) := by decide +kernel
theorem dX10_keepFrom_13 : decode cX10_keepFrom 13 = .ok (.ifCond .ne 6, 3) := by decide +kernel
theorem dX10_keepFrom_16 : decode cX10_keepFrom 16 = .ok (.bipush (-2), 2) := by decide +kernel
theorem dX10_keepFrom_18 : decode cX10_keepFrom 18 = .ok (.ireturn, 1) := by decide +kernel
theorem dX10_keepFrom_19 : decode cX10_keepFrom 19 = .ok (.iload_n 2, 1) := by decide +kernel
theorem dX10_keepFrom_20 : decode cX10_keepFrom 20 = .ok (.aload_n 0, 1) := by decide +kernel
theorem dX10_keepFrom_21 : decode cX10_keepFrom 21 = .ok (.getfield 9, 3) := by decide +kernel
theorem dX10_keepFrom_24 : decode cX10_keepFrom 24 = .ok (.getfield 108, 3) := by decide +kernel
theorem dX10_keepFrom_27 : decode cX10_keepFrom 27 = .ok (.iand, 1) := by decide +kernel
theorem dX10_keepFrom_28 : decode cX10_keepFrom 28 = .ok (.ifCond .eq 13, 3) := by decide +kernel
theorem dX10_keepFrom_31 : decode cX10_keepFrom 31 = .ok (.aload_n 0, 1) := by decide +kernel
theorem dX10_keepFrom_32 : decode cX10_keepFrom 32 = .ok (.getfield 23, 3) := by decide +kernel
theorem dX10_keepFrom_35 : decode cX10_keepFrom 35 = .ok (.lconst 0, 1) := by decide +kernel
theorem dX10_keepFrom_36 : decode cX10_keepFrom 36 = .ok (.invokevirtual 54, 3) := by decide +kernel
theorem dX10_keepFrom_39 : decode cX10_keepFrom 39 = .ok (.iconst 0, 1) := by decide +kernel
theorem dX10_keepFrom_40 : decode cX10_keepFrom 40 = .ok (.ireturn, 1) := by decide +kernel
theorem dX10_keepFrom_41 : decode cX10_keepFrom 41 = .ok (.aload_n 0, 1) := by decide +kernel
theorem dX10_keepFrom_42 : decode cX10_keepFrom 42 = .ok (.getfield 23, 3) := by decide +kernel
theorem dX10_keepFrom_45 : decode cX10_keepFrom 45 = .ok (.iload_n 2, 1) := by decide +kernel
theorem dX10_keepFrom_46 : decode cX10_keepFrom 46 = .ok (.invokestatic 123, 3) := by decide +kernel
theorem dX10_keepFrom_49 : decode cX10_keepFrom 49 = .ok (.i2l, 1) := by decide +kernel
theorem dX10_keepFrom_50 : decode cX10_keepFrom 50 = .ok (.invokevirtual 54, 3) := by decide +kernel
theorem dX10_keepFrom_53 : decode cX10_keepFrom 53 = .ok (.iconst 1, 1) := by decide +kernel
theorem dX10_keepFrom_54 : decode cX10_keepFrom 54 = .ok (.ireturn, 1) := by decide +kernel
set_option maxHeartbeats 4000000 in
set_option maxRecDepth 20000 in
theorem c_ta_keepFrom {G : Gx} {d : Nat} {x1 : Int32} {μ : Mem} {r : Int32 × Mem} (hf : f_ta_keepFrom x1 μ = some r) : Con G M_ta_keepFrom (d + 2) [.ref (gA G 92), .int x1] μ (some (.int r.1), r.2) := by
  refine Con.ofI ⟨rfl, rfl, Nat.le_of_ble_eq_true rfl⟩ rfl rfl (fun X hG hX hr dy => ?_)
  subst hG
  show AW X 0 [(0, .ref (gA (xG X) 92)), (1, .int x1)] [] μ dy
  unfold f_ta_keepFrom at hf
  refine r_iload_n hX dX10_keepFrom_0 1 rfl ?_
  refine r_aload_n hX dX10_keepFrom_1 0 rfl ?_
  refine r_get hX fl_X10_9 (w_92 _ _ _) rfl dX10_keepFrom_2 ?_
  obtain ⟨v3, μ1, h2, hf⟩ := bd2_eq hf
  refine r_callVI (Ok.le hX (by omega)) (c_st_now (d := d)  h2) cv_X10_45 (w_4 _ _ _) rfl rfl (st := [.int x1]) rfl rfl rfl dX10_keepFrom_5 (fun dy => ?_)
  refine r_iconst hX (-1 : Int32) dX10_keepFrom_8 rfl ?_
  refine r_ixor hX dX10_keepFrom_9 ?_
  refine r_iand hX dX10_keepFrom_10 ?_
  refine r_istore_n hX dX10_keepFrom_11 rfl (ls' := [(2, .int (x1 &&& (v3 ^^^ (-1 : Int32)))), (0, .ref (gA (xG X) 92)), (1, .int x1)]) rfl ?_
  refine r_iload_n hX dX10_keepFrom_12 0 rfl ?_
  refine r_if_ne hX 19 dX10_keepFrom_13 rfl (fun hc4 => ?_) (fun hc4 => ?_)
  · rw [if_neg hc4] at hf
    refine r_iload_n hX dX10_keepFrom_19 0 rfl ?_
    refine r_aload_n hX dX10_keepFrom_20 1 rfl ?_
    refine r_get hX fl_X10_9 (w_92 _ _ _) rfl dX10_keepFrom_21 ?_
    refine r_getN hX fl_X10_108 (w_4 _ _ _) rfl dX10_keepFrom_24 ?_
    refine r_iand hX dX10_keepFrom_27 ?_
    refine r_if_eq hX 41 dX10_keepFrom_28 rfl (fun hc5 => ?_) (fun hc5 => ?_)
    · rw [if_pos hc5] at hf
      refine r_aload_n hX dX10_keepFrom_41 1 rfl ?_
      refine r_get hX fl_X10_23 (w_92 _ _ _) rfl dX10_keepFrom_42 ?_
      refine r_iload_n hX dX10_keepFrom_45 0 rfl ?_
      obtain ⟨v8, μ6, h7, hf⟩ := bd2_eq hf
      refine r_callSI (Ok.le hX (by omega)) (c_jd_lowestOneBit (d := d)  h7) cs_X10_123 (st := [.ref (gA (xG X) 2)]) rfl rfl rfl dX10_keepFrom_46 (fun dy => ?_)
      refine r_i2l hX dX10_keepFrom_49 ?_
      obtain ⟨μ9, h10, hf⟩ := bd1_eq hf
      refine r_callVV (Ok.le hX (by omega)) (c_rw_only (d := d)  h10) cv_X10_54 (w_2 _ _ _) rfl rfl (st := []) rfl rfl rfl dX10_keepFrom_50 (fun dy => ?_)
      refine r_iconst hX (1 : Int32) dX10_keepFrom_53 rfl ?_
      exact fin_I hf hr _ _ _ dX10_keepFrom_54
    · rw [if_neg hc5] at hf
      refine r_aload_n hX dX10_keepFrom_31 1 rfl ?_
      refine r_get hX fl_X10_23 (w_92 _ _ _) rfl dX10_keepFrom_32 ?_
      refine r_lconst hX (0 : Int64) dX10_keepFrom_35 rfl ?_
      obtain ⟨μ11, h12, hf⟩ := bd1_eq hf
      refine r_callVV (Ok.le hX (by omega)) (c_rw_only (d := d)  h12) cv_X10_54 (w_2 _ _ _) rfl rfl (st := []) rfl rfl rfl dX10_keepFrom_36 (fun dy => ?_)
      refine r_iconst hX (0 : Int32) dX10_keepFrom_39 rfl ?_
      exact fin_I hf hr _ _ _ dX10_keepFrom_40
  · rw [if_pos hc4] at hf
    refine r_bipush hX (-2 : Int32) dX10_keepFrom_16 rfl ?_
    exact fin_I hf hr _ _ _ dX10_keepFrom_18
theorem dX10_lost_0 : decode cX10_lost 0 = .ok (.aload_n 0, 1) := by decide +kernel
theorem dX10_lost_1 : decode cX10_lost 1 = .ok (.getfield 9, 3) := by decide +kernel
theorem dX10_lost_4 : decode cX10_lost 4 = .ok (.invokevirtual 33, 3) := by decide +kernel
theorem dX10_lost_7 : decode cX10_lost 7 = .ok (.aload_n 0, 1) := by decide +kernel
theorem dX10_lost_8 : decode cX10_lost 8 = .ok (.getfield 9, 3) := by decide +kernel
theorem dX10_lost_11 : decode cX10_lost 11 = .ok (.getfield 108, 3) := by decide +kernel
theorem dX10_lost_14 : decode cX10_lost 14 = .ok (.iconst (-1), 1) := by decide +kernel
theorem dX10_lost_15 : decode cX10_lost 15 = .ok (.ixor, 1) := by decide +kernel
theorem dX10_lost_16 : decode cX10_lost 16 = .ok (.iand, 1) := by decide +kernel
theorem dX10_lost_17 : decode cX10_lost 17 = .ok (.iload_n 1, 1) := by decide +kernel
theorem dX10_lost_18 : decode cX10_lost 18 = .ok (.iconst (-1), 1) := by decide +kernel
theorem dX10_lost_19 : decode cX10_lost 19 = .ok (.ixor, 1) := by decide +kernel
theorem dX10_lost_20 : decode cX10_lost 20 = .ok (.iand, 1) := by decide +kernel
theorem dX10_lost_21 : decode cX10_lost 21 = .ok (.istore_n 2, 1) := by decide +kernel
theorem dX10_lost_22 : decode cX10_lost 22 = .ok (.iload_n 1, 1) := by decide +kernel
theorem dX10_lost_23 : decode cX10_lost 23 = .ok (.aload_n 0, 1) := by decide +kernel
theorem dX10_lost_24 : decode cX10_lost 24 = .ok (.getfield 15, 3) := by decide +kernel
theorem dX10_lost_27 : decode cX10_lost 27 = .ok (.iload_n 2, 1) := by decide +kernel
theorem dX10_lost_28 : decode cX10_lost 28 = .ok (.aload_n 0, 1) := by decide +kernel
theorem dX10_lost_29 : decode cX10_lost 29 = .ok (.getfield 9, 3) := by decide +kernel
theorem dX10_lost_32 : decode cX10_lost 32 = .ok (.invokevirtual 45, 3) := by decide +kernel
theorem dX10_lost_35 : decode cX10_lost 35 = .ok (.aload_n 0, 1) := by decide +kernel
theorem dX10_lost_36 : decode cX10_lost 36 = .ok (.getfield 9, 3) := by decide +kernel
theorem dX10_lost_39 : decode cX10_lost 39 = .ok (.getfield 108, 3) := by decide +kernel
theorem dX10_lost_42 : decode cX10_lost 42 = .ok (.iand, 1) := by decide +kernel
theorem dX10_lost_43 : decode cX10_lost 43 = .ok (.ior, 1) := by decide +kernel
theorem dX10_lost_44 : decode cX10_lost 44 = .ok (.invokevirtual 86, 3) := by decide +kernel
theorem dX10_lost_47 : decode cX10_lost 47 = .ok (.iand, 1) := by decide +kernel
theorem dX10_lost_48 : decode cX10_lost 48 = .ok (.ireturn, 1) := by decide +kernel
set_option maxHeartbeats 4000000 in
set_option maxRecDepth 20000 in
theorem c_ta_lost {G : Gx} {d : Nat} {x1 : Int32} {μ : Mem} {r : Int32 × Mem} (hf : f_ta_lost x1 μ = some r) : Con G M_ta_lost (d + 3) [.ref (gA G 92), .int x1] μ (some (.int r.1), r.2) := by
  refine Con.ofI ⟨rfl, rfl, Nat.le_of_ble_eq_true rfl⟩ rfl rfl (fun X hG hX hr dy => ?_)
  subst hG
  show AW X 0 [(0, .ref (gA (xG X) 92)), (1, .int x1)] [] μ dy
  unfold f_ta_lost at hf
  refine r_aload_n hX dX10_lost_0 0 rfl ?_
  refine r_get hX fl_X10_9 (w_92 _ _ _) rfl dX10_lost_1 ?_
  obtain ⟨v3, μ1, h2, hf⟩ := bd2_eq hf
  refine r_callVI (Ok.le hX (by omega)) (c_st_everybody (d := d)  h2) cv_X10_33 (w_4 _ _ _) rfl rfl (st := []) rfl rfl rfl dX10_lost_4 (fun dy => ?_)
  refine r_aload_n hX dX10_lost_7 0 rfl ?_
  refine r_get hX fl_X10_9 (w_92 _ _ _) rfl dX10_lost_8 ?_
  refine r_getN hX fl_X10_108 (w_4 _ _ _) rfl dX10_lost_11 ?_
  refine r_iconst hX (-1 : Int32) dX10_lost_14 rfl ?_
  refine r_ixor hX dX10_lost_15 ?_
  refine r_iand hX dX10_lost_16 ?_
  refine r_iload_n hX dX10_lost_17 1 rfl ?_
  refine r_iconst hX (-1 : Int32) dX10_lost_18 rfl ?_
  refine r_ixor hX dX10_lost_19 ?_
  refine r_iand hX dX10_lost_20 ?_
  obtain ⟨v4, e5, hf⟩ := bnd_eq hf
  refine r_topI e5 ?_
  refine r_istore_n hX dX10_lost_21 rfl (ls' := [(2, .int v4), (0, .ref (gA (xG X) 92)), (1, .int x1)]) rfl ?_
  refine r_iload_n hX dX10_lost_22 2 rfl ?_
  refine r_aload_n hX dX10_lost_23 1 rfl ?_
  refine r_get hX fl_X10_15 (w_92 _ _ _) rfl dX10_lost_24 ?_
  refine r_iload_n hX dX10_lost_27 0 rfl ?_
  refine r_aload_n hX dX10_lost_28 1 rfl ?_
  refine r_get hX fl_X10_9 (w_92 _ _ _) rfl dX10_lost_29 ?_
  obtain ⟨v8, μ6, h7, hf⟩ := bd2_eq hf
  refine r_callVI (Ok.le hX (by omega)) (c_st_now (d := d)  h7) cv_X10_45 (w_4 _ _ _) rfl rfl (st := [.int v4, .ref (gA (xG X) 80), .int x1]) rfl rfl rfl dX10_lost_32 (fun dy => ?_)
  refine r_aload_n hX dX10_lost_35 1 rfl ?_
  refine r_get hX fl_X10_9 (w_92 _ _ _) rfl dX10_lost_36 ?_
  refine r_getN hX fl_X10_108 (w_4 _ _ _) rfl dX10_lost_39 ?_
  refine r_iand hX dX10_lost_42 ?_
  refine r_ior hX dX10_lost_43 ?_
  obtain ⟨v11, μ9, h10, hf⟩ := bd2_eq hf
  refine r_callVI (Ok.le hX (by omega)) (c_he_after (d := d) (by decide) h10) cv_X10_86 (w_80 _ _ _) rfl rfl (st := [.int x1]) rfl rfl rfl dX10_lost_44 (fun dy => ?_)
  refine r_iand hX dX10_lost_47 ?_
  exact fin_I hf hr _ _ _ dX10_lost_48
theorem dX10_greatestHolding_0 : decode cX10_greatestHolding 0 = .ok (.aload_n 0, 1) := by decide +kernel
theorem dX10_greatestHolding_1 : decode cX10_greatestHolding 1 = .ok (.getfield 9, 3) := by decide +kernel
theorem dX10_greatestHolding_4 : decode cX10_greatestHolding 4 = .ok (.invokevirtual 27, 3) := by decide +kernel
theorem dX10_greatestHolding_7 : decode cX10_greatestHolding 7 = .ok (.istore_n 1, 1) := by decide +kernel
theorem dX10_greatestHolding_8 : decode cX10_greatestHolding 8 = .ok (.iconst 0, 1) := by decide +kernel
theorem dX10_greatestHolding_9 : decode cX10_greatestHolding 9 = .ok (.istore_n 2, 1) := by decide +kernel
theorem dX10_greatestHolding_10 : decode cX10_greatestHolding 10 = .ok (.iload_n 2, 1) := by decide +kernel
theorem dX10_greatestHolding_11 : decode cX10_greatestHolding 11 = .ok (.bipush 14, 2) := by decide +kernel
theorem dX10_greatestHolding_13 : decode cX10_greatestHolding 13 = .ok (.if_icmp .gt 19, 3) := by decide +kernel
theorem dX10_greatestHolding_16 : decode cX10_greatestHolding 16 = .ok (.iload_n 1, 1) := by decide +kernel
theorem dX10_greatestHolding_17 : decode cX10_greatestHolding 17 = .ok (.aload_n 0, 1) := by decide +kernel
theorem dX10_greatestHolding_18 : decode cX10_greatestHolding 18 = .ok (.iload_n 1, 1) := by decide +kernel
theorem dX10_greatestHolding_19 : decode cX10_greatestHolding 19 = .ok (.invokevirtual 126, 3) := by decide +kernel
theorem dX10_greatestHolding_22 : decode cX10_greatestHolding 22 = .ok (.iconst (-1), 1) := by decide +kernel
theorem dX10_greatestHolding_23 : decode cX10_greatestHolding 23 = .ok (.ixor, 1) := by decide +kernel
theorem dX10_greatestHolding_24 : decode cX10_greatestHolding 24 = .ok (.iand, 1) := by decide +kernel
theorem dX10_greatestHolding_25 : decode cX10_greatestHolding 25 = .ok (.istore_n 1, 1) := by decide +kernel
theorem dX10_greatestHolding_26 : decode cX10_greatestHolding 26 = .ok (.iinc 2 1, 3) := by decide +kernel
theorem dX10_greatestHolding_29 : decode cX10_greatestHolding 29 = .ok (.goto (-19), 3) := by decide +kernel
theorem dX10_greatestHolding_32 : decode cX10_greatestHolding 32 = .ok (.iload_n 1, 1) := by decide +kernel
theorem dX10_greatestHolding_33 : decode cX10_greatestHolding 33 = .ok (.ireturn, 1) := by decide +kernel
set_option maxHeartbeats 4000000 in
set_option maxRecDepth 20000 in
theorem b_ta_greatestHolding_b10 {X : Cx} {d : Nat} (hX : Ok M_ta_greatestHolding (d + 4) X) {r : Int32 × Mem} (hr : RetI M_ta_greatestHolding X r.1 r.2) : ∀ (n : Nat) (x1 : Int32) (x2 : Int32) (μ : Mem) (dy : Nat → Nat), f_ta_greatestHolding_b10 n x1 x2 μ = some r → AW X 10 [(0, .ref (gA (xG X) 92)), (1, .int x1), (2, .int x2)] [] μ dy := by
  intro n
  induction n with
  | zero => intro x1 x2 μ dy hf; exact nomatch hf
  | succ n ih =>
    intro x1 x2 μ dy hf
    rw [f_ta_greatestHolding_b10] at hf
    refine r_iload_n hX dX10_greatestHolding_10 2 rfl ?_
    refine r_bipush hX (14 : Int32) dX10_greatestHolding_11 rfl ?_
    refine r_icmp_gt hX 32 dX10_greatestHolding_13 rfl (fun hc4 => ?_) (fun hc4 => ?_)
    · rw [if_pos hc4] at hf
      refine r_iload_n hX dX10_greatestHolding_32 1 rfl ?_
      exact fin_I hf hr _ _ _ dX10_greatestHolding_33
    · rw [if_neg hc4] at hf
      refine r_iload_n hX dX10_greatestHolding_16 1 rfl ?_
      refine r_aload_n hX dX10_greatestHolding_17 0 rfl ?_
      refine r_iload_n hX dX10_greatestHolding_18 1 rfl ?_
      obtain ⟨v7, μ5, h6, hf⟩ := bd2_eq hf
      refine r_callVI (Ok.le hX (by omega)) (c_ta_lost (d := d)  h6) cv_X10_126 (w_92 _ _ _) rfl rfl (st := [.int x1]) rfl rfl rfl dX10_greatestHolding_19 (fun dy => ?_)
      refine r_iconst hX (-1 : Int32) dX10_greatestHolding_22 rfl ?_
      refine r_ixor hX dX10_greatestHolding_23 ?_
      refine r_iand hX dX10_greatestHolding_24 ?_
      refine r_istore_n hX dX10_greatestHolding_25 rfl (ls' := [(1, .int (x1 &&& (v7 ^^^ (-1 : Int32)))), (0, .ref (gA (xG X) 92)), (2, .int x2)]) rfl ?_
      refine r_iinc hX (x2 + (1 : Int32)) dX10_greatestHolding_26 2 rfl rfl rfl (ls' := [(2, .int (x2 + (1 : Int32))), (1, .int (x1 &&& (v7 ^^^ (-1 : Int32)))), (0, .ref (gA (xG X) 92))]) rfl ?_
      refine r_goto hX 10 dX10_greatestHolding_29 rfl ?_
      refine r_weak [2, 1, 0] rfl ?_
      exact ih _ _ _ _ hf
set_option maxHeartbeats 4000000 in
set_option maxRecDepth 20000 in
theorem c_ta_greatestHolding {G : Gx} {d : Nat}  {μ : Mem} {r : Int32 × Mem} (hf : f_ta_greatestHolding  μ = some r) : Con G M_ta_greatestHolding (d + 4) [.ref (gA G 92)] μ (some (.int r.1), r.2) := by
  refine Con.ofI ⟨rfl, rfl, Nat.le_of_ble_eq_true rfl⟩ rfl rfl (fun X hG hX hr dy => ?_)
  subst hG
  show AW X 0 [(0, .ref (gA (xG X) 92))] [] μ dy
  unfold f_ta_greatestHolding at hf
  refine r_aload_n hX dX10_greatestHolding_0 0 rfl ?_
  refine r_get hX fl_X10_9 (w_92 _ _ _) rfl dX10_greatestHolding_1 ?_
  obtain ⟨v3, μ1, h2, hf⟩ := bd2_eq hf
  refine r_callVI (Ok.le hX (by omega)) (c_st_openToTalk (d := d)  h2) cv_X10_27 (w_4 _ _ _) rfl rfl (st := []) rfl rfl rfl dX10_greatestHolding_4 (fun dy => ?_)
  refine r_istore_n hX dX10_greatestHolding_7 rfl (ls' := [(1, .int v3), (0, .ref (gA (xG X) 92))]) rfl ?_
  refine r_iconst hX (0 : Int32) dX10_greatestHolding_8 rfl ?_
  refine r_istore_n hX dX10_greatestHolding_9 rfl (ls' := [(2, .int (0 : Int32)), (1, .int v3), (0, .ref (gA (xG X) 92))]) rfl ?_
  refine r_weak [2, 1, 0] rfl ?_
  exact b_ta_greatestHolding_b10 hX hr FU _ _ _ _ hf
theorem dX10_smallestHolding_0 : decode cX10_smallestHolding 0 = .ok (.iconst 0, 1) := by decide +kernel
theorem dX10_smallestHolding_1 : decode cX10_smallestHolding 1 = .ok (.istore_n 3, 1) := by decide +kernel
theorem dX10_smallestHolding_2 : decode cX10_smallestHolding 2 = .ok (.bipush 15, 2) := by decide +kernel
theorem dX10_smallestHolding_4 : decode cX10_smallestHolding 4 = .ok (.istore 4, 2) := by decide +kernel
theorem dX10_smallestHolding_6 : decode cX10_smallestHolding 6 = .ok (.iconst 1, 1) := by decide +kernel
theorem dX10_smallestHolding_7 : decode cX10_smallestHolding 7 = .ok (.istore 5, 2) := by decide +kernel
theorem dX10_smallestHolding_9 : decode cX10_smallestHolding 9 = .ok (.iload 5, 2) := by decide +kernel
theorem dX10_smallestHolding_11 : decode cX10_smallestHolding 11 = .ok (.iload_n 1, 1) := by decide +kernel
theorem dX10_smallestHolding_12 : decode cX10_smallestHolding 12 = .ok (.if_icmp .gt 57, 3) := by decide +kernel
theorem dX10_smallestHolding_15 : decode cX10_smallestHolding 15 = .ok (.iload 5, 2) := by decide +kernel
theorem dX10_smallestHolding_17 : decode cX10_smallestHolding 17 = .ok (.invokestatic 36, 3) := by decide +kernel
theorem dX10_smallestHolding_20 : decode cX10_smallestHolding 20 = .ok (.istore 6, 2) := by decide +kernel
theorem dX10_smallestHolding_22 : decode cX10_smallestHolding 22 = .ok (.iload 6, 2) := by decide +kernel
theorem dX10_smallestHolding_24 : decode cX10_smallestHolding 24 = .ok (.iload 4, 2) := by decide +kernel
theorem dX10_smallestHolding_26 : decode cX10_smallestHolding 26 = .ok (.if_icmp .ge 37, 3) := by decide +kernel
theorem dX10_smallestHolding_29 : decode cX10_smallestHolding 29 = .ok (.iload 5, 2) := by decide +kernel
theorem dX10_smallestHolding_31 : decode cX10_smallestHolding 31 = .ok (.iload_n 1, 1) := by decide +kernel
theorem dX10_smallestHolding_32 : decode cX10_smallestHolding 32 = .ok (.iconst (-1), 1) := by decide +kernel
theorem dX10_smallestHolding_33 : decode cX10_smallestHolding 33 = .ok (.ixor, 1) := by decide +kernel
theorem dX10_smallestHolding_34 : decode cX10_smallestHolding 34 = .ok (.iand, 1) := by decide +kernel
theorem dX10_smallestHolding_35 : decode cX10_smallestHolding 35 = .ok (.ifCond .ne 28, 3) := by decide +kernel
theorem dX10_smallestHolding_38 : decode cX10_smallestHolding 38 = .ok (.iload_n 2, 1) := by decide +kernel
theorem dX10_smallestHolding_39 : decode cX10_smallestHolding 39 = .ok (.iload 5, 2) := by decide +kernel
theorem dX10_smallestHolding_41 : decode cX10_smallestHolding 41 = .ok (.iconst (-1), 1) := by decide +kernel
theorem dX10_smallestHolding_42 : decode cX10_smallestHolding 42 = .ok (.ixor, 1) := by decide +kernel
theorem dX10_smallestHolding_43 : decode cX10_smallestHolding 43 = .ok (.iand, 1) := by decide +kernel
theorem dX10_smallestHolding_44 : decode cX10_smallestHolding 44 = .ok (.ifCond .ne 19, 3) := by decide +kernel
theorem dX10_smallestHolding_47 : decode cX10_smallestHolding 47 = .ok (.aload_n 0, 1) := by decide +kernel
theorem dX10_smallestHolding_48 : decode cX10_smallestHolding 48 = .ok (.iload 5, 2) := by decide +kernel
theorem dX10_smallestHolding_50 : decode cX10_smallestHolding 50 = .ok (.invokevirtual 126, 3) := by decide +kernel
theorem dX10_smallestHolding_53 : decode cX10_smallestHolding 53 = .ok (.ifCond .ne 10, 3) := by decide +kernel
theorem dX10_smallestHolding_56 : decode cX10_smallestHolding 56 = .ok (.iload 5, 2) := by decide +kernel
theorem dX10_smallestHolding_58 : decode cX10_smallestHolding 58 = .ok (.istore_n 3, 1) := by decide +kernel
theorem dX10_smallestHolding_59 : decode cX10_smallestHolding 59 = .ok (.iload 6, 2) := by decide +kernel
theorem dX10_smallestHolding_61 : decode cX10_smallestHolding 61 = .ok (.istore 4, 2) := by decide +kernel
theorem dX10_smallestHolding_63 : decode cX10_smallestHolding 63 = .ok (.iinc 5 1, 3) := by decide +kernel
theorem dX10_smallestHolding_66 : decode cX10_smallestHolding 66 = .ok (.goto (-57), 3) := by decide +kernel
theorem dX10_smallestHolding_69 : decode cX10_smallestHolding 69 = .ok (.iload_n 3, 1) := by decide +kernel
theorem dX10_smallestHolding_70 : decode cX10_smallestHolding 70 = .ok (.ireturn, 1) := by decide +kernel
set_option maxHeartbeats 4000000 in
set_option maxRecDepth 20000 in
theorem b_ta_smallestHolding_b9 {X : Cx} {d : Nat} (hX : Ok M_ta_smallestHolding (d + 4) X) {r : Int32 × Mem} (hr : RetI M_ta_smallestHolding X r.1 r.2) : ∀ (n : Nat) (x1 : Int32) (x2 : Int32) (x3 : Int32) (x4 : Int32) (x5 : Int32) (μ : Mem) (dy : Nat → Nat), f_ta_smallestHolding_b9 n x1 x2 x3 x4 x5 μ = some r → AW X 9 [(0, .ref (gA (xG X) 92)), (1, .int x1), (2, .int x2), (3, .int x3), (4, .int x4), (5, .int x5)] [] μ dy := by
  intro n
  induction n with
  | zero => intro x1 x2 x3 x4 x5 μ dy hf; exact nomatch hf
  | succ n ih =>
    intro x1 x2 x3 x4 x5 μ dy hf
    rw [f_ta_smallestHolding_b9] at hf
    refine r_iload hX dX10_smallestHolding_9 5 rfl ?_
    refine r_iload_n hX dX10_smallestHolding_11 1 rfl ?_
    refine r_icmp_gt hX 69 dX10_smallestHolding_12 rfl (fun hc1 => ?_) (fun hc1 => ?_)
    · rw [if_pos hc1] at hf
      refine r_iload_n hX dX10_smallestHolding_69 3 rfl ?_
      exact fin_I hf hr _ _ _ dX10_smallestHolding_70
    · rw [if_neg hc1] at hf
      refine r_iload hX dX10_smallestHolding_15 5 rfl ?_
      obtain ⟨v4, μ2, h3, hf⟩ := bd2_eq hf
      refine r_callSI (Ok.le hX (by omega)) (c_jd_bitCount (d := d)  h3) cs_X10_36 (st := []) rfl rfl rfl dX10_smallestHolding_17 (fun dy => ?_)
      refine r_istore hX dX10_smallestHolding_20 rfl (ls' := [(6, .int v4), (0, .ref (gA (xG X) 92)), (1, .int x1), (2, .int x2), (3, .int x3), (4, .int x4), (5, .int x5)]) rfl ?_
      refine r_iload hX dX10_smallestHolding_22 0 rfl ?_
      refine r_iload hX dX10_smallestHolding_24 5 rfl ?_
      refine r_icmp_ge hX 63 dX10_smallestHolding_26 rfl (fun hc5 => ?_) (fun hc5 => ?_)
      · rw [if_pos hc5] at hf
        refine r_iinc hX (x5 + (1 : Int32)) dX10_smallestHolding_63 6 rfl rfl rfl (ls' := [(5, .int (x5 + (1 : Int32))), (6, .int v4), (0, .ref (gA (xG X) 92)), (1, .int x1), (2, .int x2), (3, .int x3), (4, .int x4)]) rfl ?_
        refine r_goto hX 9 dX10_smallestHolding_66 rfl ?_
        refine r_weak [2, 3, 4, 5, 6, 0] rfl ?_
        exact ih _ _ _ _ _ _ _ hf
      · rw [if_neg hc5] at hf
        refine r_iload hX dX10_smallestHolding_29 6 rfl ?_
        refine r_iload_n hX dX10_smallestHolding_31 2 rfl ?_
        refine r_iconst hX (-1 : Int32) dX10_smallestHolding_32 rfl ?_
        refine r_ixor hX dX10_smallestHolding_33 ?_
        refine r_iand hX dX10_smallestHolding_34 ?_
        refine r_if_ne hX 63 dX10_smallestHolding_35 rfl (fun hc6 => ?_) (fun hc6 => ?_)
        · rw [if_neg hc6] at hf
          refine r_iinc hX (x5 + (1 : Int32)) dX10_smallestHolding_63 6 rfl rfl rfl (ls' := [(5, .int (x5 + (1 : Int32))), (6, .int v4), (0, .ref (gA (xG X) 92)), (1, .int x1), (2, .int x2), (3, .int x3), (4, .int x4)]) rfl ?_
          refine r_goto hX 9 dX10_smallestHolding_66 rfl ?_
          refine r_weak [2, 3, 4, 5, 6, 0] rfl ?_
          exact ih _ _ _ _ _ _ _ hf
        · rw [if_pos hc6] at hf
          refine r_iload_n hX dX10_smallestHolding_38 3 rfl ?_
          refine r_iload hX dX10_smallestHolding_39 6 rfl ?_
          refine r_iconst hX (-1 : Int32) dX10_smallestHolding_41 rfl ?_
          refine r_ixor hX dX10_smallestHolding_42 ?_
          refine r_iand hX dX10_smallestHolding_43 ?_
          refine r_if_ne hX 63 dX10_smallestHolding_44 rfl (fun hc7 => ?_) (fun hc7 => ?_)
          · rw [if_neg hc7] at hf
            refine r_iinc hX (x5 + (1 : Int32)) dX10_smallestHolding_63 6 rfl rfl rfl (ls' := [(5, .int (x5 + (1 : Int32))), (6, .int v4), (0, .ref (gA (xG X) 92)), (1, .int x1), (2, .int x2), (3, .int x3), (4, .int x4)]) rfl ?_
            refine r_goto hX 9 dX10_smallestHolding_66 rfl ?_
            refine r_weak [2, 3, 4, 5, 6, 0] rfl ?_
            exact ih _ _ _ _ _ _ _ hf
          · rw [if_pos hc7] at hf
            refine r_aload_n hX dX10_smallestHolding_47 1 rfl ?_
            refine r_iload hX dX10_smallestHolding_48 6 rfl ?_
            obtain ⟨v10, μ8, h9, hf⟩ := bd2_eq hf
            refine r_callVI (Ok.le hX (by omega)) (c_ta_lost (d := d)  h9) cv_X10_126 (w_92 _ _ _) rfl rfl (st := []) rfl rfl rfl dX10_smallestHolding_50 (fun dy => ?_)
            refine r_if_ne hX 63 dX10_smallestHolding_53 rfl (fun hc11 => ?_) (fun hc11 => ?_)
            · rw [if_neg hc11] at hf
              refine r_iinc hX (x5 + (1 : Int32)) dX10_smallestHolding_63 6 rfl rfl rfl (ls' := [(5, .int (x5 + (1 : Int32))), (6, .int v4), (0, .ref (gA (xG X) 92)), (1, .int x1), (2, .int x2), (3, .int x3), (4, .int x4)]) rfl ?_
              refine r_goto hX 9 dX10_smallestHolding_66 rfl ?_
              refine r_weak [2, 3, 4, 5, 6, 0] rfl ?_
              exact ih _ _ _ _ _ _ _ hf
            · rw [if_pos hc11] at hf
              refine r_iload hX dX10_smallestHolding_56 6 rfl ?_
              refine r_istore_n hX dX10_smallestHolding_58 rfl (ls' := [(3, .int x5), (6, .int v4), (0, .ref (gA (xG X) 92)), (1, .int x1), (2, .int x2), (4, .int x4), (5, .int x5)]) rfl ?_
              refine r_iload hX dX10_smallestHolding_59 1 rfl ?_
              refine r_istore hX dX10_smallestHolding_61 rfl (ls' := [(4, .int v4), (3, .int x5), (6, .int v4), (0, .ref (gA (xG X) 92)), (1, .int x1), (2, .int x2), (5, .int x5)]) rfl ?_
              refine r_iinc hX (x5 + (1 : Int32)) dX10_smallestHolding_63 6 rfl rfl rfl (ls' := [(5, .int (x5 + (1 : Int32))), (4, .int v4), (3, .int x5), (6, .int v4), (0, .ref (gA (xG X) 92)), (1, .int x1), (2, .int x2)]) rfl ?_
              refine r_goto hX 9 dX10_smallestHolding_66 rfl ?_
              refine r_weak [4, 5, 6, 2, 1, 0] rfl ?_
              exact ih _ _ _ _ _ _ _ hf
set_option maxHeartbeats 4000000 in
set_option maxRecDepth 20000 in
theorem c_ta_smallestHolding {G : Gx} {d : Nat} {x1 : Int32} {x2 : Int32} {μ : Mem} {r : Int32 × Mem} (hf : f_ta_smallestHolding x1 x2 μ = some r) : Con G M_ta_smallestHolding (d + 4) [.ref (gA G 92), .int x1, .int x2] μ (some (.int r.1), r.2) := by
  refine Con.ofI ⟨rfl, rfl, Nat.le_of_ble_eq_true rfl⟩ rfl rfl (fun X hG hX hr dy => ?_)
  subst hG
  show AW X 0 [(0, .ref (gA (xG X) 92)), (1, .int x1), (2, .int x2)] [] μ dy
  unfold f_ta_smallestHolding at hf
  refine r_iconst hX (0 : Int32) dX10_smallestHolding_0 rfl ?_
  refine r_istore_n hX dX10_smallestHolding_1 rfl (ls' := [(3, .int (0 : Int32)), (0, .ref (gA (xG X) 92)), (1, .int x1), (2, .int x2)]) rfl ?_
  refine r_bipush hX (15 : Int32) dX10_smallestHolding_2 rfl ?_
  refine r_istore hX dX10_smallestHolding_4 rfl (ls' := [(4, .int (15 : Int32)), (3, .int (0 : Int32)), (0, .ref (gA (xG X) 92)), (1, .int x1), (2, .int x2)]) rfl ?_
  refine r_iconst hX (1 : Int32) dX10_smallestHolding_6 rfl ?_
  refine r_istore hX dX10_smallestHolding_7 rfl (ls' := [(5, .int (1 : Int32)), (4, .int (15 : Int32)), (3, .int (0 : Int32)), (0, .ref (gA (xG X) 92)), (1, .int x1), (2, .int x2)]) rfl ?_
  refine r_weak [3, 4, 5, 2, 1, 0] rfl ?_
  exact b_ta_smallestHolding_b9 hX hr FU _ _ _ _ _ _ _ hf
theorem dX10_holdApart_0 : decode cX10_holdApart 0 = .ok (.aload_n 0, 1) := by decide +kernel
theorem dX10_holdApart_1 : decode cX10_holdApart 1 = .ok (.getfield 23, 3) := by decide +kernel
theorem dX10_holdApart_4 : decode cX10_holdApart 4 = .ok (.invokevirtual 79, 3) := by decide +kernel
theorem dX10_holdApart_7 : decode cX10_holdApart 7 = .ok (.aload_n 0, 1) := by decide +kernel
theorem dX10_holdApart_8 : decode cX10_holdApart 8 = .ok (.invokevirtual 129, 3) := by decide +kernel
theorem dX10_holdApart_11 : decode cX10_holdApart 11 = .ok (.istore_n 1, 1) := by decide +kernel
theorem dX10_holdApart_12 : decode cX10_holdApart 12 = .ok (.iconst 0, 1) := by decide +kernel
theorem dX10_holdApart_13 : decode cX10_holdApart 13 = .ok (.istore_n 2, 1) := by decide +kernel
theorem dX10_holdApart_14 : decode cX10_holdApart 14 = .ok (.iload_n 2, 1) := by decide +kernel
theorem dX10_holdApart_15 : decode cX10_holdApart 15 = .ok (.bipush 14, 2) := by decide +kernel
theorem dX10_holdApart_17 : decode cX10_holdApart 17 = .ok (.if_icmp .ge 41, 3) := by decide +kernel
theorem dX10_holdApart_20 : decode cX10_holdApart 20 = .ok (.iload_n 1, 1) := by decide +kernel
theorem dX10_holdApart_21 : decode cX10_holdApart 21 = .ok (.ifCond .eq 37, 3) := by decide +kernel
theorem dX10_holdApart_24 : decode cX10_holdApart 24 = .ok (.aload_n 0, 1) := by decide +kernel
theorem dX10_holdApart_25 : decode cX10_holdApart 25 = .ok (.iload_n 1, 1) := by decide +kernel
theorem dX10_holdApart_26 : decode cX10_holdApart 26 = .ok (.iconst 0, 1) := by decide +kernel
theorem dX10_holdApart_27 : decode cX10_holdApart 27 = .ok (.invokevirtual 132, 3) := by decide +kernel
theorem dX10_holdApart_30 : decode cX10_holdApart 30 = .ok (.istore_n 3, 1) := by decide +kernel
theorem dX10_holdApart_31 : decode cX10_holdApart 31 = .ok (.iload_n 3, 1) := by decide +kernel
theorem dX10_holdApart_32 : decode cX10_holdApart 32 = .ok (.ifCond .ne 5, 3) := by decide +kernel
theorem dX10_holdApart_35 : decode cX10_holdApart 35 = .ok (.iload_n 2, 1) := by decide +kernel
theorem dX10_holdApart_36 : decode cX10_holdApart 36 = .ok (.ireturn, 1) := by decide +kernel
theorem dX10_holdApart_37 : decode cX10_holdApart 37 = .ok (.aload_n 0, 1) := by decide +kernel
theorem dX10_holdApart_38 : decode cX10_holdApart 38 = .ok (.getfield 23, 3) := by decide +kernel
theorem dX10_holdApart_41 : decode cX10_holdApart 41 = .ok (.iload_n 3, 1) := by decide +kernel
theorem dX10_holdApart_42 : decode cX10_holdApart 42 = .ok (.i2l, 1) := by decide +kernel
theorem dX10_holdApart_43 : decode cX10_holdApart 43 = .ok (.invokevirtual 76, 3) := by decide +kernel
theorem dX10_holdApart_46 : decode cX10_holdApart 46 = .ok (.iload_n 1, 1) := by decide +kernel
theorem dX10_holdApart_47 : decode cX10_holdApart 47 = .ok (.iload_n 3, 1) := by decide +kernel
theorem dX10_holdApart_48 : decode cX10_holdApart 48 = .ok (.iconst (-1), 1) := by decide +kernel
theorem dX10_holdApart_49 : decode cX10_holdApart 49 = .ok (.ixor, 1) := by decide +kernel
theorem dX10_holdApart_50 : decode cX10_holdApart 50 = .ok (.iand, 1) := by decide +kernel
theorem dX10_holdApart_51 : decode cX10_holdApart 51 = .ok (.istore_n 1, 1) := by decide +kernel
theorem dX10_holdApart_52 : decode cX10_holdApart 52 = .ok (.iinc 2 1, 3) := by decide +kernel
theorem dX10_holdApart_55 : decode cX10_holdApart 55 = .ok (.goto (-41), 3) := by decide +kernel
theorem dX10_holdApart_58 : decode cX10_holdApart 58 = .ok (.iload_n 2, 1) := by decide +kernel
theorem dX10_holdApart_59 : decode cX10_holdApart 59 = .ok (.ireturn, 1) := by decide +kernel
set_option maxHeartbeats 4000000 in
set_option maxRecDepth 20000 in
theorem b_ta_holdApart_b14 {X : Cx} {d : Nat} (hX : Ok M_ta_holdApart (d + 5) X) {r : Int32 × Mem} (hr : RetI M_ta_holdApart X r.1 r.2) : ∀ (n : Nat) (x1 : Int32) (x2 : Int32) (μ : Mem) (dy : Nat → Nat), f_ta_holdApart_b14 n x1 x2 μ = some r → AW X 14 [(0, .ref (gA (xG X) 92)), (1, .int x1), (2, .int x2)] [] μ dy := by
  intro n
  induction n with
  | zero => intro x1 x2 μ dy hf; exact nomatch hf
  | succ n ih =>
    intro x1 x2 μ dy hf
    rw [f_ta_holdApart_b14] at hf
    refine r_iload_n hX dX10_holdApart_14 2 rfl ?_
    refine r_bipush hX (14 : Int32) dX10_holdApart_15 rfl ?_
    refine r_icmp_ge hX 58 dX10_holdApart_17 rfl (fun hc6 => ?_) (fun hc6 => ?_)
    · rw [if_pos hc6] at hf
      refine r_iload_n hX dX10_holdApart_58 2 rfl ?_
      exact fin_I hf hr _ _ _ dX10_holdApart_59
    · rw [if_neg hc6] at hf
      refine r_iload_n hX dX10_holdApart_20 1 rfl ?_
      refine r_if_eq hX 58 dX10_holdApart_21 rfl (fun hc7 => ?_) (fun hc7 => ?_)
      · rw [if_pos hc7] at hf
        refine r_iload_n hX dX10_holdApart_58 2 rfl ?_
        exact fin_I hf hr _ _ _ dX10_holdApart_59
      · rw [if_neg hc7] at hf
        refine r_aload_n hX dX10_holdApart_24 0 rfl ?_
        refine r_iload_n hX dX10_holdApart_25 1 rfl ?_
        refine r_iconst hX (0 : Int32) dX10_holdApart_26 rfl ?_
        obtain ⟨v10, μ8, h9, hf⟩ := bd2_eq hf
        refine r_callVI (Ok.le hX (by omega)) (c_ta_smallestHolding (d := d)  h9) cv_X10_132 (w_92 _ _ _) rfl rfl (st := []) rfl rfl rfl dX10_holdApart_27 (fun dy => ?_)
        refine r_istore_n hX dX10_holdApart_30 rfl (ls' := [(3, .int v10), (0, .ref (gA (xG X) 92)), (1, .int x1), (2, .int x2)]) rfl ?_
        refine r_iload_n hX dX10_holdApart_31 0 rfl ?_
        refine r_if_ne hX 37 dX10_holdApart_32 rfl (fun hc11 => ?_) (fun hc11 => ?_)
        · rw [if_neg hc11] at hf
          refine r_aload_n hX dX10_holdApart_37 1 rfl ?_
          refine r_get hX fl_X10_23 (w_92 _ _ _) rfl dX10_holdApart_38 ?_
          refine r_iload_n hX dX10_holdApart_41 0 rfl ?_
          refine r_i2l hX dX10_holdApart_42 ?_
          obtain ⟨μ12, h13, hf⟩ := bd1_eq hf
          refine r_callVV (Ok.le hX (by omega)) (c_rw_add (d := d)  h13) cv_X10_76 (w_2 _ _ _) rfl rfl (st := []) rfl rfl rfl dX10_holdApart_43 (fun dy => ?_)
          refine r_iload_n hX dX10_holdApart_46 2 rfl ?_
          refine r_iload_n hX dX10_holdApart_47 0 rfl ?_
          refine r_iconst hX (-1 : Int32) dX10_holdApart_48 rfl ?_
          refine r_ixor hX dX10_holdApart_49 ?_
          refine r_iand hX dX10_holdApart_50 ?_
          obtain ⟨v14, e15, hf⟩ := bnd_eq hf
          refine r_topI e15 ?_
          refine r_istore_n hX dX10_holdApart_51 rfl (ls' := [(1, .int v14), (3, .int v10), (0, .ref (gA (xG X) 92)), (2, .int x2)]) rfl ?_
          refine r_iinc hX (x2 + (1 : Int32)) dX10_holdApart_52 3 rfl rfl rfl (ls' := [(2, .int (x2 + (1 : Int32))), (1, .int v14), (3, .int v10), (0, .ref (gA (xG X) 92))]) rfl ?_
          refine r_goto hX 14 dX10_holdApart_55 rfl ?_
          refine r_weak [3, 1, 0] rfl ?_
          exact ih _ _ _ _ hf
        · rw [if_pos hc11] at hf
          refine r_iload_n hX dX10_holdApart_35 3 rfl ?_
          exact fin_I hf hr _ _ _ dX10_holdApart_36
set_option maxHeartbeats 4000000 in
set_option maxRecDepth 20000 in
theorem c_ta_holdApart {G : Gx} {d : Nat}  {μ : Mem} {r : Int32 × Mem} (hf : f_ta_holdApart  μ = some r) : Con G M_ta_holdApart (d + 5) [.ref (gA G 92)] μ (some (.int r.1), r.2) := by
  refine Con.ofI ⟨rfl, rfl, Nat.le_of_ble_eq_true rfl⟩ rfl rfl (fun X hG hX hr dy => ?_)
  subst hG
  show AW X 0 [(0, .ref (gA (xG X) 92))] [] μ dy
  unfold f_ta_holdApart at hf
  refine r_aload_n hX dX10_holdApart_0 0 rfl ?_
  refine r_get hX fl_X10_23 (w_92 _ _ _) rfl dX10_holdApart_1 ?_
  obtain ⟨μ1, h2, hf⟩ := bd1_eq hf
  refine r_callVV (Ok.le hX (by omega)) (c_rw_clear (d := d)  h2) cv_X10_79 (w_2 _ _ _) rfl rfl (st := []) rfl rfl rfl dX10_holdApart_4 (fun dy => ?_)
  refine r_aload_n hX dX10_holdApart_7 0 rfl ?_
  obtain ⟨v5, μ3, h4, hf⟩ := bd2_eq hf
  refine r_callVI (Ok.le hX (by omega)) (c_ta_greatestHolding (d := d)  h4) cv_X10_129 (w_92 _ _ _) rfl rfl (st := []) rfl rfl rfl dX10_holdApart_8 (fun dy => ?_)
  refine r_istore_n hX dX10_holdApart_11 rfl (ls' := [(1, .int v5), (0, .ref (gA (xG X) 92))]) rfl ?_
  refine r_iconst hX (0 : Int32) dX10_holdApart_12 rfl ?_
  refine r_istore_n hX dX10_holdApart_13 rfl (ls' := [(2, .int (0 : Int32)), (1, .int v5), (0, .ref (gA (xG X) 92))]) rfl ?_
  refine r_weak [2, 1, 0] rfl ?_
  exact b_ta_holdApart_b14 hX hr FU _ _ _ _ hf
theorem dX11_sign_0 : decode cX11_sign 0 = .ok (.aload_n 0, 1) := by decide +kernel
theorem dX11_sign_1 : decode cX11_sign 1 = .ok (.getfield 108, 3) := by decide +kernel
theorem dX11_sign_4 : decode cX11_sign 4 = .ok (.iconst 4, 1) := by decide +kernel
theorem dX11_sign_5 : decode cX11_sign 5 = .ok (.iadd, 1) := by decide +kernel
theorem dX11_sign_6 : decode cX11_sign 6 = .ok (.bipush 80, 2) := by decide +kernel
theorem dX11_sign_8 : decode cX11_sign 8 = .ok (.if_icmp .le 5, 3) := by decide +kernel
theorem dX11_sign_11 : decode cX11_sign 11 = .ok (.iconst (-1), 1) := by decide +kernel
theorem dX11_sign_12 : decode cX11_sign 12 = .ok (.ireturn, 1) := by decide +kernel
theorem dX11_sign_13 : decode cX11_sign 13 = .ok (.bipush 24, 2) := by decide +kernel
theorem dX11_sign_15 : decode cX11_sign 15 = .ok (.istore_n 2, 1) := by decide +kernel
theorem dX11_sign_16 : decode cX11_sign 16 = .ok (.iload_n 2, 1) := by decide +kernel
theorem dX11_sign_17 : decode cX11_sign 17 = .ok (.ifCond .lt 32, 3) := by decide +kernel
theorem dX11_sign_20 : decode cX11_sign 20 = .ok (.aload_n 0, 1) := by decide +kernel
theorem dX11_sign_21 : decode cX11_sign 21 = .ok (.getfield 9, 3) := by decide +kernel
theorem dX11_sign_24 : decode cX11_sign 24 = .ok (.aload_n 0, 1) := by decide +kernel
theorem dX11_sign_25 : decode cX11_sign 25 = .ok (.dup, 1) := by decide +kernel
theorem dX11_sign_26 : decode cX11_sign 26 = .ok (.getfield 108, 3) := by decide +kernel
theorem dX11_sign_29 : decode cX11_sign 29 = .ok (.dup_x1, 1) := by decide +kernel
theorem dX11_sign_30 : decode cX11_sign 30 = .ok (.iconst 1, 1) := by decide +kernel
theorem dX11_sign_31 : decode cX11_sign 31 = .ok (.iadd, 1) := by decide +kernel
theorem dX11_sign_32 : decode cX11_sign 32 = .ok (.putfield 108, 3) := by decide +kernel
theorem dX11_sign_35 : decode cX11_sign 35 = .ok (.iload_n 1, 1) := by decide +kernel
theorem dX11_sign_36 : decode cX11_sign 36 = .ok (.iload_n 2, 1) := by decide +kernel
theorem dX11_sign_37 : decode cX11_sign 37 = .ok (.iushr, 1) := by decide +kernel
theorem dX11_sign_38 : decode cX11_sign 38 = .ok (.sipush 255, 3) := by decide +kernel
theorem dX11_sign_41 : decode cX11_sign 41 = .ok (.iand, 1) := by decide +kernel
theorem dX11_sign_42 : decode cX11_sign 42 = .ok (.iastore, 1) := by decide +kernel
theorem dX11_sign_43 : decode cX11_sign 43 = .ok (.iinc 2 (-8), 3) := by decide +kernel
theorem dX11_sign_46 : decode cX11_sign 46 = .ok (.goto (-30), 3) := by decide +kernel
theorem dX11_sign_49 : decode cX11_sign 49 = .ok (.aload_n 0, 1) := by decide +kernel
theorem dX11_sign_50 : decode cX11_sign 50 = .ok (.getfield 108, 3) := by decide +kernel
theorem dX11_sign_53 : decode cX11_sign 53 = .ok (.ireturn, 1) := by decide +kernel
set_option maxHeartbeats 4000000 in
set_option maxRecDepth 20000 in
theorem b_x_sign_b16 {X : Cx} {d : Nat} (hX : Ok M_x_sign (d + 0) X) {r : Int32 × Mem} (hr : RetI M_x_sign X r.1 r.2) : ∀ (n : Nat) (x1 : Int32) (x2 : Int32) (μ : Mem) (dy : Nat → Nat), f_x_sign_b16 n x1 x2 μ = some r → AW X 16 [(0, .ref (gA (xG X) 0)), (1, .int x1), (2, .int x2)] [] μ dy := by
  intro n
  induction n with
  | zero => intro x1 x2 μ dy hf; exact nomatch hf
  | succ n ih =>
    intro x1 x2 μ dy hf
    rw [f_x_sign_b16] at hf
    refine r_iload_n hX dX11_sign_16 2 rfl ?_
    refine r_if_lt hX 49 dX11_sign_17 rfl (fun hc2 => ?_) (fun hc2 => ?_)
    · rw [if_pos hc2] at hf
      refine r_aload_n hX dX11_sign_49 0 rfl ?_
      refine r_get hX fl_X11_108 (w_0 _ _ _) rfl dX11_sign_50 ?_
      exact fin_I hf hr _ _ _ dX11_sign_53
    · rw [if_neg hc2] at hf
      refine r_aload_n hX dX11_sign_20 0 rfl ?_
      refine r_get hX fl_X11_9 (w_0 _ _ _) rfl dX11_sign_21 ?_
      refine r_aload_n hX dX11_sign_24 0 rfl ?_
      refine r_dup hX dX11_sign_25 rfl ?_
      refine r_get hX fl_X11_108 (w_0 _ _ _) rfl dX11_sign_26 ?_
      refine r_dup_x1 hX dX11_sign_29 rfl rfl ?_
      refine r_iconst hX (1 : Int32) dX11_sign_30 rfl ?_
      refine r_iadd hX dX11_sign_31 ?_
      obtain ⟨μ3, e4, hf⟩ := bnd_eq hf
      refine r_put hX fl_X11_108 ft_X11_1 (w_0 _ _ _) rfl rfl rfl (s_0_1 _ _ _ _) e4 rfl dX11_sign_32 ?_
      refine r_iload_n hX dX11_sign_35 1 rfl ?_
      refine r_iload_n hX dX11_sign_36 2 rfl ?_
      refine r_iushr hX dX11_sign_37 ?_
      refine r_sipush hX (255 : Int32) dX11_sign_38 rfl ?_
      refine r_iand hX dX11_sign_41 ?_
      obtain ⟨b5, hf⟩ := chk_eq hf
      obtain ⟨μ6, e7, hf⟩ := bnd_eq hf
      refine r_iast hX (w_1 _ _ _) (inb_in b5) (s_1 _ _ _ _ _) e7 rfl dX11_sign_42 ?_
      refine r_iinc hX (x2 + (-8 : Int32)) dX11_sign_43 2 rfl rfl rfl (ls' := [(2, .int (x2 + (-8 : Int32))), (0, .ref (gA (xG X) 0)), (1, .int x1)]) rfl ?_
      refine r_goto hX 16 dX11_sign_46 rfl ?_
      refine r_weak [1, 2, 0] rfl ?_
      exact ih _ _ _ _ hf
set_option maxHeartbeats 4000000 in
set_option maxRecDepth 20000 in
theorem c_x_sign {G : Gx} {d : Nat} {x1 : Int32} {μ : Mem} {r : Int32 × Mem} (hf : f_x_sign x1 μ = some r) : Con G M_x_sign (d + 0) [.ref (gA G 0), .int x1] μ (some (.int r.1), r.2) := by
  refine Con.ofI ⟨rfl, rfl, Nat.le_of_ble_eq_true rfl⟩ rfl rfl (fun X hG hX hr dy => ?_)
  subst hG
  show AW X 0 [(0, .ref (gA (xG X) 0)), (1, .int x1)] [] μ dy
  unfold f_x_sign at hf
  refine r_aload_n hX dX11_sign_0 0 rfl ?_
  refine r_get hX fl_X11_108 (w_0 _ _ _) rfl dX11_sign_1 ?_
  refine r_iconst hX (4 : Int32) dX11_sign_4 rfl ?_
  refine r_iadd hX dX11_sign_5 ?_
  refine r_bipush hX (80 : Int32) dX11_sign_6 rfl ?_
  refine r_icmp_le hX 13 dX11_sign_8 rfl (fun hc1 => ?_) (fun hc1 => ?_)
  · rw [if_pos hc1] at hf
    refine r_bipush hX (24 : Int32) dX11_sign_13 rfl ?_
    refine r_istore_n hX dX11_sign_15 rfl (ls' := [(2, .int (24 : Int32)), (0, .ref (gA (xG X) 0)), (1, .int x1)]) rfl ?_
    refine r_weak [1, 2, 0] rfl ?_
    exact b_x_sign_b16 hX hr FU _ _ _ _ hf
  · rw [if_neg hc1] at hf
    refine r_iconst hX (-1 : Int32) dX11_sign_11 rfl ?_
    exact fin_I hf hr _ _ _ dX11_sign_12
theorem dX11_end_0 : decode cX11_end 0 = .ok (.iload_n 1, 1) := by decide +kernel
theorem dX11_end_1 : decode cX11_end 1 = .ok (.ifCond .lt 11, 3) := by decide +kernel
theorem dX11_end_4 : decode cX11_end 4 = .ok (.iload_n 1, 1) := by decide +kernel
theorem dX11_end_5 : decode cX11_end 5 = .ok (.aload_n 0, 1) := by decide +kernel
theorem dX11_end_6 : decode cX11_end 6 = .ok (.getfield 108, 3) := by decide +kernel
theorem dX11_end_9 : decode cX11_end 9 = .ok (.if_icmp .le 5, 3) := by decide +kernel
theorem dX11_end_12 : decode cX11_end 12 = .ok (.iconst 0, 1) := by decide +kernel
theorem dX11_end_13 : decode cX11_end 13 = .ok (.ireturn, 1) := by decide +kernel
theorem dX11_end_14 : decode cX11_end 14 = .ok (.aload_n 0, 1) := by decide +kernel
theorem dX11_end_15 : decode cX11_end 15 = .ok (.iload_n 1, 1) := by decide +kernel
theorem dX11_end_16 : decode cX11_end 16 = .ok (.putfield 108, 3) := by decide +kernel
theorem dX11_end_19 : decode cX11_end 19 = .ok (.iconst 1, 1) := by decide +kernel
theorem dX11_end_20 : decode cX11_end 20 = .ok (.ireturn, 1) := by decide +kernel
set_option maxHeartbeats 4000000 in
set_option maxRecDepth 20000 in
theorem c_x_end {G : Gx} {d : Nat} {x1 : Int32} {μ : Mem} {r : Int32 × Mem} (hf : f_x_end x1 μ = some r) : Con G M_x_end (d + 0) [.ref (gA G 0), .int x1] μ (some (.int r.1), r.2) := by
  refine Con.ofZ ⟨rfl, rfl, Nat.le_of_ble_eq_true rfl⟩ rfl (fun X hG hX hr dy => ?_)
  subst hG
  show AW X 0 [(0, .ref (gA (xG X) 0)), (1, .int x1)] [] μ dy
  unfold f_x_end at hf
  refine r_iload_n hX dX11_end_0 1 rfl ?_
  refine r_if_lt hX 12 dX11_end_1 rfl (fun hc1 => ?_) (fun hc1 => ?_)
  · rw [if_pos hc1] at hf
    refine r_iconst hX (0 : Int32) dX11_end_12 rfl ?_
    obtain ⟨b2, hf⟩ := chk_eq hf
    exact fin_Z hf hr _ _ _ (zb_nar b2) dX11_end_13
  · rw [if_neg hc1] at hf
    refine r_iload_n hX dX11_end_4 1 rfl ?_
    refine r_aload_n hX dX11_end_5 0 rfl ?_
    refine r_get hX fl_X11_108 (w_0 _ _ _) rfl dX11_end_6 ?_
    refine r_icmp_le hX 14 dX11_end_9 rfl (fun hc3 => ?_) (fun hc3 => ?_)
    · rw [if_pos hc3] at hf
      refine r_aload_n hX dX11_end_14 0 rfl ?_
      refine r_iload_n hX dX11_end_15 1 rfl ?_
      obtain ⟨μ4, e5, hf⟩ := bnd_eq hf
      refine r_put hX fl_X11_108 ft_X11_1 (w_0 _ _ _) rfl rfl rfl (s_0_1 _ _ _ _) e5 rfl dX11_end_16 ?_
      refine r_iconst hX (1 : Int32) dX11_end_19 rfl ?_
      obtain ⟨b6, hf⟩ := chk_eq hf
      exact fin_Z hf hr _ _ _ (zb_nar b6) dX11_end_20
    · rw [if_neg hc3] at hf
      refine r_iconst hX (0 : Int32) dX11_end_12 rfl ?_
      obtain ⟨b7, hf⟩ := chk_eq hf
      exact fin_Z hf hr _ _ _ (zb_nar b7) dX11_end_13
theorem dX11_street_0 : decode cX11_street 0 = .ok (.aload_n 0, 1) := by decide +kernel
theorem dX11_street_1 : decode cX11_street 1 = .ok (.getfield 108, 3) := by decide +kernel
theorem dX11_street_4 : decode cX11_street 4 = .ok (.istore_n 1, 1) := by decide +kernel
theorem dX11_street_5 : decode cX11_street 5 = .ok (.aload_n 0, 1) := by decide +kernel
theorem dX11_street_6 : decode cX11_street 6 = .ok (.iconst 0, 1) := by decide +kernel
theorem dX11_street_7 : decode cX11_street 7 = .ok (.putfield 108, 3) := by decide +kernel
theorem dX11_street_10 : decode cX11_street 10 = .ok (.aload_n 0, 1) := by decide +kernel
theorem dX11_street_11 : decode cX11_street 11 = .ok (.getfield 47, 3) := by decide +kernel
theorem dX11_street_14 : decode cX11_street 14 = .ok (.aload_n 0, 1) := by decide +kernel
theorem dX11_street_15 : decode cX11_street 15 = .ok (.getfield 9, 3) := by decide +kernel
theorem dX11_street_18 : decode cX11_street 18 = .ok (.iload_n 1, 1) := by decide +kernel
theorem dX11_street_19 : decode cX11_street 19 = .ok (.invokevirtual 112, 3) := by decide +kernel
theorem dX11_street_22 : decode cX11_street 22 = .ok (.ireturn, 1) := by decide +kernel
set_option maxHeartbeats 4000000 in
set_option maxRecDepth 20000 in
theorem c_x_street {G : Gx} {d : Nat}  {μ : Mem} {r : Int32 × Mem} (hf : f_x_street  μ = some r) : Con G M_x_street (d + 7) [.ref (gA G 0)] μ (some (.int r.1), r.2) := by
  refine Con.ofI ⟨rfl, rfl, Nat.le_of_ble_eq_true rfl⟩ rfl rfl (fun X hG hX hr dy => ?_)
  subst hG
  show AW X 0 [(0, .ref (gA (xG X) 0))] [] μ dy
  unfold f_x_street at hf
  refine r_aload_n hX dX11_street_0 0 rfl ?_
  refine r_get hX fl_X11_108 (w_0 _ _ _) rfl dX11_street_1 ?_
  refine r_istore_n hX dX11_street_4 rfl (ls' := [(1, .int (μ.1 v_x_signs 0)), (0, .ref (gA (xG X) 0))]) rfl ?_
  refine r_aload_n hX dX11_street_5 1 rfl ?_
  refine r_iconst hX (0 : Int32) dX11_street_6 rfl ?_
  obtain ⟨μ1, e2, hf⟩ := bnd_eq hf
  refine r_put hX fl_X11_108 ft_X11_1 (w_0 _ _ _) rfl rfl rfl (s_0_1 _ _ _ _) e2 rfl dX11_street_7 ?_
  refine r_aload_n hX dX11_street_10 1 rfl ?_
  refine r_get hX fl_X11_47 (w_0 _ _ _) rfl dX11_street_11 ?_
  refine r_aload_n hX dX11_street_14 1 rfl ?_
  refine r_get hX fl_X11_9 (w_0 _ _ _) rfl dX11_street_15 ?_
  refine r_iload_n hX dX11_street_18 0 rfl ?_
  obtain ⟨v5, μ3, h4, hf⟩ := bd2_eq hf
  refine r_callVI (Ok.le hX (by omega)) (c_sr_read (d := d)  h4) cv_X11_112 (w_76 _ _ _) rfl rfl (st := []) rfl rfl rfl dX11_street_19 (fun dy => ?_)
  exact fin_I hf hr _ _ _ dX11_street_22
theorem dX11_person_0 : decode cX11_person 0 = .ok (.aload_n 0, 1) := by decide +kernel
theorem dX11_person_1 : decode cX11_person 1 = .ok (.getfield 23, 3) := by decide +kernel
theorem dX11_person_4 : decode cX11_person 4 = .ok (.iload_n 1, 1) := by decide +kernel
theorem dX11_person_5 : decode cX11_person 5 = .ok (.invokevirtual 116, 3) := by decide +kernel
theorem dX11_person_8 : decode cX11_person 8 = .ok (.ifCond .eq 12, 3) := by decide +kernel
theorem dX11_person_11 : decode cX11_person 11 = .ok (.iload_n 2, 1) := by decide +kernel
theorem dX11_person_12 : decode cX11_person 12 = .ok (.ifCond .lt 8, 3) := by decide +kernel
theorem dX11_person_15 : decode cX11_person 15 = .ok (.iload_n 2, 1) := by decide +kernel
theorem dX11_person_16 : decode cX11_person 16 = .ok (.iconst 5, 1) := by decide +kernel
theorem dX11_person_17 : decode cX11_person 17 = .ok (.if_icmp .le 11, 3) := by decide +kernel
theorem dX11_person_20 : decode cX11_person 20 = .ok (.new 120, 3) := by decide +kernel
theorem dX11_person_23 : decode cX11_person 23 = .ok (.dup, 1) := by decide +kernel
theorem dX11_person_24 : decode cX11_person 24 = .ok (.invokespecial 122, 3) := by decide +kernel
theorem dX11_person_27 : decode cX11_person 27 = .ok (.athrow, 1) := by decide +kernel
theorem dX11_person_28 : decode cX11_person 28 = .ok (.iload_n 2, 1) := by decide +kernel
theorem dX11_person_29 : decode cX11_person 29 = .ok (.tableswitch 88 0 4 #[35, 47, 57, 67, 79], 35) := by decide +kernel
theorem dX11_person_64 : decode cX11_person 64 = .ok (.aload_n 0, 1) := by decide +kernel
theorem dX11_person_65 : decode cX11_person 65 = .ok (.getfield 23, 3) := by decide +kernel
theorem dX11_person_68 : decode cX11_person 68 = .ok (.invokevirtual 123, 3) := by decide +kernel
theorem dX11_person_71 : decode cX11_person 71 = .ok (.iload_n 1, 1) := by decide +kernel
theorem dX11_person_72 : decode cX11_person 72 = .ok (.ishr, 1) := by decide +kernel
theorem dX11_person_73 : decode cX11_person 73 = .ok (.iconst 1, 1) := by decide +kernel
theorem dX11_person_74 : decode cX11_person 74 = .ok (.iand, 1) := by decide +kernel
theorem dX11_person_75 : decode cX11_person 75 = .ok (.ireturn, 1) := by decide +kernel
theorem dX11_person_76 : decode cX11_person 76 = .ok (.aload_n 0, 1) := by decide +kernel
theorem dX11_person_77 : decode cX11_person 77 = .ok (.getfield 23, 3) := by decide +kernel
theorem dX11_person_80 : decode cX11_person 80 = .ok (.getfield 127, 3) := by decide +kernel
theorem dX11_person_83 : decode cX11_person 83 = .ok (.iload_n 1, 1) := by decide +kernel
theorem dX11_person_84 : decode cX11_person 84 = .ok (.iaload, 1) := by decide +kernel
theorem dX11_person_85 : decode cX11_person 85 = .ok (.ireturn, 1) := by decide +kernel
theorem dX11_person_86 : decode cX11_person 86 = .ok (.aload_n 0, 1) := by decide +kernel
theorem dX11_person_87 : decode cX11_person 87 = .ok (.getfield 23, 3) := by decide +kernel
theorem dX11_person_90 : decode cX11_person 90 = .ok (.getfield 130, 3) := by decide +kernel
theorem dX11_person_93 : decode cX11_person 93 = .ok (.iload_n 1, 1) := by decide +kernel
theorem dX11_person_94 : decode cX11_person 94 = .ok (.iaload, 1) := by decide +kernel
theorem dX11_person_95 : decode cX11_person 95 = .ok (.ireturn, 1) := by decide +kernel
theorem dX11_person_96 : decode cX11_person 96 = .ok (.aload_n 0, 1) := by decide +kernel
theorem dX11_person_97 : decode cX11_person 97 = .ok (.getfield 23, 3) := by decide +kernel
theorem dX11_person_100 : decode cX11_person 100 = .ok (.getfield 133, 3) := by decide +kernel
theorem dX11_person_103 : decode cX11_person 103 = .ok (.iload_n 1, 1) := by decide +kernel
theorem dX11_person_104 : decode cX11_person 104 = .ok (.ishr, 1) := by decide +kernel
theorem dX11_person_105 : decode cX11_person 105 = .ok (.iconst 1, 1) := by decide +kernel
theorem dX11_person_106 : decode cX11_person 106 = .ok (.iand, 1) := by decide +kernel
theorem dX11_person_107 : decode cX11_person 107 = .ok (.ireturn, 1) := by decide +kernel
theorem dX11_person_108 : decode cX11_person 108 = .ok (.aload_n 0, 1) := by decide +kernel
theorem dX11_person_109 : decode cX11_person 109 = .ok (.getfield 23, 3) := by decide +kernel
theorem dX11_person_112 : decode cX11_person 112 = .ok (.iload_n 1, 1) := by decide +kernel
theorem dX11_person_113 : decode cX11_person 113 = .ok (.invokevirtual 136, 3) := by decide +kernel
theorem dX11_person_116 : decode cX11_person 116 = .ok (.ireturn, 1) := by decide +kernel
theorem dX11_person_117 : decode cX11_person 117 = .ok (.aload_n 0, 1) := by decide +kernel
theorem dX11_person_118 : decode cX11_person 118 = .ok (.getfield 23, 3) := by decide +kernel
theorem dX11_person_121 : decode cX11_person 121 = .ok (.iload_n 1, 1) := by decide +kernel
theorem dX11_person_122 : decode cX11_person 122 = .ok (.invokevirtual 140, 3) := by decide +kernel
theorem dX11_person_125 : decode cX11_person 125 = .ok (.ireturn, 1) := by decide +kernel
set_option maxHeartbeats 4000000 in
set_option maxRecDepth 20000 in
theorem b_x_person_b20 {X : Cx} {d : Nat} (hX : Ok M_x_person (d + 2) X) {r : Int32 × Mem} (hr : RetI M_x_person X r.1 r.2)  (μ : Mem) (dy : Nat → Nat) (hf : f_x_person_b20  μ = some r) : AW X 20 [] [] μ dy := by
  unfold f_x_person_b20 at hf
  exact nomatch hf
set_option maxHeartbeats 4000000 in
set_option maxRecDepth 20000 in
theorem c_x_person {G : Gx} {d : Nat} {x1 : Int32} {x2 : Int32} {μ : Mem} {r : Int32 × Mem} (hf : f_x_person x1 x2 μ = some r) : Con G M_x_person (d + 2) [.ref (gA G 0), .int x1, .int x2] μ (some (.int r.1), r.2) := by
  refine Con.ofI ⟨rfl, rfl, Nat.le_of_ble_eq_true rfl⟩ rfl rfl (fun X hG hX hr dy => ?_)
  subst hG
  show AW X 0 [(0, .ref (gA (xG X) 0)), (1, .int x1), (2, .int x2)] [] μ dy
  unfold f_x_person at hf
  refine r_aload_n hX dX11_person_0 0 rfl ?_
  refine r_get hX fl_X11_23 (w_0 _ _ _) rfl dX11_person_1 ?_
  refine r_iload_n hX dX11_person_4 1 rfl ?_
  obtain ⟨v3, μ1, h2, hf⟩ := bd2_eq hf
  refine r_callVI (Ok.le hX (by omega)) (c_st_has (d := d)  h2) cv_X11_116 (w_4 _ _ _) rfl rfl (st := []) rfl rfl rfl dX11_person_5 (fun dy => ?_)
  refine r_if_eq hX 20 dX11_person_8 rfl (fun hc4 => ?_) (fun hc4 => ?_)
  · rw [if_pos hc4] at hf
    refine r_weak [] rfl ?_
    exact b_x_person_b20 hX hr _ _ hf
  · rw [if_neg hc4] at hf
    refine r_iload_n hX dX11_person_11 2 rfl ?_
    refine r_if_lt hX 20 dX11_person_12 rfl (fun hc5 => ?_) (fun hc5 => ?_)
    · rw [if_pos hc5] at hf
      refine r_weak [] rfl ?_
      exact b_x_person_b20 hX hr _ _ hf
    · rw [if_neg hc5] at hf
      refine r_iload_n hX dX11_person_15 2 rfl ?_
      refine r_iconst hX (5 : Int32) dX11_person_16 rfl ?_
      refine r_icmp_le hX 28 dX11_person_17 rfl (fun hc6 => ?_) (fun hc6 => ?_)
      · rw [if_pos hc6] at hf
        refine r_iload_n hX dX11_person_28 2 rfl ?_
        by_cases hc7 : x2 = 0
        · rw [if_pos hc7] at hf
          refine r_tabIn hX (off := 35) 64 dX11_person_29 (by rw [hc7]; decide) (by rw [hc7]; decide) (by rw [hc7]; rfl) rfl ?_
          refine r_aload_n hX dX11_person_64 0 rfl ?_
          refine r_get hX fl_X11_23 (w_0 _ _ _) rfl dX11_person_65 ?_
          obtain ⟨v10, μ8, h9, hf⟩ := bd2_eq hf
          refine r_callVI (Ok.le hX (by omega)) (c_st_now (d := d)  h9) cv_X11_123 (w_4 _ _ _) rfl rfl (st := []) rfl rfl rfl dX11_person_68 (fun dy => ?_)
          refine r_iload_n hX dX11_person_71 1 rfl ?_
          refine r_ishr hX dX11_person_72 ?_
          refine r_iconst hX (1 : Int32) dX11_person_73 rfl ?_
          refine r_iand hX dX11_person_74 ?_
          exact fin_I hf hr _ _ _ dX11_person_75
        · rw [if_neg hc7] at hf
          by_cases hc11 : x2 = 1
          · rw [if_pos hc11] at hf
            refine r_tabIn hX (off := 47) 76 dX11_person_29 (by rw [hc11]; decide) (by rw [hc11]; decide) (by rw [hc11]; rfl) rfl ?_
            refine r_aload_n hX dX11_person_76 0 rfl ?_
            refine r_get hX fl_X11_23 (w_0 _ _ _) rfl dX11_person_77 ?_
            refine r_getN hX fl_X11_127 (w_4 _ _ _) rfl dX11_person_80 ?_
            refine r_iload_n hX dX11_person_83 1 rfl ?_
            obtain ⟨b12, hf⟩ := chk_eq hf
            refine r_iald hX (w_5 _ _ _) (inb_in b12) dX11_person_84 ?_
            exact fin_I hf hr _ _ _ dX11_person_85
          · rw [if_neg hc11] at hf
            by_cases hc13 : x2 = 2
            · rw [if_pos hc13] at hf
              refine r_tabIn hX (off := 57) 86 dX11_person_29 (by rw [hc13]; decide) (by rw [hc13]; decide) (by rw [hc13]; rfl) rfl ?_
              refine r_aload_n hX dX11_person_86 0 rfl ?_
              refine r_get hX fl_X11_23 (w_0 _ _ _) rfl dX11_person_87 ?_
              refine r_getN hX fl_X11_130 (w_4 _ _ _) rfl dX11_person_90 ?_
              refine r_iload_n hX dX11_person_93 1 rfl ?_
              obtain ⟨b14, hf⟩ := chk_eq hf
              refine r_iald hX (w_6 _ _ _) (inb_in b14) dX11_person_94 ?_
              exact fin_I hf hr _ _ _ dX11_person_95
            · rw [if_neg hc13] at hf
              by_cases hc15 : x2 = 3
              · rw [if_pos hc15] at hf
                refine r_tabIn hX (off := 67) 96 dX11_person_29 (by rw [hc15]; decide) (by rw [hc15]; decide) (by rw [hc15]; rfl) rfl ?_
                refine r_aload_n hX dX11_person_96 0 rfl ?_
                refine r_get hX fl_X11_23 (w_0 _ _ _) rfl dX11_person_97 ?_
                refine r_getN hX fl_X11_133 (w_4 _ _ _) rfl dX11_person_100 ?_
                refine r_iload_n hX dX11_person_103 1 rfl ?_
                refine r_ishr hX dX11_person_104 ?_
                refine r_iconst hX (1 : Int32) dX11_person_105 rfl ?_
                refine r_iand hX dX11_person_106 ?_
                exact fin_I hf hr _ _ _ dX11_person_107
              · rw [if_neg hc15] at hf
                by_cases hc16 : x2 = 4
                · rw [if_pos hc16] at hf
                  refine r_tabIn hX (off := 79) 108 dX11_person_29 (by rw [hc16]; decide) (by rw [hc16]; decide) (by rw [hc16]; rfl) rfl ?_
                  refine r_aload_n hX dX11_person_108 0 rfl ?_
                  refine r_get hX fl_X11_23 (w_0 _ _ _) rfl dX11_person_109 ?_
                  refine r_iload_n hX dX11_person_112 1 rfl ?_
                  obtain ⟨v19, μ17, h18, hf⟩ := bd2_eq hf
                  refine r_callVI (Ok.le hX (by omega)) (c_st_allOf (d := d)  h18) cv_X11_136 (w_4 _ _ _) rfl rfl (st := []) rfl rfl rfl dX11_person_113 (fun dy => ?_)
                  exact fin_I hf hr _ _ _ dX11_person_116
                · rw [if_neg hc16] at hf
                  have J20 : AW X 117 [(0, .ref (gA (xG X) 0)), (1, .int x1), (2, .int x2)] [] μ1 dy := by
                    refine r_aload_n hX dX11_person_117 0 rfl ?_
                    refine r_get hX fl_X11_23 (w_0 _ _ _) rfl dX11_person_118 ?_
                    refine r_iload_n hX dX11_person_121 1 rfl ?_
                    obtain ⟨v23, μ21, h22, hf⟩ := bd2_eq hf
                    refine r_callVI (Ok.le hX (by omega)) (c_st_loudnessOf (d := d)  h22) cv_X11_140 (w_4 _ _ _) rfl rfl (st := []) rfl rfl rfl dX11_person_122 (fun dy => ?_)
                    exact fin_I hf hr _ _ _ dX11_person_125
                  by_cases hc24 : x2.toInt < 0
                  · exact r_tabOut hX 117 dX11_person_29 (Or.inl hc24) rfl J20
                  by_cases hc25 : 4 < x2.toInt
                  · exact r_tabOut hX 117 dX11_person_29 (Or.inr hc25) rfl J20
                  have q26 : x2.toInt = 0 ∨ x2.toInt = 1 ∨ x2.toInt = 2 ∨ x2.toInt = 3 ∨ x2.toInt = 4 := by omega
                  rcases q26 with q26 | q26 | q26 | q26 | q26
                  · exact absurd (i32_eq (y := 0) q26 rfl) hc7
                  · exact absurd (i32_eq (y := 1) q26 rfl) hc11
                  · exact absurd (i32_eq (y := 2) q26 rfl) hc13
                  · exact absurd (i32_eq (y := 3) q26 rfl) hc15
                  · exact absurd (i32_eq (y := 4) q26 rfl) hc16
      · rw [if_neg hc6] at hf
        refine r_weak [] rfl ?_
        exact b_x_person_b20 hX hr _ _ hf
theorem dX11_set_0 : decode cX11_set 0 = .ok (.aload_n 0, 1) := by decide +kernel
theorem dX11_set_1 : decode cX11_set 1 = .ok (.getfield 23, 3) := by decide +kernel
theorem dX11_set_4 : decode cX11_set 4 = .ok (.iload_n 1, 1) := by decide +kernel
theorem dX11_set_5 : decode cX11_set 5 = .ok (.invokevirtual 116, 3) := by decide +kernel
theorem dX11_set_8 : decode cX11_set 8 = .ok (.ifCond .eq 7, 3) := by decide +kernel
theorem dX11_set_11 : decode cX11_set 11 = .ok (.iload_n 3, 1) := by decide +kernel
theorem dX11_set_12 : decode cX11_set 12 = .ok (.ifCond .ge 5, 3) := by decide +kernel
theorem dX11_set_15 : decode cX11_set 15 = .ok (.iconst (-1), 1) := by decide +kernel
theorem dX11_set_16 : decode cX11_set 16 = .ok (.ireturn, 1) := by decide +kernel
theorem dX11_set_17 : decode cX11_set 17 = .ok (.iload_n 2, 1) := by decide +kernel
theorem dX11_set_18 : decode cX11_set 18 = .ok (.ifCond .ne 32, 3) := by decide +kernel
theorem dX11_set_21 : decode cX11_set 21 = .ok (.iload_n 3, 1) := by decide +kernel
theorem dX11_set_22 : decode cX11_set 22 = .ok (.bipush 99, 2) := by decide +kernel
theorem dX11_set_24 : decode cX11_set 24 = .ok (.if_icmp .gt 26, 3) := by decide +kernel
theorem dX11_set_27 : decode cX11_set 27 = .ok (.aload_n 0, 1) := by decide +kernel
theorem dX11_set_28 : decode cX11_set 28 = .ok (.getfield 23, 3) := by decide +kernel
theorem dX11_set_31 : decode cX11_set 31 = .ok (.getfield 127, 3) := by decide +kernel
theorem dX11_set_34 : decode cX11_set 34 = .ok (.iload_n 1, 1) := by decide +kernel
theorem dX11_set_35 : decode cX11_set 35 = .ok (.iaload, 1) := by decide +kernel
theorem dX11_set_36 : decode cX11_set 36 = .ok (.istore 4, 2) := by decide +kernel
theorem dX11_set_38 : decode cX11_set 38 = .ok (.aload_n 0, 1) := by decide +kernel
theorem dX11_set_39 : decode cX11_set 39 = .ok (.getfield 23, 3) := by decide +kernel
theorem dX11_set_42 : decode cX11_set 42 = .ok (.iload_n 1, 1) := by decide +kernel
theorem dX11_set_43 : decode cX11_set 43 = .ok (.iload_n 3, 1) := by decide +kernel
theorem dX11_set_44 : decode cX11_set 44 = .ok (.invokevirtual 143, 3) := by decide +kernel
theorem dX11_set_47 : decode cX11_set 47 = .ok (.iload 4, 2) := by decide +kernel
theorem dX11_set_49 : decode cX11_set 49 = .ok (.ireturn, 1) := by decide +kernel
theorem dX11_set_50 : decode cX11_set 50 = .ok (.iload_n 2, 1) := by decide +kernel
theorem dX11_set_51 : decode cX11_set 51 = .ok (.iconst 1, 1) := by decide +kernel
theorem dX11_set_52 : decode cX11_set 52 = .ok (.if_icmp .ne 33, 3) := by decide +kernel
theorem dX11_set_55 : decode cX11_set 55 = .ok (.iload_n 3, 1) := by decide +kernel
theorem dX11_set_56 : decode cX11_set 56 = .ok (.bipush 9, 2) := by decide +kernel
theorem dX11_set_58 : decode cX11_set 58 = .ok (.if_icmp .gt 27, 3) := by decide +kernel
theorem dX11_set_61 : decode cX11_set 61 = .ok (.aload_n 0, 1) := by decide +kernel
theorem dX11_set_62 : decode cX11_set 62 = .ok (.getfield 23, 3) := by decide +kernel
theorem dX11_set_65 : decode cX11_set 65 = .ok (.getfield 130, 3) := by decide +kernel
theorem dX11_set_68 : decode cX11_set 68 = .ok (.iload_n 1, 1) := by decide +kernel
theorem dX11_set_69 : decode cX11_set 69 = .ok (.iaload, 1) := by decide +kernel
theorem dX11_set_70 : decode cX11_set 70 = .ok (.istore 4, 2) := by decide +kernel
theorem dX11_set_72 : decode cX11_set 72 = .ok (.aload_n 0, 1) := by decide +kernel
theorem dX11_set_73 : decode cX11_set 73 = .ok (.getfield 23, 3) := by decide +kernel
theorem dX11_set_76 : decode cX11_set 76 = .ok (.getfield 130, 3) := by decide +kernel
theorem dX11_set_79 : decode cX11_set 79 = .ok (.iload_n 1, 1) := by decide +kernel
theorem dX11_set_80 : decode cX11_set 80 = .ok (.iload_n 3, 1) := by decide +kernel
theorem dX11_set_81 : decode cX11_set 81 = .ok (.iastore, 1) := by decide +kernel
theorem dX11_set_82 : decode cX11_set 82 = .ok (.iload 4, 2) := by decide +kernel
theorem dX11_set_84 : decode cX11_set 84 = .ok (.ireturn, 1) := by decide +kernel
theorem dX11_set_85 : decode cX11_set 85 = .ok (.iconst (-1), 1) := by decide +kernel
theorem dX11_set_86 : decode cX11_set 86 = .ok (.ireturn, 1) := by decide +kernel
set_option maxHeartbeats 4000000 in
set_option maxRecDepth 20000 in
theorem b_x_set_b50 {X : Cx} {d : Nat} (hX : Ok M_x_set (d + 1) X) {r : Int32 × Mem} (hr : RetI M_x_set X r.1 r.2) (x1 : Int32) (x2 : Int32) (x3 : Int32) (μ : Mem) (dy : Nat → Nat) (hf : f_x_set_b50 x1 x2 x3 μ = some r) : AW X 50 [(0, .ref (gA (xG X) 0)), (1, .int x1), (2, .int x2), (3, .int x3)] [] μ dy := by
  unfold f_x_set_b50 at hf
  refine r_iload_n hX dX11_set_50 2 rfl ?_
  refine r_iconst hX (1 : Int32) dX11_set_51 rfl ?_
  refine r_icmp_ne hX 85 dX11_set_52 rfl (fun hc7 => ?_) (fun hc7 => ?_)
  · rw [if_neg hc7] at hf
    refine r_iconst hX (-1 : Int32) dX11_set_85 rfl ?_
    exact fin_I hf hr _ _ _ dX11_set_86
  · rw [if_pos hc7] at hf
    refine r_iload_n hX dX11_set_55 3 rfl ?_
    refine r_bipush hX (9 : Int32) dX11_set_56 rfl ?_
    refine r_icmp_gt hX 85 dX11_set_58 rfl (fun hc8 => ?_) (fun hc8 => ?_)
    · rw [if_pos hc8] at hf
      refine r_iconst hX (-1 : Int32) dX11_set_85 rfl ?_
      exact fin_I hf hr _ _ _ dX11_set_86
    · rw [if_neg hc8] at hf
      refine r_aload_n hX dX11_set_61 0 rfl ?_
      refine r_get hX fl_X11_23 (w_0 _ _ _) rfl dX11_set_62 ?_
      refine r_getN hX fl_X11_130 (w_4 _ _ _) rfl dX11_set_65 ?_
      refine r_iload_n hX dX11_set_68 1 rfl ?_
      obtain ⟨b9, hf⟩ := chk_eq hf
      refine r_iald hX (w_6 _ _ _) (inb_in b9) dX11_set_69 ?_
      obtain ⟨v10, e11, hf⟩ := bnd_eq hf
      refine r_topI e11 ?_
      refine r_istore hX dX11_set_70 rfl (ls' := [(4, .int v10), (0, .ref (gA (xG X) 0)), (1, .int x1), (2, .int x2), (3, .int x3)]) rfl ?_
      refine r_aload_n hX dX11_set_72 1 rfl ?_
      refine r_get hX fl_X11_23 (w_0 _ _ _) rfl dX11_set_73 ?_
      refine r_getN hX fl_X11_130 (w_4 _ _ _) rfl dX11_set_76 ?_
      refine r_iload_n hX dX11_set_79 2 rfl ?_
      refine r_iload_n hX dX11_set_80 4 rfl ?_
      obtain ⟨b12, hf⟩ := chk_eq hf
      obtain ⟨μ13, e14, hf⟩ := bnd_eq hf
      refine r_iast hX (w_6 _ _ _) (inb_in b12) (s_6 _ _ _ _ _) e14 rfl dX11_set_81 ?_
      refine r_iload hX dX11_set_82 0 rfl ?_
      exact fin_I hf hr _ _ _ dX11_set_84
set_option maxHeartbeats 4000000 in
set_option maxRecDepth 20000 in
theorem c_x_set {G : Gx} {d : Nat} {x1 : Int32} {x2 : Int32} {x3 : Int32} {μ : Mem} {r : Int32 × Mem} (hf : f_x_set x1 x2 x3 μ = some r) : Con G M_x_set (d + 1) [.ref (gA G 0), .int x1, .int x2, .int x3] μ (some (.int r.1), r.2) := by
  refine Con.ofI ⟨rfl, rfl, Nat.le_of_ble_eq_true rfl⟩ rfl rfl (fun X hG hX hr dy => ?_)
  subst hG
  show AW X 0 [(0, .ref (gA (xG X) 0)), (1, .int x1), (2, .int x2), (3, .int x3)] [] μ dy
  unfold f_x_set at hf
  refine r_aload_n hX dX11_set_0 0 rfl ?_
  refine r_get hX fl_X11_23 (w_0 _ _ _) rfl dX11_set_1 ?_
  refine r_iload_n hX dX11_set_4 1 rfl ?_
  obtain ⟨v3, μ1, h2, hf⟩ := bd2_eq hf
  refine r_callVI (Ok.le hX (by omega)) (c_st_has (d := d)  h2) cv_X11_116 (w_4 _ _ _) rfl rfl (st := []) rfl rfl rfl dX11_set_5 (fun dy => ?_)
  refine r_if_eq hX 15 dX11_set_8 rfl (fun hc4 => ?_) (fun hc4 => ?_)
  · rw [if_pos hc4] at hf
    refine r_iconst hX (-1 : Int32) dX11_set_15 rfl ?_
    exact fin_I hf hr _ _ _ dX11_set_16
  · rw [if_neg hc4] at hf
    refine r_iload_n hX dX11_set_11 3 rfl ?_
    refine r_if_ge hX 17 dX11_set_12 rfl (fun hc5 => ?_) (fun hc5 => ?_)
    · rw [if_pos hc5] at hf
      refine r_iload_n hX dX11_set_17 2 rfl ?_
      refine r_if_ne hX 50 dX11_set_18 rfl (fun hc6 => ?_) (fun hc6 => ?_)
      · rw [if_neg hc6] at hf
        refine r_weak [0, 1, 2, 3] rfl ?_
        exact b_x_set_b50 hX hr _ _ _ _ _ hf
      · rw [if_pos hc6] at hf
        refine r_iload_n hX dX11_set_21 3 rfl ?_
        refine r_bipush hX (99 : Int32) dX11_set_22 rfl ?_
        refine r_icmp_gt hX 50 dX11_set_24 rfl (fun hc15 => ?_) (fun hc15 => ?_)
        · rw [if_pos hc15] at hf
          refine r_weak [0, 1, 2, 3] rfl ?_
          exact b_x_set_b50 hX hr _ _ _ _ _ hf
        · rw [if_neg hc15] at hf
          refine r_aload_n hX dX11_set_27 0 rfl ?_
          refine r_get hX fl_X11_23 (w_0 _ _ _) rfl dX11_set_28 ?_
          refine r_getN hX fl_X11_127 (w_4 _ _ _) rfl dX11_set_31 ?_
          refine r_iload_n hX dX11_set_34 1 rfl ?_
          obtain ⟨b16, hf⟩ := chk_eq hf
          refine r_iald hX (w_5 _ _ _) (inb_in b16) dX11_set_35 ?_
          obtain ⟨v17, e18, hf⟩ := bnd_eq hf
          refine r_topI e18 ?_
          refine r_istore hX dX11_set_36 rfl (ls' := [(4, .int v17), (0, .ref (gA (xG X) 0)), (1, .int x1), (2, .int x2), (3, .int x3)]) rfl ?_
          refine r_aload_n hX dX11_set_38 1 rfl ?_
          refine r_get hX fl_X11_23 (w_0 _ _ _) rfl dX11_set_39 ?_
          refine r_iload_n hX dX11_set_42 2 rfl ?_
          refine r_iload_n hX dX11_set_43 4 rfl ?_
          obtain ⟨μ19, h20, hf⟩ := bd1_eq hf
          refine r_callVV (Ok.le hX (by omega)) (c_st_putNeed (d := d)  h20) cv_X11_143 (w_4 _ _ _) rfl rfl (st := []) rfl rfl rfl dX11_set_44 (fun dy => ?_)
          refine r_iload hX dX11_set_47 0 rfl ?_
          exact fin_I hf hr _ _ _ dX11_set_49
    · rw [if_neg hc5] at hf
      refine r_iconst hX (-1 : Int32) dX11_set_15 rfl ?_
      exact fin_I hf hr _ _ _ dX11_set_16
theorem dX11_areTwo_0 : decode cX11_areTwo 0 = .ok (.aload_n 0, 1) := by decide +kernel
theorem dX11_areTwo_1 : decode cX11_areTwo 1 = .ok (.getfield 23, 3) := by decide +kernel
theorem dX11_areTwo_4 : decode cX11_areTwo 4 = .ok (.iload_n 1, 1) := by decide +kernel
theorem dX11_areTwo_5 : decode cX11_areTwo 5 = .ok (.invokevirtual 116, 3) := by decide +kernel
theorem dX11_areTwo_8 : decode cX11_areTwo 8 = .ok (.ifCond .eq 23, 3) := by decide +kernel
theorem dX11_areTwo_11 : decode cX11_areTwo 11 = .ok (.aload_n 0, 1) := by decide +kernel
theorem dX11_areTwo_12 : decode cX11_areTwo 12 = .ok (.getfield 23, 3) := by decide +kernel
theorem dX11_areTwo_15 : decode cX11_areTwo 15 = .ok (.iload_n 2, 1) := by decide +kernel
theorem dX11_areTwo_16 : decode cX11_areTwo 16 = .ok (.invokevirtual 116, 3) := by decide +kernel
theorem dX11_areTwo_19 : decode cX11_areTwo 19 = .ok (.ifCond .eq 12, 3) := by decide +kernel
theorem dX11_areTwo_22 : decode cX11_areTwo 22 = .ok (.iload_n 1, 1) := by decide +kernel
theorem dX11_areTwo_23 : decode cX11_areTwo 23 = .ok (.iload_n 2, 1) := by decide +kernel
theorem dX11_areTwo_24 : decode cX11_areTwo 24 = .ok (.if_icmp .eq 7, 3) := by decide +kernel
theorem dX11_areTwo_27 : decode cX11_areTwo 27 = .ok (.iconst 1, 1) := by decide +kernel
theorem dX11_areTwo_28 : decode cX11_areTwo 28 = .ok (.goto 4, 3) := by decide +kernel
theorem dX11_areTwo_31 : decode cX11_areTwo 31 = .ok (.iconst 0, 1) := by decide +kernel
theorem dX11_areTwo_32 : decode cX11_areTwo 32 = .ok (.ireturn, 1) := by decide +kernel
set_option maxHeartbeats 4000000 in
set_option maxRecDepth 20000 in
theorem c_x_areTwo {G : Gx} {d : Nat} {x1 : Int32} {x2 : Int32} {μ : Mem} {r : Int32 × Mem} (hf : f_x_areTwo x1 x2 μ = some r) : Con G M_x_areTwo (d + 1) [.ref (gA G 0), .int x1, .int x2] μ (some (.int r.1), r.2) := by
  refine Con.ofZ ⟨rfl, rfl, Nat.le_of_ble_eq_true rfl⟩ rfl (fun X hG hX hr dy => ?_)
  subst hG
  show AW X 0 [(0, .ref (gA (xG X) 0)), (1, .int x1), (2, .int x2)] [] μ dy
  unfold f_x_areTwo at hf
  refine r_aload_n hX dX11_areTwo_0 0 rfl ?_
  refine r_get hX fl_X11_23 (w_0 _ _ _) rfl dX11_areTwo_1 ?_
  refine r_iload_n hX dX11_areTwo_4 1 rfl ?_
  obtain ⟨v3, μ1, h2, hf⟩ := bd2_eq hf
  refine r_callVI (Ok.le hX (by omega)) (c_st_has (d := d)  h2) cv_X11_116 (w_4 _ _ _) rfl rfl (st := []) rfl rfl rfl dX11_areTwo_5 (fun dy => ?_)
  refine r_if_eq hX 31 dX11_areTwo_8 rfl (fun hc4 => ?_) (fun hc4 => ?_)
  · rw [if_pos hc4] at hf
    refine r_iconst hX (0 : Int32) dX11_areTwo_31 rfl ?_
    obtain ⟨b5, hf⟩ := chk_eq hf
    exact fin_Z hf hr _ _ _ (zb_nar b5) dX11_areTwo_32
  · rw [if_neg hc4] at hf
    refine r_aload_n hX dX11_areTwo_11 0 rfl ?_
    refine r_get hX fl_X11_23 (w_0 _ _ _) rfl dX11_areTwo_12 ?_
    refine r_iload_n hX dX11_areTwo_15 2 rfl ?_
    obtain ⟨v8, μ6, h7, hf⟩ := bd2_eq hf
    refine r_callVI (Ok.le hX (by omega)) (c_st_has (d := d)  h7) cv_X11_116 (w_4 _ _ _) rfl rfl (st := []) rfl rfl rfl dX11_areTwo_16 (fun dy => ?_)
    obtain ⟨v9, e10, hf⟩ := bnd_eq hf
    have J11 : AW X 32 [(0, .ref (gA (xG X) 0)), (1, .int x1), (2, .int x2)] [.int v9] μ6 dy := by
      obtain ⟨b12, hf⟩ := chk_eq hf
      exact fin_Z hf hr _ _ _ (zb_nar b12) dX11_areTwo_32
    refine r_if_eq hX 31 dX11_areTwo_19 rfl (fun hc13 => ?_) (fun hc13 => ?_)
    · refine r_iconst hX (0 : Int32) dX11_areTwo_31 rfl ?_
      exact r_topI (e10.trans (by rw [if_pos hc13])) J11
    · refine r_iload_n hX dX11_areTwo_22 1 rfl ?_
      refine r_iload_n hX dX11_areTwo_23 2 rfl ?_
      refine r_icmp_eq hX 31 dX11_areTwo_24 rfl (fun hc14 => ?_) (fun hc14 => ?_)
      · refine r_iconst hX (0 : Int32) dX11_areTwo_31 rfl ?_
        exact r_topI (e10.trans (by rw [if_neg hc13, if_pos hc14])) J11
      · refine r_iconst hX (1 : Int32) dX11_areTwo_27 rfl ?_
        refine r_goto hX 32 dX11_areTwo_28 rfl ?_
        exact r_topI (e10.trans (by rw [if_neg hc13, if_neg hc14])) J11
theorem dX11_hears_0 : decode cX11_hears 0 = .ok (.aload_n 0, 1) := by decide +kernel
theorem dX11_hears_1 : decode cX11_hears 1 = .ok (.iload_n 1, 1) := by decide +kernel
theorem dX11_hears_2 : decode cX11_hears 2 = .ok (.iload_n 2, 1) := by decide +kernel
theorem dX11_hears_3 : decode cX11_hears 3 = .ok (.invokevirtual 147, 3) := by decide +kernel
theorem dX11_hears_6 : decode cX11_hears 6 = .ok (.ifCond .eq 17, 3) := by decide +kernel
theorem dX11_hears_9 : decode cX11_hears 9 = .ok (.aload_n 0, 1) := by decide +kernel
theorem dX11_hears_10 : decode cX11_hears 10 = .ok (.getfield 23, 3) := by decide +kernel
theorem dX11_hears_13 : decode cX11_hears 13 = .ok (.getfield 151, 3) := by decide +kernel
theorem dX11_hears_16 : decode cX11_hears 16 = .ok (.iload_n 1, 1) := by decide +kernel
theorem dX11_hears_17 : decode cX11_hears 17 = .ok (.aaload, 1) := by decide +kernel
theorem dX11_hears_18 : decode cX11_hears 18 = .ok (.iload_n 2, 1) := by decide +kernel
theorem dX11_hears_19 : decode cX11_hears 19 = .ok (.iaload, 1) := by decide +kernel
theorem dX11_hears_20 : decode cX11_hears 20 = .ok (.goto 4, 3) := by decide +kernel
theorem dX11_hears_23 : decode cX11_hears 23 = .ok (.iconst (-1), 1) := by decide +kernel
theorem dX11_hears_24 : decode cX11_hears 24 = .ok (.ireturn, 1) := by decide +kernel
set_option maxHeartbeats 4000000 in
set_option maxRecDepth 20000 in
theorem c_x_hears {G : Gx} {d : Nat} {x1 : Int32} {x2 : Int32} {μ : Mem} {r : Int32 × Mem} (hf : f_x_hears x1 x2 μ = some r) : Con G M_x_hears (d + 2) [.ref (gA G 0), .int x1, .int x2] μ (some (.int r.1), r.2) := by
  refine Con.ofI ⟨rfl, rfl, Nat.le_of_ble_eq_true rfl⟩ rfl rfl (fun X hG hX hr dy => ?_)
  subst hG
  show AW X 0 [(0, .ref (gA (xG X) 0)), (1, .int x1), (2, .int x2)] [] μ dy
  unfold f_x_hears at hf
  refine r_aload_n hX dX11_hears_0 0 rfl ?_
  refine r_iload_n hX dX11_hears_1 1 rfl ?_
  refine r_iload_n hX dX11_hears_2 2 rfl ?_
  obtain ⟨v3, μ1, h2, hf⟩ := bd2_eq hf
  refine r_callVI (Ok.le hX (by omega)) (c_x_areTwo (d := d)  h2) cv_X11_147 (w_0 _ _ _) rfl rfl (st := []) rfl rfl rfl dX11_hears_3 (fun dy => ?_)
  refine r_if_eq hX 23 dX11_hears_6 rfl (fun hc4 => ?_) (fun hc4 => ?_)
  · rw [if_pos hc4] at hf
    refine r_iconst hX (-1 : Int32) dX11_hears_23 rfl ?_
    exact fin_I hf hr _ _ _ dX11_hears_24
  · rw [if_neg hc4] at hf
    refine r_aload_n hX dX11_hears_9 0 rfl ?_
    refine r_get hX fl_X11_23 (w_0 _ _ _) rfl dX11_hears_10 ?_
    refine r_getN hX fl_X11_151 (w_4 _ _ _) rfl dX11_hears_13 ?_
    refine r_iload_n hX dX11_hears_16 1 rfl ?_
    obtain ⟨b5, hf⟩ := chk_eq hf
    refine r_aald hX (w_7 _ _ _) (b := gA (xG X) (8 + x1.toNatClampNeg)) rfl rfl (inb_in b5) (if_pos (inb_lt b5)) dX11_hears_17 ?_
    refine r_iload_n hX dX11_hears_18 2 rfl ?_
    obtain ⟨b6, hf⟩ := chk_eq hf
    refine r_iald hX (wLo (inb_lt b5)) (inb_in b6) dX11_hears_19 ?_
    refine r_goto hX 24 dX11_hears_20 rfl ?_
    exact fin_I hf hr _ _ _ dX11_hears_24
theorem dX11_entry_0 : decode cX11_entry 0 = .ok (.iload_n 0, 1) := by decide +kernel
theorem dX11_entry_1 : decode cX11_entry 1 = .ok (.ifCond .ne 8, 3) := by decide +kernel
theorem dX11_entry_4 : decode cX11_entry 4 = .ok (.iload_n 1, 1) := by decide +kernel
theorem dX11_entry_5 : decode cX11_entry 5 = .ok (.i2b, 1) := by decide +kernel
theorem dX11_entry_6 : decode cX11_entry 6 = .ok (.goto 14, 3) := by decide +kernel
theorem dX11_entry_9 : decode cX11_entry 9 = .ok (.iload_n 0, 1) := by decide +kernel
theorem dX11_entry_10 : decode cX11_entry 10 = .ok (.iconst 1, 1) := by decide +kernel
theorem dX11_entry_11 : decode cX11_entry 11 = .ok (.if_icmp .ne 8, 3) := by decide +kernel
theorem dX11_entry_14 : decode cX11_entry 14 = .ok (.iload_n 1, 1) := by decide +kernel
theorem dX11_entry_15 : decode cX11_entry 15 = .ok (.i2s, 1) := by decide +kernel
theorem dX11_entry_16 : decode cX11_entry 16 = .ok (.goto 4, 3) := by decide +kernel
theorem dX11_entry_19 : decode cX11_entry 19 = .ok (.iload_n 1, 1) := by decide +kernel
theorem dX11_entry_20 : decode cX11_entry 20 = .ok (.istore_n 2, 1) := by decide +kernel
theorem dX11_entry_21 : decode cX11_entry 21 = .ok (.iconst 0, 1) := by decide +kernel
theorem dX11_entry_22 : decode cX11_entry 22 = .ok (.bipush 99, 2) := by decide +kernel
theorem dX11_entry_24 : decode cX11_entry 24 = .ok (.iload_n 2, 1) := by decide +kernel
theorem dX11_entry_25 : decode cX11_entry 25 = .ok (.invokestatic 162, 3) := by decide +kernel
theorem dX11_entry_28 : decode cX11_entry 28 = .ok (.invokestatic 167, 3) := by decide +kernel
theorem dX11_entry_31 : decode cX11_entry 31 = .ok (.ireturn, 1) := by decide +kernel
set_option maxHeartbeats 4000000 in
set_option maxRecDepth 20000 in
theorem c_x_entry {G : Gx} {d : Nat} {x0 : Int32} {x1 : Int32} {μ : Mem} {r : Int32 × Mem} (hf : f_x_entry x0 x1 μ = some r) : Con G M_x_entry (d + 1) [.int x0, .int x1] μ (some (.int r.1), r.2) := by
  refine Con.ofI ⟨rfl, rfl, Nat.le_of_ble_eq_true rfl⟩ rfl rfl (fun X hG hX hr dy => ?_)
  subst hG
  show AW X 0 [(0, .int x0), (1, .int x1)] [] μ dy
  unfold f_x_entry at hf
  refine r_iload_n hX dX11_entry_0 0 rfl ?_
  obtain ⟨v1, e2, hf⟩ := bnd_eq hf
  have J3 : AW X 20 [(0, .int x0), (1, .int x1)] [.int v1] μ dy := by
    refine r_istore_n hX dX11_entry_20 rfl (ls' := [(2, .int v1), (0, .int x0), (1, .int x1)]) rfl ?_
    refine r_iconst hX (0 : Int32) dX11_entry_21 rfl ?_
    refine r_bipush hX (99 : Int32) dX11_entry_22 rfl ?_
    refine r_iload_n hX dX11_entry_24 0 rfl ?_
    refine r_min (d := d + 0) (Ok.le hX (by omega)) cs_X11_162 rfl dX11_entry_25 ?_
    refine r_max (d := d + 0) (Ok.le hX (by omega)) cs_X11_167 rfl dX11_entry_28 ?_
    exact fin_I hf hr _ _ _ dX11_entry_31
  refine r_if_ne hX 9 dX11_entry_1 rfl (fun hc4 => ?_) (fun hc4 => ?_)
  · refine r_iload_n hX dX11_entry_9 0 rfl ?_
    refine r_iconst hX (1 : Int32) dX11_entry_10 rfl ?_
    refine r_icmp_ne hX 19 dX11_entry_11 rfl (fun hc5 => ?_) (fun hc5 => ?_)
    · refine r_iload_n hX dX11_entry_19 1 rfl ?_
      exact r_topI (e2.trans (by rw [if_neg hc4, if_neg hc5])) J3
    · refine r_iload_n hX dX11_entry_14 1 rfl ?_
      refine r_i2s hX dX11_entry_15 ?_
      refine r_goto hX 20 dX11_entry_16 rfl ?_
      exact r_topI (e2.trans (by rw [if_neg hc4, if_pos hc5])) J3
  · refine r_iload_n hX dX11_entry_4 1 rfl ?_
    refine r_i2b hX dX11_entry_5 ?_
    refine r_goto hX 20 dX11_entry_6 rfl ?_
    exact r_topI (e2.trans (by rw [if_pos hc4])) J3
theorem dX11_sheet_0 : decode cX11_sheet 0 = .ok (.iload_n 1, 1) := by decide +kernel
theorem dX11_sheet_1 : decode cX11_sheet 1 = .ok (.ifCond .lt 14, 3) := by decide +kernel
theorem dX11_sheet_4 : decode cX11_sheet 4 = .ok (.iload_n 1, 1) := by decide +kernel
theorem dX11_sheet_5 : decode cX11_sheet 5 = .ok (.iconst 3, 1) := by decide +kernel
theorem dX11_sheet_6 : decode cX11_sheet 6 = .ok (.if_icmp .gt 9, 3) := by decide +kernel
theorem dX11_sheet_9 : decode cX11_sheet 9 = .ok (.iload_n 2, 1) := by decide +kernel
theorem dX11_sheet_10 : decode cX11_sheet 10 = .ok (.bipush 14, 2) := by decide +kernel
theorem dX11_sheet_12 : decode cX11_sheet 12 = .ok (.if_icmp .le 5, 3) := by decide +kernel
theorem dX11_sheet_15 : decode cX11_sheet 15 = .ok (.iconst (-1), 1) := by decide +kernel
theorem dX11_sheet_16 : decode cX11_sheet 16 = .ok (.ireturn, 1) := by decide +kernel
theorem dX11_sheet_17 : decode cX11_sheet 17 = .ok (.iload_n 1, 1) := by decide +kernel
theorem dX11_sheet_18 : decode cX11_sheet 18 = .ok (.iconst 3, 1) := by decide +kernel
theorem dX11_sheet_19 : decode cX11_sheet 19 = .ok (.if_icmp .ge 10, 3) := by decide +kernel
theorem dX11_sheet_22 : decode cX11_sheet 22 = .ok (.iload_n 2, 1) := by decide +kernel
theorem dX11_sheet_23 : decode cX11_sheet 23 = .ok (.ifCond .ge 6, 3) := by decide +kernel
theorem dX11_sheet_26 : decode cX11_sheet 26 = .ok (.bipush (-2), 2) := by decide +kernel
theorem dX11_sheet_28 : decode cX11_sheet 28 = .ok (.ireturn, 1) := by decide +kernel
theorem dX11_sheet_29 : decode cX11_sheet 29 = .ok (.iload_n 1, 1) := by decide +kernel
theorem dX11_sheet_30 : decode cX11_sheet 30 = .ok (.iconst 3, 1) := by decide +kernel
theorem dX11_sheet_31 : decode cX11_sheet 31 = .ok (.if_icmp .ne 7, 3) := by decide +kernel
theorem dX11_sheet_34 : decode cX11_sheet 34 = .ok (.iconst 0, 1) := by decide +kernel
theorem dX11_sheet_35 : decode cX11_sheet 35 = .ok (.goto 4, 3) := by decide +kernel
theorem dX11_sheet_38 : decode cX11_sheet 38 = .ok (.iload_n 2, 1) := by decide +kernel
theorem dX11_sheet_39 : decode cX11_sheet 39 = .ok (.istore 5, 2) := by decide +kernel
theorem dX11_sheet_41 : decode cX11_sheet 41 = .ok (.iconst 0, 1) := by decide +kernel
theorem dX11_sheet_42 : decode cX11_sheet 42 = .ok (.istore 6, 2) := by decide +kernel
theorem dX11_sheet_44 : decode cX11_sheet 44 = .ok (.iconst 0, 1) := by decide +kernel
theorem dX11_sheet_45 : decode cX11_sheet 45 = .ok (.istore 7, 2) := by decide +kernel
theorem dX11_sheet_47 : decode cX11_sheet 47 = .ok (.iload 7, 2) := by decide +kernel
theorem dX11_sheet_49 : decode cX11_sheet 49 = .ok (.aload_n 0, 1) := by decide +kernel
theorem dX11_sheet_50 : decode cX11_sheet 50 = .ok (.getfield 23, 3) := by decide +kernel
theorem dX11_sheet_53 : decode cX11_sheet 53 = .ok (.getfield 155, 3) := by decide +kernel
theorem dX11_sheet_56 : decode cX11_sheet 56 = .ok (.if_icmp .ge 52, 3) := by decide +kernel
theorem dX11_sheet_59 : decode cX11_sheet 59 = .ok (.iload 7, 2) := by decide +kernel
theorem dX11_sheet_61 : decode cX11_sheet 61 = .ok (.iload 5, 2) := by decide +kernel
theorem dX11_sheet_63 : decode cX11_sheet 63 = .ok (.if_icmp .ge 17, 3) := by decide +kernel
theorem dX11_sheet_66 : decode cX11_sheet 66 = .ok (.iload_n 1, 1) := by decide +kernel
theorem dX11_sheet_67 : decode cX11_sheet 67 = .ok (.iload_n 3, 1) := by decide +kernel
theorem dX11_sheet_68 : decode cX11_sheet 68 = .ok (.iload 7, 2) := by decide +kernel
theorem dX11_sheet_70 : decode cX11_sheet 70 = .ok (.iload 4, 2) := by decide +kernel
theorem dX11_sheet_72 : decode cX11_sheet 72 = .ok (.imul, 1) := by decide +kernel
theorem dX11_sheet_73 : decode cX11_sheet 73 = .ok (.iadd, 1) := by decide +kernel
theorem dX11_sheet_74 : decode cX11_sheet 74 = .ok (.invokestatic 158, 3) := by decide +kernel
theorem dX11_sheet_77 : decode cX11_sheet 77 = .ok (.goto 5, 3) := by decide +kernel
theorem dX11_sheet_80 : decode cX11_sheet 80 = .ok (.bipush 50, 2) := by decide +kernel
theorem dX11_sheet_82 : decode cX11_sheet 82 = .ok (.istore 8, 2) := by decide +kernel
theorem dX11_sheet_84 : decode cX11_sheet 84 = .ok (.aload_n 0, 1) := by decide +kernel
theorem dX11_sheet_85 : decode cX11_sheet 85 = .ok (.getfield 23, 3) := by decide +kernel
theorem dX11_sheet_88 : decode cX11_sheet 88 = .ok (.iload 7, 2) := by decide +kernel
theorem dX11_sheet_90 : decode cX11_sheet 90 = .ok (.iload 8, 2) := by decide +kernel
theorem dX11_sheet_92 : decode cX11_sheet 92 = .ok (.invokevirtual 143, 3) := by decide +kernel
theorem dX11_sheet_95 : decode cX11_sheet 95 = .ok (.iload 6, 2) := by decide +kernel
theorem dX11_sheet_97 : decode cX11_sheet 97 = .ok (.iload 8, 2) := by decide +kernel
theorem dX11_sheet_99 : decode cX11_sheet 99 = .ok (.iadd, 1) := by decide +kernel
theorem dX11_sheet_100 : decode cX11_sheet 100 = .ok (.istore 6, 2) := by decide +kernel
theorem dX11_sheet_102 : decode cX11_sheet 102 = .ok (.iinc 7 1, 3) := by decide +kernel
theorem dX11_sheet_105 : decode cX11_sheet 105 = .ok (.goto (-58), 3) := by decide +kernel
theorem dX11_sheet_108 : decode cX11_sheet 108 = .ok (.iload_n 1, 1) := by decide +kernel
theorem dX11_sheet_109 : decode cX11_sheet 109 = .ok (.iconst 3, 1) := by decide +kernel
theorem dX11_sheet_110 : decode cX11_sheet 110 = .ok (.if_icmp .ne 8, 3) := by decide +kernel
theorem dX11_sheet_113 : decode cX11_sheet 113 = .ok (.bipush (-3), 2) := by decide +kernel
theorem dX11_sheet_115 : decode cX11_sheet 115 = .ok (.goto 5, 3) := by decide +kernel
theorem dX11_sheet_118 : decode cX11_sheet 118 = .ok (.iload 6, 2) := by decide +kernel
theorem dX11_sheet_120 : decode cX11_sheet 120 = .ok (.ireturn, 1) := by decide +kernel
set_option maxHeartbeats 4000000 in
set_option maxRecDepth 20000 in
theorem b_x_sheet_b82 {X : Cx} {d : Nat} (hX : Ok M_x_sheet (d + 2) X) {r : Int32 × Mem} (hr : RetI M_x_sheet X r.1 r.2) {k47 : Int32 → Int32 → Int32 → Int32 → Int32 → Int32 → Mem → Option (Int32 × Mem)} (hk47 : ∀ (x1 : Int32) (x3 : Int32) (x4 : Int32) (x5 : Int32) (x6 : Int32) (x7 : Int32) (μ : Mem) (dy : Nat → Nat), k47 x1 x3 x4 x5 x6 x7 μ = some r → AW X 47 [(0, .ref (gA (xG X) 0)), (1, .int x1), (3, .int x3), (4, .int x4), (5, .int x5), (6, .int x6), (7, .int x7)] [] μ dy) (x1 : Int32) (x3 : Int32) (x4 : Int32) (x5 : Int32) (x6 : Int32) (x7 : Int32) (s0 : Int32) (μ : Mem) (dy : Nat → Nat) (hf : f_x_sheet_b82 k47 x1 x3 x4 x5 x6 x7 s0 μ = some r) : AW X 82 [(0, .ref (gA (xG X) 0)), (1, .int x1), (3, .int x3), (4, .int x4), (5, .int x5), (6, .int x6), (7, .int x7)] [.int s0] μ dy := by
  unfold f_x_sheet_b82 at hf
  refine r_istore hX dX11_sheet_82 rfl (ls' := [(8, .int s0), (0, .ref (gA (xG X) 0)), (1, .int x1), (3, .int x3), (4, .int x4), (5, .int x5), (6, .int x6), (7, .int x7)]) rfl ?_
  refine r_aload_n hX dX11_sheet_84 1 rfl ?_
  refine r_get hX fl_X11_23 (w_0 _ _ _) rfl dX11_sheet_85 ?_
  refine r_iload hX dX11_sheet_88 7 rfl ?_
  refine r_iload hX dX11_sheet_90 0 rfl ?_
  obtain ⟨μ14, h15, hf⟩ := bd1_eq hf
  refine r_callVV (Ok.le hX (by omega)) (c_st_putNeed (d := d)  h15) cv_X11_143 (w_4 _ _ _) rfl rfl (st := []) rfl rfl rfl dX11_sheet_92 (fun dy => ?_)
  refine r_iload hX dX11_sheet_95 6 rfl ?_
  refine r_iload hX dX11_sheet_97 0 rfl ?_
  refine r_iadd hX dX11_sheet_99 ?_
  refine r_istore hX dX11_sheet_100 rfl (ls' := [(6, .int (x6 + s0)), (8, .int s0), (0, .ref (gA (xG X) 0)), (1, .int x1), (3, .int x3), (4, .int x4), (5, .int x5), (7, .int x7)]) rfl ?_
  refine r_iinc hX (x7 + (1 : Int32)) dX11_sheet_102 7 rfl rfl rfl (ls' := [(7, .int (x7 + (1 : Int32))), (6, .int (x6 + s0)), (8, .int s0), (0, .ref (gA (xG X) 0)), (1, .int x1), (3, .int x3), (4, .int x4), (5, .int x5)]) rfl ?_
  refine r_goto hX 47 dX11_sheet_105 rfl ?_
  refine r_weak [3, 4, 5, 6, 7, 1, 0] rfl ?_
  exact hk47 _ _ _ _ _ _ _ _ hf
set_option maxHeartbeats 4000000 in
set_option maxRecDepth 20000 in
theorem b_x_sheet_b47 {X : Cx} {d : Nat} (hX : Ok M_x_sheet (d + 2) X) {r : Int32 × Mem} (hr : RetI M_x_sheet X r.1 r.2) : ∀ (n : Nat) (x1 : Int32) (x3 : Int32) (x4 : Int32) (x5 : Int32) (x6 : Int32) (x7 : Int32) (μ : Mem) (dy : Nat → Nat), f_x_sheet_b47 n x1 x3 x4 x5 x6 x7 μ = some r → AW X 47 [(0, .ref (gA (xG X) 0)), (1, .int x1), (3, .int x3), (4, .int x4), (5, .int x5), (6, .int x6), (7, .int x7)] [] μ dy := by
  intro n
  induction n with
  | zero => intro x1 x3 x4 x5 x6 x7 μ dy hf; exact nomatch hf
  | succ n ih =>
    intro x1 x3 x4 x5 x6 x7 μ dy hf
    rw [f_x_sheet_b47] at hf
    refine r_iload hX dX11_sheet_47 6 rfl ?_
    refine r_aload_n hX dX11_sheet_49 0 rfl ?_
    refine r_get hX fl_X11_23 (w_0 _ _ _) rfl dX11_sheet_50 ?_
    refine r_getN hX fl_X11_155 (w_4 _ _ _) rfl dX11_sheet_53 ?_
    refine r_icmp_ge hX 108 dX11_sheet_56 rfl (fun hc8 => ?_) (fun hc8 => ?_)
    · rw [if_pos hc8] at hf
      refine r_iload_n hX dX11_sheet_108 1 rfl ?_
      refine r_iconst hX (3 : Int32) dX11_sheet_109 rfl ?_
      obtain ⟨v9, e10, hf⟩ := bnd_eq hf
      have J11 : AW X 120 [(0, .ref (gA (xG X) 0)), (1, .int x1), (3, .int x3), (4, .int x4), (5, .int x5), (6, .int x6), (7, .int x7)] [.int v9] μ dy := by
        exact fin_I hf hr _ _ _ dX11_sheet_120
      refine r_icmp_ne hX 118 dX11_sheet_110 rfl (fun hc12 => ?_) (fun hc12 => ?_)
      · refine r_iload hX dX11_sheet_118 5 rfl ?_
        exact r_topI (e10.trans (by rw [if_neg hc12])) J11
      · refine r_bipush hX (-3 : Int32) dX11_sheet_113 rfl ?_
        refine r_goto hX 120 dX11_sheet_115 rfl ?_
        exact r_topI (e10.trans (by rw [if_pos hc12])) J11
    · rw [if_neg hc8] at hf
      refine r_iload hX dX11_sheet_59 6 rfl ?_
      refine r_iload hX dX11_sheet_61 4 rfl ?_
      refine r_icmp_ge hX 80 dX11_sheet_63 rfl (fun hc13 => ?_) (fun hc13 => ?_)
      · rw [if_pos hc13] at hf
        refine r_bipush hX (50 : Int32) dX11_sheet_80 rfl ?_
        refine r_weak [0, 1, 2, 3, 4, 5, 6] rfl ?_
        exact b_x_sheet_b82 hX hr ih _ _ _ _ _ _ _ _ _ hf
      · rw [if_neg hc13] at hf
        refine r_iload_n hX dX11_sheet_66 1 rfl ?_
        refine r_iload_n hX dX11_sheet_67 2 rfl ?_
        refine r_iload hX dX11_sheet_68 6 rfl ?_
        refine r_iload hX dX11_sheet_70 3 rfl ?_
        refine r_imul hX dX11_sheet_72 ?_
        refine r_iadd hX dX11_sheet_73 ?_
        obtain ⟨v18, μ16, h17, hf⟩ := bd2_eq hf
        refine r_callSI (Ok.le hX (by omega)) (c_x_entry (d := d)  h17) cs_X11_158 (st := []) rfl rfl rfl dX11_sheet_74 (fun dy => ?_)
        refine r_goto hX 82 dX11_sheet_77 rfl ?_
        refine r_weak [0, 1, 2, 3, 4, 5, 6] rfl ?_
        exact b_x_sheet_b82 hX hr ih _ _ _ _ _ _ _ _ _ hf
set_option maxHeartbeats 4000000 in
set_option maxRecDepth 20000 in
theorem b_x_sheet_b29 {X : Cx} {d : Nat} (hX : Ok M_x_sheet (d + 2) X) {r : Int32 × Mem} (hr : RetI M_x_sheet X r.1 r.2) (x1 : Int32) (x2 : Int32) (x3 : Int32) (x4 : Int32) (μ : Mem) (dy : Nat → Nat) (hf : f_x_sheet_b29 x1 x2 x3 x4 μ = some r) : AW X 29 [(0, .ref (gA (xG X) 0)), (1, .int x1), (2, .int x2), (3, .int x3), (4, .int x4)] [] μ dy := by
  unfold f_x_sheet_b29 at hf
  refine r_iload_n hX dX11_sheet_29 1 rfl ?_
  refine r_iconst hX (3 : Int32) dX11_sheet_30 rfl ?_
  obtain ⟨v5, e6, hf⟩ := bnd_eq hf
  have J7 : AW X 39 [(0, .ref (gA (xG X) 0)), (1, .int x1), (2, .int x2), (3, .int x3), (4, .int x4)] [.int v5] μ dy := by
    refine r_istore hX dX11_sheet_39 rfl (ls' := [(5, .int v5), (0, .ref (gA (xG X) 0)), (1, .int x1), (2, .int x2), (3, .int x3), (4, .int x4)]) rfl ?_
    refine r_iconst hX (0 : Int32) dX11_sheet_41 rfl ?_
    refine r_istore hX dX11_sheet_42 rfl (ls' := [(6, .int (0 : Int32)), (5, .int v5), (0, .ref (gA (xG X) 0)), (1, .int x1), (2, .int x2), (3, .int x3), (4, .int x4)]) rfl ?_
    refine r_iconst hX (0 : Int32) dX11_sheet_44 rfl ?_
    refine r_istore hX dX11_sheet_45 rfl (ls' := [(7, .int (0 : Int32)), (6, .int (0 : Int32)), (5, .int v5), (0, .ref (gA (xG X) 0)), (1, .int x1), (2, .int x2), (3, .int x3), (4, .int x4)]) rfl ?_
    refine r_weak [3, 4, 6, 7, 2, 1, 0] rfl ?_
    exact b_x_sheet_b47 hX hr FU _ _ _ _ _ _ _ _ hf
  refine r_icmp_ne hX 38 dX11_sheet_31 rfl (fun hc19 => ?_) (fun hc19 => ?_)
  · refine r_iload_n hX dX11_sheet_38 2 rfl ?_
    exact r_topI (e6.trans (by rw [if_neg hc19])) J7
  · refine r_iconst hX (0 : Int32) dX11_sheet_34 rfl ?_
    refine r_goto hX 39 dX11_sheet_35 rfl ?_
    exact r_topI (e6.trans (by rw [if_pos hc19])) J7
set_option maxHeartbeats 4000000 in
set_option maxRecDepth 20000 in
theorem c_x_sheet {G : Gx} {d : Nat} {x1 : Int32} {x2 : Int32} {x3 : Int32} {x4 : Int32} {μ : Mem} {r : Int32 × Mem} (hf : f_x_sheet x1 x2 x3 x4 μ = some r) : Con G M_x_sheet (d + 2) [.ref (gA G 0), .int x1, .int x2, .int x3, .int x4] μ (some (.int r.1), r.2) := by
  refine Con.ofI ⟨rfl, rfl, Nat.le_of_ble_eq_true rfl⟩ rfl rfl (fun X hG hX hr dy => ?_)
  subst hG
  show AW X 0 [(0, .ref (gA (xG X) 0)), (1, .int x1), (2, .int x2), (3, .int x3), (4, .int x4)] [] μ dy
  unfold f_x_sheet at hf
  refine r_iload_n hX dX11_sheet_0 1 rfl ?_
  refine r_if_lt hX 15 dX11_sheet_1 rfl (fun hc1 => ?_) (fun hc1 => ?_)
  · rw [if_pos hc1] at hf
    refine r_iconst hX (-1 : Int32) dX11_sheet_15 rfl ?_
    exact fin_I hf hr _ _ _ dX11_sheet_16
  · rw [if_neg hc1] at hf
    refine r_iload_n hX dX11_sheet_4 1 rfl ?_
    refine r_iconst hX (3 : Int32) dX11_sheet_5 rfl ?_
    refine r_icmp_gt hX 15 dX11_sheet_6 rfl (fun hc2 => ?_) (fun hc2 => ?_)
    · rw [if_pos hc2] at hf
      refine r_iconst hX (-1 : Int32) dX11_sheet_15 rfl ?_
      exact fin_I hf hr _ _ _ dX11_sheet_16
    · rw [if_neg hc2] at hf
      refine r_iload_n hX dX11_sheet_9 2 rfl ?_
      refine r_bipush hX (14 : Int32) dX11_sheet_10 rfl ?_
      refine r_icmp_le hX 17 dX11_sheet_12 rfl (fun hc3 => ?_) (fun hc3 => ?_)
      · rw [if_pos hc3] at hf
        refine r_iload_n hX dX11_sheet_17 1 rfl ?_
        refine r_iconst hX (3 : Int32) dX11_sheet_18 rfl ?_
        refine r_icmp_ge hX 29 dX11_sheet_19 rfl (fun hc4 => ?_) (fun hc4 => ?_)
        · rw [if_pos hc4] at hf
          refine r_weak [0, 1, 2, 3, 4] rfl ?_
          exact b_x_sheet_b29 hX hr _ _ _ _ _ _ hf
        · rw [if_neg hc4] at hf
          refine r_iload_n hX dX11_sheet_22 2 rfl ?_
          refine r_if_ge hX 29 dX11_sheet_23 rfl (fun hc20 => ?_) (fun hc20 => ?_)
          · rw [if_pos hc20] at hf
            refine r_weak [0, 1, 2, 3, 4] rfl ?_
            exact b_x_sheet_b29 hX hr _ _ _ _ _ _ hf
          · rw [if_neg hc20] at hf
            refine r_bipush hX (-2 : Int32) dX11_sheet_26 rfl ?_
            exact fin_I hf hr _ _ _ dX11_sheet_28
      · rw [if_neg hc3] at hf
        refine r_iconst hX (-1 : Int32) dX11_sheet_15 rfl ?_
        exact fin_I hf hr _ _ _ dX11_sheet_16
theorem dX11_alike_0 : decode cX11_alike 0 = .ok (.iconst 0, 1) := by decide +kernel
theorem dX11_alike_1 : decode cX11_alike 1 = .ok (.istore_n 1, 1) := by decide +kernel
theorem dX11_alike_2 : decode cX11_alike 2 = .ok (.iload_n 1, 1) := by decide +kernel
theorem dX11_alike_3 : decode cX11_alike 3 = .ok (.aload_n 0, 1) := by decide +kernel
theorem dX11_alike_4 : decode cX11_alike 4 = .ok (.getfield 23, 3) := by decide +kernel
theorem dX11_alike_7 : decode cX11_alike 7 = .ok (.getfield 155, 3) := by decide +kernel
theorem dX11_alike_10 : decode cX11_alike 10 = .ok (.if_icmp .ge 49, 3) := by decide +kernel
theorem dX11_alike_13 : decode cX11_alike 13 = .ok (.iconst 0, 1) := by decide +kernel
theorem dX11_alike_14 : decode cX11_alike 14 = .ok (.istore_n 2, 1) := by decide +kernel
theorem dX11_alike_15 : decode cX11_alike 15 = .ok (.iload_n 2, 1) := by decide +kernel
theorem dX11_alike_16 : decode cX11_alike 16 = .ok (.iload_n 1, 1) := by decide +kernel
theorem dX11_alike_17 : decode cX11_alike 17 = .ok (.if_icmp .ge 36, 3) := by decide +kernel
theorem dX11_alike_20 : decode cX11_alike 20 = .ok (.aload_n 0, 1) := by decide +kernel
theorem dX11_alike_21 : decode cX11_alike 21 = .ok (.getfield 23, 3) := by decide +kernel
theorem dX11_alike_24 : decode cX11_alike 24 = .ok (.getfield 151, 3) := by decide +kernel
theorem dX11_alike_27 : decode cX11_alike 27 = .ok (.iload_n 1, 1) := by decide +kernel
theorem dX11_alike_28 : decode cX11_alike 28 = .ok (.aaload, 1) := by decide +kernel
theorem dX11_alike_29 : decode cX11_alike 29 = .ok (.iload_n 2, 1) := by decide +kernel
theorem dX11_alike_30 : decode cX11_alike 30 = .ok (.iaload, 1) := by decide +kernel
theorem dX11_alike_31 : decode cX11_alike 31 = .ok (.aload_n 0, 1) := by decide +kernel
theorem dX11_alike_32 : decode cX11_alike 32 = .ok (.getfield 23, 3) := by decide +kernel
theorem dX11_alike_35 : decode cX11_alike 35 = .ok (.getfield 151, 3) := by decide +kernel
theorem dX11_alike_38 : decode cX11_alike 38 = .ok (.iload_n 2, 1) := by decide +kernel
theorem dX11_alike_39 : decode cX11_alike 39 = .ok (.aaload, 1) := by decide +kernel
theorem dX11_alike_40 : decode cX11_alike 40 = .ok (.iload_n 1, 1) := by decide +kernel
theorem dX11_alike_41 : decode cX11_alike 41 = .ok (.iaload, 1) := by decide +kernel
theorem dX11_alike_42 : decode cX11_alike 42 = .ok (.if_icmp .eq 5, 3) := by decide +kernel
theorem dX11_alike_45 : decode cX11_alike 45 = .ok (.iconst 0, 1) := by decide +kernel
theorem dX11_alike_46 : decode cX11_alike 46 = .ok (.ireturn, 1) := by decide +kernel
theorem dX11_alike_47 : decode cX11_alike 47 = .ok (.iinc 2 1, 3) := by decide +kernel
theorem dX11_alike_50 : decode cX11_alike 50 = .ok (.goto (-35), 3) := by decide +kernel
theorem dX11_alike_53 : decode cX11_alike 53 = .ok (.iinc 1 1, 3) := by decide +kernel
theorem dX11_alike_56 : decode cX11_alike 56 = .ok (.goto (-54), 3) := by decide +kernel
theorem dX11_alike_59 : decode cX11_alike 59 = .ok (.iconst 1, 1) := by decide +kernel
theorem dX11_alike_60 : decode cX11_alike 60 = .ok (.ireturn, 1) := by decide +kernel
set_option maxHeartbeats 4000000 in
set_option maxRecDepth 20000 in
theorem b_x_alike_b15 {X : Cx} {d : Nat} (hX : Ok M_x_alike (d + 0) X) {r : Int32 × Mem} (hr : RetI M_x_alike X r.1 r.2) {k2 : Int32 → Mem → Option (Int32 × Mem)} (hk2 : ∀ (x1 : Int32) (μ : Mem) (dy : Nat → Nat), k2 x1 μ = some r → AW X 2 [(0, .ref (gA (xG X) 0)), (1, .int x1)] [] μ dy) : ∀ (n : Nat) (x1 : Int32) (x2 : Int32) (μ : Mem) (dy : Nat → Nat), f_x_alike_b15 k2 n x1 x2 μ = some r → AW X 15 [(0, .ref (gA (xG X) 0)), (1, .int x1), (2, .int x2)] [] μ dy := by
  intro n
  induction n with
  | zero => intro x1 x2 μ dy hf; exact nomatch hf
  | succ n ih =>
    intro x1 x2 μ dy hf
    rw [f_x_alike_b15] at hf
    refine r_iload_n hX dX11_alike_15 2 rfl ?_
    refine r_iload_n hX dX11_alike_16 1 rfl ?_
    refine r_icmp_ge hX 53 dX11_alike_17 rfl (fun hc2 => ?_) (fun hc2 => ?_)
    · rw [if_pos hc2] at hf
      refine r_iinc hX (x1 + (1 : Int32)) dX11_alike_53 1 rfl rfl rfl (ls' := [(1, .int (x1 + (1 : Int32))), (0, .ref (gA (xG X) 0)), (2, .int x2)]) rfl ?_
      refine r_goto hX 2 dX11_alike_56 rfl ?_
      refine r_weak [1, 0] rfl ?_
      exact hk2 _ _ _ hf
    · rw [if_neg hc2] at hf
      refine r_aload_n hX dX11_alike_20 0 rfl ?_
      refine r_get hX fl_X11_23 (w_0 _ _ _) rfl dX11_alike_21 ?_
      refine r_getN hX fl_X11_151 (w_4 _ _ _) rfl dX11_alike_24 ?_
      refine r_iload_n hX dX11_alike_27 1 rfl ?_
      obtain ⟨b3, hf⟩ := chk_eq hf
      refine r_aald hX (w_7 _ _ _) (b := gA (xG X) (8 + x1.toNatClampNeg)) rfl rfl (inb_in b3) (if_pos (inb_lt b3)) dX11_alike_28 ?_
      refine r_iload_n hX dX11_alike_29 2 rfl ?_
      obtain ⟨b4, hf⟩ := chk_eq hf
      refine r_iald hX (wLo (inb_lt b3)) (inb_in b4) dX11_alike_30 ?_
      refine r_aload_n hX dX11_alike_31 0 rfl ?_
      refine r_get hX fl_X11_23 (w_0 _ _ _) rfl dX11_alike_32 ?_
      refine r_getN hX fl_X11_151 (w_4 _ _ _) rfl dX11_alike_35 ?_
      refine r_iload_n hX dX11_alike_38 2 rfl ?_
      obtain ⟨b5, hf⟩ := chk_eq hf
      refine r_aald hX (w_7 _ _ _) (b := gA (xG X) (8 + x2.toNatClampNeg)) rfl rfl (inb_in b5) (if_pos (inb_lt b5)) dX11_alike_39 ?_
      refine r_iload_n hX dX11_alike_40 1 rfl ?_
      obtain ⟨b6, hf⟩ := chk_eq hf
      refine r_iald hX (wLo (inb_lt b5)) (inb_in b6) dX11_alike_41 ?_
      refine r_icmp_eq hX 47 dX11_alike_42 rfl (fun hc7 => ?_) (fun hc7 => ?_)
      · rw [if_pos hc7] at hf
        refine r_iinc hX (x2 + (1 : Int32)) dX11_alike_47 2 rfl rfl rfl (ls' := [(2, .int (x2 + (1 : Int32))), (0, .ref (gA (xG X) 0)), (1, .int x1)]) rfl ?_
        refine r_goto hX 15 dX11_alike_50 rfl ?_
        refine r_weak [1, 2, 0] rfl ?_
        exact ih _ _ _ _ hf
      · rw [if_neg hc7] at hf
        refine r_iconst hX (0 : Int32) dX11_alike_45 rfl ?_
        exact fin_I hf hr _ _ _ dX11_alike_46
set_option maxHeartbeats 4000000 in
set_option maxRecDepth 20000 in
theorem b_x_alike_b2 {X : Cx} {d : Nat} (hX : Ok M_x_alike (d + 0) X) {r : Int32 × Mem} (hr : RetI M_x_alike X r.1 r.2) : ∀ (n : Nat) (x1 : Int32) (μ : Mem) (dy : Nat → Nat), f_x_alike_b2 n x1 μ = some r → AW X 2 [(0, .ref (gA (xG X) 0)), (1, .int x1)] [] μ dy := by
  intro n
  induction n with
  | zero => intro x1 μ dy hf; exact nomatch hf
  | succ n ih =>
    intro x1 μ dy hf
    rw [f_x_alike_b2] at hf
    refine r_iload_n hX dX11_alike_2 1 rfl ?_
    refine r_aload_n hX dX11_alike_3 0 rfl ?_
    refine r_get hX fl_X11_23 (w_0 _ _ _) rfl dX11_alike_4 ?_
    refine r_getN hX fl_X11_155 (w_4 _ _ _) rfl dX11_alike_7 ?_
    refine r_icmp_ge hX 59 dX11_alike_10 rfl (fun hc1 => ?_) (fun hc1 => ?_)
    · rw [if_pos hc1] at hf
      refine r_iconst hX (1 : Int32) dX11_alike_59 rfl ?_
      exact fin_I hf hr _ _ _ dX11_alike_60
    · rw [if_neg hc1] at hf
      refine r_iconst hX (0 : Int32) dX11_alike_13 rfl ?_
      refine r_istore_n hX dX11_alike_14 rfl (ls' := [(2, .int (0 : Int32)), (0, .ref (gA (xG X) 0)), (1, .int x1)]) rfl ?_
      refine r_weak [1, 2, 0] rfl ?_
      exact b_x_alike_b15 hX hr ih FU _ _ _ _ hf
set_option maxHeartbeats 4000000 in
set_option maxRecDepth 20000 in
theorem c_x_alike {G : Gx} {d : Nat}  {μ : Mem} {r : Int32 × Mem} (hf : f_x_alike  μ = some r) : Con G M_x_alike (d + 0) [.ref (gA G 0)] μ (some (.int r.1), r.2) := by
  refine Con.ofI ⟨rfl, rfl, Nat.le_of_ble_eq_true rfl⟩ rfl rfl (fun X hG hX hr dy => ?_)
  subst hG
  show AW X 0 [(0, .ref (gA (xG X) 0))] [] μ dy
  unfold f_x_alike at hf
  refine r_iconst hX (0 : Int32) dX11_alike_0 rfl ?_
  refine r_istore_n hX dX11_alike_1 rfl (ls' := [(1, .int (0 : Int32)), (0, .ref (gA (xG X) 0))]) rfl ?_
  refine r_weak [1, 0] rfl ?_
  exact b_x_alike_b2 hX hr FU _ _ _ hf
theorem dX11_state_0 : decode cX11_state 0 = .ok (.iload_n 1, 1) := by decide +kernel
theorem dX11_state_1 : decode cX11_state 1 = .ok (.ifCond .lt 14, 3) := by decide +kernel
theorem dX11_state_4 : decode cX11_state 4 = .ok (.iload_n 1, 1) := by decide +kernel
theorem dX11_state_5 : decode cX11_state 5 = .ok (.aload_n 0, 1) := by decide +kernel
theorem dX11_state_6 : decode cX11_state 6 = .ok (.getfield 23, 3) := by decide +kernel
theorem dX11_state_9 : decode cX11_state 9 = .ok (.getfield 170, 3) := by decide +kernel
theorem dX11_state_12 : decode cX11_state 12 = .ok (.if_icmp .le 7, 3) := by decide +kernel
theorem dX11_state_15 : decode cX11_state 15 = .ok (.iconst (-1), 1) := by decide +kernel
theorem dX11_state_16 : decode cX11_state 16 = .ok (.goto 12, 3) := by decide +kernel
theorem dX11_state_19 : decode cX11_state 19 = .ok (.aload_n 0, 1) := by decide +kernel
theorem dX11_state_20 : decode cX11_state 20 = .ok (.getfield 23, 3) := by decide +kernel
theorem dX11_state_23 : decode cX11_state 23 = .ok (.getfield 173, 3) := by decide +kernel
theorem dX11_state_26 : decode cX11_state 26 = .ok (.iload_n 1, 1) := by decide +kernel
theorem dX11_state_27 : decode cX11_state 27 = .ok (.iaload, 1) := by decide +kernel
theorem dX11_state_28 : decode cX11_state 28 = .ok (.ireturn, 1) := by decide +kernel
set_option maxHeartbeats 4000000 in
set_option maxRecDepth 20000 in
theorem b_x_state_b15 {X : Cx} {d : Nat} (hX : Ok M_x_state (d + 0) X) {r : Int32 × Mem} (hr : RetI M_x_state X r.1 r.2)  (μ : Mem) (dy : Nat → Nat) (hf : f_x_state_b15  μ = some r) : AW X 15 [] [] μ dy := by
  unfold f_x_state_b15 at hf
  refine r_iconst hX (-1 : Int32) dX11_state_15 rfl ?_
  refine r_goto hX 28 dX11_state_16 rfl ?_
  exact fin_I hf hr _ _ _ dX11_state_28
set_option maxHeartbeats 4000000 in
set_option maxRecDepth 20000 in
theorem c_x_state {G : Gx} {d : Nat} {x1 : Int32} {μ : Mem} {r : Int32 × Mem} (hf : f_x_state x1 μ = some r) : Con G M_x_state (d + 0) [.ref (gA G 0), .int x1] μ (some (.int r.1), r.2) := by
  refine Con.ofI ⟨rfl, rfl, Nat.le_of_ble_eq_true rfl⟩ rfl rfl (fun X hG hX hr dy => ?_)
  subst hG
  show AW X 0 [(0, .ref (gA (xG X) 0)), (1, .int x1)] [] μ dy
  unfold f_x_state at hf
  refine r_iload_n hX dX11_state_0 1 rfl ?_
  refine r_if_lt hX 15 dX11_state_1 rfl (fun hc1 => ?_) (fun hc1 => ?_)
  · rw [if_pos hc1] at hf
    refine r_weak [] rfl ?_
    exact b_x_state_b15 hX hr _ _ hf
  · rw [if_neg hc1] at hf
    refine r_iload_n hX dX11_state_4 1 rfl ?_
    refine r_aload_n hX dX11_state_5 0 rfl ?_
    refine r_get hX fl_X11_23 (w_0 _ _ _) rfl dX11_state_6 ?_
    refine r_getN hX fl_X11_170 (w_4 _ _ _) rfl dX11_state_9 ?_
    refine r_icmp_le hX 19 dX11_state_12 rfl (fun hc2 => ?_) (fun hc2 => ?_)
    · rw [if_pos hc2] at hf
      refine r_aload_n hX dX11_state_19 0 rfl ?_
      refine r_get hX fl_X11_23 (w_0 _ _ _) rfl dX11_state_20 ?_
      refine r_getN hX fl_X11_173 (w_4 _ _ _) rfl dX11_state_23 ?_
      refine r_iload_n hX dX11_state_26 1 rfl ?_
      obtain ⟨b3, hf⟩ := chk_eq hf
      refine r_iald hX (w_22 _ _ _) (inb_in b3) dX11_state_27 ?_
      exact fin_I hf hr _ _ _ dX11_state_28
    · rw [if_neg hc2] at hf
      refine r_weak [] rfl ?_
      exact b_x_state_b15 hX hr _ _ hf
