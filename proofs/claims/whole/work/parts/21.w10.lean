theorem dX12_sumOf_0 : decode cX12_sumOf 0 = .ok (.iload_n 2, 1) := by decide +kernel
theorem dX12_sumOf_1 : decode cX12_sumOf 1 = .ok (.iload_n 1, 1) := by decide +kernel
theorem dX12_sumOf_2 : decode cX12_sumOf 2 = .ok (.iand, 1) := by decide +kernel
theorem dX12_sumOf_3 : decode cX12_sumOf 3 = .ok (.iload_n 1, 1) := by decide +kernel
theorem dX12_sumOf_4 : decode cX12_sumOf 4 = .ok (.if_icmp .ne 5, 3) := by decide +kernel
theorem dX12_sumOf_7 : decode cX12_sumOf 7 = .ok (.iconst 0, 1) := by decide +kernel
theorem dX12_sumOf_8 : decode cX12_sumOf 8 = .ok (.ireturn, 1) := by decide +kernel
theorem dX12_sumOf_9 : decode cX12_sumOf 9 = .ok (.iload_n 3, 1) := by decide +kernel
theorem dX12_sumOf_10 : decode cX12_sumOf 10 = .ok (.ifCond .ne 6, 3) := by decide +kernel
theorem dX12_sumOf_13 : decode cX12_sumOf 13 = .ok (.ldc 237, 2) := by decide +kernel
theorem dX12_sumOf_15 : decode cX12_sumOf 15 = .ok (.ireturn, 1) := by decide +kernel
theorem dX12_sumOf_16 : decode cX12_sumOf 16 = .ok (.sipush 16384, 3) := by decide +kernel
theorem dX12_sumOf_19 : decode cX12_sumOf 19 = .ok (.iload_n 3, 1) := by decide +kernel
theorem dX12_sumOf_20 : decode cX12_sumOf 20 = .ok (.imul, 1) := by decide +kernel
theorem dX12_sumOf_21 : decode cX12_sumOf 21 = .ok (.iload_n 2, 1) := by decide +kernel
theorem dX12_sumOf_22 : decode cX12_sumOf 22 = .ok (.iadd, 1) := by decide +kernel
theorem dX12_sumOf_23 : decode cX12_sumOf 23 = .ok (.istore 4, 2) := by decide +kernel
theorem dX12_sumOf_25 : decode cX12_sumOf 25 = .ok (.aload_n 0, 1) := by decide +kernel
theorem dX12_sumOf_26 : decode cX12_sumOf 26 = .ok (.getfield 53, 3) := by decide +kernel
theorem dX12_sumOf_29 : decode cX12_sumOf 29 = .ok (.iload 4, 2) := by decide +kernel
theorem dX12_sumOf_31 : decode cX12_sumOf 31 = .ok (.iaload, 1) := by decide +kernel
theorem dX12_sumOf_32 : decode cX12_sumOf 32 = .ok (.aload_n 0, 1) := by decide +kernel
theorem dX12_sumOf_33 : decode cX12_sumOf 33 = .ok (.getfield 202, 3) := by decide +kernel
theorem dX12_sumOf_36 : decode cX12_sumOf 36 = .ok (.if_icmp .ne 11, 3) := by decide +kernel
theorem dX12_sumOf_39 : decode cX12_sumOf 39 = .ok (.aload_n 0, 1) := by decide +kernel
theorem dX12_sumOf_40 : decode cX12_sumOf 40 = .ok (.getfield 50, 3) := by decide +kernel
theorem dX12_sumOf_43 : decode cX12_sumOf 43 = .ok (.iload 4, 2) := by decide +kernel
theorem dX12_sumOf_45 : decode cX12_sumOf 45 = .ok (.iaload, 1) := by decide +kernel
theorem dX12_sumOf_46 : decode cX12_sumOf 46 = .ok (.ireturn, 1) := by decide +kernel
theorem dX12_sumOf_47 : decode cX12_sumOf 47 = .ok (.ldc 237, 2) := by decide +kernel
theorem dX12_sumOf_49 : decode cX12_sumOf 49 = .ok (.istore 5, 2) := by decide +kernel
theorem dX12_sumOf_51 : decode cX12_sumOf 51 = .ok (.iconst (-1), 1) := by decide +kernel
theorem dX12_sumOf_52 : decode cX12_sumOf 52 = .ok (.istore 6, 2) := by decide +kernel
theorem dX12_sumOf_54 : decode cX12_sumOf 54 = .ok (.iload 6, 2) := by decide +kernel
theorem dX12_sumOf_56 : decode cX12_sumOf 56 = .ok (.aload_n 0, 1) := by decide +kernel
theorem dX12_sumOf_57 : decode cX12_sumOf 57 = .ok (.getfield 86, 3) := by decide +kernel
theorem dX12_sumOf_60 : decode cX12_sumOf 60 = .ok (.if_icmp .ge 42, 3) := by decide +kernel
theorem dX12_sumOf_63 : decode cX12_sumOf 63 = .ok (.aload_n 0, 1) := by decide +kernel
theorem dX12_sumOf_64 : decode cX12_sumOf 64 = .ok (.iload 6, 2) := by decide +kernel
theorem dX12_sumOf_66 : decode cX12_sumOf 66 = .ok (.iload_n 2, 1) := by decide +kernel
theorem dX12_sumOf_67 : decode cX12_sumOf 67 = .ok (.invokevirtual 260, 3) := by decide +kernel
theorem dX12_sumOf_70 : decode cX12_sumOf 70 = .ok (.ifCond .ne 6, 3) := by decide +kernel
theorem dX12_sumOf_73 : decode cX12_sumOf 73 = .ok (.goto 23, 3) := by decide +kernel
theorem dX12_sumOf_76 : decode cX12_sumOf 76 = .ok (.aload_n 0, 1) := by decide +kernel
theorem dX12_sumOf_77 : decode cX12_sumOf 77 = .ok (.iload_n 1, 1) := by decide +kernel
theorem dX12_sumOf_78 : decode cX12_sumOf 78 = .ok (.iload_n 2, 1) := by decide +kernel
theorem dX12_sumOf_79 : decode cX12_sumOf 79 = .ok (.iload_n 3, 1) := by decide +kernel
theorem dX12_sumOf_80 : decode cX12_sumOf 80 = .ok (.iload 6, 2) := by decide +kernel
theorem dX12_sumOf_82 : decode cX12_sumOf 82 = .ok (.invokevirtual 263, 3) := by decide +kernel
theorem dX12_sumOf_85 : decode cX12_sumOf 85 = .ok (.istore 7, 2) := by decide +kernel
theorem dX12_sumOf_87 : decode cX12_sumOf 87 = .ok (.iload 5, 2) := by decide +kernel
theorem dX12_sumOf_89 : decode cX12_sumOf 89 = .ok (.iload 7, 2) := by decide +kernel
theorem dX12_sumOf_91 : decode cX12_sumOf 91 = .ok (.invokestatic 175, 3) := by decide +kernel
theorem dX12_sumOf_94 : decode cX12_sumOf 94 = .ok (.istore 5, 2) := by decide +kernel
theorem dX12_sumOf_96 : decode cX12_sumOf 96 = .ok (.iinc 6 1, 3) := by decide +kernel
theorem dX12_sumOf_99 : decode cX12_sumOf 99 = .ok (.goto (-45), 3) := by decide +kernel
theorem dX12_sumOf_102 : decode cX12_sumOf 102 = .ok (.aload_n 0, 1) := by decide +kernel
theorem dX12_sumOf_103 : decode cX12_sumOf 103 = .ok (.getfield 53, 3) := by decide +kernel
theorem dX12_sumOf_106 : decode cX12_sumOf 106 = .ok (.iload 4, 2) := by decide +kernel
theorem dX12_sumOf_108 : decode cX12_sumOf 108 = .ok (.aload_n 0, 1) := by decide +kernel
theorem dX12_sumOf_109 : decode cX12_sumOf 109 = .ok (.getfield 202, 3) := by decide +kernel
theorem dX12_sumOf_112 : decode cX12_sumOf 112 = .ok (.iastore, 1) := by decide +kernel
theorem dX12_sumOf_113 : decode cX12_sumOf 113 = .ok (.aload_n 0, 1) := by decide +kernel
theorem dX12_sumOf_114 : decode cX12_sumOf 114 = .ok (.getfield 50, 3) := by decide +kernel
theorem dX12_sumOf_117 : decode cX12_sumOf 117 = .ok (.iload 4, 2) := by decide +kernel
theorem dX12_sumOf_119 : decode cX12_sumOf 119 = .ok (.iload 5, 2) := by decide +kernel
theorem dX12_sumOf_121 : decode cX12_sumOf 121 = .ok (.iastore, 1) := by decide +kernel
theorem dX12_sumOf_122 : decode cX12_sumOf 122 = .ok (.iload 5, 2) := by decide +kernel
theorem dX12_sumOf_124 : decode cX12_sumOf 124 = .ok (.ireturn, 1) := by decide +kernel
set_option maxHeartbeats 4000000 in
set_option maxRecDepth 20000 in
theorem b_m_sumOf_b54 {X : Cx} {d : Nat} {R : Int32 → Int32 → Int32 → Mem → Option (Int32 × Mem)} (hR : ∀ (x1 : Int32) (x2 : Int32) (x3 : Int32) (μ : Mem) (r : Int32 × Mem), R x1 x2 x3 μ = some r → Con (xG X) M_m_sumOf (d + 8) [.ref (gA (xG X) 111), .int x1, .int x2, .int x3] μ (some (.int r.1), r.2)) (hX : Ok M_m_sumOf (d + 10) X) {r : Int32 × Mem} (hr : RetI M_m_sumOf X r.1 r.2) : ∀ (n : Nat) (x1 : Int32) (x2 : Int32) (x3 : Int32) (x4 : Int32) (x5 : Int32) (x6 : Int32) (μ : Mem) (dy : Nat → Nat), f_m_sumOf_b54 R n x1 x2 x3 x4 x5 x6 μ = some r → AW X 54 [(0, .ref (gA (xG X) 111)), (1, .int x1), (2, .int x2), (3, .int x3), (4, .int x4), (5, .int x5), (6, .int x6)] [] μ dy := by
  intro n
  induction n with
  | zero => intro x1 x2 x3 x4 x5 x6 μ dy hf; exact nomatch hf
  | succ n ih =>
    intro x1 x2 x3 x4 x5 x6 μ dy hf
    rw [f_m_sumOf_b54] at hf
    refine r_iload hX dX12_sumOf_54 6 rfl ?_
    refine r_aload_n hX dX12_sumOf_56 0 rfl ?_
    refine r_get hX fl_X12_86 (w_111 _ _ _) rfl dX12_sumOf_57 ?_
    refine r_icmp_ge hX 102 dX12_sumOf_60 rfl (fun hc5 => ?_) (fun hc5 => ?_)
    · rw [if_pos hc5] at hf
      refine r_aload_n hX dX12_sumOf_102 0 rfl ?_
      refine r_get hX fl_X12_53 (w_111 _ _ _) rfl dX12_sumOf_103 ?_
      refine r_iload hX dX12_sumOf_106 4 rfl ?_
      refine r_aload_n hX dX12_sumOf_108 0 rfl ?_
      refine r_get hX fl_X12_202 (w_111 _ _ _) rfl dX12_sumOf_109 ?_
      obtain ⟨b6, hf⟩ := chk_eq hf
      obtain ⟨μ7, e8, hf⟩ := bnd_eq hf
      refine r_iast hX (w_125 _ _ _) (inb_in b6) (s_125 _ _ _ _ _) e8 rfl dX12_sumOf_112 ?_
      refine r_aload_n hX dX12_sumOf_113 0 rfl ?_
      refine r_get hX fl_X12_50 (w_111 _ _ _) rfl dX12_sumOf_114 ?_
      refine r_iload hX dX12_sumOf_117 4 rfl ?_
      refine r_iload hX dX12_sumOf_119 5 rfl ?_
      obtain ⟨b9, hf⟩ := chk_eq hf
      obtain ⟨μ10, e11, hf⟩ := bnd_eq hf
      refine r_iast hX (w_124 _ _ _) (inb_in b9) (s_124 _ _ _ _ _) e11 rfl dX12_sumOf_121 ?_
      refine r_iload hX dX12_sumOf_122 5 rfl ?_
      exact fin_I hf hr _ _ _ dX12_sumOf_124
    · rw [if_neg hc5] at hf
      refine r_aload_n hX dX12_sumOf_63 0 rfl ?_
      refine r_iload hX dX12_sumOf_64 6 rfl ?_
      refine r_iload_n hX dX12_sumOf_66 2 rfl ?_
      obtain ⟨v14, μ12, h13, hf⟩ := bd2_eq hf
      refine r_callVI (Ok.le hX (by omega)) (c_m_canTalk (d := d)  h13) cv_X12_260 (w_111 _ _ _) rfl rfl (st := []) rfl rfl rfl dX12_sumOf_67 (fun dy => ?_)
      refine r_if_ne hX 76 dX12_sumOf_70 rfl (fun hc15 => ?_) (fun hc15 => ?_)
      · rw [if_neg hc15] at hf
        refine r_aload_n hX dX12_sumOf_76 0 rfl ?_
        refine r_iload_n hX dX12_sumOf_77 1 rfl ?_
        refine r_iload_n hX dX12_sumOf_78 2 rfl ?_
        refine r_iload_n hX dX12_sumOf_79 3 rfl ?_
        refine r_iload hX dX12_sumOf_80 6 rfl ?_
        obtain ⟨v18, μ16, h17, hf⟩ := bd2_eq hf
        refine r_callVI (Ok.le hX (by omega)) (c_m_sumBy (d := d) hR h17) cv_X12_263 (w_111 _ _ _) rfl rfl (st := []) rfl rfl rfl dX12_sumOf_82 (fun dy => ?_)
        refine r_istore hX dX12_sumOf_85 rfl (ls' := [(7, .int v18), (0, .ref (gA (xG X) 111)), (1, .int x1), (2, .int x2), (3, .int x3), (4, .int x4), (5, .int x5), (6, .int x6)]) rfl ?_
        refine r_iload hX dX12_sumOf_87 6 rfl ?_
        refine r_iload hX dX12_sumOf_89 0 rfl ?_
        refine r_min (d := d + 9) (Ok.le hX (by omega)) cs_X12_175 rfl dX12_sumOf_91 ?_
        refine r_istore hX dX12_sumOf_94 rfl (ls' := [(5, .int (imin x5 v18)), (7, .int v18), (0, .ref (gA (xG X) 111)), (1, .int x1), (2, .int x2), (3, .int x3), (4, .int x4), (6, .int x6)]) rfl ?_
        refine r_iinc hX (x6 + (1 : Int32)) dX12_sumOf_96 7 rfl rfl rfl (ls' := [(6, .int (x6 + (1 : Int32))), (5, .int (imin x5 v18)), (7, .int v18), (0, .ref (gA (xG X) 111)), (1, .int x1), (2, .int x2), (3, .int x3), (4, .int x4)]) rfl ?_
        refine r_goto hX 54 dX12_sumOf_99 rfl ?_
        refine r_weak [3, 4, 5, 6, 7, 1, 0] rfl ?_
        exact ih _ _ _ _ _ _ _ _ hf
      · rw [if_pos hc15] at hf
        refine r_goto hX 96 dX12_sumOf_73 rfl ?_
        refine r_iinc hX (x6 + (1 : Int32)) dX12_sumOf_96 6 rfl rfl rfl (ls' := [(6, .int (x6 + (1 : Int32))), (0, .ref (gA (xG X) 111)), (1, .int x1), (2, .int x2), (3, .int x3), (4, .int x4), (5, .int x5)]) rfl ?_
        refine r_goto hX 54 dX12_sumOf_99 rfl ?_
        refine r_weak [1, 2, 3, 4, 5, 6, 0] rfl ?_
        exact ih _ _ _ _ _ _ _ _ hf
set_option maxHeartbeats 4000000 in
set_option maxRecDepth 20000 in
theorem c_m_sumOf_body {G : Gx} {d : Nat} {R : Int32 → Int32 → Int32 → Mem → Option (Int32 × Mem)} (hR : ∀ (x1 : Int32) (x2 : Int32) (x3 : Int32) (μ : Mem) (r : Int32 × Mem), R x1 x2 x3 μ = some r → Con G M_m_sumOf (d + 8) [.ref (gA G 111), .int x1, .int x2, .int x3] μ (some (.int r.1), r.2)) {x1 : Int32} {x2 : Int32} {x3 : Int32} {μ : Mem} {r : Int32 × Mem} (hf : f_m_sumOf_body R x1 x2 x3 μ = some r) : Con G M_m_sumOf (d + 10) [.ref (gA G 111), .int x1, .int x2, .int x3] μ (some (.int r.1), r.2) := by
  refine Con.ofI ⟨rfl, rfl, Nat.le_of_ble_eq_true rfl⟩ rfl rfl (fun X hG hX hr dy => ?_)
  subst hG
  show AW X 0 [(0, .ref (gA (xG X) 111)), (1, .int x1), (2, .int x2), (3, .int x3)] [] μ dy
  unfold f_m_sumOf_body at hf
  refine r_iload_n hX dX12_sumOf_0 2 rfl ?_
  refine r_iload_n hX dX12_sumOf_1 1 rfl ?_
  refine r_iand hX dX12_sumOf_2 ?_
  refine r_iload_n hX dX12_sumOf_3 1 rfl ?_
  refine r_icmp_ne hX 9 dX12_sumOf_4 rfl (fun hc1 => ?_) (fun hc1 => ?_)
  · rw [if_neg hc1] at hf
    refine r_iload_n hX dX12_sumOf_9 3 rfl ?_
    refine r_if_ne hX 16 dX12_sumOf_10 rfl (fun hc2 => ?_) (fun hc2 => ?_)
    · rw [if_neg hc2] at hf
      refine r_sipush hX (16384 : Int32) dX12_sumOf_16 rfl ?_
      refine r_iload_n hX dX12_sumOf_19 3 rfl ?_
      refine r_imul hX dX12_sumOf_20 ?_
      refine r_iload_n hX dX12_sumOf_21 2 rfl ?_
      refine r_iadd hX dX12_sumOf_22 ?_
      refine r_istore hX dX12_sumOf_23 rfl (ls' := [(4, .int (((16384 : Int32) * x3) + x2)), (0, .ref (gA (xG X) 111)), (1, .int x1), (2, .int x2), (3, .int x3)]) rfl ?_
      refine r_aload_n hX dX12_sumOf_25 1 rfl ?_
      refine r_get hX fl_X12_53 (w_111 _ _ _) rfl dX12_sumOf_26 ?_
      refine r_iload hX dX12_sumOf_29 0 rfl ?_
      obtain ⟨b3, hf⟩ := chk_eq hf
      refine r_iald hX (w_125 _ _ _) (inb_in b3) dX12_sumOf_31 ?_
      refine r_aload_n hX dX12_sumOf_32 1 rfl ?_
      refine r_get hX fl_X12_202 (w_111 _ _ _) rfl dX12_sumOf_33 ?_
      refine r_icmp_ne hX 47 dX12_sumOf_36 rfl (fun hc4 => ?_) (fun hc4 => ?_)
      · rw [if_neg hc4] at hf
        refine r_ldc hX dX12_sumOf_47 kc_X12_237 ?_
        refine r_istore hX dX12_sumOf_49 rfl (ls' := [(5, .int (1000000 : Int32)), (4, .int (((16384 : Int32) * x3) + x2)), (0, .ref (gA (xG X) 111)), (1, .int x1), (2, .int x2), (3, .int x3)]) rfl ?_
        refine r_iconst hX (-1 : Int32) dX12_sumOf_51 rfl ?_
        refine r_istore hX dX12_sumOf_52 rfl (ls' := [(6, .int (-1 : Int32)), (5, .int (1000000 : Int32)), (4, .int (((16384 : Int32) * x3) + x2)), (0, .ref (gA (xG X) 111)), (1, .int x1), (2, .int x2), (3, .int x3)]) rfl ?_
        refine r_weak [3, 4, 5, 6, 2, 1, 0] rfl ?_
        exact b_m_sumOf_b54 hR hX hr FU _ _ _ _ _ _ _ _ hf
      · rw [if_pos hc4] at hf
        refine r_aload_n hX dX12_sumOf_39 1 rfl ?_
        refine r_get hX fl_X12_50 (w_111 _ _ _) rfl dX12_sumOf_40 ?_
        refine r_iload hX dX12_sumOf_43 0 rfl ?_
        obtain ⟨b19, hf⟩ := chk_eq hf
        refine r_iald hX (w_124 _ _ _) (inb_in b19) dX12_sumOf_45 ?_
        exact fin_I hf hr _ _ _ dX12_sumOf_46
    · rw [if_pos hc2] at hf
      refine r_ldc hX dX12_sumOf_13 kc_X12_237 ?_
      exact fin_I hf hr _ _ _ dX12_sumOf_15
  · rw [if_pos hc1] at hf
    refine r_iconst hX (0 : Int32) dX12_sumOf_7 rfl ?_
    exact fin_I hf hr _ _ _ dX12_sumOf_8
theorem c_m_sumOf {G : Gx} {d : Nat} (k : Nat) : ∀ {x1 : Int32} {x2 : Int32} {x3 : Int32} {μ : Mem} {r : Int32 × Mem}, f_m_sumOf k x1 x2 x3 μ = some r → Con G M_m_sumOf (d + 2 * k + 8) [.ref (gA G 111), .int x1, .int x2, .int x3] μ (some (.int r.1), r.2) := by
  induction k with
  | zero => intro x1 x2 x3 μ r hf; exact nomatch hf
  | succ k ih =>
    intro x1 x2 x3 μ r hf
    rw [f_m_sumOf] at hf
    have h := c_m_sumOf_body (d := d + 2 * k) (fun x1 x2 x3 μ r h => ih h) hf
    have e : d + 2 * k + 10 = d + 2 * (k + 1) + 8 := by omega
    rw [← e]
    exact h
theorem dX12_whoFirst_0 : decode cX12_whoFirst 0 = .ok (.aload_n 0, 1) := by decide +kernel
theorem dX12_whoFirst_1 : decode cX12_whoFirst 1 = .ok (.iload_n 1, 1) := by decide +kernel
theorem dX12_whoFirst_2 : decode cX12_whoFirst 2 = .ok (.iload_n 2, 1) := by decide +kernel
theorem dX12_whoFirst_3 : decode cX12_whoFirst 3 = .ok (.iload_n 3, 1) := by decide +kernel
theorem dX12_whoFirst_4 : decode cX12_whoFirst 4 = .ok (.invokevirtual 267, 3) := by decide +kernel
theorem dX12_whoFirst_7 : decode cX12_whoFirst 7 = .ok (.istore 4, 2) := by decide +kernel
theorem dX12_whoFirst_9 : decode cX12_whoFirst 9 = .ok (.iconst (-1), 1) := by decide +kernel
theorem dX12_whoFirst_10 : decode cX12_whoFirst 10 = .ok (.istore 5, 2) := by decide +kernel
theorem dX12_whoFirst_12 : decode cX12_whoFirst 12 = .ok (.aload_n 0, 1) := by decide +kernel
theorem dX12_whoFirst_13 : decode cX12_whoFirst 13 = .ok (.iload 5, 2) := by decide +kernel
theorem dX12_whoFirst_15 : decode cX12_whoFirst 15 = .ok (.iload_n 2, 1) := by decide +kernel
theorem dX12_whoFirst_16 : decode cX12_whoFirst 16 = .ok (.invokevirtual 260, 3) := by decide +kernel
theorem dX12_whoFirst_19 : decode cX12_whoFirst 19 = .ok (.ifCond .eq 17, 3) := by decide +kernel
theorem dX12_whoFirst_22 : decode cX12_whoFirst 22 = .ok (.aload_n 0, 1) := by decide +kernel
theorem dX12_whoFirst_23 : decode cX12_whoFirst 23 = .ok (.iload_n 1, 1) := by decide +kernel
theorem dX12_whoFirst_24 : decode cX12_whoFirst 24 = .ok (.iload_n 2, 1) := by decide +kernel
theorem dX12_whoFirst_25 : decode cX12_whoFirst 25 = .ok (.iload_n 3, 1) := by decide +kernel
theorem dX12_whoFirst_26 : decode cX12_whoFirst 26 = .ok (.iload 5, 2) := by decide +kernel
theorem dX12_whoFirst_28 : decode cX12_whoFirst 28 = .ok (.invokevirtual 263, 3) := by decide +kernel
theorem dX12_whoFirst_31 : decode cX12_whoFirst 31 = .ok (.iload 4, 2) := by decide +kernel
theorem dX12_whoFirst_33 : decode cX12_whoFirst 33 = .ok (.if_icmp .eq 9, 3) := by decide +kernel
theorem dX12_whoFirst_36 : decode cX12_whoFirst 36 = .ok (.iinc 5 1, 3) := by decide +kernel
theorem dX12_whoFirst_39 : decode cX12_whoFirst 39 = .ok (.goto (-27), 3) := by decide +kernel
theorem dX12_whoFirst_42 : decode cX12_whoFirst 42 = .ok (.iload 5, 2) := by decide +kernel
theorem dX12_whoFirst_44 : decode cX12_whoFirst 44 = .ok (.ireturn, 1) := by decide +kernel
set_option maxHeartbeats 4000000 in
set_option maxRecDepth 20000 in
theorem b_m_whoFirst_b12 {X : Cx} {d : Nat} (hX : Ok M_m_whoFirst (d + 26) X) {r : Int32 × Mem} (hr : RetI M_m_whoFirst X r.1 r.2) : ∀ (n : Nat) (x1 : Int32) (x2 : Int32) (x3 : Int32) (x4 : Int32) (x5 : Int32) (μ : Mem) (dy : Nat → Nat), f_m_whoFirst_b12 n x1 x2 x3 x4 x5 μ = some r → AW X 12 [(0, .ref (gA (xG X) 111)), (1, .int x1), (2, .int x2), (3, .int x3), (4, .int x4), (5, .int x5)] [] μ dy := by
  intro n
  induction n with
  | zero => intro x1 x2 x3 x4 x5 μ dy hf; exact nomatch hf
  | succ n ih =>
    intro x1 x2 x3 x4 x5 μ dy hf
    rw [f_m_whoFirst_b12] at hf
    refine r_aload_n hX dX12_whoFirst_12 0 rfl ?_
    refine r_iload hX dX12_whoFirst_13 5 rfl ?_
    refine r_iload_n hX dX12_whoFirst_15 2 rfl ?_
    obtain ⟨v6, μ4, h5, hf⟩ := bd2_eq hf
    refine r_callVI (Ok.le hX (by omega)) (c_m_canTalk (d := d)  h5) cv_X12_260 (w_111 _ _ _) rfl rfl (st := []) rfl rfl rfl dX12_whoFirst_16 (fun dy => ?_)
    refine r_if_eq hX 36 dX12_whoFirst_19 rfl (fun hc7 => ?_) (fun hc7 => ?_)
    · rw [if_pos hc7] at hf
      refine r_iinc hX (x5 + (1 : Int32)) dX12_whoFirst_36 5 rfl rfl rfl (ls' := [(5, .int (x5 + (1 : Int32))), (0, .ref (gA (xG X) 111)), (1, .int x1), (2, .int x2), (3, .int x3), (4, .int x4)]) rfl ?_
      refine r_goto hX 12 dX12_whoFirst_39 rfl ?_
      refine r_weak [1, 2, 3, 4, 5, 0] rfl ?_
      exact ih _ _ _ _ _ _ _ hf
    · rw [if_neg hc7] at hf
      refine r_aload_n hX dX12_whoFirst_22 0 rfl ?_
      refine r_iload_n hX dX12_whoFirst_23 1 rfl ?_
      refine r_iload_n hX dX12_whoFirst_24 2 rfl ?_
      refine r_iload_n hX dX12_whoFirst_25 3 rfl ?_
      refine r_iload hX dX12_whoFirst_26 5 rfl ?_
      obtain ⟨v10, μ8, h9, hf⟩ := bd2_eq hf
      refine r_callVI (Ok.le hX (by omega)) (c_m_sumBy (d := d + 2 * 8) (fun _ _ _ _ _ h9 => c_m_sumOf (d := d) 8 h9) h9) cv_X12_263 (w_111 _ _ _) rfl rfl (st := []) rfl rfl rfl dX12_whoFirst_28 (fun dy => ?_)
      refine r_iload hX dX12_whoFirst_31 4 rfl ?_
      refine r_icmp_eq hX 42 dX12_whoFirst_33 rfl (fun hc11 => ?_) (fun hc11 => ?_)
      · rw [if_pos hc11] at hf
        refine r_iload hX dX12_whoFirst_42 5 rfl ?_
        exact fin_I hf hr _ _ _ dX12_whoFirst_44
      · rw [if_neg hc11] at hf
        refine r_iinc hX (x5 + (1 : Int32)) dX12_whoFirst_36 5 rfl rfl rfl (ls' := [(5, .int (x5 + (1 : Int32))), (0, .ref (gA (xG X) 111)), (1, .int x1), (2, .int x2), (3, .int x3), (4, .int x4)]) rfl ?_
        refine r_goto hX 12 dX12_whoFirst_39 rfl ?_
        refine r_weak [1, 2, 3, 4, 5, 0] rfl ?_
        exact ih _ _ _ _ _ _ _ hf
set_option maxHeartbeats 4000000 in
set_option maxRecDepth 20000 in
theorem c_m_whoFirst {G : Gx} {d : Nat} {x1 : Int32} {x2 : Int32} {x3 : Int32} {μ : Mem} {r : Int32 × Mem} (hf : f_m_whoFirst x1 x2 x3 μ = some r) : Con G M_m_whoFirst (d + 26) [.ref (gA G 111), .int x1, .int x2, .int x3] μ (some (.int r.1), r.2) := by
  refine Con.ofI ⟨rfl, rfl, Nat.le_of_ble_eq_true rfl⟩ rfl rfl (fun X hG hX hr dy => ?_)
  subst hG
  show AW X 0 [(0, .ref (gA (xG X) 111)), (1, .int x1), (2, .int x2), (3, .int x3)] [] μ dy
  unfold f_m_whoFirst at hf
  refine r_aload_n hX dX12_whoFirst_0 0 rfl ?_
  refine r_iload_n hX dX12_whoFirst_1 1 rfl ?_
  refine r_iload_n hX dX12_whoFirst_2 2 rfl ?_
  refine r_iload_n hX dX12_whoFirst_3 3 rfl ?_
  obtain ⟨v3, μ1, h2, hf⟩ := bd2_eq hf
  refine r_callVI (Ok.le hX (by omega)) (c_m_sumOf (d := d) 8 h2) cv_X12_267 (w_111 _ _ _) rfl rfl (st := []) rfl rfl rfl dX12_whoFirst_4 (fun dy => ?_)
  refine r_istore hX dX12_whoFirst_7 rfl (ls' := [(4, .int v3), (0, .ref (gA (xG X) 111)), (1, .int x1), (2, .int x2), (3, .int x3)]) rfl ?_
  refine r_iconst hX (-1 : Int32) dX12_whoFirst_9 rfl ?_
  refine r_istore hX dX12_whoFirst_10 rfl (ls' := [(5, .int (-1 : Int32)), (4, .int v3), (0, .ref (gA (xG X) 111)), (1, .int x1), (2, .int x2), (3, .int x3)]) rfl ?_
  refine r_weak [2, 3, 4, 5, 1, 0] rfl ?_
  exact b_m_whoFirst_b12 hX hr FU _ _ _ _ _ _ _ hf
theorem dX12_daily_0 : decode cX12_daily 0 = .ok (.aload_n 0, 1) := by decide +kernel
theorem dX12_daily_1 : decode cX12_daily 1 = .ok (.iconst 0, 1) := by decide +kernel
theorem dX12_daily_2 : decode cX12_daily 2 = .ok (.putfield 80, 3) := by decide +kernel
theorem dX12_daily_5 : decode cX12_daily 5 = .ok (.aload_n 0, 1) := by decide +kernel
theorem dX12_daily_6 : decode cX12_daily 6 = .ok (.iload_n 1, 1) := by decide +kernel
theorem dX12_daily_7 : decode cX12_daily 7 = .ok (.invokevirtual 193, 3) := by decide +kernel
theorem dX12_daily_10 : decode cX12_daily 10 = .ok (.ifCond .eq 12, 3) := by decide +kernel
theorem dX12_daily_13 : decode cX12_daily 13 = .ok (.iload_n 2, 1) := by decide +kernel
theorem dX12_daily_14 : decode cX12_daily 14 = .ok (.bipush 6, 2) := by decide +kernel
theorem dX12_daily_16 : decode cX12_daily 16 = .ok (.invokestatic 253, 3) := by decide +kernel
theorem dX12_daily_19 : decode cX12_daily 19 = .ok (.ifCond .ne 5, 3) := by decide +kernel
theorem dX12_daily_22 : decode cX12_daily 22 = .ok (.iconst (-1), 1) := by decide +kernel
theorem dX12_daily_23 : decode cX12_daily 23 = .ok (.ireturn, 1) := by decide +kernel
theorem dX12_daily_24 : decode cX12_daily 24 = .ok (.aload_n 0, 1) := by decide +kernel
theorem dX12_daily_25 : decode cX12_daily 25 = .ok (.dup, 1) := by decide +kernel
theorem dX12_daily_26 : decode cX12_daily 26 = .ok (.getfield 202, 3) := by decide +kernel
theorem dX12_daily_29 : decode cX12_daily 29 = .ok (.iconst 1, 1) := by decide +kernel
theorem dX12_daily_30 : decode cX12_daily 30 = .ok (.iadd, 1) := by decide +kernel
theorem dX12_daily_31 : decode cX12_daily 31 = .ok (.putfield 202, 3) := by decide +kernel
theorem dX12_daily_34 : decode cX12_daily 34 = .ok (.aload_n 0, 1) := by decide +kernel
theorem dX12_daily_35 : decode cX12_daily 35 = .ok (.iload_n 1, 1) := by decide +kernel
theorem dX12_daily_36 : decode cX12_daily 36 = .ok (.aload_n 0, 1) := by decide +kernel
theorem dX12_daily_37 : decode cX12_daily 37 = .ok (.invokevirtual 137, 3) := by decide +kernel
theorem dX12_daily_40 : decode cX12_daily 40 = .ok (.iload_n 2, 1) := by decide +kernel
theorem dX12_daily_41 : decode cX12_daily 41 = .ok (.invokevirtual 267, 3) := by decide +kernel
theorem dX12_daily_44 : decode cX12_daily 44 = .ok (.istore_n 3, 1) := by decide +kernel
theorem dX12_daily_45 : decode cX12_daily 45 = .ok (.iload_n 3, 1) := by decide +kernel
theorem dX12_daily_46 : decode cX12_daily 46 = .ok (.ldc 237, 2) := by decide +kernel
theorem dX12_daily_48 : decode cX12_daily 48 = .ok (.if_icmp .ne 6, 3) := by decide +kernel
theorem dX12_daily_51 : decode cX12_daily 51 = .ok (.bipush (-2), 2) := by decide +kernel
theorem dX12_daily_53 : decode cX12_daily 53 = .ok (.ireturn, 1) := by decide +kernel
theorem dX12_daily_54 : decode cX12_daily 54 = .ok (.aload_n 0, 1) := by decide +kernel
theorem dX12_daily_55 : decode cX12_daily 55 = .ok (.iconst 0, 1) := by decide +kernel
theorem dX12_daily_56 : decode cX12_daily 56 = .ok (.putfield 83, 3) := by decide +kernel
theorem dX12_daily_59 : decode cX12_daily 59 = .ok (.aload_n 0, 1) := by decide +kernel
theorem dX12_daily_60 : decode cX12_daily 60 = .ok (.iload_n 3, 1) := by decide +kernel
theorem dX12_daily_61 : decode cX12_daily 61 = .ok (.bipush 100, 2) := by decide +kernel
theorem dX12_daily_63 : decode cX12_daily 63 = .ok (.irem, 1) := by decide +kernel
theorem dX12_daily_64 : decode cX12_daily 64 = .ok (.i2l, 1) := by decide +kernel
theorem dX12_daily_65 : decode cX12_daily 65 = .ok (.invokevirtual 217, 3) := by decide +kernel
theorem dX12_daily_68 : decode cX12_daily 68 = .ok (.aload_n 0, 1) := by decide +kernel
theorem dX12_daily_69 : decode cX12_daily 69 = .ok (.iload_n 3, 1) := by decide +kernel
theorem dX12_daily_70 : decode cX12_daily 70 = .ok (.ifCond .ne 9, 3) := by decide +kernel
theorem dX12_daily_73 : decode cX12_daily 73 = .ok (.ldc2_w 229, 3) := by decide +kernel
theorem dX12_daily_76 : decode cX12_daily 76 = .ok (.goto 14, 3) := by decide +kernel
theorem dX12_daily_79 : decode cX12_daily 79 = .ok (.aload_n 0, 1) := by decide +kernel
theorem dX12_daily_80 : decode cX12_daily 80 = .ok (.iload_n 1, 1) := by decide +kernel
theorem dX12_daily_81 : decode cX12_daily 81 = .ok (.aload_n 0, 1) := by decide +kernel
theorem dX12_daily_82 : decode cX12_daily 82 = .ok (.invokevirtual 137, 3) := by decide +kernel
theorem dX12_daily_85 : decode cX12_daily 85 = .ok (.iload_n 2, 1) := by decide +kernel
theorem dX12_daily_86 : decode cX12_daily 86 = .ok (.invokevirtual 270, 3) := by decide +kernel
theorem dX12_daily_89 : decode cX12_daily 89 = .ok (.i2l, 1) := by decide +kernel
theorem dX12_daily_90 : decode cX12_daily 90 = .ok (.invokevirtual 217, 3) := by decide +kernel
theorem dX12_daily_93 : decode cX12_daily 93 = .ok (.iload_n 3, 1) := by decide +kernel
theorem dX12_daily_94 : decode cX12_daily 94 = .ok (.bipush 100, 2) := by decide +kernel
theorem dX12_daily_96 : decode cX12_daily 96 = .ok (.idiv, 1) := by decide +kernel
theorem dX12_daily_97 : decode cX12_daily 97 = .ok (.ireturn, 1) := by decide +kernel
set_option maxHeartbeats 4000000 in
set_option maxRecDepth 20000 in
theorem b_m_daily_b90 {X : Cx} {d : Nat} (hX : Ok M_m_daily (d + 27) X) {r : Int32 × Mem} (hr : RetI M_m_daily X r.1 r.2) (x3 : Int32) (z1 : Int64) (μ : Mem) (dy : Nat → Nat) (hf : f_m_daily_b90 x3 z1 μ = some r) : AW X 90 [(3, .int x3)] [.long z1, .ref (gA (xG X) 111)] μ dy := by
  unfold f_m_daily_b90 at hf
  obtain ⟨μ32, h33, hf⟩ := bd1_eq hf
  refine r_callVV (Ok.le hX (by omega)) (c_m_tell (d := d)  h33) cv_X12_217 (w_111 _ _ _) rfl rfl (st := []) rfl rfl rfl dX12_daily_90 (fun dy => ?_)
  refine r_iload_n hX dX12_daily_93 0 rfl ?_
  refine r_bipush hX (100 : Int32) dX12_daily_94 rfl ?_
  refine r_idiv hX dX12_daily_96 (by decide) ?_
  exact fin_I hf hr _ _ _ dX12_daily_97
set_option maxHeartbeats 4000000 in
set_option maxRecDepth 20000 in
theorem c_m_daily {G : Gx} {d : Nat} {x1 : Int32} {x2 : Int32} {μ : Mem} {r : Int32 × Mem} (hf : f_m_daily x1 x2 μ = some r) : Con G M_m_daily (d + 27) [.ref (gA G 111), .int x1, .int x2] μ (some (.int r.1), r.2) := by
  refine Con.ofI ⟨rfl, rfl, Nat.le_of_ble_eq_true rfl⟩ rfl rfl (fun X hG hX hr dy => ?_)
  subst hG
  show AW X 0 [(0, .ref (gA (xG X) 111)), (1, .int x1), (2, .int x2)] [] μ dy
  unfold f_m_daily at hf
  refine r_aload_n hX dX12_daily_0 0 rfl ?_
  refine r_iconst hX (0 : Int32) dX12_daily_1 rfl ?_
  obtain ⟨μ1, e2, hf⟩ := bnd_eq hf
  refine r_put hX fl_X12_80 ft_X12_11 (w_111 _ _ _) rfl rfl rfl (s_111_11 _ _ _ _) e2 rfl dX12_daily_2 ?_
  refine r_aload_n hX dX12_daily_5 0 rfl ?_
  refine r_iload_n hX dX12_daily_6 1 rfl ?_
  obtain ⟨v5, μ3, h4, hf⟩ := bd2_eq hf
  refine r_callVI (Ok.le hX (by omega)) (c_m_areSome (d := d)  h4) cv_X12_193 (w_111 _ _ _) rfl rfl (st := []) rfl rfl rfl dX12_daily_7 (fun dy => ?_)
  refine r_if_eq hX 22 dX12_daily_10 rfl (fun hc6 => ?_) (fun hc6 => ?_)
  · rw [if_pos hc6] at hf
    refine r_iconst hX (-1 : Int32) dX12_daily_22 rfl ?_
    exact fin_I hf hr _ _ _ dX12_daily_23
  · rw [if_neg hc6] at hf
    refine r_iload_n hX dX12_daily_13 2 rfl ?_
    refine r_bipush hX (6 : Int32) dX12_daily_14 rfl ?_
    obtain ⟨v9, μ7, h8, hf⟩ := bd2_eq hf
    refine r_callSI (Ok.le hX (by omega)) (c_m_isDays (d := d)  h8) cs_X12_253 (st := []) rfl rfl rfl dX12_daily_16 (fun dy => ?_)
    refine r_if_ne hX 24 dX12_daily_19 rfl (fun hc10 => ?_) (fun hc10 => ?_)
    · rw [if_neg hc10] at hf
      refine r_aload_n hX dX12_daily_24 0 rfl ?_
      refine r_dup hX dX12_daily_25 rfl ?_
      refine r_get hX fl_X12_202 (w_111 _ _ _) rfl dX12_daily_26 ?_
      refine r_iconst hX (1 : Int32) dX12_daily_29 rfl ?_
      refine r_iadd hX dX12_daily_30 ?_
      obtain ⟨μ11, e12, hf⟩ := bnd_eq hf
      refine r_put hX fl_X12_202 ft_X12_20 (w_111 _ _ _) rfl rfl rfl (s_111_20 _ _ _ _) e12 rfl dX12_daily_31 ?_
      refine r_aload_n hX dX12_daily_34 0 rfl ?_
      refine r_iload_n hX dX12_daily_35 1 rfl ?_
      refine r_aload_n hX dX12_daily_36 0 rfl ?_
      obtain ⟨v15, μ13, h14, hf⟩ := bd2_eq hf
      refine r_callVI (Ok.le hX (by omega)) (c_m_now (d := d)  h14) cv_X12_137 (w_111 _ _ _) rfl rfl (st := [.int x1, .ref (gA (xG X) 111)]) rfl rfl rfl dX12_daily_37 (fun dy => ?_)
      refine r_iload_n hX dX12_daily_40 2 rfl ?_
      obtain ⟨v18, μ16, h17, hf⟩ := bd2_eq hf
      refine r_callVI (Ok.le hX (by omega)) (c_m_sumOf (d := d) 8 h17) cv_X12_267 (w_111 _ _ _) rfl rfl (st := []) rfl rfl rfl dX12_daily_41 (fun dy => ?_)
      refine r_istore_n hX dX12_daily_44 rfl (ls' := [(3, .int v18), (0, .ref (gA (xG X) 111)), (1, .int x1), (2, .int x2)]) rfl ?_
      refine r_iload_n hX dX12_daily_45 0 rfl ?_
      refine r_ldc hX dX12_daily_46 kc_X12_237 ?_
      refine r_icmp_ne hX 54 dX12_daily_48 rfl (fun hc19 => ?_) (fun hc19 => ?_)
      · rw [if_neg hc19] at hf
        refine r_aload_n hX dX12_daily_54 1 rfl ?_
        refine r_iconst hX (0 : Int32) dX12_daily_55 rfl ?_
        obtain ⟨μ20, e21, hf⟩ := bnd_eq hf
        refine r_put hX fl_X12_83 ft_X12_10 (w_111 _ _ _) rfl rfl rfl (s_111_10 _ _ _ _) e21 rfl dX12_daily_56 ?_
        refine r_aload_n hX dX12_daily_59 1 rfl ?_
        refine r_iload_n hX dX12_daily_60 0 rfl ?_
        refine r_bipush hX (100 : Int32) dX12_daily_61 rfl ?_
        refine r_irem hX dX12_daily_63 (by decide) ?_
        refine r_i2l hX dX12_daily_64 ?_
        obtain ⟨μ23, h24, hf⟩ := bd1_eq hf
        refine r_callVV (Ok.le hX (by omega)) (c_m_tell (d := d)  h24) cv_X12_217 (w_111 _ _ _) rfl rfl (st := []) rfl rfl rfl dX12_daily_65 (fun dy => ?_)
        refine r_aload_n hX dX12_daily_68 1 rfl ?_
        refine r_iload_n hX dX12_daily_69 0 rfl ?_
        refine r_if_ne hX 79 dX12_daily_70 rfl (fun hc25 => ?_) (fun hc25 => ?_)
        · rw [if_neg hc25] at hf
          refine r_aload_n hX dX12_daily_79 1 rfl ?_
          refine r_iload_n hX dX12_daily_80 2 rfl ?_
          refine r_aload_n hX dX12_daily_81 1 rfl ?_
          obtain ⟨v28, μ26, h27, hf⟩ := bd2_eq hf
          refine r_callVI (Ok.le hX (by omega)) (c_m_now (d := d)  h27) cv_X12_137 (w_111 _ _ _) rfl rfl (st := [.int x1, .ref (gA (xG X) 111), .ref (gA (xG X) 111)]) rfl rfl rfl dX12_daily_82 (fun dy => ?_)
          refine r_iload_n hX dX12_daily_85 3 rfl ?_
          obtain ⟨v31, μ29, h30, hf⟩ := bd2_eq hf
          refine r_callVI (Ok.le hX (by omega)) (c_m_whoFirst (d := d)  h30) cv_X12_270 (w_111 _ _ _) rfl rfl (st := [.ref (gA (xG X) 111)]) rfl rfl rfl dX12_daily_86 (fun dy => ?_)
          refine r_i2l hX dX12_daily_89 ?_
          refine r_weak [0] rfl ?_
          exact b_m_daily_b90 hX hr _ _ _ _ hf
        · rw [if_pos hc25] at hf
          refine r_ldc2 hX dX12_daily_73 kc_X12_229 ?_
          refine r_goto hX 90 dX12_daily_76 rfl ?_
          refine r_weak [0] rfl ?_
          exact b_m_daily_b90 hX hr _ _ _ _ hf
      · rw [if_pos hc19] at hf
        refine r_bipush hX (-2 : Int32) dX12_daily_51 rfl ?_
        exact fin_I hf hr _ _ _ dX12_daily_53
    · rw [if_pos hc10] at hf
      refine r_iconst hX (-1 : Int32) dX12_daily_22 rfl ?_
      exact fin_I hf hr _ _ _ dX12_daily_23
theorem dX12_plan_0 : decode cX12_plan 0 = .ok (.aload_n 0, 1) := by decide +kernel
theorem dX12_plan_1 : decode cX12_plan 1 = .ok (.iconst 0, 1) := by decide +kernel
theorem dX12_plan_2 : decode cX12_plan 2 = .ok (.putfield 80, 3) := by decide +kernel
theorem dX12_plan_5 : decode cX12_plan 5 = .ok (.aload_n 0, 1) := by decide +kernel
theorem dX12_plan_6 : decode cX12_plan 6 = .ok (.iload_n 1, 1) := by decide +kernel
theorem dX12_plan_7 : decode cX12_plan 7 = .ok (.invokevirtual 193, 3) := by decide +kernel
theorem dX12_plan_10 : decode cX12_plan 10 = .ok (.ifCond .eq 12, 3) := by decide +kernel
theorem dX12_plan_13 : decode cX12_plan 13 = .ok (.iload_n 2, 1) := by decide +kernel
theorem dX12_plan_14 : decode cX12_plan 14 = .ok (.bipush 6, 2) := by decide +kernel
theorem dX12_plan_16 : decode cX12_plan 16 = .ok (.invokestatic 253, 3) := by decide +kernel
theorem dX12_plan_19 : decode cX12_plan 19 = .ok (.ifCond .ne 5, 3) := by decide +kernel
theorem dX12_plan_22 : decode cX12_plan 22 = .ok (.iconst (-1), 1) := by decide +kernel
theorem dX12_plan_23 : decode cX12_plan 23 = .ok (.ireturn, 1) := by decide +kernel
theorem dX12_plan_24 : decode cX12_plan 24 = .ok (.aload_n 0, 1) := by decide +kernel
theorem dX12_plan_25 : decode cX12_plan 25 = .ok (.dup, 1) := by decide +kernel
theorem dX12_plan_26 : decode cX12_plan 26 = .ok (.getfield 202, 3) := by decide +kernel
theorem dX12_plan_29 : decode cX12_plan 29 = .ok (.iconst 1, 1) := by decide +kernel
theorem dX12_plan_30 : decode cX12_plan 30 = .ok (.iadd, 1) := by decide +kernel
theorem dX12_plan_31 : decode cX12_plan 31 = .ok (.putfield 202, 3) := by decide +kernel
theorem dX12_plan_34 : decode cX12_plan 34 = .ok (.aload_n 0, 1) := by decide +kernel
theorem dX12_plan_35 : decode cX12_plan 35 = .ok (.iload_n 1, 1) := by decide +kernel
theorem dX12_plan_36 : decode cX12_plan 36 = .ok (.aload_n 0, 1) := by decide +kernel
theorem dX12_plan_37 : decode cX12_plan 37 = .ok (.invokevirtual 137, 3) := by decide +kernel
theorem dX12_plan_40 : decode cX12_plan 40 = .ok (.iload_n 2, 1) := by decide +kernel
theorem dX12_plan_41 : decode cX12_plan 41 = .ok (.invokevirtual 267, 3) := by decide +kernel
theorem dX12_plan_44 : decode cX12_plan 44 = .ok (.istore_n 3, 1) := by decide +kernel
theorem dX12_plan_45 : decode cX12_plan 45 = .ok (.iload_n 3, 1) := by decide +kernel
theorem dX12_plan_46 : decode cX12_plan 46 = .ok (.ldc 237, 2) := by decide +kernel
theorem dX12_plan_48 : decode cX12_plan 48 = .ok (.if_icmp .ne 6, 3) := by decide +kernel
theorem dX12_plan_51 : decode cX12_plan 51 = .ok (.bipush (-2), 2) := by decide +kernel
theorem dX12_plan_53 : decode cX12_plan 53 = .ok (.ireturn, 1) := by decide +kernel
theorem dX12_plan_54 : decode cX12_plan 54 = .ok (.aload_n 0, 1) := by decide +kernel
theorem dX12_plan_55 : decode cX12_plan 55 = .ok (.iconst 0, 1) := by decide +kernel
theorem dX12_plan_56 : decode cX12_plan 56 = .ok (.putfield 83, 3) := by decide +kernel
theorem dX12_plan_59 : decode cX12_plan 59 = .ok (.aload_n 0, 1) := by decide +kernel
theorem dX12_plan_60 : decode cX12_plan 60 = .ok (.invokevirtual 137, 3) := by decide +kernel
theorem dX12_plan_63 : decode cX12_plan 63 = .ok (.istore 4, 2) := by decide +kernel
theorem dX12_plan_65 : decode cX12_plan 65 = .ok (.iload_n 2, 1) := by decide +kernel
theorem dX12_plan_66 : decode cX12_plan 66 = .ok (.istore 5, 2) := by decide +kernel
theorem dX12_plan_68 : decode cX12_plan 68 = .ok (.iconst 0, 1) := by decide +kernel
theorem dX12_plan_69 : decode cX12_plan 69 = .ok (.istore 6, 2) := by decide +kernel
theorem dX12_plan_71 : decode cX12_plan 71 = .ok (.iload 6, 2) := by decide +kernel
theorem dX12_plan_73 : decode cX12_plan 73 = .ok (.iload_n 3, 1) := by decide +kernel
theorem dX12_plan_74 : decode cX12_plan 74 = .ok (.bipush 100, 2) := by decide +kernel
theorem dX12_plan_76 : decode cX12_plan 76 = .ok (.irem, 1) := by decide +kernel
theorem dX12_plan_77 : decode cX12_plan 77 = .ok (.if_icmp .ge 54, 3) := by decide +kernel
theorem dX12_plan_80 : decode cX12_plan 80 = .ok (.aload_n 0, 1) := by decide +kernel
theorem dX12_plan_81 : decode cX12_plan 81 = .ok (.iload_n 1, 1) := by decide +kernel
theorem dX12_plan_82 : decode cX12_plan 82 = .ok (.iload 4, 2) := by decide +kernel
theorem dX12_plan_84 : decode cX12_plan 84 = .ok (.iload 5, 2) := by decide +kernel
theorem dX12_plan_86 : decode cX12_plan 86 = .ok (.invokevirtual 270, 3) := by decide +kernel
theorem dX12_plan_89 : decode cX12_plan 89 = .ok (.istore 7, 2) := by decide +kernel
theorem dX12_plan_91 : decode cX12_plan 91 = .ok (.aload_n 0, 1) := by decide +kernel
theorem dX12_plan_92 : decode cX12_plan 92 = .ok (.iload 7, 2) := by decide +kernel
theorem dX12_plan_94 : decode cX12_plan 94 = .ok (.i2l, 1) := by decide +kernel
theorem dX12_plan_95 : decode cX12_plan 95 = .ok (.invokevirtual 217, 3) := by decide +kernel
theorem dX12_plan_98 : decode cX12_plan 98 = .ok (.aload_n 0, 1) := by decide +kernel
theorem dX12_plan_99 : decode cX12_plan 99 = .ok (.iload 7, 2) := by decide +kernel
theorem dX12_plan_101 : decode cX12_plan 101 = .ok (.iconst (-1), 1) := by decide +kernel
theorem dX12_plan_102 : decode cX12_plan 102 = .ok (.if_icmp .ne 8, 3) := by decide +kernel
theorem dX12_plan_105 : decode cX12_plan 105 = .ok (.iload 4, 2) := by decide +kernel
theorem dX12_plan_107 : decode cX12_plan 107 = .ok (.goto 10, 3) := by decide +kernel
theorem dX12_plan_110 : decode cX12_plan 110 = .ok (.iload 4, 2) := by decide +kernel
theorem dX12_plan_112 : decode cX12_plan 112 = .ok (.iconst 1, 1) := by decide +kernel
theorem dX12_plan_113 : decode cX12_plan 113 = .ok (.iload 7, 2) := by decide +kernel
theorem dX12_plan_115 : decode cX12_plan 115 = .ok (.ishl, 1) := by decide +kernel
theorem dX12_plan_116 : decode cX12_plan 116 = .ok (.ior, 1) := by decide +kernel
theorem dX12_plan_117 : decode cX12_plan 117 = .ok (.invokevirtual 190, 3) := by decide +kernel
theorem dX12_plan_120 : decode cX12_plan 120 = .ok (.istore 4, 2) := by decide +kernel
theorem dX12_plan_122 : decode cX12_plan 122 = .ok (.iinc 5 (-1), 3) := by decide +kernel
theorem dX12_plan_125 : decode cX12_plan 125 = .ok (.iinc 6 1, 3) := by decide +kernel
theorem dX12_plan_128 : decode cX12_plan 128 = .ok (.goto (-57), 3) := by decide +kernel
theorem dX12_plan_131 : decode cX12_plan 131 = .ok (.iload_n 3, 1) := by decide +kernel
theorem dX12_plan_132 : decode cX12_plan 132 = .ok (.bipush 100, 2) := by decide +kernel
theorem dX12_plan_134 : decode cX12_plan 134 = .ok (.irem, 1) := by decide +kernel
theorem dX12_plan_135 : decode cX12_plan 135 = .ok (.ireturn, 1) := by decide +kernel
set_option maxHeartbeats 4000000 in
set_option maxRecDepth 20000 in
theorem b_m_plan_b71 {X : Cx} {d : Nat} (hX : Ok M_m_plan (d + 27) X) {r : Int32 × Mem} (hr : RetI M_m_plan X r.1 r.2) : ∀ (n : Nat) (x1 : Int32) (x3 : Int32) (x4 : Int32) (x5 : Int32) (x6 : Int32) (μ : Mem) (dy : Nat → Nat), f_m_plan_b71 n x1 x3 x4 x5 x6 μ = some r → AW X 71 [(0, .ref (gA (xG X) 111)), (1, .int x1), (3, .int x3), (4, .int x4), (5, .int x5), (6, .int x6)] [] μ dy := by
  intro n
  induction n with
  | zero => intro x1 x3 x4 x5 x6 μ dy hf; exact nomatch hf
  | succ n ih =>
    intro x1 x3 x4 x5 x6 μ dy hf
    rw [f_m_plan_b71] at hf
    refine r_iload hX dX12_plan_71 5 rfl ?_
    refine r_iload_n hX dX12_plan_73 2 rfl ?_
    refine r_bipush hX (100 : Int32) dX12_plan_74 rfl ?_
    refine r_irem hX dX12_plan_76 (by decide) ?_
    refine r_icmp_ge hX 131 dX12_plan_77 rfl (fun hc26 => ?_) (fun hc26 => ?_)
    · rw [if_pos hc26] at hf
      refine r_iload_n hX dX12_plan_131 2 rfl ?_
      refine r_bipush hX (100 : Int32) dX12_plan_132 rfl ?_
      refine r_irem hX dX12_plan_134 (by decide) ?_
      exact fin_I hf hr _ _ _ dX12_plan_135
    · rw [if_neg hc26] at hf
      refine r_aload_n hX dX12_plan_80 0 rfl ?_
      refine r_iload_n hX dX12_plan_81 1 rfl ?_
      refine r_iload hX dX12_plan_82 3 rfl ?_
      refine r_iload hX dX12_plan_84 4 rfl ?_
      obtain ⟨v30, μ28, h29, hf⟩ := bd2_eq hf
      refine r_callVI (Ok.le hX (by omega)) (c_m_whoFirst (d := d)  h29) cv_X12_270 (w_111 _ _ _) rfl rfl (st := []) rfl rfl rfl dX12_plan_86 (fun dy => ?_)
      refine r_istore hX dX12_plan_89 rfl (ls' := [(7, .int v30), (0, .ref (gA (xG X) 111)), (1, .int x1), (3, .int x3), (4, .int x4), (5, .int x5), (6, .int x6)]) rfl ?_
      refine r_aload_n hX dX12_plan_91 1 rfl ?_
      refine r_iload hX dX12_plan_92 0 rfl ?_
      refine r_i2l hX dX12_plan_94 ?_
      obtain ⟨μ31, h32, hf⟩ := bd1_eq hf
      refine r_callVV (Ok.le hX (by omega)) (c_m_tell (d := d)  h32) cv_X12_217 (w_111 _ _ _) rfl rfl (st := []) rfl rfl rfl dX12_plan_95 (fun dy => ?_)
      refine r_aload_n hX dX12_plan_98 1 rfl ?_
      refine r_iload hX dX12_plan_99 0 rfl ?_
      refine r_iconst hX (-1 : Int32) dX12_plan_101 rfl ?_
      obtain ⟨v33, e34, hf⟩ := bnd_eq hf
      have J35 : AW X 117 [(7, .int v30), (0, .ref (gA (xG X) 111)), (1, .int x1), (3, .int x3), (4, .int x4), (5, .int x5), (6, .int x6)] [.int v33, .ref (gA (xG X) 111)] μ31 dy := by
        obtain ⟨v38, μ36, h37, hf⟩ := bd2_eq hf
        refine r_callVI (Ok.le hX (by omega)) (c_m_next (d := d)  h37) cv_X12_190 (w_111 _ _ _) rfl rfl (st := []) rfl rfl rfl dX12_plan_117 (fun dy => ?_)
        refine r_istore hX dX12_plan_120 rfl (ls' := [(4, .int v38), (7, .int v30), (0, .ref (gA (xG X) 111)), (1, .int x1), (3, .int x3), (5, .int x5), (6, .int x6)]) rfl ?_
        refine r_iinc hX (x5 + (-1 : Int32)) dX12_plan_122 5 rfl rfl rfl (ls' := [(5, .int (x5 + (-1 : Int32))), (4, .int v38), (7, .int v30), (0, .ref (gA (xG X) 111)), (1, .int x1), (3, .int x3), (6, .int x6)]) rfl ?_
        refine r_iinc hX (x6 + (1 : Int32)) dX12_plan_125 6 rfl rfl rfl (ls' := [(6, .int (x6 + (1 : Int32))), (5, .int (x5 + (-1 : Int32))), (4, .int v38), (7, .int v30), (0, .ref (gA (xG X) 111)), (1, .int x1), (3, .int x3)]) rfl ?_
        refine r_goto hX 71 dX12_plan_128 rfl ?_
        refine r_weak [4, 5, 6, 2, 1, 0] rfl ?_
        exact ih _ _ _ _ _ _ _ hf
      refine r_icmp_ne hX 110 dX12_plan_102 rfl (fun hc39 => ?_) (fun hc39 => ?_)
      · refine r_iload hX dX12_plan_110 4 rfl ?_
        refine r_iconst hX (1 : Int32) dX12_plan_112 rfl ?_
        refine r_iload hX dX12_plan_113 0 rfl ?_
        refine r_ishl hX dX12_plan_115 ?_
        refine r_ior hX dX12_plan_116 ?_
        exact r_topI (e34.trans (by rw [if_neg hc39])) J35
      · refine r_iload hX dX12_plan_105 4 rfl ?_
        refine r_goto hX 117 dX12_plan_107 rfl ?_
        exact r_topI (e34.trans (by rw [if_pos hc39])) J35
set_option maxHeartbeats 4000000 in
set_option maxRecDepth 20000 in
theorem c_m_plan {G : Gx} {d : Nat} {x1 : Int32} {x2 : Int32} {μ : Mem} {r : Int32 × Mem} (hf : f_m_plan x1 x2 μ = some r) : Con G M_m_plan (d + 27) [.ref (gA G 111), .int x1, .int x2] μ (some (.int r.1), r.2) := by
  refine Con.ofI ⟨rfl, rfl, Nat.le_of_ble_eq_true rfl⟩ rfl rfl (fun X hG hX hr dy => ?_)
  subst hG
  show AW X 0 [(0, .ref (gA (xG X) 111)), (1, .int x1), (2, .int x2)] [] μ dy
  unfold f_m_plan at hf
  refine r_aload_n hX dX12_plan_0 0 rfl ?_
  refine r_iconst hX (0 : Int32) dX12_plan_1 rfl ?_
  obtain ⟨μ1, e2, hf⟩ := bnd_eq hf
  refine r_put hX fl_X12_80 ft_X12_11 (w_111 _ _ _) rfl rfl rfl (s_111_11 _ _ _ _) e2 rfl dX12_plan_2 ?_
  refine r_aload_n hX dX12_plan_5 0 rfl ?_
  refine r_iload_n hX dX12_plan_6 1 rfl ?_
  obtain ⟨v5, μ3, h4, hf⟩ := bd2_eq hf
  refine r_callVI (Ok.le hX (by omega)) (c_m_areSome (d := d)  h4) cv_X12_193 (w_111 _ _ _) rfl rfl (st := []) rfl rfl rfl dX12_plan_7 (fun dy => ?_)
  refine r_if_eq hX 22 dX12_plan_10 rfl (fun hc6 => ?_) (fun hc6 => ?_)
  · rw [if_pos hc6] at hf
    refine r_iconst hX (-1 : Int32) dX12_plan_22 rfl ?_
    exact fin_I hf hr _ _ _ dX12_plan_23
  · rw [if_neg hc6] at hf
    refine r_iload_n hX dX12_plan_13 2 rfl ?_
    refine r_bipush hX (6 : Int32) dX12_plan_14 rfl ?_
    obtain ⟨v9, μ7, h8, hf⟩ := bd2_eq hf
    refine r_callSI (Ok.le hX (by omega)) (c_m_isDays (d := d)  h8) cs_X12_253 (st := []) rfl rfl rfl dX12_plan_16 (fun dy => ?_)
    refine r_if_ne hX 24 dX12_plan_19 rfl (fun hc10 => ?_) (fun hc10 => ?_)
    · rw [if_neg hc10] at hf
      refine r_aload_n hX dX12_plan_24 0 rfl ?_
      refine r_dup hX dX12_plan_25 rfl ?_
      refine r_get hX fl_X12_202 (w_111 _ _ _) rfl dX12_plan_26 ?_
      refine r_iconst hX (1 : Int32) dX12_plan_29 rfl ?_
      refine r_iadd hX dX12_plan_30 ?_
      obtain ⟨μ11, e12, hf⟩ := bnd_eq hf
      refine r_put hX fl_X12_202 ft_X12_20 (w_111 _ _ _) rfl rfl rfl (s_111_20 _ _ _ _) e12 rfl dX12_plan_31 ?_
      refine r_aload_n hX dX12_plan_34 0 rfl ?_
      refine r_iload_n hX dX12_plan_35 1 rfl ?_
      refine r_aload_n hX dX12_plan_36 0 rfl ?_
      obtain ⟨v15, μ13, h14, hf⟩ := bd2_eq hf
      refine r_callVI (Ok.le hX (by omega)) (c_m_now (d := d)  h14) cv_X12_137 (w_111 _ _ _) rfl rfl (st := [.int x1, .ref (gA (xG X) 111)]) rfl rfl rfl dX12_plan_37 (fun dy => ?_)
      refine r_iload_n hX dX12_plan_40 2 rfl ?_
      obtain ⟨v18, μ16, h17, hf⟩ := bd2_eq hf
      refine r_callVI (Ok.le hX (by omega)) (c_m_sumOf (d := d) 8 h17) cv_X12_267 (w_111 _ _ _) rfl rfl (st := []) rfl rfl rfl dX12_plan_41 (fun dy => ?_)
      refine r_istore_n hX dX12_plan_44 rfl (ls' := [(3, .int v18), (0, .ref (gA (xG X) 111)), (1, .int x1), (2, .int x2)]) rfl ?_
      refine r_iload_n hX dX12_plan_45 0 rfl ?_
      refine r_ldc hX dX12_plan_46 kc_X12_237 ?_
      refine r_icmp_ne hX 54 dX12_plan_48 rfl (fun hc19 => ?_) (fun hc19 => ?_)
      · rw [if_neg hc19] at hf
        refine r_aload_n hX dX12_plan_54 1 rfl ?_
        refine r_iconst hX (0 : Int32) dX12_plan_55 rfl ?_
        obtain ⟨μ20, e21, hf⟩ := bnd_eq hf
        refine r_put hX fl_X12_83 ft_X12_10 (w_111 _ _ _) rfl rfl rfl (s_111_10 _ _ _ _) e21 rfl dX12_plan_56 ?_
        refine r_aload_n hX dX12_plan_59 1 rfl ?_
        obtain ⟨v24, μ22, h23, hf⟩ := bd2_eq hf
        refine r_callVI (Ok.le hX (by omega)) (c_m_now (d := d)  h23) cv_X12_137 (w_111 _ _ _) rfl rfl (st := []) rfl rfl rfl dX12_plan_60 (fun dy => ?_)
        refine r_istore hX dX12_plan_63 rfl (ls' := [(4, .int v24), (3, .int v18), (0, .ref (gA (xG X) 111)), (1, .int x1), (2, .int x2)]) rfl ?_
        refine r_iload_n hX dX12_plan_65 4 rfl ?_
        refine r_istore hX dX12_plan_66 rfl (ls' := [(5, .int x2), (4, .int v24), (3, .int v18), (0, .ref (gA (xG X) 111)), (1, .int x1), (2, .int x2)]) rfl ?_
        refine r_iconst hX (0 : Int32) dX12_plan_68 rfl ?_
        refine r_istore hX dX12_plan_69 rfl (ls' := [(6, .int (0 : Int32)), (5, .int x2), (4, .int v24), (3, .int v18), (0, .ref (gA (xG X) 111)), (1, .int x1), (2, .int x2)]) rfl ?_
        refine r_weak [4, 5, 3, 2, 1, 0] rfl ?_
        exact b_m_plan_b71 hX hr FU _ _ _ _ _ _ _ hf
      · rw [if_pos hc19] at hf
        refine r_bipush hX (-2 : Int32) dX12_plan_51 rfl ?_
        exact fin_I hf hr _ _ _ dX12_plan_53
    · rw [if_pos hc10] at hf
      refine r_iconst hX (-1 : Int32) dX12_plan_22 rfl ?_
      exact fin_I hf hr _ _ _ dX12_plan_23
theorem dX12_everAll_0 : decode cX12_everAll 0 = .ok (.aload_n 0, 1) := by decide +kernel
theorem dX12_everAll_1 : decode cX12_everAll 1 = .ok (.iload_n 2, 1) := by decide +kernel
theorem dX12_everAll_2 : decode cX12_everAll 2 = .ok (.invokevirtual 214, 3) := by decide +kernel
theorem dX12_everAll_5 : decode cX12_everAll 5 = .ok (.iload_n 2, 1) := by decide +kernel
theorem dX12_everAll_6 : decode cX12_everAll 6 = .ok (.istore_n 3, 1) := by decide +kernel
theorem dX12_everAll_7 : decode cX12_everAll 7 = .ok (.aload_n 0, 1) := by decide +kernel
theorem dX12_everAll_8 : decode cX12_everAll 8 = .ok (.getfield 205, 3) := by decide +kernel
theorem dX12_everAll_11 : decode cX12_everAll 11 = .ok (.aload_n 0, 1) := by decide +kernel
theorem dX12_everAll_12 : decode cX12_everAll 12 = .ok (.getfield 208, 3) := by decide +kernel
theorem dX12_everAll_15 : decode cX12_everAll 15 = .ok (.iadd, 1) := by decide +kernel
theorem dX12_everAll_16 : decode cX12_everAll 16 = .ok (.istore 4, 2) := by decide +kernel
theorem dX12_everAll_18 : decode cX12_everAll 18 = .ok (.iconst 0, 1) := by decide +kernel
theorem dX12_everAll_19 : decode cX12_everAll 19 = .ok (.istore 5, 2) := by decide +kernel
theorem dX12_everAll_21 : decode cX12_everAll 21 = .ok (.iload 5, 2) := by decide +kernel
theorem dX12_everAll_23 : decode cX12_everAll 23 = .ok (.iload 4, 2) := by decide +kernel
theorem dX12_everAll_25 : decode cX12_everAll 25 = .ok (.if_icmp .ge 24, 3) := by decide +kernel
theorem dX12_everAll_28 : decode cX12_everAll 28 = .ok (.iload_n 3, 1) := by decide +kernel
theorem dX12_everAll_29 : decode cX12_everAll 29 = .ok (.iload_n 1, 1) := by decide +kernel
theorem dX12_everAll_30 : decode cX12_everAll 30 = .ok (.iand, 1) := by decide +kernel
theorem dX12_everAll_31 : decode cX12_everAll 31 = .ok (.iload_n 1, 1) := by decide +kernel
theorem dX12_everAll_32 : decode cX12_everAll 32 = .ok (.if_icmp .ne 5, 3) := by decide +kernel
theorem dX12_everAll_35 : decode cX12_everAll 35 = .ok (.iconst 1, 1) := by decide +kernel
theorem dX12_everAll_36 : decode cX12_everAll 36 = .ok (.ireturn, 1) := by decide +kernel
theorem dX12_everAll_37 : decode cX12_everAll 37 = .ok (.aload_n 0, 1) := by decide +kernel
theorem dX12_everAll_38 : decode cX12_everAll 38 = .ok (.iload_n 3, 1) := by decide +kernel
theorem dX12_everAll_39 : decode cX12_everAll 39 = .ok (.invokevirtual 190, 3) := by decide +kernel
theorem dX12_everAll_42 : decode cX12_everAll 42 = .ok (.istore_n 3, 1) := by decide +kernel
theorem dX12_everAll_43 : decode cX12_everAll 43 = .ok (.iinc 5 1, 3) := by decide +kernel
theorem dX12_everAll_46 : decode cX12_everAll 46 = .ok (.goto (-25), 3) := by decide +kernel
theorem dX12_everAll_49 : decode cX12_everAll 49 = .ok (.iconst 0, 1) := by decide +kernel
theorem dX12_everAll_50 : decode cX12_everAll 50 = .ok (.ireturn, 1) := by decide +kernel
set_option maxHeartbeats 4000000 in
set_option maxRecDepth 20000 in
theorem b_m_everAll_b21 {X : Cx} {d : Nat} (hX : Ok M_m_everAll (d + 5) X) {r : Int32 × Mem} (hr : RetZ M_m_everAll X r.1 r.2) : ∀ (n : Nat) (x1 : Int32) (x3 : Int32) (x4 : Int32) (x5 : Int32) (μ : Mem) (dy : Nat → Nat), f_m_everAll_b21 n x1 x3 x4 x5 μ = some r → AW X 21 [(0, .ref (gA (xG X) 111)), (1, .int x1), (3, .int x3), (4, .int x4), (5, .int x5)] [] μ dy := by
  intro n
  induction n with
  | zero => intro x1 x3 x4 x5 μ dy hf; exact nomatch hf
  | succ n ih =>
    intro x1 x3 x4 x5 μ dy hf
    rw [f_m_everAll_b21] at hf
    refine r_iload hX dX12_everAll_21 4 rfl ?_
    refine r_iload hX dX12_everAll_23 3 rfl ?_
    refine r_icmp_ge hX 49 dX12_everAll_25 rfl (fun hc5 => ?_) (fun hc5 => ?_)
    · rw [if_pos hc5] at hf
      refine r_iconst hX (0 : Int32) dX12_everAll_49 rfl ?_
      obtain ⟨b6, hf⟩ := chk_eq hf
      exact fin_Z hf hr _ _ _ (zb_nar b6) dX12_everAll_50
    · rw [if_neg hc5] at hf
      refine r_iload_n hX dX12_everAll_28 2 rfl ?_
      refine r_iload_n hX dX12_everAll_29 1 rfl ?_
      refine r_iand hX dX12_everAll_30 ?_
      refine r_iload_n hX dX12_everAll_31 1 rfl ?_
      refine r_icmp_ne hX 37 dX12_everAll_32 rfl (fun hc7 => ?_) (fun hc7 => ?_)
      · rw [if_neg hc7] at hf
        refine r_aload_n hX dX12_everAll_37 0 rfl ?_
        refine r_iload_n hX dX12_everAll_38 2 rfl ?_
        obtain ⟨v10, μ8, h9, hf⟩ := bd2_eq hf
        refine r_callVI (Ok.le hX (by omega)) (c_m_next (d := d)  h9) cv_X12_190 (w_111 _ _ _) rfl rfl (st := []) rfl rfl rfl dX12_everAll_39 (fun dy => ?_)
        refine r_istore_n hX dX12_everAll_42 rfl (ls' := [(3, .int v10), (0, .ref (gA (xG X) 111)), (1, .int x1), (4, .int x4), (5, .int x5)]) rfl ?_
        refine r_iinc hX (x5 + (1 : Int32)) dX12_everAll_43 4 rfl rfl rfl (ls' := [(5, .int (x5 + (1 : Int32))), (3, .int v10), (0, .ref (gA (xG X) 111)), (1, .int x1), (4, .int x4)]) rfl ?_
        refine r_goto hX 21 dX12_everAll_46 rfl ?_
        refine r_weak [2, 3, 1, 4, 0] rfl ?_
        exact ih _ _ _ _ _ _ hf
      · rw [if_pos hc7] at hf
        refine r_iconst hX (1 : Int32) dX12_everAll_35 rfl ?_
        obtain ⟨b11, hf⟩ := chk_eq hf
        exact fin_Z hf hr _ _ _ (zb_nar b11) dX12_everAll_36
set_option maxHeartbeats 4000000 in
set_option maxRecDepth 20000 in
theorem c_m_everAll {G : Gx} {d : Nat} {x1 : Int32} {x2 : Int32} {μ : Mem} {r : Int32 × Mem} (hf : f_m_everAll x1 x2 μ = some r) : Con G M_m_everAll (d + 5) [.ref (gA G 111), .int x1, .int x2] μ (some (.int r.1), r.2) := by
  refine Con.ofZ ⟨rfl, rfl, Nat.le_of_ble_eq_true rfl⟩ rfl (fun X hG hX hr dy => ?_)
  subst hG
  show AW X 0 [(0, .ref (gA (xG X) 111)), (1, .int x1), (2, .int x2)] [] μ dy
  unfold f_m_everAll at hf
  refine r_aload_n hX dX12_everAll_0 0 rfl ?_
  refine r_iload_n hX dX12_everAll_1 2 rfl ?_
  obtain ⟨μ1, h2, hf⟩ := bd1_eq hf
  refine r_callVV (Ok.le hX (by omega)) (c_m_findRest (d := d)  h2) cv_X12_214 (w_111 _ _ _) rfl rfl (st := []) rfl rfl rfl dX12_everAll_2 (fun dy => ?_)
  refine r_iload_n hX dX12_everAll_5 2 rfl ?_
  refine r_istore_n hX dX12_everAll_6 rfl (ls' := [(3, .int x2), (0, .ref (gA (xG X) 111)), (1, .int x1), (2, .int x2)]) rfl ?_
  refine r_aload_n hX dX12_everAll_7 1 rfl ?_
  refine r_get hX fl_X12_205 (w_111 _ _ _) rfl dX12_everAll_8 ?_
  refine r_aload_n hX dX12_everAll_11 1 rfl ?_
  refine r_get hX fl_X12_208 (w_111 _ _ _) rfl dX12_everAll_12 ?_
  refine r_iadd hX dX12_everAll_15 ?_
  obtain ⟨v3, e4, hf⟩ := bnd_eq hf
  refine r_topI e4 ?_
  refine r_istore hX dX12_everAll_16 rfl (ls' := [(4, .int v3), (3, .int x2), (0, .ref (gA (xG X) 111)), (1, .int x1), (2, .int x2)]) rfl ?_
  refine r_iconst hX (0 : Int32) dX12_everAll_18 rfl ?_
  refine r_istore hX dX12_everAll_19 rfl (ls' := [(5, .int (0 : Int32)), (4, .int v3), (3, .int x2), (0, .ref (gA (xG X) 111)), (1, .int x1), (2, .int x2)]) rfl ?_
  refine r_weak [3, 4, 2, 1, 0] rfl ?_
  exact b_m_everAll_b21 hX hr FU _ _ _ _ _ _ hf
theorem dX12_guard_0 : decode cX12_guard 0 = .ok (.aload_n 0, 1) := by decide +kernel
theorem dX12_guard_1 : decode cX12_guard 1 = .ok (.iconst 0, 1) := by decide +kernel
theorem dX12_guard_2 : decode cX12_guard 2 = .ok (.putfield 80, 3) := by decide +kernel
theorem dX12_guard_5 : decode cX12_guard 5 = .ok (.aload_n 0, 1) := by decide +kernel
theorem dX12_guard_6 : decode cX12_guard 6 = .ok (.iload_n 1, 1) := by decide +kernel
theorem dX12_guard_7 : decode cX12_guard 7 = .ok (.invokevirtual 193, 3) := by decide +kernel
theorem dX12_guard_10 : decode cX12_guard 10 = .ok (.ifCond .ne 5, 3) := by decide +kernel
theorem dX12_guard_13 : decode cX12_guard 13 = .ok (.iconst (-1), 1) := by decide +kernel
theorem dX12_guard_14 : decode cX12_guard 14 = .ok (.ireturn, 1) := by decide +kernel
theorem dX12_guard_15 : decode cX12_guard 15 = .ok (.aload_n 0, 1) := by decide +kernel
theorem dX12_guard_16 : decode cX12_guard 16 = .ok (.invokevirtual 196, 3) := by decide +kernel
theorem dX12_guard_19 : decode cX12_guard 19 = .ok (.istore_n 2, 1) := by decide +kernel
theorem dX12_guard_20 : decode cX12_guard 20 = .ok (.aload_n 0, 1) := by decide +kernel
theorem dX12_guard_21 : decode cX12_guard 21 = .ok (.getfield 140, 3) := by decide +kernel
theorem dX12_guard_24 : decode cX12_guard 24 = .ok (.istore_n 3, 1) := by decide +kernel
theorem dX12_guard_25 : decode cX12_guard 25 = .ok (.iconst (-1), 1) := by decide +kernel
theorem dX12_guard_26 : decode cX12_guard 26 = .ok (.istore 4, 2) := by decide +kernel
theorem dX12_guard_28 : decode cX12_guard 28 = .ok (.iconst 0, 1) := by decide +kernel
theorem dX12_guard_29 : decode cX12_guard 29 = .ok (.istore 5, 2) := by decide +kernel
theorem dX12_guard_31 : decode cX12_guard 31 = .ok (.iload 5, 2) := by decide +kernel
theorem dX12_guard_33 : decode cX12_guard 33 = .ok (.aload_n 0, 1) := by decide +kernel
theorem dX12_guard_34 : decode cX12_guard 34 = .ok (.invokevirtual 93, 3) := by decide +kernel
theorem dX12_guard_37 : decode cX12_guard 37 = .ok (.if_icmp .gt 76, 3) := by decide +kernel
theorem dX12_guard_40 : decode cX12_guard 40 = .ok (.iload 5, 2) := by decide +kernel
theorem dX12_guard_42 : decode cX12_guard 42 = .ok (.iload_n 2, 1) := by decide +kernel
theorem dX12_guard_43 : decode cX12_guard 43 = .ok (.iconst (-1), 1) := by decide +kernel
theorem dX12_guard_44 : decode cX12_guard 44 = .ok (.ixor, 1) := by decide +kernel
theorem dX12_guard_45 : decode cX12_guard 45 = .ok (.iand, 1) := by decide +kernel
theorem dX12_guard_46 : decode cX12_guard 46 = .ok (.ifCond .ne 61, 3) := by decide +kernel
theorem dX12_guard_49 : decode cX12_guard 49 = .ok (.iload 4, 2) := by decide +kernel
theorem dX12_guard_51 : decode cX12_guard 51 = .ok (.iconst (-1), 1) := by decide +kernel
theorem dX12_guard_52 : decode cX12_guard 52 = .ok (.if_icmp .eq 19, 3) := by decide +kernel
theorem dX12_guard_55 : decode cX12_guard 55 = .ok (.iload 5, 2) := by decide +kernel
theorem dX12_guard_57 : decode cX12_guard 57 = .ok (.invokestatic 244, 3) := by decide +kernel
theorem dX12_guard_60 : decode cX12_guard 60 = .ok (.iload 4, 2) := by decide +kernel
theorem dX12_guard_62 : decode cX12_guard 62 = .ok (.invokestatic 244, 3) := by decide +kernel
theorem dX12_guard_65 : decode cX12_guard 65 = .ok (.if_icmp .lt 6, 3) := by decide +kernel
theorem dX12_guard_68 : decode cX12_guard 68 = .ok (.goto 39, 3) := by decide +kernel
theorem dX12_guard_71 : decode cX12_guard 71 = .ok (.aload_n 0, 1) := by decide +kernel
theorem dX12_guard_72 : decode cX12_guard 72 = .ok (.iload_n 3, 1) := by decide +kernel
theorem dX12_guard_73 : decode cX12_guard 73 = .ok (.iload 5, 2) := by decide +kernel
theorem dX12_guard_75 : decode cX12_guard 75 = .ok (.ior, 1) := by decide +kernel
theorem dX12_guard_76 : decode cX12_guard 76 = .ok (.putfield 140, 3) := by decide +kernel
theorem dX12_guard_79 : decode cX12_guard 79 = .ok (.aload_n 0, 1) := by decide +kernel
theorem dX12_guard_80 : decode cX12_guard 80 = .ok (.iload_n 1, 1) := by decide +kernel
theorem dX12_guard_81 : decode cX12_guard 81 = .ok (.aload_n 0, 1) := by decide +kernel
theorem dX12_guard_82 : decode cX12_guard 82 = .ok (.invokevirtual 137, 3) := by decide +kernel
theorem dX12_guard_85 : decode cX12_guard 85 = .ok (.iload_n 2, 1) := by decide +kernel
theorem dX12_guard_86 : decode cX12_guard 86 = .ok (.iload 5, 2) := by decide +kernel
theorem dX12_guard_88 : decode cX12_guard 88 = .ok (.iconst (-1), 1) := by decide +kernel
theorem dX12_guard_89 : decode cX12_guard 89 = .ok (.ixor, 1) := by decide +kernel
theorem dX12_guard_90 : decode cX12_guard 90 = .ok (.iand, 1) := by decide +kernel
theorem dX12_guard_91 : decode cX12_guard 91 = .ok (.ior, 1) := by decide +kernel
theorem dX12_guard_92 : decode cX12_guard 92 = .ok (.invokevirtual 273, 3) := by decide +kernel
theorem dX12_guard_95 : decode cX12_guard 95 = .ok (.ifCond .ne 7, 3) := by decide +kernel
theorem dX12_guard_98 : decode cX12_guard 98 = .ok (.iload 5, 2) := by decide +kernel
theorem dX12_guard_100 : decode cX12_guard 100 = .ok (.istore 4, 2) := by decide +kernel
theorem dX12_guard_102 : decode cX12_guard 102 = .ok (.aload_n 0, 1) := by decide +kernel
theorem dX12_guard_103 : decode cX12_guard 103 = .ok (.iload_n 3, 1) := by decide +kernel
theorem dX12_guard_104 : decode cX12_guard 104 = .ok (.putfield 140, 3) := by decide +kernel
theorem dX12_guard_107 : decode cX12_guard 107 = .ok (.iinc 5 1, 3) := by decide +kernel
theorem dX12_guard_110 : decode cX12_guard 110 = .ok (.goto (-79), 3) := by decide +kernel
theorem dX12_guard_113 : decode cX12_guard 113 = .ok (.iload 4, 2) := by decide +kernel
theorem dX12_guard_115 : decode cX12_guard 115 = .ok (.iconst (-1), 1) := by decide +kernel
theorem dX12_guard_116 : decode cX12_guard 116 = .ok (.if_icmp .ne 6, 3) := by decide +kernel
theorem dX12_guard_119 : decode cX12_guard 119 = .ok (.bipush (-2), 2) := by decide +kernel
theorem dX12_guard_121 : decode cX12_guard 121 = .ok (.ireturn, 1) := by decide +kernel
theorem dX12_guard_122 : decode cX12_guard 122 = .ok (.aload_n 0, 1) := by decide +kernel
theorem dX12_guard_123 : decode cX12_guard 123 = .ok (.iconst 0, 1) := by decide +kernel
theorem dX12_guard_124 : decode cX12_guard 124 = .ok (.putfield 83, 3) := by decide +kernel
theorem dX12_guard_127 : decode cX12_guard 127 = .ok (.aload_n 0, 1) := by decide +kernel
theorem dX12_guard_128 : decode cX12_guard 128 = .ok (.iload 4, 2) := by decide +kernel
theorem dX12_guard_130 : decode cX12_guard 130 = .ok (.i2l, 1) := by decide +kernel
theorem dX12_guard_131 : decode cX12_guard 131 = .ok (.invokevirtual 217, 3) := by decide +kernel
theorem dX12_guard_134 : decode cX12_guard 134 = .ok (.iload 4, 2) := by decide +kernel
theorem dX12_guard_136 : decode cX12_guard 136 = .ok (.invokestatic 244, 3) := by decide +kernel
theorem dX12_guard_139 : decode cX12_guard 139 = .ok (.ireturn, 1) := by decide +kernel
set_option maxHeartbeats 4000000 in
set_option maxRecDepth 20000 in
theorem b_m_guard_b102 {X : Cx} {d : Nat} (hX : Ok M_m_guard (d + 6) X) {r : Int32 × Mem} (hr : RetI M_m_guard X r.1 r.2) {k31 : Int32 → Int32 → Int32 → Int32 → Int32 → Mem → Option (Int32 × Mem)} (hk31 : ∀ (x1 : Int32) (x2 : Int32) (x3 : Int32) (x4 : Int32) (x5 : Int32) (μ : Mem) (dy : Nat → Nat), k31 x1 x2 x3 x4 x5 μ = some r → AW X 31 [(0, .ref (gA (xG X) 111)), (1, .int x1), (2, .int x2), (3, .int x3), (4, .int x4), (5, .int x5)] [] μ dy) (x1 : Int32) (x2 : Int32) (x3 : Int32) (x4 : Int32) (x5 : Int32) (μ : Mem) (dy : Nat → Nat) (hf : f_m_guard_b102 k31 x1 x2 x3 x4 x5 μ = some r) : AW X 102 [(0, .ref (gA (xG X) 111)), (1, .int x1), (2, .int x2), (3, .int x3), (4, .int x4), (5, .int x5)] [] μ dy := by
  unfold f_m_guard_b102 at hf
  refine r_aload_n hX dX12_guard_102 0 rfl ?_
  refine r_iload_n hX dX12_guard_103 3 rfl ?_
  obtain ⟨μ33, e34, hf⟩ := bnd_eq hf
  refine r_put hX fl_X12_140 ft_X12_3 (w_111 _ _ _) rfl rfl rfl (s_111_3 _ _ _ _) e34 rfl dX12_guard_104 ?_
  refine r_iinc hX (x5 + (1 : Int32)) dX12_guard_107 5 rfl rfl rfl (ls' := [(5, .int (x5 + (1 : Int32))), (0, .ref (gA (xG X) 111)), (1, .int x1), (2, .int x2), (3, .int x3), (4, .int x4)]) rfl ?_
  refine r_goto hX 31 dX12_guard_110 rfl ?_
  refine r_weak [1, 2, 3, 4, 5, 0] rfl ?_
  exact hk31 _ _ _ _ _ _ _ hf
set_option maxHeartbeats 4000000 in
set_option maxRecDepth 20000 in
theorem b_m_guard_b71 {X : Cx} {d : Nat} (hX : Ok M_m_guard (d + 6) X) {r : Int32 × Mem} (hr : RetI M_m_guard X r.1 r.2) {k31 : Int32 → Int32 → Int32 → Int32 → Int32 → Mem → Option (Int32 × Mem)} (hk31 : ∀ (x1 : Int32) (x2 : Int32) (x3 : Int32) (x4 : Int32) (x5 : Int32) (μ : Mem) (dy : Nat → Nat), k31 x1 x2 x3 x4 x5 μ = some r → AW X 31 [(0, .ref (gA (xG X) 111)), (1, .int x1), (2, .int x2), (3, .int x3), (4, .int x4), (5, .int x5)] [] μ dy) (x1 : Int32) (x2 : Int32) (x3 : Int32) (x4 : Int32) (x5 : Int32) (μ : Mem) (dy : Nat → Nat) (hf : f_m_guard_b71 k31 x1 x2 x3 x4 x5 μ = some r) : AW X 71 [(0, .ref (gA (xG X) 111)), (1, .int x1), (2, .int x2), (3, .int x3), (4, .int x4), (5, .int x5)] [] μ dy := by
  unfold f_m_guard_b71 at hf
  refine r_aload_n hX dX12_guard_71 0 rfl ?_
  refine r_iload_n hX dX12_guard_72 3 rfl ?_
  refine r_iload hX dX12_guard_73 5 rfl ?_
  refine r_ior hX dX12_guard_75 ?_
  obtain ⟨μ24, e25, hf⟩ := bnd_eq hf
  refine r_put hX fl_X12_140 ft_X12_3 (w_111 _ _ _) rfl rfl rfl (s_111_3 _ _ _ _) e25 rfl dX12_guard_76 ?_
  refine r_aload_n hX dX12_guard_79 0 rfl ?_
  refine r_iload_n hX dX12_guard_80 1 rfl ?_
  refine r_aload_n hX dX12_guard_81 0 rfl ?_
  obtain ⟨v28, μ26, h27, hf⟩ := bd2_eq hf
  refine r_callVI (Ok.le hX (by omega)) (c_m_now (d := d)  h27) cv_X12_137 (w_111 _ _ _) rfl rfl (st := [.int x1, .ref (gA (xG X) 111)]) rfl rfl rfl dX12_guard_82 (fun dy => ?_)
  refine r_iload_n hX dX12_guard_85 2 rfl ?_
  refine r_iload hX dX12_guard_86 5 rfl ?_
  refine r_iconst hX (-1 : Int32) dX12_guard_88 rfl ?_
  refine r_ixor hX dX12_guard_89 ?_
  refine r_iand hX dX12_guard_90 ?_
  refine r_ior hX dX12_guard_91 ?_
  obtain ⟨v31, μ29, h30, hf⟩ := bd2_eq hf
  refine r_callVI (Ok.le hX (by omega)) (c_m_everAll (d := d)  h30) cv_X12_273 (w_111 _ _ _) rfl rfl (st := []) rfl rfl rfl dX12_guard_92 (fun dy => ?_)
  refine r_if_ne hX 102 dX12_guard_95 rfl (fun hc32 => ?_) (fun hc32 => ?_)
  · rw [if_neg hc32] at hf
    refine r_weak [0, 1, 2, 3, 4, 5] rfl ?_
    exact b_m_guard_b102 hX hr hk31 _ _ _ _ _ _ _ hf
  · rw [if_pos hc32] at hf
    refine r_iload hX dX12_guard_98 5 rfl ?_
    refine r_istore hX dX12_guard_100 rfl (ls' := [(4, .int x5), (0, .ref (gA (xG X) 111)), (1, .int x1), (2, .int x2), (3, .int x3), (5, .int x5)]) rfl ?_
    refine r_weak [1, 2, 3, 4, 0, 5] rfl ?_
    exact b_m_guard_b102 hX hr hk31 _ _ _ _ _ _ _ hf
set_option maxHeartbeats 4000000 in
set_option maxRecDepth 20000 in
theorem b_m_guard_b31 {X : Cx} {d : Nat} (hX : Ok M_m_guard (d + 6) X) {r : Int32 × Mem} (hr : RetI M_m_guard X r.1 r.2) : ∀ (n : Nat) (x1 : Int32) (x2 : Int32) (x3 : Int32) (x4 : Int32) (x5 : Int32) (μ : Mem) (dy : Nat → Nat), f_m_guard_b31 n x1 x2 x3 x4 x5 μ = some r → AW X 31 [(0, .ref (gA (xG X) 111)), (1, .int x1), (2, .int x2), (3, .int x3), (4, .int x4), (5, .int x5)] [] μ dy := by
  intro n
  induction n with
  | zero => intro x1 x2 x3 x4 x5 μ dy hf; exact nomatch hf
  | succ n ih =>
    intro x1 x2 x3 x4 x5 μ dy hf
    rw [f_m_guard_b31] at hf
    refine r_iload hX dX12_guard_31 5 rfl ?_
    refine r_aload_n hX dX12_guard_33 0 rfl ?_
    obtain ⟨v12, μ10, h11, hf⟩ := bd2_eq hf
    refine r_callVI (Ok.le hX (by omega)) (c_m_everybody (d := d)  h11) cv_X12_93 (w_111 _ _ _) rfl rfl (st := [.int x5]) rfl rfl rfl dX12_guard_34 (fun dy => ?_)
    refine r_icmp_gt hX 113 dX12_guard_37 rfl (fun hc13 => ?_) (fun hc13 => ?_)
    · rw [if_pos hc13] at hf
      refine r_iload hX dX12_guard_113 4 rfl ?_
      refine r_iconst hX (-1 : Int32) dX12_guard_115 rfl ?_
      refine r_icmp_ne hX 122 dX12_guard_116 rfl (fun hc14 => ?_) (fun hc14 => ?_)
      · rw [if_neg hc14] at hf
        refine r_aload_n hX dX12_guard_122 0 rfl ?_
        refine r_iconst hX (0 : Int32) dX12_guard_123 rfl ?_
        obtain ⟨μ15, e16, hf⟩ := bnd_eq hf
        refine r_put hX fl_X12_83 ft_X12_10 (w_111 _ _ _) rfl rfl rfl (s_111_10 _ _ _ _) e16 rfl dX12_guard_124 ?_
        refine r_aload_n hX dX12_guard_127 0 rfl ?_
        refine r_iload hX dX12_guard_128 4 rfl ?_
        refine r_i2l hX dX12_guard_130 ?_
        obtain ⟨μ17, h18, hf⟩ := bd1_eq hf
        refine r_callVV (Ok.le hX (by omega)) (c_m_tell (d := d)  h18) cv_X12_217 (w_111 _ _ _) rfl rfl (st := []) rfl rfl rfl dX12_guard_131 (fun dy => ?_)
        refine r_iload hX dX12_guard_134 4 rfl ?_
        obtain ⟨v21, μ19, h20, hf⟩ := bd2_eq hf
        refine r_callSI (Ok.le hX (by omega)) (c_jd_bitCount (d := d)  h20) cs_X12_244 (st := []) rfl rfl rfl dX12_guard_136 (fun dy => ?_)
        exact fin_I hf hr _ _ _ dX12_guard_139
      · rw [if_pos hc14] at hf
        refine r_bipush hX (-2 : Int32) dX12_guard_119 rfl ?_
        exact fin_I hf hr _ _ _ dX12_guard_121
    · rw [if_neg hc13] at hf
      refine r_iload hX dX12_guard_40 5 rfl ?_
      refine r_iload_n hX dX12_guard_42 2 rfl ?_
      refine r_iconst hX (-1 : Int32) dX12_guard_43 rfl ?_
      refine r_ixor hX dX12_guard_44 ?_
      refine r_iand hX dX12_guard_45 ?_
      refine r_if_ne hX 107 dX12_guard_46 rfl (fun hc22 => ?_) (fun hc22 => ?_)
      · rw [if_neg hc22] at hf
        refine r_iinc hX (x5 + (1 : Int32)) dX12_guard_107 5 rfl rfl rfl (ls' := [(5, .int (x5 + (1 : Int32))), (0, .ref (gA (xG X) 111)), (1, .int x1), (2, .int x2), (3, .int x3), (4, .int x4)]) rfl ?_
        refine r_goto hX 31 dX12_guard_110 rfl ?_
        refine r_weak [1, 2, 3, 4, 5, 0] rfl ?_
        exact ih _ _ _ _ _ _ _ hf
      · rw [if_pos hc22] at hf
        refine r_iload hX dX12_guard_49 4 rfl ?_
        refine r_iconst hX (-1 : Int32) dX12_guard_51 rfl ?_
        refine r_icmp_eq hX 71 dX12_guard_52 rfl (fun hc23 => ?_) (fun hc23 => ?_)
        · rw [if_pos hc23] at hf
          refine r_weak [0, 1, 2, 3, 4, 5] rfl ?_
          exact b_m_guard_b71 hX hr ih _ _ _ _ _ _ _ hf
        · rw [if_neg hc23] at hf
          refine r_iload hX dX12_guard_55 5 rfl ?_
          obtain ⟨v37, μ35, h36, hf⟩ := bd2_eq hf
          refine r_callSI (Ok.le hX (by omega)) (c_jd_bitCount (d := d)  h36) cs_X12_244 (st := []) rfl rfl rfl dX12_guard_57 (fun dy => ?_)
          refine r_iload hX dX12_guard_60 4 rfl ?_
          obtain ⟨v40, μ38, h39, hf⟩ := bd2_eq hf
          refine r_callSI (Ok.le hX (by omega)) (c_jd_bitCount (d := d)  h39) cs_X12_244 (st := [.int v37]) rfl rfl rfl dX12_guard_62 (fun dy => ?_)
          refine r_icmp_lt hX 71 dX12_guard_65 rfl (fun hc41 => ?_) (fun hc41 => ?_)
          · rw [if_pos hc41] at hf
            refine r_weak [0, 1, 2, 3, 4, 5] rfl ?_
            exact b_m_guard_b71 hX hr ih _ _ _ _ _ _ _ hf
          · rw [if_neg hc41] at hf
            refine r_goto hX 107 dX12_guard_68 rfl ?_
            refine r_iinc hX (x5 + (1 : Int32)) dX12_guard_107 5 rfl rfl rfl (ls' := [(5, .int (x5 + (1 : Int32))), (0, .ref (gA (xG X) 111)), (1, .int x1), (2, .int x2), (3, .int x3), (4, .int x4)]) rfl ?_
            refine r_goto hX 31 dX12_guard_110 rfl ?_
            refine r_weak [1, 2, 3, 4, 5, 0] rfl ?_
            exact ih _ _ _ _ _ _ _ hf
set_option maxHeartbeats 4000000 in
set_option maxRecDepth 20000 in
theorem c_m_guard {G : Gx} {d : Nat} {x1 : Int32} {μ : Mem} {r : Int32 × Mem} (hf : f_m_guard x1 μ = some r) : Con G M_m_guard (d + 6) [.ref (gA G 111), .int x1] μ (some (.int r.1), r.2) := by
  refine Con.ofI ⟨rfl, rfl, Nat.le_of_ble_eq_true rfl⟩ rfl rfl (fun X hG hX hr dy => ?_)
  subst hG
  show AW X 0 [(0, .ref (gA (xG X) 111)), (1, .int x1)] [] μ dy
  unfold f_m_guard at hf
  refine r_aload_n hX dX12_guard_0 0 rfl ?_
  refine r_iconst hX (0 : Int32) dX12_guard_1 rfl ?_
  obtain ⟨μ1, e2, hf⟩ := bnd_eq hf
  refine r_put hX fl_X12_80 ft_X12_11 (w_111 _ _ _) rfl rfl rfl (s_111_11 _ _ _ _) e2 rfl dX12_guard_2 ?_
  refine r_aload_n hX dX12_guard_5 0 rfl ?_
  refine r_iload_n hX dX12_guard_6 1 rfl ?_
  obtain ⟨v5, μ3, h4, hf⟩ := bd2_eq hf
  refine r_callVI (Ok.le hX (by omega)) (c_m_areSome (d := d)  h4) cv_X12_193 (w_111 _ _ _) rfl rfl (st := []) rfl rfl rfl dX12_guard_7 (fun dy => ?_)
  refine r_if_ne hX 15 dX12_guard_10 rfl (fun hc6 => ?_) (fun hc6 => ?_)
  · rw [if_neg hc6] at hf
    refine r_aload_n hX dX12_guard_15 0 rfl ?_
    obtain ⟨v9, μ7, h8, hf⟩ := bd2_eq hf
    refine r_callVI (Ok.le hX (by omega)) (c_m_open (d := d)  h8) cv_X12_196 (w_111 _ _ _) rfl rfl (st := []) rfl rfl rfl dX12_guard_16 (fun dy => ?_)
    refine r_istore_n hX dX12_guard_19 rfl (ls' := [(2, .int v9), (0, .ref (gA (xG X) 111)), (1, .int x1)]) rfl ?_
    refine r_aload_n hX dX12_guard_20 1 rfl ?_
    refine r_get hX fl_X12_140 (w_111 _ _ _) rfl dX12_guard_21 ?_
    refine r_istore_n hX dX12_guard_24 rfl (ls' := [(3, .int (μ7.1 v_m_firm 0)), (2, .int v9), (0, .ref (gA (xG X) 111)), (1, .int x1)]) rfl ?_
    refine r_iconst hX (-1 : Int32) dX12_guard_25 rfl ?_
    refine r_istore hX dX12_guard_26 rfl (ls' := [(4, .int (-1 : Int32)), (3, .int (μ7.1 v_m_firm 0)), (2, .int v9), (0, .ref (gA (xG X) 111)), (1, .int x1)]) rfl ?_
    refine r_iconst hX (0 : Int32) dX12_guard_28 rfl ?_
    refine r_istore hX dX12_guard_29 rfl (ls' := [(5, .int (0 : Int32)), (4, .int (-1 : Int32)), (3, .int (μ7.1 v_m_firm 0)), (2, .int v9), (0, .ref (gA (xG X) 111)), (1, .int x1)]) rfl ?_
    refine r_weak [4, 5, 3, 2, 1, 0] rfl ?_
    exact b_m_guard_b31 hX hr FU _ _ _ _ _ _ _ hf
  · rw [if_pos hc6] at hf
    refine r_iconst hX (-1 : Int32) dX12_guard_13 rfl ?_
    exact fin_I hf hr _ _ _ dX12_guard_14
theorem dX12_holding_0 : decode cX12_holding 0 = .ok (.iload_n 1, 1) := by decide +kernel
theorem dX12_holding_1 : decode cX12_holding 1 = .ok (.istore_n 2, 1) := by decide +kernel
theorem dX12_holding_2 : decode cX12_holding 2 = .ok (.iconst (-1), 1) := by decide +kernel
theorem dX12_holding_3 : decode cX12_holding 3 = .ok (.istore_n 3, 1) := by decide +kernel
theorem dX12_holding_4 : decode cX12_holding 4 = .ok (.iload_n 2, 1) := by decide +kernel
theorem dX12_holding_5 : decode cX12_holding 5 = .ok (.iload_n 3, 1) := by decide +kernel
theorem dX12_holding_6 : decode cX12_holding 6 = .ok (.if_icmp .eq 86, 3) := by decide +kernel
theorem dX12_holding_9 : decode cX12_holding 9 = .ok (.iload_n 2, 1) := by decide +kernel
theorem dX12_holding_10 : decode cX12_holding 10 = .ok (.istore_n 3, 1) := by decide +kernel
theorem dX12_holding_11 : decode cX12_holding 11 = .ok (.aload_n 0, 1) := by decide +kernel
theorem dX12_holding_12 : decode cX12_holding 12 = .ok (.invokevirtual 93, 3) := by decide +kernel
theorem dX12_holding_15 : decode cX12_holding 15 = .ok (.iload_n 2, 1) := by decide +kernel
theorem dX12_holding_16 : decode cX12_holding 16 = .ok (.iconst (-1), 1) := by decide +kernel
theorem dX12_holding_17 : decode cX12_holding 17 = .ok (.ixor, 1) := by decide +kernel
theorem dX12_holding_18 : decode cX12_holding 18 = .ok (.iand, 1) := by decide +kernel
theorem dX12_holding_19 : decode cX12_holding 19 = .ok (.istore 4, 2) := by decide +kernel
theorem dX12_holding_21 : decode cX12_holding 21 = .ok (.iload 4, 2) := by decide +kernel
theorem dX12_holding_23 : decode cX12_holding 23 = .ok (.aload_n 0, 1) := by decide +kernel
theorem dX12_holding_24 : decode cX12_holding 24 = .ok (.getfield 140, 3) := by decide +kernel
theorem dX12_holding_27 : decode cX12_holding 27 = .ok (.iconst (-1), 1) := by decide +kernel
theorem dX12_holding_28 : decode cX12_holding 28 = .ok (.ixor, 1) := by decide +kernel
theorem dX12_holding_29 : decode cX12_holding 29 = .ok (.iand, 1) := by decide +kernel
theorem dX12_holding_30 : decode cX12_holding 30 = .ok (.aload_n 0, 1) := by decide +kernel
theorem dX12_holding_31 : decode cX12_holding 31 = .ok (.invokevirtual 137, 3) := by decide +kernel
theorem dX12_holding_34 : decode cX12_holding 34 = .ok (.aload_n 0, 1) := by decide +kernel
theorem dX12_holding_35 : decode cX12_holding 35 = .ok (.getfield 140, 3) := by decide +kernel
theorem dX12_holding_38 : decode cX12_holding 38 = .ok (.iand, 1) := by decide +kernel
theorem dX12_holding_39 : decode cX12_holding 39 = .ok (.ior, 1) := by decide +kernel
theorem dX12_holding_40 : decode cX12_holding 40 = .ok (.istore 5, 2) := by decide +kernel
theorem dX12_holding_42 : decode cX12_holding 42 = .ok (.iconst 0, 1) := by decide +kernel
theorem dX12_holding_43 : decode cX12_holding 43 = .ok (.istore 6, 2) := by decide +kernel
theorem dX12_holding_45 : decode cX12_holding 45 = .ok (.iload 6, 2) := by decide +kernel
theorem dX12_holding_47 : decode cX12_holding 47 = .ok (.aload_n 0, 1) := by decide +kernel
theorem dX12_holding_48 : decode cX12_holding 48 = .ok (.getfield 86, 3) := by decide +kernel
theorem dX12_holding_51 : decode cX12_holding 51 = .ok (.if_icmp .ge 38, 3) := by decide +kernel
theorem dX12_holding_54 : decode cX12_holding 54 = .ok (.iload_n 3, 1) := by decide +kernel
theorem dX12_holding_55 : decode cX12_holding 55 = .ok (.iload 6, 2) := by decide +kernel
theorem dX12_holding_57 : decode cX12_holding 57 = .ok (.invokestatic 164, 3) := by decide +kernel
theorem dX12_holding_60 : decode cX12_holding 60 = .ok (.ifCond .eq 23, 3) := by decide +kernel
theorem dX12_holding_63 : decode cX12_holding 63 = .ok (.aload_n 0, 1) := by decide +kernel
theorem dX12_holding_64 : decode cX12_holding 64 = .ok (.iload 6, 2) := by decide +kernel
theorem dX12_holding_66 : decode cX12_holding 66 = .ok (.iload 5, 2) := by decide +kernel
theorem dX12_holding_68 : decode cX12_holding 68 = .ok (.invokevirtual 187, 3) := by decide +kernel
theorem dX12_holding_71 : decode cX12_holding 71 = .ok (.ifCond .eq 12, 3) := by decide +kernel
theorem dX12_holding_74 : decode cX12_holding 74 = .ok (.iload_n 2, 1) := by decide +kernel
theorem dX12_holding_75 : decode cX12_holding 75 = .ok (.iconst 1, 1) := by decide +kernel
theorem dX12_holding_76 : decode cX12_holding 76 = .ok (.iload 6, 2) := by decide +kernel
theorem dX12_holding_78 : decode cX12_holding 78 = .ok (.ishl, 1) := by decide +kernel
theorem dX12_holding_79 : decode cX12_holding 79 = .ok (.iconst (-1), 1) := by decide +kernel
theorem dX12_holding_80 : decode cX12_holding 80 = .ok (.ixor, 1) := by decide +kernel
theorem dX12_holding_81 : decode cX12_holding 81 = .ok (.iand, 1) := by decide +kernel
theorem dX12_holding_82 : decode cX12_holding 82 = .ok (.istore_n 2, 1) := by decide +kernel
theorem dX12_holding_83 : decode cX12_holding 83 = .ok (.iinc 6 1, 3) := by decide +kernel
theorem dX12_holding_86 : decode cX12_holding 86 = .ok (.goto (-41), 3) := by decide +kernel
theorem dX12_holding_89 : decode cX12_holding 89 = .ok (.goto (-85), 3) := by decide +kernel
theorem dX12_holding_92 : decode cX12_holding 92 = .ok (.iload_n 2, 1) := by decide +kernel
theorem dX12_holding_93 : decode cX12_holding 93 = .ok (.ireturn, 1) := by decide +kernel
set_option maxHeartbeats 4000000 in
set_option maxRecDepth 20000 in
theorem b_m_holding_b45 {X : Cx} {d : Nat} (hX : Ok M_m_holding (d + 3) X) {r : Int32 × Mem} (hr : RetI M_m_holding X r.1 r.2) {k4 : Int32 → Int32 → Mem → Option (Int32 × Mem)} (hk4 : ∀ (x2 : Int32) (x3 : Int32) (μ : Mem) (dy : Nat → Nat), k4 x2 x3 μ = some r → AW X 4 [(0, .ref (gA (xG X) 111)), (2, .int x2), (3, .int x3)] [] μ dy) : ∀ (n : Nat) (x2 : Int32) (x3 : Int32) (x5 : Int32) (x6 : Int32) (μ : Mem) (dy : Nat → Nat), f_m_holding_b45 k4 n x2 x3 x5 x6 μ = some r → AW X 45 [(0, .ref (gA (xG X) 111)), (2, .int x2), (3, .int x3), (5, .int x5), (6, .int x6)] [] μ dy := by
  intro n
  induction n with
  | zero => intro x2 x3 x5 x6 μ dy hf; exact nomatch hf
  | succ n ih =>
    intro x2 x3 x5 x6 μ dy hf
    rw [f_m_holding_b45] at hf
    refine r_iload hX dX12_holding_45 4 rfl ?_
    refine r_aload_n hX dX12_holding_47 0 rfl ?_
    refine r_get hX fl_X12_86 (w_111 _ _ _) rfl dX12_holding_48 ?_
    refine r_icmp_ge hX 89 dX12_holding_51 rfl (fun hc10 => ?_) (fun hc10 => ?_)
    · rw [if_pos hc10] at hf
      refine r_goto hX 4 dX12_holding_89 rfl ?_
      refine r_weak [0, 1, 2] rfl ?_
      exact hk4 _ _ _ _ hf
    · rw [if_neg hc10] at hf
      refine r_iload_n hX dX12_holding_54 2 rfl ?_
      refine r_iload hX dX12_holding_55 4 rfl ?_
      obtain ⟨v13, μ11, h12, hf⟩ := bd2_eq hf
      refine r_callSI (Ok.le hX (by omega)) (c_m_has (d := d)  h12) cs_X12_164 (st := []) rfl rfl rfl dX12_holding_57 (fun dy => ?_)
      refine r_if_eq hX 83 dX12_holding_60 rfl (fun hc14 => ?_) (fun hc14 => ?_)
      · rw [if_pos hc14] at hf
        refine r_iinc hX (x6 + (1 : Int32)) dX12_holding_83 4 rfl rfl rfl (ls' := [(6, .int (x6 + (1 : Int32))), (0, .ref (gA (xG X) 111)), (2, .int x2), (3, .int x3), (5, .int x5)]) rfl ?_
        refine r_goto hX 45 dX12_holding_86 rfl ?_
        refine r_weak [1, 2, 3, 4, 0] rfl ?_
        exact ih _ _ _ _ _ _ hf
      · rw [if_neg hc14] at hf
        refine r_aload_n hX dX12_holding_63 0 rfl ?_
        refine r_iload hX dX12_holding_64 4 rfl ?_
        refine r_iload hX dX12_holding_66 3 rfl ?_
        obtain ⟨v17, μ15, h16, hf⟩ := bd2_eq hf
        refine r_callVI (Ok.le hX (by omega)) (c_m_wouldBelieve (d := d)  h16) cv_X12_187 (w_111 _ _ _) rfl rfl (st := []) rfl rfl rfl dX12_holding_68 (fun dy => ?_)
        refine r_if_eq hX 83 dX12_holding_71 rfl (fun hc18 => ?_) (fun hc18 => ?_)
        · rw [if_pos hc18] at hf
          refine r_iinc hX (x6 + (1 : Int32)) dX12_holding_83 4 rfl rfl rfl (ls' := [(6, .int (x6 + (1 : Int32))), (0, .ref (gA (xG X) 111)), (2, .int x2), (3, .int x3), (5, .int x5)]) rfl ?_
          refine r_goto hX 45 dX12_holding_86 rfl ?_
          refine r_weak [1, 2, 3, 4, 0] rfl ?_
          exact ih _ _ _ _ _ _ hf
        · rw [if_neg hc18] at hf
          refine r_iload_n hX dX12_holding_74 1 rfl ?_
          refine r_iconst hX (1 : Int32) dX12_holding_75 rfl ?_
          refine r_iload hX dX12_holding_76 4 rfl ?_
          refine r_ishl hX dX12_holding_78 ?_
          refine r_iconst hX (-1 : Int32) dX12_holding_79 rfl ?_
          refine r_ixor hX dX12_holding_80 ?_
          refine r_iand hX dX12_holding_81 ?_
          obtain ⟨v19, e20, hf⟩ := bnd_eq hf
          refine r_topI e20 ?_
          refine r_istore_n hX dX12_holding_82 rfl (ls' := [(2, .int v19), (0, .ref (gA (xG X) 111)), (3, .int x3), (5, .int x5), (6, .int x6)]) rfl ?_
          refine r_iinc hX (x6 + (1 : Int32)) dX12_holding_83 4 rfl rfl rfl (ls' := [(6, .int (x6 + (1 : Int32))), (2, .int v19), (0, .ref (gA (xG X) 111)), (3, .int x3), (5, .int x5)]) rfl ?_
          refine r_goto hX 45 dX12_holding_86 rfl ?_
          refine r_weak [2, 1, 3, 4, 0] rfl ?_
          exact ih _ _ _ _ _ _ hf
set_option maxHeartbeats 4000000 in
set_option maxRecDepth 20000 in
theorem b_m_holding_b4 {X : Cx} {d : Nat} (hX : Ok M_m_holding (d + 3) X) {r : Int32 × Mem} (hr : RetI M_m_holding X r.1 r.2) : ∀ (n : Nat) (x2 : Int32) (x3 : Int32) (μ : Mem) (dy : Nat → Nat), f_m_holding_b4 n x2 x3 μ = some r → AW X 4 [(0, .ref (gA (xG X) 111)), (2, .int x2), (3, .int x3)] [] μ dy := by
  intro n
  induction n with
  | zero => intro x2 x3 μ dy hf; exact nomatch hf
  | succ n ih =>
    intro x2 x3 μ dy hf
    rw [f_m_holding_b4] at hf
    refine r_iload_n hX dX12_holding_4 1 rfl ?_
    refine r_iload_n hX dX12_holding_5 2 rfl ?_
    refine r_icmp_eq hX 92 dX12_holding_6 rfl (fun hc1 => ?_) (fun hc1 => ?_)
    · rw [if_pos hc1] at hf
      refine r_iload_n hX dX12_holding_92 1 rfl ?_
      exact fin_I hf hr _ _ _ dX12_holding_93
    · rw [if_neg hc1] at hf
      refine r_iload_n hX dX12_holding_9 1 rfl ?_
      refine r_istore_n hX dX12_holding_10 rfl (ls' := [(3, .int x2), (0, .ref (gA (xG X) 111)), (2, .int x2)]) rfl ?_
      refine r_aload_n hX dX12_holding_11 1 rfl ?_
      obtain ⟨v4, μ2, h3, hf⟩ := bd2_eq hf
      refine r_callVI (Ok.le hX (by omega)) (c_m_everybody (d := d)  h3) cv_X12_93 (w_111 _ _ _) rfl rfl (st := []) rfl rfl rfl dX12_holding_12 (fun dy => ?_)
      refine r_iload_n hX dX12_holding_15 2 rfl ?_
      refine r_iconst hX (-1 : Int32) dX12_holding_16 rfl ?_
      refine r_ixor hX dX12_holding_17 ?_
      refine r_iand hX dX12_holding_18 ?_
      refine r_istore hX dX12_holding_19 rfl (ls' := [(4, .int (v4 &&& (x2 ^^^ (-1 : Int32)))), (3, .int x2), (0, .ref (gA (xG X) 111)), (2, .int x2)]) rfl ?_
      refine r_iload hX dX12_holding_21 0 rfl ?_
      refine r_aload_n hX dX12_holding_23 2 rfl ?_
      refine r_get hX fl_X12_140 (w_111 _ _ _) rfl dX12_holding_24 ?_
      refine r_iconst hX (-1 : Int32) dX12_holding_27 rfl ?_
      refine r_ixor hX dX12_holding_28 ?_
      refine r_iand hX dX12_holding_29 ?_
      refine r_aload_n hX dX12_holding_30 2 rfl ?_
      obtain ⟨v7, μ5, h6, hf⟩ := bd2_eq hf
      refine r_callVI (Ok.le hX (by omega)) (c_m_now (d := d)  h6) cv_X12_137 (w_111 _ _ _) rfl rfl (st := [.int ((v4 &&& (x2 ^^^ (-1 : Int32))) &&& ((μ2.1 v_m_firm 0) ^^^ (-1 : Int32)))]) rfl rfl rfl dX12_holding_31 (fun dy => ?_)
      refine r_aload_n hX dX12_holding_34 2 rfl ?_
      refine r_get hX fl_X12_140 (w_111 _ _ _) rfl dX12_holding_35 ?_
      refine r_iand hX dX12_holding_38 ?_
      refine r_ior hX dX12_holding_39 ?_
      obtain ⟨v8, e9, hf⟩ := bnd_eq hf
      refine r_topI e9 ?_
      refine r_istore hX dX12_holding_40 rfl (ls' := [(5, .int v8), (4, .int (v4 &&& (x2 ^^^ (-1 : Int32)))), (3, .int x2), (0, .ref (gA (xG X) 111)), (2, .int x2)]) rfl ?_
      refine r_iconst hX (0 : Int32) dX12_holding_42 rfl ?_
      refine r_istore hX dX12_holding_43 rfl (ls' := [(6, .int (0 : Int32)), (5, .int v8), (4, .int (v4 &&& (x2 ^^^ (-1 : Int32)))), (3, .int x2), (0, .ref (gA (xG X) 111)), (2, .int x2)]) rfl ?_
      refine r_weak [4, 5, 3, 1, 0] rfl ?_
      exact b_m_holding_b45 hX hr ih FU _ _ _ _ _ _ hf
set_option maxHeartbeats 4000000 in
set_option maxRecDepth 20000 in
theorem c_m_holding {G : Gx} {d : Nat} {x1 : Int32} {μ : Mem} {r : Int32 × Mem} (hf : f_m_holding x1 μ = some r) : Con G M_m_holding (d + 3) [.ref (gA G 111), .int x1] μ (some (.int r.1), r.2) := by
  refine Con.ofI ⟨rfl, rfl, Nat.le_of_ble_eq_true rfl⟩ rfl rfl (fun X hG hX hr dy => ?_)
  subst hG
  show AW X 0 [(0, .ref (gA (xG X) 111)), (1, .int x1)] [] μ dy
  unfold f_m_holding at hf
  refine r_iload_n hX dX12_holding_0 1 rfl ?_
  refine r_istore_n hX dX12_holding_1 rfl (ls' := [(2, .int x1), (0, .ref (gA (xG X) 111)), (1, .int x1)]) rfl ?_
  refine r_iconst hX (-1 : Int32) dX12_holding_2 rfl ?_
  refine r_istore_n hX dX12_holding_3 rfl (ls' := [(3, .int (-1 : Int32)), (2, .int x1), (0, .ref (gA (xG X) 111)), (1, .int x1)]) rfl ?_
  refine r_weak [2, 1, 0] rfl ?_
  exact b_m_holding_b4 hX hr FU _ _ _ _ hf
theorem dX12_holds_0 : decode cX12_holds 0 = .ok (.aload_n 0, 1) := by decide +kernel
theorem dX12_holds_1 : decode cX12_holds 1 = .ok (.iconst 0, 1) := by decide +kernel
theorem dX12_holds_2 : decode cX12_holds 2 = .ok (.putfield 80, 3) := by decide +kernel
theorem dX12_holds_5 : decode cX12_holds 5 = .ok (.aload_n 0, 1) := by decide +kernel
theorem dX12_holds_6 : decode cX12_holds 6 = .ok (.aload_n 0, 1) := by decide +kernel
theorem dX12_holds_7 : decode cX12_holds 7 = .ok (.invokevirtual 196, 3) := by decide +kernel
theorem dX12_holds_10 : decode cX12_holds 10 = .ok (.invokevirtual 276, 3) := by decide +kernel
theorem dX12_holds_13 : decode cX12_holds 13 = .ok (.istore_n 1, 1) := by decide +kernel
theorem dX12_holds_14 : decode cX12_holds 14 = .ok (.aload_n 0, 1) := by decide +kernel
theorem dX12_holds_15 : decode cX12_holds 15 = .ok (.iconst 0, 1) := by decide +kernel
theorem dX12_holds_16 : decode cX12_holds 16 = .ok (.putfield 83, 3) := by decide +kernel
theorem dX12_holds_19 : decode cX12_holds 19 = .ok (.aload_n 0, 1) := by decide +kernel
theorem dX12_holds_20 : decode cX12_holds 20 = .ok (.iload_n 1, 1) := by decide +kernel
theorem dX12_holds_21 : decode cX12_holds 21 = .ok (.i2l, 1) := by decide +kernel
theorem dX12_holds_22 : decode cX12_holds 22 = .ok (.invokevirtual 217, 3) := by decide +kernel
theorem dX12_holds_25 : decode cX12_holds 25 = .ok (.iload_n 1, 1) := by decide +kernel
theorem dX12_holds_26 : decode cX12_holds 26 = .ok (.invokestatic 244, 3) := by decide +kernel
theorem dX12_holds_29 : decode cX12_holds 29 = .ok (.ireturn, 1) := by decide +kernel
set_option maxHeartbeats 4000000 in
set_option maxRecDepth 20000 in
theorem c_m_holds {G : Gx} {d : Nat}  {μ : Mem} {r : Int32 × Mem} (hf : f_m_holds  μ = some r) : Con G M_m_holds (d + 4) [.ref (gA G 111)] μ (some (.int r.1), r.2) := by
  refine Con.ofI ⟨rfl, rfl, Nat.le_of_ble_eq_true rfl⟩ rfl rfl (fun X hG hX hr dy => ?_)
  subst hG
  show AW X 0 [(0, .ref (gA (xG X) 111))] [] μ dy
  unfold f_m_holds at hf
  refine r_aload_n hX dX12_holds_0 0 rfl ?_
  refine r_iconst hX (0 : Int32) dX12_holds_1 rfl ?_
  obtain ⟨μ1, e2, hf⟩ := bnd_eq hf
  refine r_put hX fl_X12_80 ft_X12_11 (w_111 _ _ _) rfl rfl rfl (s_111_11 _ _ _ _) e2 rfl dX12_holds_2 ?_
  refine r_aload_n hX dX12_holds_5 0 rfl ?_
  refine r_aload_n hX dX12_holds_6 0 rfl ?_
  obtain ⟨v5, μ3, h4, hf⟩ := bd2_eq hf
  refine r_callVI (Ok.le hX (by omega)) (c_m_open (d := d)  h4) cv_X12_196 (w_111 _ _ _) rfl rfl (st := [.ref (gA (xG X) 111)]) rfl rfl rfl dX12_holds_7 (fun dy => ?_)
  obtain ⟨v8, μ6, h7, hf⟩ := bd2_eq hf
  refine r_callVI (Ok.le hX (by omega)) (c_m_holding (d := d)  h7) cv_X12_276 (w_111 _ _ _) rfl rfl (st := []) rfl rfl rfl dX12_holds_10 (fun dy => ?_)
  refine r_istore_n hX dX12_holds_13 rfl (ls' := [(1, .int v8), (0, .ref (gA (xG X) 111))]) rfl ?_
  refine r_aload_n hX dX12_holds_14 1 rfl ?_
  refine r_iconst hX (0 : Int32) dX12_holds_15 rfl ?_
  obtain ⟨μ9, e10, hf⟩ := bnd_eq hf
  refine r_put hX fl_X12_83 ft_X12_10 (w_111 _ _ _) rfl rfl rfl (s_111_10 _ _ _ _) e10 rfl dX12_holds_16 ?_
  refine r_aload_n hX dX12_holds_19 1 rfl ?_
  refine r_iload_n hX dX12_holds_20 0 rfl ?_
  refine r_i2l hX dX12_holds_21 ?_
  obtain ⟨μ11, h12, hf⟩ := bd1_eq hf
  refine r_callVV (Ok.le hX (by omega)) (c_m_tell (d := d)  h12) cv_X12_217 (w_111 _ _ _) rfl rfl (st := []) rfl rfl rfl dX12_holds_22 (fun dy => ?_)
  refine r_iload_n hX dX12_holds_25 0 rfl ?_
  obtain ⟨v15, μ13, h14, hf⟩ := bd2_eq hf
  refine r_callSI (Ok.le hX (by omega)) (c_jd_bitCount (d := d)  h14) cs_X12_244 (st := []) rfl rfl rfl dX12_holds_26 (fun dy => ?_)
  exact fin_I hf hr _ _ _ dX12_holds_29
theorem dX12_shieldOf_0 : decode cX12_shieldOf 0 = .ok (.iconst 0, 1) := by decide +kernel
theorem dX12_shieldOf_1 : decode cX12_shieldOf 1 = .ok (.istore_n 3, 1) := by decide +kernel
theorem dX12_shieldOf_2 : decode cX12_shieldOf 2 = .ok (.iconst 1, 1) := by decide +kernel
theorem dX12_shieldOf_3 : decode cX12_shieldOf 3 = .ok (.istore 4, 2) := by decide +kernel
theorem dX12_shieldOf_5 : decode cX12_shieldOf 5 = .ok (.iload 4, 2) := by decide +kernel
theorem dX12_shieldOf_7 : decode cX12_shieldOf 7 = .ok (.iload_n 1, 1) := by decide +kernel
theorem dX12_shieldOf_8 : decode cX12_shieldOf 8 = .ok (.if_icmp .gt 68, 3) := by decide +kernel
theorem dX12_shieldOf_11 : decode cX12_shieldOf 11 = .ok (.iload 4, 2) := by decide +kernel
theorem dX12_shieldOf_13 : decode cX12_shieldOf 13 = .ok (.iload_n 1, 1) := by decide +kernel
theorem dX12_shieldOf_14 : decode cX12_shieldOf 14 = .ok (.iconst (-1), 1) := by decide +kernel
theorem dX12_shieldOf_15 : decode cX12_shieldOf 15 = .ok (.ixor, 1) := by decide +kernel
theorem dX12_shieldOf_16 : decode cX12_shieldOf 16 = .ok (.iand, 1) := by decide +kernel
theorem dX12_shieldOf_17 : decode cX12_shieldOf 17 = .ok (.ifCond .ne 53, 3) := by decide +kernel
theorem dX12_shieldOf_20 : decode cX12_shieldOf 20 = .ok (.iload_n 2, 1) := by decide +kernel
theorem dX12_shieldOf_21 : decode cX12_shieldOf 21 = .ok (.iconst (-1), 1) := by decide +kernel
theorem dX12_shieldOf_22 : decode cX12_shieldOf 22 = .ok (.if_icmp .eq 15, 3) := by decide +kernel
theorem dX12_shieldOf_25 : decode cX12_shieldOf 25 = .ok (.iload 4, 2) := by decide +kernel
theorem dX12_shieldOf_27 : decode cX12_shieldOf 27 = .ok (.iload_n 2, 1) := by decide +kernel
theorem dX12_shieldOf_28 : decode cX12_shieldOf 28 = .ok (.invokestatic 164, 3) := by decide +kernel
theorem dX12_shieldOf_31 : decode cX12_shieldOf 31 = .ok (.ifCond .ne 6, 3) := by decide +kernel
theorem dX12_shieldOf_34 : decode cX12_shieldOf 34 = .ok (.goto 36, 3) := by decide +kernel
theorem dX12_shieldOf_37 : decode cX12_shieldOf 37 = .ok (.iload_n 3, 1) := by decide +kernel
theorem dX12_shieldOf_38 : decode cX12_shieldOf 38 = .ok (.ifCond .eq 18, 3) := by decide +kernel
theorem dX12_shieldOf_41 : decode cX12_shieldOf 41 = .ok (.iload 4, 2) := by decide +kernel
theorem dX12_shieldOf_43 : decode cX12_shieldOf 43 = .ok (.invokestatic 244, 3) := by decide +kernel
theorem dX12_shieldOf_46 : decode cX12_shieldOf 46 = .ok (.iload_n 3, 1) := by decide +kernel
theorem dX12_shieldOf_47 : decode cX12_shieldOf 47 = .ok (.invokestatic 244, 3) := by decide +kernel
theorem dX12_shieldOf_50 : decode cX12_shieldOf 50 = .ok (.if_icmp .lt 6, 3) := by decide +kernel
theorem dX12_shieldOf_53 : decode cX12_shieldOf 53 = .ok (.goto 17, 3) := by decide +kernel
theorem dX12_shieldOf_56 : decode cX12_shieldOf 56 = .ok (.aload_n 0, 1) := by decide +kernel
theorem dX12_shieldOf_57 : decode cX12_shieldOf 57 = .ok (.iload 4, 2) := by decide +kernel
theorem dX12_shieldOf_59 : decode cX12_shieldOf 59 = .ok (.invokevirtual 276, 3) := by decide +kernel
theorem dX12_shieldOf_62 : decode cX12_shieldOf 62 = .ok (.iload 4, 2) := by decide +kernel
theorem dX12_shieldOf_64 : decode cX12_shieldOf 64 = .ok (.if_icmp .ne 6, 3) := by decide +kernel
theorem dX12_shieldOf_67 : decode cX12_shieldOf 67 = .ok (.iload 4, 2) := by decide +kernel
theorem dX12_shieldOf_69 : decode cX12_shieldOf 69 = .ok (.istore_n 3, 1) := by decide +kernel
theorem dX12_shieldOf_70 : decode cX12_shieldOf 70 = .ok (.iinc 4 1, 3) := by decide +kernel
theorem dX12_shieldOf_73 : decode cX12_shieldOf 73 = .ok (.goto (-68), 3) := by decide +kernel
theorem dX12_shieldOf_76 : decode cX12_shieldOf 76 = .ok (.iload_n 3, 1) := by decide +kernel
theorem dX12_shieldOf_77 : decode cX12_shieldOf 77 = .ok (.ireturn, 1) := by decide +kernel
set_option maxHeartbeats 4000000 in
set_option maxRecDepth 20000 in
theorem b_m_shieldOf_b56 {X : Cx} {d : Nat} (hX : Ok M_m_shieldOf (d + 4) X) {r : Int32 × Mem} (hr : RetI M_m_shieldOf X r.1 r.2) {k5 : Int32 → Int32 → Int32 → Int32 → Mem → Option (Int32 × Mem)} (hk5 : ∀ (x1 : Int32) (x2 : Int32) (x3 : Int32) (x4 : Int32) (μ : Mem) (dy : Nat → Nat), k5 x1 x2 x3 x4 μ = some r → AW X 5 [(0, .ref (gA (xG X) 111)), (1, .int x1), (2, .int x2), (3, .int x3), (4, .int x4)] [] μ dy) (x1 : Int32) (x2 : Int32) (x3 : Int32) (x4 : Int32) (μ : Mem) (dy : Nat → Nat) (hf : f_m_shieldOf_b56 k5 x1 x2 x3 x4 μ = some r) : AW X 56 [(0, .ref (gA (xG X) 111)), (1, .int x1), (2, .int x2), (3, .int x3), (4, .int x4)] [] μ dy := by
  unfold f_m_shieldOf_b56 at hf
  refine r_aload_n hX dX12_shieldOf_56 0 rfl ?_
  refine r_iload hX dX12_shieldOf_57 4 rfl ?_
  obtain ⟨v7, μ5, h6, hf⟩ := bd2_eq hf
  refine r_callVI (Ok.le hX (by omega)) (c_m_holding (d := d)  h6) cv_X12_276 (w_111 _ _ _) rfl rfl (st := []) rfl rfl rfl dX12_shieldOf_59 (fun dy => ?_)
  refine r_iload hX dX12_shieldOf_62 4 rfl ?_
  refine r_icmp_ne hX 70 dX12_shieldOf_64 rfl (fun hc8 => ?_) (fun hc8 => ?_)
  · rw [if_neg hc8] at hf
    refine r_iinc hX (x4 + (1 : Int32)) dX12_shieldOf_70 4 rfl rfl rfl (ls' := [(4, .int (x4 + (1 : Int32))), (0, .ref (gA (xG X) 111)), (1, .int x1), (2, .int x2), (3, .int x3)]) rfl ?_
    refine r_goto hX 5 dX12_shieldOf_73 rfl ?_
    refine r_weak [1, 2, 3, 4, 0] rfl ?_
    exact hk5 _ _ _ _ _ _ hf
  · rw [if_pos hc8] at hf
    refine r_iload hX dX12_shieldOf_67 4 rfl ?_
    refine r_istore_n hX dX12_shieldOf_69 rfl (ls' := [(3, .int x4), (0, .ref (gA (xG X) 111)), (1, .int x1), (2, .int x2), (4, .int x4)]) rfl ?_
    refine r_iinc hX (x4 + (1 : Int32)) dX12_shieldOf_70 4 rfl rfl rfl (ls' := [(4, .int (x4 + (1 : Int32))), (3, .int x4), (0, .ref (gA (xG X) 111)), (1, .int x1), (2, .int x2)]) rfl ?_
    refine r_goto hX 5 dX12_shieldOf_73 rfl ?_
    refine r_weak [2, 3, 4, 1, 0] rfl ?_
    exact hk5 _ _ _ _ _ _ hf
set_option maxHeartbeats 4000000 in
set_option maxRecDepth 20000 in
theorem b_m_shieldOf_b37 {X : Cx} {d : Nat} (hX : Ok M_m_shieldOf (d + 4) X) {r : Int32 × Mem} (hr : RetI M_m_shieldOf X r.1 r.2) {k5 : Int32 → Int32 → Int32 → Int32 → Mem → Option (Int32 × Mem)} (hk5 : ∀ (x1 : Int32) (x2 : Int32) (x3 : Int32) (x4 : Int32) (μ : Mem) (dy : Nat → Nat), k5 x1 x2 x3 x4 μ = some r → AW X 5 [(0, .ref (gA (xG X) 111)), (1, .int x1), (2, .int x2), (3, .int x3), (4, .int x4)] [] μ dy) (x1 : Int32) (x2 : Int32) (x3 : Int32) (x4 : Int32) (μ : Mem) (dy : Nat → Nat) (hf : f_m_shieldOf_b37 k5 x1 x2 x3 x4 μ = some r) : AW X 37 [(0, .ref (gA (xG X) 111)), (1, .int x1), (2, .int x2), (3, .int x3), (4, .int x4)] [] μ dy := by
  unfold f_m_shieldOf_b37 at hf
  refine r_iload_n hX dX12_shieldOf_37 3 rfl ?_
  refine r_if_eq hX 56 dX12_shieldOf_38 rfl (fun hc4 => ?_) (fun hc4 => ?_)
  · rw [if_pos hc4] at hf
    refine r_weak [0, 1, 2, 3, 4] rfl ?_
    exact b_m_shieldOf_b56 hX hr hk5 _ _ _ _ _ _ hf
  · rw [if_neg hc4] at hf
    refine r_iload hX dX12_shieldOf_41 4 rfl ?_
    obtain ⟨v11, μ9, h10, hf⟩ := bd2_eq hf
    refine r_callSI (Ok.le hX (by omega)) (c_jd_bitCount (d := d)  h10) cs_X12_244 (st := []) rfl rfl rfl dX12_shieldOf_43 (fun dy => ?_)
    refine r_iload_n hX dX12_shieldOf_46 3 rfl ?_
    obtain ⟨v14, μ12, h13, hf⟩ := bd2_eq hf
    refine r_callSI (Ok.le hX (by omega)) (c_jd_bitCount (d := d)  h13) cs_X12_244 (st := [.int v11]) rfl rfl rfl dX12_shieldOf_47 (fun dy => ?_)
    refine r_icmp_lt hX 56 dX12_shieldOf_50 rfl (fun hc15 => ?_) (fun hc15 => ?_)
    · rw [if_pos hc15] at hf
      refine r_weak [0, 1, 2, 3, 4] rfl ?_
      exact b_m_shieldOf_b56 hX hr hk5 _ _ _ _ _ _ hf
    · rw [if_neg hc15] at hf
      refine r_goto hX 70 dX12_shieldOf_53 rfl ?_
      refine r_iinc hX (x4 + (1 : Int32)) dX12_shieldOf_70 4 rfl rfl rfl (ls' := [(4, .int (x4 + (1 : Int32))), (0, .ref (gA (xG X) 111)), (1, .int x1), (2, .int x2), (3, .int x3)]) rfl ?_
      refine r_goto hX 5 dX12_shieldOf_73 rfl ?_
      refine r_weak [1, 2, 3, 4, 0] rfl ?_
      exact hk5 _ _ _ _ _ _ hf
set_option maxHeartbeats 4000000 in
set_option maxRecDepth 20000 in
theorem b_m_shieldOf_b5 {X : Cx} {d : Nat} (hX : Ok M_m_shieldOf (d + 4) X) {r : Int32 × Mem} (hr : RetI M_m_shieldOf X r.1 r.2) : ∀ (n : Nat) (x1 : Int32) (x2 : Int32) (x3 : Int32) (x4 : Int32) (μ : Mem) (dy : Nat → Nat), f_m_shieldOf_b5 n x1 x2 x3 x4 μ = some r → AW X 5 [(0, .ref (gA (xG X) 111)), (1, .int x1), (2, .int x2), (3, .int x3), (4, .int x4)] [] μ dy := by
  intro n
  induction n with
  | zero => intro x1 x2 x3 x4 μ dy hf; exact nomatch hf
  | succ n ih =>
    intro x1 x2 x3 x4 μ dy hf
    rw [f_m_shieldOf_b5] at hf
    refine r_iload hX dX12_shieldOf_5 4 rfl ?_
    refine r_iload_n hX dX12_shieldOf_7 1 rfl ?_
    refine r_icmp_gt hX 76 dX12_shieldOf_8 rfl (fun hc1 => ?_) (fun hc1 => ?_)
    · rw [if_pos hc1] at hf
      refine r_iload_n hX dX12_shieldOf_76 3 rfl ?_
      exact fin_I hf hr _ _ _ dX12_shieldOf_77
    · rw [if_neg hc1] at hf
      refine r_iload hX dX12_shieldOf_11 4 rfl ?_
      refine r_iload_n hX dX12_shieldOf_13 1 rfl ?_
      refine r_iconst hX (-1 : Int32) dX12_shieldOf_14 rfl ?_
      refine r_ixor hX dX12_shieldOf_15 ?_
      refine r_iand hX dX12_shieldOf_16 ?_
      refine r_if_ne hX 70 dX12_shieldOf_17 rfl (fun hc2 => ?_) (fun hc2 => ?_)
      · rw [if_neg hc2] at hf
        refine r_iinc hX (x4 + (1 : Int32)) dX12_shieldOf_70 4 rfl rfl rfl (ls' := [(4, .int (x4 + (1 : Int32))), (0, .ref (gA (xG X) 111)), (1, .int x1), (2, .int x2), (3, .int x3)]) rfl ?_
        refine r_goto hX 5 dX12_shieldOf_73 rfl ?_
        refine r_weak [1, 2, 3, 4, 0] rfl ?_
        exact ih _ _ _ _ _ _ hf
      · rw [if_pos hc2] at hf
        refine r_iload_n hX dX12_shieldOf_20 2 rfl ?_
        refine r_iconst hX (-1 : Int32) dX12_shieldOf_21 rfl ?_
        refine r_icmp_eq hX 37 dX12_shieldOf_22 rfl (fun hc3 => ?_) (fun hc3 => ?_)
        · rw [if_pos hc3] at hf
          refine r_weak [0, 1, 2, 3, 4] rfl ?_
          exact b_m_shieldOf_b37 hX hr ih _ _ _ _ _ _ hf
        · rw [if_neg hc3] at hf
          refine r_iload hX dX12_shieldOf_25 4 rfl ?_
          refine r_iload_n hX dX12_shieldOf_27 2 rfl ?_
          obtain ⟨v18, μ16, h17, hf⟩ := bd2_eq hf
          refine r_callSI (Ok.le hX (by omega)) (c_m_has (d := d)  h17) cs_X12_164 (st := []) rfl rfl rfl dX12_shieldOf_28 (fun dy => ?_)
          refine r_if_ne hX 37 dX12_shieldOf_31 rfl (fun hc19 => ?_) (fun hc19 => ?_)
          · rw [if_neg hc19] at hf
            refine r_weak [0, 1, 2, 3, 4] rfl ?_
            exact b_m_shieldOf_b37 hX hr ih _ _ _ _ _ _ hf
          · rw [if_pos hc19] at hf
            refine r_goto hX 70 dX12_shieldOf_34 rfl ?_
            refine r_iinc hX (x4 + (1 : Int32)) dX12_shieldOf_70 4 rfl rfl rfl (ls' := [(4, .int (x4 + (1 : Int32))), (0, .ref (gA (xG X) 111)), (1, .int x1), (2, .int x2), (3, .int x3)]) rfl ?_
            refine r_goto hX 5 dX12_shieldOf_73 rfl ?_
            refine r_weak [1, 2, 3, 4, 0] rfl ?_
            exact ih _ _ _ _ _ _ hf
set_option maxHeartbeats 4000000 in
set_option maxRecDepth 20000 in
theorem c_m_shieldOf {G : Gx} {d : Nat} {x1 : Int32} {x2 : Int32} {μ : Mem} {r : Int32 × Mem} (hf : f_m_shieldOf x1 x2 μ = some r) : Con G M_m_shieldOf (d + 4) [.ref (gA G 111), .int x1, .int x2] μ (some (.int r.1), r.2) := by
  refine Con.ofI ⟨rfl, rfl, Nat.le_of_ble_eq_true rfl⟩ rfl rfl (fun X hG hX hr dy => ?_)
  subst hG
  show AW X 0 [(0, .ref (gA (xG X) 111)), (1, .int x1), (2, .int x2)] [] μ dy
  unfold f_m_shieldOf at hf
  refine r_iconst hX (0 : Int32) dX12_shieldOf_0 rfl ?_
  refine r_istore_n hX dX12_shieldOf_1 rfl (ls' := [(3, .int (0 : Int32)), (0, .ref (gA (xG X) 111)), (1, .int x1), (2, .int x2)]) rfl ?_
  refine r_iconst hX (1 : Int32) dX12_shieldOf_2 rfl ?_
  refine r_istore hX dX12_shieldOf_3 rfl (ls' := [(4, .int (1 : Int32)), (3, .int (0 : Int32)), (0, .ref (gA (xG X) 111)), (1, .int x1), (2, .int x2)]) rfl ?_
  refine r_weak [2, 3, 4, 1, 0] rfl ?_
  exact b_m_shieldOf_b5 hX hr FU _ _ _ _ _ _ hf
theorem dX12_shield_0 : decode cX12_shield 0 = .ok (.aload_n 0, 1) := by decide +kernel
theorem dX12_shield_1 : decode cX12_shield 1 = .ok (.iconst 0, 1) := by decide +kernel
theorem dX12_shield_2 : decode cX12_shield 2 = .ok (.putfield 80, 3) := by decide +kernel
theorem dX12_shield_5 : decode cX12_shield 5 = .ok (.aload_n 0, 1) := by decide +kernel
theorem dX12_shield_6 : decode cX12_shield 6 = .ok (.iload_n 1, 1) := by decide +kernel
theorem dX12_shield_7 : decode cX12_shield 7 = .ok (.invokevirtual 157, 3) := by decide +kernel
theorem dX12_shield_10 : decode cX12_shield 10 = .ok (.ifCond .ne 5, 3) := by decide +kernel
theorem dX12_shield_13 : decode cX12_shield 13 = .ok (.iconst (-1), 1) := by decide +kernel
theorem dX12_shield_14 : decode cX12_shield 14 = .ok (.ireturn, 1) := by decide +kernel
theorem dX12_shield_15 : decode cX12_shield 15 = .ok (.aload_n 0, 1) := by decide +kernel
theorem dX12_shield_16 : decode cX12_shield 16 = .ok (.aload_n 0, 1) := by decide +kernel
theorem dX12_shield_17 : decode cX12_shield 17 = .ok (.invokevirtual 196, 3) := by decide +kernel
theorem dX12_shield_20 : decode cX12_shield 20 = .ok (.iload_n 1, 1) := by decide +kernel
theorem dX12_shield_21 : decode cX12_shield 21 = .ok (.invokevirtual 279, 3) := by decide +kernel
theorem dX12_shield_24 : decode cX12_shield 24 = .ok (.istore_n 2, 1) := by decide +kernel
theorem dX12_shield_25 : decode cX12_shield 25 = .ok (.iload_n 2, 1) := by decide +kernel
theorem dX12_shield_26 : decode cX12_shield 26 = .ok (.ifCond .ne 6, 3) := by decide +kernel
theorem dX12_shield_29 : decode cX12_shield 29 = .ok (.bipush (-2), 2) := by decide +kernel
theorem dX12_shield_31 : decode cX12_shield 31 = .ok (.ireturn, 1) := by decide +kernel
theorem dX12_shield_32 : decode cX12_shield 32 = .ok (.aload_n 0, 1) := by decide +kernel
theorem dX12_shield_33 : decode cX12_shield 33 = .ok (.iconst 0, 1) := by decide +kernel
theorem dX12_shield_34 : decode cX12_shield 34 = .ok (.putfield 83, 3) := by decide +kernel
theorem dX12_shield_37 : decode cX12_shield 37 = .ok (.aload_n 0, 1) := by decide +kernel
theorem dX12_shield_38 : decode cX12_shield 38 = .ok (.iload_n 2, 1) := by decide +kernel
theorem dX12_shield_39 : decode cX12_shield 39 = .ok (.i2l, 1) := by decide +kernel
theorem dX12_shield_40 : decode cX12_shield 40 = .ok (.invokevirtual 217, 3) := by decide +kernel
theorem dX12_shield_43 : decode cX12_shield 43 = .ok (.iload_n 2, 1) := by decide +kernel
theorem dX12_shield_44 : decode cX12_shield 44 = .ok (.invokestatic 244, 3) := by decide +kernel
theorem dX12_shield_47 : decode cX12_shield 47 = .ok (.ireturn, 1) := by decide +kernel
set_option maxHeartbeats 4000000 in
set_option maxRecDepth 20000 in
theorem c_m_shield {G : Gx} {d : Nat} {x1 : Int32} {μ : Mem} {r : Int32 × Mem} (hf : f_m_shield x1 μ = some r) : Con G M_m_shield (d + 5) [.ref (gA G 111), .int x1] μ (some (.int r.1), r.2) := by
  refine Con.ofI ⟨rfl, rfl, Nat.le_of_ble_eq_true rfl⟩ rfl rfl (fun X hG hX hr dy => ?_)
  subst hG
  show AW X 0 [(0, .ref (gA (xG X) 111)), (1, .int x1)] [] μ dy
  unfold f_m_shield at hf
  refine r_aload_n hX dX12_shield_0 0 rfl ?_
  refine r_iconst hX (0 : Int32) dX12_shield_1 rfl ?_
  obtain ⟨μ1, e2, hf⟩ := bnd_eq hf
  refine r_put hX fl_X12_80 ft_X12_11 (w_111 _ _ _) rfl rfl rfl (s_111_11 _ _ _ _) e2 rfl dX12_shield_2 ?_
  refine r_aload_n hX dX12_shield_5 0 rfl ?_
  refine r_iload_n hX dX12_shield_6 1 rfl ?_
  obtain ⟨v5, μ3, h4, hf⟩ := bd2_eq hf
  refine r_callVI (Ok.le hX (by omega)) (c_m_isOne (d := d)  h4) cv_X12_157 (w_111 _ _ _) rfl rfl (st := []) rfl rfl rfl dX12_shield_7 (fun dy => ?_)
  refine r_if_ne hX 15 dX12_shield_10 rfl (fun hc6 => ?_) (fun hc6 => ?_)
  · rw [if_neg hc6] at hf
    refine r_aload_n hX dX12_shield_15 0 rfl ?_
    refine r_aload_n hX dX12_shield_16 0 rfl ?_
    obtain ⟨v9, μ7, h8, hf⟩ := bd2_eq hf
    refine r_callVI (Ok.le hX (by omega)) (c_m_open (d := d)  h8) cv_X12_196 (w_111 _ _ _) rfl rfl (st := [.ref (gA (xG X) 111)]) rfl rfl rfl dX12_shield_17 (fun dy => ?_)
    refine r_iload_n hX dX12_shield_20 1 rfl ?_
    obtain ⟨v12, μ10, h11, hf⟩ := bd2_eq hf
    refine r_callVI (Ok.le hX (by omega)) (c_m_shieldOf (d := d)  h11) cv_X12_279 (w_111 _ _ _) rfl rfl (st := []) rfl rfl rfl dX12_shield_21 (fun dy => ?_)
    refine r_istore_n hX dX12_shield_24 rfl (ls' := [(2, .int v12), (0, .ref (gA (xG X) 111)), (1, .int x1)]) rfl ?_
    refine r_iload_n hX dX12_shield_25 0 rfl ?_
    refine r_if_ne hX 32 dX12_shield_26 rfl (fun hc13 => ?_) (fun hc13 => ?_)
    · rw [if_neg hc13] at hf
      refine r_aload_n hX dX12_shield_32 1 rfl ?_
      refine r_iconst hX (0 : Int32) dX12_shield_33 rfl ?_
      obtain ⟨μ14, e15, hf⟩ := bnd_eq hf
      refine r_put hX fl_X12_83 ft_X12_10 (w_111 _ _ _) rfl rfl rfl (s_111_10 _ _ _ _) e15 rfl dX12_shield_34 ?_
      refine r_aload_n hX dX12_shield_37 1 rfl ?_
      refine r_iload_n hX dX12_shield_38 0 rfl ?_
      refine r_i2l hX dX12_shield_39 ?_
      obtain ⟨μ16, h17, hf⟩ := bd1_eq hf
      refine r_callVV (Ok.le hX (by omega)) (c_m_tell (d := d)  h17) cv_X12_217 (w_111 _ _ _) rfl rfl (st := []) rfl rfl rfl dX12_shield_40 (fun dy => ?_)
      refine r_iload_n hX dX12_shield_43 0 rfl ?_
      obtain ⟨v20, μ18, h19, hf⟩ := bd2_eq hf
      refine r_callSI (Ok.le hX (by omega)) (c_jd_bitCount (d := d)  h19) cs_X12_244 (st := []) rfl rfl rfl dX12_shield_44 (fun dy => ?_)
      exact fin_I hf hr _ _ _ dX12_shield_47
    · rw [if_pos hc13] at hf
      refine r_bipush hX (-2 : Int32) dX12_shield_29 rfl ?_
      exact fin_I hf hr _ _ _ dX12_shield_31
  · rw [if_pos hc6] at hf
    refine r_iconst hX (-1 : Int32) dX12_shield_13 rfl ?_
    exact fin_I hf hr _ _ _ dX12_shield_14
theorem dX12_bound_0 : decode cX12_bound 0 = .ok (.aload_n 0, 1) := by decide +kernel
theorem dX12_bound_1 : decode cX12_bound 1 = .ok (.iconst 0, 1) := by decide +kernel
theorem dX12_bound_2 : decode cX12_bound 2 = .ok (.putfield 80, 3) := by decide +kernel
theorem dX12_bound_5 : decode cX12_bound 5 = .ok (.aload_n 0, 1) := by decide +kernel
theorem dX12_bound_6 : decode cX12_bound 6 = .ok (.invokevirtual 196, 3) := by decide +kernel
theorem dX12_bound_9 : decode cX12_bound 9 = .ok (.istore_n 1, 1) := by decide +kernel
theorem dX12_bound_10 : decode cX12_bound 10 = .ok (.iconst 0, 1) := by decide +kernel
theorem dX12_bound_11 : decode cX12_bound 11 = .ok (.istore_n 2, 1) := by decide +kernel
theorem dX12_bound_12 : decode cX12_bound 12 = .ok (.aload_n 0, 1) := by decide +kernel
theorem dX12_bound_13 : decode cX12_bound 13 = .ok (.iconst 0, 1) := by decide +kernel
theorem dX12_bound_14 : decode cX12_bound 14 = .ok (.putfield 83, 3) := by decide +kernel
theorem dX12_bound_17 : decode cX12_bound 17 = .ok (.aload_n 0, 1) := by decide +kernel
theorem dX12_bound_18 : decode cX12_bound 18 = .ok (.iload_n 1, 1) := by decide +kernel
theorem dX12_bound_19 : decode cX12_bound 19 = .ok (.iconst (-1), 1) := by decide +kernel
theorem dX12_bound_20 : decode cX12_bound 20 = .ok (.invokevirtual 279, 3) := by decide +kernel
theorem dX12_bound_23 : decode cX12_bound 23 = .ok (.istore_n 3, 1) := by decide +kernel
theorem dX12_bound_24 : decode cX12_bound 24 = .ok (.iload_n 3, 1) := by decide +kernel
theorem dX12_bound_25 : decode cX12_bound 25 = .ok (.ifCond .eq 28, 3) := by decide +kernel
theorem dX12_bound_28 : decode cX12_bound 28 = .ok (.aload_n 0, 1) := by decide +kernel
theorem dX12_bound_29 : decode cX12_bound 29 = .ok (.iload_n 3, 1) := by decide +kernel
theorem dX12_bound_30 : decode cX12_bound 30 = .ok (.i2l, 1) := by decide +kernel
theorem dX12_bound_31 : decode cX12_bound 31 = .ok (.invokevirtual 217, 3) := by decide +kernel
theorem dX12_bound_34 : decode cX12_bound 34 = .ok (.iinc 2 1, 3) := by decide +kernel
theorem dX12_bound_37 : decode cX12_bound 37 = .ok (.iload_n 1, 1) := by decide +kernel
theorem dX12_bound_38 : decode cX12_bound 38 = .ok (.iload_n 3, 1) := by decide +kernel
theorem dX12_bound_39 : decode cX12_bound 39 = .ok (.iconst (-1), 1) := by decide +kernel
theorem dX12_bound_40 : decode cX12_bound 40 = .ok (.ixor, 1) := by decide +kernel
theorem dX12_bound_41 : decode cX12_bound 41 = .ok (.iand, 1) := by decide +kernel
theorem dX12_bound_42 : decode cX12_bound 42 = .ok (.istore_n 1, 1) := by decide +kernel
theorem dX12_bound_43 : decode cX12_bound 43 = .ok (.aload_n 0, 1) := by decide +kernel
theorem dX12_bound_44 : decode cX12_bound 44 = .ok (.iload_n 1, 1) := by decide +kernel
theorem dX12_bound_45 : decode cX12_bound 45 = .ok (.iconst (-1), 1) := by decide +kernel
theorem dX12_bound_46 : decode cX12_bound 46 = .ok (.invokevirtual 279, 3) := by decide +kernel
theorem dX12_bound_49 : decode cX12_bound 49 = .ok (.istore_n 3, 1) := by decide +kernel
theorem dX12_bound_50 : decode cX12_bound 50 = .ok (.goto (-26), 3) := by decide +kernel
theorem dX12_bound_53 : decode cX12_bound 53 = .ok (.iload_n 2, 1) := by decide +kernel
theorem dX12_bound_54 : decode cX12_bound 54 = .ok (.ireturn, 1) := by decide +kernel
set_option maxHeartbeats 4000000 in
set_option maxRecDepth 20000 in
theorem b_m_bound_b24 {X : Cx} {d : Nat} (hX : Ok M_m_bound (d + 5) X) {r : Int32 × Mem} (hr : RetI M_m_bound X r.1 r.2) : ∀ (n : Nat) (x1 : Int32) (x2 : Int32) (x3 : Int32) (μ : Mem) (dy : Nat → Nat), f_m_bound_b24 n x1 x2 x3 μ = some r → AW X 24 [(0, .ref (gA (xG X) 111)), (1, .int x1), (2, .int x2), (3, .int x3)] [] μ dy := by
  intro n
  induction n with
  | zero => intro x1 x2 x3 μ dy hf; exact nomatch hf
  | succ n ih =>
    intro x1 x2 x3 μ dy hf
    rw [f_m_bound_b24] at hf
    refine r_iload_n hX dX12_bound_24 3 rfl ?_
    refine r_if_eq hX 53 dX12_bound_25 rfl (fun hc11 => ?_) (fun hc11 => ?_)
    · rw [if_pos hc11] at hf
      refine r_iload_n hX dX12_bound_53 2 rfl ?_
      exact fin_I hf hr _ _ _ dX12_bound_54
    · rw [if_neg hc11] at hf
      refine r_aload_n hX dX12_bound_28 0 rfl ?_
      refine r_iload_n hX dX12_bound_29 3 rfl ?_
      refine r_i2l hX dX12_bound_30 ?_
      obtain ⟨μ12, h13, hf⟩ := bd1_eq hf
      refine r_callVV (Ok.le hX (by omega)) (c_m_tell (d := d)  h13) cv_X12_217 (w_111 _ _ _) rfl rfl (st := []) rfl rfl rfl dX12_bound_31 (fun dy => ?_)
      refine r_iinc hX (x2 + (1 : Int32)) dX12_bound_34 2 rfl rfl rfl (ls' := [(2, .int (x2 + (1 : Int32))), (0, .ref (gA (xG X) 111)), (1, .int x1), (3, .int x3)]) rfl ?_
      refine r_iload_n hX dX12_bound_37 2 rfl ?_
      refine r_iload_n hX dX12_bound_38 3 rfl ?_
      refine r_iconst hX (-1 : Int32) dX12_bound_39 rfl ?_
      refine r_ixor hX dX12_bound_40 ?_
      refine r_iand hX dX12_bound_41 ?_
      refine r_istore_n hX dX12_bound_42 rfl (ls' := [(1, .int (x1 &&& (x3 ^^^ (-1 : Int32)))), (2, .int (x2 + (1 : Int32))), (0, .ref (gA (xG X) 111)), (3, .int x3)]) rfl ?_
      refine r_aload_n hX dX12_bound_43 2 rfl ?_
      refine r_iload_n hX dX12_bound_44 0 rfl ?_
      refine r_iconst hX (-1 : Int32) dX12_bound_45 rfl ?_
      obtain ⟨v16, μ14, h15, hf⟩ := bd2_eq hf
      refine r_callVI (Ok.le hX (by omega)) (c_m_shieldOf (d := d)  h15) cv_X12_279 (w_111 _ _ _) rfl rfl (st := []) rfl rfl rfl dX12_bound_46 (fun dy => ?_)
      refine r_istore_n hX dX12_bound_49 rfl (ls' := [(3, .int v16), (1, .int (x1 &&& (x3 ^^^ (-1 : Int32)))), (2, .int (x2 + (1 : Int32))), (0, .ref (gA (xG X) 111))]) rfl ?_
      refine r_goto hX 24 dX12_bound_50 rfl ?_
      refine r_weak [3, 1, 2, 0] rfl ?_
      exact ih _ _ _ _ _ hf
set_option maxHeartbeats 4000000 in
set_option maxRecDepth 20000 in
theorem c_m_bound {G : Gx} {d : Nat}  {μ : Mem} {r : Int32 × Mem} (hf : f_m_bound  μ = some r) : Con G M_m_bound (d + 5) [.ref (gA G 111)] μ (some (.int r.1), r.2) := by
  refine Con.ofI ⟨rfl, rfl, Nat.le_of_ble_eq_true rfl⟩ rfl rfl (fun X hG hX hr dy => ?_)
  subst hG
  show AW X 0 [(0, .ref (gA (xG X) 111))] [] μ dy
  unfold f_m_bound at hf
  refine r_aload_n hX dX12_bound_0 0 rfl ?_
  refine r_iconst hX (0 : Int32) dX12_bound_1 rfl ?_
  obtain ⟨μ1, e2, hf⟩ := bnd_eq hf
  refine r_put hX fl_X12_80 ft_X12_11 (w_111 _ _ _) rfl rfl rfl (s_111_11 _ _ _ _) e2 rfl dX12_bound_2 ?_
  refine r_aload_n hX dX12_bound_5 0 rfl ?_
  obtain ⟨v5, μ3, h4, hf⟩ := bd2_eq hf
  refine r_callVI (Ok.le hX (by omega)) (c_m_open (d := d)  h4) cv_X12_196 (w_111 _ _ _) rfl rfl (st := []) rfl rfl rfl dX12_bound_6 (fun dy => ?_)
  refine r_istore_n hX dX12_bound_9 rfl (ls' := [(1, .int v5), (0, .ref (gA (xG X) 111))]) rfl ?_
  refine r_iconst hX (0 : Int32) dX12_bound_10 rfl ?_
  refine r_istore_n hX dX12_bound_11 rfl (ls' := [(2, .int (0 : Int32)), (1, .int v5), (0, .ref (gA (xG X) 111))]) rfl ?_
  refine r_aload_n hX dX12_bound_12 2 rfl ?_
  refine r_iconst hX (0 : Int32) dX12_bound_13 rfl ?_
  obtain ⟨μ6, e7, hf⟩ := bnd_eq hf
  refine r_put hX fl_X12_83 ft_X12_10 (w_111 _ _ _) rfl rfl rfl (s_111_10 _ _ _ _) e7 rfl dX12_bound_14 ?_
  refine r_aload_n hX dX12_bound_17 2 rfl ?_
  refine r_iload_n hX dX12_bound_18 1 rfl ?_
  refine r_iconst hX (-1 : Int32) dX12_bound_19 rfl ?_
  obtain ⟨v10, μ8, h9, hf⟩ := bd2_eq hf
  refine r_callVI (Ok.le hX (by omega)) (c_m_shieldOf (d := d)  h9) cv_X12_279 (w_111 _ _ _) rfl rfl (st := []) rfl rfl rfl dX12_bound_20 (fun dy => ?_)
  refine r_istore_n hX dX12_bound_23 rfl (ls' := [(3, .int v10), (2, .int (0 : Int32)), (1, .int v5), (0, .ref (gA (xG X) 111))]) rfl ?_
  refine r_weak [3, 2, 1, 0] rfl ?_
  exact b_m_bound_b24 hX hr FU _ _ _ _ _ hf
theorem dX12_letter_0 : decode cX12_letter 0 = .ok (.iconst 0, 1) := by decide +kernel
theorem dX12_letter_1 : decode cX12_letter 1 = .ok (.istore_n 2, 1) := by decide +kernel
theorem dX12_letter_2 : decode cX12_letter 2 = .ok (.iload_n 1, 1) := by decide +kernel
theorem dX12_letter_3 : decode cX12_letter 3 = .ok (.tableswitch 195 97 115 #[114, 195, 195, 195, 195, 195, 195, 195, 89, 195, 195, 195, 195, 94, 186, 104, 195, 195, 123], 89) := by decide +kernel
theorem dX12_letter_92 : decode cX12_letter 92 = .ok (.aload_n 0, 1) := by decide +kernel
theorem dX12_letter_93 : decode cX12_letter 93 = .ok (.getfield 64, 3) := by decide +kernel
theorem dX12_letter_96 : decode cX12_letter 96 = .ok (.ireturn, 1) := by decide +kernel
theorem dX12_letter_97 : decode cX12_letter 97 = .ok (.aload_n 0, 1) := by decide +kernel
theorem dX12_letter_98 : decode cX12_letter 98 = .ok (.getfield 9, 3) := by decide +kernel
theorem dX12_letter_101 : decode cX12_letter 101 = .ok (.aload_n 0, 1) := by decide +kernel
theorem dX12_letter_102 : decode cX12_letter 102 = .ok (.getfield 64, 3) := by decide +kernel
theorem dX12_letter_105 : decode cX12_letter 105 = .ok (.iaload, 1) := by decide +kernel
theorem dX12_letter_106 : decode cX12_letter 106 = .ok (.ireturn, 1) := by decide +kernel
theorem dX12_letter_107 : decode cX12_letter 107 = .ok (.aload_n 0, 1) := by decide +kernel
theorem dX12_letter_108 : decode cX12_letter 108 = .ok (.getfield 13, 3) := by decide +kernel
theorem dX12_letter_111 : decode cX12_letter 111 = .ok (.aload_n 0, 1) := by decide +kernel
theorem dX12_letter_112 : decode cX12_letter 112 = .ok (.getfield 64, 3) := by decide +kernel
theorem dX12_letter_115 : decode cX12_letter 115 = .ok (.iaload, 1) := by decide +kernel
theorem dX12_letter_116 : decode cX12_letter 116 = .ok (.ireturn, 1) := by decide +kernel
theorem dX12_letter_117 : decode cX12_letter 117 = .ok (.aload_n 0, 1) := by decide +kernel
theorem dX12_letter_118 : decode cX12_letter 118 = .ok (.aload_n 0, 1) := by decide +kernel
theorem dX12_letter_119 : decode cX12_letter 119 = .ok (.getfield 64, 3) := by decide +kernel
theorem dX12_letter_122 : decode cX12_letter 122 = .ok (.invokevirtual 168, 3) := by decide +kernel
theorem dX12_letter_125 : decode cX12_letter 125 = .ok (.ireturn, 1) := by decide +kernel
theorem dX12_letter_126 : decode cX12_letter 126 = .ok (.iconst 0, 1) := by decide +kernel
theorem dX12_letter_127 : decode cX12_letter 127 = .ok (.istore_n 3, 1) := by decide +kernel
theorem dX12_letter_128 : decode cX12_letter 128 = .ok (.iload_n 3, 1) := by decide +kernel
theorem dX12_letter_129 : decode cX12_letter 129 = .ok (.aload_n 0, 1) := by decide +kernel
theorem dX12_letter_130 : decode cX12_letter 130 = .ok (.getfield 86, 3) := by decide +kernel
theorem dX12_letter_133 : decode cX12_letter 133 = .ok (.if_icmp .ge 54, 3) := by decide +kernel
theorem dX12_letter_136 : decode cX12_letter 136 = .ok (.iload_n 2, 1) := by decide +kernel
theorem dX12_letter_137 : decode cX12_letter 137 = .ok (.aload_n 0, 1) := by decide +kernel
theorem dX12_letter_138 : decode cX12_letter 138 = .ok (.getfield 298, 3) := by decide +kernel
theorem dX12_letter_141 : decode cX12_letter 141 = .ok (.iload_n 3, 1) := by decide +kernel
theorem dX12_letter_142 : decode cX12_letter 142 = .ok (.invokestatic 164, 3) := by decide +kernel
theorem dX12_letter_145 : decode cX12_letter 145 = .ok (.aload_n 0, 1) := by decide +kernel
theorem dX12_letter_146 : decode cX12_letter 146 = .ok (.getfield 301, 3) := by decide +kernel
theorem dX12_letter_149 : decode cX12_letter 149 = .ok (.iconst 1, 1) := by decide +kernel
theorem dX12_letter_150 : decode cX12_letter 150 = .ok (.if_icmp .ne 7, 3) := by decide +kernel
theorem dX12_letter_153 : decode cX12_letter 153 = .ok (.iconst 1, 1) := by decide +kernel
theorem dX12_letter_154 : decode cX12_letter 154 = .ok (.goto 4, 3) := by decide +kernel
theorem dX12_letter_157 : decode cX12_letter 157 = .ok (.iconst 0, 1) := by decide +kernel
theorem dX12_letter_158 : decode cX12_letter 158 = .ok (.if_icmp .ne 20, 3) := by decide +kernel
theorem dX12_letter_161 : decode cX12_letter 161 = .ok (.aload_n 0, 1) := by decide +kernel
theorem dX12_letter_162 : decode cX12_letter 162 = .ok (.getfield 16, 3) := by decide +kernel
theorem dX12_letter_165 : decode cX12_letter 165 = .ok (.bipush 14, 2) := by decide +kernel
theorem dX12_letter_167 : decode cX12_letter 167 = .ok (.aload_n 0, 1) := by decide +kernel
theorem dX12_letter_168 : decode cX12_letter 168 = .ok (.getfield 64, 3) := by decide +kernel
theorem dX12_letter_171 : decode cX12_letter 171 = .ok (.imul, 1) := by decide +kernel
theorem dX12_letter_172 : decode cX12_letter 172 = .ok (.iload_n 3, 1) := by decide +kernel
theorem dX12_letter_173 : decode cX12_letter 173 = .ok (.iadd, 1) := by decide +kernel
theorem dX12_letter_174 : decode cX12_letter 174 = .ok (.iaload, 1) := by decide +kernel
theorem dX12_letter_175 : decode cX12_letter 175 = .ok (.goto 4, 3) := by decide +kernel
theorem dX12_letter_178 : decode cX12_letter 178 = .ok (.iconst 0, 1) := by decide +kernel
theorem dX12_letter_179 : decode cX12_letter 179 = .ok (.iadd, 1) := by decide +kernel
theorem dX12_letter_180 : decode cX12_letter 180 = .ok (.istore_n 2, 1) := by decide +kernel
theorem dX12_letter_181 : decode cX12_letter 181 = .ok (.iinc 3 1, 3) := by decide +kernel
theorem dX12_letter_184 : decode cX12_letter 184 = .ok (.goto (-56), 3) := by decide +kernel
theorem dX12_letter_187 : decode cX12_letter 187 = .ok (.iload_n 2, 1) := by decide +kernel
theorem dX12_letter_188 : decode cX12_letter 188 = .ok (.ireturn, 1) := by decide +kernel
theorem dX12_letter_189 : decode cX12_letter 189 = .ok (.aload_n 0, 1) := by decide +kernel
theorem dX12_letter_190 : decode cX12_letter 190 = .ok (.aload_n 0, 1) := by decide +kernel
theorem dX12_letter_191 : decode cX12_letter 191 = .ok (.getfield 64, 3) := by decide +kernel
theorem dX12_letter_194 : decode cX12_letter 194 = .ok (.invokevirtual 172, 3) := by decide +kernel
theorem dX12_letter_197 : decode cX12_letter 197 = .ok (.ireturn, 1) := by decide +kernel
theorem dX12_letter_198 : decode cX12_letter 198 = .ok (.iconst 0, 1) := by decide +kernel
theorem dX12_letter_199 : decode cX12_letter 199 = .ok (.istore_n 3, 1) := by decide +kernel
theorem dX12_letter_200 : decode cX12_letter 200 = .ok (.iload_n 3, 1) := by decide +kernel
theorem dX12_letter_201 : decode cX12_letter 201 = .ok (.aload_n 0, 1) := by decide +kernel
theorem dX12_letter_202 : decode cX12_letter 202 = .ok (.getfield 86, 3) := by decide +kernel
theorem dX12_letter_205 : decode cX12_letter 205 = .ok (.if_icmp .ge 34, 3) := by decide +kernel
theorem dX12_letter_208 : decode cX12_letter 208 = .ok (.iload_n 2, 1) := by decide +kernel
theorem dX12_letter_209 : decode cX12_letter 209 = .ok (.aload_n 0, 1) := by decide +kernel
theorem dX12_letter_210 : decode cX12_letter 210 = .ok (.getfield 16, 3) := by decide +kernel
theorem dX12_letter_213 : decode cX12_letter 213 = .ok (.bipush 14, 2) := by decide +kernel
theorem dX12_letter_215 : decode cX12_letter 215 = .ok (.iload_n 3, 1) := by decide +kernel
theorem dX12_letter_216 : decode cX12_letter 216 = .ok (.imul, 1) := by decide +kernel
theorem dX12_letter_217 : decode cX12_letter 217 = .ok (.aload_n 0, 1) := by decide +kernel
theorem dX12_letter_218 : decode cX12_letter 218 = .ok (.getfield 64, 3) := by decide +kernel
theorem dX12_letter_221 : decode cX12_letter 221 = .ok (.iadd, 1) := by decide +kernel
theorem dX12_letter_222 : decode cX12_letter 222 = .ok (.iaload, 1) := by decide +kernel
theorem dX12_letter_223 : decode cX12_letter 223 = .ok (.ifCond .le 7, 3) := by decide +kernel
theorem dX12_letter_226 : decode cX12_letter 226 = .ok (.iconst 1, 1) := by decide +kernel
theorem dX12_letter_227 : decode cX12_letter 227 = .ok (.goto 4, 3) := by decide +kernel
theorem dX12_letter_230 : decode cX12_letter 230 = .ok (.iconst 0, 1) := by decide +kernel
theorem dX12_letter_231 : decode cX12_letter 231 = .ok (.iadd, 1) := by decide +kernel
theorem dX12_letter_232 : decode cX12_letter 232 = .ok (.istore_n 2, 1) := by decide +kernel
theorem dX12_letter_233 : decode cX12_letter 233 = .ok (.iinc 3 1, 3) := by decide +kernel
theorem dX12_letter_236 : decode cX12_letter 236 = .ok (.goto (-36), 3) := by decide +kernel
theorem dX12_letter_239 : decode cX12_letter 239 = .ok (.iload_n 2, 1) := by decide +kernel
theorem dX12_letter_240 : decode cX12_letter 240 = .ok (.ireturn, 1) := by decide +kernel
set_option maxHeartbeats 4000000 in
set_option maxRecDepth 20000 in
theorem b_m_letter_b179 {X : Cx} {d : Nat} (hX : Ok M_m_letter (d + 1) X) {r : Int32 × Mem} (hr : RetI M_m_letter X r.1 r.2) {k128 : Int32 → Int32 → Mem → Option (Int32 × Mem)} (hk128 : ∀ (x2 : Int32) (x3 : Int32) (μ : Mem) (dy : Nat → Nat), k128 x2 x3 μ = some r → AW X 128 [(0, .ref (gA (xG X) 111)), (2, .int x2), (3, .int x3)] [] μ dy) (x3 : Int32) (s0 : Int32) (s1 : Int32) (μ : Mem) (dy : Nat → Nat) (hf : f_m_letter_b179 k128 x3 s0 s1 μ = some r) : AW X 179 [(0, .ref (gA (xG X) 111)), (3, .int x3)] [.int s1, .int s0] μ dy := by
  unfold f_m_letter_b179 at hf
  refine r_iadd hX dX12_letter_179 ?_
  refine r_istore_n hX dX12_letter_180 rfl (ls' := [(2, .int (s0 + s1)), (0, .ref (gA (xG X) 111)), (3, .int x3)]) rfl ?_
  refine r_iinc hX (x3 + (1 : Int32)) dX12_letter_181 2 rfl rfl rfl (ls' := [(3, .int (x3 + (1 : Int32))), (2, .int (s0 + s1)), (0, .ref (gA (xG X) 111))]) rfl ?_
  refine r_goto hX 128 dX12_letter_184 rfl ?_
  refine r_weak [2, 1, 0] rfl ?_
  exact hk128 _ _ _ _ hf
set_option maxHeartbeats 4000000 in
set_option maxRecDepth 20000 in
theorem b_m_letter_b128 {X : Cx} {d : Nat} (hX : Ok M_m_letter (d + 1) X) {r : Int32 × Mem} (hr : RetI M_m_letter X r.1 r.2) : ∀ (n : Nat) (x2 : Int32) (x3 : Int32) (μ : Mem) (dy : Nat → Nat), f_m_letter_b128 n x2 x3 μ = some r → AW X 128 [(0, .ref (gA (xG X) 111)), (2, .int x2), (3, .int x3)] [] μ dy := by
  intro n
  induction n with
  | zero => intro x2 x3 μ dy hf; exact nomatch hf
  | succ n ih =>
    intro x2 x3 μ dy hf
    rw [f_m_letter_b128] at hf
    refine r_iload_n hX dX12_letter_128 2 rfl ?_
    refine r_aload_n hX dX12_letter_129 0 rfl ?_
    refine r_get hX fl_X12_86 (w_111 _ _ _) rfl dX12_letter_130 ?_
    refine r_icmp_ge hX 187 dX12_letter_133 rfl (fun hc15 => ?_) (fun hc15 => ?_)
    · rw [if_pos hc15] at hf
      refine r_iload_n hX dX12_letter_187 1 rfl ?_
      exact fin_I hf hr _ _ _ dX12_letter_188
    · rw [if_neg hc15] at hf
      refine r_iload_n hX dX12_letter_136 1 rfl ?_
      refine r_aload_n hX dX12_letter_137 0 rfl ?_
      refine r_get hX fl_X12_298 (w_111 _ _ _) rfl dX12_letter_138 ?_
      refine r_iload_n hX dX12_letter_141 2 rfl ?_
      obtain ⟨v18, μ16, h17, hf⟩ := bd2_eq hf
      refine r_callSI (Ok.le hX (by omega)) (c_m_has (d := d)  h17) cs_X12_164 (st := [.int x2]) rfl rfl rfl dX12_letter_142 (fun dy => ?_)
      refine r_aload_n hX dX12_letter_145 0 rfl ?_
      refine r_get hX fl_X12_301 (w_111 _ _ _) rfl dX12_letter_146 ?_
      refine r_iconst hX (1 : Int32) dX12_letter_149 rfl ?_
      obtain ⟨v19, e20, hf⟩ := bnd_eq hf
      have J21 : AW X 158 [(0, .ref (gA (xG X) 111)), (2, .int x2), (3, .int x3)] [.int v19, .int v18, .int x2] μ16 dy := by
        refine r_icmp_ne hX 178 dX12_letter_158 rfl (fun hc22 => ?_) (fun hc22 => ?_)
        · rw [if_neg hc22] at hf
          refine r_iconst hX (0 : Int32) dX12_letter_178 rfl ?_
          refine r_weak [0, 2] rfl ?_
          exact b_m_letter_b179 hX hr ih _ _ _ _ _ hf
        · rw [if_pos hc22] at hf
          refine r_aload_n hX dX12_letter_161 0 rfl ?_
          refine r_get hX fl_X12_16 (w_111 _ _ _) rfl dX12_letter_162 ?_
          refine r_bipush hX (14 : Int32) dX12_letter_165 rfl ?_
          refine r_aload_n hX dX12_letter_167 0 rfl ?_
          refine r_get hX fl_X12_64 (w_111 _ _ _) rfl dX12_letter_168 ?_
          refine r_imul hX dX12_letter_171 ?_
          refine r_iload_n hX dX12_letter_172 2 rfl ?_
          refine r_iadd hX dX12_letter_173 ?_
          obtain ⟨b23, hf⟩ := chk_eq hf
          refine r_iald hX (w_114 _ _ _) (inb_in b23) dX12_letter_174 ?_
          refine r_goto hX 179 dX12_letter_175 rfl ?_
          refine r_weak [0, 2] rfl ?_
          exact b_m_letter_b179 hX hr ih _ _ _ _ _ hf
      refine r_icmp_ne hX 157 dX12_letter_150 rfl (fun hc24 => ?_) (fun hc24 => ?_)
      · refine r_iconst hX (0 : Int32) dX12_letter_157 rfl ?_
        exact r_topI (e20.trans (by rw [if_neg hc24])) J21
      · refine r_iconst hX (1 : Int32) dX12_letter_153 rfl ?_
        refine r_goto hX 158 dX12_letter_154 rfl ?_
        exact r_topI (e20.trans (by rw [if_pos hc24])) J21
set_option maxHeartbeats 4000000 in
set_option maxRecDepth 20000 in
theorem b_m_letter_b200 {X : Cx} {d : Nat} (hX : Ok M_m_letter (d + 1) X) {r : Int32 × Mem} (hr : RetI M_m_letter X r.1 r.2) : ∀ (n : Nat) (x2 : Int32) (x3 : Int32) (μ : Mem) (dy : Nat → Nat), f_m_letter_b200 n x2 x3 μ = some r → AW X 200 [(0, .ref (gA (xG X) 111)), (2, .int x2), (3, .int x3)] [] μ dy := by
  intro n
  induction n with
  | zero => intro x2 x3 μ dy hf; exact nomatch hf
  | succ n ih =>
    intro x2 x3 μ dy hf
    rw [f_m_letter_b200] at hf
    refine r_iload_n hX dX12_letter_200 2 rfl ?_
    refine r_aload_n hX dX12_letter_201 0 rfl ?_
    refine r_get hX fl_X12_86 (w_111 _ _ _) rfl dX12_letter_202 ?_
    refine r_icmp_ge hX 239 dX12_letter_205 rfl (fun hc26 => ?_) (fun hc26 => ?_)
    · rw [if_pos hc26] at hf
      refine r_iload_n hX dX12_letter_239 1 rfl ?_
      exact fin_I hf hr _ _ _ dX12_letter_240
    · rw [if_neg hc26] at hf
      refine r_iload_n hX dX12_letter_208 1 rfl ?_
      refine r_aload_n hX dX12_letter_209 0 rfl ?_
      refine r_get hX fl_X12_16 (w_111 _ _ _) rfl dX12_letter_210 ?_
      refine r_bipush hX (14 : Int32) dX12_letter_213 rfl ?_
      refine r_iload_n hX dX12_letter_215 2 rfl ?_
      refine r_imul hX dX12_letter_216 ?_
      refine r_aload_n hX dX12_letter_217 0 rfl ?_
      refine r_get hX fl_X12_64 (w_111 _ _ _) rfl dX12_letter_218 ?_
      refine r_iadd hX dX12_letter_221 ?_
      obtain ⟨b27, hf⟩ := chk_eq hf
      refine r_iald hX (w_114 _ _ _) (inb_in b27) dX12_letter_222 ?_
      obtain ⟨v28, e29, hf⟩ := bnd_eq hf
      have J30 : AW X 231 [(0, .ref (gA (xG X) 111)), (2, .int x2), (3, .int x3)] [.int v28, .int x2] μ dy := by
        refine r_iadd hX dX12_letter_231 ?_
        refine r_istore_n hX dX12_letter_232 rfl (ls' := [(2, .int (x2 + v28)), (0, .ref (gA (xG X) 111)), (3, .int x3)]) rfl ?_
        refine r_iinc hX (x3 + (1 : Int32)) dX12_letter_233 2 rfl rfl rfl (ls' := [(3, .int (x3 + (1 : Int32))), (2, .int (x2 + v28)), (0, .ref (gA (xG X) 111))]) rfl ?_
        refine r_goto hX 200 dX12_letter_236 rfl ?_
        refine r_weak [2, 1, 0] rfl ?_
        exact ih _ _ _ _ hf
      refine r_if_le hX 230 dX12_letter_223 rfl (fun hc31 => ?_) (fun hc31 => ?_)
      · refine r_iconst hX (0 : Int32) dX12_letter_230 rfl ?_
        exact r_topI (e29.trans (by rw [if_pos hc31])) J30
      · refine r_iconst hX (1 : Int32) dX12_letter_226 rfl ?_
        refine r_goto hX 231 dX12_letter_227 rfl ?_
        exact r_topI (e29.trans (by rw [if_neg hc31])) J30
set_option maxHeartbeats 4000000 in
set_option maxRecDepth 20000 in
theorem c_m_letter {G : Gx} {d : Nat} {x1 : Int32} {μ : Mem} {r : Int32 × Mem} (hf : f_m_letter x1 μ = some r) : Con G M_m_letter (d + 1) [.ref (gA G 111), .int x1] μ (some (.int r.1), r.2) := by
  refine Con.ofI ⟨rfl, rfl, Nat.le_of_ble_eq_true rfl⟩ rfl rfl (fun X hG hX hr dy => ?_)
  subst hG
  show AW X 0 [(0, .ref (gA (xG X) 111)), (1, .int x1)] [] μ dy
  unfold f_m_letter at hf
  refine r_iconst hX (0 : Int32) dX12_letter_0 rfl ?_
  refine r_istore_n hX dX12_letter_1 rfl (ls' := [(2, .int (0 : Int32)), (0, .ref (gA (xG X) 111)), (1, .int x1)]) rfl ?_
  refine r_iload_n hX dX12_letter_2 2 rfl ?_
  by_cases hc1 : x1 = 97
  · rw [if_pos hc1] at hf
    refine r_tabIn hX (off := 114) 117 dX12_letter_3 (by rw [hc1]; decide) (by rw [hc1]; decide) (by rw [hc1]; rfl) rfl ?_
    refine r_aload_n hX dX12_letter_117 1 rfl ?_
    refine r_aload_n hX dX12_letter_118 1 rfl ?_
    refine r_get hX fl_X12_64 (w_111 _ _ _) rfl dX12_letter_119 ?_
    obtain ⟨v4, μ2, h3, hf⟩ := bd2_eq hf
    refine r_callVI (Ok.le hX (by omega)) (c_m_allOf (d := d)  h3) cv_X12_168 (w_111 _ _ _) rfl rfl (st := []) rfl rfl rfl dX12_letter_122 (fun dy => ?_)
    exact fin_I hf hr _ _ _ dX12_letter_125
  · rw [if_neg hc1] at hf
    by_cases hc5 : x1 = 105
    · rw [if_pos hc5] at hf
      refine r_tabIn hX (off := 89) 92 dX12_letter_3 (by rw [hc5]; decide) (by rw [hc5]; decide) (by rw [hc5]; rfl) rfl ?_
      refine r_aload_n hX dX12_letter_92 1 rfl ?_
      refine r_get hX fl_X12_64 (w_111 _ _ _) rfl dX12_letter_93 ?_
      exact fin_I hf hr _ _ _ dX12_letter_96
    · rw [if_neg hc5] at hf
      by_cases hc6 : x1 = 110
      · rw [if_pos hc6] at hf
        refine r_tabIn hX (off := 94) 97 dX12_letter_3 (by rw [hc6]; decide) (by rw [hc6]; decide) (by rw [hc6]; rfl) rfl ?_
        refine r_aload_n hX dX12_letter_97 1 rfl ?_
        refine r_get hX fl_X12_9 (w_111 _ _ _) rfl dX12_letter_98 ?_
        refine r_aload_n hX dX12_letter_101 1 rfl ?_
        refine r_get hX fl_X12_64 (w_111 _ _ _) rfl dX12_letter_102 ?_
        obtain ⟨b7, hf⟩ := chk_eq hf
        refine r_iald hX (w_112 _ _ _) (inb_in b7) dX12_letter_105 ?_
        exact fin_I hf hr _ _ _ dX12_letter_106
      · rw [if_neg hc6] at hf
        by_cases hc8 : x1 = 111
        · rw [if_pos hc8] at hf
          refine r_tabIn hX (off := 186) 189 dX12_letter_3 (by rw [hc8]; decide) (by rw [hc8]; decide) (by rw [hc8]; rfl) rfl ?_
          refine r_aload_n hX dX12_letter_189 1 rfl ?_
          refine r_aload_n hX dX12_letter_190 1 rfl ?_
          refine r_get hX fl_X12_64 (w_111 _ _ _) rfl dX12_letter_191 ?_
          obtain ⟨v11, μ9, h10, hf⟩ := bd2_eq hf
          refine r_callVI (Ok.le hX (by omega)) (c_m_heardBy (d := d)  h10) cv_X12_172 (w_111 _ _ _) rfl rfl (st := []) rfl rfl rfl dX12_letter_194 (fun dy => ?_)
          exact fin_I hf hr _ _ _ dX12_letter_197
        · rw [if_neg hc8] at hf
          by_cases hc12 : x1 = 112
          · rw [if_pos hc12] at hf
            refine r_tabIn hX (off := 104) 107 dX12_letter_3 (by rw [hc12]; decide) (by rw [hc12]; decide) (by rw [hc12]; rfl) rfl ?_
            refine r_aload_n hX dX12_letter_107 1 rfl ?_
            refine r_get hX fl_X12_13 (w_111 _ _ _) rfl dX12_letter_108 ?_
            refine r_aload_n hX dX12_letter_111 1 rfl ?_
            refine r_get hX fl_X12_64 (w_111 _ _ _) rfl dX12_letter_112 ?_
            obtain ⟨b13, hf⟩ := chk_eq hf
            refine r_iald hX (w_113 _ _ _) (inb_in b13) dX12_letter_115 ?_
            exact fin_I hf hr _ _ _ dX12_letter_116
          · rw [if_neg hc12] at hf
            by_cases hc14 : x1 = 115
            · rw [if_pos hc14] at hf
              refine r_tabIn hX (off := 123) 126 dX12_letter_3 (by rw [hc14]; decide) (by rw [hc14]; decide) (by rw [hc14]; rfl) rfl ?_
              refine r_iconst hX (0 : Int32) dX12_letter_126 rfl ?_
              refine r_istore_n hX dX12_letter_127 rfl (ls' := [(3, .int (0 : Int32)), (2, .int (0 : Int32)), (0, .ref (gA (xG X) 111)), (1, .int x1)]) rfl ?_
              refine r_weak [2, 1, 0] rfl ?_
              exact b_m_letter_b128 hX hr FU _ _ _ _ hf
            · rw [if_neg hc14] at hf
              have J25 : AW X 198 [(2, .int (0 : Int32)), (0, .ref (gA (xG X) 111)), (1, .int x1)] [] μ dy := by
                refine r_iconst hX (0 : Int32) dX12_letter_198 rfl ?_
                refine r_istore_n hX dX12_letter_199 rfl (ls' := [(3, .int (0 : Int32)), (2, .int (0 : Int32)), (0, .ref (gA (xG X) 111)), (1, .int x1)]) rfl ?_
                refine r_weak [2, 1, 0] rfl ?_
                exact b_m_letter_b200 hX hr FU _ _ _ _ hf
              by_cases hc32 : x1.toInt < 97
              · exact r_tabOut hX 198 dX12_letter_3 (Or.inl hc32) rfl J25
              by_cases hc33 : 115 < x1.toInt
              · exact r_tabOut hX 198 dX12_letter_3 (Or.inr hc33) rfl J25
              have q34 : x1.toInt = 97 ∨ x1.toInt = 98 ∨ x1.toInt = 99 ∨ x1.toInt = 100 ∨ x1.toInt = 101 ∨ x1.toInt = 102 ∨ x1.toInt = 103 ∨ x1.toInt = 104 ∨ x1.toInt = 105 ∨ x1.toInt = 106 ∨ x1.toInt = 107 ∨ x1.toInt = 108 ∨ x1.toInt = 109 ∨ x1.toInt = 110 ∨ x1.toInt = 111 ∨ x1.toInt = 112 ∨ x1.toInt = 113 ∨ x1.toInt = 114 ∨ x1.toInt = 115 := by omega
              rcases q34 with q34 | q34 | q34 | q34 | q34 | q34 | q34 | q34 | q34 | q34 | q34 | q34 | q34 | q34 | q34 | q34 | q34 | q34 | q34
              · exact absurd (i32_eq (y := 97) q34 rfl) hc1
              · exact r_tabIn hX (off := 195) 198 dX12_letter_3 (by rw [q34]; decide) (by rw [q34]; decide) (by rw [q34]; rfl) rfl J25
              · exact r_tabIn hX (off := 195) 198 dX12_letter_3 (by rw [q34]; decide) (by rw [q34]; decide) (by rw [q34]; rfl) rfl J25
              · exact r_tabIn hX (off := 195) 198 dX12_letter_3 (by rw [q34]; decide) (by rw [q34]; decide) (by rw [q34]; rfl) rfl J25
              · exact r_tabIn hX (off := 195) 198 dX12_letter_3 (by rw [q34]; decide) (by rw [q34]; decide) (by rw [q34]; rfl) rfl J25
              · exact r_tabIn hX (off := 195) 198 dX12_letter_3 (by rw [q34]; decide) (by rw [q34]; decide) (by rw [q34]; rfl) rfl J25
              · exact r_tabIn hX (off := 195) 198 dX12_letter_3 (by rw [q34]; decide) (by rw [q34]; decide) (by rw [q34]; rfl) rfl J25
              · exact r_tabIn hX (off := 195) 198 dX12_letter_3 (by rw [q34]; decide) (by rw [q34]; decide) (by rw [q34]; rfl) rfl J25
              · exact absurd (i32_eq (y := 105) q34 rfl) hc5
              · exact r_tabIn hX (off := 195) 198 dX12_letter_3 (by rw [q34]; decide) (by rw [q34]; decide) (by rw [q34]; rfl) rfl J25
              · exact r_tabIn hX (off := 195) 198 dX12_letter_3 (by rw [q34]; decide) (by rw [q34]; decide) (by rw [q34]; rfl) rfl J25
              · exact r_tabIn hX (off := 195) 198 dX12_letter_3 (by rw [q34]; decide) (by rw [q34]; decide) (by rw [q34]; rfl) rfl J25
              · exact r_tabIn hX (off := 195) 198 dX12_letter_3 (by rw [q34]; decide) (by rw [q34]; decide) (by rw [q34]; rfl) rfl J25
              · exact absurd (i32_eq (y := 110) q34 rfl) hc6
              · exact absurd (i32_eq (y := 111) q34 rfl) hc8
              · exact absurd (i32_eq (y := 112) q34 rfl) hc12
              · exact r_tabIn hX (off := 195) 198 dX12_letter_3 (by rw [q34]; decide) (by rw [q34]; decide) (by rw [q34]; rfl) rfl J25
              · exact r_tabIn hX (off := 195) 198 dX12_letter_3 (by rw [q34]; decide) (by rw [q34]; decide) (by rw [q34]; rfl) rfl J25
              · exact absurd (i32_eq (y := 115) q34 rfl) hc14
theorem dX12_product_0 : decode cX12_product 0 = .ok (.aload_n 0, 1) := by decide +kernel
theorem dX12_product_1 : decode cX12_product 1 = .ok (.iload_n 1, 1) := by decide +kernel
theorem dX12_product_2 : decode cX12_product 2 = .ok (.invokevirtual 288, 3) := by decide +kernel
theorem dX12_product_5 : decode cX12_product 5 = .ok (.istore_n 2, 1) := by decide +kernel
theorem dX12_product_6 : decode cX12_product 6 = .ok (.aload_n 0, 1) := by decide +kernel
theorem dX12_product_7 : decode cX12_product 7 = .ok (.invokevirtual 118, 3) := by decide +kernel
theorem dX12_product_10 : decode cX12_product 10 = .ok (.ifCond .eq 81, 3) := by decide +kernel
theorem dX12_product_13 : decode cX12_product 13 = .ok (.aload_n 0, 1) := by decide +kernel
theorem dX12_product_14 : decode cX12_product 14 = .ok (.invokevirtual 122, 3) := by decide +kernel
theorem dX12_product_17 : decode cX12_product 17 = .ok (.bipush 42, 2) := by decide +kernel
theorem dX12_product_19 : decode cX12_product 19 = .ok (.if_icmp .eq 12, 3) := by decide +kernel
theorem dX12_product_22 : decode cX12_product 22 = .ok (.aload_n 0, 1) := by decide +kernel
theorem dX12_product_23 : decode cX12_product 23 = .ok (.invokevirtual 122, 3) := by decide +kernel
theorem dX12_product_26 : decode cX12_product 26 = .ok (.bipush 47, 2) := by decide +kernel
theorem dX12_product_28 : decode cX12_product 28 = .ok (.if_icmp .ne 63, 3) := by decide +kernel
theorem dX12_product_31 : decode cX12_product 31 = .ok (.aload_n 0, 1) := by decide +kernel
theorem dX12_product_32 : decode cX12_product 32 = .ok (.invokevirtual 122, 3) := by decide +kernel
theorem dX12_product_35 : decode cX12_product 35 = .ok (.bipush 42, 2) := by decide +kernel
theorem dX12_product_37 : decode cX12_product 37 = .ok (.if_icmp .ne 7, 3) := by decide +kernel
theorem dX12_product_40 : decode cX12_product 40 = .ok (.iconst 1, 1) := by decide +kernel
theorem dX12_product_41 : decode cX12_product 41 = .ok (.goto 4, 3) := by decide +kernel
theorem dX12_product_44 : decode cX12_product 44 = .ok (.iconst 0, 1) := by decide +kernel
theorem dX12_product_45 : decode cX12_product 45 = .ok (.istore_n 3, 1) := by decide +kernel
theorem dX12_product_46 : decode cX12_product 46 = .ok (.aload_n 0, 1) := by decide +kernel
theorem dX12_product_47 : decode cX12_product 47 = .ok (.dup, 1) := by decide +kernel
theorem dX12_product_48 : decode cX12_product 48 = .ok (.getfield 112, 3) := by decide +kernel
theorem dX12_product_51 : decode cX12_product 51 = .ok (.iconst 1, 1) := by decide +kernel
theorem dX12_product_52 : decode cX12_product 52 = .ok (.iadd, 1) := by decide +kernel
theorem dX12_product_53 : decode cX12_product 53 = .ok (.putfield 112, 3) := by decide +kernel
theorem dX12_product_56 : decode cX12_product 56 = .ok (.aload_n 0, 1) := by decide +kernel
theorem dX12_product_57 : decode cX12_product 57 = .ok (.iload_n 1, 1) := by decide +kernel
theorem dX12_product_58 : decode cX12_product 58 = .ok (.invokevirtual 288, 3) := by decide +kernel
theorem dX12_product_61 : decode cX12_product 61 = .ok (.istore 4, 2) := by decide +kernel
theorem dX12_product_63 : decode cX12_product 63 = .ok (.iload_n 3, 1) := by decide +kernel
theorem dX12_product_64 : decode cX12_product 64 = .ok (.ifCond .eq 10, 3) := by decide +kernel
theorem dX12_product_67 : decode cX12_product 67 = .ok (.iload_n 2, 1) := by decide +kernel
theorem dX12_product_68 : decode cX12_product 68 = .ok (.iload 4, 2) := by decide +kernel
theorem dX12_product_70 : decode cX12_product 70 = .ok (.imul, 1) := by decide +kernel
theorem dX12_product_71 : decode cX12_product 71 = .ok (.goto 16, 3) := by decide +kernel
theorem dX12_product_74 : decode cX12_product 74 = .ok (.iload 4, 2) := by decide +kernel
theorem dX12_product_76 : decode cX12_product 76 = .ok (.ifCond .ne 7, 3) := by decide +kernel
theorem dX12_product_79 : decode cX12_product 79 = .ok (.iconst 0, 1) := by decide +kernel
theorem dX12_product_80 : decode cX12_product 80 = .ok (.goto 7, 3) := by decide +kernel
theorem dX12_product_83 : decode cX12_product 83 = .ok (.iload_n 2, 1) := by decide +kernel
theorem dX12_product_84 : decode cX12_product 84 = .ok (.iload 4, 2) := by decide +kernel
theorem dX12_product_86 : decode cX12_product 86 = .ok (.idiv, 1) := by decide +kernel
theorem dX12_product_87 : decode cX12_product 87 = .ok (.istore_n 2, 1) := by decide +kernel
theorem dX12_product_88 : decode cX12_product 88 = .ok (.goto (-82), 3) := by decide +kernel
theorem dX12_product_91 : decode cX12_product 91 = .ok (.iload_n 2, 1) := by decide +kernel
theorem dX12_product_92 : decode cX12_product 92 = .ok (.ireturn, 1) := by decide +kernel
set_option maxHeartbeats 4000000 in
set_option maxRecDepth 20000 in
theorem b_m_product_b87 {X : Cx} {d : Nat} {R : Int32 → Mem → Option (Int32 × Mem)} (hR : ∀ (x1 : Int32) (μ : Mem) (r : Int32 × Mem), R x1 μ = some r → Con (xG X) M_m_thing (d + 8) [.ref (gA (xG X) 111), .int x1] μ (some (.int r.1), r.2)) (hX : Ok M_m_product (d + 9) X) {r : Int32 × Mem} (hr : RetI M_m_product X r.1 r.2) {k6 : Int32 → Int32 → Mem → Option (Int32 × Mem)} (hk6 : ∀ (x1 : Int32) (x2 : Int32) (μ : Mem) (dy : Nat → Nat), k6 x1 x2 μ = some r → AW X 6 [(0, .ref (gA (xG X) 111)), (1, .int x1), (2, .int x2)] [] μ dy) (x1 : Int32) (s0 : Int32) (μ : Mem) (dy : Nat → Nat) (hf : f_m_product_b87 R k6 x1 s0 μ = some r) : AW X 87 [(0, .ref (gA (xG X) 111)), (1, .int x1)] [.int s0] μ dy := by
  unfold f_m_product_b87 at hf
  refine r_istore_n hX dX12_product_87 rfl (ls' := [(2, .int s0), (0, .ref (gA (xG X) 111)), (1, .int x1)]) rfl ?_
  refine r_goto hX 6 dX12_product_88 rfl ?_
  refine r_weak [1, 2, 0] rfl ?_
  exact hk6 _ _ _ _ hf
set_option maxHeartbeats 4000000 in
set_option maxRecDepth 20000 in
theorem b_m_product_b31 {X : Cx} {d : Nat} {R : Int32 → Mem → Option (Int32 × Mem)} (hR : ∀ (x1 : Int32) (μ : Mem) (r : Int32 × Mem), R x1 μ = some r → Con (xG X) M_m_thing (d + 8) [.ref (gA (xG X) 111), .int x1] μ (some (.int r.1), r.2)) (hX : Ok M_m_product (d + 9) X) {r : Int32 × Mem} (hr : RetI M_m_product X r.1 r.2) {k6 : Int32 → Int32 → Mem → Option (Int32 × Mem)} (hk6 : ∀ (x1 : Int32) (x2 : Int32) (μ : Mem) (dy : Nat → Nat), k6 x1 x2 μ = some r → AW X 6 [(0, .ref (gA (xG X) 111)), (1, .int x1), (2, .int x2)] [] μ dy) (x1 : Int32) (x2 : Int32) (μ : Mem) (dy : Nat → Nat) (hf : f_m_product_b31 R k6 x1 x2 μ = some r) : AW X 31 [(0, .ref (gA (xG X) 111)), (1, .int x1), (2, .int x2)] [] μ dy := by
  unfold f_m_product_b31 at hf
  refine r_aload_n hX dX12_product_31 0 rfl ?_
  obtain ⟨v14, μ12, h13, hf⟩ := bd2_eq hf
  refine r_callVI (Ok.le hX (by omega)) (c_m_here (d := d)  h13) cv_X12_122 (w_111 _ _ _) rfl rfl (st := []) rfl rfl rfl dX12_product_32 (fun dy => ?_)
  refine r_bipush hX (42 : Int32) dX12_product_35 rfl ?_
  obtain ⟨v15, e16, hf⟩ := bnd_eq hf
  have J17 : AW X 45 [(0, .ref (gA (xG X) 111)), (1, .int x1), (2, .int x2)] [.int v15] μ12 dy := by
    refine r_istore_n hX dX12_product_45 rfl (ls' := [(3, .int v15), (0, .ref (gA (xG X) 111)), (1, .int x1), (2, .int x2)]) rfl ?_
    refine r_aload_n hX dX12_product_46 1 rfl ?_
    refine r_dup hX dX12_product_47 rfl ?_
    refine r_get hX fl_X12_112 (w_111 _ _ _) rfl dX12_product_48 ?_
    refine r_iconst hX (1 : Int32) dX12_product_51 rfl ?_
    refine r_iadd hX dX12_product_52 ?_
    obtain ⟨μ18, e19, hf⟩ := bnd_eq hf
    refine r_put hX fl_X12_112 ft_X12_15 (w_111 _ _ _) rfl rfl rfl (s_111_15 _ _ _ _) e19 rfl dX12_product_53 ?_
    refine r_aload_n hX dX12_product_56 1 rfl ?_
    refine r_iload_n hX dX12_product_57 2 rfl ?_
    obtain ⟨v22, μ20, h21, hf⟩ := bd2_eq hf
    refine r_callVI (Ok.le hX (by omega)) (hR _ _ _ h21) cv_X12_288 (w_111 _ _ _) rfl rfl (st := []) rfl rfl rfl dX12_product_58 (fun dy => ?_)
    refine r_istore hX dX12_product_61 rfl (ls' := [(4, .int v22), (3, .int v15), (0, .ref (gA (xG X) 111)), (1, .int x1), (2, .int x2)]) rfl ?_
    refine r_iload_n hX dX12_product_63 1 rfl ?_
    refine r_if_eq hX 74 dX12_product_64 rfl (fun hc23 => ?_) (fun hc23 => ?_)
    · rw [if_pos hc23] at hf
      refine r_iload hX dX12_product_74 0 rfl ?_
      refine r_if_ne hX 83 dX12_product_76 rfl (fun hc24 => ?_) (fun hc24 => ?_)
      · rw [if_neg hc24] at hf
        refine r_iload_n hX dX12_product_83 4 rfl ?_
        refine r_iload hX dX12_product_84 0 rfl ?_
        obtain ⟨b25, hf⟩ := chk_eq hf
        refine r_idiv hX dX12_product_86 (of_decide_eq_true b25) ?_
        refine r_weak [2, 3] rfl ?_
        exact b_m_product_b87 hR hX hr hk6 _ _ _ _ hf
      · rw [if_pos hc24] at hf
        refine r_iconst hX (0 : Int32) dX12_product_79 rfl ?_
        refine r_goto hX 87 dX12_product_80 rfl ?_
        refine r_weak [2, 3] rfl ?_
        exact b_m_product_b87 hR hX hr hk6 _ _ _ _ hf
    · rw [if_neg hc23] at hf
      refine r_iload_n hX dX12_product_67 4 rfl ?_
      refine r_iload hX dX12_product_68 0 rfl ?_
      refine r_imul hX dX12_product_70 ?_
      refine r_goto hX 87 dX12_product_71 rfl ?_
      refine r_weak [2, 3] rfl ?_
      exact b_m_product_b87 hR hX hr hk6 _ _ _ _ hf
  refine r_icmp_ne hX 44 dX12_product_37 rfl (fun hc26 => ?_) (fun hc26 => ?_)
  · refine r_iconst hX (0 : Int32) dX12_product_44 rfl ?_
    exact r_topI (e16.trans (by rw [if_neg hc26])) J17
  · refine r_iconst hX (1 : Int32) dX12_product_40 rfl ?_
    refine r_goto hX 45 dX12_product_41 rfl ?_
    exact r_topI (e16.trans (by rw [if_pos hc26])) J17
set_option maxHeartbeats 4000000 in
set_option maxRecDepth 20000 in
theorem b_m_product_b6 {X : Cx} {d : Nat} {R : Int32 → Mem → Option (Int32 × Mem)} (hR : ∀ (x1 : Int32) (μ : Mem) (r : Int32 × Mem), R x1 μ = some r → Con (xG X) M_m_thing (d + 8) [.ref (gA (xG X) 111), .int x1] μ (some (.int r.1), r.2)) (hX : Ok M_m_product (d + 9) X) {r : Int32 × Mem} (hr : RetI M_m_product X r.1 r.2) : ∀ (n : Nat) (x1 : Int32) (x2 : Int32) (μ : Mem) (dy : Nat → Nat), f_m_product_b6 R n x1 x2 μ = some r → AW X 6 [(0, .ref (gA (xG X) 111)), (1, .int x1), (2, .int x2)] [] μ dy := by
  intro n
  induction n with
  | zero => intro x1 x2 μ dy hf; exact nomatch hf
  | succ n ih =>
    intro x1 x2 μ dy hf
    rw [f_m_product_b6] at hf
    refine r_aload_n hX dX12_product_6 0 rfl ?_
    obtain ⟨v6, μ4, h5, hf⟩ := bd2_eq hf
    refine r_callVI (Ok.le hX (by omega)) (c_m_fine (d := d)  h5) cv_X12_118 (w_111 _ _ _) rfl rfl (st := []) rfl rfl rfl dX12_product_7 (fun dy => ?_)
    refine r_if_eq hX 91 dX12_product_10 rfl (fun hc7 => ?_) (fun hc7 => ?_)
    · rw [if_pos hc7] at hf
      refine r_iload_n hX dX12_product_91 2 rfl ?_
      exact fin_I hf hr _ _ _ dX12_product_92
    · rw [if_neg hc7] at hf
      refine r_aload_n hX dX12_product_13 0 rfl ?_
      obtain ⟨v10, μ8, h9, hf⟩ := bd2_eq hf
      refine r_callVI (Ok.le hX (by omega)) (c_m_here (d := d)  h9) cv_X12_122 (w_111 _ _ _) rfl rfl (st := []) rfl rfl rfl dX12_product_14 (fun dy => ?_)
      refine r_bipush hX (42 : Int32) dX12_product_17 rfl ?_
      refine r_icmp_eq hX 31 dX12_product_19 rfl (fun hc11 => ?_) (fun hc11 => ?_)
      · rw [if_pos hc11] at hf
        refine r_weak [0, 1, 2] rfl ?_
        exact b_m_product_b31 hR hX hr ih _ _ _ _ hf
      · rw [if_neg hc11] at hf
        refine r_aload_n hX dX12_product_22 0 rfl ?_
        obtain ⟨v29, μ27, h28, hf⟩ := bd2_eq hf
        refine r_callVI (Ok.le hX (by omega)) (c_m_here (d := d)  h28) cv_X12_122 (w_111 _ _ _) rfl rfl (st := []) rfl rfl rfl dX12_product_23 (fun dy => ?_)
        refine r_bipush hX (47 : Int32) dX12_product_26 rfl ?_
        refine r_icmp_ne hX 91 dX12_product_28 rfl (fun hc30 => ?_) (fun hc30 => ?_)
        · rw [if_neg hc30] at hf
          refine r_iload_n hX dX12_product_91 2 rfl ?_
          exact fin_I hf hr _ _ _ dX12_product_92
        · rw [if_pos hc30] at hf
          refine r_weak [0, 1, 2] rfl ?_
          exact b_m_product_b31 hR hX hr ih _ _ _ _ hf
set_option maxHeartbeats 4000000 in
set_option maxRecDepth 20000 in
theorem c_m_product {G : Gx} {d : Nat} {R : Int32 → Mem → Option (Int32 × Mem)} (hR : ∀ (x1 : Int32) (μ : Mem) (r : Int32 × Mem), R x1 μ = some r → Con G M_m_thing (d + 8) [.ref (gA G 111), .int x1] μ (some (.int r.1), r.2)) {x1 : Int32} {μ : Mem} {r : Int32 × Mem} (hf : f_m_product R x1 μ = some r) : Con G M_m_product (d + 9) [.ref (gA G 111), .int x1] μ (some (.int r.1), r.2) := by
  refine Con.ofI ⟨rfl, rfl, Nat.le_of_ble_eq_true rfl⟩ rfl rfl (fun X hG hX hr dy => ?_)
  subst hG
  show AW X 0 [(0, .ref (gA (xG X) 111)), (1, .int x1)] [] μ dy
  unfold f_m_product at hf
  refine r_aload_n hX dX12_product_0 0 rfl ?_
  refine r_iload_n hX dX12_product_1 1 rfl ?_
  obtain ⟨v3, μ1, h2, hf⟩ := bd2_eq hf
  refine r_callVI (Ok.le hX (by omega)) (hR _ _ _ h2) cv_X12_288 (w_111 _ _ _) rfl rfl (st := []) rfl rfl rfl dX12_product_2 (fun dy => ?_)
  refine r_istore_n hX dX12_product_5 rfl (ls' := [(2, .int v3), (0, .ref (gA (xG X) 111)), (1, .int x1)]) rfl ?_
  refine r_weak [1, 2, 0] rfl ?_
  exact b_m_product_b6 hR hX hr FU _ _ _ _ hf
theorem dX12_sum_0 : decode cX12_sum 0 = .ok (.aload_n 0, 1) := by decide +kernel
theorem dX12_sum_1 : decode cX12_sum 1 = .ok (.iload_n 1, 1) := by decide +kernel
theorem dX12_sum_2 : decode cX12_sum 2 = .ok (.invokevirtual 285, 3) := by decide +kernel
theorem dX12_sum_5 : decode cX12_sum 5 = .ok (.istore_n 2, 1) := by decide +kernel
theorem dX12_sum_6 : decode cX12_sum 6 = .ok (.aload_n 0, 1) := by decide +kernel
theorem dX12_sum_7 : decode cX12_sum 7 = .ok (.invokevirtual 118, 3) := by decide +kernel
theorem dX12_sum_10 : decode cX12_sum 10 = .ok (.ifCond .eq 72, 3) := by decide +kernel
theorem dX12_sum_13 : decode cX12_sum 13 = .ok (.aload_n 0, 1) := by decide +kernel
theorem dX12_sum_14 : decode cX12_sum 14 = .ok (.invokevirtual 122, 3) := by decide +kernel
theorem dX12_sum_17 : decode cX12_sum 17 = .ok (.bipush 43, 2) := by decide +kernel
theorem dX12_sum_19 : decode cX12_sum 19 = .ok (.if_icmp .eq 12, 3) := by decide +kernel
theorem dX12_sum_22 : decode cX12_sum 22 = .ok (.aload_n 0, 1) := by decide +kernel
theorem dX12_sum_23 : decode cX12_sum 23 = .ok (.invokevirtual 122, 3) := by decide +kernel
theorem dX12_sum_26 : decode cX12_sum 26 = .ok (.bipush 45, 2) := by decide +kernel
theorem dX12_sum_28 : decode cX12_sum 28 = .ok (.if_icmp .ne 54, 3) := by decide +kernel
theorem dX12_sum_31 : decode cX12_sum 31 = .ok (.aload_n 0, 1) := by decide +kernel
theorem dX12_sum_32 : decode cX12_sum 32 = .ok (.invokevirtual 122, 3) := by decide +kernel
theorem dX12_sum_35 : decode cX12_sum 35 = .ok (.bipush 43, 2) := by decide +kernel
theorem dX12_sum_37 : decode cX12_sum 37 = .ok (.if_icmp .ne 7, 3) := by decide +kernel
theorem dX12_sum_40 : decode cX12_sum 40 = .ok (.iconst 1, 1) := by decide +kernel
theorem dX12_sum_41 : decode cX12_sum 41 = .ok (.goto 4, 3) := by decide +kernel
theorem dX12_sum_44 : decode cX12_sum 44 = .ok (.iconst 0, 1) := by decide +kernel
theorem dX12_sum_45 : decode cX12_sum 45 = .ok (.istore_n 3, 1) := by decide +kernel
theorem dX12_sum_46 : decode cX12_sum 46 = .ok (.aload_n 0, 1) := by decide +kernel
theorem dX12_sum_47 : decode cX12_sum 47 = .ok (.dup, 1) := by decide +kernel
theorem dX12_sum_48 : decode cX12_sum 48 = .ok (.getfield 112, 3) := by decide +kernel
theorem dX12_sum_51 : decode cX12_sum 51 = .ok (.iconst 1, 1) := by decide +kernel
theorem dX12_sum_52 : decode cX12_sum 52 = .ok (.iadd, 1) := by decide +kernel
theorem dX12_sum_53 : decode cX12_sum 53 = .ok (.putfield 112, 3) := by decide +kernel
theorem dX12_sum_56 : decode cX12_sum 56 = .ok (.aload_n 0, 1) := by decide +kernel
theorem dX12_sum_57 : decode cX12_sum 57 = .ok (.iload_n 1, 1) := by decide +kernel
theorem dX12_sum_58 : decode cX12_sum 58 = .ok (.invokevirtual 285, 3) := by decide +kernel
theorem dX12_sum_61 : decode cX12_sum 61 = .ok (.istore 4, 2) := by decide +kernel
theorem dX12_sum_63 : decode cX12_sum 63 = .ok (.iload_n 3, 1) := by decide +kernel
theorem dX12_sum_64 : decode cX12_sum 64 = .ok (.ifCond .eq 10, 3) := by decide +kernel
theorem dX12_sum_67 : decode cX12_sum 67 = .ok (.iload_n 2, 1) := by decide +kernel
theorem dX12_sum_68 : decode cX12_sum 68 = .ok (.iload 4, 2) := by decide +kernel
theorem dX12_sum_70 : decode cX12_sum 70 = .ok (.iadd, 1) := by decide +kernel
theorem dX12_sum_71 : decode cX12_sum 71 = .ok (.goto 7, 3) := by decide +kernel
theorem dX12_sum_74 : decode cX12_sum 74 = .ok (.iload_n 2, 1) := by decide +kernel
theorem dX12_sum_75 : decode cX12_sum 75 = .ok (.iload 4, 2) := by decide +kernel
theorem dX12_sum_77 : decode cX12_sum 77 = .ok (.isub, 1) := by decide +kernel
theorem dX12_sum_78 : decode cX12_sum 78 = .ok (.istore_n 2, 1) := by decide +kernel
theorem dX12_sum_79 : decode cX12_sum 79 = .ok (.goto (-73), 3) := by decide +kernel
theorem dX12_sum_82 : decode cX12_sum 82 = .ok (.iload_n 2, 1) := by decide +kernel
theorem dX12_sum_83 : decode cX12_sum 83 = .ok (.ireturn, 1) := by decide +kernel
set_option maxHeartbeats 4000000 in
set_option maxRecDepth 20000 in
theorem b_m_sum_b31 {X : Cx} {d : Nat} {R : Int32 → Mem → Option (Int32 × Mem)} (hR : ∀ (x1 : Int32) (μ : Mem) (r : Int32 × Mem), R x1 μ = some r → Con (xG X) M_m_thing (d + 8) [.ref (gA (xG X) 111), .int x1] μ (some (.int r.1), r.2)) (hX : Ok M_m_sum (d + 10) X) {r : Int32 × Mem} (hr : RetI M_m_sum X r.1 r.2) {k6 : Int32 → Int32 → Mem → Option (Int32 × Mem)} (hk6 : ∀ (x1 : Int32) (x2 : Int32) (μ : Mem) (dy : Nat → Nat), k6 x1 x2 μ = some r → AW X 6 [(0, .ref (gA (xG X) 111)), (1, .int x1), (2, .int x2)] [] μ dy) (x1 : Int32) (x2 : Int32) (μ : Mem) (dy : Nat → Nat) (hf : f_m_sum_b31 R k6 x1 x2 μ = some r) : AW X 31 [(0, .ref (gA (xG X) 111)), (1, .int x1), (2, .int x2)] [] μ dy := by
  unfold f_m_sum_b31 at hf
  refine r_aload_n hX dX12_sum_31 0 rfl ?_
  obtain ⟨v14, μ12, h13, hf⟩ := bd2_eq hf
  refine r_callVI (Ok.le hX (by omega)) (c_m_here (d := d)  h13) cv_X12_122 (w_111 _ _ _) rfl rfl (st := []) rfl rfl rfl dX12_sum_32 (fun dy => ?_)
  refine r_bipush hX (43 : Int32) dX12_sum_35 rfl ?_
  obtain ⟨v15, e16, hf⟩ := bnd_eq hf
  have J17 : AW X 45 [(0, .ref (gA (xG X) 111)), (1, .int x1), (2, .int x2)] [.int v15] μ12 dy := by
    refine r_istore_n hX dX12_sum_45 rfl (ls' := [(3, .int v15), (0, .ref (gA (xG X) 111)), (1, .int x1), (2, .int x2)]) rfl ?_
    refine r_aload_n hX dX12_sum_46 1 rfl ?_
    refine r_dup hX dX12_sum_47 rfl ?_
    refine r_get hX fl_X12_112 (w_111 _ _ _) rfl dX12_sum_48 ?_
    refine r_iconst hX (1 : Int32) dX12_sum_51 rfl ?_
    refine r_iadd hX dX12_sum_52 ?_
    obtain ⟨μ18, e19, hf⟩ := bnd_eq hf
    refine r_put hX fl_X12_112 ft_X12_15 (w_111 _ _ _) rfl rfl rfl (s_111_15 _ _ _ _) e19 rfl dX12_sum_53 ?_
    refine r_aload_n hX dX12_sum_56 1 rfl ?_
    refine r_iload_n hX dX12_sum_57 2 rfl ?_
    obtain ⟨v22, μ20, h21, hf⟩ := bd2_eq hf
    refine r_callVI (Ok.le hX (by omega)) (c_m_product (d := d) hR h21) cv_X12_285 (w_111 _ _ _) rfl rfl (st := []) rfl rfl rfl dX12_sum_58 (fun dy => ?_)
    refine r_istore hX dX12_sum_61 rfl (ls' := [(4, .int v22), (3, .int v15), (0, .ref (gA (xG X) 111)), (1, .int x1), (2, .int x2)]) rfl ?_
    refine r_iload_n hX dX12_sum_63 1 rfl ?_
    obtain ⟨v23, e24, hf⟩ := bnd_eq hf
    have J25 : AW X 78 [(4, .int v22), (3, .int v15), (0, .ref (gA (xG X) 111)), (1, .int x1), (2, .int x2)] [.int v23] μ20 dy := by
      refine r_istore_n hX dX12_sum_78 rfl (ls' := [(2, .int v23), (4, .int v22), (3, .int v15), (0, .ref (gA (xG X) 111)), (1, .int x1)]) rfl ?_
      refine r_goto hX 6 dX12_sum_79 rfl ?_
      refine r_weak [3, 4, 0] rfl ?_
      exact hk6 _ _ _ _ hf
    refine r_if_eq hX 74 dX12_sum_64 rfl (fun hc26 => ?_) (fun hc26 => ?_)
    · refine r_iload_n hX dX12_sum_74 4 rfl ?_
      refine r_iload hX dX12_sum_75 0 rfl ?_
      refine r_isub hX dX12_sum_77 ?_
      exact r_topI (e24.trans (by rw [if_pos hc26])) J25
    · refine r_iload_n hX dX12_sum_67 4 rfl ?_
      refine r_iload hX dX12_sum_68 0 rfl ?_
      refine r_iadd hX dX12_sum_70 ?_
      refine r_goto hX 78 dX12_sum_71 rfl ?_
      exact r_topI (e24.trans (by rw [if_neg hc26])) J25
  refine r_icmp_ne hX 44 dX12_sum_37 rfl (fun hc27 => ?_) (fun hc27 => ?_)
  · refine r_iconst hX (0 : Int32) dX12_sum_44 rfl ?_
    exact r_topI (e16.trans (by rw [if_neg hc27])) J17
  · refine r_iconst hX (1 : Int32) dX12_sum_40 rfl ?_
    refine r_goto hX 45 dX12_sum_41 rfl ?_
    exact r_topI (e16.trans (by rw [if_pos hc27])) J17
set_option maxHeartbeats 4000000 in
set_option maxRecDepth 20000 in
theorem b_m_sum_b6 {X : Cx} {d : Nat} {R : Int32 → Mem → Option (Int32 × Mem)} (hR : ∀ (x1 : Int32) (μ : Mem) (r : Int32 × Mem), R x1 μ = some r → Con (xG X) M_m_thing (d + 8) [.ref (gA (xG X) 111), .int x1] μ (some (.int r.1), r.2)) (hX : Ok M_m_sum (d + 10) X) {r : Int32 × Mem} (hr : RetI M_m_sum X r.1 r.2) : ∀ (n : Nat) (x1 : Int32) (x2 : Int32) (μ : Mem) (dy : Nat → Nat), f_m_sum_b6 R n x1 x2 μ = some r → AW X 6 [(0, .ref (gA (xG X) 111)), (1, .int x1), (2, .int x2)] [] μ dy := by
  intro n
  induction n with
  | zero => intro x1 x2 μ dy hf; exact nomatch hf
  | succ n ih =>
    intro x1 x2 μ dy hf
    rw [f_m_sum_b6] at hf
    refine r_aload_n hX dX12_sum_6 0 rfl ?_
    obtain ⟨v6, μ4, h5, hf⟩ := bd2_eq hf
    refine r_callVI (Ok.le hX (by omega)) (c_m_fine (d := d)  h5) cv_X12_118 (w_111 _ _ _) rfl rfl (st := []) rfl rfl rfl dX12_sum_7 (fun dy => ?_)
    refine r_if_eq hX 82 dX12_sum_10 rfl (fun hc7 => ?_) (fun hc7 => ?_)
    · rw [if_pos hc7] at hf
      refine r_iload_n hX dX12_sum_82 2 rfl ?_
      exact fin_I hf hr _ _ _ dX12_sum_83
    · rw [if_neg hc7] at hf
      refine r_aload_n hX dX12_sum_13 0 rfl ?_
      obtain ⟨v10, μ8, h9, hf⟩ := bd2_eq hf
      refine r_callVI (Ok.le hX (by omega)) (c_m_here (d := d)  h9) cv_X12_122 (w_111 _ _ _) rfl rfl (st := []) rfl rfl rfl dX12_sum_14 (fun dy => ?_)
      refine r_bipush hX (43 : Int32) dX12_sum_17 rfl ?_
      refine r_icmp_eq hX 31 dX12_sum_19 rfl (fun hc11 => ?_) (fun hc11 => ?_)
      · rw [if_pos hc11] at hf
        refine r_weak [0, 1, 2] rfl ?_
        exact b_m_sum_b31 hR hX hr ih _ _ _ _ hf
      · rw [if_neg hc11] at hf
        refine r_aload_n hX dX12_sum_22 0 rfl ?_
        obtain ⟨v30, μ28, h29, hf⟩ := bd2_eq hf
        refine r_callVI (Ok.le hX (by omega)) (c_m_here (d := d)  h29) cv_X12_122 (w_111 _ _ _) rfl rfl (st := []) rfl rfl rfl dX12_sum_23 (fun dy => ?_)
        refine r_bipush hX (45 : Int32) dX12_sum_26 rfl ?_
        refine r_icmp_ne hX 82 dX12_sum_28 rfl (fun hc31 => ?_) (fun hc31 => ?_)
        · rw [if_neg hc31] at hf
          refine r_iload_n hX dX12_sum_82 2 rfl ?_
          exact fin_I hf hr _ _ _ dX12_sum_83
        · rw [if_pos hc31] at hf
          refine r_weak [0, 1, 2] rfl ?_
          exact b_m_sum_b31 hR hX hr ih _ _ _ _ hf
set_option maxHeartbeats 4000000 in
set_option maxRecDepth 20000 in
theorem c_m_sum {G : Gx} {d : Nat} {R : Int32 → Mem → Option (Int32 × Mem)} (hR : ∀ (x1 : Int32) (μ : Mem) (r : Int32 × Mem), R x1 μ = some r → Con G M_m_thing (d + 8) [.ref (gA G 111), .int x1] μ (some (.int r.1), r.2)) {x1 : Int32} {μ : Mem} {r : Int32 × Mem} (hf : f_m_sum R x1 μ = some r) : Con G M_m_sum (d + 10) [.ref (gA G 111), .int x1] μ (some (.int r.1), r.2) := by
  refine Con.ofI ⟨rfl, rfl, Nat.le_of_ble_eq_true rfl⟩ rfl rfl (fun X hG hX hr dy => ?_)
  subst hG
  show AW X 0 [(0, .ref (gA (xG X) 111)), (1, .int x1)] [] μ dy
  unfold f_m_sum at hf
  refine r_aload_n hX dX12_sum_0 0 rfl ?_
  refine r_iload_n hX dX12_sum_1 1 rfl ?_
  obtain ⟨v3, μ1, h2, hf⟩ := bd2_eq hf
  refine r_callVI (Ok.le hX (by omega)) (c_m_product (d := d) hR h2) cv_X12_285 (w_111 _ _ _) rfl rfl (st := []) rfl rfl rfl dX12_sum_2 (fun dy => ?_)
  refine r_istore_n hX dX12_sum_5 rfl (ls' := [(2, .int v3), (0, .ref (gA (xG X) 111)), (1, .int x1)]) rfl ?_
  refine r_weak [1, 2, 0] rfl ?_
  exact b_m_sum_b6 hR hX hr FU _ _ _ _ hf
theorem dX12_held_0 : decode cX12_held 0 = .ok (.aload_n 0, 1) := by decide +kernel
theorem dX12_held_1 : decode cX12_held 1 = .ok (.iload_n 1, 1) := by decide +kernel
theorem dX12_held_2 : decode cX12_held 2 = .ok (.invokevirtual 282, 3) := by decide +kernel
theorem dX12_held_5 : decode cX12_held 5 = .ok (.istore_n 2, 1) := by decide +kernel
theorem dX12_held_6 : decode cX12_held 6 = .ok (.aload_n 0, 1) := by decide +kernel
theorem dX12_held_7 : decode cX12_held 7 = .ok (.bipush 60, 2) := by decide +kernel
theorem dX12_held_9 : decode cX12_held 9 = .ok (.invokevirtual 125, 3) := by decide +kernel
theorem dX12_held_12 : decode cX12_held 12 = .ok (.ifCond .eq 18, 3) := by decide +kernel
theorem dX12_held_15 : decode cX12_held 15 = .ok (.iload_n 2, 1) := by decide +kernel
theorem dX12_held_16 : decode cX12_held 16 = .ok (.aload_n 0, 1) := by decide +kernel
theorem dX12_held_17 : decode cX12_held 17 = .ok (.iload_n 1, 1) := by decide +kernel
theorem dX12_held_18 : decode cX12_held 18 = .ok (.invokevirtual 282, 3) := by decide +kernel
theorem dX12_held_21 : decode cX12_held 21 = .ok (.if_icmp .ge 7, 3) := by decide +kernel
theorem dX12_held_24 : decode cX12_held 24 = .ok (.iconst 1, 1) := by decide +kernel
theorem dX12_held_25 : decode cX12_held 25 = .ok (.goto 4, 3) := by decide +kernel
theorem dX12_held_28 : decode cX12_held 28 = .ok (.iconst 0, 1) := by decide +kernel
theorem dX12_held_29 : decode cX12_held 29 = .ok (.ireturn, 1) := by decide +kernel
theorem dX12_held_30 : decode cX12_held 30 = .ok (.aload_n 0, 1) := by decide +kernel
theorem dX12_held_31 : decode cX12_held 31 = .ok (.bipush 62, 2) := by decide +kernel
theorem dX12_held_33 : decode cX12_held 33 = .ok (.invokevirtual 125, 3) := by decide +kernel
theorem dX12_held_36 : decode cX12_held 36 = .ok (.ifCond .eq 18, 3) := by decide +kernel
theorem dX12_held_39 : decode cX12_held 39 = .ok (.iload_n 2, 1) := by decide +kernel
theorem dX12_held_40 : decode cX12_held 40 = .ok (.aload_n 0, 1) := by decide +kernel
theorem dX12_held_41 : decode cX12_held 41 = .ok (.iload_n 1, 1) := by decide +kernel
theorem dX12_held_42 : decode cX12_held 42 = .ok (.invokevirtual 282, 3) := by decide +kernel
theorem dX12_held_45 : decode cX12_held 45 = .ok (.if_icmp .le 7, 3) := by decide +kernel
theorem dX12_held_48 : decode cX12_held 48 = .ok (.iconst 1, 1) := by decide +kernel
theorem dX12_held_49 : decode cX12_held 49 = .ok (.goto 4, 3) := by decide +kernel
theorem dX12_held_52 : decode cX12_held 52 = .ok (.iconst 0, 1) := by decide +kernel
theorem dX12_held_53 : decode cX12_held 53 = .ok (.ireturn, 1) := by decide +kernel
theorem dX12_held_54 : decode cX12_held 54 = .ok (.aload_n 0, 1) := by decide +kernel
theorem dX12_held_55 : decode cX12_held 55 = .ok (.bipush 61, 2) := by decide +kernel
theorem dX12_held_57 : decode cX12_held 57 = .ok (.invokevirtual 125, 3) := by decide +kernel
theorem dX12_held_60 : decode cX12_held 60 = .ok (.ifCond .eq 18, 3) := by decide +kernel
theorem dX12_held_63 : decode cX12_held 63 = .ok (.iload_n 2, 1) := by decide +kernel
theorem dX12_held_64 : decode cX12_held 64 = .ok (.aload_n 0, 1) := by decide +kernel
theorem dX12_held_65 : decode cX12_held 65 = .ok (.iload_n 1, 1) := by decide +kernel
theorem dX12_held_66 : decode cX12_held 66 = .ok (.invokevirtual 282, 3) := by decide +kernel
theorem dX12_held_69 : decode cX12_held 69 = .ok (.if_icmp .ne 7, 3) := by decide +kernel
theorem dX12_held_72 : decode cX12_held 72 = .ok (.iconst 1, 1) := by decide +kernel
theorem dX12_held_73 : decode cX12_held 73 = .ok (.goto 4, 3) := by decide +kernel
theorem dX12_held_76 : decode cX12_held 76 = .ok (.iconst 0, 1) := by decide +kernel
theorem dX12_held_77 : decode cX12_held 77 = .ok (.ireturn, 1) := by decide +kernel
theorem dX12_held_78 : decode cX12_held 78 = .ok (.iload_n 2, 1) := by decide +kernel
theorem dX12_held_79 : decode cX12_held 79 = .ok (.ireturn, 1) := by decide +kernel
set_option maxHeartbeats 4000000 in
set_option maxRecDepth 20000 in
theorem c_m_held {G : Gx} {d : Nat} {R : Int32 → Mem → Option (Int32 × Mem)} (hR : ∀ (x1 : Int32) (μ : Mem) (r : Int32 × Mem), R x1 μ = some r → Con G M_m_thing (d + 8) [.ref (gA G 111), .int x1] μ (some (.int r.1), r.2)) {x1 : Int32} {μ : Mem} {r : Int32 × Mem} (hf : f_m_held R x1 μ = some r) : Con G M_m_held (d + 11) [.ref (gA G 111), .int x1] μ (some (.int r.1), r.2) := by
  refine Con.ofI ⟨rfl, rfl, Nat.le_of_ble_eq_true rfl⟩ rfl rfl (fun X hG hX hr dy => ?_)
  subst hG
  show AW X 0 [(0, .ref (gA (xG X) 111)), (1, .int x1)] [] μ dy
  unfold f_m_held at hf
  refine r_aload_n hX dX12_held_0 0 rfl ?_
  refine r_iload_n hX dX12_held_1 1 rfl ?_
  obtain ⟨v3, μ1, h2, hf⟩ := bd2_eq hf
  refine r_callVI (Ok.le hX (by omega)) (c_m_sum (d := d) hR h2) cv_X12_282 (w_111 _ _ _) rfl rfl (st := []) rfl rfl rfl dX12_held_2 (fun dy => ?_)
  refine r_istore_n hX dX12_held_5 rfl (ls' := [(2, .int v3), (0, .ref (gA (xG X) 111)), (1, .int x1)]) rfl ?_
  refine r_aload_n hX dX12_held_6 1 rfl ?_
  refine r_bipush hX (60 : Int32) dX12_held_7 rfl ?_
  obtain ⟨v6, μ4, h5, hf⟩ := bd2_eq hf
  refine r_callVI (Ok.le hX (by omega)) (c_m_passes (d := d)  h5) cv_X12_125 (w_111 _ _ _) rfl rfl (st := []) rfl rfl rfl dX12_held_9 (fun dy => ?_)
  refine r_if_eq hX 30 dX12_held_12 rfl (fun hc7 => ?_) (fun hc7 => ?_)
  · rw [if_pos hc7] at hf
    refine r_aload_n hX dX12_held_30 1 rfl ?_
    refine r_bipush hX (62 : Int32) dX12_held_31 rfl ?_
    obtain ⟨v10, μ8, h9, hf⟩ := bd2_eq hf
    refine r_callVI (Ok.le hX (by omega)) (c_m_passes (d := d)  h9) cv_X12_125 (w_111 _ _ _) rfl rfl (st := []) rfl rfl rfl dX12_held_33 (fun dy => ?_)
    refine r_if_eq hX 54 dX12_held_36 rfl (fun hc11 => ?_) (fun hc11 => ?_)
    · rw [if_pos hc11] at hf
      refine r_aload_n hX dX12_held_54 1 rfl ?_
      refine r_bipush hX (61 : Int32) dX12_held_55 rfl ?_
      obtain ⟨v14, μ12, h13, hf⟩ := bd2_eq hf
      refine r_callVI (Ok.le hX (by omega)) (c_m_passes (d := d)  h13) cv_X12_125 (w_111 _ _ _) rfl rfl (st := []) rfl rfl rfl dX12_held_57 (fun dy => ?_)
      refine r_if_eq hX 78 dX12_held_60 rfl (fun hc15 => ?_) (fun hc15 => ?_)
      · rw [if_pos hc15] at hf
        refine r_iload_n hX dX12_held_78 0 rfl ?_
        exact fin_I hf hr _ _ _ dX12_held_79
      · rw [if_neg hc15] at hf
        refine r_iload_n hX dX12_held_63 0 rfl ?_
        refine r_aload_n hX dX12_held_64 1 rfl ?_
        refine r_iload_n hX dX12_held_65 2 rfl ?_
        obtain ⟨v18, μ16, h17, hf⟩ := bd2_eq hf
        refine r_callVI (Ok.le hX (by omega)) (c_m_sum (d := d) hR h17) cv_X12_282 (w_111 _ _ _) rfl rfl (st := [.int v3]) rfl rfl rfl dX12_held_66 (fun dy => ?_)
        obtain ⟨v19, e20, hf⟩ := bnd_eq hf
        have J21 : AW X 77 [(2, .int v3), (0, .ref (gA (xG X) 111)), (1, .int x1)] [.int v19] μ16 dy := by
          exact fin_I hf hr _ _ _ dX12_held_77
        refine r_icmp_ne hX 76 dX12_held_69 rfl (fun hc22 => ?_) (fun hc22 => ?_)
        · refine r_iconst hX (0 : Int32) dX12_held_76 rfl ?_
          exact r_topI (e20.trans (by rw [if_neg hc22])) J21
        · refine r_iconst hX (1 : Int32) dX12_held_72 rfl ?_
          refine r_goto hX 77 dX12_held_73 rfl ?_
          exact r_topI (e20.trans (by rw [if_pos hc22])) J21
    · rw [if_neg hc11] at hf
      refine r_iload_n hX dX12_held_39 0 rfl ?_
      refine r_aload_n hX dX12_held_40 1 rfl ?_
      refine r_iload_n hX dX12_held_41 2 rfl ?_
      obtain ⟨v25, μ23, h24, hf⟩ := bd2_eq hf
      refine r_callVI (Ok.le hX (by omega)) (c_m_sum (d := d) hR h24) cv_X12_282 (w_111 _ _ _) rfl rfl (st := [.int v3]) rfl rfl rfl dX12_held_42 (fun dy => ?_)
      obtain ⟨v26, e27, hf⟩ := bnd_eq hf
      have J28 : AW X 53 [(2, .int v3), (0, .ref (gA (xG X) 111)), (1, .int x1)] [.int v26] μ23 dy := by
        exact fin_I hf hr _ _ _ dX12_held_53
      refine r_icmp_le hX 52 dX12_held_45 rfl (fun hc29 => ?_) (fun hc29 => ?_)
      · refine r_iconst hX (0 : Int32) dX12_held_52 rfl ?_
        exact r_topI (e27.trans (by rw [if_pos hc29])) J28
      · refine r_iconst hX (1 : Int32) dX12_held_48 rfl ?_
        refine r_goto hX 53 dX12_held_49 rfl ?_
        exact r_topI (e27.trans (by rw [if_neg hc29])) J28
  · rw [if_neg hc7] at hf
    refine r_iload_n hX dX12_held_15 0 rfl ?_
    refine r_aload_n hX dX12_held_16 1 rfl ?_
    refine r_iload_n hX dX12_held_17 2 rfl ?_
    obtain ⟨v32, μ30, h31, hf⟩ := bd2_eq hf
    refine r_callVI (Ok.le hX (by omega)) (c_m_sum (d := d) hR h31) cv_X12_282 (w_111 _ _ _) rfl rfl (st := [.int v3]) rfl rfl rfl dX12_held_18 (fun dy => ?_)
    obtain ⟨v33, e34, hf⟩ := bnd_eq hf
    have J35 : AW X 29 [(2, .int v3), (0, .ref (gA (xG X) 111)), (1, .int x1)] [.int v33] μ30 dy := by
      exact fin_I hf hr _ _ _ dX12_held_29
    refine r_icmp_ge hX 28 dX12_held_21 rfl (fun hc36 => ?_) (fun hc36 => ?_)
    · refine r_iconst hX (0 : Int32) dX12_held_28 rfl ?_
      exact r_topI (e34.trans (by rw [if_pos hc36])) J35
    · refine r_iconst hX (1 : Int32) dX12_held_24 rfl ?_
      refine r_goto hX 29 dX12_held_25 rfl ?_
      exact r_topI (e34.trans (by rw [if_neg hc36])) J35
theorem dX12_thing_0 : decode cX12_thing 0 = .ok (.aload_n 0, 1) := by decide +kernel
theorem dX12_thing_1 : decode cX12_thing 1 = .ok (.bipush 45, 2) := by decide +kernel
theorem dX12_thing_3 : decode cX12_thing 3 = .ok (.invokevirtual 125, 3) := by decide +kernel
theorem dX12_thing_6 : decode cX12_thing 6 = .ok (.ifCond .eq 10, 3) := by decide +kernel
theorem dX12_thing_9 : decode cX12_thing 9 = .ok (.aload_n 0, 1) := by decide +kernel
theorem dX12_thing_10 : decode cX12_thing 10 = .ok (.iload_n 1, 1) := by decide +kernel
theorem dX12_thing_11 : decode cX12_thing 11 = .ok (.invokevirtual 288, 3) := by decide +kernel
theorem dX12_thing_14 : decode cX12_thing 14 = .ok (.ineg, 1) := by decide +kernel
theorem dX12_thing_15 : decode cX12_thing 15 = .ok (.ireturn, 1) := by decide +kernel
theorem dX12_thing_16 : decode cX12_thing 16 = .ok (.aload_n 0, 1) := by decide +kernel
theorem dX12_thing_17 : decode cX12_thing 17 = .ok (.invokevirtual 118, 3) := by decide +kernel
theorem dX12_thing_20 : decode cX12_thing 20 = .ok (.ifCond .ne 5, 3) := by decide +kernel
theorem dX12_thing_23 : decode cX12_thing 23 = .ok (.iconst 0, 1) := by decide +kernel
theorem dX12_thing_24 : decode cX12_thing 24 = .ok (.ireturn, 1) := by decide +kernel
theorem dX12_thing_25 : decode cX12_thing 25 = .ok (.aload_n 0, 1) := by decide +kernel
theorem dX12_thing_26 : decode cX12_thing 26 = .ok (.invokevirtual 122, 3) := by decide +kernel
theorem dX12_thing_29 : decode cX12_thing 29 = .ok (.istore_n 2, 1) := by decide +kernel
theorem dX12_thing_30 : decode cX12_thing 30 = .ok (.iload_n 2, 1) := by decide +kernel
theorem dX12_thing_31 : decode cX12_thing 31 = .ok (.bipush 40, 2) := by decide +kernel
theorem dX12_thing_33 : decode cX12_thing 33 = .ok (.if_icmp .ne 34, 3) := by decide +kernel
theorem dX12_thing_36 : decode cX12_thing 36 = .ok (.iload_n 1, 1) := by decide +kernel
theorem dX12_thing_37 : decode cX12_thing 37 = .ok (.iconst 4, 1) := by decide +kernel
theorem dX12_thing_38 : decode cX12_thing 38 = .ok (.if_icmp .ge 29, 3) := by decide +kernel
theorem dX12_thing_41 : decode cX12_thing 41 = .ok (.aload_n 0, 1) := by decide +kernel
theorem dX12_thing_42 : decode cX12_thing 42 = .ok (.dup, 1) := by decide +kernel
theorem dX12_thing_43 : decode cX12_thing 43 = .ok (.getfield 112, 3) := by decide +kernel
theorem dX12_thing_46 : decode cX12_thing 46 = .ok (.iconst 1, 1) := by decide +kernel
theorem dX12_thing_47 : decode cX12_thing 47 = .ok (.iadd, 1) := by decide +kernel
theorem dX12_thing_48 : decode cX12_thing 48 = .ok (.putfield 112, 3) := by decide +kernel
theorem dX12_thing_51 : decode cX12_thing 51 = .ok (.aload_n 0, 1) := by decide +kernel
theorem dX12_thing_52 : decode cX12_thing 52 = .ok (.iload_n 1, 1) := by decide +kernel
theorem dX12_thing_53 : decode cX12_thing 53 = .ok (.iconst 1, 1) := by decide +kernel
theorem dX12_thing_54 : decode cX12_thing 54 = .ok (.iadd, 1) := by decide +kernel
theorem dX12_thing_55 : decode cX12_thing 55 = .ok (.invokevirtual 291, 3) := by decide +kernel
theorem dX12_thing_58 : decode cX12_thing 58 = .ok (.istore_n 3, 1) := by decide +kernel
theorem dX12_thing_59 : decode cX12_thing 59 = .ok (.aload_n 0, 1) := by decide +kernel
theorem dX12_thing_60 : decode cX12_thing 60 = .ok (.bipush 41, 2) := by decide +kernel
theorem dX12_thing_62 : decode cX12_thing 62 = .ok (.invokevirtual 147, 3) := by decide +kernel
theorem dX12_thing_65 : decode cX12_thing 65 = .ok (.iload_n 3, 1) := by decide +kernel
theorem dX12_thing_66 : decode cX12_thing 66 = .ok (.ireturn, 1) := by decide +kernel
theorem dX12_thing_67 : decode cX12_thing 67 = .ok (.iload_n 2, 1) := by decide +kernel
theorem dX12_thing_68 : decode cX12_thing 68 = .ok (.bipush 48, 2) := by decide +kernel
theorem dX12_thing_70 : decode cX12_thing 70 = .ok (.bipush 57, 2) := by decide +kernel
theorem dX12_thing_72 : decode cX12_thing 72 = .ok (.invokestatic 89, 3) := by decide +kernel
theorem dX12_thing_75 : decode cX12_thing 75 = .ok (.ifCond .eq 13, 3) := by decide +kernel
theorem dX12_thing_78 : decode cX12_thing 78 = .ok (.aload_n 0, 1) := by decide +kernel
theorem dX12_thing_79 : decode cX12_thing 79 = .ok (.iconst 3, 1) := by decide +kernel
theorem dX12_thing_80 : decode cX12_thing 80 = .ok (.iconst 0, 1) := by decide +kernel
theorem dX12_thing_81 : decode cX12_thing 81 = .ok (.sipush 999, 3) := by decide +kernel
theorem dX12_thing_84 : decode cX12_thing 84 = .ok (.invokevirtual 143, 3) := by decide +kernel
theorem dX12_thing_87 : decode cX12_thing 87 = .ok (.ireturn, 1) := by decide +kernel
theorem dX12_thing_88 : decode cX12_thing 88 = .ok (.iload_n 2, 1) := by decide +kernel
theorem dX12_thing_89 : decode cX12_thing 89 = .ok (.bipush 105, 2) := by decide +kernel
theorem dX12_thing_91 : decode cX12_thing 91 = .ok (.if_icmp .eq 49, 3) := by decide +kernel
theorem dX12_thing_94 : decode cX12_thing 94 = .ok (.iload_n 2, 1) := by decide +kernel
theorem dX12_thing_95 : decode cX12_thing 95 = .ok (.bipush 110, 2) := by decide +kernel
theorem dX12_thing_97 : decode cX12_thing 97 = .ok (.if_icmp .eq 43, 3) := by decide +kernel
theorem dX12_thing_100 : decode cX12_thing 100 = .ok (.iload_n 2, 1) := by decide +kernel
theorem dX12_thing_101 : decode cX12_thing 101 = .ok (.bipush 112, 2) := by decide +kernel
theorem dX12_thing_103 : decode cX12_thing 103 = .ok (.if_icmp .eq 37, 3) := by decide +kernel
theorem dX12_thing_106 : decode cX12_thing 106 = .ok (.iload_n 2, 1) := by decide +kernel
theorem dX12_thing_107 : decode cX12_thing 107 = .ok (.bipush 97, 2) := by decide +kernel
theorem dX12_thing_109 : decode cX12_thing 109 = .ok (.if_icmp .eq 31, 3) := by decide +kernel
theorem dX12_thing_112 : decode cX12_thing 112 = .ok (.iload_n 2, 1) := by decide +kernel
theorem dX12_thing_113 : decode cX12_thing 113 = .ok (.bipush 115, 2) := by decide +kernel
theorem dX12_thing_115 : decode cX12_thing 115 = .ok (.if_icmp .eq 25, 3) := by decide +kernel
theorem dX12_thing_118 : decode cX12_thing 118 = .ok (.iload_n 2, 1) := by decide +kernel
theorem dX12_thing_119 : decode cX12_thing 119 = .ok (.bipush 111, 2) := by decide +kernel
theorem dX12_thing_121 : decode cX12_thing 121 = .ok (.if_icmp .eq 19, 3) := by decide +kernel
theorem dX12_thing_124 : decode cX12_thing 124 = .ok (.iload_n 2, 1) := by decide +kernel
theorem dX12_thing_125 : decode cX12_thing 125 = .ok (.bipush 100, 2) := by decide +kernel
theorem dX12_thing_127 : decode cX12_thing 127 = .ok (.if_icmp .eq 13, 3) := by decide +kernel
theorem dX12_thing_130 : decode cX12_thing 130 = .ok (.aload_n 0, 1) := by decide +kernel
theorem dX12_thing_131 : decode cX12_thing 131 = .ok (.aload_n 0, 1) := by decide +kernel
theorem dX12_thing_132 : decode cX12_thing 132 = .ok (.getfield 112, 3) := by decide +kernel
theorem dX12_thing_135 : decode cX12_thing 135 = .ok (.invokevirtual 129, 3) := by decide +kernel
theorem dX12_thing_138 : decode cX12_thing 138 = .ok (.iconst 0, 1) := by decide +kernel
theorem dX12_thing_139 : decode cX12_thing 139 = .ok (.ireturn, 1) := by decide +kernel
theorem dX12_thing_140 : decode cX12_thing 140 = .ok (.aload_n 0, 1) := by decide +kernel
theorem dX12_thing_141 : decode cX12_thing 141 = .ok (.dup, 1) := by decide +kernel
theorem dX12_thing_142 : decode cX12_thing 142 = .ok (.getfield 112, 3) := by decide +kernel
theorem dX12_thing_145 : decode cX12_thing 145 = .ok (.iconst 1, 1) := by decide +kernel
theorem dX12_thing_146 : decode cX12_thing 146 = .ok (.iadd, 1) := by decide +kernel
theorem dX12_thing_147 : decode cX12_thing 147 = .ok (.putfield 112, 3) := by decide +kernel
theorem dX12_thing_150 : decode cX12_thing 150 = .ok (.aload_n 0, 1) := by decide +kernel
theorem dX12_thing_151 : decode cX12_thing 151 = .ok (.getfield 64, 3) := by decide +kernel
theorem dX12_thing_154 : decode cX12_thing 154 = .ok (.iconst (-1), 1) := by decide +kernel
theorem dX12_thing_155 : decode cX12_thing 155 = .ok (.if_icmp .ne 7, 3) := by decide +kernel
theorem dX12_thing_158 : decode cX12_thing 158 = .ok (.iconst 0, 1) := by decide +kernel
theorem dX12_thing_159 : decode cX12_thing 159 = .ok (.goto 9, 3) := by decide +kernel
theorem dX12_thing_162 : decode cX12_thing 162 = .ok (.aload_n 0, 1) := by decide +kernel
theorem dX12_thing_163 : decode cX12_thing 163 = .ok (.iload_n 2, 1) := by decide +kernel
theorem dX12_thing_164 : decode cX12_thing 164 = .ok (.i2c, 1) := by decide +kernel
theorem dX12_thing_165 : decode cX12_thing 165 = .ok (.invokevirtual 294, 3) := by decide +kernel
theorem dX12_thing_168 : decode cX12_thing 168 = .ok (.ireturn, 1) := by decide +kernel
set_option maxHeartbeats 4000000 in
set_option maxRecDepth 20000 in
theorem b_m_thing_b140 {X : Cx} {d : Nat} {R : Int32 → Mem → Option (Int32 × Mem)} (hR : ∀ (x1 : Int32) (μ : Mem) (r : Int32 × Mem), R x1 μ = some r → Con (xG X) M_m_thing (d + 8) [.ref (gA (xG X) 111), .int x1] μ (some (.int r.1), r.2)) (hX : Ok M_m_thing (d + 12) X) {r : Int32 × Mem} (hr : RetI M_m_thing X r.1 r.2) (x2 : Int32) (μ : Mem) (dy : Nat → Nat) (hf : f_m_thing_b140 R x2 μ = some r) : AW X 140 [(0, .ref (gA (xG X) 111)), (2, .int x2)] [] μ dy := by
  unfold f_m_thing_b140 at hf
  refine r_aload_n hX dX12_thing_140 0 rfl ?_
  refine r_dup hX dX12_thing_141 rfl ?_
  refine r_get hX fl_X12_112 (w_111 _ _ _) rfl dX12_thing_142 ?_
  refine r_iconst hX (1 : Int32) dX12_thing_145 rfl ?_
  refine r_iadd hX dX12_thing_146 ?_
  obtain ⟨μ18, e19, hf⟩ := bnd_eq hf
  refine r_put hX fl_X12_112 ft_X12_15 (w_111 _ _ _) rfl rfl rfl (s_111_15 _ _ _ _) e19 rfl dX12_thing_147 ?_
  refine r_aload_n hX dX12_thing_150 0 rfl ?_
  refine r_get hX fl_X12_64 (w_111 _ _ _) rfl dX12_thing_151 ?_
  refine r_iconst hX (-1 : Int32) dX12_thing_154 rfl ?_
  refine r_icmp_ne hX 162 dX12_thing_155 rfl (fun hc20 => ?_) (fun hc20 => ?_)
  · rw [if_neg hc20] at hf
    refine r_aload_n hX dX12_thing_162 0 rfl ?_
    refine r_iload_n hX dX12_thing_163 1 rfl ?_
    refine r_i2c hX dX12_thing_164 ?_
    obtain ⟨v23, μ21, h22, hf⟩ := bd2_eq hf
    refine r_callVI (Ok.le hX (by omega)) (c_m_letter (d := d)  h22) cv_X12_294 (w_111 _ _ _) rfl rfl (st := []) rfl rfl rfl dX12_thing_165 (fun dy => ?_)
    exact fin_I hf hr _ _ _ dX12_thing_168
  · rw [if_pos hc20] at hf
    refine r_iconst hX (0 : Int32) dX12_thing_158 rfl ?_
    refine r_goto hX 168 dX12_thing_159 rfl ?_
    exact fin_I hf hr _ _ _ dX12_thing_168
set_option maxHeartbeats 4000000 in
set_option maxRecDepth 20000 in
theorem b_m_thing_b67 {X : Cx} {d : Nat} {R : Int32 → Mem → Option (Int32 × Mem)} (hR : ∀ (x1 : Int32) (μ : Mem) (r : Int32 × Mem), R x1 μ = some r → Con (xG X) M_m_thing (d + 8) [.ref (gA (xG X) 111), .int x1] μ (some (.int r.1), r.2)) (hX : Ok M_m_thing (d + 12) X) {r : Int32 × Mem} (hr : RetI M_m_thing X r.1 r.2) (x2 : Int32) (μ : Mem) (dy : Nat → Nat) (hf : f_m_thing_b67 R x2 μ = some r) : AW X 67 [(0, .ref (gA (xG X) 111)), (2, .int x2)] [] μ dy := by
  unfold f_m_thing_b67 at hf
  refine r_iload_n hX dX12_thing_67 1 rfl ?_
  refine r_bipush hX (48 : Int32) dX12_thing_68 rfl ?_
  refine r_bipush hX (57 : Int32) dX12_thing_70 rfl ?_
  obtain ⟨v15, μ13, h14, hf⟩ := bd2_eq hf
  refine r_callSI (Ok.le hX (by omega)) (c_m_in (d := d)  h14) cs_X12_89 (st := []) rfl rfl rfl dX12_thing_72 (fun dy => ?_)
  refine r_if_eq hX 88 dX12_thing_75 rfl (fun hc16 => ?_) (fun hc16 => ?_)
  · rw [if_pos hc16] at hf
    refine r_iload_n hX dX12_thing_88 1 rfl ?_
    refine r_bipush hX (105 : Int32) dX12_thing_89 rfl ?_
    refine r_icmp_eq hX 140 dX12_thing_91 rfl (fun hc17 => ?_) (fun hc17 => ?_)
    · rw [if_pos hc17] at hf
      refine r_weak [0, 1] rfl ?_
      exact b_m_thing_b140 hR hX hr _ _ _ hf
    · rw [if_neg hc17] at hf
      refine r_iload_n hX dX12_thing_94 1 rfl ?_
      refine r_bipush hX (110 : Int32) dX12_thing_95 rfl ?_
      refine r_icmp_eq hX 140 dX12_thing_97 rfl (fun hc24 => ?_) (fun hc24 => ?_)
      · rw [if_pos hc24] at hf
        refine r_weak [0, 1] rfl ?_
        exact b_m_thing_b140 hR hX hr _ _ _ hf
      · rw [if_neg hc24] at hf
        refine r_iload_n hX dX12_thing_100 1 rfl ?_
        refine r_bipush hX (112 : Int32) dX12_thing_101 rfl ?_
        refine r_icmp_eq hX 140 dX12_thing_103 rfl (fun hc25 => ?_) (fun hc25 => ?_)
        · rw [if_pos hc25] at hf
          refine r_weak [0, 1] rfl ?_
          exact b_m_thing_b140 hR hX hr _ _ _ hf
        · rw [if_neg hc25] at hf
          refine r_iload_n hX dX12_thing_106 1 rfl ?_
          refine r_bipush hX (97 : Int32) dX12_thing_107 rfl ?_
          refine r_icmp_eq hX 140 dX12_thing_109 rfl (fun hc26 => ?_) (fun hc26 => ?_)
          · rw [if_pos hc26] at hf
            refine r_weak [0, 1] rfl ?_
            exact b_m_thing_b140 hR hX hr _ _ _ hf
          · rw [if_neg hc26] at hf
            refine r_iload_n hX dX12_thing_112 1 rfl ?_
            refine r_bipush hX (115 : Int32) dX12_thing_113 rfl ?_
            refine r_icmp_eq hX 140 dX12_thing_115 rfl (fun hc27 => ?_) (fun hc27 => ?_)
            · rw [if_pos hc27] at hf
              refine r_weak [0, 1] rfl ?_
              exact b_m_thing_b140 hR hX hr _ _ _ hf
            · rw [if_neg hc27] at hf
              refine r_iload_n hX dX12_thing_118 1 rfl ?_
              refine r_bipush hX (111 : Int32) dX12_thing_119 rfl ?_
              refine r_icmp_eq hX 140 dX12_thing_121 rfl (fun hc28 => ?_) (fun hc28 => ?_)
              · rw [if_pos hc28] at hf
                refine r_weak [0, 1] rfl ?_
                exact b_m_thing_b140 hR hX hr _ _ _ hf
              · rw [if_neg hc28] at hf
                refine r_iload_n hX dX12_thing_124 1 rfl ?_
                refine r_bipush hX (100 : Int32) dX12_thing_125 rfl ?_
                refine r_icmp_eq hX 140 dX12_thing_127 rfl (fun hc29 => ?_) (fun hc29 => ?_)
                · rw [if_pos hc29] at hf
                  refine r_weak [0, 1] rfl ?_
                  exact b_m_thing_b140 hR hX hr _ _ _ hf
                · rw [if_neg hc29] at hf
                  refine r_aload_n hX dX12_thing_130 0 rfl ?_
                  refine r_aload_n hX dX12_thing_131 0 rfl ?_
                  refine r_get hX fl_X12_112 (w_111 _ _ _) rfl dX12_thing_132 ?_
                  obtain ⟨μ30, h31, hf⟩ := bd1_eq hf
                  refine r_callVV (Ok.le hX (by omega)) (c_m_fault (d := d)  h31) cv_X12_129 (w_111 _ _ _) rfl rfl (st := []) rfl rfl rfl dX12_thing_135 (fun dy => ?_)
                  refine r_iconst hX (0 : Int32) dX12_thing_138 rfl ?_
                  exact fin_I hf hr _ _ _ dX12_thing_139
  · rw [if_neg hc16] at hf
    refine r_aload_n hX dX12_thing_78 0 rfl ?_
    refine r_iconst hX (3 : Int32) dX12_thing_79 rfl ?_
    refine r_iconst hX (0 : Int32) dX12_thing_80 rfl ?_
    refine r_sipush hX (999 : Int32) dX12_thing_81 rfl ?_
    obtain ⟨v34, μ32, h33, hf⟩ := bd2_eq hf
    refine r_callVI (Ok.le hX (by omega)) (c_m_number (d := d)  h33) cv_X12_143 (w_111 _ _ _) rfl rfl (st := []) rfl rfl rfl dX12_thing_84 (fun dy => ?_)
    exact fin_I hf hr _ _ _ dX12_thing_87
set_option maxHeartbeats 4000000 in
set_option maxRecDepth 20000 in
theorem c_m_thing_body {G : Gx} {d : Nat} {R : Int32 → Mem → Option (Int32 × Mem)} (hR : ∀ (x1 : Int32) (μ : Mem) (r : Int32 × Mem), R x1 μ = some r → Con G M_m_thing (d + 8) [.ref (gA G 111), .int x1] μ (some (.int r.1), r.2)) {x1 : Int32} {μ : Mem} {r : Int32 × Mem} (hf : f_m_thing_body R x1 μ = some r) : Con G M_m_thing (d + 12) [.ref (gA G 111), .int x1] μ (some (.int r.1), r.2) := by
  refine Con.ofI ⟨rfl, rfl, Nat.le_of_ble_eq_true rfl⟩ rfl rfl (fun X hG hX hr dy => ?_)
  subst hG
  show AW X 0 [(0, .ref (gA (xG X) 111)), (1, .int x1)] [] μ dy
  unfold f_m_thing_body at hf
  refine r_aload_n hX dX12_thing_0 0 rfl ?_
  refine r_bipush hX (45 : Int32) dX12_thing_1 rfl ?_
  obtain ⟨v3, μ1, h2, hf⟩ := bd2_eq hf
  refine r_callVI (Ok.le hX (by omega)) (c_m_passes (d := d)  h2) cv_X12_125 (w_111 _ _ _) rfl rfl (st := []) rfl rfl rfl dX12_thing_3 (fun dy => ?_)
  refine r_if_eq hX 16 dX12_thing_6 rfl (fun hc4 => ?_) (fun hc4 => ?_)
  · rw [if_pos hc4] at hf
    refine r_aload_n hX dX12_thing_16 0 rfl ?_
    obtain ⟨v7, μ5, h6, hf⟩ := bd2_eq hf
    refine r_callVI (Ok.le hX (by omega)) (c_m_fine (d := d)  h6) cv_X12_118 (w_111 _ _ _) rfl rfl (st := []) rfl rfl rfl dX12_thing_17 (fun dy => ?_)
    refine r_if_ne hX 25 dX12_thing_20 rfl (fun hc8 => ?_) (fun hc8 => ?_)
    · rw [if_neg hc8] at hf
      refine r_aload_n hX dX12_thing_25 0 rfl ?_
      obtain ⟨v11, μ9, h10, hf⟩ := bd2_eq hf
      refine r_callVI (Ok.le hX (by omega)) (c_m_here (d := d)  h10) cv_X12_122 (w_111 _ _ _) rfl rfl (st := []) rfl rfl rfl dX12_thing_26 (fun dy => ?_)
      refine r_istore_n hX dX12_thing_29 rfl (ls' := [(2, .int v11), (0, .ref (gA (xG X) 111)), (1, .int x1)]) rfl ?_
      refine r_iload_n hX dX12_thing_30 0 rfl ?_
      refine r_bipush hX (40 : Int32) dX12_thing_31 rfl ?_
      refine r_icmp_ne hX 67 dX12_thing_33 rfl (fun hc12 => ?_) (fun hc12 => ?_)
      · rw [if_neg hc12] at hf
        refine r_weak [1, 0] rfl ?_
        exact b_m_thing_b67 hR hX hr _ _ _ hf
      · rw [if_pos hc12] at hf
        refine r_iload_n hX dX12_thing_36 2 rfl ?_
        refine r_iconst hX (4 : Int32) dX12_thing_37 rfl ?_
        refine r_icmp_ge hX 67 dX12_thing_38 rfl (fun hc35 => ?_) (fun hc35 => ?_)
        · rw [if_pos hc35] at hf
          refine r_weak [1, 0] rfl ?_
          exact b_m_thing_b67 hR hX hr _ _ _ hf
        · rw [if_neg hc35] at hf
          refine r_aload_n hX dX12_thing_41 1 rfl ?_
          refine r_dup hX dX12_thing_42 rfl ?_
          refine r_get hX fl_X12_112 (w_111 _ _ _) rfl dX12_thing_43 ?_
          refine r_iconst hX (1 : Int32) dX12_thing_46 rfl ?_
          refine r_iadd hX dX12_thing_47 ?_
          obtain ⟨μ36, e37, hf⟩ := bnd_eq hf
          refine r_put hX fl_X12_112 ft_X12_15 (w_111 _ _ _) rfl rfl rfl (s_111_15 _ _ _ _) e37 rfl dX12_thing_48 ?_
          refine r_aload_n hX dX12_thing_51 1 rfl ?_
          refine r_iload_n hX dX12_thing_52 2 rfl ?_
          refine r_iconst hX (1 : Int32) dX12_thing_53 rfl ?_
          refine r_iadd hX dX12_thing_54 ?_
          obtain ⟨v40, μ38, h39, hf⟩ := bd2_eq hf
          refine r_callVI (Ok.le hX (by omega)) (c_m_held (d := d) hR h39) cv_X12_291 (w_111 _ _ _) rfl rfl (st := []) rfl rfl rfl dX12_thing_55 (fun dy => ?_)
          refine r_istore_n hX dX12_thing_58 rfl (ls' := [(3, .int v40), (2, .int v11), (0, .ref (gA (xG X) 111)), (1, .int x1)]) rfl ?_
          refine r_aload_n hX dX12_thing_59 2 rfl ?_
          refine r_bipush hX (41 : Int32) dX12_thing_60 rfl ?_
          obtain ⟨μ41, h42, hf⟩ := bd1_eq hf
          refine r_callVV (Ok.le hX (by omega)) (c_m_need (d := d)  h42) cv_X12_147 (w_111 _ _ _) rfl rfl (st := []) rfl rfl rfl dX12_thing_62 (fun dy => ?_)
          refine r_iload_n hX dX12_thing_65 0 rfl ?_
          exact fin_I hf hr _ _ _ dX12_thing_66
    · rw [if_pos hc8] at hf
      refine r_iconst hX (0 : Int32) dX12_thing_23 rfl ?_
      exact fin_I hf hr _ _ _ dX12_thing_24
  · rw [if_neg hc4] at hf
    refine r_aload_n hX dX12_thing_9 0 rfl ?_
    refine r_iload_n hX dX12_thing_10 1 rfl ?_
    obtain ⟨v45, μ43, h44, hf⟩ := bd2_eq hf
    refine r_callVI (Ok.le hX (by omega)) (hR _ _ _ h44) cv_X12_288 (w_111 _ _ _) rfl rfl (st := []) rfl rfl rfl dX12_thing_11 (fun dy => ?_)
    refine r_ineg hX dX12_thing_14 ?_
    exact fin_I hf hr _ _ _ dX12_thing_15
theorem c_m_thing {G : Gx} {d : Nat} (k : Nat) : ∀ {x1 : Int32} {μ : Mem} {r : Int32 × Mem}, f_m_thing k x1 μ = some r → Con G M_m_thing (d + 4 * k + 8) [.ref (gA G 111), .int x1] μ (some (.int r.1), r.2) := by
  induction k with
  | zero => intro x1 μ r hf; exact nomatch hf
  | succ k ih =>
    intro x1 μ r hf
    rw [f_m_thing] at hf
    have h := c_m_thing_body (d := d + 4 * k) (fun x1 μ r h => ih h) hf
    have e : d + 4 * k + 12 = d + 4 * (k + 1) + 8 := by omega
    rw [← e]
    exact h
