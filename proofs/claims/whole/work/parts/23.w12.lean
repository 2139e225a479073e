theorem dX12_keep_0 : decode cX12_keep 0 = .ok (.aload_n 0, 1) := by decide +kernel
theorem dX12_keep_1 : decode cX12_keep 1 = .ok (.iconst 0, 1) := by decide +kernel
theorem dX12_keep_2 : decode cX12_keep 2 = .ok (.putfield 80, 3) := by decide +kernel
theorem dX12_keep_5 : decode cX12_keep 5 = .ok (.iload_n 1, 1) := by decide +kernel
theorem dX12_keep_6 : decode cX12_keep 6 = .ok (.iconst 0, 1) := by decide +kernel
theorem dX12_keep_7 : decode cX12_keep 7 = .ok (.iconst 1, 1) := by decide +kernel
theorem dX12_keep_8 : decode cX12_keep 8 = .ok (.invokestatic 89, 3) := by decide +kernel
theorem dX12_keep_11 : decode cX12_keep 11 = .ok (.ifCond .ne 5, 3) := by decide +kernel
theorem dX12_keep_14 : decode cX12_keep 14 = .ok (.iconst 0, 1) := by decide +kernel
theorem dX12_keep_15 : decode cX12_keep 15 = .ok (.ireturn, 1) := by decide +kernel
theorem dX12_keep_16 : decode cX12_keep 16 = .ok (.aload_n 0, 1) := by decide +kernel
theorem dX12_keep_17 : decode cX12_keep 17 = .ok (.getfield 74, 3) := by decide +kernel
theorem dX12_keep_20 : decode cX12_keep 20 = .ok (.iload_n 1, 1) := by decide +kernel
theorem dX12_keep_21 : decode cX12_keep 21 = .ok (.iconst 1, 1) := by decide +kernel
theorem dX12_keep_22 : decode cX12_keep 22 = .ok (.bastore, 1) := by decide +kernel
theorem dX12_keep_23 : decode cX12_keep 23 = .ok (.aload_n 0, 1) := by decide +kernel
theorem dX12_keep_24 : decode cX12_keep 24 = .ok (.getfield 77, 3) := by decide +kernel
theorem dX12_keep_27 : decode cX12_keep 27 = .ok (.iload_n 1, 1) := by decide +kernel
theorem dX12_keep_28 : decode cX12_keep 28 = .ok (.aload_n 0, 1) := by decide +kernel
theorem dX12_keep_29 : decode cX12_keep 29 = .ok (.getfield 154, 3) := by decide +kernel
theorem dX12_keep_32 : decode cX12_keep 32 = .ok (.iastore, 1) := by decide +kernel
theorem dX12_keep_33 : decode cX12_keep 33 = .ok (.sipush 412, 3) := by decide +kernel
theorem dX12_keep_36 : decode cX12_keep 36 = .ok (.iload_n 1, 1) := by decide +kernel
theorem dX12_keep_37 : decode cX12_keep 37 = .ok (.imul, 1) := by decide +kernel
theorem dX12_keep_38 : decode cX12_keep 38 = .ok (.istore_n 2, 1) := by decide +kernel
theorem dX12_keep_39 : decode cX12_keep 39 = .ok (.aload_n 0, 1) := by decide +kernel
theorem dX12_keep_40 : decode cX12_keep 40 = .ok (.getfield 71, 3) := by decide +kernel
theorem dX12_keep_43 : decode cX12_keep 43 = .ok (.iload_n 2, 1) := by decide +kernel
theorem dX12_keep_44 : decode cX12_keep 44 = .ok (.aload_n 0, 1) := by decide +kernel
theorem dX12_keep_45 : decode cX12_keep 45 = .ok (.getfield 97, 3) := by decide +kernel
theorem dX12_keep_48 : decode cX12_keep 48 = .ok (.iastore, 1) := by decide +kernel
theorem dX12_keep_49 : decode cX12_keep 49 = .ok (.iconst 0, 1) := by decide +kernel
theorem dX12_keep_50 : decode cX12_keep 50 = .ok (.istore_n 3, 1) := by decide +kernel
theorem dX12_keep_51 : decode cX12_keep 51 = .ok (.iload_n 3, 1) := by decide +kernel
theorem dX12_keep_52 : decode cX12_keep 52 = .ok (.sipush 200, 3) := by decide +kernel
theorem dX12_keep_55 : decode cX12_keep 55 = .ok (.if_icmp .gt 25, 3) := by decide +kernel
theorem dX12_keep_58 : decode cX12_keep 58 = .ok (.aload_n 0, 1) := by decide +kernel
theorem dX12_keep_59 : decode cX12_keep 59 = .ok (.getfield 71, 3) := by decide +kernel
theorem dX12_keep_62 : decode cX12_keep 62 = .ok (.iload_n 2, 1) := by decide +kernel
theorem dX12_keep_63 : decode cX12_keep 63 = .ok (.iconst 1, 1) := by decide +kernel
theorem dX12_keep_64 : decode cX12_keep 64 = .ok (.iadd, 1) := by decide +kernel
theorem dX12_keep_65 : decode cX12_keep 65 = .ok (.iload_n 3, 1) := by decide +kernel
theorem dX12_keep_66 : decode cX12_keep 66 = .ok (.iadd, 1) := by decide +kernel
theorem dX12_keep_67 : decode cX12_keep 67 = .ok (.aload_n 0, 1) := by decide +kernel
theorem dX12_keep_68 : decode cX12_keep 68 = .ok (.getfield 19, 3) := by decide +kernel
theorem dX12_keep_71 : decode cX12_keep 71 = .ok (.iload_n 3, 1) := by decide +kernel
theorem dX12_keep_72 : decode cX12_keep 72 = .ok (.iaload, 1) := by decide +kernel
theorem dX12_keep_73 : decode cX12_keep 73 = .ok (.iastore, 1) := by decide +kernel
theorem dX12_keep_74 : decode cX12_keep 74 = .ok (.iinc 3 1, 3) := by decide +kernel
theorem dX12_keep_77 : decode cX12_keep 77 = .ok (.goto (-26), 3) := by decide +kernel
theorem dX12_keep_80 : decode cX12_keep 80 = .ok (.iinc 2 202, 6) := by decide +kernel
theorem dX12_keep_86 : decode cX12_keep 86 = .ok (.iconst 0, 1) := by decide +kernel
theorem dX12_keep_87 : decode cX12_keep 87 = .ok (.istore_n 3, 1) := by decide +kernel
theorem dX12_keep_88 : decode cX12_keep 88 = .ok (.iload_n 3, 1) := by decide +kernel
theorem dX12_keep_89 : decode cX12_keep 89 = .ok (.sipush 196, 3) := by decide +kernel
theorem dX12_keep_92 : decode cX12_keep 92 = .ok (.if_icmp .ge 23, 3) := by decide +kernel
theorem dX12_keep_95 : decode cX12_keep 95 = .ok (.aload_n 0, 1) := by decide +kernel
theorem dX12_keep_96 : decode cX12_keep 96 = .ok (.getfield 71, 3) := by decide +kernel
theorem dX12_keep_99 : decode cX12_keep 99 = .ok (.iload_n 2, 1) := by decide +kernel
theorem dX12_keep_100 : decode cX12_keep 100 = .ok (.iload_n 3, 1) := by decide +kernel
theorem dX12_keep_101 : decode cX12_keep 101 = .ok (.iadd, 1) := by decide +kernel
theorem dX12_keep_102 : decode cX12_keep 102 = .ok (.aload_n 0, 1) := by decide +kernel
theorem dX12_keep_103 : decode cX12_keep 103 = .ok (.getfield 16, 3) := by decide +kernel
theorem dX12_keep_106 : decode cX12_keep 106 = .ok (.iload_n 3, 1) := by decide +kernel
theorem dX12_keep_107 : decode cX12_keep 107 = .ok (.iaload, 1) := by decide +kernel
theorem dX12_keep_108 : decode cX12_keep 108 = .ok (.iastore, 1) := by decide +kernel
theorem dX12_keep_109 : decode cX12_keep 109 = .ok (.iinc 3 1, 3) := by decide +kernel
theorem dX12_keep_112 : decode cX12_keep 112 = .ok (.goto (-24), 3) := by decide +kernel
theorem dX12_keep_115 : decode cX12_keep 115 = .ok (.iinc 2 196, 6) := by decide +kernel
theorem dX12_keep_121 : decode cX12_keep 121 = .ok (.iconst 0, 1) := by decide +kernel
theorem dX12_keep_122 : decode cX12_keep 122 = .ok (.istore_n 3, 1) := by decide +kernel
theorem dX12_keep_123 : decode cX12_keep 123 = .ok (.iload_n 3, 1) := by decide +kernel
theorem dX12_keep_124 : decode cX12_keep 124 = .ok (.bipush 14, 2) := by decide +kernel
theorem dX12_keep_126 : decode cX12_keep 126 = .ok (.if_icmp .ge 23, 3) := by decide +kernel
theorem dX12_keep_129 : decode cX12_keep 129 = .ok (.aload_n 0, 1) := by decide +kernel
theorem dX12_keep_130 : decode cX12_keep 130 = .ok (.getfield 71, 3) := by decide +kernel
theorem dX12_keep_133 : decode cX12_keep 133 = .ok (.iload_n 2, 1) := by decide +kernel
theorem dX12_keep_134 : decode cX12_keep 134 = .ok (.iload_n 3, 1) := by decide +kernel
theorem dX12_keep_135 : decode cX12_keep 135 = .ok (.iadd, 1) := by decide +kernel
theorem dX12_keep_136 : decode cX12_keep 136 = .ok (.aload_n 0, 1) := by decide +kernel
theorem dX12_keep_137 : decode cX12_keep 137 = .ok (.getfield 9, 3) := by decide +kernel
theorem dX12_keep_140 : decode cX12_keep 140 = .ok (.iload_n 3, 1) := by decide +kernel
theorem dX12_keep_141 : decode cX12_keep 141 = .ok (.iaload, 1) := by decide +kernel
theorem dX12_keep_142 : decode cX12_keep 142 = .ok (.iastore, 1) := by decide +kernel
theorem dX12_keep_143 : decode cX12_keep 143 = .ok (.iinc 3 1, 3) := by decide +kernel
theorem dX12_keep_146 : decode cX12_keep 146 = .ok (.goto (-23), 3) := by decide +kernel
theorem dX12_keep_149 : decode cX12_keep 149 = .ok (.iconst 1, 1) := by decide +kernel
theorem dX12_keep_150 : decode cX12_keep 150 = .ok (.ireturn, 1) := by decide +kernel
set_option maxHeartbeats 4000000 in
set_option maxRecDepth 20000 in
theorem b_m_keep_b123 {X : Cx} {d : Nat} (hX : Ok M_m_keep (d + 1) X) {r : Int32 × Mem} (hr : RetZ M_m_keep X r.1 r.2) : ∀ (n : Nat) (x2 : Int32) (x3 : Int32) (μ : Mem) (dy : Nat → Nat), f_m_keep_b123 n x2 x3 μ = some r → AW X 123 [(0, .ref (gA (xG X) 111)), (2, .int x2), (3, .int x3)] [] μ dy := by
  intro n
  induction n with
  | zero => intro x2 x3 μ dy hf; exact nomatch hf
  | succ n ih =>
    intro x2 x3 μ dy hf
    rw [f_m_keep_b123] at hf
    refine r_iload_n hX dX12_keep_123 2 rfl ?_
    refine r_bipush hX (14 : Int32) dX12_keep_124 rfl ?_
    refine r_icmp_ge hX 149 dX12_keep_126 rfl (fun hc18 => ?_) (fun hc18 => ?_)
    · rw [if_pos hc18] at hf
      refine r_iconst hX (1 : Int32) dX12_keep_149 rfl ?_
      obtain ⟨b19, hf⟩ := chk_eq hf
      exact fin_Z hf hr _ _ _ (zb_nar b19) dX12_keep_150
    · rw [if_neg hc18] at hf
      refine r_aload_n hX dX12_keep_129 0 rfl ?_
      refine r_get hX fl_X12_71 (w_111 _ _ _) rfl dX12_keep_130 ?_
      refine r_iload_n hX dX12_keep_133 1 rfl ?_
      refine r_iload_n hX dX12_keep_134 2 rfl ?_
      refine r_iadd hX dX12_keep_135 ?_
      refine r_aload_n hX dX12_keep_136 0 rfl ?_
      refine r_get hX fl_X12_9 (w_111 _ _ _) rfl dX12_keep_137 ?_
      refine r_iload_n hX dX12_keep_140 2 rfl ?_
      obtain ⟨b20, hf⟩ := chk_eq hf
      refine r_iald hX (w_112 _ _ _) (inb_in b20) dX12_keep_141 ?_
      obtain ⟨b21, hf⟩ := chk_eq hf
      obtain ⟨μ22, e23, hf⟩ := bnd_eq hf
      refine r_iast hX (w_131 _ _ _) (inb_in b21) (s_131 _ _ _ _ _) e23 rfl dX12_keep_142 ?_
      refine r_iinc hX (x3 + (1 : Int32)) dX12_keep_143 2 rfl rfl rfl (ls' := [(3, .int (x3 + (1 : Int32))), (0, .ref (gA (xG X) 111)), (2, .int x2)]) rfl ?_
      refine r_goto hX 123 dX12_keep_146 rfl ?_
      refine r_weak [1, 2, 0] rfl ?_
      exact ih _ _ _ _ hf
set_option maxHeartbeats 4000000 in
set_option maxRecDepth 20000 in
theorem b_m_keep_b88 {X : Cx} {d : Nat} (hX : Ok M_m_keep (d + 1) X) {r : Int32 × Mem} (hr : RetZ M_m_keep X r.1 r.2) : ∀ (n : Nat) (x2 : Int32) (x3 : Int32) (μ : Mem) (dy : Nat → Nat), f_m_keep_b88 n x2 x3 μ = some r → AW X 88 [(0, .ref (gA (xG X) 111)), (2, .int x2), (3, .int x3)] [] μ dy := by
  intro n
  induction n with
  | zero => intro x2 x3 μ dy hf; exact nomatch hf
  | succ n ih =>
    intro x2 x3 μ dy hf
    rw [f_m_keep_b88] at hf
    refine r_iload_n hX dX12_keep_88 2 rfl ?_
    refine r_sipush hX (196 : Int32) dX12_keep_89 rfl ?_
    refine r_icmp_ge hX 115 dX12_keep_92 rfl (fun hc17 => ?_) (fun hc17 => ?_)
    · rw [if_pos hc17] at hf
      refine r_iincW hX (x2 + (196 : Int32)) dX12_keep_115 1 rfl rfl rfl (ls' := [(2, .int (x2 + (196 : Int32))), (0, .ref (gA (xG X) 111)), (3, .int x3)]) rfl ?_
      refine r_iconst hX (0 : Int32) dX12_keep_121 rfl ?_
      refine r_istore_n hX dX12_keep_122 rfl (ls' := [(3, .int (0 : Int32)), (2, .int (x2 + (196 : Int32))), (0, .ref (gA (xG X) 111))]) rfl ?_
      refine r_weak [2, 1, 0] rfl ?_
      exact b_m_keep_b123 hX hr FU _ _ _ _ hf
    · rw [if_neg hc17] at hf
      refine r_aload_n hX dX12_keep_95 0 rfl ?_
      refine r_get hX fl_X12_71 (w_111 _ _ _) rfl dX12_keep_96 ?_
      refine r_iload_n hX dX12_keep_99 1 rfl ?_
      refine r_iload_n hX dX12_keep_100 2 rfl ?_
      refine r_iadd hX dX12_keep_101 ?_
      refine r_aload_n hX dX12_keep_102 0 rfl ?_
      refine r_get hX fl_X12_16 (w_111 _ _ _) rfl dX12_keep_103 ?_
      refine r_iload_n hX dX12_keep_106 2 rfl ?_
      obtain ⟨b24, hf⟩ := chk_eq hf
      refine r_iald hX (w_114 _ _ _) (inb_in b24) dX12_keep_107 ?_
      obtain ⟨b25, hf⟩ := chk_eq hf
      obtain ⟨μ26, e27, hf⟩ := bnd_eq hf
      refine r_iast hX (w_131 _ _ _) (inb_in b25) (s_131 _ _ _ _ _) e27 rfl dX12_keep_108 ?_
      refine r_iinc hX (x3 + (1 : Int32)) dX12_keep_109 2 rfl rfl rfl (ls' := [(3, .int (x3 + (1 : Int32))), (0, .ref (gA (xG X) 111)), (2, .int x2)]) rfl ?_
      refine r_goto hX 88 dX12_keep_112 rfl ?_
      refine r_weak [1, 2, 0] rfl ?_
      exact ih _ _ _ _ hf
set_option maxHeartbeats 4000000 in
set_option maxRecDepth 20000 in
theorem b_m_keep_b51 {X : Cx} {d : Nat} (hX : Ok M_m_keep (d + 1) X) {r : Int32 × Mem} (hr : RetZ M_m_keep X r.1 r.2) : ∀ (n : Nat) (x2 : Int32) (x3 : Int32) (μ : Mem) (dy : Nat → Nat), f_m_keep_b51 n x2 x3 μ = some r → AW X 51 [(0, .ref (gA (xG X) 111)), (2, .int x2), (3, .int x3)] [] μ dy := by
  intro n
  induction n with
  | zero => intro x2 x3 μ dy hf; exact nomatch hf
  | succ n ih =>
    intro x2 x3 μ dy hf
    rw [f_m_keep_b51] at hf
    refine r_iload_n hX dX12_keep_51 2 rfl ?_
    refine r_sipush hX (200 : Int32) dX12_keep_52 rfl ?_
    refine r_icmp_gt hX 80 dX12_keep_55 rfl (fun hc16 => ?_) (fun hc16 => ?_)
    · rw [if_pos hc16] at hf
      refine r_iincW hX (x2 + (202 : Int32)) dX12_keep_80 1 rfl rfl rfl (ls' := [(2, .int (x2 + (202 : Int32))), (0, .ref (gA (xG X) 111)), (3, .int x3)]) rfl ?_
      refine r_iconst hX (0 : Int32) dX12_keep_86 rfl ?_
      refine r_istore_n hX dX12_keep_87 rfl (ls' := [(3, .int (0 : Int32)), (2, .int (x2 + (202 : Int32))), (0, .ref (gA (xG X) 111))]) rfl ?_
      refine r_weak [2, 1, 0] rfl ?_
      exact b_m_keep_b88 hX hr FU _ _ _ _ hf
    · rw [if_neg hc16] at hf
      refine r_aload_n hX dX12_keep_58 0 rfl ?_
      refine r_get hX fl_X12_71 (w_111 _ _ _) rfl dX12_keep_59 ?_
      refine r_iload_n hX dX12_keep_62 1 rfl ?_
      refine r_iconst hX (1 : Int32) dX12_keep_63 rfl ?_
      refine r_iadd hX dX12_keep_64 ?_
      refine r_iload_n hX dX12_keep_65 2 rfl ?_
      refine r_iadd hX dX12_keep_66 ?_
      refine r_aload_n hX dX12_keep_67 0 rfl ?_
      refine r_get hX fl_X12_19 (w_111 _ _ _) rfl dX12_keep_68 ?_
      refine r_iload_n hX dX12_keep_71 2 rfl ?_
      obtain ⟨b28, hf⟩ := chk_eq hf
      refine r_iald hX (w_115 _ _ _) (inb_in b28) dX12_keep_72 ?_
      obtain ⟨b29, hf⟩ := chk_eq hf
      obtain ⟨μ30, e31, hf⟩ := bnd_eq hf
      refine r_iast hX (w_131 _ _ _) (inb_in b29) (s_131 _ _ _ _ _) e31 rfl dX12_keep_73 ?_
      refine r_iinc hX (x3 + (1 : Int32)) dX12_keep_74 2 rfl rfl rfl (ls' := [(3, .int (x3 + (1 : Int32))), (0, .ref (gA (xG X) 111)), (2, .int x2)]) rfl ?_
      refine r_goto hX 51 dX12_keep_77 rfl ?_
      refine r_weak [1, 2, 0] rfl ?_
      exact ih _ _ _ _ hf
set_option maxHeartbeats 4000000 in
set_option maxRecDepth 20000 in
theorem c_m_keep {G : Gx} {d : Nat} {x1 : Int32} {μ : Mem} {r : Int32 × Mem} (hf : f_m_keep x1 μ = some r) : Con G M_m_keep (d + 1) [.ref (gA G 111), .int x1] μ (some (.int r.1), r.2) := by
  refine Con.ofZ ⟨rfl, rfl, Nat.le_of_ble_eq_true rfl⟩ rfl (fun X hG hX hr dy => ?_)
  subst hG
  show AW X 0 [(0, .ref (gA (xG X) 111)), (1, .int x1)] [] μ dy
  unfold f_m_keep at hf
  refine r_aload_n hX dX12_keep_0 0 rfl ?_
  refine r_iconst hX (0 : Int32) dX12_keep_1 rfl ?_
  obtain ⟨μ1, e2, hf⟩ := bnd_eq hf
  refine r_put hX fl_X12_80 ft_X12_11 (w_111 _ _ _) rfl rfl rfl (s_111_11 _ _ _ _) e2 rfl dX12_keep_2 ?_
  refine r_iload_n hX dX12_keep_5 1 rfl ?_
  refine r_iconst hX (0 : Int32) dX12_keep_6 rfl ?_
  refine r_iconst hX (1 : Int32) dX12_keep_7 rfl ?_
  obtain ⟨v5, μ3, h4, hf⟩ := bd2_eq hf
  refine r_callSI (Ok.le hX (by omega)) (c_m_in (d := d)  h4) cs_X12_89 (st := []) rfl rfl rfl dX12_keep_8 (fun dy => ?_)
  refine r_if_ne hX 16 dX12_keep_11 rfl (fun hc6 => ?_) (fun hc6 => ?_)
  · rw [if_neg hc6] at hf
    refine r_aload_n hX dX12_keep_16 0 rfl ?_
    refine r_get hX fl_X12_74 (w_111 _ _ _) rfl dX12_keep_17 ?_
    refine r_iload_n hX dX12_keep_20 1 rfl ?_
    refine r_iconst hX (1 : Int32) dX12_keep_21 rfl ?_
    obtain ⟨b7, hf⟩ := chk_eq hf
    obtain ⟨μ8, e9, hf⟩ := bnd_eq hf
    refine r_zast hX (w_132 _ _ _) (inb_in b7) (s_132 _ _ _ _ _) e9 rfl dX12_keep_22 ?_
    refine r_aload_n hX dX12_keep_23 0 rfl ?_
    refine r_get hX fl_X12_77 (w_111 _ _ _) rfl dX12_keep_24 ?_
    refine r_iload_n hX dX12_keep_27 1 rfl ?_
    refine r_aload_n hX dX12_keep_28 0 rfl ?_
    refine r_get hX fl_X12_154 (w_111 _ _ _) rfl dX12_keep_29 ?_
    obtain ⟨b10, hf⟩ := chk_eq hf
    obtain ⟨μ11, e12, hf⟩ := bnd_eq hf
    refine r_iast hX (w_133 _ _ _) (inb_in b10) (s_133 _ _ _ _ _) e12 rfl dX12_keep_32 ?_
    refine r_sipush hX (412 : Int32) dX12_keep_33 rfl ?_
    refine r_iload_n hX dX12_keep_36 1 rfl ?_
    refine r_imul hX dX12_keep_37 ?_
    refine r_istore_n hX dX12_keep_38 rfl (ls' := [(2, .int ((412 : Int32) * x1)), (0, .ref (gA (xG X) 111)), (1, .int x1)]) rfl ?_
    refine r_aload_n hX dX12_keep_39 1 rfl ?_
    refine r_get hX fl_X12_71 (w_111 _ _ _) rfl dX12_keep_40 ?_
    refine r_iload_n hX dX12_keep_43 0 rfl ?_
    refine r_aload_n hX dX12_keep_44 1 rfl ?_
    refine r_get hX fl_X12_97 (w_111 _ _ _) rfl dX12_keep_45 ?_
    obtain ⟨b13, hf⟩ := chk_eq hf
    obtain ⟨μ14, e15, hf⟩ := bnd_eq hf
    refine r_iast hX (w_131 _ _ _) (inb_in b13) (s_131 _ _ _ _ _) e15 rfl dX12_keep_48 ?_
    refine r_iconst hX (0 : Int32) dX12_keep_49 rfl ?_
    refine r_istore_n hX dX12_keep_50 rfl (ls' := [(3, .int (0 : Int32)), (2, .int ((412 : Int32) * x1)), (0, .ref (gA (xG X) 111)), (1, .int x1)]) rfl ?_
    refine r_weak [2, 1, 0] rfl ?_
    exact b_m_keep_b51 hX hr FU _ _ _ _ hf
  · rw [if_pos hc6] at hf
    refine r_iconst hX (0 : Int32) dX12_keep_14 rfl ?_
    obtain ⟨b32, hf⟩ := chk_eq hf
    exact fin_Z hf hr _ _ _ (zb_nar b32) dX12_keep_15
theorem dX12_again_0 : decode cX12_again 0 = .ok (.aload_n 0, 1) := by decide +kernel
theorem dX12_again_1 : decode cX12_again 1 = .ok (.iconst 0, 1) := by decide +kernel
theorem dX12_again_2 : decode cX12_again 2 = .ok (.putfield 80, 3) := by decide +kernel
theorem dX12_again_5 : decode cX12_again 5 = .ok (.iload_n 1, 1) := by decide +kernel
theorem dX12_again_6 : decode cX12_again 6 = .ok (.iconst 0, 1) := by decide +kernel
theorem dX12_again_7 : decode cX12_again 7 = .ok (.iconst 1, 1) := by decide +kernel
theorem dX12_again_8 : decode cX12_again 8 = .ok (.invokestatic 89, 3) := by decide +kernel
theorem dX12_again_11 : decode cX12_again 11 = .ok (.ifCond .eq 25, 3) := by decide +kernel
theorem dX12_again_14 : decode cX12_again 14 = .ok (.aload_n 0, 1) := by decide +kernel
theorem dX12_again_15 : decode cX12_again 15 = .ok (.getfield 74, 3) := by decide +kernel
theorem dX12_again_18 : decode cX12_again 18 = .ok (.iload_n 1, 1) := by decide +kernel
theorem dX12_again_19 : decode cX12_again 19 = .ok (.baload, 1) := by decide +kernel
theorem dX12_again_20 : decode cX12_again 20 = .ok (.ifCond .eq 16, 3) := by decide +kernel
theorem dX12_again_23 : decode cX12_again 23 = .ok (.aload_n 0, 1) := by decide +kernel
theorem dX12_again_24 : decode cX12_again 24 = .ok (.getfield 77, 3) := by decide +kernel
theorem dX12_again_27 : decode cX12_again 27 = .ok (.iload_n 1, 1) := by decide +kernel
theorem dX12_again_28 : decode cX12_again 28 = .ok (.iaload, 1) := by decide +kernel
theorem dX12_again_29 : decode cX12_again 29 = .ok (.aload_n 0, 1) := by decide +kernel
theorem dX12_again_30 : decode cX12_again 30 = .ok (.getfield 154, 3) := by decide +kernel
theorem dX12_again_33 : decode cX12_again 33 = .ok (.if_icmp .eq 5, 3) := by decide +kernel
theorem dX12_again_36 : decode cX12_again 36 = .ok (.iconst 0, 1) := by decide +kernel
theorem dX12_again_37 : decode cX12_again 37 = .ok (.ireturn, 1) := by decide +kernel
theorem dX12_again_38 : decode cX12_again 38 = .ok (.sipush 412, 3) := by decide +kernel
theorem dX12_again_41 : decode cX12_again 41 = .ok (.iload_n 1, 1) := by decide +kernel
theorem dX12_again_42 : decode cX12_again 42 = .ok (.imul, 1) := by decide +kernel
theorem dX12_again_43 : decode cX12_again 43 = .ok (.istore_n 2, 1) := by decide +kernel
theorem dX12_again_44 : decode cX12_again 44 = .ok (.aload_n 0, 1) := by decide +kernel
theorem dX12_again_45 : decode cX12_again 45 = .ok (.aload_n 0, 1) := by decide +kernel
theorem dX12_again_46 : decode cX12_again 46 = .ok (.getfield 71, 3) := by decide +kernel
theorem dX12_again_49 : decode cX12_again 49 = .ok (.iload_n 2, 1) := by decide +kernel
theorem dX12_again_50 : decode cX12_again 50 = .ok (.iaload, 1) := by decide +kernel
theorem dX12_again_51 : decode cX12_again 51 = .ok (.putfield 97, 3) := by decide +kernel
theorem dX12_again_54 : decode cX12_again 54 = .ok (.iconst 0, 1) := by decide +kernel
theorem dX12_again_55 : decode cX12_again 55 = .ok (.istore_n 3, 1) := by decide +kernel
theorem dX12_again_56 : decode cX12_again 56 = .ok (.iload_n 3, 1) := by decide +kernel
theorem dX12_again_57 : decode cX12_again 57 = .ok (.sipush 200, 3) := by decide +kernel
theorem dX12_again_60 : decode cX12_again 60 = .ok (.if_icmp .gt 25, 3) := by decide +kernel
theorem dX12_again_63 : decode cX12_again 63 = .ok (.aload_n 0, 1) := by decide +kernel
theorem dX12_again_64 : decode cX12_again 64 = .ok (.getfield 19, 3) := by decide +kernel
theorem dX12_again_67 : decode cX12_again 67 = .ok (.iload_n 3, 1) := by decide +kernel
theorem dX12_again_68 : decode cX12_again 68 = .ok (.aload_n 0, 1) := by decide +kernel
theorem dX12_again_69 : decode cX12_again 69 = .ok (.getfield 71, 3) := by decide +kernel
theorem dX12_again_72 : decode cX12_again 72 = .ok (.iload_n 2, 1) := by decide +kernel
theorem dX12_again_73 : decode cX12_again 73 = .ok (.iconst 1, 1) := by decide +kernel
theorem dX12_again_74 : decode cX12_again 74 = .ok (.iadd, 1) := by decide +kernel
theorem dX12_again_75 : decode cX12_again 75 = .ok (.iload_n 3, 1) := by decide +kernel
theorem dX12_again_76 : decode cX12_again 76 = .ok (.iadd, 1) := by decide +kernel
theorem dX12_again_77 : decode cX12_again 77 = .ok (.iaload, 1) := by decide +kernel
theorem dX12_again_78 : decode cX12_again 78 = .ok (.iastore, 1) := by decide +kernel
theorem dX12_again_79 : decode cX12_again 79 = .ok (.iinc 3 1, 3) := by decide +kernel
theorem dX12_again_82 : decode cX12_again 82 = .ok (.goto (-26), 3) := by decide +kernel
theorem dX12_again_85 : decode cX12_again 85 = .ok (.iinc 2 202, 6) := by decide +kernel
theorem dX12_again_91 : decode cX12_again 91 = .ok (.iconst 0, 1) := by decide +kernel
theorem dX12_again_92 : decode cX12_again 92 = .ok (.istore_n 3, 1) := by decide +kernel
theorem dX12_again_93 : decode cX12_again 93 = .ok (.iload_n 3, 1) := by decide +kernel
theorem dX12_again_94 : decode cX12_again 94 = .ok (.sipush 196, 3) := by decide +kernel
theorem dX12_again_97 : decode cX12_again 97 = .ok (.if_icmp .ge 23, 3) := by decide +kernel
theorem dX12_again_100 : decode cX12_again 100 = .ok (.aload_n 0, 1) := by decide +kernel
theorem dX12_again_101 : decode cX12_again 101 = .ok (.getfield 16, 3) := by decide +kernel
theorem dX12_again_104 : decode cX12_again 104 = .ok (.iload_n 3, 1) := by decide +kernel
theorem dX12_again_105 : decode cX12_again 105 = .ok (.aload_n 0, 1) := by decide +kernel
theorem dX12_again_106 : decode cX12_again 106 = .ok (.getfield 71, 3) := by decide +kernel
theorem dX12_again_109 : decode cX12_again 109 = .ok (.iload_n 2, 1) := by decide +kernel
theorem dX12_again_110 : decode cX12_again 110 = .ok (.iload_n 3, 1) := by decide +kernel
theorem dX12_again_111 : decode cX12_again 111 = .ok (.iadd, 1) := by decide +kernel
theorem dX12_again_112 : decode cX12_again 112 = .ok (.iaload, 1) := by decide +kernel
theorem dX12_again_113 : decode cX12_again 113 = .ok (.iastore, 1) := by decide +kernel
theorem dX12_again_114 : decode cX12_again 114 = .ok (.iinc 3 1, 3) := by decide +kernel
theorem dX12_again_117 : decode cX12_again 117 = .ok (.goto (-24), 3) := by decide +kernel
theorem dX12_again_120 : decode cX12_again 120 = .ok (.iinc 2 196, 6) := by decide +kernel
theorem dX12_again_126 : decode cX12_again 126 = .ok (.iconst 0, 1) := by decide +kernel
theorem dX12_again_127 : decode cX12_again 127 = .ok (.istore_n 3, 1) := by decide +kernel
theorem dX12_again_128 : decode cX12_again 128 = .ok (.iload_n 3, 1) := by decide +kernel
theorem dX12_again_129 : decode cX12_again 129 = .ok (.bipush 14, 2) := by decide +kernel
theorem dX12_again_131 : decode cX12_again 131 = .ok (.if_icmp .ge 23, 3) := by decide +kernel
theorem dX12_again_134 : decode cX12_again 134 = .ok (.aload_n 0, 1) := by decide +kernel
theorem dX12_again_135 : decode cX12_again 135 = .ok (.getfield 9, 3) := by decide +kernel
theorem dX12_again_138 : decode cX12_again 138 = .ok (.iload_n 3, 1) := by decide +kernel
theorem dX12_again_139 : decode cX12_again 139 = .ok (.aload_n 0, 1) := by decide +kernel
theorem dX12_again_140 : decode cX12_again 140 = .ok (.getfield 71, 3) := by decide +kernel
theorem dX12_again_143 : decode cX12_again 143 = .ok (.iload_n 2, 1) := by decide +kernel
theorem dX12_again_144 : decode cX12_again 144 = .ok (.iload_n 3, 1) := by decide +kernel
theorem dX12_again_145 : decode cX12_again 145 = .ok (.iadd, 1) := by decide +kernel
theorem dX12_again_146 : decode cX12_again 146 = .ok (.iaload, 1) := by decide +kernel
theorem dX12_again_147 : decode cX12_again 147 = .ok (.iastore, 1) := by decide +kernel
theorem dX12_again_148 : decode cX12_again 148 = .ok (.iinc 3 1, 3) := by decide +kernel
theorem dX12_again_151 : decode cX12_again 151 = .ok (.goto (-23), 3) := by decide +kernel
theorem dX12_again_154 : decode cX12_again 154 = .ok (.iconst 1, 1) := by decide +kernel
theorem dX12_again_155 : decode cX12_again 155 = .ok (.ireturn, 1) := by decide +kernel
set_option maxHeartbeats 4000000 in
set_option maxRecDepth 20000 in
theorem b_m_again_b128 {X : Cx} {d : Nat} (hX : Ok M_m_again (d + 1) X) {r : Int32 × Mem} (hr : RetZ M_m_again X r.1 r.2) : ∀ (n : Nat) (x2 : Int32) (x3 : Int32) (μ : Mem) (dy : Nat → Nat), f_m_again_b128 n x2 x3 μ = some r → AW X 128 [(0, .ref (gA (xG X) 111)), (2, .int x2), (3, .int x3)] [] μ dy := by
  intro n
  induction n with
  | zero => intro x2 x3 μ dy hf; exact nomatch hf
  | succ n ih =>
    intro x2 x3 μ dy hf
    rw [f_m_again_b128] at hf
    refine r_iload_n hX dX12_again_128 2 rfl ?_
    refine r_bipush hX (14 : Int32) dX12_again_129 rfl ?_
    refine r_icmp_ge hX 154 dX12_again_131 rfl (fun hc18 => ?_) (fun hc18 => ?_)
    · rw [if_pos hc18] at hf
      refine r_iconst hX (1 : Int32) dX12_again_154 rfl ?_
      obtain ⟨b19, hf⟩ := chk_eq hf
      exact fin_Z hf hr _ _ _ (zb_nar b19) dX12_again_155
    · rw [if_neg hc18] at hf
      refine r_aload_n hX dX12_again_134 0 rfl ?_
      refine r_get hX fl_X12_9 (w_111 _ _ _) rfl dX12_again_135 ?_
      refine r_iload_n hX dX12_again_138 2 rfl ?_
      refine r_aload_n hX dX12_again_139 0 rfl ?_
      refine r_get hX fl_X12_71 (w_111 _ _ _) rfl dX12_again_140 ?_
      refine r_iload_n hX dX12_again_143 1 rfl ?_
      refine r_iload_n hX dX12_again_144 2 rfl ?_
      refine r_iadd hX dX12_again_145 ?_
      obtain ⟨b20, hf⟩ := chk_eq hf
      refine r_iald hX (w_131 _ _ _) (inb_in b20) dX12_again_146 ?_
      obtain ⟨b21, hf⟩ := chk_eq hf
      obtain ⟨μ22, e23, hf⟩ := bnd_eq hf
      refine r_iast hX (w_112 _ _ _) (inb_in b21) (s_112 _ _ _ _ _) e23 rfl dX12_again_147 ?_
      refine r_iinc hX (x3 + (1 : Int32)) dX12_again_148 2 rfl rfl rfl (ls' := [(3, .int (x3 + (1 : Int32))), (0, .ref (gA (xG X) 111)), (2, .int x2)]) rfl ?_
      refine r_goto hX 128 dX12_again_151 rfl ?_
      refine r_weak [1, 2, 0] rfl ?_
      exact ih _ _ _ _ hf
set_option maxHeartbeats 4000000 in
set_option maxRecDepth 20000 in
theorem b_m_again_b93 {X : Cx} {d : Nat} (hX : Ok M_m_again (d + 1) X) {r : Int32 × Mem} (hr : RetZ M_m_again X r.1 r.2) : ∀ (n : Nat) (x2 : Int32) (x3 : Int32) (μ : Mem) (dy : Nat → Nat), f_m_again_b93 n x2 x3 μ = some r → AW X 93 [(0, .ref (gA (xG X) 111)), (2, .int x2), (3, .int x3)] [] μ dy := by
  intro n
  induction n with
  | zero => intro x2 x3 μ dy hf; exact nomatch hf
  | succ n ih =>
    intro x2 x3 μ dy hf
    rw [f_m_again_b93] at hf
    refine r_iload_n hX dX12_again_93 2 rfl ?_
    refine r_sipush hX (196 : Int32) dX12_again_94 rfl ?_
    refine r_icmp_ge hX 120 dX12_again_97 rfl (fun hc17 => ?_) (fun hc17 => ?_)
    · rw [if_pos hc17] at hf
      refine r_iincW hX (x2 + (196 : Int32)) dX12_again_120 1 rfl rfl rfl (ls' := [(2, .int (x2 + (196 : Int32))), (0, .ref (gA (xG X) 111)), (3, .int x3)]) rfl ?_
      refine r_iconst hX (0 : Int32) dX12_again_126 rfl ?_
      refine r_istore_n hX dX12_again_127 rfl (ls' := [(3, .int (0 : Int32)), (2, .int (x2 + (196 : Int32))), (0, .ref (gA (xG X) 111))]) rfl ?_
      refine r_weak [2, 1, 0] rfl ?_
      exact b_m_again_b128 hX hr FU _ _ _ _ hf
    · rw [if_neg hc17] at hf
      refine r_aload_n hX dX12_again_100 0 rfl ?_
      refine r_get hX fl_X12_16 (w_111 _ _ _) rfl dX12_again_101 ?_
      refine r_iload_n hX dX12_again_104 2 rfl ?_
      refine r_aload_n hX dX12_again_105 0 rfl ?_
      refine r_get hX fl_X12_71 (w_111 _ _ _) rfl dX12_again_106 ?_
      refine r_iload_n hX dX12_again_109 1 rfl ?_
      refine r_iload_n hX dX12_again_110 2 rfl ?_
      refine r_iadd hX dX12_again_111 ?_
      obtain ⟨b24, hf⟩ := chk_eq hf
      refine r_iald hX (w_131 _ _ _) (inb_in b24) dX12_again_112 ?_
      obtain ⟨b25, hf⟩ := chk_eq hf
      obtain ⟨μ26, e27, hf⟩ := bnd_eq hf
      refine r_iast hX (w_114 _ _ _) (inb_in b25) (s_114 _ _ _ _ _) e27 rfl dX12_again_113 ?_
      refine r_iinc hX (x3 + (1 : Int32)) dX12_again_114 2 rfl rfl rfl (ls' := [(3, .int (x3 + (1 : Int32))), (0, .ref (gA (xG X) 111)), (2, .int x2)]) rfl ?_
      refine r_goto hX 93 dX12_again_117 rfl ?_
      refine r_weak [1, 2, 0] rfl ?_
      exact ih _ _ _ _ hf
set_option maxHeartbeats 4000000 in
set_option maxRecDepth 20000 in
theorem b_m_again_b56 {X : Cx} {d : Nat} (hX : Ok M_m_again (d + 1) X) {r : Int32 × Mem} (hr : RetZ M_m_again X r.1 r.2) : ∀ (n : Nat) (x2 : Int32) (x3 : Int32) (μ : Mem) (dy : Nat → Nat), f_m_again_b56 n x2 x3 μ = some r → AW X 56 [(0, .ref (gA (xG X) 111)), (2, .int x2), (3, .int x3)] [] μ dy := by
  intro n
  induction n with
  | zero => intro x2 x3 μ dy hf; exact nomatch hf
  | succ n ih =>
    intro x2 x3 μ dy hf
    rw [f_m_again_b56] at hf
    refine r_iload_n hX dX12_again_56 2 rfl ?_
    refine r_sipush hX (200 : Int32) dX12_again_57 rfl ?_
    refine r_icmp_gt hX 85 dX12_again_60 rfl (fun hc16 => ?_) (fun hc16 => ?_)
    · rw [if_pos hc16] at hf
      refine r_iincW hX (x2 + (202 : Int32)) dX12_again_85 1 rfl rfl rfl (ls' := [(2, .int (x2 + (202 : Int32))), (0, .ref (gA (xG X) 111)), (3, .int x3)]) rfl ?_
      refine r_iconst hX (0 : Int32) dX12_again_91 rfl ?_
      refine r_istore_n hX dX12_again_92 rfl (ls' := [(3, .int (0 : Int32)), (2, .int (x2 + (202 : Int32))), (0, .ref (gA (xG X) 111))]) rfl ?_
      refine r_weak [2, 1, 0] rfl ?_
      exact b_m_again_b93 hX hr FU _ _ _ _ hf
    · rw [if_neg hc16] at hf
      refine r_aload_n hX dX12_again_63 0 rfl ?_
      refine r_get hX fl_X12_19 (w_111 _ _ _) rfl dX12_again_64 ?_
      refine r_iload_n hX dX12_again_67 2 rfl ?_
      refine r_aload_n hX dX12_again_68 0 rfl ?_
      refine r_get hX fl_X12_71 (w_111 _ _ _) rfl dX12_again_69 ?_
      refine r_iload_n hX dX12_again_72 1 rfl ?_
      refine r_iconst hX (1 : Int32) dX12_again_73 rfl ?_
      refine r_iadd hX dX12_again_74 ?_
      refine r_iload_n hX dX12_again_75 2 rfl ?_
      refine r_iadd hX dX12_again_76 ?_
      obtain ⟨b28, hf⟩ := chk_eq hf
      refine r_iald hX (w_131 _ _ _) (inb_in b28) dX12_again_77 ?_
      obtain ⟨b29, hf⟩ := chk_eq hf
      obtain ⟨μ30, e31, hf⟩ := bnd_eq hf
      refine r_iast hX (w_115 _ _ _) (inb_in b29) (s_115 _ _ _ _ _) e31 rfl dX12_again_78 ?_
      refine r_iinc hX (x3 + (1 : Int32)) dX12_again_79 2 rfl rfl rfl (ls' := [(3, .int (x3 + (1 : Int32))), (0, .ref (gA (xG X) 111)), (2, .int x2)]) rfl ?_
      refine r_goto hX 56 dX12_again_82 rfl ?_
      refine r_weak [1, 2, 0] rfl ?_
      exact ih _ _ _ _ hf
set_option maxHeartbeats 4000000 in
set_option maxRecDepth 20000 in
theorem c_m_again {G : Gx} {d : Nat} {x1 : Int32} {μ : Mem} {r : Int32 × Mem} (hf : f_m_again x1 μ = some r) : Con G M_m_again (d + 1) [.ref (gA G 111), .int x1] μ (some (.int r.1), r.2) := by
  refine Con.ofZ ⟨rfl, rfl, Nat.le_of_ble_eq_true rfl⟩ rfl (fun X hG hX hr dy => ?_)
  subst hG
  show AW X 0 [(0, .ref (gA (xG X) 111)), (1, .int x1)] [] μ dy
  unfold f_m_again at hf
  refine r_aload_n hX dX12_again_0 0 rfl ?_
  refine r_iconst hX (0 : Int32) dX12_again_1 rfl ?_
  obtain ⟨μ1, e2, hf⟩ := bnd_eq hf
  refine r_put hX fl_X12_80 ft_X12_11 (w_111 _ _ _) rfl rfl rfl (s_111_11 _ _ _ _) e2 rfl dX12_again_2 ?_
  refine r_iload_n hX dX12_again_5 1 rfl ?_
  refine r_iconst hX (0 : Int32) dX12_again_6 rfl ?_
  refine r_iconst hX (1 : Int32) dX12_again_7 rfl ?_
  obtain ⟨v5, μ3, h4, hf⟩ := bd2_eq hf
  refine r_callSI (Ok.le hX (by omega)) (c_m_in (d := d)  h4) cs_X12_89 (st := []) rfl rfl rfl dX12_again_8 (fun dy => ?_)
  refine r_if_eq hX 36 dX12_again_11 rfl (fun hc6 => ?_) (fun hc6 => ?_)
  · rw [if_pos hc6] at hf
    refine r_iconst hX (0 : Int32) dX12_again_36 rfl ?_
    obtain ⟨b7, hf⟩ := chk_eq hf
    exact fin_Z hf hr _ _ _ (zb_nar b7) dX12_again_37
  · rw [if_neg hc6] at hf
    refine r_aload_n hX dX12_again_14 0 rfl ?_
    refine r_get hX fl_X12_74 (w_111 _ _ _) rfl dX12_again_15 ?_
    refine r_iload_n hX dX12_again_18 1 rfl ?_
    obtain ⟨b8, hf⟩ := chk_eq hf
    refine r_zald hX (w_132 _ _ _) (inb_in b8) dX12_again_19 ?_
    refine r_if_eq hX 36 dX12_again_20 rfl (fun hc9 => ?_) (fun hc9 => ?_)
    · rw [if_pos hc9] at hf
      refine r_iconst hX (0 : Int32) dX12_again_36 rfl ?_
      obtain ⟨b10, hf⟩ := chk_eq hf
      exact fin_Z hf hr _ _ _ (zb_nar b10) dX12_again_37
    · rw [if_neg hc9] at hf
      refine r_aload_n hX dX12_again_23 0 rfl ?_
      refine r_get hX fl_X12_77 (w_111 _ _ _) rfl dX12_again_24 ?_
      refine r_iload_n hX dX12_again_27 1 rfl ?_
      obtain ⟨b11, hf⟩ := chk_eq hf
      refine r_iald hX (w_133 _ _ _) (inb_in b11) dX12_again_28 ?_
      refine r_aload_n hX dX12_again_29 0 rfl ?_
      refine r_get hX fl_X12_154 (w_111 _ _ _) rfl dX12_again_30 ?_
      refine r_icmp_eq hX 38 dX12_again_33 rfl (fun hc12 => ?_) (fun hc12 => ?_)
      · rw [if_pos hc12] at hf
        refine r_sipush hX (412 : Int32) dX12_again_38 rfl ?_
        refine r_iload_n hX dX12_again_41 1 rfl ?_
        refine r_imul hX dX12_again_42 ?_
        refine r_istore_n hX dX12_again_43 rfl (ls' := [(2, .int ((412 : Int32) * x1)), (0, .ref (gA (xG X) 111)), (1, .int x1)]) rfl ?_
        refine r_aload_n hX dX12_again_44 1 rfl ?_
        refine r_aload_n hX dX12_again_45 1 rfl ?_
        refine r_get hX fl_X12_71 (w_111 _ _ _) rfl dX12_again_46 ?_
        refine r_iload_n hX dX12_again_49 0 rfl ?_
        obtain ⟨b13, hf⟩ := chk_eq hf
        refine r_iald hX (w_131 _ _ _) (inb_in b13) dX12_again_50 ?_
        obtain ⟨μ14, e15, hf⟩ := bnd_eq hf
        refine r_put hX fl_X12_97 ft_X12_6 (w_111 _ _ _) rfl rfl rfl (s_111_6 _ _ _ _) e15 rfl dX12_again_51 ?_
        refine r_iconst hX (0 : Int32) dX12_again_54 rfl ?_
        refine r_istore_n hX dX12_again_55 rfl (ls' := [(3, .int (0 : Int32)), (2, .int ((412 : Int32) * x1)), (0, .ref (gA (xG X) 111)), (1, .int x1)]) rfl ?_
        refine r_weak [2, 1, 0] rfl ?_
        exact b_m_again_b56 hX hr FU _ _ _ _ hf
      · rw [if_neg hc12] at hf
        refine r_iconst hX (0 : Int32) dX12_again_36 rfl ?_
        obtain ⟨b32, hf⟩ := chk_eq hf
        exact fin_Z hf hr _ _ _ (zb_nar b32) dX12_again_37
theorem dX12_count_0 : decode cX12_count 0 = .ok (.aload_n 0, 1) := by decide +kernel
theorem dX12_count_1 : decode cX12_count 1 = .ok (.iconst 0, 1) := by decide +kernel
theorem dX12_count_2 : decode cX12_count 2 = .ok (.putfield 80, 3) := by decide +kernel
theorem dX12_count_5 : decode cX12_count 5 = .ok (.iconst 0, 1) := by decide +kernel
theorem dX12_count_6 : decode cX12_count 6 = .ok (.istore_n 2, 1) := by decide +kernel
theorem dX12_count_7 : decode cX12_count 7 = .ok (.iload_n 1, 1) := by decide +kernel
theorem dX12_count_8 : decode cX12_count 8 = .ok (.tableswitch 180 0 7 #[48, 53, 58, 66, 71, 101, 106, 111], 48) := by decide +kernel
theorem dX12_count_56 : decode cX12_count 56 = .ok (.aload_n 0, 1) := by decide +kernel
theorem dX12_count_57 : decode cX12_count 57 = .ok (.getfield 86, 3) := by decide +kernel
theorem dX12_count_60 : decode cX12_count 60 = .ok (.ireturn, 1) := by decide +kernel
theorem dX12_count_61 : decode cX12_count 61 = .ok (.aload_n 0, 1) := by decide +kernel
theorem dX12_count_62 : decode cX12_count 62 = .ok (.getfield 97, 3) := by decide +kernel
theorem dX12_count_65 : decode cX12_count 65 = .ok (.ireturn, 1) := by decide +kernel
theorem dX12_count_66 : decode cX12_count 66 = .ok (.aload_n 0, 1) := by decide +kernel
theorem dX12_count_67 : decode cX12_count 67 = .ok (.invokevirtual 137, 3) := by decide +kernel
theorem dX12_count_70 : decode cX12_count 70 = .ok (.invokestatic 244, 3) := by decide +kernel
theorem dX12_count_73 : decode cX12_count 73 = .ok (.ireturn, 1) := by decide +kernel
theorem dX12_count_74 : decode cX12_count 74 = .ok (.aload_n 0, 1) := by decide +kernel
theorem dX12_count_75 : decode cX12_count 75 = .ok (.getfield 140, 3) := by decide +kernel
theorem dX12_count_78 : decode cX12_count 78 = .ok (.ireturn, 1) := by decide +kernel
theorem dX12_count_79 : decode cX12_count 79 = .ok (.aload_n 0, 1) := by decide +kernel
theorem dX12_count_80 : decode cX12_count 80 = .ok (.getfield 61, 3) := by decide +kernel
theorem dX12_count_83 : decode cX12_count 83 = .ok (.iconst 0, 1) := by decide +kernel
theorem dX12_count_84 : decode cX12_count 84 = .ok (.iaload, 1) := by decide +kernel
theorem dX12_count_85 : decode cX12_count 85 = .ok (.ifCond .le 7, 3) := by decide +kernel
theorem dX12_count_88 : decode cX12_count 88 = .ok (.iconst 1, 1) := by decide +kernel
theorem dX12_count_89 : decode cX12_count 89 = .ok (.goto 4, 3) := by decide +kernel
theorem dX12_count_92 : decode cX12_count 92 = .ok (.iconst 0, 1) := by decide +kernel
theorem dX12_count_93 : decode cX12_count 93 = .ok (.aload_n 0, 1) := by decide +kernel
theorem dX12_count_94 : decode cX12_count 94 = .ok (.getfield 61, 3) := by decide +kernel
theorem dX12_count_97 : decode cX12_count 97 = .ok (.iconst 1, 1) := by decide +kernel
theorem dX12_count_98 : decode cX12_count 98 = .ok (.iaload, 1) := by decide +kernel
theorem dX12_count_99 : decode cX12_count 99 = .ok (.ifCond .le 7, 3) := by decide +kernel
theorem dX12_count_102 : decode cX12_count 102 = .ok (.iconst 2, 1) := by decide +kernel
theorem dX12_count_103 : decode cX12_count 103 = .ok (.goto 4, 3) := by decide +kernel
theorem dX12_count_106 : decode cX12_count 106 = .ok (.iconst 0, 1) := by decide +kernel
theorem dX12_count_107 : decode cX12_count 107 = .ok (.iadd, 1) := by decide +kernel
theorem dX12_count_108 : decode cX12_count 108 = .ok (.ireturn, 1) := by decide +kernel
theorem dX12_count_109 : decode cX12_count 109 = .ok (.aload_n 0, 1) := by decide +kernel
theorem dX12_count_110 : decode cX12_count 110 = .ok (.getfield 83, 3) := by decide +kernel
theorem dX12_count_113 : decode cX12_count 113 = .ok (.ireturn, 1) := by decide +kernel
theorem dX12_count_114 : decode cX12_count 114 = .ok (.aload_n 0, 1) := by decide +kernel
theorem dX12_count_115 : decode cX12_count 115 = .ok (.getfield 100, 3) := by decide +kernel
theorem dX12_count_118 : decode cX12_count 118 = .ok (.ireturn, 1) := by decide +kernel
theorem dX12_count_119 : decode cX12_count 119 = .ok (.iconst 0, 1) := by decide +kernel
theorem dX12_count_120 : decode cX12_count 120 = .ok (.istore_n 3, 1) := by decide +kernel
theorem dX12_count_121 : decode cX12_count 121 = .ok (.iload_n 3, 1) := by decide +kernel
theorem dX12_count_122 : decode cX12_count 122 = .ok (.aload_n 0, 1) := by decide +kernel
theorem dX12_count_123 : decode cX12_count 123 = .ok (.getfield 86, 3) := by decide +kernel
theorem dX12_count_126 : decode cX12_count 126 = .ok (.if_icmp .ge 60, 3) := by decide +kernel
theorem dX12_count_129 : decode cX12_count 129 = .ok (.iconst 0, 1) := by decide +kernel
theorem dX12_count_130 : decode cX12_count 130 = .ok (.istore 4, 2) := by decide +kernel
theorem dX12_count_132 : decode cX12_count 132 = .ok (.iload 4, 2) := by decide +kernel
theorem dX12_count_134 : decode cX12_count 134 = .ok (.iload_n 3, 1) := by decide +kernel
theorem dX12_count_135 : decode cX12_count 135 = .ok (.if_icmp .ge 45, 3) := by decide +kernel
theorem dX12_count_138 : decode cX12_count 138 = .ok (.iload_n 2, 1) := by decide +kernel
theorem dX12_count_139 : decode cX12_count 139 = .ok (.aload_n 0, 1) := by decide +kernel
theorem dX12_count_140 : decode cX12_count 140 = .ok (.getfield 16, 3) := by decide +kernel
theorem dX12_count_143 : decode cX12_count 143 = .ok (.bipush 14, 2) := by decide +kernel
theorem dX12_count_145 : decode cX12_count 145 = .ok (.iload_n 3, 1) := by decide +kernel
theorem dX12_count_146 : decode cX12_count 146 = .ok (.imul, 1) := by decide +kernel
theorem dX12_count_147 : decode cX12_count 147 = .ok (.iload 4, 2) := by decide +kernel
theorem dX12_count_149 : decode cX12_count 149 = .ok (.iadd, 1) := by decide +kernel
theorem dX12_count_150 : decode cX12_count 150 = .ok (.iaload, 1) := by decide +kernel
theorem dX12_count_151 : decode cX12_count 151 = .ok (.aload_n 0, 1) := by decide +kernel
theorem dX12_count_152 : decode cX12_count 152 = .ok (.getfield 16, 3) := by decide +kernel
theorem dX12_count_155 : decode cX12_count 155 = .ok (.bipush 14, 2) := by decide +kernel
theorem dX12_count_157 : decode cX12_count 157 = .ok (.iload 4, 2) := by decide +kernel
theorem dX12_count_159 : decode cX12_count 159 = .ok (.imul, 1) := by decide +kernel
theorem dX12_count_160 : decode cX12_count 160 = .ok (.iload_n 3, 1) := by decide +kernel
theorem dX12_count_161 : decode cX12_count 161 = .ok (.iadd, 1) := by decide +kernel
theorem dX12_count_162 : decode cX12_count 162 = .ok (.iaload, 1) := by decide +kernel
theorem dX12_count_163 : decode cX12_count 163 = .ok (.iadd, 1) := by decide +kernel
theorem dX12_count_164 : decode cX12_count 164 = .ok (.ifCond .le 7, 3) := by decide +kernel
theorem dX12_count_167 : decode cX12_count 167 = .ok (.iconst 1, 1) := by decide +kernel
theorem dX12_count_168 : decode cX12_count 168 = .ok (.goto 4, 3) := by decide +kernel
theorem dX12_count_171 : decode cX12_count 171 = .ok (.iconst 0, 1) := by decide +kernel
theorem dX12_count_172 : decode cX12_count 172 = .ok (.iadd, 1) := by decide +kernel
theorem dX12_count_173 : decode cX12_count 173 = .ok (.istore_n 2, 1) := by decide +kernel
theorem dX12_count_174 : decode cX12_count 174 = .ok (.iinc 4 1, 3) := by decide +kernel
theorem dX12_count_177 : decode cX12_count 177 = .ok (.goto (-45), 3) := by decide +kernel
theorem dX12_count_180 : decode cX12_count 180 = .ok (.iinc 3 1, 3) := by decide +kernel
theorem dX12_count_183 : decode cX12_count 183 = .ok (.goto (-62), 3) := by decide +kernel
theorem dX12_count_186 : decode cX12_count 186 = .ok (.iload_n 2, 1) := by decide +kernel
theorem dX12_count_187 : decode cX12_count 187 = .ok (.ireturn, 1) := by decide +kernel
theorem dX12_count_188 : decode cX12_count 188 = .ok (.iconst (-1), 1) := by decide +kernel
theorem dX12_count_189 : decode cX12_count 189 = .ok (.ireturn, 1) := by decide +kernel
set_option maxHeartbeats 4000000 in
set_option maxRecDepth 20000 in
theorem b_m_count_b132 {X : Cx} {d : Nat} (hX : Ok M_m_count (d + 1) X) {r : Int32 × Mem} (hr : RetI M_m_count X r.1 r.2) {k121 : Int32 → Int32 → Mem → Option (Int32 × Mem)} (hk121 : ∀ (x2 : Int32) (x3 : Int32) (μ : Mem) (dy : Nat → Nat), k121 x2 x3 μ = some r → AW X 121 [(0, .ref (gA (xG X) 111)), (2, .int x2), (3, .int x3)] [] μ dy) : ∀ (n : Nat) (x2 : Int32) (x3 : Int32) (x4 : Int32) (μ : Mem) (dy : Nat → Nat), f_m_count_b132 k121 n x2 x3 x4 μ = some r → AW X 132 [(0, .ref (gA (xG X) 111)), (2, .int x2), (3, .int x3), (4, .int x4)] [] μ dy := by
  intro n
  induction n with
  | zero => intro x2 x3 x4 μ dy hf; exact nomatch hf
  | succ n ih =>
    intro x2 x3 x4 μ dy hf
    rw [f_m_count_b132] at hf
    refine r_iload hX dX12_count_132 3 rfl ?_
    refine r_iload_n hX dX12_count_134 2 rfl ?_
    refine r_icmp_ge hX 180 dX12_count_135 rfl (fun hc28 => ?_) (fun hc28 => ?_)
    · rw [if_pos hc28] at hf
      refine r_iinc hX (x3 + (1 : Int32)) dX12_count_180 2 rfl rfl rfl (ls' := [(3, .int (x3 + (1 : Int32))), (0, .ref (gA (xG X) 111)), (2, .int x2), (4, .int x4)]) rfl ?_
      refine r_goto hX 121 dX12_count_183 rfl ?_
      refine r_weak [1, 2, 0] rfl ?_
      exact hk121 _ _ _ _ hf
    · rw [if_neg hc28] at hf
      refine r_iload_n hX dX12_count_138 1 rfl ?_
      refine r_aload_n hX dX12_count_139 0 rfl ?_
      refine r_get hX fl_X12_16 (w_111 _ _ _) rfl dX12_count_140 ?_
      refine r_bipush hX (14 : Int32) dX12_count_143 rfl ?_
      refine r_iload_n hX dX12_count_145 2 rfl ?_
      refine r_imul hX dX12_count_146 ?_
      refine r_iload hX dX12_count_147 3 rfl ?_
      refine r_iadd hX dX12_count_149 ?_
      obtain ⟨b29, hf⟩ := chk_eq hf
      refine r_iald hX (w_114 _ _ _) (inb_in b29) dX12_count_150 ?_
      refine r_aload_n hX dX12_count_151 0 rfl ?_
      refine r_get hX fl_X12_16 (w_111 _ _ _) rfl dX12_count_152 ?_
      refine r_bipush hX (14 : Int32) dX12_count_155 rfl ?_
      refine r_iload hX dX12_count_157 3 rfl ?_
      refine r_imul hX dX12_count_159 ?_
      refine r_iload_n hX dX12_count_160 2 rfl ?_
      refine r_iadd hX dX12_count_161 ?_
      obtain ⟨b30, hf⟩ := chk_eq hf
      refine r_iald hX (w_114 _ _ _) (inb_in b30) dX12_count_162 ?_
      refine r_iadd hX dX12_count_163 ?_
      obtain ⟨v31, e32, hf⟩ := bnd_eq hf
      have J33 : AW X 172 [(0, .ref (gA (xG X) 111)), (2, .int x2), (3, .int x3), (4, .int x4)] [.int v31, .int x2] μ dy := by
        refine r_iadd hX dX12_count_172 ?_
        refine r_istore_n hX dX12_count_173 rfl (ls' := [(2, .int (x2 + v31)), (0, .ref (gA (xG X) 111)), (3, .int x3), (4, .int x4)]) rfl ?_
        refine r_iinc hX (x4 + (1 : Int32)) dX12_count_174 3 rfl rfl rfl (ls' := [(4, .int (x4 + (1 : Int32))), (2, .int (x2 + v31)), (0, .ref (gA (xG X) 111)), (3, .int x3)]) rfl ?_
        refine r_goto hX 132 dX12_count_177 rfl ?_
        refine r_weak [2, 1, 3, 0] rfl ?_
        exact ih _ _ _ _ _ hf
      refine r_if_le hX 171 dX12_count_164 rfl (fun hc34 => ?_) (fun hc34 => ?_)
      · refine r_iconst hX (0 : Int32) dX12_count_171 rfl ?_
        exact r_topI (e32.trans (by rw [if_pos hc34])) J33
      · refine r_iconst hX (1 : Int32) dX12_count_167 rfl ?_
        refine r_goto hX 172 dX12_count_168 rfl ?_
        exact r_topI (e32.trans (by rw [if_neg hc34])) J33
set_option maxHeartbeats 4000000 in
set_option maxRecDepth 20000 in
theorem b_m_count_b121 {X : Cx} {d : Nat} (hX : Ok M_m_count (d + 1) X) {r : Int32 × Mem} (hr : RetI M_m_count X r.1 r.2) : ∀ (n : Nat) (x2 : Int32) (x3 : Int32) (μ : Mem) (dy : Nat → Nat), f_m_count_b121 n x2 x3 μ = some r → AW X 121 [(0, .ref (gA (xG X) 111)), (2, .int x2), (3, .int x3)] [] μ dy := by
  intro n
  induction n with
  | zero => intro x2 x3 μ dy hf; exact nomatch hf
  | succ n ih =>
    intro x2 x3 μ dy hf
    rw [f_m_count_b121] at hf
    refine r_iload_n hX dX12_count_121 2 rfl ?_
    refine r_aload_n hX dX12_count_122 0 rfl ?_
    refine r_get hX fl_X12_86 (w_111 _ _ _) rfl dX12_count_123 ?_
    refine r_icmp_ge hX 186 dX12_count_126 rfl (fun hc27 => ?_) (fun hc27 => ?_)
    · rw [if_pos hc27] at hf
      refine r_iload_n hX dX12_count_186 1 rfl ?_
      exact fin_I hf hr _ _ _ dX12_count_187
    · rw [if_neg hc27] at hf
      refine r_iconst hX (0 : Int32) dX12_count_129 rfl ?_
      refine r_istore hX dX12_count_130 rfl (ls' := [(4, .int (0 : Int32)), (0, .ref (gA (xG X) 111)), (2, .int x2), (3, .int x3)]) rfl ?_
      refine r_weak [1, 2, 3, 0] rfl ?_
      exact b_m_count_b132 hX hr ih FU _ _ _ _ _ hf
set_option maxHeartbeats 4000000 in
set_option maxRecDepth 20000 in
theorem c_m_count {G : Gx} {d : Nat} {x1 : Int32} {μ : Mem} {r : Int32 × Mem} (hf : f_m_count x1 μ = some r) : Con G M_m_count (d + 1) [.ref (gA G 111), .int x1] μ (some (.int r.1), r.2) := by
  refine Con.ofI ⟨rfl, rfl, Nat.le_of_ble_eq_true rfl⟩ rfl rfl (fun X hG hX hr dy => ?_)
  subst hG
  show AW X 0 [(0, .ref (gA (xG X) 111)), (1, .int x1)] [] μ dy
  unfold f_m_count at hf
  refine r_aload_n hX dX12_count_0 0 rfl ?_
  refine r_iconst hX (0 : Int32) dX12_count_1 rfl ?_
  obtain ⟨μ1, e2, hf⟩ := bnd_eq hf
  refine r_put hX fl_X12_80 ft_X12_11 (w_111 _ _ _) rfl rfl rfl (s_111_11 _ _ _ _) e2 rfl dX12_count_2 ?_
  refine r_iconst hX (0 : Int32) dX12_count_5 rfl ?_
  refine r_istore_n hX dX12_count_6 rfl (ls' := [(2, .int (0 : Int32)), (0, .ref (gA (xG X) 111)), (1, .int x1)]) rfl ?_
  refine r_iload_n hX dX12_count_7 2 rfl ?_
  by_cases hc3 : x1 = 0
  · rw [if_pos hc3] at hf
    refine r_tabIn hX (off := 48) 56 dX12_count_8 (by rw [hc3]; decide) (by rw [hc3]; decide) (by rw [hc3]; rfl) rfl ?_
    refine r_aload_n hX dX12_count_56 1 rfl ?_
    refine r_get hX fl_X12_86 (w_111 _ _ _) rfl dX12_count_57 ?_
    exact fin_I hf hr _ _ _ dX12_count_60
  · rw [if_neg hc3] at hf
    by_cases hc4 : x1 = 1
    · rw [if_pos hc4] at hf
      refine r_tabIn hX (off := 53) 61 dX12_count_8 (by rw [hc4]; decide) (by rw [hc4]; decide) (by rw [hc4]; rfl) rfl ?_
      refine r_aload_n hX dX12_count_61 1 rfl ?_
      refine r_get hX fl_X12_97 (w_111 _ _ _) rfl dX12_count_62 ?_
      exact fin_I hf hr _ _ _ dX12_count_65
    · rw [if_neg hc4] at hf
      by_cases hc5 : x1 = 2
      · rw [if_pos hc5] at hf
        refine r_tabIn hX (off := 58) 66 dX12_count_8 (by rw [hc5]; decide) (by rw [hc5]; decide) (by rw [hc5]; rfl) rfl ?_
        refine r_aload_n hX dX12_count_66 1 rfl ?_
        obtain ⟨v8, μ6, h7, hf⟩ := bd2_eq hf
        refine r_callVI (Ok.le hX (by omega)) (c_m_now (d := d)  h7) cv_X12_137 (w_111 _ _ _) rfl rfl (st := []) rfl rfl rfl dX12_count_67 (fun dy => ?_)
        obtain ⟨v11, μ9, h10, hf⟩ := bd2_eq hf
        refine r_callSI (Ok.le hX (by omega)) (c_jd_bitCount (d := d)  h10) cs_X12_244 (st := []) rfl rfl rfl dX12_count_70 (fun dy => ?_)
        exact fin_I hf hr _ _ _ dX12_count_73
      · rw [if_neg hc5] at hf
        by_cases hc12 : x1 = 3
        · rw [if_pos hc12] at hf
          refine r_tabIn hX (off := 66) 74 dX12_count_8 (by rw [hc12]; decide) (by rw [hc12]; decide) (by rw [hc12]; rfl) rfl ?_
          refine r_aload_n hX dX12_count_74 1 rfl ?_
          refine r_get hX fl_X12_140 (w_111 _ _ _) rfl dX12_count_75 ?_
          exact fin_I hf hr _ _ _ dX12_count_78
        · rw [if_neg hc12] at hf
          by_cases hc13 : x1 = 4
          · rw [if_pos hc13] at hf
            refine r_tabIn hX (off := 71) 79 dX12_count_8 (by rw [hc13]; decide) (by rw [hc13]; decide) (by rw [hc13]; rfl) rfl ?_
            refine r_aload_n hX dX12_count_79 1 rfl ?_
            refine r_get hX fl_X12_61 (w_111 _ _ _) rfl dX12_count_80 ?_
            refine r_iconst hX (0 : Int32) dX12_count_83 rfl ?_
            obtain ⟨b14, hf⟩ := chk_eq hf
            refine r_iald hX (w_129 _ _ _) (inb_in b14) dX12_count_84 ?_
            obtain ⟨v15, e16, hf⟩ := bnd_eq hf
            have J17 : AW X 93 [(2, .int (0 : Int32)), (0, .ref (gA (xG X) 111)), (1, .int x1)] [.int v15] μ1 dy := by
              refine r_aload_n hX dX12_count_93 1 rfl ?_
              refine r_get hX fl_X12_61 (w_111 _ _ _) rfl dX12_count_94 ?_
              refine r_iconst hX (1 : Int32) dX12_count_97 rfl ?_
              obtain ⟨b18, hf⟩ := chk_eq hf
              refine r_iald hX (w_129 _ _ _) (inb_in b18) dX12_count_98 ?_
              obtain ⟨v19, e20, hf⟩ := bnd_eq hf
              have J21 : AW X 107 [(2, .int (0 : Int32)), (0, .ref (gA (xG X) 111)), (1, .int x1)] [.int v19, .int v15] μ1 dy := by
                refine r_iadd hX dX12_count_107 ?_
                exact fin_I hf hr _ _ _ dX12_count_108
              refine r_if_le hX 106 dX12_count_99 rfl (fun hc22 => ?_) (fun hc22 => ?_)
              · refine r_iconst hX (0 : Int32) dX12_count_106 rfl ?_
                exact r_topI (e20.trans (by rw [if_pos hc22])) J21
              · refine r_iconst hX (2 : Int32) dX12_count_102 rfl ?_
                refine r_goto hX 107 dX12_count_103 rfl ?_
                exact r_topI (e20.trans (by rw [if_neg hc22])) J21
            refine r_if_le hX 92 dX12_count_85 rfl (fun hc23 => ?_) (fun hc23 => ?_)
            · refine r_iconst hX (0 : Int32) dX12_count_92 rfl ?_
              exact r_topI (e16.trans (by rw [if_pos hc23])) J17
            · refine r_iconst hX (1 : Int32) dX12_count_88 rfl ?_
              refine r_goto hX 93 dX12_count_89 rfl ?_
              exact r_topI (e16.trans (by rw [if_neg hc23])) J17
          · rw [if_neg hc13] at hf
            by_cases hc24 : x1 = 5
            · rw [if_pos hc24] at hf
              refine r_tabIn hX (off := 101) 109 dX12_count_8 (by rw [hc24]; decide) (by rw [hc24]; decide) (by rw [hc24]; rfl) rfl ?_
              refine r_aload_n hX dX12_count_109 1 rfl ?_
              refine r_get hX fl_X12_83 (w_111 _ _ _) rfl dX12_count_110 ?_
              exact fin_I hf hr _ _ _ dX12_count_113
            · rw [if_neg hc24] at hf
              by_cases hc25 : x1 = 6
              · rw [if_pos hc25] at hf
                refine r_tabIn hX (off := 106) 114 dX12_count_8 (by rw [hc25]; decide) (by rw [hc25]; decide) (by rw [hc25]; rfl) rfl ?_
                refine r_aload_n hX dX12_count_114 1 rfl ?_
                refine r_get hX fl_X12_100 (w_111 _ _ _) rfl dX12_count_115 ?_
                exact fin_I hf hr _ _ _ dX12_count_118
              · rw [if_neg hc25] at hf
                by_cases hc26 : x1 = 7
                · rw [if_pos hc26] at hf
                  refine r_tabIn hX (off := 111) 119 dX12_count_8 (by rw [hc26]; decide) (by rw [hc26]; decide) (by rw [hc26]; rfl) rfl ?_
                  refine r_iconst hX (0 : Int32) dX12_count_119 rfl ?_
                  refine r_istore_n hX dX12_count_120 rfl (ls' := [(3, .int (0 : Int32)), (2, .int (0 : Int32)), (0, .ref (gA (xG X) 111)), (1, .int x1)]) rfl ?_
                  refine r_weak [2, 1, 0] rfl ?_
                  exact b_m_count_b121 hX hr FU _ _ _ _ hf
                · rw [if_neg hc26] at hf
                  have J35 : AW X 188 [(2, .int (0 : Int32)), (0, .ref (gA (xG X) 111)), (1, .int x1)] [] μ1 dy := by
                    refine r_iconst hX (-1 : Int32) dX12_count_188 rfl ?_
                    exact fin_I hf hr _ _ _ dX12_count_189
                  by_cases hc36 : x1.toInt < 0
                  · exact r_tabOut hX 188 dX12_count_8 (Or.inl hc36) rfl J35
                  by_cases hc37 : 7 < x1.toInt
                  · exact r_tabOut hX 188 dX12_count_8 (Or.inr hc37) rfl J35
                  have q38 : x1.toInt = 0 ∨ x1.toInt = 1 ∨ x1.toInt = 2 ∨ x1.toInt = 3 ∨ x1.toInt = 4 ∨ x1.toInt = 5 ∨ x1.toInt = 6 ∨ x1.toInt = 7 := by omega
                  rcases q38 with q38 | q38 | q38 | q38 | q38 | q38 | q38 | q38
                  · exact absurd (i32_eq (y := 0) q38 rfl) hc3
                  · exact absurd (i32_eq (y := 1) q38 rfl) hc4
                  · exact absurd (i32_eq (y := 2) q38 rfl) hc5
                  · exact absurd (i32_eq (y := 3) q38 rfl) hc12
                  · exact absurd (i32_eq (y := 4) q38 rfl) hc13
                  · exact absurd (i32_eq (y := 5) q38 rfl) hc24
                  · exact absurd (i32_eq (y := 6) q38 rfl) hc25
                  · exact absurd (i32_eq (y := 7) q38 rfl) hc26
theorem dX12_row_0 : decode cX12_row 0 = .ok (.aload_n 0, 1) := by decide +kernel
theorem dX12_row_1 : decode cX12_row 1 = .ok (.iconst 0, 1) := by decide +kernel
theorem dX12_row_2 : decode cX12_row 2 = .ok (.putfield 80, 3) := by decide +kernel
theorem dX12_row_5 : decode cX12_row 5 = .ok (.iload_n 1, 1) := by decide +kernel
theorem dX12_row_6 : decode cX12_row 6 = .ok (.iconst 0, 1) := by decide +kernel
theorem dX12_row_7 : decode cX12_row 7 = .ok (.aload_n 0, 1) := by decide +kernel
theorem dX12_row_8 : decode cX12_row 8 = .ok (.getfield 83, 3) := by decide +kernel
theorem dX12_row_11 : decode cX12_row 11 = .ok (.iconst 1, 1) := by decide +kernel
theorem dX12_row_12 : decode cX12_row 12 = .ok (.isub, 1) := by decide +kernel
theorem dX12_row_13 : decode cX12_row 13 = .ok (.invokestatic 89, 3) := by decide +kernel
theorem dX12_row_16 : decode cX12_row 16 = .ok (.ifCond .eq 12, 3) := by decide +kernel
theorem dX12_row_19 : decode cX12_row 19 = .ok (.aload_n 0, 1) := by decide +kernel
theorem dX12_row_20 : decode cX12_row 20 = .ok (.getfield 26, 3) := by decide +kernel
theorem dX12_row_23 : decode cX12_row 23 = .ok (.iload_n 1, 1) := by decide +kernel
theorem dX12_row_24 : decode cX12_row 24 = .ok (.laload, 1) := by decide +kernel
theorem dX12_row_25 : decode cX12_row 25 = .ok (.goto 8, 3) := by decide +kernel
theorem dX12_row_28 : decode cX12_row 28 = .ok (.aload_n 0, 1) := by decide +kernel
theorem dX12_row_29 : decode cX12_row 29 = .ok (.invokevirtual 161, 3) := by decide +kernel
theorem dX12_row_32 : decode cX12_row 32 = .ok (.i2l, 1) := by decide +kernel
theorem dX12_row_33 : decode cX12_row 33 = .ok (.lreturn, 1) := by decide +kernel
set_option maxHeartbeats 4000000 in
set_option maxRecDepth 20000 in
theorem c_m_row {G : Gx} {d : Nat} {x1 : Int32} {μ : Mem} {r : Int64 × Mem} (hf : f_m_row x1 μ = some r) : Con G M_m_row (d + 1) [.ref (gA G 111), .int x1] μ (some (.long r.1), r.2) := by
  refine Con.ofL ⟨rfl, rfl, Nat.le_of_ble_eq_true rfl⟩ rfl (fun X hG hX hr dy => ?_)
  subst hG
  show AW X 0 [(0, .ref (gA (xG X) 111)), (1, .int x1)] [] μ dy
  unfold f_m_row at hf
  refine r_aload_n hX dX12_row_0 0 rfl ?_
  refine r_iconst hX (0 : Int32) dX12_row_1 rfl ?_
  obtain ⟨μ1, e2, hf⟩ := bnd_eq hf
  refine r_put hX fl_X12_80 ft_X12_11 (w_111 _ _ _) rfl rfl rfl (s_111_11 _ _ _ _) e2 rfl dX12_row_2 ?_
  refine r_iload_n hX dX12_row_5 1 rfl ?_
  refine r_iconst hX (0 : Int32) dX12_row_6 rfl ?_
  refine r_aload_n hX dX12_row_7 0 rfl ?_
  refine r_get hX fl_X12_83 (w_111 _ _ _) rfl dX12_row_8 ?_
  refine r_iconst hX (1 : Int32) dX12_row_11 rfl ?_
  refine r_isub hX dX12_row_12 ?_
  obtain ⟨v5, μ3, h4, hf⟩ := bd2_eq hf
  refine r_callSI (Ok.le hX (by omega)) (c_m_in (d := d)  h4) cs_X12_89 (st := []) rfl rfl rfl dX12_row_13 (fun dy => ?_)
  refine r_if_eq hX 28 dX12_row_16 rfl (fun hc6 => ?_) (fun hc6 => ?_)
  · rw [if_pos hc6] at hf
    refine r_aload_n hX dX12_row_28 0 rfl ?_
    obtain ⟨v9, μ7, h8, hf⟩ := bd2_eq hf
    refine r_callVI (Ok.le hX (by omega)) (c_m_lost (d := d)  h8) cv_X12_161 (w_111 _ _ _) rfl rfl (st := []) rfl rfl rfl dX12_row_29 (fun dy => ?_)
    refine r_i2l hX dX12_row_32 ?_
    exact fin_L hf hr _ _ _ dX12_row_33
  · rw [if_neg hc6] at hf
    refine r_aload_n hX dX12_row_19 0 rfl ?_
    refine r_get hX fl_X12_26 (w_111 _ _ _) rfl dX12_row_20 ?_
    refine r_iload_n hX dX12_row_23 1 rfl ?_
    obtain ⟨b10, hf⟩ := chk_eq hf
    refine r_lald hX (w_117 _ _ _) (inb_in b10) dX12_row_24 ?_
    refine r_goto hX 33 dX12_row_25 rfl ?_
    exact fin_L hf hr _ _ _ dX12_row_33
set_option maxHeartbeats 4000000 in
set_option maxRecDepth 20000 in
theorem b_x_person_thr_b20 {X : Cx} {d : Nat} (hX : Ok M_x_person (d + 2) X) {r : Mem} (hr : RetT M_x_person X r)  (μ : Mem) (dy : Nat → Nat) (hf : f_x_person_thr_b20  μ = some r) : AW X 20 [] [] μ dy := by
  unfold f_x_person_thr_b20 at hf
  exact fin_T hf hr _ _ _ dX11_person_20 dX11_person_23 dX11_person_24 dX11_person_27
set_option maxHeartbeats 4000000 in
theorem b_x_person_thr {X : Cx} {d : Nat} (hX : Ok M_x_person (d + 2) X) {r : Mem} (hr : RetT M_x_person X r) (x1 : Int32) (x2 : Int32) (μ : Mem) (dy : Nat → Nat) (hf : f_x_person_thr x1 x2 μ = some r) : AW X 0 [(0, .ref (gA (xG X) 0)), (1, .int x1), (2, .int x2)] [] μ dy := by
  unfold f_x_person_thr at hf
  refine r_aload_n hX dX11_person_0 0 rfl ?_
  refine r_get hX fl_X11_23 (w_0 _ _ _) rfl dX11_person_1 ?_
  refine r_iload_n hX dX11_person_4 1 rfl ?_
  obtain ⟨v3, μ1, h2, hf⟩ := bd2_eq hf
  refine r_callVI (Ok.le hX (by omega)) (c_st_has (d := d)  h2) cv_X11_116 (w_4 _ _ _) rfl rfl (st := []) rfl rfl rfl dX11_person_5 (fun dy => ?_)
  refine r_if_eq hX 20 dX11_person_8 rfl (fun hc4 => ?_) (fun hc4 => ?_)
  · rw [if_pos hc4] at hf
    refine r_weak [] rfl ?_
    exact b_x_person_thr_b20 hX hr _ _ hf
  · rw [if_neg hc4] at hf
    refine r_iload_n hX dX11_person_11 2 rfl ?_
    refine r_if_lt hX 20 dX11_person_12 rfl (fun hc5 => ?_) (fun hc5 => ?_)
    · rw [if_pos hc5] at hf
      refine r_weak [] rfl ?_
      exact b_x_person_thr_b20 hX hr _ _ hf
    · rw [if_neg hc5] at hf
      refine r_iload_n hX dX11_person_15 2 rfl ?_
      refine r_iconst hX (5 : Int32) dX11_person_16 rfl ?_
      refine r_icmp_le hX 28 dX11_person_17 rfl (fun hc6 => ?_) (fun hc6 => ?_)
      · rw [if_pos hc6] at hf
        refine r_iload_n hX dX11_person_28 2 rfl ?_
        by_cases hc7 : x2 = 0
        · rw [if_pos hc7] at hf
          refine r_tabIn hX (off := 35) 64 dX11_person_29 (by rw [hc7]; decide) (by rw [hc7]; decide) (by rw [hc7]; rfl) rfl ?_
          refine r_aload_n hX dX11_person_64 0 rfl ?_
          refine r_get hX fl_X11_23 (w_0 _ _ _) rfl dX11_person_65 ?_
          obtain ⟨v10, μ8, h9, hf⟩ := bd2_eq hf
          refine r_callVI (Ok.le hX (by omega)) (c_st_now (d := d)  h9) cv_X11_123 (w_4 _ _ _) rfl rfl (st := []) rfl rfl rfl dX11_person_68 (fun dy => ?_)
          refine r_iload_n hX dX11_person_71 1 rfl ?_
          refine r_ishr hX dX11_person_72 ?_
          refine r_iconst hX (1 : Int32) dX11_person_73 rfl ?_
          refine r_iand hX dX11_person_74 ?_
          exact nomatch hf
        · rw [if_neg hc7] at hf
          by_cases hc11 : x2 = 1
          · rw [if_pos hc11] at hf
            refine r_tabIn hX (off := 47) 76 dX11_person_29 (by rw [hc11]; decide) (by rw [hc11]; decide) (by rw [hc11]; rfl) rfl ?_
            refine r_aload_n hX dX11_person_76 0 rfl ?_
            refine r_get hX fl_X11_23 (w_0 _ _ _) rfl dX11_person_77 ?_
            refine r_getN hX fl_X11_127 (w_4 _ _ _) rfl dX11_person_80 ?_
            refine r_iload_n hX dX11_person_83 1 rfl ?_
            obtain ⟨b12, hf⟩ := chk_eq hf
            refine r_iald hX (w_5 _ _ _) (inb_in b12) dX11_person_84 ?_
            exact nomatch hf
          · rw [if_neg hc11] at hf
            by_cases hc13 : x2 = 2
            · rw [if_pos hc13] at hf
              refine r_tabIn hX (off := 57) 86 dX11_person_29 (by rw [hc13]; decide) (by rw [hc13]; decide) (by rw [hc13]; rfl) rfl ?_
              refine r_aload_n hX dX11_person_86 0 rfl ?_
              refine r_get hX fl_X11_23 (w_0 _ _ _) rfl dX11_person_87 ?_
              refine r_getN hX fl_X11_130 (w_4 _ _ _) rfl dX11_person_90 ?_
              refine r_iload_n hX dX11_person_93 1 rfl ?_
              obtain ⟨b14, hf⟩ := chk_eq hf
              refine r_iald hX (w_6 _ _ _) (inb_in b14) dX11_person_94 ?_
              exact nomatch hf
            · rw [if_neg hc13] at hf
              by_cases hc15 : x2 = 3
              · rw [if_pos hc15] at hf
                refine r_tabIn hX (off := 67) 96 dX11_person_29 (by rw [hc15]; decide) (by rw [hc15]; decide) (by rw [hc15]; rfl) rfl ?_
                refine r_aload_n hX dX11_person_96 0 rfl ?_
                refine r_get hX fl_X11_23 (w_0 _ _ _) rfl dX11_person_97 ?_
                refine r_getN hX fl_X11_133 (w_4 _ _ _) rfl dX11_person_100 ?_
                refine r_iload_n hX dX11_person_103 1 rfl ?_
                refine r_ishr hX dX11_person_104 ?_
                refine r_iconst hX (1 : Int32) dX11_person_105 rfl ?_
                refine r_iand hX dX11_person_106 ?_
                exact nomatch hf
              · rw [if_neg hc15] at hf
                by_cases hc16 : x2 = 4
                · rw [if_pos hc16] at hf
                  refine r_tabIn hX (off := 79) 108 dX11_person_29 (by rw [hc16]; decide) (by rw [hc16]; decide) (by rw [hc16]; rfl) rfl ?_
                  refine r_aload_n hX dX11_person_108 0 rfl ?_
                  refine r_get hX fl_X11_23 (w_0 _ _ _) rfl dX11_person_109 ?_
                  refine r_iload_n hX dX11_person_112 1 rfl ?_
                  obtain ⟨v19, μ17, h18, hf⟩ := bd2_eq hf
                  refine r_callVI (Ok.le hX (by omega)) (c_st_allOf (d := d)  h18) cv_X11_136 (w_4 _ _ _) rfl rfl (st := []) rfl rfl rfl dX11_person_113 (fun dy => ?_)
                  exact nomatch hf
                · rw [if_neg hc16] at hf
                  have J20 : AW X 117 [(0, .ref (gA (xG X) 0)), (1, .int x1), (2, .int x2)] [] μ1 dy := by
                    refine r_aload_n hX dX11_person_117 0 rfl ?_
                    refine r_get hX fl_X11_23 (w_0 _ _ _) rfl dX11_person_118 ?_
                    refine r_iload_n hX dX11_person_121 1 rfl ?_
                    obtain ⟨v23, μ21, h22, hf⟩ := bd2_eq hf
                    refine r_callVI (Ok.le hX (by omega)) (c_st_loudnessOf (d := d)  h22) cv_X11_140 (w_4 _ _ _) rfl rfl (st := []) rfl rfl rfl dX11_person_122 (fun dy => ?_)
                    exact nomatch hf
                  by_cases hc24 : x2.toInt < 0
                  · exact r_tabOut hX 117 dX11_person_29 (Or.inl hc24) rfl J20
                  by_cases hc25 : 4 < x2.toInt
                  · exact r_tabOut hX 117 dX11_person_29 (Or.inr hc25) rfl J20
                  have q26 : x2.toInt = 0 ∨ x2.toInt = 1 ∨ x2.toInt = 2 ∨ x2.toInt = 3 ∨ x2.toInt = 4 := by omega
                  rcases q26 with q26 | q26 | q26 | q26 | q26
                  · exact absurd (i32_eq (y := 0) q26 rfl) hc7
                  · exact absurd (i32_eq (y := 1) q26 rfl) hc11
                  · exact absurd (i32_eq (y := 2) q26 rfl) hc13
                  · exact absurd (i32_eq (y := 3) q26 rfl) hc15
                  · exact absurd (i32_eq (y := 4) q26 rfl) hc16
      · rw [if_neg hc6] at hf
        refine r_weak [] rfl ?_
        exact b_x_person_thr_b20 hX hr _ _ hf
set_option maxHeartbeats 4000000 in
set_option maxRecDepth 20000 in
theorem b_x_rates_thr_b18 {X : Cx} {d : Nat} (hX : Ok M_x_rates (d + 3) X) {r : Mem} (hr : RetT M_x_rates X r)  (μ : Mem) (dy : Nat → Nat) (hf : f_x_rates_thr_b18  μ = some r) : AW X 18 [] [] μ dy := by
  unfold f_x_rates_thr_b18 at hf
  exact fin_T hf hr _ _ _ dX11_rates_18 dX11_rates_21 dX11_rates_22 dX11_rates_25
set_option maxHeartbeats 4000000 in
theorem b_x_rates_thr {X : Cx} {d : Nat} (hX : Ok M_x_rates (d + 3) X) {r : Mem} (hr : RetT M_x_rates X r) (x1 : Int32) (x2 : Int32) (μ : Mem) (dy : Nat → Nat) (hf : f_x_rates_thr x1 x2 μ = some r) : AW X 0 [(0, .ref (gA (xG X) 0)), (1, .int x1), (2, .int x2)] [] μ dy := by
  unfold f_x_rates_thr at hf
  refine r_iload_n hX dX11_rates_0 1 rfl ?_
  obtain ⟨v3, μ1, h2, hf⟩ := bd2_eq hf
  refine r_callSI (Ok.le hX (by omega)) (c_x_isShop (d := d)  h2) cs_X11_292 (st := []) rfl rfl rfl dX11_rates_1 (fun dy => ?_)
  refine r_if_eq hX 18 dX11_rates_4 rfl (fun hc4 => ?_) (fun hc4 => ?_)
  · rw [if_pos hc4] at hf
    refine r_weak [] rfl ?_
    exact b_x_rates_thr_b18 hX hr _ _ hf
  · rw [if_neg hc4] at hf
    refine r_aload_n hX dX11_rates_7 0 rfl ?_
    refine r_get hX fl_X11_23 (w_0 _ _ _) rfl dX11_rates_8 ?_
    refine r_iload_n hX dX11_rates_11 2 rfl ?_
    obtain ⟨v7, μ5, h6, hf⟩ := bd2_eq hf
    refine r_callVI (Ok.le hX (by omega)) (c_st_has (d := d)  h6) cv_X11_116 (w_4 _ _ _) rfl rfl (st := []) rfl rfl rfl dX11_rates_12 (fun dy => ?_)
    refine r_if_ne hX 26 dX11_rates_15 rfl (fun hc8 => ?_) (fun hc8 => ?_)
    · rw [if_neg hc8] at hf
      refine r_aload_n hX dX11_rates_26 0 rfl ?_
      refine r_get hX fl_X11_95 (w_0 _ _ _) rfl dX11_rates_27 ?_
      obtain ⟨μ9, h10, hf⟩ := bd1_eq hf
      refine r_callVV (Ok.le hX (by omega)) (c_sh_learn (d := d)  h10) cv_X11_298 (w_93 _ _ _) rfl rfl (st := []) rfl rfl rfl dX11_rates_30 (fun dy => ?_)
      refine r_aload_n hX dX11_rates_33 0 rfl ?_
      refine r_get hX fl_X11_95 (w_0 _ _ _) rfl dX11_rates_34 ?_
      refine r_iload_n hX dX11_rates_37 1 rfl ?_
      refine r_iload_n hX dX11_rates_38 2 rfl ?_
      refine r_aload_n hX dX11_rates_39 0 rfl ?_
      refine r_get hX fl_X11_23 (w_0 _ _ _) rfl dX11_rates_40 ?_
      obtain ⟨v13, μ11, h12, hf⟩ := bd2_eq hf
      refine r_callVI (Ok.le hX (by omega)) (c_st_now (d := d)  h12) cv_X11_123 (w_4 _ _ _) rfl rfl (st := [.int x2, .int x1, .ref (gA (xG X) 93)]) rfl rfl rfl dX11_rates_43 (fun dy => ?_)
      obtain ⟨v16, μ14, h15, hf⟩ := bd2_eq hf
      refine r_callVI (Ok.le hX (by omega)) (c_sh_rate (d := d)  h15) cv_X11_301 (w_93 _ _ _) rfl rfl (st := []) rfl rfl rfl dX11_rates_46 (fun dy => ?_)
      exact nomatch hf
    · rw [if_pos hc8] at hf
      refine r_weak [] rfl ?_
      exact b_x_rates_thr_b18 hX hr _ _ hf
set_option maxHeartbeats 4000000 in
set_option maxRecDepth 20000 in
theorem b_x_row_thr_b15 {X : Cx} {d : Nat} (hX : Ok M_x_row (d + 0) X) {r : Mem} (hr : RetT M_x_row X r)  (μ : Mem) (dy : Nat → Nat) (hf : f_x_row_thr_b15  μ = some r) : AW X 15 [] [] μ dy := by
  unfold f_x_row_thr_b15 at hf
  exact fin_T hf hr _ _ _ dX11_row_15 dX11_row_18 dX11_row_19 dX11_row_22
set_option maxHeartbeats 4000000 in
theorem b_x_row_thr {X : Cx} {d : Nat} (hX : Ok M_x_row (d + 0) X) {r : Mem} (hr : RetT M_x_row X r) (x1 : Int32) (μ : Mem) (dy : Nat → Nat) (hf : f_x_row_thr x1 μ = some r) : AW X 0 [(0, .ref (gA (xG X) 0)), (1, .int x1)] [] μ dy := by
  unfold f_x_row_thr at hf
  refine r_iload_n hX dX11_row_0 1 rfl ?_
  refine r_if_lt hX 15 dX11_row_1 rfl (fun hc1 => ?_) (fun hc1 => ?_)
  · rw [if_pos hc1] at hf
    refine r_weak [] rfl ?_
    exact b_x_row_thr_b15 hX hr _ _ hf
  · rw [if_neg hc1] at hf
    refine r_iload_n hX dX11_row_4 1 rfl ?_
    refine r_aload_n hX dX11_row_5 0 rfl ?_
    refine r_get hX fl_X11_16 (w_0 _ _ _) rfl dX11_row_6 ?_
    refine r_getN hX fl_X11_334 (w_2 _ _ _) rfl dX11_row_9 ?_
    refine r_icmp_lt hX 23 dX11_row_12 rfl (fun hc2 => ?_) (fun hc2 => ?_)
    · rw [if_pos hc2] at hf
      refine r_aload_n hX dX11_row_23 0 rfl ?_
      refine r_get hX fl_X11_16 (w_0 _ _ _) rfl dX11_row_24 ?_
      refine r_getN hX fl_X11_340 (w_2 _ _ _) rfl dX11_row_27 ?_
      refine r_iload_n hX dX11_row_30 1 rfl ?_
      obtain ⟨b3, hf⟩ := chk_eq hf
      refine r_lald hX (w_3 _ _ _) (inb_in b3) dX11_row_31 ?_
      exact nomatch hf
    · rw [if_neg hc2] at hf
      refine r_weak [] rfl ?_
      exact b_x_row_thr_b15 hX hr _ _ hf
