theorem dX12_rule_0 : decode cX12_rule 0 = .ok (.aload_n 0, 1) := by decide +kernel
theorem dX12_rule_1 : decode cX12_rule 1 = .ok (.iconst 0, 1) := by decide +kernel
theorem dX12_rule_2 : decode cX12_rule 2 = .ok (.putfield 80, 3) := by decide +kernel
theorem dX12_rule_5 : decode cX12_rule 5 = .ok (.aload_n 0, 1) := by decide +kernel
theorem dX12_rule_6 : decode cX12_rule 6 = .ok (.getfield 100, 3) := by decide +kernel
theorem dX12_rule_9 : decode cX12_rule 9 = .ok (.istore_n 2, 1) := by decide +kernel
theorem dX12_rule_10 : decode cX12_rule 10 = .ok (.aload_n 0, 1) := by decide +kernel
theorem dX12_rule_11 : decode cX12_rule 11 = .ok (.aload_n 0, 1) := by decide +kernel
theorem dX12_rule_12 : decode cX12_rule 12 = .ok (.getfield 22, 3) := by decide +kernel
theorem dX12_rule_15 : decode cX12_rule 15 = .ok (.iload_n 2, 1) := by decide +kernel
theorem dX12_rule_16 : decode cX12_rule 16 = .ok (.bipush 40, 2) := by decide +kernel
theorem dX12_rule_18 : decode cX12_rule 18 = .ok (.invokevirtual 133, 3) := by decide +kernel
theorem dX12_rule_21 : decode cX12_rule 21 = .ok (.aload_n 0, 1) := by decide +kernel
theorem dX12_rule_22 : decode cX12_rule 22 = .ok (.iconst 0, 1) := by decide +kernel
theorem dX12_rule_23 : decode cX12_rule 23 = .ok (.putfield 100, 3) := by decide +kernel
theorem dX12_rule_26 : decode cX12_rule 26 = .ok (.iload_n 1, 1) := by decide +kernel
theorem dX12_rule_27 : decode cX12_rule 27 = .ok (.iconst 0, 1) := by decide +kernel
theorem dX12_rule_28 : decode cX12_rule 28 = .ok (.iconst 1, 1) := by decide +kernel
theorem dX12_rule_29 : decode cX12_rule 29 = .ok (.invokestatic 89, 3) := by decide +kernel
theorem dX12_rule_32 : decode cX12_rule 32 = .ok (.ifCond .ne 6, 3) := by decide +kernel
theorem dX12_rule_35 : decode cX12_rule 35 = .ok (.bipush (-100), 2) := by decide +kernel
theorem dX12_rule_37 : decode cX12_rule 37 = .ok (.ireturn, 1) := by decide +kernel
theorem dX12_rule_38 : decode cX12_rule 38 = .ok (.aload_n 0, 1) := by decide +kernel
theorem dX12_rule_39 : decode cX12_rule 39 = .ok (.iconst (-1), 1) := by decide +kernel
theorem dX12_rule_40 : decode cX12_rule 40 = .ok (.putfield 64, 3) := by decide +kernel
theorem dX12_rule_43 : decode cX12_rule 43 = .ok (.iload_n 2, 1) := by decide +kernel
theorem dX12_rule_44 : decode cX12_rule 44 = .ok (.ifCond .le 39, 3) := by decide +kernel
theorem dX12_rule_47 : decode cX12_rule 47 = .ok (.aload_n 0, 1) := by decide +kernel
theorem dX12_rule_48 : decode cX12_rule 48 = .ok (.iconst 0, 1) := by decide +kernel
theorem dX12_rule_49 : decode cX12_rule 49 = .ok (.invokevirtual 291, 3) := by decide +kernel
theorem dX12_rule_52 : decode cX12_rule 52 = .ok (.pop, 1) := by decide +kernel
theorem dX12_rule_53 : decode cX12_rule 53 = .ok (.aload_n 0, 1) := by decide +kernel
theorem dX12_rule_54 : decode cX12_rule 54 = .ok (.getfield 112, 3) := by decide +kernel
theorem dX12_rule_57 : decode cX12_rule 57 = .ok (.iload_n 2, 1) := by decide +kernel
theorem dX12_rule_58 : decode cX12_rule 58 = .ok (.if_icmp .ge 11, 3) := by decide +kernel
theorem dX12_rule_61 : decode cX12_rule 61 = .ok (.aload_n 0, 1) := by decide +kernel
theorem dX12_rule_62 : decode cX12_rule 62 = .ok (.aload_n 0, 1) := by decide +kernel
theorem dX12_rule_63 : decode cX12_rule 63 = .ok (.getfield 112, 3) := by decide +kernel
theorem dX12_rule_66 : decode cX12_rule 66 = .ok (.invokevirtual 129, 3) := by decide +kernel
theorem dX12_rule_69 : decode cX12_rule 69 = .ok (.aload_n 0, 1) := by decide +kernel
theorem dX12_rule_70 : decode cX12_rule 70 = .ok (.invokevirtual 118, 3) := by decide +kernel
theorem dX12_rule_73 : decode cX12_rule 73 = .ok (.ifCond .ne 10, 3) := by decide +kernel
theorem dX12_rule_76 : decode cX12_rule 76 = .ok (.iconst (-1), 1) := by decide +kernel
theorem dX12_rule_77 : decode cX12_rule 77 = .ok (.aload_n 0, 1) := by decide +kernel
theorem dX12_rule_78 : decode cX12_rule 78 = .ok (.getfield 115, 3) := by decide +kernel
theorem dX12_rule_81 : decode cX12_rule 81 = .ok (.isub, 1) := by decide +kernel
theorem dX12_rule_82 : decode cX12_rule 82 = .ok (.ireturn, 1) := by decide +kernel
theorem dX12_rule_83 : decode cX12_rule 83 = .ok (.iconst 0, 1) := by decide +kernel
theorem dX12_rule_84 : decode cX12_rule 84 = .ok (.istore_n 3, 1) := by decide +kernel
theorem dX12_rule_85 : decode cX12_rule 85 = .ok (.iload_n 3, 1) := by decide +kernel
theorem dX12_rule_86 : decode cX12_rule 86 = .ok (.iload_n 2, 1) := by decide +kernel
theorem dX12_rule_87 : decode cX12_rule 87 = .ok (.if_icmp .ge 23, 3) := by decide +kernel
theorem dX12_rule_90 : decode cX12_rule 90 = .ok (.aload_n 0, 1) := by decide +kernel
theorem dX12_rule_91 : decode cX12_rule 91 = .ok (.getfield 58, 3) := by decide +kernel
theorem dX12_rule_94 : decode cX12_rule 94 = .ok (.iload_n 1, 1) := by decide +kernel
theorem dX12_rule_95 : decode cX12_rule 95 = .ok (.aaload, 1) := by decide +kernel
theorem dX12_rule_96 : decode cX12_rule 96 = .ok (.iload_n 3, 1) := by decide +kernel
theorem dX12_rule_97 : decode cX12_rule 97 = .ok (.aload_n 0, 1) := by decide +kernel
theorem dX12_rule_98 : decode cX12_rule 98 = .ok (.getfield 22, 3) := by decide +kernel
theorem dX12_rule_101 : decode cX12_rule 101 = .ok (.iload_n 3, 1) := by decide +kernel
theorem dX12_rule_102 : decode cX12_rule 102 = .ok (.baload, 1) := by decide +kernel
theorem dX12_rule_103 : decode cX12_rule 103 = .ok (.bastore, 1) := by decide +kernel
theorem dX12_rule_104 : decode cX12_rule 104 = .ok (.iinc 3 1, 3) := by decide +kernel
theorem dX12_rule_107 : decode cX12_rule 107 = .ok (.goto (-22), 3) := by decide +kernel
theorem dX12_rule_110 : decode cX12_rule 110 = .ok (.aload_n 0, 1) := by decide +kernel
theorem dX12_rule_111 : decode cX12_rule 111 = .ok (.getfield 61, 3) := by decide +kernel
theorem dX12_rule_114 : decode cX12_rule 114 = .ok (.iload_n 1, 1) := by decide +kernel
theorem dX12_rule_115 : decode cX12_rule 115 = .ok (.iload_n 2, 1) := by decide +kernel
theorem dX12_rule_116 : decode cX12_rule 116 = .ok (.iastore, 1) := by decide +kernel
theorem dX12_rule_117 : decode cX12_rule 117 = .ok (.iconst 0, 1) := by decide +kernel
theorem dX12_rule_118 : decode cX12_rule 118 = .ok (.ireturn, 1) := by decide +kernel
set_option maxHeartbeats 4000000 in
set_option maxRecDepth 20000 in
theorem b_m_rule_b85 {X : Cx} {d : Nat} (hX : Ok M_m_rule (d + 212) X) {r : Int32 × Mem} (hr : RetI M_m_rule X r.1 r.2) : ∀ (n : Nat) (x1 : Int32) (x2 : Int32) (x3 : Int32) (μ : Mem) (dy : Nat → Nat), f_m_rule_b85 n x1 x2 x3 μ = some r → AW X 85 [(0, .ref (gA (xG X) 111)), (1, .int x1), (2, .int x2), (3, .int x3)] [] μ dy := by
  intro n
  induction n with
  | zero => intro x1 x2 x3 μ dy hf; exact nomatch hf
  | succ n ih =>
    intro x1 x2 x3 μ dy hf
    rw [f_m_rule_b85] at hf
    refine r_iload_n hX dX12_rule_85 3 rfl ?_
    refine r_iload_n hX dX12_rule_86 2 rfl ?_
    refine r_icmp_ge hX 110 dX12_rule_87 rfl (fun hc14 => ?_) (fun hc14 => ?_)
    · rw [if_pos hc14] at hf
      refine r_aload_n hX dX12_rule_110 0 rfl ?_
      refine r_get hX fl_X12_61 (w_111 _ _ _) rfl dX12_rule_111 ?_
      refine r_iload_n hX dX12_rule_114 1 rfl ?_
      refine r_iload_n hX dX12_rule_115 2 rfl ?_
      obtain ⟨b15, hf⟩ := chk_eq hf
      obtain ⟨μ16, e17, hf⟩ := bnd_eq hf
      refine r_iast hX (w_129 _ _ _) (inb_in b15) (s_129 _ _ _ _ _) e17 rfl dX12_rule_116 ?_
      refine r_iconst hX (0 : Int32) dX12_rule_117 rfl ?_
      exact fin_I hf hr _ _ _ dX12_rule_118
    · rw [if_neg hc14] at hf
      refine r_aload_n hX dX12_rule_90 0 rfl ?_
      refine r_get hX fl_X12_58 (w_111 _ _ _) rfl dX12_rule_91 ?_
      refine r_iload_n hX dX12_rule_94 1 rfl ?_
      by_cases hc18 : x1 = 0
      · rw [if_pos hc18] at hf
        refine r_aald hX (w_126 _ _ _) (b := gA (xG X) 127) rfl rfl (by rw [hc18]; exact inb_in rfl) (by rw [hc18]; rfl) dX12_rule_95 ?_
        refine r_iload_n hX dX12_rule_96 3 rfl ?_
        refine r_aload_n hX dX12_rule_97 0 rfl ?_
        refine r_get hX fl_X12_22 (w_111 _ _ _) rfl dX12_rule_98 ?_
        refine r_iload_n hX dX12_rule_101 3 rfl ?_
        obtain ⟨b19, hf⟩ := chk_eq hf
        refine r_bald hX (w_116 _ _ _) (inb_in b19) dX12_rule_102 ?_
        obtain ⟨b20, hf⟩ := chk_eq hf
        obtain ⟨μ21, e22, hf⟩ := bnd_eq hf
        refine r_bast hX (w_127 _ _ _) (inb_in b20) (s_127 _ _ _ _ _) e22 rfl dX12_rule_103 ?_
        refine r_iinc hX (x3 + (1 : Int32)) dX12_rule_104 3 rfl rfl rfl (ls' := [(3, .int (x3 + (1 : Int32))), (0, .ref (gA (xG X) 111)), (1, .int x1), (2, .int x2)]) rfl ?_
        refine r_goto hX 85 dX12_rule_107 rfl ?_
        refine r_weak [1, 2, 3, 0] rfl ?_
        exact ih _ _ _ _ _ hf
      · rw [if_neg hc18] at hf
        by_cases hc23 : x1 = 1
        · rw [if_pos hc23] at hf
          refine r_aald hX (w_126 _ _ _) (b := gA (xG X) 128) rfl rfl (by rw [hc23]; exact inb_in rfl) (by rw [hc23]; rfl) dX12_rule_95 ?_
          refine r_iload_n hX dX12_rule_96 3 rfl ?_
          refine r_aload_n hX dX12_rule_97 0 rfl ?_
          refine r_get hX fl_X12_22 (w_111 _ _ _) rfl dX12_rule_98 ?_
          refine r_iload_n hX dX12_rule_101 3 rfl ?_
          obtain ⟨b24, hf⟩ := chk_eq hf
          refine r_bald hX (w_116 _ _ _) (inb_in b24) dX12_rule_102 ?_
          obtain ⟨b25, hf⟩ := chk_eq hf
          obtain ⟨μ26, e27, hf⟩ := bnd_eq hf
          refine r_bast hX (w_128 _ _ _) (inb_in b25) (s_128 _ _ _ _ _) e27 rfl dX12_rule_103 ?_
          refine r_iinc hX (x3 + (1 : Int32)) dX12_rule_104 3 rfl rfl rfl (ls' := [(3, .int (x3 + (1 : Int32))), (0, .ref (gA (xG X) 111)), (1, .int x1), (2, .int x2)]) rfl ?_
          refine r_goto hX 85 dX12_rule_107 rfl ?_
          refine r_weak [1, 2, 3, 0] rfl ?_
          exact ih _ _ _ _ _ hf
        · rw [if_neg hc23] at hf
          exact nomatch hf
set_option maxHeartbeats 4000000 in
set_option maxRecDepth 20000 in
theorem b_m_rule_b83 {X : Cx} {d : Nat} (hX : Ok M_m_rule (d + 212) X) {r : Int32 × Mem} (hr : RetI M_m_rule X r.1 r.2) (x1 : Int32) (x2 : Int32) (μ : Mem) (dy : Nat → Nat) (hf : f_m_rule_b83 x1 x2 μ = some r) : AW X 83 [(0, .ref (gA (xG X) 111)), (1, .int x1), (2, .int x2)] [] μ dy := by
  unfold f_m_rule_b83 at hf
  refine r_iconst hX (0 : Int32) dX12_rule_83 rfl ?_
  refine r_istore_n hX dX12_rule_84 rfl (ls' := [(3, .int (0 : Int32)), (0, .ref (gA (xG X) 111)), (1, .int x1), (2, .int x2)]) rfl ?_
  refine r_weak [1, 2, 3, 0] rfl ?_
  exact b_m_rule_b85 hX hr FU _ _ _ _ _ hf
set_option maxHeartbeats 4000000 in
set_option maxRecDepth 20000 in
theorem b_m_rule_b69 {X : Cx} {d : Nat} (hX : Ok M_m_rule (d + 212) X) {r : Int32 × Mem} (hr : RetI M_m_rule X r.1 r.2) (x1 : Int32) (x2 : Int32) (μ : Mem) (dy : Nat → Nat) (hf : f_m_rule_b69 x1 x2 μ = some r) : AW X 69 [(0, .ref (gA (xG X) 111)), (1, .int x1), (2, .int x2)] [] μ dy := by
  unfold f_m_rule_b69 at hf
  refine r_aload_n hX dX12_rule_69 0 rfl ?_
  obtain ⟨v34, μ32, h33, hf⟩ := bd2_eq hf
  refine r_callVI (Ok.le hX (by omega)) (c_m_fine (d := d)  h33) cv_X12_118 (w_111 _ _ _) rfl rfl (st := []) rfl rfl rfl dX12_rule_70 (fun dy => ?_)
  refine r_if_ne hX 83 dX12_rule_73 rfl (fun hc35 => ?_) (fun hc35 => ?_)
  · rw [if_neg hc35] at hf
    refine r_weak [0, 1, 2] rfl ?_
    exact b_m_rule_b83 hX hr _ _ _ _ hf
  · rw [if_pos hc35] at hf
    refine r_iconst hX (-1 : Int32) dX12_rule_76 rfl ?_
    refine r_aload_n hX dX12_rule_77 0 rfl ?_
    refine r_get hX fl_X12_115 (w_111 _ _ _) rfl dX12_rule_78 ?_
    refine r_isub hX dX12_rule_81 ?_
    exact fin_I hf hr _ _ _ dX12_rule_82
set_option maxHeartbeats 4000000 in
set_option maxRecDepth 20000 in
theorem c_m_rule {G : Gx} {d : Nat} {x1 : Int32} {μ : Mem} {r : Int32 × Mem} (hf : f_m_rule x1 μ = some r) : Con G M_m_rule (d + 212) [.ref (gA G 111), .int x1] μ (some (.int r.1), r.2) := by
  refine Con.ofI ⟨rfl, rfl, Nat.le_of_ble_eq_true rfl⟩ rfl rfl (fun X hG hX hr dy => ?_)
  subst hG
  show AW X 0 [(0, .ref (gA (xG X) 111)), (1, .int x1)] [] μ dy
  unfold f_m_rule at hf
  refine r_aload_n hX dX12_rule_0 0 rfl ?_
  refine r_iconst hX (0 : Int32) dX12_rule_1 rfl ?_
  obtain ⟨μ1, e2, hf⟩ := bnd_eq hf
  refine r_put hX fl_X12_80 ft_X12_11 (w_111 _ _ _) rfl rfl rfl (s_111_11 _ _ _ _) e2 rfl dX12_rule_2 ?_
  refine r_aload_n hX dX12_rule_5 0 rfl ?_
  refine r_get hX fl_X12_100 (w_111 _ _ _) rfl dX12_rule_6 ?_
  refine r_istore_n hX dX12_rule_9 rfl (ls' := [(2, .int (μ1.1 v_m_typed 0)), (0, .ref (gA (xG X) 111)), (1, .int x1)]) rfl ?_
  refine r_aload_n hX dX12_rule_10 1 rfl ?_
  refine r_aload_n hX dX12_rule_11 1 rfl ?_
  refine r_get hX fl_X12_22 (w_111 _ _ _) rfl dX12_rule_12 ?_
  refine r_iload_n hX dX12_rule_15 0 rfl ?_
  refine r_bipush hX (40 : Int32) dX12_rule_16 rfl ?_
  obtain ⟨μ3, h4, hf⟩ := bd1_eq hf
  refine r_callVV (Ok.le hX (by omega)) (c_m_begin_116 (d := d)  h4) cv_X12_133 (w_111 _ _ _) rfl rfl (st := []) rfl rfl rfl dX12_rule_18 (fun dy => ?_)
  refine r_aload_n hX dX12_rule_21 1 rfl ?_
  refine r_iconst hX (0 : Int32) dX12_rule_22 rfl ?_
  obtain ⟨μ5, e6, hf⟩ := bnd_eq hf
  refine r_put hX fl_X12_100 ft_X12_8 (w_111 _ _ _) rfl rfl rfl (s_111_8 _ _ _ _) e6 rfl dX12_rule_23 ?_
  refine r_iload_n hX dX12_rule_26 2 rfl ?_
  refine r_iconst hX (0 : Int32) dX12_rule_27 rfl ?_
  refine r_iconst hX (1 : Int32) dX12_rule_28 rfl ?_
  obtain ⟨v9, μ7, h8, hf⟩ := bd2_eq hf
  refine r_callSI (Ok.le hX (by omega)) (c_m_in (d := d)  h8) cs_X12_89 (st := []) rfl rfl rfl dX12_rule_29 (fun dy => ?_)
  refine r_if_ne hX 38 dX12_rule_32 rfl (fun hc10 => ?_) (fun hc10 => ?_)
  · rw [if_neg hc10] at hf
    refine r_aload_n hX dX12_rule_38 1 rfl ?_
    refine r_iconst hX (-1 : Int32) dX12_rule_39 rfl ?_
    obtain ⟨μ11, e12, hf⟩ := bnd_eq hf
    refine r_put hX fl_X12_64 ft_X12_32 (w_111 _ _ _) rfl rfl rfl (s_111_32 _ _ _ _) e12 rfl dX12_rule_40 ?_
    refine r_iload_n hX dX12_rule_43 0 rfl ?_
    refine r_if_le hX 83 dX12_rule_44 rfl (fun hc13 => ?_) (fun hc13 => ?_)
    · rw [if_pos hc13] at hf
      refine r_weak [1, 2, 0] rfl ?_
      exact b_m_rule_b83 hX hr _ _ _ _ hf
    · rw [if_neg hc13] at hf
      refine r_aload_n hX dX12_rule_47 1 rfl ?_
      refine r_iconst hX (0 : Int32) dX12_rule_48 rfl ?_
      obtain ⟨v30, μ28, h29, hf⟩ := bd2_eq hf
      refine r_callVI (Ok.le hX (by omega)) (c_m_held (d := d + 4 * 50) (fun _ _ _ h9 => c_m_thing (d := d) 50 h9) h29) cv_X12_291 (w_111 _ _ _) rfl rfl (st := []) rfl rfl rfl dX12_rule_49 (fun dy => ?_)
      refine r_pop hX dX12_rule_52 rfl ?_
      refine r_aload_n hX dX12_rule_53 1 rfl ?_
      refine r_get hX fl_X12_112 (w_111 _ _ _) rfl dX12_rule_54 ?_
      refine r_iload_n hX dX12_rule_57 0 rfl ?_
      refine r_icmp_ge hX 69 dX12_rule_58 rfl (fun hc31 => ?_) (fun hc31 => ?_)
      · rw [if_pos hc31] at hf
        refine r_weak [1, 2, 0] rfl ?_
        exact b_m_rule_b69 hX hr _ _ _ _ hf
      · rw [if_neg hc31] at hf
        refine r_aload_n hX dX12_rule_61 1 rfl ?_
        refine r_aload_n hX dX12_rule_62 1 rfl ?_
        refine r_get hX fl_X12_112 (w_111 _ _ _) rfl dX12_rule_63 ?_
        obtain ⟨μ36, h37, hf⟩ := bd1_eq hf
        refine r_callVV (Ok.le hX (by omega)) (c_m_fault (d := d)  h37) cv_X12_129 (w_111 _ _ _) rfl rfl (st := []) rfl rfl rfl dX12_rule_66 (fun dy => ?_)
        refine r_weak [1, 2, 0] rfl ?_
        exact b_m_rule_b69 hX hr _ _ _ _ hf
  · rw [if_pos hc10] at hf
    refine r_bipush hX (-100 : Int32) dX12_rule_35 rfl ?_
    exact fin_I hf hr _ _ _ dX12_rule_37
theorem dX12_rateOf_0 : decode cX12_rateOf 0 = .ok (.aload_n 0, 1) := by decide +kernel
theorem dX12_rateOf_1 : decode cX12_rateOf 1 = .ok (.getfield 61, 3) := by decide +kernel
theorem dX12_rateOf_4 : decode cX12_rateOf 4 = .ok (.iload_n 1, 1) := by decide +kernel
theorem dX12_rateOf_5 : decode cX12_rateOf 5 = .ok (.iaload, 1) := by decide +kernel
theorem dX12_rateOf_6 : decode cX12_rateOf 6 = .ok (.ifCond .ne 5, 3) := by decide +kernel
theorem dX12_rateOf_9 : decode cX12_rateOf 9 = .ok (.iconst 0, 1) := by decide +kernel
theorem dX12_rateOf_10 : decode cX12_rateOf 10 = .ok (.ireturn, 1) := by decide +kernel
theorem dX12_rateOf_11 : decode cX12_rateOf 11 = .ok (.aload_n 0, 1) := by decide +kernel
theorem dX12_rateOf_12 : decode cX12_rateOf 12 = .ok (.aload_n 0, 1) := by decide +kernel
theorem dX12_rateOf_13 : decode cX12_rateOf 13 = .ok (.getfield 58, 3) := by decide +kernel
theorem dX12_rateOf_16 : decode cX12_rateOf 16 = .ok (.iload_n 1, 1) := by decide +kernel
theorem dX12_rateOf_17 : decode cX12_rateOf 17 = .ok (.aaload, 1) := by decide +kernel
theorem dX12_rateOf_18 : decode cX12_rateOf 18 = .ok (.aload_n 0, 1) := by decide +kernel
theorem dX12_rateOf_19 : decode cX12_rateOf 19 = .ok (.getfield 61, 3) := by decide +kernel
theorem dX12_rateOf_22 : decode cX12_rateOf 22 = .ok (.iload_n 1, 1) := by decide +kernel
theorem dX12_rateOf_23 : decode cX12_rateOf 23 = .ok (.iaload, 1) := by decide +kernel
theorem dX12_rateOf_24 : decode cX12_rateOf 24 = .ok (.bipush 40, 2) := by decide +kernel
theorem dX12_rateOf_26 : decode cX12_rateOf 26 = .ok (.invokevirtual 133, 3) := by decide +kernel
theorem dX12_rateOf_29 : decode cX12_rateOf 29 = .ok (.aload_n 0, 1) := by decide +kernel
theorem dX12_rateOf_30 : decode cX12_rateOf 30 = .ok (.iload_n 1, 1) := by decide +kernel
theorem dX12_rateOf_31 : decode cX12_rateOf 31 = .ok (.putfield 301, 3) := by decide +kernel
theorem dX12_rateOf_34 : decode cX12_rateOf 34 = .ok (.aload_n 0, 1) := by decide +kernel
theorem dX12_rateOf_35 : decode cX12_rateOf 35 = .ok (.iload_n 2, 1) := by decide +kernel
theorem dX12_rateOf_36 : decode cX12_rateOf 36 = .ok (.putfield 64, 3) := by decide +kernel
theorem dX12_rateOf_39 : decode cX12_rateOf 39 = .ok (.aload_n 0, 1) := by decide +kernel
theorem dX12_rateOf_40 : decode cX12_rateOf 40 = .ok (.iload_n 3, 1) := by decide +kernel
theorem dX12_rateOf_41 : decode cX12_rateOf 41 = .ok (.putfield 298, 3) := by decide +kernel
theorem dX12_rateOf_44 : decode cX12_rateOf 44 = .ok (.aload_n 0, 1) := by decide +kernel
theorem dX12_rateOf_45 : decode cX12_rateOf 45 = .ok (.iconst 0, 1) := by decide +kernel
theorem dX12_rateOf_46 : decode cX12_rateOf 46 = .ok (.invokevirtual 291, 3) := by decide +kernel
theorem dX12_rateOf_49 : decode cX12_rateOf 49 = .ok (.ireturn, 1) := by decide +kernel
set_option maxHeartbeats 4000000 in
set_option maxRecDepth 20000 in
theorem c_m_rateOf {G : Gx} {d : Nat} {x1 : Int32} {x2 : Int32} {x3 : Int32} {μ : Mem} {r : Int32 × Mem} (hf : f_m_rateOf x1 x2 x3 μ = some r) : Con G M_m_rateOf (d + 212) [.ref (gA G 111), .int x1, .int x2, .int x3] μ (some (.int r.1), r.2) := by
  refine Con.ofI ⟨rfl, rfl, Nat.le_of_ble_eq_true rfl⟩ rfl rfl (fun X hG hX hr dy => ?_)
  subst hG
  show AW X 0 [(0, .ref (gA (xG X) 111)), (1, .int x1), (2, .int x2), (3, .int x3)] [] μ dy
  unfold f_m_rateOf at hf
  refine r_aload_n hX dX12_rateOf_0 0 rfl ?_
  refine r_get hX fl_X12_61 (w_111 _ _ _) rfl dX12_rateOf_1 ?_
  refine r_iload_n hX dX12_rateOf_4 1 rfl ?_
  obtain ⟨b1, hf⟩ := chk_eq hf
  refine r_iald hX (w_129 _ _ _) (inb_in b1) dX12_rateOf_5 ?_
  refine r_if_ne hX 11 dX12_rateOf_6 rfl (fun hc2 => ?_) (fun hc2 => ?_)
  · rw [if_neg hc2] at hf
    refine r_aload_n hX dX12_rateOf_11 0 rfl ?_
    refine r_aload_n hX dX12_rateOf_12 0 rfl ?_
    refine r_get hX fl_X12_58 (w_111 _ _ _) rfl dX12_rateOf_13 ?_
    refine r_iload_n hX dX12_rateOf_16 1 rfl ?_
    by_cases hc3 : x1 = 0
    · rw [if_pos hc3] at hf
      refine r_aald hX (w_126 _ _ _) (b := gA (xG X) 127) rfl rfl (by rw [hc3]; exact inb_in rfl) (by rw [hc3]; rfl) dX12_rateOf_17 ?_
      refine r_aload_n hX dX12_rateOf_18 0 rfl ?_
      refine r_get hX fl_X12_61 (w_111 _ _ _) rfl dX12_rateOf_19 ?_
      refine r_iload_n hX dX12_rateOf_22 1 rfl ?_
      obtain ⟨b4, hf⟩ := chk_eq hf
      refine r_iald hX (w_129 _ _ _) (inb_in b4) dX12_rateOf_23 ?_
      refine r_bipush hX (40 : Int32) dX12_rateOf_24 rfl ?_
      obtain ⟨μ5, h6, hf⟩ := bd1_eq hf
      refine r_callVV (Ok.le hX (by omega)) (c_m_begin_127 (d := d)  h6) cv_X12_133 (w_111 _ _ _) rfl rfl (st := []) rfl rfl rfl dX12_rateOf_26 (fun dy => ?_)
      refine r_aload_n hX dX12_rateOf_29 0 rfl ?_
      refine r_iload_n hX dX12_rateOf_30 1 rfl ?_
      obtain ⟨μ7, e8, hf⟩ := bnd_eq hf
      refine r_put hX fl_X12_301 ft_X12_31 (w_111 _ _ _) rfl rfl rfl (s_111_31 _ _ _ _) e8 rfl dX12_rateOf_31 ?_
      refine r_aload_n hX dX12_rateOf_34 0 rfl ?_
      refine r_iload_n hX dX12_rateOf_35 2 rfl ?_
      obtain ⟨μ9, e10, hf⟩ := bnd_eq hf
      refine r_put hX fl_X12_64 ft_X12_32 (w_111 _ _ _) rfl rfl rfl (s_111_32 _ _ _ _) e10 rfl dX12_rateOf_36 ?_
      refine r_aload_n hX dX12_rateOf_39 0 rfl ?_
      refine r_iload_n hX dX12_rateOf_40 3 rfl ?_
      obtain ⟨μ11, e12, hf⟩ := bnd_eq hf
      refine r_put hX fl_X12_298 ft_X12_33 (w_111 _ _ _) rfl rfl rfl (s_111_33 _ _ _ _) e12 rfl dX12_rateOf_41 ?_
      refine r_aload_n hX dX12_rateOf_44 0 rfl ?_
      refine r_iconst hX (0 : Int32) dX12_rateOf_45 rfl ?_
      obtain ⟨v15, μ13, h14, hf⟩ := bd2_eq hf
      refine r_callVI (Ok.le hX (by omega)) (c_m_held (d := d + 4 * 50) (fun _ _ _ h9 => c_m_thing (d := d) 50 h9) h14) cv_X12_291 (w_111 _ _ _) rfl rfl (st := []) rfl rfl rfl dX12_rateOf_46 (fun dy => ?_)
      exact fin_I hf hr _ _ _ dX12_rateOf_49
    · rw [if_neg hc3] at hf
      by_cases hc16 : x1 = 1
      · rw [if_pos hc16] at hf
        refine r_aald hX (w_126 _ _ _) (b := gA (xG X) 128) rfl rfl (by rw [hc16]; exact inb_in rfl) (by rw [hc16]; rfl) dX12_rateOf_17 ?_
        refine r_aload_n hX dX12_rateOf_18 0 rfl ?_
        refine r_get hX fl_X12_61 (w_111 _ _ _) rfl dX12_rateOf_19 ?_
        refine r_iload_n hX dX12_rateOf_22 1 rfl ?_
        obtain ⟨b17, hf⟩ := chk_eq hf
        refine r_iald hX (w_129 _ _ _) (inb_in b17) dX12_rateOf_23 ?_
        refine r_bipush hX (40 : Int32) dX12_rateOf_24 rfl ?_
        obtain ⟨μ18, h19, hf⟩ := bd1_eq hf
        refine r_callVV (Ok.le hX (by omega)) (c_m_begin_128 (d := d)  h19) cv_X12_133 (w_111 _ _ _) rfl rfl (st := []) rfl rfl rfl dX12_rateOf_26 (fun dy => ?_)
        refine r_aload_n hX dX12_rateOf_29 0 rfl ?_
        refine r_iload_n hX dX12_rateOf_30 1 rfl ?_
        obtain ⟨μ20, e21, hf⟩ := bnd_eq hf
        refine r_put hX fl_X12_301 ft_X12_31 (w_111 _ _ _) rfl rfl rfl (s_111_31 _ _ _ _) e21 rfl dX12_rateOf_31 ?_
        refine r_aload_n hX dX12_rateOf_34 0 rfl ?_
        refine r_iload_n hX dX12_rateOf_35 2 rfl ?_
        obtain ⟨μ22, e23, hf⟩ := bnd_eq hf
        refine r_put hX fl_X12_64 ft_X12_32 (w_111 _ _ _) rfl rfl rfl (s_111_32 _ _ _ _) e23 rfl dX12_rateOf_36 ?_
        refine r_aload_n hX dX12_rateOf_39 0 rfl ?_
        refine r_iload_n hX dX12_rateOf_40 3 rfl ?_
        obtain ⟨μ24, e25, hf⟩ := bnd_eq hf
        refine r_put hX fl_X12_298 ft_X12_33 (w_111 _ _ _) rfl rfl rfl (s_111_33 _ _ _ _) e25 rfl dX12_rateOf_41 ?_
        refine r_aload_n hX dX12_rateOf_44 0 rfl ?_
        refine r_iconst hX (0 : Int32) dX12_rateOf_45 rfl ?_
        obtain ⟨v28, μ26, h27, hf⟩ := bd2_eq hf
        refine r_callVI (Ok.le hX (by omega)) (c_m_held (d := d + 4 * 50) (fun _ _ _ h9 => c_m_thing (d := d) 50 h9) h27) cv_X12_291 (w_111 _ _ _) rfl rfl (st := []) rfl rfl rfl dX12_rateOf_46 (fun dy => ?_)
        exact fin_I hf hr _ _ _ dX12_rateOf_49
      · rw [if_neg hc16] at hf
        exact nomatch hf
  · rw [if_pos hc2] at hf
    refine r_iconst hX (0 : Int32) dX12_rateOf_9 rfl ?_
    exact fin_I hf hr _ _ _ dX12_rateOf_10
theorem dX12_rates_0 : decode cX12_rates 0 = .ok (.aload_n 0, 1) := by decide +kernel
theorem dX12_rates_1 : decode cX12_rates 1 = .ok (.iconst 0, 1) := by decide +kernel
theorem dX12_rates_2 : decode cX12_rates 2 = .ok (.putfield 80, 3) := by decide +kernel
theorem dX12_rates_5 : decode cX12_rates 5 = .ok (.iload_n 1, 1) := by decide +kernel
theorem dX12_rates_6 : decode cX12_rates 6 = .ok (.iconst 0, 1) := by decide +kernel
theorem dX12_rates_7 : decode cX12_rates 7 = .ok (.iconst 1, 1) := by decide +kernel
theorem dX12_rates_8 : decode cX12_rates 8 = .ok (.invokestatic 89, 3) := by decide +kernel
theorem dX12_rates_11 : decode cX12_rates 11 = .ok (.ifCond .eq 24, 3) := by decide +kernel
theorem dX12_rates_14 : decode cX12_rates 14 = .ok (.aload_n 0, 1) := by decide +kernel
theorem dX12_rates_15 : decode cX12_rates 15 = .ok (.iload_n 2, 1) := by decide +kernel
theorem dX12_rates_16 : decode cX12_rates 16 = .ok (.invokevirtual 157, 3) := by decide +kernel
theorem dX12_rates_19 : decode cX12_rates 19 = .ok (.ifCond .eq 16, 3) := by decide +kernel
theorem dX12_rates_22 : decode cX12_rates 22 = .ok (.aload_n 0, 1) := by decide +kernel
theorem dX12_rates_23 : decode cX12_rates 23 = .ok (.iload_n 1, 1) := by decide +kernel
theorem dX12_rates_24 : decode cX12_rates 24 = .ok (.iload_n 2, 1) := by decide +kernel
theorem dX12_rates_25 : decode cX12_rates 25 = .ok (.aload_n 0, 1) := by decide +kernel
theorem dX12_rates_26 : decode cX12_rates 26 = .ok (.invokevirtual 137, 3) := by decide +kernel
theorem dX12_rates_29 : decode cX12_rates 29 = .ok (.invokevirtual 304, 3) := by decide +kernel
theorem dX12_rates_32 : decode cX12_rates 32 = .ok (.goto 7, 3) := by decide +kernel
theorem dX12_rates_35 : decode cX12_rates 35 = .ok (.aload_n 0, 1) := by decide +kernel
theorem dX12_rates_36 : decode cX12_rates 36 = .ok (.invokevirtual 161, 3) := by decide +kernel
theorem dX12_rates_39 : decode cX12_rates 39 = .ok (.ireturn, 1) := by decide +kernel
set_option maxHeartbeats 4000000 in
set_option maxRecDepth 20000 in
theorem b_m_rates_b35 {X : Cx} {d : Nat} (hX : Ok M_m_rates (d + 213) X) {r : Int32 × Mem} (hr : RetI M_m_rates X r.1 r.2)  (μ : Mem) (dy : Nat → Nat) (hf : f_m_rates_b35  μ = some r) : AW X 35 [(0, .ref (gA (xG X) 111))] [] μ dy := by
  unfold f_m_rates_b35 at hf
  refine r_aload_n hX dX12_rates_35 0 rfl ?_
  obtain ⟨v9, μ7, h8, hf⟩ := bd2_eq hf
  refine r_callVI (Ok.le hX (by omega)) (c_m_lost (d := d)  h8) cv_X12_161 (w_111 _ _ _) rfl rfl (st := []) rfl rfl rfl dX12_rates_36 (fun dy => ?_)
  exact fin_I hf hr _ _ _ dX12_rates_39
set_option maxHeartbeats 4000000 in
set_option maxRecDepth 20000 in
theorem c_m_rates {G : Gx} {d : Nat} {x1 : Int32} {x2 : Int32} {μ : Mem} {r : Int32 × Mem} (hf : f_m_rates x1 x2 μ = some r) : Con G M_m_rates (d + 213) [.ref (gA G 111), .int x1, .int x2] μ (some (.int r.1), r.2) := by
  refine Con.ofI ⟨rfl, rfl, Nat.le_of_ble_eq_true rfl⟩ rfl rfl (fun X hG hX hr dy => ?_)
  subst hG
  show AW X 0 [(0, .ref (gA (xG X) 111)), (1, .int x1), (2, .int x2)] [] μ dy
  unfold f_m_rates at hf
  refine r_aload_n hX dX12_rates_0 0 rfl ?_
  refine r_iconst hX (0 : Int32) dX12_rates_1 rfl ?_
  obtain ⟨μ1, e2, hf⟩ := bnd_eq hf
  refine r_put hX fl_X12_80 ft_X12_11 (w_111 _ _ _) rfl rfl rfl (s_111_11 _ _ _ _) e2 rfl dX12_rates_2 ?_
  refine r_iload_n hX dX12_rates_5 1 rfl ?_
  refine r_iconst hX (0 : Int32) dX12_rates_6 rfl ?_
  refine r_iconst hX (1 : Int32) dX12_rates_7 rfl ?_
  obtain ⟨v5, μ3, h4, hf⟩ := bd2_eq hf
  refine r_callSI (Ok.le hX (by omega)) (c_m_in (d := d)  h4) cs_X12_89 (st := []) rfl rfl rfl dX12_rates_8 (fun dy => ?_)
  refine r_if_eq hX 35 dX12_rates_11 rfl (fun hc6 => ?_) (fun hc6 => ?_)
  · rw [if_pos hc6] at hf
    refine r_weak [0] rfl ?_
    exact b_m_rates_b35 hX hr _ _ hf
  · rw [if_neg hc6] at hf
    refine r_aload_n hX dX12_rates_14 0 rfl ?_
    refine r_iload_n hX dX12_rates_15 2 rfl ?_
    obtain ⟨v12, μ10, h11, hf⟩ := bd2_eq hf
    refine r_callVI (Ok.le hX (by omega)) (c_m_isOne (d := d)  h11) cv_X12_157 (w_111 _ _ _) rfl rfl (st := []) rfl rfl rfl dX12_rates_16 (fun dy => ?_)
    refine r_if_eq hX 35 dX12_rates_19 rfl (fun hc13 => ?_) (fun hc13 => ?_)
    · rw [if_pos hc13] at hf
      refine r_weak [0] rfl ?_
      exact b_m_rates_b35 hX hr _ _ hf
    · rw [if_neg hc13] at hf
      refine r_aload_n hX dX12_rates_22 0 rfl ?_
      refine r_iload_n hX dX12_rates_23 1 rfl ?_
      refine r_iload_n hX dX12_rates_24 2 rfl ?_
      refine r_aload_n hX dX12_rates_25 0 rfl ?_
      obtain ⟨v16, μ14, h15, hf⟩ := bd2_eq hf
      refine r_callVI (Ok.le hX (by omega)) (c_m_now (d := d)  h15) cv_X12_137 (w_111 _ _ _) rfl rfl (st := [.int x2, .int x1, .ref (gA (xG X) 111)]) rfl rfl rfl dX12_rates_26 (fun dy => ?_)
      obtain ⟨v19, μ17, h18, hf⟩ := bd2_eq hf
      refine r_callVI (Ok.le hX (by omega)) (c_m_rateOf (d := d)  h18) cv_X12_304 (w_111 _ _ _) rfl rfl (st := []) rfl rfl rfl dX12_rates_29 (fun dy => ?_)
      refine r_goto hX 39 dX12_rates_32 rfl ?_
      exact fin_I hf hr _ _ _ dX12_rates_39
theorem dX12_canWin_0 : decode cX12_canWin 0 = .ok (.iload_n 2, 1) := by decide +kernel
theorem dX12_canWin_1 : decode cX12_canWin 1 = .ok (.iconst (-1), 1) := by decide +kernel
theorem dX12_canWin_2 : decode cX12_canWin 2 = .ok (.if_icmp .eq 32, 3) := by decide +kernel
theorem dX12_canWin_5 : decode cX12_canWin 5 = .ok (.aload_n 0, 1) := by decide +kernel
theorem dX12_canWin_6 : decode cX12_canWin 6 = .ok (.getfield 140, 3) := by decide +kernel
theorem dX12_canWin_9 : decode cX12_canWin 9 = .ok (.iload_n 2, 1) := by decide +kernel
theorem dX12_canWin_10 : decode cX12_canWin 10 = .ok (.invokestatic 164, 3) := by decide +kernel
theorem dX12_canWin_13 : decode cX12_canWin 13 = .ok (.ifCond .ne 25, 3) := by decide +kernel
theorem dX12_canWin_16 : decode cX12_canWin 16 = .ok (.iload_n 3, 1) := by decide +kernel
theorem dX12_canWin_17 : decode cX12_canWin 17 = .ok (.iload_n 2, 1) := by decide +kernel
theorem dX12_canWin_18 : decode cX12_canWin 18 = .ok (.invokestatic 164, 3) := by decide +kernel
theorem dX12_canWin_21 : decode cX12_canWin 21 = .ok (.iload_n 1, 1) := by decide +kernel
theorem dX12_canWin_22 : decode cX12_canWin 22 = .ok (.iconst 1, 1) := by decide +kernel
theorem dX12_canWin_23 : decode cX12_canWin 23 = .ok (.if_icmp .ne 7, 3) := by decide +kernel
theorem dX12_canWin_26 : decode cX12_canWin 26 = .ok (.iconst 1, 1) := by decide +kernel
theorem dX12_canWin_27 : decode cX12_canWin 27 = .ok (.goto 4, 3) := by decide +kernel
theorem dX12_canWin_30 : decode cX12_canWin 30 = .ok (.iconst 0, 1) := by decide +kernel
theorem dX12_canWin_31 : decode cX12_canWin 31 = .ok (.if_icmp .eq 7, 3) := by decide +kernel
theorem dX12_canWin_34 : decode cX12_canWin 34 = .ok (.iconst 1, 1) := by decide +kernel
theorem dX12_canWin_35 : decode cX12_canWin 35 = .ok (.goto 4, 3) := by decide +kernel
theorem dX12_canWin_38 : decode cX12_canWin 38 = .ok (.iconst 0, 1) := by decide +kernel
theorem dX12_canWin_39 : decode cX12_canWin 39 = .ok (.ireturn, 1) := by decide +kernel
set_option maxHeartbeats 4000000 in
set_option maxRecDepth 20000 in
theorem b_m_canWin_b34 {X : Cx} {d : Nat} (hX : Ok M_m_canWin (d + 1) X) {r : Int32 × Mem} (hr : RetZ M_m_canWin X r.1 r.2)  (μ : Mem) (dy : Nat → Nat) (hf : f_m_canWin_b34  μ = some r) : AW X 34 [] [] μ dy := by
  unfold f_m_canWin_b34 at hf
  refine r_iconst hX (1 : Int32) dX12_canWin_34 rfl ?_
  refine r_goto hX 39 dX12_canWin_35 rfl ?_
  obtain ⟨b2, hf⟩ := chk_eq hf
  exact fin_Z hf hr _ _ _ (zb_nar b2) dX12_canWin_39
set_option maxHeartbeats 4000000 in
set_option maxRecDepth 20000 in
theorem c_m_canWin {G : Gx} {d : Nat} {x1 : Int32} {x2 : Int32} {x3 : Int32} {μ : Mem} {r : Int32 × Mem} (hf : f_m_canWin x1 x2 x3 μ = some r) : Con G M_m_canWin (d + 1) [.ref (gA G 111), .int x1, .int x2, .int x3] μ (some (.int r.1), r.2) := by
  refine Con.ofZ ⟨rfl, rfl, Nat.le_of_ble_eq_true rfl⟩ rfl (fun X hG hX hr dy => ?_)
  subst hG
  show AW X 0 [(0, .ref (gA (xG X) 111)), (1, .int x1), (2, .int x2), (3, .int x3)] [] μ dy
  unfold f_m_canWin at hf
  refine r_iload_n hX dX12_canWin_0 2 rfl ?_
  refine r_iconst hX (-1 : Int32) dX12_canWin_1 rfl ?_
  refine r_icmp_eq hX 34 dX12_canWin_2 rfl (fun hc1 => ?_) (fun hc1 => ?_)
  · rw [if_pos hc1] at hf
    refine r_weak [] rfl ?_
    exact b_m_canWin_b34 hX hr _ _ hf
  · rw [if_neg hc1] at hf
    refine r_aload_n hX dX12_canWin_5 0 rfl ?_
    refine r_get hX fl_X12_140 (w_111 _ _ _) rfl dX12_canWin_6 ?_
    refine r_iload_n hX dX12_canWin_9 2 rfl ?_
    obtain ⟨v5, μ3, h4, hf⟩ := bd2_eq hf
    refine r_callSI (Ok.le hX (by omega)) (c_m_has (d := d)  h4) cs_X12_164 (st := []) rfl rfl rfl dX12_canWin_10 (fun dy => ?_)
    refine r_if_ne hX 38 dX12_canWin_13 rfl (fun hc6 => ?_) (fun hc6 => ?_)
    · rw [if_neg hc6] at hf
      refine r_iconst hX (0 : Int32) dX12_canWin_38 rfl ?_
      obtain ⟨b7, hf⟩ := chk_eq hf
      exact fin_Z hf hr _ _ _ (zb_nar b7) dX12_canWin_39
    · rw [if_pos hc6] at hf
      refine r_iload_n hX dX12_canWin_16 3 rfl ?_
      refine r_iload_n hX dX12_canWin_17 2 rfl ?_
      obtain ⟨v10, μ8, h9, hf⟩ := bd2_eq hf
      refine r_callSI (Ok.le hX (by omega)) (c_m_has (d := d)  h9) cs_X12_164 (st := []) rfl rfl rfl dX12_canWin_18 (fun dy => ?_)
      refine r_iload_n hX dX12_canWin_21 1 rfl ?_
      refine r_iconst hX (1 : Int32) dX12_canWin_22 rfl ?_
      obtain ⟨v11, e12, hf⟩ := bnd_eq hf
      have J13 : AW X 31 [(0, .ref (gA (xG X) 111)), (1, .int x1), (2, .int x2), (3, .int x3)] [.int v11, .int v10] μ8 dy := by
        obtain ⟨v14, e15, hf⟩ := bnd_eq hf
        have J16 : AW X 39 [(0, .ref (gA (xG X) 111)), (1, .int x1), (2, .int x2), (3, .int x3)] [.int v14] μ8 dy := by
          obtain ⟨b17, hf⟩ := chk_eq hf
          exact fin_Z hf hr _ _ _ (zb_nar b17) dX12_canWin_39
        refine r_icmp_eq hX 38 dX12_canWin_31 rfl (fun hc18 => ?_) (fun hc18 => ?_)
        · refine r_iconst hX (0 : Int32) dX12_canWin_38 rfl ?_
          exact r_topI (e15.trans (by rw [if_pos hc18])) J16
        · refine r_iconst hX (1 : Int32) dX12_canWin_34 rfl ?_
          refine r_goto hX 39 dX12_canWin_35 rfl ?_
          exact r_topI (e15.trans (by rw [if_neg hc18])) J16
      refine r_icmp_ne hX 30 dX12_canWin_23 rfl (fun hc19 => ?_) (fun hc19 => ?_)
      · refine r_iconst hX (0 : Int32) dX12_canWin_30 rfl ?_
        exact r_topI (e12.trans (by rw [if_neg hc19])) J13
      · refine r_iconst hX (1 : Int32) dX12_canWin_26 rfl ?_
        refine r_goto hX 31 dX12_canWin_27 rfl ?_
        exact r_topI (e12.trans (by rw [if_pos hc19])) J13
theorem dX12_pick_0 : decode cX12_pick 0 = .ok (.bipush (-2), 2) := by decide +kernel
theorem dX12_pick_2 : decode cX12_pick 2 = .ok (.istore_n 3, 1) := by decide +kernel
theorem dX12_pick_3 : decode cX12_pick 3 = .ok (.iconst 0, 1) := by decide +kernel
theorem dX12_pick_4 : decode cX12_pick 4 = .ok (.istore 4, 2) := by decide +kernel
theorem dX12_pick_6 : decode cX12_pick 6 = .ok (.iconst 0, 1) := by decide +kernel
theorem dX12_pick_7 : decode cX12_pick 7 = .ok (.istore 5, 2) := by decide +kernel
theorem dX12_pick_9 : decode cX12_pick 9 = .ok (.iload 5, 2) := by decide +kernel
theorem dX12_pick_11 : decode cX12_pick 11 = .ok (.aload_n 0, 1) := by decide +kernel
theorem dX12_pick_12 : decode cX12_pick 12 = .ok (.getfield 86, 3) := by decide +kernel
theorem dX12_pick_15 : decode cX12_pick 15 = .ok (.if_icmp .ge 54, 3) := by decide +kernel
theorem dX12_pick_18 : decode cX12_pick 18 = .ok (.aload_n 0, 1) := by decide +kernel
theorem dX12_pick_19 : decode cX12_pick 19 = .ok (.iload_n 1, 1) := by decide +kernel
theorem dX12_pick_20 : decode cX12_pick 20 = .ok (.iload 5, 2) := by decide +kernel
theorem dX12_pick_22 : decode cX12_pick 22 = .ok (.iload_n 2, 1) := by decide +kernel
theorem dX12_pick_23 : decode cX12_pick 23 = .ok (.invokevirtual 307, 3) := by decide +kernel
theorem dX12_pick_26 : decode cX12_pick 26 = .ok (.ifCond .ne 6, 3) := by decide +kernel
theorem dX12_pick_29 : decode cX12_pick 29 = .ok (.goto 34, 3) := by decide +kernel
theorem dX12_pick_32 : decode cX12_pick 32 = .ok (.aload_n 0, 1) := by decide +kernel
theorem dX12_pick_33 : decode cX12_pick 33 = .ok (.iload_n 1, 1) := by decide +kernel
theorem dX12_pick_34 : decode cX12_pick 34 = .ok (.iload 5, 2) := by decide +kernel
theorem dX12_pick_36 : decode cX12_pick 36 = .ok (.iload_n 2, 1) := by decide +kernel
theorem dX12_pick_37 : decode cX12_pick 37 = .ok (.invokevirtual 304, 3) := by decide +kernel
theorem dX12_pick_40 : decode cX12_pick 40 = .ok (.istore 6, 2) := by decide +kernel
theorem dX12_pick_42 : decode cX12_pick 42 = .ok (.iload_n 3, 1) := by decide +kernel
theorem dX12_pick_43 : decode cX12_pick 43 = .ok (.ifCond .lt 13, 3) := by decide +kernel
theorem dX12_pick_46 : decode cX12_pick 46 = .ok (.iload 6, 2) := by decide +kernel
theorem dX12_pick_48 : decode cX12_pick 48 = .ok (.iload 4, 2) := by decide +kernel
theorem dX12_pick_50 : decode cX12_pick 50 = .ok (.if_icmp .gt 6, 3) := by decide +kernel
theorem dX12_pick_53 : decode cX12_pick 53 = .ok (.goto 10, 3) := by decide +kernel
theorem dX12_pick_56 : decode cX12_pick 56 = .ok (.iload 5, 2) := by decide +kernel
theorem dX12_pick_58 : decode cX12_pick 58 = .ok (.istore_n 3, 1) := by decide +kernel
theorem dX12_pick_59 : decode cX12_pick 59 = .ok (.iload 6, 2) := by decide +kernel
theorem dX12_pick_61 : decode cX12_pick 61 = .ok (.istore 4, 2) := by decide +kernel
theorem dX12_pick_63 : decode cX12_pick 63 = .ok (.iinc 5 1, 3) := by decide +kernel
theorem dX12_pick_66 : decode cX12_pick 66 = .ok (.goto (-57), 3) := by decide +kernel
theorem dX12_pick_69 : decode cX12_pick 69 = .ok (.iload_n 3, 1) := by decide +kernel
theorem dX12_pick_70 : decode cX12_pick 70 = .ok (.ireturn, 1) := by decide +kernel
set_option maxHeartbeats 4000000 in
set_option maxRecDepth 20000 in
theorem b_m_pick_b56 {X : Cx} {d : Nat} (hX : Ok M_m_pick (d + 213) X) {r : Int32 × Mem} (hr : RetI M_m_pick X r.1 r.2) {k9 : Int32 → Int32 → Int32 → Int32 → Int32 → Mem → Option (Int32 × Mem)} (hk9 : ∀ (x1 : Int32) (x2 : Int32) (x3 : Int32) (x4 : Int32) (x5 : Int32) (μ : Mem) (dy : Nat → Nat), k9 x1 x2 x3 x4 x5 μ = some r → AW X 9 [(0, .ref (gA (xG X) 111)), (1, .int x1), (2, .int x2), (3, .int x3), (4, .int x4), (5, .int x5)] [] μ dy) (x1 : Int32) (x2 : Int32) (x5 : Int32) (x6 : Int32) (μ : Mem) (dy : Nat → Nat) (hf : f_m_pick_b56 k9 x1 x2 x5 x6 μ = some r) : AW X 56 [(0, .ref (gA (xG X) 111)), (1, .int x1), (2, .int x2), (5, .int x5), (6, .int x6)] [] μ dy := by
  unfold f_m_pick_b56 at hf
  refine r_iload hX dX12_pick_56 3 rfl ?_
  refine r_istore_n hX dX12_pick_58 rfl (ls' := [(3, .int x5), (0, .ref (gA (xG X) 111)), (1, .int x1), (2, .int x2), (5, .int x5), (6, .int x6)]) rfl ?_
  refine r_iload hX dX12_pick_59 5 rfl ?_
  refine r_istore hX dX12_pick_61 rfl (ls' := [(4, .int x6), (3, .int x5), (0, .ref (gA (xG X) 111)), (1, .int x1), (2, .int x2), (5, .int x5), (6, .int x6)]) rfl ?_
  refine r_iinc hX (x5 + (1 : Int32)) dX12_pick_63 5 rfl rfl rfl (ls' := [(5, .int (x5 + (1 : Int32))), (4, .int x6), (3, .int x5), (0, .ref (gA (xG X) 111)), (1, .int x1), (2, .int x2), (6, .int x6)]) rfl ?_
  refine r_goto hX 9 dX12_pick_66 rfl ?_
  refine r_weak [3, 4, 5, 2, 1, 0] rfl ?_
  exact hk9 _ _ _ _ _ _ _ hf
set_option maxHeartbeats 4000000 in
set_option maxRecDepth 20000 in
theorem b_m_pick_b9 {X : Cx} {d : Nat} (hX : Ok M_m_pick (d + 213) X) {r : Int32 × Mem} (hr : RetI M_m_pick X r.1 r.2) : ∀ (n : Nat) (x1 : Int32) (x2 : Int32) (x3 : Int32) (x4 : Int32) (x5 : Int32) (μ : Mem) (dy : Nat → Nat), f_m_pick_b9 n x1 x2 x3 x4 x5 μ = some r → AW X 9 [(0, .ref (gA (xG X) 111)), (1, .int x1), (2, .int x2), (3, .int x3), (4, .int x4), (5, .int x5)] [] μ dy := by
  intro n
  induction n with
  | zero => intro x1 x2 x3 x4 x5 μ dy hf; exact nomatch hf
  | succ n ih =>
    intro x1 x2 x3 x4 x5 μ dy hf
    rw [f_m_pick_b9] at hf
    refine r_iload hX dX12_pick_9 5 rfl ?_
    refine r_aload_n hX dX12_pick_11 0 rfl ?_
    refine r_get hX fl_X12_86 (w_111 _ _ _) rfl dX12_pick_12 ?_
    refine r_icmp_ge hX 69 dX12_pick_15 rfl (fun hc1 => ?_) (fun hc1 => ?_)
    · rw [if_pos hc1] at hf
      refine r_iload_n hX dX12_pick_69 3 rfl ?_
      exact fin_I hf hr _ _ _ dX12_pick_70
    · rw [if_neg hc1] at hf
      refine r_aload_n hX dX12_pick_18 0 rfl ?_
      refine r_iload_n hX dX12_pick_19 1 rfl ?_
      refine r_iload hX dX12_pick_20 5 rfl ?_
      refine r_iload_n hX dX12_pick_22 2 rfl ?_
      obtain ⟨v4, μ2, h3, hf⟩ := bd2_eq hf
      refine r_callVI (Ok.le hX (by omega)) (c_m_canWin (d := d)  h3) cv_X12_307 (w_111 _ _ _) rfl rfl (st := []) rfl rfl rfl dX12_pick_23 (fun dy => ?_)
      refine r_if_ne hX 32 dX12_pick_26 rfl (fun hc5 => ?_) (fun hc5 => ?_)
      · rw [if_neg hc5] at hf
        refine r_aload_n hX dX12_pick_32 0 rfl ?_
        refine r_iload_n hX dX12_pick_33 1 rfl ?_
        refine r_iload hX dX12_pick_34 5 rfl ?_
        refine r_iload_n hX dX12_pick_36 2 rfl ?_
        obtain ⟨v8, μ6, h7, hf⟩ := bd2_eq hf
        refine r_callVI (Ok.le hX (by omega)) (c_m_rateOf (d := d)  h7) cv_X12_304 (w_111 _ _ _) rfl rfl (st := []) rfl rfl rfl dX12_pick_37 (fun dy => ?_)
        refine r_istore hX dX12_pick_40 rfl (ls' := [(6, .int v8), (0, .ref (gA (xG X) 111)), (1, .int x1), (2, .int x2), (3, .int x3), (4, .int x4), (5, .int x5)]) rfl ?_
        refine r_iload_n hX dX12_pick_42 4 rfl ?_
        refine r_if_lt hX 56 dX12_pick_43 rfl (fun hc9 => ?_) (fun hc9 => ?_)
        · rw [if_pos hc9] at hf
          refine r_weak [1, 2, 3, 6, 0] rfl ?_
          exact b_m_pick_b56 hX hr ih _ _ _ _ _ _ hf
        · rw [if_neg hc9] at hf
          refine r_iload hX dX12_pick_46 0 rfl ?_
          refine r_iload hX dX12_pick_48 5 rfl ?_
          refine r_icmp_gt hX 56 dX12_pick_50 rfl (fun hc10 => ?_) (fun hc10 => ?_)
          · rw [if_pos hc10] at hf
            refine r_weak [1, 2, 3, 6, 0] rfl ?_
            exact b_m_pick_b56 hX hr ih _ _ _ _ _ _ hf
          · rw [if_neg hc10] at hf
            refine r_goto hX 63 dX12_pick_53 rfl ?_
            refine r_iinc hX (x5 + (1 : Int32)) dX12_pick_63 6 rfl rfl rfl (ls' := [(5, .int (x5 + (1 : Int32))), (6, .int v8), (0, .ref (gA (xG X) 111)), (1, .int x1), (2, .int x2), (3, .int x3), (4, .int x4)]) rfl ?_
            refine r_goto hX 9 dX12_pick_66 rfl ?_
            refine r_weak [2, 3, 4, 5, 6, 0] rfl ?_
            exact ih _ _ _ _ _ _ _ hf
      · rw [if_pos hc5] at hf
        refine r_goto hX 63 dX12_pick_29 rfl ?_
        refine r_iinc hX (x5 + (1 : Int32)) dX12_pick_63 5 rfl rfl rfl (ls' := [(5, .int (x5 + (1 : Int32))), (0, .ref (gA (xG X) 111)), (1, .int x1), (2, .int x2), (3, .int x3), (4, .int x4)]) rfl ?_
        refine r_goto hX 9 dX12_pick_66 rfl ?_
        refine r_weak [1, 2, 3, 4, 5, 0] rfl ?_
        exact ih _ _ _ _ _ _ _ hf
set_option maxHeartbeats 4000000 in
set_option maxRecDepth 20000 in
theorem c_m_pick {G : Gx} {d : Nat} {x1 : Int32} {x2 : Int32} {μ : Mem} {r : Int32 × Mem} (hf : f_m_pick x1 x2 μ = some r) : Con G M_m_pick (d + 213) [.ref (gA G 111), .int x1, .int x2] μ (some (.int r.1), r.2) := by
  refine Con.ofI ⟨rfl, rfl, Nat.le_of_ble_eq_true rfl⟩ rfl rfl (fun X hG hX hr dy => ?_)
  subst hG
  show AW X 0 [(0, .ref (gA (xG X) 111)), (1, .int x1), (2, .int x2)] [] μ dy
  unfold f_m_pick at hf
  refine r_bipush hX (-2 : Int32) dX12_pick_0 rfl ?_
  refine r_istore_n hX dX12_pick_2 rfl (ls' := [(3, .int (-2 : Int32)), (0, .ref (gA (xG X) 111)), (1, .int x1), (2, .int x2)]) rfl ?_
  refine r_iconst hX (0 : Int32) dX12_pick_3 rfl ?_
  refine r_istore hX dX12_pick_4 rfl (ls' := [(4, .int (0 : Int32)), (3, .int (-2 : Int32)), (0, .ref (gA (xG X) 111)), (1, .int x1), (2, .int x2)]) rfl ?_
  refine r_iconst hX (0 : Int32) dX12_pick_6 rfl ?_
  refine r_istore hX dX12_pick_7 rfl (ls' := [(5, .int (0 : Int32)), (4, .int (0 : Int32)), (3, .int (-2 : Int32)), (0, .ref (gA (xG X) 111)), (1, .int x1), (2, .int x2)]) rfl ?_
  refine r_weak [3, 4, 5, 2, 1, 0] rfl ?_
  exact b_m_pick_b9 hX hr FU _ _ _ _ _ _ _ hf
theorem dX12_picks_0 : decode cX12_picks 0 = .ok (.aload_n 0, 1) := by decide +kernel
theorem dX12_picks_1 : decode cX12_picks 1 = .ok (.iconst 0, 1) := by decide +kernel
theorem dX12_picks_2 : decode cX12_picks 2 = .ok (.putfield 80, 3) := by decide +kernel
theorem dX12_picks_5 : decode cX12_picks 5 = .ok (.iload_n 1, 1) := by decide +kernel
theorem dX12_picks_6 : decode cX12_picks 6 = .ok (.iconst 0, 1) := by decide +kernel
theorem dX12_picks_7 : decode cX12_picks 7 = .ok (.iconst 1, 1) := by decide +kernel
theorem dX12_picks_8 : decode cX12_picks 8 = .ok (.invokestatic 89, 3) := by decide +kernel
theorem dX12_picks_11 : decode cX12_picks 11 = .ok (.ifCond .eq 15, 3) := by decide +kernel
theorem dX12_picks_14 : decode cX12_picks 14 = .ok (.aload_n 0, 1) := by decide +kernel
theorem dX12_picks_15 : decode cX12_picks 15 = .ok (.iload_n 1, 1) := by decide +kernel
theorem dX12_picks_16 : decode cX12_picks 16 = .ok (.aload_n 0, 1) := by decide +kernel
theorem dX12_picks_17 : decode cX12_picks 17 = .ok (.invokevirtual 137, 3) := by decide +kernel
theorem dX12_picks_20 : decode cX12_picks 20 = .ok (.invokevirtual 310, 3) := by decide +kernel
theorem dX12_picks_23 : decode cX12_picks 23 = .ok (.goto 4, 3) := by decide +kernel
theorem dX12_picks_26 : decode cX12_picks 26 = .ok (.iconst (-1), 1) := by decide +kernel
theorem dX12_picks_27 : decode cX12_picks 27 = .ok (.ireturn, 1) := by decide +kernel
set_option maxHeartbeats 4000000 in
set_option maxRecDepth 20000 in
theorem c_m_picks {G : Gx} {d : Nat} {x1 : Int32} {μ : Mem} {r : Int32 × Mem} (hf : f_m_picks x1 μ = some r) : Con G M_m_picks (d + 214) [.ref (gA G 111), .int x1] μ (some (.int r.1), r.2) := by
  refine Con.ofI ⟨rfl, rfl, Nat.le_of_ble_eq_true rfl⟩ rfl rfl (fun X hG hX hr dy => ?_)
  subst hG
  show AW X 0 [(0, .ref (gA (xG X) 111)), (1, .int x1)] [] μ dy
  unfold f_m_picks at hf
  refine r_aload_n hX dX12_picks_0 0 rfl ?_
  refine r_iconst hX (0 : Int32) dX12_picks_1 rfl ?_
  obtain ⟨μ1, e2, hf⟩ := bnd_eq hf
  refine r_put hX fl_X12_80 ft_X12_11 (w_111 _ _ _) rfl rfl rfl (s_111_11 _ _ _ _) e2 rfl dX12_picks_2 ?_
  refine r_iload_n hX dX12_picks_5 1 rfl ?_
  refine r_iconst hX (0 : Int32) dX12_picks_6 rfl ?_
  refine r_iconst hX (1 : Int32) dX12_picks_7 rfl ?_
  obtain ⟨v5, μ3, h4, hf⟩ := bd2_eq hf
  refine r_callSI (Ok.le hX (by omega)) (c_m_in (d := d)  h4) cs_X12_89 (st := []) rfl rfl rfl dX12_picks_8 (fun dy => ?_)
  refine r_if_eq hX 26 dX12_picks_11 rfl (fun hc6 => ?_) (fun hc6 => ?_)
  · rw [if_pos hc6] at hf
    refine r_iconst hX (-1 : Int32) dX12_picks_26 rfl ?_
    exact fin_I hf hr _ _ _ dX12_picks_27
  · rw [if_neg hc6] at hf
    refine r_aload_n hX dX12_picks_14 0 rfl ?_
    refine r_iload_n hX dX12_picks_15 1 rfl ?_
    refine r_aload_n hX dX12_picks_16 0 rfl ?_
    obtain ⟨v9, μ7, h8, hf⟩ := bd2_eq hf
    refine r_callVI (Ok.le hX (by omega)) (c_m_now (d := d)  h8) cv_X12_137 (w_111 _ _ _) rfl rfl (st := [.int x1, .ref (gA (xG X) 111)]) rfl rfl rfl dX12_picks_17 (fun dy => ?_)
    obtain ⟨v12, μ10, h11, hf⟩ := bd2_eq hf
    refine r_callVI (Ok.le hX (by omega)) (c_m_pick (d := d)  h11) cv_X12_310 (w_111 _ _ _) rfl rfl (st := []) rfl rfl rfl dX12_picks_20 (fun dy => ?_)
    refine r_goto hX 27 dX12_picks_23 rfl ?_
    exact fin_I hf hr _ _ _ dX12_picks_27
theorem dX12_won_0 : decode cX12_won 0 = .ok (.iload_n 1, 1) := by decide +kernel
theorem dX12_won_1 : decode cX12_won 1 = .ok (.ifCond .ge 7, 3) := by decide +kernel
theorem dX12_won_4 : decode cX12_won 4 = .ok (.iload_n 0, 1) := by decide +kernel
theorem dX12_won_5 : decode cX12_won 5 = .ok (.goto 8, 3) := by decide +kernel
theorem dX12_won_8 : decode cX12_won 8 = .ok (.iload_n 0, 1) := by decide +kernel
theorem dX12_won_9 : decode cX12_won 9 = .ok (.iconst 1, 1) := by decide +kernel
theorem dX12_won_10 : decode cX12_won 10 = .ok (.iload_n 1, 1) := by decide +kernel
theorem dX12_won_11 : decode cX12_won 11 = .ok (.ishl, 1) := by decide +kernel
theorem dX12_won_12 : decode cX12_won 12 = .ok (.ixor, 1) := by decide +kernel
theorem dX12_won_13 : decode cX12_won 13 = .ok (.ireturn, 1) := by decide +kernel
set_option maxHeartbeats 4000000 in
set_option maxRecDepth 20000 in
theorem c_m_won {G : Gx} {d : Nat} {x0 : Int32} {x1 : Int32} {μ : Mem} {r : Int32 × Mem} (hf : f_m_won x0 x1 μ = some r) : Con G M_m_won (d + 0) [.int x0, .int x1] μ (some (.int r.1), r.2) := by
  refine Con.ofI ⟨rfl, rfl, Nat.le_of_ble_eq_true rfl⟩ rfl rfl (fun X hG hX hr dy => ?_)
  subst hG
  show AW X 0 [(0, .int x0), (1, .int x1)] [] μ dy
  unfold f_m_won at hf
  refine r_iload_n hX dX12_won_0 1 rfl ?_
  obtain ⟨v1, e2, hf⟩ := bnd_eq hf
  have J3 : AW X 13 [(0, .int x0), (1, .int x1)] [.int v1] μ dy := by
    exact fin_I hf hr _ _ _ dX12_won_13
  refine r_if_ge hX 8 dX12_won_1 rfl (fun hc4 => ?_) (fun hc4 => ?_)
  · refine r_iload_n hX dX12_won_8 0 rfl ?_
    refine r_iconst hX (1 : Int32) dX12_won_9 rfl ?_
    refine r_iload_n hX dX12_won_10 1 rfl ?_
    refine r_ishl hX dX12_won_11 ?_
    refine r_ixor hX dX12_won_12 ?_
    exact r_topI (e2.trans (by rw [if_pos hc4])) J3
  · refine r_iload_n hX dX12_won_4 0 rfl ?_
    refine r_goto hX 13 dX12_won_5 rfl ?_
    exact r_topI (e2.trans (by rw [if_neg hc4])) J3
theorem dX12_market_0 : decode cX12_market 0 = .ok (.aload_n 0, 1) := by decide +kernel
theorem dX12_market_1 : decode cX12_market 1 = .ok (.iconst 0, 1) := by decide +kernel
theorem dX12_market_2 : decode cX12_market 2 = .ok (.putfield 80, 3) := by decide +kernel
theorem dX12_market_5 : decode cX12_market 5 = .ok (.iload_n 1, 1) := by decide +kernel
theorem dX12_market_6 : decode cX12_market 6 = .ok (.iconst 0, 1) := by decide +kernel
theorem dX12_market_7 : decode cX12_market 7 = .ok (.bipush 60, 2) := by decide +kernel
theorem dX12_market_9 : decode cX12_market 9 = .ok (.invokestatic 89, 3) := by decide +kernel
theorem dX12_market_12 : decode cX12_market 12 = .ok (.ifCond .ne 5, 3) := by decide +kernel
theorem dX12_market_15 : decode cX12_market 15 = .ok (.iconst (-1), 1) := by decide +kernel
theorem dX12_market_16 : decode cX12_market 16 = .ok (.ireturn, 1) := by decide +kernel
theorem dX12_market_17 : decode cX12_market 17 = .ok (.aload_n 0, 1) := by decide +kernel
theorem dX12_market_18 : decode cX12_market 18 = .ok (.invokevirtual 137, 3) := by decide +kernel
theorem dX12_market_21 : decode cX12_market 21 = .ok (.istore_n 2, 1) := by decide +kernel
theorem dX12_market_22 : decode cX12_market 22 = .ok (.lconst 0, 1) := by decide +kernel
theorem dX12_market_23 : decode cX12_market 23 = .ok (.lstore_n 3, 1) := by decide +kernel
theorem dX12_market_24 : decode cX12_market 24 = .ok (.lconst 0, 1) := by decide +kernel
theorem dX12_market_25 : decode cX12_market 25 = .ok (.lstore 5, 2) := by decide +kernel
theorem dX12_market_27 : decode cX12_market 27 = .ok (.iconst 0, 1) := by decide +kernel
theorem dX12_market_28 : decode cX12_market 28 = .ok (.istore 7, 2) := by decide +kernel
theorem dX12_market_30 : decode cX12_market 30 = .ok (.iload 7, 2) := by decide +kernel
theorem dX12_market_32 : decode cX12_market 32 = .ok (.iload_n 1, 1) := by decide +kernel
theorem dX12_market_33 : decode cX12_market 33 = .ok (.if_icmp .ge 87, 3) := by decide +kernel
theorem dX12_market_36 : decode cX12_market 36 = .ok (.aload_n 0, 1) := by decide +kernel
theorem dX12_market_37 : decode cX12_market 37 = .ok (.iconst 1, 1) := by decide +kernel
theorem dX12_market_38 : decode cX12_market 38 = .ok (.iload_n 2, 1) := by decide +kernel
theorem dX12_market_39 : decode cX12_market 39 = .ok (.invokevirtual 310, 3) := by decide +kernel
theorem dX12_market_42 : decode cX12_market 42 = .ok (.istore 8, 2) := by decide +kernel
theorem dX12_market_44 : decode cX12_market 44 = .ok (.iload_n 2, 1) := by decide +kernel
theorem dX12_market_45 : decode cX12_market 45 = .ok (.iload 8, 2) := by decide +kernel
theorem dX12_market_47 : decode cX12_market 47 = .ok (.invokestatic 313, 3) := by decide +kernel
theorem dX12_market_50 : decode cX12_market 50 = .ok (.istore_n 2, 1) := by decide +kernel
theorem dX12_market_51 : decode cX12_market 51 = .ok (.lload 5, 2) := by decide +kernel
theorem dX12_market_53 : decode cX12_market 53 = .ok (.iload 8, 2) := by decide +kernel
theorem dX12_market_55 : decode cX12_market 55 = .ok (.ifCond .ge 7, 3) := by decide +kernel
theorem dX12_market_58 : decode cX12_market 58 = .ok (.lconst 0, 1) := by decide +kernel
theorem dX12_market_59 : decode cX12_market 59 = .ok (.goto 11, 3) := by decide +kernel
theorem dX12_market_62 : decode cX12_market 62 = .ok (.aload_n 0, 1) := by decide +kernel
theorem dX12_market_63 : decode cX12_market 63 = .ok (.getfield 13, 3) := by decide +kernel
theorem dX12_market_66 : decode cX12_market 66 = .ok (.iload 8, 2) := by decide +kernel
theorem dX12_market_68 : decode cX12_market 68 = .ok (.iaload, 1) := by decide +kernel
theorem dX12_market_69 : decode cX12_market 69 = .ok (.i2l, 1) := by decide +kernel
theorem dX12_market_70 : decode cX12_market 70 = .ok (.ladd, 1) := by decide +kernel
theorem dX12_market_71 : decode cX12_market 71 = .ok (.lstore 5, 2) := by decide +kernel
theorem dX12_market_73 : decode cX12_market 73 = .ok (.aload_n 0, 1) := by decide +kernel
theorem dX12_market_74 : decode cX12_market 74 = .ok (.iconst 0, 1) := by decide +kernel
theorem dX12_market_75 : decode cX12_market 75 = .ok (.iload_n 2, 1) := by decide +kernel
theorem dX12_market_76 : decode cX12_market 76 = .ok (.invokevirtual 310, 3) := by decide +kernel
theorem dX12_market_79 : decode cX12_market 79 = .ok (.istore 9, 2) := by decide +kernel
theorem dX12_market_81 : decode cX12_market 81 = .ok (.iload_n 2, 1) := by decide +kernel
theorem dX12_market_82 : decode cX12_market 82 = .ok (.iload 9, 2) := by decide +kernel
theorem dX12_market_84 : decode cX12_market 84 = .ok (.invokestatic 313, 3) := by decide +kernel
theorem dX12_market_87 : decode cX12_market 87 = .ok (.istore_n 2, 1) := by decide +kernel
theorem dX12_market_88 : decode cX12_market 88 = .ok (.lload_n 3, 1) := by decide +kernel
theorem dX12_market_89 : decode cX12_market 89 = .ok (.iload 9, 2) := by decide +kernel
theorem dX12_market_91 : decode cX12_market 91 = .ok (.ifCond .ge 7, 3) := by decide +kernel
theorem dX12_market_94 : decode cX12_market 94 = .ok (.lconst 0, 1) := by decide +kernel
theorem dX12_market_95 : decode cX12_market 95 = .ok (.goto 11, 3) := by decide +kernel
theorem dX12_market_98 : decode cX12_market 98 = .ok (.aload_n 0, 1) := by decide +kernel
theorem dX12_market_99 : decode cX12_market 99 = .ok (.getfield 13, 3) := by decide +kernel
theorem dX12_market_102 : decode cX12_market 102 = .ok (.iload 9, 2) := by decide +kernel
theorem dX12_market_104 : decode cX12_market 104 = .ok (.iaload, 1) := by decide +kernel
theorem dX12_market_105 : decode cX12_market 105 = .ok (.i2l, 1) := by decide +kernel
theorem dX12_market_106 : decode cX12_market 106 = .ok (.ladd, 1) := by decide +kernel
theorem dX12_market_107 : decode cX12_market 107 = .ok (.lstore_n 3, 1) := by decide +kernel
theorem dX12_market_108 : decode cX12_market 108 = .ok (.aload_n 0, 1) := by decide +kernel
theorem dX12_market_109 : decode cX12_market 109 = .ok (.iload_n 2, 1) := by decide +kernel
theorem dX12_market_110 : decode cX12_market 110 = .ok (.invokevirtual 190, 3) := by decide +kernel
theorem dX12_market_113 : decode cX12_market 113 = .ok (.istore_n 2, 1) := by decide +kernel
theorem dX12_market_114 : decode cX12_market 114 = .ok (.iinc 7 1, 3) := by decide +kernel
theorem dX12_market_117 : decode cX12_market 117 = .ok (.goto (-87), 3) := by decide +kernel
theorem dX12_market_120 : decode cX12_market 120 = .ok (.aload_n 0, 1) := by decide +kernel
theorem dX12_market_121 : decode cX12_market 121 = .ok (.iconst 0, 1) := by decide +kernel
theorem dX12_market_122 : decode cX12_market 122 = .ok (.putfield 83, 3) := by decide +kernel
theorem dX12_market_125 : decode cX12_market 125 = .ok (.aload_n 0, 1) := by decide +kernel
theorem dX12_market_126 : decode cX12_market 126 = .ok (.iload_n 2, 1) := by decide +kernel
theorem dX12_market_127 : decode cX12_market 127 = .ok (.i2l, 1) := by decide +kernel
theorem dX12_market_128 : decode cX12_market 128 = .ok (.invokevirtual 217, 3) := by decide +kernel
theorem dX12_market_131 : decode cX12_market 131 = .ok (.aload_n 0, 1) := by decide +kernel
theorem dX12_market_132 : decode cX12_market 132 = .ok (.lload_n 3, 1) := by decide +kernel
theorem dX12_market_133 : decode cX12_market 133 = .ok (.invokevirtual 217, 3) := by decide +kernel
theorem dX12_market_136 : decode cX12_market 136 = .ok (.aload_n 0, 1) := by decide +kernel
theorem dX12_market_137 : decode cX12_market 137 = .ok (.lload 5, 2) := by decide +kernel
theorem dX12_market_139 : decode cX12_market 139 = .ok (.invokevirtual 217, 3) := by decide +kernel
theorem dX12_market_142 : decode cX12_market 142 = .ok (.iload_n 2, 1) := by decide +kernel
theorem dX12_market_143 : decode cX12_market 143 = .ok (.invokestatic 244, 3) := by decide +kernel
theorem dX12_market_146 : decode cX12_market 146 = .ok (.ireturn, 1) := by decide +kernel
set_option maxHeartbeats 4000000 in
set_option maxRecDepth 20000 in
theorem b_m_market_b106 {X : Cx} {d : Nat} (hX : Ok M_m_market (d + 214) X) {r : Int32 × Mem} (hr : RetI M_m_market X r.1 r.2) {k30 : Int32 → Int32 → Int64 → Int64 → Int32 → Mem → Option (Int32 × Mem)} (hk30 : ∀ (x1 : Int32) (x2 : Int32) (y3 : Int64) (y5 : Int64) (x7 : Int32) (μ : Mem) (dy : Nat → Nat), k30 x1 x2 y3 y5 x7 μ = some r → AW X 30 [(0, .ref (gA (xG X) 111)), (1, .int x1), (2, .int x2), (3, .long y3), (5, .long y5), (7, .int x7)] [] μ dy) (x1 : Int32) (x2 : Int32) (y5 : Int64) (x7 : Int32) (z0 : Int64) (z1 : Int64) (μ : Mem) (dy : Nat → Nat) (hf : f_m_market_b106 k30 x1 x2 y5 x7 z0 z1 μ = some r) : AW X 106 [(0, .ref (gA (xG X) 111)), (1, .int x1), (2, .int x2), (5, .long y5), (7, .int x7)] [.long z1, .long z0] μ dy := by
  unfold f_m_market_b106 at hf
  refine r_ladd hX dX12_market_106 ?_
  refine r_lstore_n hX dX12_market_107 rfl (ls' := [(3, .long (z0 + z1)), (0, .ref (gA (xG X) 111)), (1, .int x1), (2, .int x2), (5, .long y5), (7, .int x7)]) rfl ?_
  refine r_aload_n hX dX12_market_108 1 rfl ?_
  refine r_iload_n hX dX12_market_109 3 rfl ?_
  obtain ⟨v40, μ38, h39, hf⟩ := bd2_eq hf
  refine r_callVI (Ok.le hX (by omega)) (c_m_next (d := d)  h39) cv_X12_190 (w_111 _ _ _) rfl rfl (st := []) rfl rfl rfl dX12_market_110 (fun dy => ?_)
  refine r_istore_n hX dX12_market_113 rfl (ls' := [(2, .int v40), (3, .long (z0 + z1)), (0, .ref (gA (xG X) 111)), (1, .int x1), (5, .long y5), (7, .int x7)]) rfl ?_
  refine r_iinc hX (x7 + (1 : Int32)) dX12_market_114 5 rfl rfl rfl (ls' := [(7, .int (x7 + (1 : Int32))), (2, .int v40), (3, .long (z0 + z1)), (0, .ref (gA (xG X) 111)), (1, .int x1), (5, .long y5)]) rfl ?_
  refine r_goto hX 30 dX12_market_117 rfl ?_
  refine r_weak [3, 4, 1, 2, 5, 0] rfl ?_
  exact hk30 _ _ _ _ _ _ _ hf
set_option maxHeartbeats 4000000 in
set_option maxRecDepth 20000 in
theorem b_m_market_b70 {X : Cx} {d : Nat} (hX : Ok M_m_market (d + 214) X) {r : Int32 × Mem} (hr : RetI M_m_market X r.1 r.2) {k30 : Int32 → Int32 → Int64 → Int64 → Int32 → Mem → Option (Int32 × Mem)} (hk30 : ∀ (x1 : Int32) (x2 : Int32) (y3 : Int64) (y5 : Int64) (x7 : Int32) (μ : Mem) (dy : Nat → Nat), k30 x1 x2 y3 y5 x7 μ = some r → AW X 30 [(0, .ref (gA (xG X) 111)), (1, .int x1), (2, .int x2), (3, .long y3), (5, .long y5), (7, .int x7)] [] μ dy) (x1 : Int32) (x2 : Int32) (y3 : Int64) (x7 : Int32) (z0 : Int64) (z1 : Int64) (μ : Mem) (dy : Nat → Nat) (hf : f_m_market_b70 k30 x1 x2 y3 x7 z0 z1 μ = some r) : AW X 70 [(0, .ref (gA (xG X) 111)), (1, .int x1), (2, .int x2), (3, .long y3), (7, .int x7)] [.long z1, .long z0] μ dy := by
  unfold f_m_market_b70 at hf
  refine r_ladd hX dX12_market_70 ?_
  refine r_lstore hX dX12_market_71 rfl (ls' := [(5, .long (z0 + z1)), (0, .ref (gA (xG X) 111)), (1, .int x1), (2, .int x2), (3, .long y3), (7, .int x7)]) rfl ?_
  refine r_aload_n hX dX12_market_73 1 rfl ?_
  refine r_iconst hX (0 : Int32) dX12_market_74 rfl ?_
  refine r_iload_n hX dX12_market_75 3 rfl ?_
  obtain ⟨v32, μ30, h31, hf⟩ := bd2_eq hf
  refine r_callVI (Ok.le hX (by omega)) (c_m_pick (d := d)  h31) cv_X12_310 (w_111 _ _ _) rfl rfl (st := []) rfl rfl rfl dX12_market_76 (fun dy => ?_)
  refine r_istore hX dX12_market_79 rfl (ls' := [(9, .int v32), (5, .long (z0 + z1)), (0, .ref (gA (xG X) 111)), (1, .int x1), (2, .int x2), (3, .long y3), (7, .int x7)]) rfl ?_
  refine r_iload_n hX dX12_market_81 4 rfl ?_
  refine r_iload hX dX12_market_82 0 rfl ?_
  obtain ⟨v35, μ33, h34, hf⟩ := bd2_eq hf
  refine r_callSI (Ok.le hX (by omega)) (c_m_won (d := d)  h34) cs_X12_313 (st := []) rfl rfl rfl dX12_market_84 (fun dy => ?_)
  refine r_istore_n hX dX12_market_87 rfl (ls' := [(2, .int v35), (9, .int v32), (5, .long (z0 + z1)), (0, .ref (gA (xG X) 111)), (1, .int x1), (3, .long y3), (7, .int x7)]) rfl ?_
  refine r_lload_n hX dX12_market_88 5 rfl ?_
  refine r_iload hX dX12_market_89 1 rfl ?_
  refine r_if_ge hX 98 dX12_market_91 rfl (fun hc36 => ?_) (fun hc36 => ?_)
  · rw [if_pos hc36] at hf
    refine r_aload_n hX dX12_market_98 3 rfl ?_
    refine r_get hX fl_X12_13 (w_111 _ _ _) rfl dX12_market_99 ?_
    refine r_iload hX dX12_market_102 1 rfl ?_
    obtain ⟨b37, hf⟩ := chk_eq hf
    refine r_iald hX (w_113 _ _ _) (inb_in b37) dX12_market_104 ?_
    refine r_i2l hX dX12_market_105 ?_
    refine r_weak [3, 4, 0, 2, 6] rfl ?_
    exact b_m_market_b106 hX hr hk30 _ _ _ _ _ _ _ _ hf
  · rw [if_neg hc36] at hf
    refine r_lconst hX (0 : Int64) dX12_market_94 rfl ?_
    refine r_goto hX 106 dX12_market_95 rfl ?_
    refine r_weak [3, 4, 0, 2, 6] rfl ?_
    exact b_m_market_b106 hX hr hk30 _ _ _ _ _ _ _ _ hf
set_option maxHeartbeats 4000000 in
set_option maxRecDepth 20000 in
theorem b_m_market_b30 {X : Cx} {d : Nat} (hX : Ok M_m_market (d + 214) X) {r : Int32 × Mem} (hr : RetI M_m_market X r.1 r.2) : ∀ (n : Nat) (x1 : Int32) (x2 : Int32) (y3 : Int64) (y5 : Int64) (x7 : Int32) (μ : Mem) (dy : Nat → Nat), f_m_market_b30 n x1 x2 y3 y5 x7 μ = some r → AW X 30 [(0, .ref (gA (xG X) 111)), (1, .int x1), (2, .int x2), (3, .long y3), (5, .long y5), (7, .int x7)] [] μ dy := by
  intro n
  induction n with
  | zero => intro x1 x2 y3 y5 x7 μ dy hf; exact nomatch hf
  | succ n ih =>
    intro x1 x2 y3 y5 x7 μ dy hf
    rw [f_m_market_b30] at hf
    refine r_iload hX dX12_market_30 5 rfl ?_
    refine r_iload_n hX dX12_market_32 1 rfl ?_
    refine r_icmp_ge hX 120 dX12_market_33 rfl (fun hc10 => ?_) (fun hc10 => ?_)
    · rw [if_pos hc10] at hf
      refine r_aload_n hX dX12_market_120 0 rfl ?_
      refine r_iconst hX (0 : Int32) dX12_market_121 rfl ?_
      obtain ⟨μ11, e12, hf⟩ := bnd_eq hf
      refine r_put hX fl_X12_83 ft_X12_10 (w_111 _ _ _) rfl rfl rfl (s_111_10 _ _ _ _) e12 rfl dX12_market_122 ?_
      refine r_aload_n hX dX12_market_125 0 rfl ?_
      refine r_iload_n hX dX12_market_126 2 rfl ?_
      refine r_i2l hX dX12_market_127 ?_
      obtain ⟨μ13, h14, hf⟩ := bd1_eq hf
      refine r_callVV (Ok.le hX (by omega)) (c_m_tell (d := d)  h14) cv_X12_217 (w_111 _ _ _) rfl rfl (st := []) rfl rfl rfl dX12_market_128 (fun dy => ?_)
      refine r_aload_n hX dX12_market_131 0 rfl ?_
      refine r_lload_n hX dX12_market_132 3 rfl ?_
      obtain ⟨μ15, h16, hf⟩ := bd1_eq hf
      refine r_callVV (Ok.le hX (by omega)) (c_m_tell (d := d)  h16) cv_X12_217 (w_111 _ _ _) rfl rfl (st := []) rfl rfl rfl dX12_market_133 (fun dy => ?_)
      refine r_aload_n hX dX12_market_136 0 rfl ?_
      refine r_lload hX dX12_market_137 4 rfl ?_
      obtain ⟨μ17, h18, hf⟩ := bd1_eq hf
      refine r_callVV (Ok.le hX (by omega)) (c_m_tell (d := d)  h18) cv_X12_217 (w_111 _ _ _) rfl rfl (st := []) rfl rfl rfl dX12_market_139 (fun dy => ?_)
      refine r_iload_n hX dX12_market_142 2 rfl ?_
      obtain ⟨v21, μ19, h20, hf⟩ := bd2_eq hf
      refine r_callSI (Ok.le hX (by omega)) (c_jd_bitCount (d := d)  h20) cs_X12_244 (st := []) rfl rfl rfl dX12_market_143 (fun dy => ?_)
      exact fin_I hf hr _ _ _ dX12_market_146
    · rw [if_neg hc10] at hf
      refine r_aload_n hX dX12_market_36 0 rfl ?_
      refine r_iconst hX (1 : Int32) dX12_market_37 rfl ?_
      refine r_iload_n hX dX12_market_38 2 rfl ?_
      obtain ⟨v24, μ22, h23, hf⟩ := bd2_eq hf
      refine r_callVI (Ok.le hX (by omega)) (c_m_pick (d := d)  h23) cv_X12_310 (w_111 _ _ _) rfl rfl (st := []) rfl rfl rfl dX12_market_39 (fun dy => ?_)
      refine r_istore hX dX12_market_42 rfl (ls' := [(8, .int v24), (0, .ref (gA (xG X) 111)), (1, .int x1), (2, .int x2), (3, .long y3), (5, .long y5), (7, .int x7)]) rfl ?_
      refine r_iload_n hX dX12_market_44 3 rfl ?_
      refine r_iload hX dX12_market_45 0 rfl ?_
      obtain ⟨v27, μ25, h26, hf⟩ := bd2_eq hf
      refine r_callSI (Ok.le hX (by omega)) (c_m_won (d := d)  h26) cs_X12_313 (st := []) rfl rfl rfl dX12_market_47 (fun dy => ?_)
      refine r_istore_n hX dX12_market_50 rfl (ls' := [(2, .int v27), (8, .int v24), (0, .ref (gA (xG X) 111)), (1, .int x1), (3, .long y3), (5, .long y5), (7, .int x7)]) rfl ?_
      refine r_lload hX dX12_market_51 5 rfl ?_
      refine r_iload hX dX12_market_53 1 rfl ?_
      refine r_if_ge hX 62 dX12_market_55 rfl (fun hc28 => ?_) (fun hc28 => ?_)
      · rw [if_pos hc28] at hf
        refine r_aload_n hX dX12_market_62 2 rfl ?_
        refine r_get hX fl_X12_13 (w_111 _ _ _) rfl dX12_market_63 ?_
        refine r_iload hX dX12_market_66 1 rfl ?_
        obtain ⟨b29, hf⟩ := chk_eq hf
        refine r_iald hX (w_113 _ _ _) (inb_in b29) dX12_market_68 ?_
        refine r_i2l hX dX12_market_69 ?_
        refine r_weak [2, 3, 0, 4, 6] rfl ?_
        exact b_m_market_b70 hX hr ih _ _ _ _ _ _ _ _ hf
      · rw [if_neg hc28] at hf
        refine r_lconst hX (0 : Int64) dX12_market_58 rfl ?_
        refine r_goto hX 70 dX12_market_59 rfl ?_
        refine r_weak [2, 3, 0, 4, 6] rfl ?_
        exact b_m_market_b70 hX hr ih _ _ _ _ _ _ _ _ hf
set_option maxHeartbeats 4000000 in
set_option maxRecDepth 20000 in
theorem c_m_market {G : Gx} {d : Nat} {x1 : Int32} {μ : Mem} {r : Int32 × Mem} (hf : f_m_market x1 μ = some r) : Con G M_m_market (d + 214) [.ref (gA G 111), .int x1] μ (some (.int r.1), r.2) := by
  refine Con.ofI ⟨rfl, rfl, Nat.le_of_ble_eq_true rfl⟩ rfl rfl (fun X hG hX hr dy => ?_)
  subst hG
  show AW X 0 [(0, .ref (gA (xG X) 111)), (1, .int x1)] [] μ dy
  unfold f_m_market at hf
  refine r_aload_n hX dX12_market_0 0 rfl ?_
  refine r_iconst hX (0 : Int32) dX12_market_1 rfl ?_
  obtain ⟨μ1, e2, hf⟩ := bnd_eq hf
  refine r_put hX fl_X12_80 ft_X12_11 (w_111 _ _ _) rfl rfl rfl (s_111_11 _ _ _ _) e2 rfl dX12_market_2 ?_
  refine r_iload_n hX dX12_market_5 1 rfl ?_
  refine r_iconst hX (0 : Int32) dX12_market_6 rfl ?_
  refine r_bipush hX (60 : Int32) dX12_market_7 rfl ?_
  obtain ⟨v5, μ3, h4, hf⟩ := bd2_eq hf
  refine r_callSI (Ok.le hX (by omega)) (c_m_in (d := d)  h4) cs_X12_89 (st := []) rfl rfl rfl dX12_market_9 (fun dy => ?_)
  refine r_if_ne hX 17 dX12_market_12 rfl (fun hc6 => ?_) (fun hc6 => ?_)
  · rw [if_neg hc6] at hf
    refine r_aload_n hX dX12_market_17 0 rfl ?_
    obtain ⟨v9, μ7, h8, hf⟩ := bd2_eq hf
    refine r_callVI (Ok.le hX (by omega)) (c_m_now (d := d)  h8) cv_X12_137 (w_111 _ _ _) rfl rfl (st := []) rfl rfl rfl dX12_market_18 (fun dy => ?_)
    refine r_istore_n hX dX12_market_21 rfl (ls' := [(2, .int v9), (0, .ref (gA (xG X) 111)), (1, .int x1)]) rfl ?_
    refine r_lconst hX (0 : Int64) dX12_market_22 rfl ?_
    refine r_lstore_n hX dX12_market_23 rfl (ls' := [(3, .long (0 : Int64)), (2, .int v9), (0, .ref (gA (xG X) 111)), (1, .int x1)]) rfl ?_
    refine r_lconst hX (0 : Int64) dX12_market_24 rfl ?_
    refine r_lstore hX dX12_market_25 rfl (ls' := [(5, .long (0 : Int64)), (3, .long (0 : Int64)), (2, .int v9), (0, .ref (gA (xG X) 111)), (1, .int x1)]) rfl ?_
    refine r_iconst hX (0 : Int32) dX12_market_27 rfl ?_
    refine r_istore hX dX12_market_28 rfl (ls' := [(7, .int (0 : Int32)), (5, .long (0 : Int64)), (3, .long (0 : Int64)), (2, .int v9), (0, .ref (gA (xG X) 111)), (1, .int x1)]) rfl ?_
    refine r_weak [4, 5, 3, 2, 1, 0] rfl ?_
    exact b_m_market_b30 hX hr FU _ _ _ _ _ _ _ hf
  · rw [if_pos hc6] at hf
    refine r_iconst hX (-1 : Int32) dX12_market_15 rfl ?_
    exact fin_I hf hr _ _ _ dX12_market_16
theorem dX12_answered_0 : decode cX12_answered 0 = .ok (.iload_n 3, 1) := by decide +kernel
theorem dX12_answered_1 : decode cX12_answered 1 = .ok (.ifCond .eq 26, 3) := by decide +kernel
theorem dX12_answered_4 : decode cX12_answered 4 = .ok (.aload_n 0, 1) := by decide +kernel
theorem dX12_answered_5 : decode cX12_answered 5 = .ok (.aload_n 0, 1) := by decide +kernel
theorem dX12_answered_6 : decode cX12_answered 6 = .ok (.iload_n 1, 1) := by decide +kernel
theorem dX12_answered_7 : decode cX12_answered 7 = .ok (.aload_n 0, 1) := by decide +kernel
theorem dX12_answered_8 : decode cX12_answered 8 = .ok (.iconst 0, 1) := by decide +kernel
theorem dX12_answered_9 : decode cX12_answered 9 = .ok (.iload_n 1, 1) := by decide +kernel
theorem dX12_answered_10 : decode cX12_answered 10 = .ok (.invokevirtual 310, 3) := by decide +kernel
theorem dX12_answered_13 : decode cX12_answered 13 = .ok (.invokestatic 313, 3) := by decide +kernel
theorem dX12_answered_16 : decode cX12_answered 16 = .ok (.invokevirtual 190, 3) := by decide +kernel
theorem dX12_answered_19 : decode cX12_answered 19 = .ok (.iload_n 2, 1) := by decide +kernel
theorem dX12_answered_20 : decode cX12_answered 20 = .ok (.iconst 1, 1) := by decide +kernel
theorem dX12_answered_21 : decode cX12_answered 21 = .ok (.isub, 1) := by decide +kernel
theorem dX12_answered_22 : decode cX12_answered 22 = .ok (.iconst 1, 1) := by decide +kernel
theorem dX12_answered_23 : decode cX12_answered 23 = .ok (.invokevirtual 319, 3) := by decide +kernel
theorem dX12_answered_26 : decode cX12_answered 26 = .ok (.ireturn, 1) := by decide +kernel
theorem dX12_answered_27 : decode cX12_answered 27 = .ok (.ldc 237, 2) := by decide +kernel
theorem dX12_answered_29 : decode cX12_answered 29 = .ok (.istore 4, 2) := by decide +kernel
theorem dX12_answered_31 : decode cX12_answered 31 = .ok (.iconst (-1), 1) := by decide +kernel
theorem dX12_answered_32 : decode cX12_answered 32 = .ok (.istore 5, 2) := by decide +kernel
theorem dX12_answered_34 : decode cX12_answered 34 = .ok (.iload 5, 2) := by decide +kernel
theorem dX12_answered_36 : decode cX12_answered 36 = .ok (.aload_n 0, 1) := by decide +kernel
theorem dX12_answered_37 : decode cX12_answered 37 = .ok (.getfield 86, 3) := by decide +kernel
theorem dX12_answered_40 : decode cX12_answered 40 = .ok (.if_icmp .ge 45, 3) := by decide +kernel
theorem dX12_answered_43 : decode cX12_answered 43 = .ok (.aload_n 0, 1) := by decide +kernel
theorem dX12_answered_44 : decode cX12_answered 44 = .ok (.iconst 0, 1) := by decide +kernel
theorem dX12_answered_45 : decode cX12_answered 45 = .ok (.iload 5, 2) := by decide +kernel
theorem dX12_answered_47 : decode cX12_answered 47 = .ok (.iload_n 1, 1) := by decide +kernel
theorem dX12_answered_48 : decode cX12_answered 48 = .ok (.invokevirtual 307, 3) := by decide +kernel
theorem dX12_answered_51 : decode cX12_answered 51 = .ok (.ifCond .eq 28, 3) := by decide +kernel
theorem dX12_answered_54 : decode cX12_answered 54 = .ok (.iload 4, 2) := by decide +kernel
theorem dX12_answered_56 : decode cX12_answered 56 = .ok (.aload_n 0, 1) := by decide +kernel
theorem dX12_answered_57 : decode cX12_answered 57 = .ok (.aload_n 0, 1) := by decide +kernel
theorem dX12_answered_58 : decode cX12_answered 58 = .ok (.iload_n 1, 1) := by decide +kernel
theorem dX12_answered_59 : decode cX12_answered 59 = .ok (.iload 5, 2) := by decide +kernel
theorem dX12_answered_61 : decode cX12_answered 61 = .ok (.invokestatic 313, 3) := by decide +kernel
theorem dX12_answered_64 : decode cX12_answered 64 = .ok (.invokevirtual 190, 3) := by decide +kernel
theorem dX12_answered_67 : decode cX12_answered 67 = .ok (.iload_n 2, 1) := by decide +kernel
theorem dX12_answered_68 : decode cX12_answered 68 = .ok (.iconst 1, 1) := by decide +kernel
theorem dX12_answered_69 : decode cX12_answered 69 = .ok (.isub, 1) := by decide +kernel
theorem dX12_answered_70 : decode cX12_answered 70 = .ok (.iconst 0, 1) := by decide +kernel
theorem dX12_answered_71 : decode cX12_answered 71 = .ok (.invokevirtual 319, 3) := by decide +kernel
theorem dX12_answered_74 : decode cX12_answered 74 = .ok (.invokestatic 175, 3) := by decide +kernel
theorem dX12_answered_77 : decode cX12_answered 77 = .ok (.istore 4, 2) := by decide +kernel
theorem dX12_answered_79 : decode cX12_answered 79 = .ok (.iinc 5 1, 3) := by decide +kernel
theorem dX12_answered_82 : decode cX12_answered 82 = .ok (.goto (-48), 3) := by decide +kernel
theorem dX12_answered_85 : decode cX12_answered 85 = .ok (.iload 4, 2) := by decide +kernel
theorem dX12_answered_87 : decode cX12_answered 87 = .ok (.ireturn, 1) := by decide +kernel
set_option maxHeartbeats 4000000 in
set_option maxRecDepth 20000 in
theorem b_m_answered_b34 {X : Cx} {d : Nat} {R : Int32 → Int32 → Int32 → Mem → Option (Int32 × Mem)} (hR : ∀ (x1 : Int32) (x2 : Int32) (x3 : Int32) (μ : Mem) (r : Int32 × Mem), R x1 x2 x3 μ = some r → Con (xG X) M_m_game (d + 213) [.ref (gA (xG X) 111), .int x1, .int x2, .int x3] μ (some (.int r.1), r.2)) (hX : Ok M_m_answered (d + 214) X) {r : Int32 × Mem} (hr : RetI M_m_answered X r.1 r.2) : ∀ (n : Nat) (x1 : Int32) (x2 : Int32) (x4 : Int32) (x5 : Int32) (μ : Mem) (dy : Nat → Nat), f_m_answered_b34 R n x1 x2 x4 x5 μ = some r → AW X 34 [(0, .ref (gA (xG X) 111)), (1, .int x1), (2, .int x2), (4, .int x4), (5, .int x5)] [] μ dy := by
  intro n
  induction n with
  | zero => intro x1 x2 x4 x5 μ dy hf; exact nomatch hf
  | succ n ih =>
    intro x1 x2 x4 x5 μ dy hf
    rw [f_m_answered_b34] at hf
    refine r_iload hX dX12_answered_34 4 rfl ?_
    refine r_aload_n hX dX12_answered_36 0 rfl ?_
    refine r_get hX fl_X12_86 (w_111 _ _ _) rfl dX12_answered_37 ?_
    refine r_icmp_ge hX 85 dX12_answered_40 rfl (fun hc2 => ?_) (fun hc2 => ?_)
    · rw [if_pos hc2] at hf
      refine r_iload hX dX12_answered_85 3 rfl ?_
      exact fin_I hf hr _ _ _ dX12_answered_87
    · rw [if_neg hc2] at hf
      refine r_aload_n hX dX12_answered_43 0 rfl ?_
      refine r_iconst hX (0 : Int32) dX12_answered_44 rfl ?_
      refine r_iload hX dX12_answered_45 4 rfl ?_
      refine r_iload_n hX dX12_answered_47 1 rfl ?_
      obtain ⟨v5, μ3, h4, hf⟩ := bd2_eq hf
      refine r_callVI (Ok.le hX (by omega)) (c_m_canWin (d := d)  h4) cv_X12_307 (w_111 _ _ _) rfl rfl (st := []) rfl rfl rfl dX12_answered_48 (fun dy => ?_)
      refine r_if_eq hX 79 dX12_answered_51 rfl (fun hc6 => ?_) (fun hc6 => ?_)
      · rw [if_pos hc6] at hf
        refine r_iinc hX (x5 + (1 : Int32)) dX12_answered_79 4 rfl rfl rfl (ls' := [(5, .int (x5 + (1 : Int32))), (0, .ref (gA (xG X) 111)), (1, .int x1), (2, .int x2), (4, .int x4)]) rfl ?_
        refine r_goto hX 34 dX12_answered_82 rfl ?_
        refine r_weak [1, 2, 3, 4, 0] rfl ?_
        exact ih _ _ _ _ _ _ hf
      · rw [if_neg hc6] at hf
        refine r_iload hX dX12_answered_54 3 rfl ?_
        refine r_aload_n hX dX12_answered_56 0 rfl ?_
        refine r_aload_n hX dX12_answered_57 0 rfl ?_
        refine r_iload_n hX dX12_answered_58 1 rfl ?_
        refine r_iload hX dX12_answered_59 4 rfl ?_
        obtain ⟨v9, μ7, h8, hf⟩ := bd2_eq hf
        refine r_callSI (Ok.le hX (by omega)) (c_m_won (d := d)  h8) cs_X12_313 (st := [.ref (gA (xG X) 111), .ref (gA (xG X) 111), .int x4]) rfl rfl rfl dX12_answered_61 (fun dy => ?_)
        obtain ⟨v12, μ10, h11, hf⟩ := bd2_eq hf
        refine r_callVI (Ok.le hX (by omega)) (c_m_next (d := d)  h11) cv_X12_190 (w_111 _ _ _) rfl rfl (st := [.ref (gA (xG X) 111), .int x4]) rfl rfl rfl dX12_answered_64 (fun dy => ?_)
        refine r_iload_n hX dX12_answered_67 2 rfl ?_
        refine r_iconst hX (1 : Int32) dX12_answered_68 rfl ?_
        refine r_isub hX dX12_answered_69 ?_
        refine r_iconst hX (0 : Int32) dX12_answered_70 rfl ?_
        obtain ⟨v15, μ13, h14, hf⟩ := bd2_eq hf
        refine r_callVI (Ok.le hX (by omega)) (hR _ _ _ _ _ h14) cv_X12_319 (w_111 _ _ _) rfl rfl (st := [.int x4]) rfl rfl rfl dX12_answered_71 (fun dy => ?_)
        refine r_min (d := d + 213) (Ok.le hX (by omega)) cs_X12_175 rfl dX12_answered_74 ?_
        refine r_istore hX dX12_answered_77 rfl (ls' := [(4, .int (imin x4 v15)), (0, .ref (gA (xG X) 111)), (1, .int x1), (2, .int x2), (5, .int x5)]) rfl ?_
        refine r_iinc hX (x5 + (1 : Int32)) dX12_answered_79 4 rfl rfl rfl (ls' := [(5, .int (x5 + (1 : Int32))), (4, .int (imin x4 v15)), (0, .ref (gA (xG X) 111)), (1, .int x1), (2, .int x2)]) rfl ?_
        refine r_goto hX 34 dX12_answered_82 rfl ?_
        refine r_weak [2, 3, 4, 1, 0] rfl ?_
        exact ih _ _ _ _ _ _ hf
set_option maxHeartbeats 4000000 in
set_option maxRecDepth 20000 in
theorem c_m_answered {G : Gx} {d : Nat} {R : Int32 → Int32 → Int32 → Mem → Option (Int32 × Mem)} (hR : ∀ (x1 : Int32) (x2 : Int32) (x3 : Int32) (μ : Mem) (r : Int32 × Mem), R x1 x2 x3 μ = some r → Con G M_m_game (d + 213) [.ref (gA G 111), .int x1, .int x2, .int x3] μ (some (.int r.1), r.2)) {x1 : Int32} {x2 : Int32} {x3 : Int32} {μ : Mem} {r : Int32 × Mem} (hf : f_m_answered R x1 x2 x3 μ = some r) : Con G M_m_answered (d + 214) [.ref (gA G 111), .int x1, .int x2, .int x3] μ (some (.int r.1), r.2) := by
  refine Con.ofI ⟨rfl, rfl, Nat.le_of_ble_eq_true rfl⟩ rfl rfl (fun X hG hX hr dy => ?_)
  subst hG
  show AW X 0 [(0, .ref (gA (xG X) 111)), (1, .int x1), (2, .int x2), (3, .int x3)] [] μ dy
  unfold f_m_answered at hf
  refine r_iload_n hX dX12_answered_0 3 rfl ?_
  refine r_if_eq hX 27 dX12_answered_1 rfl (fun hc1 => ?_) (fun hc1 => ?_)
  · rw [if_pos hc1] at hf
    refine r_ldc hX dX12_answered_27 kc_X12_237 ?_
    refine r_istore hX dX12_answered_29 rfl (ls' := [(4, .int (1000000 : Int32)), (0, .ref (gA (xG X) 111)), (1, .int x1), (2, .int x2), (3, .int x3)]) rfl ?_
    refine r_iconst hX (-1 : Int32) dX12_answered_31 rfl ?_
    refine r_istore hX dX12_answered_32 rfl (ls' := [(5, .int (-1 : Int32)), (4, .int (1000000 : Int32)), (0, .ref (gA (xG X) 111)), (1, .int x1), (2, .int x2), (3, .int x3)]) rfl ?_
    refine r_weak [2, 3, 4, 1, 0] rfl ?_
    exact b_m_answered_b34 hR hX hr FU _ _ _ _ _ _ hf
  · rw [if_neg hc1] at hf
    refine r_aload_n hX dX12_answered_4 0 rfl ?_
    refine r_aload_n hX dX12_answered_5 0 rfl ?_
    refine r_iload_n hX dX12_answered_6 1 rfl ?_
    refine r_aload_n hX dX12_answered_7 0 rfl ?_
    refine r_iconst hX (0 : Int32) dX12_answered_8 rfl ?_
    refine r_iload_n hX dX12_answered_9 1 rfl ?_
    obtain ⟨v18, μ16, h17, hf⟩ := bd2_eq hf
    refine r_callVI (Ok.le hX (by omega)) (c_m_pick (d := d)  h17) cv_X12_310 (w_111 _ _ _) rfl rfl (st := [.int x1, .ref (gA (xG X) 111), .ref (gA (xG X) 111)]) rfl rfl rfl dX12_answered_10 (fun dy => ?_)
    obtain ⟨v21, μ19, h20, hf⟩ := bd2_eq hf
    refine r_callSI (Ok.le hX (by omega)) (c_m_won (d := d)  h20) cs_X12_313 (st := [.ref (gA (xG X) 111), .ref (gA (xG X) 111)]) rfl rfl rfl dX12_answered_13 (fun dy => ?_)
    obtain ⟨v24, μ22, h23, hf⟩ := bd2_eq hf
    refine r_callVI (Ok.le hX (by omega)) (c_m_next (d := d)  h23) cv_X12_190 (w_111 _ _ _) rfl rfl (st := [.ref (gA (xG X) 111)]) rfl rfl rfl dX12_answered_16 (fun dy => ?_)
    refine r_iload_n hX dX12_answered_19 2 rfl ?_
    refine r_iconst hX (1 : Int32) dX12_answered_20 rfl ?_
    refine r_isub hX dX12_answered_21 ?_
    refine r_iconst hX (1 : Int32) dX12_answered_22 rfl ?_
    obtain ⟨v27, μ25, h26, hf⟩ := bd2_eq hf
    refine r_callVI (Ok.le hX (by omega)) (hR _ _ _ _ _ h26) cv_X12_319 (w_111 _ _ _) rfl rfl (st := []) rfl rfl rfl dX12_answered_23 (fun dy => ?_)
    exact fin_I hf hr _ _ _ dX12_answered_26
theorem dX12_game_0 : decode cX12_game 0 = .ok (.iload_n 2, 1) := by decide +kernel
theorem dX12_game_1 : decode cX12_game 1 = .ok (.ifCond .ne 8, 3) := by decide +kernel
theorem dX12_game_4 : decode cX12_game 4 = .ok (.iload_n 1, 1) := by decide +kernel
theorem dX12_game_5 : decode cX12_game 5 = .ok (.invokestatic 244, 3) := by decide +kernel
theorem dX12_game_8 : decode cX12_game 8 = .ok (.ireturn, 1) := by decide +kernel
theorem dX12_game_9 : decode cX12_game 9 = .ok (.sipush 16384, 3) := by decide +kernel
theorem dX12_game_12 : decode cX12_game 12 = .ok (.iload_n 2, 1) := by decide +kernel
theorem dX12_game_13 : decode cX12_game 13 = .ok (.imul, 1) := by decide +kernel
theorem dX12_game_14 : decode cX12_game 14 = .ok (.iload_n 1, 1) := by decide +kernel
theorem dX12_game_15 : decode cX12_game 15 = .ok (.iadd, 1) := by decide +kernel
theorem dX12_game_16 : decode cX12_game 16 = .ok (.istore 4, 2) := by decide +kernel
theorem dX12_game_18 : decode cX12_game 18 = .ok (.aload_n 0, 1) := by decide +kernel
theorem dX12_game_19 : decode cX12_game 19 = .ok (.getfield 53, 3) := by decide +kernel
theorem dX12_game_22 : decode cX12_game 22 = .ok (.iload 4, 2) := by decide +kernel
theorem dX12_game_24 : decode cX12_game 24 = .ok (.iaload, 1) := by decide +kernel
theorem dX12_game_25 : decode cX12_game 25 = .ok (.aload_n 0, 1) := by decide +kernel
theorem dX12_game_26 : decode cX12_game 26 = .ok (.getfield 202, 3) := by decide +kernel
theorem dX12_game_29 : decode cX12_game 29 = .ok (.if_icmp .ne 11, 3) := by decide +kernel
theorem dX12_game_32 : decode cX12_game 32 = .ok (.aload_n 0, 1) := by decide +kernel
theorem dX12_game_33 : decode cX12_game 33 = .ok (.getfield 50, 3) := by decide +kernel
theorem dX12_game_36 : decode cX12_game 36 = .ok (.iload 4, 2) := by decide +kernel
theorem dX12_game_38 : decode cX12_game 38 = .ok (.iaload, 1) := by decide +kernel
theorem dX12_game_39 : decode cX12_game 39 = .ok (.ireturn, 1) := by decide +kernel
theorem dX12_game_40 : decode cX12_game 40 = .ok (.iconst (-1), 1) := by decide +kernel
theorem dX12_game_41 : decode cX12_game 41 = .ok (.istore 5, 2) := by decide +kernel
theorem dX12_game_43 : decode cX12_game 43 = .ok (.iconst (-1), 1) := by decide +kernel
theorem dX12_game_44 : decode cX12_game 44 = .ok (.istore 6, 2) := by decide +kernel
theorem dX12_game_46 : decode cX12_game 46 = .ok (.iload 6, 2) := by decide +kernel
theorem dX12_game_48 : decode cX12_game 48 = .ok (.aload_n 0, 1) := by decide +kernel
theorem dX12_game_49 : decode cX12_game 49 = .ok (.getfield 86, 3) := by decide +kernel
theorem dX12_game_52 : decode cX12_game 52 = .ok (.if_icmp .ge 39, 3) := by decide +kernel
theorem dX12_game_55 : decode cX12_game 55 = .ok (.aload_n 0, 1) := by decide +kernel
theorem dX12_game_56 : decode cX12_game 56 = .ok (.iconst 1, 1) := by decide +kernel
theorem dX12_game_57 : decode cX12_game 57 = .ok (.iload 6, 2) := by decide +kernel
theorem dX12_game_59 : decode cX12_game 59 = .ok (.iload_n 1, 1) := by decide +kernel
theorem dX12_game_60 : decode cX12_game 60 = .ok (.invokevirtual 307, 3) := by decide +kernel
theorem dX12_game_63 : decode cX12_game 63 = .ok (.ifCond .eq 22, 3) := by decide +kernel
theorem dX12_game_66 : decode cX12_game 66 = .ok (.iload 5, 2) := by decide +kernel
theorem dX12_game_68 : decode cX12_game 68 = .ok (.aload_n 0, 1) := by decide +kernel
theorem dX12_game_69 : decode cX12_game 69 = .ok (.iload_n 1, 1) := by decide +kernel
theorem dX12_game_70 : decode cX12_game 70 = .ok (.iload 6, 2) := by decide +kernel
theorem dX12_game_72 : decode cX12_game 72 = .ok (.invokestatic 313, 3) := by decide +kernel
theorem dX12_game_75 : decode cX12_game 75 = .ok (.iload_n 2, 1) := by decide +kernel
theorem dX12_game_76 : decode cX12_game 76 = .ok (.iload_n 3, 1) := by decide +kernel
theorem dX12_game_77 : decode cX12_game 77 = .ok (.invokevirtual 316, 3) := by decide +kernel
theorem dX12_game_80 : decode cX12_game 80 = .ok (.invokestatic 181, 3) := by decide +kernel
theorem dX12_game_83 : decode cX12_game 83 = .ok (.istore 5, 2) := by decide +kernel
theorem dX12_game_85 : decode cX12_game 85 = .ok (.iinc 6 1, 3) := by decide +kernel
theorem dX12_game_88 : decode cX12_game 88 = .ok (.goto (-42), 3) := by decide +kernel
theorem dX12_game_91 : decode cX12_game 91 = .ok (.aload_n 0, 1) := by decide +kernel
theorem dX12_game_92 : decode cX12_game 92 = .ok (.getfield 53, 3) := by decide +kernel
theorem dX12_game_95 : decode cX12_game 95 = .ok (.iload 4, 2) := by decide +kernel
theorem dX12_game_97 : decode cX12_game 97 = .ok (.aload_n 0, 1) := by decide +kernel
theorem dX12_game_98 : decode cX12_game 98 = .ok (.getfield 202, 3) := by decide +kernel
theorem dX12_game_101 : decode cX12_game 101 = .ok (.iastore, 1) := by decide +kernel
theorem dX12_game_102 : decode cX12_game 102 = .ok (.aload_n 0, 1) := by decide +kernel
theorem dX12_game_103 : decode cX12_game 103 = .ok (.getfield 50, 3) := by decide +kernel
theorem dX12_game_106 : decode cX12_game 106 = .ok (.iload 4, 2) := by decide +kernel
theorem dX12_game_108 : decode cX12_game 108 = .ok (.iload 5, 2) := by decide +kernel
theorem dX12_game_110 : decode cX12_game 110 = .ok (.iastore, 1) := by decide +kernel
theorem dX12_game_111 : decode cX12_game 111 = .ok (.iload 5, 2) := by decide +kernel
theorem dX12_game_113 : decode cX12_game 113 = .ok (.ireturn, 1) := by decide +kernel
set_option maxHeartbeats 4000000 in
set_option maxRecDepth 20000 in
theorem b_m_game_b46 {X : Cx} {d : Nat} {R : Int32 → Int32 → Int32 → Mem → Option (Int32 × Mem)} (hR : ∀ (x1 : Int32) (x2 : Int32) (x3 : Int32) (μ : Mem) (r : Int32 × Mem), R x1 x2 x3 μ = some r → Con (xG X) M_m_game (d + 213) [.ref (gA (xG X) 111), .int x1, .int x2, .int x3] μ (some (.int r.1), r.2)) (hX : Ok M_m_game (d + 215) X) {r : Int32 × Mem} (hr : RetI M_m_game X r.1 r.2) : ∀ (n : Nat) (x1 : Int32) (x2 : Int32) (x3 : Int32) (x4 : Int32) (x5 : Int32) (x6 : Int32) (μ : Mem) (dy : Nat → Nat), f_m_game_b46 R n x1 x2 x3 x4 x5 x6 μ = some r → AW X 46 [(0, .ref (gA (xG X) 111)), (1, .int x1), (2, .int x2), (3, .int x3), (4, .int x4), (5, .int x5), (6, .int x6)] [] μ dy := by
  intro n
  induction n with
  | zero => intro x1 x2 x3 x4 x5 x6 μ dy hf; exact nomatch hf
  | succ n ih =>
    intro x1 x2 x3 x4 x5 x6 μ dy hf
    rw [f_m_game_b46] at hf
    refine r_iload hX dX12_game_46 6 rfl ?_
    refine r_aload_n hX dX12_game_48 0 rfl ?_
    refine r_get hX fl_X12_86 (w_111 _ _ _) rfl dX12_game_49 ?_
    refine r_icmp_ge hX 91 dX12_game_52 rfl (fun hc4 => ?_) (fun hc4 => ?_)
    · rw [if_pos hc4] at hf
      refine r_aload_n hX dX12_game_91 0 rfl ?_
      refine r_get hX fl_X12_53 (w_111 _ _ _) rfl dX12_game_92 ?_
      refine r_iload hX dX12_game_95 4 rfl ?_
      refine r_aload_n hX dX12_game_97 0 rfl ?_
      refine r_get hX fl_X12_202 (w_111 _ _ _) rfl dX12_game_98 ?_
      obtain ⟨b5, hf⟩ := chk_eq hf
      obtain ⟨μ6, e7, hf⟩ := bnd_eq hf
      refine r_iast hX (w_125 _ _ _) (inb_in b5) (s_125 _ _ _ _ _) e7 rfl dX12_game_101 ?_
      refine r_aload_n hX dX12_game_102 0 rfl ?_
      refine r_get hX fl_X12_50 (w_111 _ _ _) rfl dX12_game_103 ?_
      refine r_iload hX dX12_game_106 4 rfl ?_
      refine r_iload hX dX12_game_108 5 rfl ?_
      obtain ⟨b8, hf⟩ := chk_eq hf
      obtain ⟨μ9, e10, hf⟩ := bnd_eq hf
      refine r_iast hX (w_124 _ _ _) (inb_in b8) (s_124 _ _ _ _ _) e10 rfl dX12_game_110 ?_
      refine r_iload hX dX12_game_111 5 rfl ?_
      exact fin_I hf hr _ _ _ dX12_game_113
    · rw [if_neg hc4] at hf
      refine r_aload_n hX dX12_game_55 0 rfl ?_
      refine r_iconst hX (1 : Int32) dX12_game_56 rfl ?_
      refine r_iload hX dX12_game_57 6 rfl ?_
      refine r_iload_n hX dX12_game_59 1 rfl ?_
      obtain ⟨v13, μ11, h12, hf⟩ := bd2_eq hf
      refine r_callVI (Ok.le hX (by omega)) (c_m_canWin (d := d)  h12) cv_X12_307 (w_111 _ _ _) rfl rfl (st := []) rfl rfl rfl dX12_game_60 (fun dy => ?_)
      refine r_if_eq hX 85 dX12_game_63 rfl (fun hc14 => ?_) (fun hc14 => ?_)
      · rw [if_pos hc14] at hf
        refine r_iinc hX (x6 + (1 : Int32)) dX12_game_85 6 rfl rfl rfl (ls' := [(6, .int (x6 + (1 : Int32))), (0, .ref (gA (xG X) 111)), (1, .int x1), (2, .int x2), (3, .int x3), (4, .int x4), (5, .int x5)]) rfl ?_
        refine r_goto hX 46 dX12_game_88 rfl ?_
        refine r_weak [1, 2, 3, 4, 5, 6, 0] rfl ?_
        exact ih _ _ _ _ _ _ _ _ hf
      · rw [if_neg hc14] at hf
        refine r_iload hX dX12_game_66 5 rfl ?_
        refine r_aload_n hX dX12_game_68 0 rfl ?_
        refine r_iload_n hX dX12_game_69 1 rfl ?_
        refine r_iload hX dX12_game_70 6 rfl ?_
        obtain ⟨v17, μ15, h16, hf⟩ := bd2_eq hf
        refine r_callSI (Ok.le hX (by omega)) (c_m_won (d := d)  h16) cs_X12_313 (st := [.ref (gA (xG X) 111), .int x5]) rfl rfl rfl dX12_game_72 (fun dy => ?_)
        refine r_iload_n hX dX12_game_75 2 rfl ?_
        refine r_iload_n hX dX12_game_76 3 rfl ?_
        obtain ⟨v20, μ18, h19, hf⟩ := bd2_eq hf
        refine r_callVI (Ok.le hX (by omega)) (c_m_answered (d := d) hR h19) cv_X12_316 (w_111 _ _ _) rfl rfl (st := [.int x5]) rfl rfl rfl dX12_game_77 (fun dy => ?_)
        refine r_max (d := d + 214) (Ok.le hX (by omega)) cs_X12_181 rfl dX12_game_80 ?_
        refine r_istore hX dX12_game_83 rfl (ls' := [(5, .int (imax x5 v20)), (0, .ref (gA (xG X) 111)), (1, .int x1), (2, .int x2), (3, .int x3), (4, .int x4), (6, .int x6)]) rfl ?_
        refine r_iinc hX (x6 + (1 : Int32)) dX12_game_85 6 rfl rfl rfl (ls' := [(6, .int (x6 + (1 : Int32))), (5, .int (imax x5 v20)), (0, .ref (gA (xG X) 111)), (1, .int x1), (2, .int x2), (3, .int x3), (4, .int x4)]) rfl ?_
        refine r_goto hX 46 dX12_game_88 rfl ?_
        refine r_weak [2, 3, 4, 5, 6, 1, 0] rfl ?_
        exact ih _ _ _ _ _ _ _ _ hf
set_option maxHeartbeats 4000000 in
set_option maxRecDepth 20000 in
theorem c_m_game_body {G : Gx} {d : Nat} {R : Int32 → Int32 → Int32 → Mem → Option (Int32 × Mem)} (hR : ∀ (x1 : Int32) (x2 : Int32) (x3 : Int32) (μ : Mem) (r : Int32 × Mem), R x1 x2 x3 μ = some r → Con G M_m_game (d + 213) [.ref (gA G 111), .int x1, .int x2, .int x3] μ (some (.int r.1), r.2)) {x1 : Int32} {x2 : Int32} {x3 : Int32} {μ : Mem} {r : Int32 × Mem} (hf : f_m_game_body R x1 x2 x3 μ = some r) : Con G M_m_game (d + 215) [.ref (gA G 111), .int x1, .int x2, .int x3] μ (some (.int r.1), r.2) := by
  refine Con.ofI ⟨rfl, rfl, Nat.le_of_ble_eq_true rfl⟩ rfl rfl (fun X hG hX hr dy => ?_)
  subst hG
  show AW X 0 [(0, .ref (gA (xG X) 111)), (1, .int x1), (2, .int x2), (3, .int x3)] [] μ dy
  unfold f_m_game_body at hf
  refine r_iload_n hX dX12_game_0 2 rfl ?_
  refine r_if_ne hX 9 dX12_game_1 rfl (fun hc1 => ?_) (fun hc1 => ?_)
  · rw [if_neg hc1] at hf
    refine r_sipush hX (16384 : Int32) dX12_game_9 rfl ?_
    refine r_iload_n hX dX12_game_12 2 rfl ?_
    refine r_imul hX dX12_game_13 ?_
    refine r_iload_n hX dX12_game_14 1 rfl ?_
    refine r_iadd hX dX12_game_15 ?_
    refine r_istore hX dX12_game_16 rfl (ls' := [(4, .int (((16384 : Int32) * x2) + x1)), (0, .ref (gA (xG X) 111)), (1, .int x1), (2, .int x2), (3, .int x3)]) rfl ?_
    refine r_aload_n hX dX12_game_18 1 rfl ?_
    refine r_get hX fl_X12_53 (w_111 _ _ _) rfl dX12_game_19 ?_
    refine r_iload hX dX12_game_22 0 rfl ?_
    obtain ⟨b2, hf⟩ := chk_eq hf
    refine r_iald hX (w_125 _ _ _) (inb_in b2) dX12_game_24 ?_
    refine r_aload_n hX dX12_game_25 1 rfl ?_
    refine r_get hX fl_X12_202 (w_111 _ _ _) rfl dX12_game_26 ?_
    refine r_icmp_ne hX 40 dX12_game_29 rfl (fun hc3 => ?_) (fun hc3 => ?_)
    · rw [if_neg hc3] at hf
      refine r_iconst hX (-1 : Int32) dX12_game_40 rfl ?_
      refine r_istore hX dX12_game_41 rfl (ls' := [(5, .int (-1 : Int32)), (4, .int (((16384 : Int32) * x2) + x1)), (0, .ref (gA (xG X) 111)), (1, .int x1), (2, .int x2), (3, .int x3)]) rfl ?_
      refine r_iconst hX (-1 : Int32) dX12_game_43 rfl ?_
      refine r_istore hX dX12_game_44 rfl (ls' := [(6, .int (-1 : Int32)), (5, .int (-1 : Int32)), (4, .int (((16384 : Int32) * x2) + x1)), (0, .ref (gA (xG X) 111)), (1, .int x1), (2, .int x2), (3, .int x3)]) rfl ?_
      refine r_weak [3, 4, 5, 6, 2, 1, 0] rfl ?_
      exact b_m_game_b46 hR hX hr FU _ _ _ _ _ _ _ _ hf
    · rw [if_pos hc3] at hf
      refine r_aload_n hX dX12_game_32 1 rfl ?_
      refine r_get hX fl_X12_50 (w_111 _ _ _) rfl dX12_game_33 ?_
      refine r_iload hX dX12_game_36 0 rfl ?_
      obtain ⟨b21, hf⟩ := chk_eq hf
      refine r_iald hX (w_124 _ _ _) (inb_in b21) dX12_game_38 ?_
      exact fin_I hf hr _ _ _ dX12_game_39
  · rw [if_pos hc1] at hf
    refine r_iload_n hX dX12_game_4 1 rfl ?_
    obtain ⟨v24, μ22, h23, hf⟩ := bd2_eq hf
    refine r_callSI (Ok.le hX (by omega)) (c_jd_bitCount (d := d)  h23) cs_X12_244 (st := []) rfl rfl rfl dX12_game_5 (fun dy => ?_)
    exact fin_I hf hr _ _ _ dX12_game_8
theorem c_m_game {G : Gx} {d : Nat} (k : Nat) : ∀ {x1 : Int32} {x2 : Int32} {x3 : Int32} {μ : Mem} {r : Int32 × Mem}, f_m_game k x1 x2 x3 μ = some r → Con G M_m_game (d + 2 * k + 213) [.ref (gA G 111), .int x1, .int x2, .int x3] μ (some (.int r.1), r.2) := by
  induction k with
  | zero => intro x1 x2 x3 μ r hf; exact nomatch hf
  | succ k ih =>
    intro x1 x2 x3 μ r hf
    rw [f_m_game] at hf
    have h := c_m_game_body (d := d + 2 * k) (fun x1 x2 x3 μ r h => ih h) hf
    have e : d + 2 * k + 215 = d + 2 * (k + 1) + 213 := by omega
    rw [← e]
    exact h
theorem dX12_playOut_0 : decode cX12_playOut 0 = .ok (.aload_n 0, 1) := by decide +kernel
theorem dX12_playOut_1 : decode cX12_playOut 1 = .ok (.dup, 1) := by decide +kernel
theorem dX12_playOut_2 : decode cX12_playOut 2 = .ok (.getfield 202, 3) := by decide +kernel
theorem dX12_playOut_5 : decode cX12_playOut 5 = .ok (.iconst 1, 1) := by decide +kernel
theorem dX12_playOut_6 : decode cX12_playOut 6 = .ok (.iadd, 1) := by decide +kernel
theorem dX12_playOut_7 : decode cX12_playOut 7 = .ok (.putfield 202, 3) := by decide +kernel
theorem dX12_playOut_10 : decode cX12_playOut 10 = .ok (.aload_n 0, 1) := by decide +kernel
theorem dX12_playOut_11 : decode cX12_playOut 11 = .ok (.aload_n 0, 1) := by decide +kernel
theorem dX12_playOut_12 : decode cX12_playOut 12 = .ok (.invokevirtual 137, 3) := by decide +kernel
theorem dX12_playOut_15 : decode cX12_playOut 15 = .ok (.iload_n 1, 1) := by decide +kernel
theorem dX12_playOut_16 : decode cX12_playOut 16 = .ok (.iload_n 2, 1) := by decide +kernel
theorem dX12_playOut_17 : decode cX12_playOut 17 = .ok (.invokevirtual 319, 3) := by decide +kernel
theorem dX12_playOut_20 : decode cX12_playOut 20 = .ok (.istore_n 3, 1) := by decide +kernel
theorem dX12_playOut_21 : decode cX12_playOut 21 = .ok (.iconst (-1), 1) := by decide +kernel
theorem dX12_playOut_22 : decode cX12_playOut 22 = .ok (.istore 4, 2) := by decide +kernel
theorem dX12_playOut_24 : decode cX12_playOut 24 = .ok (.iload_n 1, 1) := by decide +kernel
theorem dX12_playOut_25 : decode cX12_playOut 25 = .ok (.ifCond .le 42, 3) := by decide +kernel
theorem dX12_playOut_28 : decode cX12_playOut 28 = .ok (.aload_n 0, 1) := by decide +kernel
theorem dX12_playOut_29 : decode cX12_playOut 29 = .ok (.iconst 1, 1) := by decide +kernel
theorem dX12_playOut_30 : decode cX12_playOut 30 = .ok (.iload 4, 2) := by decide +kernel
theorem dX12_playOut_32 : decode cX12_playOut 32 = .ok (.aload_n 0, 1) := by decide +kernel
theorem dX12_playOut_33 : decode cX12_playOut 33 = .ok (.invokevirtual 137, 3) := by decide +kernel
theorem dX12_playOut_36 : decode cX12_playOut 36 = .ok (.invokevirtual 307, 3) := by decide +kernel
theorem dX12_playOut_39 : decode cX12_playOut 39 = .ok (.ifCond .eq 22, 3) := by decide +kernel
theorem dX12_playOut_42 : decode cX12_playOut 42 = .ok (.aload_n 0, 1) := by decide +kernel
theorem dX12_playOut_43 : decode cX12_playOut 43 = .ok (.aload_n 0, 1) := by decide +kernel
theorem dX12_playOut_44 : decode cX12_playOut 44 = .ok (.invokevirtual 137, 3) := by decide +kernel
theorem dX12_playOut_47 : decode cX12_playOut 47 = .ok (.iload 4, 2) := by decide +kernel
theorem dX12_playOut_49 : decode cX12_playOut 49 = .ok (.invokestatic 313, 3) := by decide +kernel
theorem dX12_playOut_52 : decode cX12_playOut 52 = .ok (.iload_n 1, 1) := by decide +kernel
theorem dX12_playOut_53 : decode cX12_playOut 53 = .ok (.iload_n 2, 1) := by decide +kernel
theorem dX12_playOut_54 : decode cX12_playOut 54 = .ok (.invokevirtual 316, 3) := by decide +kernel
theorem dX12_playOut_57 : decode cX12_playOut 57 = .ok (.iload_n 3, 1) := by decide +kernel
theorem dX12_playOut_58 : decode cX12_playOut 58 = .ok (.if_icmp .eq 9, 3) := by decide +kernel
theorem dX12_playOut_61 : decode cX12_playOut 61 = .ok (.iinc 4 1, 3) := by decide +kernel
theorem dX12_playOut_64 : decode cX12_playOut 64 = .ok (.goto (-40), 3) := by decide +kernel
theorem dX12_playOut_67 : decode cX12_playOut 67 = .ok (.aload_n 0, 1) := by decide +kernel
theorem dX12_playOut_68 : decode cX12_playOut 68 = .ok (.iconst 0, 1) := by decide +kernel
theorem dX12_playOut_69 : decode cX12_playOut 69 = .ok (.putfield 83, 3) := by decide +kernel
theorem dX12_playOut_72 : decode cX12_playOut 72 = .ok (.aload_n 0, 1) := by decide +kernel
theorem dX12_playOut_73 : decode cX12_playOut 73 = .ok (.iload 4, 2) := by decide +kernel
theorem dX12_playOut_75 : decode cX12_playOut 75 = .ok (.i2l, 1) := by decide +kernel
theorem dX12_playOut_76 : decode cX12_playOut 76 = .ok (.invokevirtual 217, 3) := by decide +kernel
theorem dX12_playOut_79 : decode cX12_playOut 79 = .ok (.iload_n 3, 1) := by decide +kernel
theorem dX12_playOut_80 : decode cX12_playOut 80 = .ok (.ireturn, 1) := by decide +kernel
set_option maxHeartbeats 4000000 in
set_option maxRecDepth 20000 in
theorem b_m_playOut_b67 {X : Cx} {d : Nat} (hX : Ok M_m_playOut (d + 231) X) {r : Int32 × Mem} (hr : RetI M_m_playOut X r.1 r.2) (x3 : Int32) (x4 : Int32) (μ : Mem) (dy : Nat → Nat) (hf : f_m_playOut_b67 x3 x4 μ = some r) : AW X 67 [(0, .ref (gA (xG X) 111)), (3, .int x3), (4, .int x4)] [] μ dy := by
  unfold f_m_playOut_b67 at hf
  refine r_aload_n hX dX12_playOut_67 0 rfl ?_
  refine r_iconst hX (0 : Int32) dX12_playOut_68 rfl ?_
  obtain ⟨μ10, e11, hf⟩ := bnd_eq hf
  refine r_put hX fl_X12_83 ft_X12_10 (w_111 _ _ _) rfl rfl rfl (s_111_10 _ _ _ _) e11 rfl dX12_playOut_69 ?_
  refine r_aload_n hX dX12_playOut_72 0 rfl ?_
  refine r_iload hX dX12_playOut_73 2 rfl ?_
  refine r_i2l hX dX12_playOut_75 ?_
  obtain ⟨μ12, h13, hf⟩ := bd1_eq hf
  refine r_callVV (Ok.le hX (by omega)) (c_m_tell (d := d)  h13) cv_X12_217 (w_111 _ _ _) rfl rfl (st := []) rfl rfl rfl dX12_playOut_76 (fun dy => ?_)
  refine r_iload_n hX dX12_playOut_79 1 rfl ?_
  exact fin_I hf hr _ _ _ dX12_playOut_80
set_option maxHeartbeats 4000000 in
set_option maxRecDepth 20000 in
theorem b_m_playOut_b24 {X : Cx} {d : Nat} (hX : Ok M_m_playOut (d + 231) X) {r : Int32 × Mem} (hr : RetI M_m_playOut X r.1 r.2) : ∀ (n : Nat) (x1 : Int32) (x2 : Int32) (x3 : Int32) (x4 : Int32) (μ : Mem) (dy : Nat → Nat), f_m_playOut_b24 n x1 x2 x3 x4 μ = some r → AW X 24 [(0, .ref (gA (xG X) 111)), (1, .int x1), (2, .int x2), (3, .int x3), (4, .int x4)] [] μ dy := by
  intro n
  induction n with
  | zero => intro x1 x2 x3 x4 μ dy hf; exact nomatch hf
  | succ n ih =>
    intro x1 x2 x3 x4 μ dy hf
    rw [f_m_playOut_b24] at hf
    refine r_iload_n hX dX12_playOut_24 1 rfl ?_
    refine r_if_le hX 67 dX12_playOut_25 rfl (fun hc9 => ?_) (fun hc9 => ?_)
    · rw [if_pos hc9] at hf
      refine r_weak [0, 3, 4] rfl ?_
      exact b_m_playOut_b67 hX hr _ _ _ _ hf
    · rw [if_neg hc9] at hf
      refine r_aload_n hX dX12_playOut_28 0 rfl ?_
      refine r_iconst hX (1 : Int32) dX12_playOut_29 rfl ?_
      refine r_iload hX dX12_playOut_30 4 rfl ?_
      refine r_aload_n hX dX12_playOut_32 0 rfl ?_
      obtain ⟨v16, μ14, h15, hf⟩ := bd2_eq hf
      refine r_callVI (Ok.le hX (by omega)) (c_m_now (d := d)  h15) cv_X12_137 (w_111 _ _ _) rfl rfl (st := [.int x4, .int (1 : Int32), .ref (gA (xG X) 111)]) rfl rfl rfl dX12_playOut_33 (fun dy => ?_)
      obtain ⟨v19, μ17, h18, hf⟩ := bd2_eq hf
      refine r_callVI (Ok.le hX (by omega)) (c_m_canWin (d := d)  h18) cv_X12_307 (w_111 _ _ _) rfl rfl (st := []) rfl rfl rfl dX12_playOut_36 (fun dy => ?_)
      refine r_if_eq hX 61 dX12_playOut_39 rfl (fun hc20 => ?_) (fun hc20 => ?_)
      · rw [if_pos hc20] at hf
        refine r_iinc hX (x4 + (1 : Int32)) dX12_playOut_61 4 rfl rfl rfl (ls' := [(4, .int (x4 + (1 : Int32))), (0, .ref (gA (xG X) 111)), (1, .int x1), (2, .int x2), (3, .int x3)]) rfl ?_
        refine r_goto hX 24 dX12_playOut_64 rfl ?_
        refine r_weak [1, 2, 3, 4, 0] rfl ?_
        exact ih _ _ _ _ _ _ hf
      · rw [if_neg hc20] at hf
        refine r_aload_n hX dX12_playOut_42 0 rfl ?_
        refine r_aload_n hX dX12_playOut_43 0 rfl ?_
        obtain ⟨v23, μ21, h22, hf⟩ := bd2_eq hf
        refine r_callVI (Ok.le hX (by omega)) (c_m_now (d := d)  h22) cv_X12_137 (w_111 _ _ _) rfl rfl (st := [.ref (gA (xG X) 111)]) rfl rfl rfl dX12_playOut_44 (fun dy => ?_)
        refine r_iload hX dX12_playOut_47 4 rfl ?_
        obtain ⟨v26, μ24, h25, hf⟩ := bd2_eq hf
        refine r_callSI (Ok.le hX (by omega)) (c_m_won (d := d)  h25) cs_X12_313 (st := [.ref (gA (xG X) 111)]) rfl rfl rfl dX12_playOut_49 (fun dy => ?_)
        refine r_iload_n hX dX12_playOut_52 1 rfl ?_
        refine r_iload_n hX dX12_playOut_53 2 rfl ?_
        obtain ⟨v29, μ27, h28, hf⟩ := bd2_eq hf
        refine r_callVI (Ok.le hX (by omega)) (c_m_answered (d := d + 2 * 8) (fun _ _ _ _ _ h9 => c_m_game (d := d) 8 h9) h28) cv_X12_316 (w_111 _ _ _) rfl rfl (st := []) rfl rfl rfl dX12_playOut_54 (fun dy => ?_)
        refine r_iload_n hX dX12_playOut_57 3 rfl ?_
        refine r_icmp_eq hX 67 dX12_playOut_58 rfl (fun hc30 => ?_) (fun hc30 => ?_)
        · rw [if_pos hc30] at hf
          refine r_weak [0, 3, 4] rfl ?_
          exact b_m_playOut_b67 hX hr _ _ _ _ hf
        · rw [if_neg hc30] at hf
          refine r_iinc hX (x4 + (1 : Int32)) dX12_playOut_61 4 rfl rfl rfl (ls' := [(4, .int (x4 + (1 : Int32))), (0, .ref (gA (xG X) 111)), (1, .int x1), (2, .int x2), (3, .int x3)]) rfl ?_
          refine r_goto hX 24 dX12_playOut_64 rfl ?_
          refine r_weak [1, 2, 3, 4, 0] rfl ?_
          exact ih _ _ _ _ _ _ hf
set_option maxHeartbeats 4000000 in
set_option maxRecDepth 20000 in
theorem c_m_playOut {G : Gx} {d : Nat} {x1 : Int32} {x2 : Int32} {μ : Mem} {r : Int32 × Mem} (hf : f_m_playOut x1 x2 μ = some r) : Con G M_m_playOut (d + 231) [.ref (gA G 111), .int x1, .int x2] μ (some (.int r.1), r.2) := by
  refine Con.ofI ⟨rfl, rfl, Nat.le_of_ble_eq_true rfl⟩ rfl rfl (fun X hG hX hr dy => ?_)
  subst hG
  show AW X 0 [(0, .ref (gA (xG X) 111)), (1, .int x1), (2, .int x2)] [] μ dy
  unfold f_m_playOut at hf
  refine r_aload_n hX dX12_playOut_0 0 rfl ?_
  refine r_dup hX dX12_playOut_1 rfl ?_
  refine r_get hX fl_X12_202 (w_111 _ _ _) rfl dX12_playOut_2 ?_
  refine r_iconst hX (1 : Int32) dX12_playOut_5 rfl ?_
  refine r_iadd hX dX12_playOut_6 ?_
  obtain ⟨μ1, e2, hf⟩ := bnd_eq hf
  refine r_put hX fl_X12_202 ft_X12_20 (w_111 _ _ _) rfl rfl rfl (s_111_20 _ _ _ _) e2 rfl dX12_playOut_7 ?_
  refine r_aload_n hX dX12_playOut_10 0 rfl ?_
  refine r_aload_n hX dX12_playOut_11 0 rfl ?_
  obtain ⟨v5, μ3, h4, hf⟩ := bd2_eq hf
  refine r_callVI (Ok.le hX (by omega)) (c_m_now (d := d)  h4) cv_X12_137 (w_111 _ _ _) rfl rfl (st := [.ref (gA (xG X) 111)]) rfl rfl rfl dX12_playOut_12 (fun dy => ?_)
  refine r_iload_n hX dX12_playOut_15 1 rfl ?_
  refine r_iload_n hX dX12_playOut_16 2 rfl ?_
  obtain ⟨v8, μ6, h7, hf⟩ := bd2_eq hf
  refine r_callVI (Ok.le hX (by omega)) (c_m_game (d := d) 8 h7) cv_X12_319 (w_111 _ _ _) rfl rfl (st := []) rfl rfl rfl dX12_playOut_17 (fun dy => ?_)
  refine r_istore_n hX dX12_playOut_20 rfl (ls' := [(3, .int v8), (0, .ref (gA (xG X) 111)), (1, .int x1), (2, .int x2)]) rfl ?_
  refine r_iconst hX (-1 : Int32) dX12_playOut_21 rfl ?_
  refine r_istore hX dX12_playOut_22 rfl (ls' := [(4, .int (-1 : Int32)), (3, .int v8), (0, .ref (gA (xG X) 111)), (1, .int x1), (2, .int x2)]) rfl ?_
  refine r_weak [2, 3, 4, 1, 0] rfl ?_
  exact b_m_playOut_b24 hX hr FU _ _ _ _ _ _ hf
theorem dX12_game__0 : decode cX12_game_ 0 = .ok (.aload_n 0, 1) := by decide +kernel
theorem dX12_game__1 : decode cX12_game_ 1 = .ok (.iconst 0, 1) := by decide +kernel
theorem dX12_game__2 : decode cX12_game_ 2 = .ok (.putfield 80, 3) := by decide +kernel
theorem dX12_game__5 : decode cX12_game_ 5 = .ok (.iload_n 1, 1) := by decide +kernel
theorem dX12_game__6 : decode cX12_game_ 6 = .ok (.iconst 0, 1) := by decide +kernel
theorem dX12_game__7 : decode cX12_game_ 7 = .ok (.iconst 3, 1) := by decide +kernel
theorem dX12_game__8 : decode cX12_game_ 8 = .ok (.invokestatic 89, 3) := by decide +kernel
theorem dX12_game__11 : decode cX12_game_ 11 = .ok (.ifCond .eq 12, 3) := by decide +kernel
theorem dX12_game__14 : decode cX12_game_ 14 = .ok (.aload_n 0, 1) := by decide +kernel
theorem dX12_game__15 : decode cX12_game_ 15 = .ok (.iload_n 1, 1) := by decide +kernel
theorem dX12_game__16 : decode cX12_game_ 16 = .ok (.iconst 0, 1) := by decide +kernel
theorem dX12_game__17 : decode cX12_game_ 17 = .ok (.invokevirtual 322, 3) := by decide +kernel
theorem dX12_game__20 : decode cX12_game_ 20 = .ok (.goto 4, 3) := by decide +kernel
theorem dX12_game__23 : decode cX12_game_ 23 = .ok (.iconst (-1), 1) := by decide +kernel
theorem dX12_game__24 : decode cX12_game_ 24 = .ok (.ireturn, 1) := by decide +kernel
set_option maxHeartbeats 4000000 in
set_option maxRecDepth 20000 in
theorem c_m_game_ {G : Gx} {d : Nat} {x1 : Int32} {μ : Mem} {r : Int32 × Mem} (hf : f_m_game_ x1 μ = some r) : Con G M_m_game_ (d + 232) [.ref (gA G 111), .int x1] μ (some (.int r.1), r.2) := by
  refine Con.ofI ⟨rfl, rfl, Nat.le_of_ble_eq_true rfl⟩ rfl rfl (fun X hG hX hr dy => ?_)
  subst hG
  show AW X 0 [(0, .ref (gA (xG X) 111)), (1, .int x1)] [] μ dy
  unfold f_m_game_ at hf
  refine r_aload_n hX dX12_game__0 0 rfl ?_
  refine r_iconst hX (0 : Int32) dX12_game__1 rfl ?_
  obtain ⟨μ1, e2, hf⟩ := bnd_eq hf
  refine r_put hX fl_X12_80 ft_X12_11 (w_111 _ _ _) rfl rfl rfl (s_111_11 _ _ _ _) e2 rfl dX12_game__2 ?_
  refine r_iload_n hX dX12_game__5 1 rfl ?_
  refine r_iconst hX (0 : Int32) dX12_game__6 rfl ?_
  refine r_iconst hX (3 : Int32) dX12_game__7 rfl ?_
  obtain ⟨v5, μ3, h4, hf⟩ := bd2_eq hf
  refine r_callSI (Ok.le hX (by omega)) (c_m_in (d := d)  h4) cs_X12_89 (st := []) rfl rfl rfl dX12_game__8 (fun dy => ?_)
  refine r_if_eq hX 23 dX12_game__11 rfl (fun hc6 => ?_) (fun hc6 => ?_)
  · rw [if_pos hc6] at hf
    refine r_iconst hX (-1 : Int32) dX12_game__23 rfl ?_
    exact fin_I hf hr _ _ _ dX12_game__24
  · rw [if_neg hc6] at hf
    refine r_aload_n hX dX12_game__14 0 rfl ?_
    refine r_iload_n hX dX12_game__15 1 rfl ?_
    refine r_iconst hX (0 : Int32) dX12_game__16 rfl ?_
    obtain ⟨v9, μ7, h8, hf⟩ := bd2_eq hf
    refine r_callVI (Ok.le hX (by omega)) (c_m_playOut (d := d)  h8) cv_X12_322 (w_111 _ _ _) rfl rfl (st := []) rfl rfl rfl dX12_game__17 (fun dy => ?_)
    refine r_goto hX 24 dX12_game__20 rfl ?_
    exact fin_I hf hr _ _ _ dX12_game__24
theorem dX12_against_0 : decode cX12_against 0 = .ok (.aload_n 0, 1) := by decide +kernel
theorem dX12_against_1 : decode cX12_against 1 = .ok (.iconst 0, 1) := by decide +kernel
theorem dX12_against_2 : decode cX12_against 2 = .ok (.putfield 80, 3) := by decide +kernel
theorem dX12_against_5 : decode cX12_against 5 = .ok (.iload_n 1, 1) := by decide +kernel
theorem dX12_against_6 : decode cX12_against 6 = .ok (.iconst 0, 1) := by decide +kernel
theorem dX12_against_7 : decode cX12_against 7 = .ok (.bipush 6, 2) := by decide +kernel
theorem dX12_against_9 : decode cX12_against 9 = .ok (.invokestatic 89, 3) := by decide +kernel
theorem dX12_against_12 : decode cX12_against 12 = .ok (.ifCond .eq 12, 3) := by decide +kernel
theorem dX12_against_15 : decode cX12_against 15 = .ok (.aload_n 0, 1) := by decide +kernel
theorem dX12_against_16 : decode cX12_against 16 = .ok (.iload_n 1, 1) := by decide +kernel
theorem dX12_against_17 : decode cX12_against 17 = .ok (.iconst 1, 1) := by decide +kernel
theorem dX12_against_18 : decode cX12_against 18 = .ok (.invokevirtual 322, 3) := by decide +kernel
theorem dX12_against_21 : decode cX12_against 21 = .ok (.goto 4, 3) := by decide +kernel
theorem dX12_against_24 : decode cX12_against 24 = .ok (.iconst (-1), 1) := by decide +kernel
theorem dX12_against_25 : decode cX12_against 25 = .ok (.ireturn, 1) := by decide +kernel
set_option maxHeartbeats 4000000 in
set_option maxRecDepth 20000 in
theorem c_m_against {G : Gx} {d : Nat} {x1 : Int32} {μ : Mem} {r : Int32 × Mem} (hf : f_m_against x1 μ = some r) : Con G M_m_against (d + 232) [.ref (gA G 111), .int x1] μ (some (.int r.1), r.2) := by
  refine Con.ofI ⟨rfl, rfl, Nat.le_of_ble_eq_true rfl⟩ rfl rfl (fun X hG hX hr dy => ?_)
  subst hG
  show AW X 0 [(0, .ref (gA (xG X) 111)), (1, .int x1)] [] μ dy
  unfold f_m_against at hf
  refine r_aload_n hX dX12_against_0 0 rfl ?_
  refine r_iconst hX (0 : Int32) dX12_against_1 rfl ?_
  obtain ⟨μ1, e2, hf⟩ := bnd_eq hf
  refine r_put hX fl_X12_80 ft_X12_11 (w_111 _ _ _) rfl rfl rfl (s_111_11 _ _ _ _) e2 rfl dX12_against_2 ?_
  refine r_iload_n hX dX12_against_5 1 rfl ?_
  refine r_iconst hX (0 : Int32) dX12_against_6 rfl ?_
  refine r_bipush hX (6 : Int32) dX12_against_7 rfl ?_
  obtain ⟨v5, μ3, h4, hf⟩ := bd2_eq hf
  refine r_callSI (Ok.le hX (by omega)) (c_m_in (d := d)  h4) cs_X12_89 (st := []) rfl rfl rfl dX12_against_9 (fun dy => ?_)
  refine r_if_eq hX 24 dX12_against_12 rfl (fun hc6 => ?_) (fun hc6 => ?_)
  · rw [if_pos hc6] at hf
    refine r_iconst hX (-1 : Int32) dX12_against_24 rfl ?_
    exact fin_I hf hr _ _ _ dX12_against_25
  · rw [if_neg hc6] at hf
    refine r_aload_n hX dX12_against_15 0 rfl ?_
    refine r_iload_n hX dX12_against_16 1 rfl ?_
    refine r_iconst hX (1 : Int32) dX12_against_17 rfl ?_
    obtain ⟨v9, μ7, h8, hf⟩ := bd2_eq hf
    refine r_callVI (Ok.le hX (by omega)) (c_m_playOut (d := d)  h8) cv_X12_322 (w_111 _ _ _) rfl rfl (st := []) rfl rfl rfl dX12_against_18 (fun dy => ?_)
    refine r_goto hX 25 dX12_against_21 rfl ?_
    exact fin_I hf hr _ _ _ dX12_against_25
theorem dX12_changePair_0 : decode cX12_changePair 0 = .ok (.aload_n 0, 1) := by decide +kernel
theorem dX12_changePair_1 : decode cX12_changePair 1 = .ok (.getfield 68, 3) := by decide +kernel
theorem dX12_changePair_4 : decode cX12_changePair 4 = .ok (.iload_n 3, 1) := by decide +kernel
theorem dX12_changePair_5 : decode cX12_changePair 5 = .ok (.aload_n 0, 1) := by decide +kernel
theorem dX12_changePair_6 : decode cX12_changePair 6 = .ok (.getfield 16, 3) := by decide +kernel
theorem dX12_changePair_9 : decode cX12_changePair 9 = .ok (.bipush 14, 2) := by decide +kernel
theorem dX12_changePair_11 : decode cX12_changePair 11 = .ok (.iload_n 1, 1) := by decide +kernel
theorem dX12_changePair_12 : decode cX12_changePair 12 = .ok (.imul, 1) := by decide +kernel
theorem dX12_changePair_13 : decode cX12_changePair 13 = .ok (.iload_n 2, 1) := by decide +kernel
theorem dX12_changePair_14 : decode cX12_changePair 14 = .ok (.iadd, 1) := by decide +kernel
theorem dX12_changePair_15 : decode cX12_changePair 15 = .ok (.iaload, 1) := by decide +kernel
theorem dX12_changePair_16 : decode cX12_changePair 16 = .ok (.iastore, 1) := by decide +kernel
theorem dX12_changePair_17 : decode cX12_changePair 17 = .ok (.aload_n 0, 1) := by decide +kernel
theorem dX12_changePair_18 : decode cX12_changePair 18 = .ok (.getfield 68, 3) := by decide +kernel
theorem dX12_changePair_21 : decode cX12_changePair 21 = .ok (.iload_n 3, 1) := by decide +kernel
theorem dX12_changePair_22 : decode cX12_changePair 22 = .ok (.iconst 1, 1) := by decide +kernel
theorem dX12_changePair_23 : decode cX12_changePair 23 = .ok (.iadd, 1) := by decide +kernel
theorem dX12_changePair_24 : decode cX12_changePair 24 = .ok (.aload_n 0, 1) := by decide +kernel
theorem dX12_changePair_25 : decode cX12_changePair 25 = .ok (.getfield 16, 3) := by decide +kernel
theorem dX12_changePair_28 : decode cX12_changePair 28 = .ok (.bipush 14, 2) := by decide +kernel
theorem dX12_changePair_30 : decode cX12_changePair 30 = .ok (.iload_n 2, 1) := by decide +kernel
theorem dX12_changePair_31 : decode cX12_changePair 31 = .ok (.imul, 1) := by decide +kernel
theorem dX12_changePair_32 : decode cX12_changePair 32 = .ok (.iload_n 1, 1) := by decide +kernel
theorem dX12_changePair_33 : decode cX12_changePair 33 = .ok (.iadd, 1) := by decide +kernel
theorem dX12_changePair_34 : decode cX12_changePair 34 = .ok (.iaload, 1) := by decide +kernel
theorem dX12_changePair_35 : decode cX12_changePair 35 = .ok (.iastore, 1) := by decide +kernel
theorem dX12_changePair_36 : decode cX12_changePair 36 = .ok (.aload_n 0, 1) := by decide +kernel
theorem dX12_changePair_37 : decode cX12_changePair 37 = .ok (.getfield 68, 3) := by decide +kernel
theorem dX12_changePair_40 : decode cX12_changePair 40 = .ok (.iload_n 3, 1) := by decide +kernel
theorem dX12_changePair_41 : decode cX12_changePair 41 = .ok (.iaload, 1) := by decide +kernel
theorem dX12_changePair_42 : decode cX12_changePair 42 = .ok (.aload_n 0, 1) := by decide +kernel
theorem dX12_changePair_43 : decode cX12_changePair 43 = .ok (.getfield 68, 3) := by decide +kernel
theorem dX12_changePair_46 : decode cX12_changePair 46 = .ok (.iload_n 3, 1) := by decide +kernel
theorem dX12_changePair_47 : decode cX12_changePair 47 = .ok (.iconst 1, 1) := by decide +kernel
theorem dX12_changePair_48 : decode cX12_changePair 48 = .ok (.iadd, 1) := by decide +kernel
theorem dX12_changePair_49 : decode cX12_changePair 49 = .ok (.iaload, 1) := by decide +kernel
theorem dX12_changePair_50 : decode cX12_changePair 50 = .ok (.iadd, 1) := by decide +kernel
theorem dX12_changePair_51 : decode cX12_changePair 51 = .ok (.ifCond .ne 7, 3) := by decide +kernel
theorem dX12_changePair_54 : decode cX12_changePair 54 = .ok (.iconst 1, 1) := by decide +kernel
theorem dX12_changePair_55 : decode cX12_changePair 55 = .ok (.goto 4, 3) := by decide +kernel
theorem dX12_changePair_58 : decode cX12_changePair 58 = .ok (.iconst 0, 1) := by decide +kernel
theorem dX12_changePair_59 : decode cX12_changePair 59 = .ok (.istore 4, 2) := by decide +kernel
theorem dX12_changePair_61 : decode cX12_changePair 61 = .ok (.aload_n 0, 1) := by decide +kernel
theorem dX12_changePair_62 : decode cX12_changePair 62 = .ok (.getfield 16, 3) := by decide +kernel
theorem dX12_changePair_65 : decode cX12_changePair 65 = .ok (.bipush 14, 2) := by decide +kernel
theorem dX12_changePair_67 : decode cX12_changePair 67 = .ok (.iload_n 1, 1) := by decide +kernel
theorem dX12_changePair_68 : decode cX12_changePair 68 = .ok (.imul, 1) := by decide +kernel
theorem dX12_changePair_69 : decode cX12_changePair 69 = .ok (.iload_n 2, 1) := by decide +kernel
theorem dX12_changePair_70 : decode cX12_changePair 70 = .ok (.iadd, 1) := by decide +kernel
theorem dX12_changePair_71 : decode cX12_changePair 71 = .ok (.iload 4, 2) := by decide +kernel
theorem dX12_changePair_73 : decode cX12_changePair 73 = .ok (.iastore, 1) := by decide +kernel
theorem dX12_changePair_74 : decode cX12_changePair 74 = .ok (.aload_n 0, 1) := by decide +kernel
theorem dX12_changePair_75 : decode cX12_changePair 75 = .ok (.getfield 16, 3) := by decide +kernel
theorem dX12_changePair_78 : decode cX12_changePair 78 = .ok (.bipush 14, 2) := by decide +kernel
theorem dX12_changePair_80 : decode cX12_changePair 80 = .ok (.iload_n 2, 1) := by decide +kernel
theorem dX12_changePair_81 : decode cX12_changePair 81 = .ok (.imul, 1) := by decide +kernel
theorem dX12_changePair_82 : decode cX12_changePair 82 = .ok (.iload_n 1, 1) := by decide +kernel
theorem dX12_changePair_83 : decode cX12_changePair 83 = .ok (.iadd, 1) := by decide +kernel
theorem dX12_changePair_84 : decode cX12_changePair 84 = .ok (.iload 4, 2) := by decide +kernel
theorem dX12_changePair_86 : decode cX12_changePair 86 = .ok (.iastore, 1) := by decide +kernel
theorem dX12_changePair_87 : decode cX12_changePair 87 = .ok (.return_, 1) := by decide +kernel
set_option maxHeartbeats 4000000 in
set_option maxRecDepth 20000 in
theorem c_m_changePair {G : Gx} {d : Nat} {x1 : Int32} {x2 : Int32} {x3 : Int32} {μ : Mem} {r : Mem} (hf : f_m_changePair x1 x2 x3 μ = some r) : Con G M_m_changePair (d + 0) [.ref (gA G 111), .int x1, .int x2, .int x3] μ (none, r) := by
  refine Con.ofV ⟨rfl, rfl, Nat.le_of_ble_eq_true rfl⟩ rfl (fun X hG hX hr dy => ?_)
  subst hG
  show AW X 0 [(0, .ref (gA (xG X) 111)), (1, .int x1), (2, .int x2), (3, .int x3)] [] μ dy
  unfold f_m_changePair at hf
  refine r_aload_n hX dX12_changePair_0 0 rfl ?_
  refine r_get hX fl_X12_68 (w_111 _ _ _) rfl dX12_changePair_1 ?_
  refine r_iload_n hX dX12_changePair_4 3 rfl ?_
  refine r_aload_n hX dX12_changePair_5 0 rfl ?_
  refine r_get hX fl_X12_16 (w_111 _ _ _) rfl dX12_changePair_6 ?_
  refine r_bipush hX (14 : Int32) dX12_changePair_9 rfl ?_
  refine r_iload_n hX dX12_changePair_11 1 rfl ?_
  refine r_imul hX dX12_changePair_12 ?_
  refine r_iload_n hX dX12_changePair_13 2 rfl ?_
  refine r_iadd hX dX12_changePair_14 ?_
  obtain ⟨b1, hf⟩ := chk_eq hf
  refine r_iald hX (w_114 _ _ _) (inb_in b1) dX12_changePair_15 ?_
  obtain ⟨b2, hf⟩ := chk_eq hf
  obtain ⟨μ3, e4, hf⟩ := bnd_eq hf
  refine r_iast hX (w_130 _ _ _) (inb_in b2) (s_130 _ _ _ _ _) e4 rfl dX12_changePair_16 ?_
  refine r_aload_n hX dX12_changePair_17 0 rfl ?_
  refine r_get hX fl_X12_68 (w_111 _ _ _) rfl dX12_changePair_18 ?_
  refine r_iload_n hX dX12_changePair_21 3 rfl ?_
  refine r_iconst hX (1 : Int32) dX12_changePair_22 rfl ?_
  refine r_iadd hX dX12_changePair_23 ?_
  refine r_aload_n hX dX12_changePair_24 0 rfl ?_
  refine r_get hX fl_X12_16 (w_111 _ _ _) rfl dX12_changePair_25 ?_
  refine r_bipush hX (14 : Int32) dX12_changePair_28 rfl ?_
  refine r_iload_n hX dX12_changePair_30 2 rfl ?_
  refine r_imul hX dX12_changePair_31 ?_
  refine r_iload_n hX dX12_changePair_32 1 rfl ?_
  refine r_iadd hX dX12_changePair_33 ?_
  obtain ⟨b5, hf⟩ := chk_eq hf
  refine r_iald hX (w_114 _ _ _) (inb_in b5) dX12_changePair_34 ?_
  obtain ⟨b6, hf⟩ := chk_eq hf
  obtain ⟨μ7, e8, hf⟩ := bnd_eq hf
  refine r_iast hX (w_130 _ _ _) (inb_in b6) (s_130 _ _ _ _ _) e8 rfl dX12_changePair_35 ?_
  refine r_aload_n hX dX12_changePair_36 0 rfl ?_
  refine r_get hX fl_X12_68 (w_111 _ _ _) rfl dX12_changePair_37 ?_
  refine r_iload_n hX dX12_changePair_40 3 rfl ?_
  obtain ⟨b9, hf⟩ := chk_eq hf
  refine r_iald hX (w_130 _ _ _) (inb_in b9) dX12_changePair_41 ?_
  refine r_aload_n hX dX12_changePair_42 0 rfl ?_
  refine r_get hX fl_X12_68 (w_111 _ _ _) rfl dX12_changePair_43 ?_
  refine r_iload_n hX dX12_changePair_46 3 rfl ?_
  refine r_iconst hX (1 : Int32) dX12_changePair_47 rfl ?_
  refine r_iadd hX dX12_changePair_48 ?_
  obtain ⟨b10, hf⟩ := chk_eq hf
  refine r_iald hX (w_130 _ _ _) (inb_in b10) dX12_changePair_49 ?_
  refine r_iadd hX dX12_changePair_50 ?_
  obtain ⟨v11, e12, hf⟩ := bnd_eq hf
  have J13 : AW X 59 [(0, .ref (gA (xG X) 111)), (1, .int x1), (2, .int x2), (3, .int x3)] [.int v11] μ7 dy := by
    refine r_istore hX dX12_changePair_59 rfl (ls' := [(4, .int v11), (0, .ref (gA (xG X) 111)), (1, .int x1), (2, .int x2), (3, .int x3)]) rfl ?_
    refine r_aload_n hX dX12_changePair_61 1 rfl ?_
    refine r_get hX fl_X12_16 (w_111 _ _ _) rfl dX12_changePair_62 ?_
    refine r_bipush hX (14 : Int32) dX12_changePair_65 rfl ?_
    refine r_iload_n hX dX12_changePair_67 2 rfl ?_
    refine r_imul hX dX12_changePair_68 ?_
    refine r_iload_n hX dX12_changePair_69 3 rfl ?_
    refine r_iadd hX dX12_changePair_70 ?_
    refine r_iload hX dX12_changePair_71 0 rfl ?_
    obtain ⟨b14, hf⟩ := chk_eq hf
    obtain ⟨μ15, e16, hf⟩ := bnd_eq hf
    refine r_iast hX (w_114 _ _ _) (inb_in b14) (s_114 _ _ _ _ _) e16 rfl dX12_changePair_73 ?_
    refine r_aload_n hX dX12_changePair_74 1 rfl ?_
    refine r_get hX fl_X12_16 (w_111 _ _ _) rfl dX12_changePair_75 ?_
    refine r_bipush hX (14 : Int32) dX12_changePair_78 rfl ?_
    refine r_iload_n hX dX12_changePair_80 3 rfl ?_
    refine r_imul hX dX12_changePair_81 ?_
    refine r_iload_n hX dX12_changePair_82 2 rfl ?_
    refine r_iadd hX dX12_changePair_83 ?_
    refine r_iload hX dX12_changePair_84 0 rfl ?_
    obtain ⟨b17, hf⟩ := chk_eq hf
    obtain ⟨μ18, e19, hf⟩ := bnd_eq hf
    refine r_iast hX (w_114 _ _ _) (inb_in b17) (s_114 _ _ _ _ _) e19 rfl dX12_changePair_86 ?_
    exact fin_V hf hr _ _ _ dX12_changePair_87
  refine r_if_ne hX 58 dX12_changePair_51 rfl (fun hc20 => ?_) (fun hc20 => ?_)
  · refine r_iconst hX (0 : Int32) dX12_changePair_58 rfl ?_
    exact r_topI (e12.trans (by rw [if_neg hc20])) J13
  · refine r_iconst hX (1 : Int32) dX12_changePair_54 rfl ?_
    refine r_goto hX 59 dX12_changePair_55 rfl ?_
    exact r_topI (e12.trans (by rw [if_pos hc20])) J13
theorem dX12_changeBack_0 : decode cX12_changeBack 0 = .ok (.aload_n 0, 1) := by decide +kernel
theorem dX12_changeBack_1 : decode cX12_changeBack 1 = .ok (.getfield 16, 3) := by decide +kernel
theorem dX12_changeBack_4 : decode cX12_changeBack 4 = .ok (.bipush 14, 2) := by decide +kernel
theorem dX12_changeBack_6 : decode cX12_changeBack 6 = .ok (.iload_n 1, 1) := by decide +kernel
theorem dX12_changeBack_7 : decode cX12_changeBack 7 = .ok (.imul, 1) := by decide +kernel
theorem dX12_changeBack_8 : decode cX12_changeBack 8 = .ok (.iload_n 2, 1) := by decide +kernel
theorem dX12_changeBack_9 : decode cX12_changeBack 9 = .ok (.iadd, 1) := by decide +kernel
theorem dX12_changeBack_10 : decode cX12_changeBack 10 = .ok (.aload_n 0, 1) := by decide +kernel
theorem dX12_changeBack_11 : decode cX12_changeBack 11 = .ok (.getfield 68, 3) := by decide +kernel
theorem dX12_changeBack_14 : decode cX12_changeBack 14 = .ok (.iload_n 3, 1) := by decide +kernel
theorem dX12_changeBack_15 : decode cX12_changeBack 15 = .ok (.iaload, 1) := by decide +kernel
theorem dX12_changeBack_16 : decode cX12_changeBack 16 = .ok (.iastore, 1) := by decide +kernel
theorem dX12_changeBack_17 : decode cX12_changeBack 17 = .ok (.aload_n 0, 1) := by decide +kernel
theorem dX12_changeBack_18 : decode cX12_changeBack 18 = .ok (.getfield 16, 3) := by decide +kernel
theorem dX12_changeBack_21 : decode cX12_changeBack 21 = .ok (.bipush 14, 2) := by decide +kernel
theorem dX12_changeBack_23 : decode cX12_changeBack 23 = .ok (.iload_n 2, 1) := by decide +kernel
theorem dX12_changeBack_24 : decode cX12_changeBack 24 = .ok (.imul, 1) := by decide +kernel
theorem dX12_changeBack_25 : decode cX12_changeBack 25 = .ok (.iload_n 1, 1) := by decide +kernel
theorem dX12_changeBack_26 : decode cX12_changeBack 26 = .ok (.iadd, 1) := by decide +kernel
theorem dX12_changeBack_27 : decode cX12_changeBack 27 = .ok (.aload_n 0, 1) := by decide +kernel
theorem dX12_changeBack_28 : decode cX12_changeBack 28 = .ok (.getfield 68, 3) := by decide +kernel
theorem dX12_changeBack_31 : decode cX12_changeBack 31 = .ok (.iload_n 3, 1) := by decide +kernel
theorem dX12_changeBack_32 : decode cX12_changeBack 32 = .ok (.iconst 1, 1) := by decide +kernel
theorem dX12_changeBack_33 : decode cX12_changeBack 33 = .ok (.iadd, 1) := by decide +kernel
theorem dX12_changeBack_34 : decode cX12_changeBack 34 = .ok (.iaload, 1) := by decide +kernel
theorem dX12_changeBack_35 : decode cX12_changeBack 35 = .ok (.iastore, 1) := by decide +kernel
theorem dX12_changeBack_36 : decode cX12_changeBack 36 = .ok (.return_, 1) := by decide +kernel
set_option maxHeartbeats 4000000 in
set_option maxRecDepth 20000 in
theorem c_m_changeBack {G : Gx} {d : Nat} {x1 : Int32} {x2 : Int32} {x3 : Int32} {μ : Mem} {r : Mem} (hf : f_m_changeBack x1 x2 x3 μ = some r) : Con G M_m_changeBack (d + 0) [.ref (gA G 111), .int x1, .int x2, .int x3] μ (none, r) := by
  refine Con.ofV ⟨rfl, rfl, Nat.le_of_ble_eq_true rfl⟩ rfl (fun X hG hX hr dy => ?_)
  subst hG
  show AW X 0 [(0, .ref (gA (xG X) 111)), (1, .int x1), (2, .int x2), (3, .int x3)] [] μ dy
  unfold f_m_changeBack at hf
  refine r_aload_n hX dX12_changeBack_0 0 rfl ?_
  refine r_get hX fl_X12_16 (w_111 _ _ _) rfl dX12_changeBack_1 ?_
  refine r_bipush hX (14 : Int32) dX12_changeBack_4 rfl ?_
  refine r_iload_n hX dX12_changeBack_6 1 rfl ?_
  refine r_imul hX dX12_changeBack_7 ?_
  refine r_iload_n hX dX12_changeBack_8 2 rfl ?_
  refine r_iadd hX dX12_changeBack_9 ?_
  refine r_aload_n hX dX12_changeBack_10 0 rfl ?_
  refine r_get hX fl_X12_68 (w_111 _ _ _) rfl dX12_changeBack_11 ?_
  refine r_iload_n hX dX12_changeBack_14 3 rfl ?_
  obtain ⟨b1, hf⟩ := chk_eq hf
  refine r_iald hX (w_130 _ _ _) (inb_in b1) dX12_changeBack_15 ?_
  obtain ⟨b2, hf⟩ := chk_eq hf
  obtain ⟨μ3, e4, hf⟩ := bnd_eq hf
  refine r_iast hX (w_114 _ _ _) (inb_in b2) (s_114 _ _ _ _ _) e4 rfl dX12_changeBack_16 ?_
  refine r_aload_n hX dX12_changeBack_17 0 rfl ?_
  refine r_get hX fl_X12_16 (w_111 _ _ _) rfl dX12_changeBack_18 ?_
  refine r_bipush hX (14 : Int32) dX12_changeBack_21 rfl ?_
  refine r_iload_n hX dX12_changeBack_23 2 rfl ?_
  refine r_imul hX dX12_changeBack_24 ?_
  refine r_iload_n hX dX12_changeBack_25 1 rfl ?_
  refine r_iadd hX dX12_changeBack_26 ?_
  refine r_aload_n hX dX12_changeBack_27 0 rfl ?_
  refine r_get hX fl_X12_68 (w_111 _ _ _) rfl dX12_changeBack_28 ?_
  refine r_iload_n hX dX12_changeBack_31 3 rfl ?_
  refine r_iconst hX (1 : Int32) dX12_changeBack_32 rfl ?_
  refine r_iadd hX dX12_changeBack_33 ?_
  obtain ⟨b5, hf⟩ := chk_eq hf
  refine r_iald hX (w_130 _ _ _) (inb_in b5) dX12_changeBack_34 ?_
  obtain ⟨b6, hf⟩ := chk_eq hf
  obtain ⟨μ7, e8, hf⟩ := bnd_eq hf
  refine r_iast hX (w_114 _ _ _) (inb_in b6) (s_114 _ _ _ _ _) e8 rfl dX12_changeBack_35 ?_
  exact fin_V hf hr _ _ _ dX12_changeBack_36
theorem dX12_isSo_0 : decode cX12_isSo 0 = .ok (.aload_n 0, 1) := by decide +kernel
theorem dX12_isSo_1 : decode cX12_isSo 1 = .ok (.aload_n 0, 1) := by decide +kernel
theorem dX12_isSo_2 : decode cX12_isSo 2 = .ok (.invokevirtual 93, 3) := by decide +kernel
theorem dX12_isSo_5 : decode cX12_isSo 5 = .ok (.aload_n 0, 1) := by decide +kernel
theorem dX12_isSo_6 : decode cX12_isSo 6 = .ok (.invokevirtual 137, 3) := by decide +kernel
theorem dX12_isSo_9 : decode cX12_isSo 9 = .ok (.iload_n 1, 1) := by decide +kernel
theorem dX12_isSo_10 : decode cX12_isSo 10 = .ok (.invokevirtual 234, 3) := by decide +kernel
theorem dX12_isSo_13 : decode cX12_isSo 13 = .ok (.iconst (-1), 1) := by decide +kernel
theorem dX12_isSo_14 : decode cX12_isSo 14 = .ok (.if_icmp .eq 7, 3) := by decide +kernel
theorem dX12_isSo_17 : decode cX12_isSo 17 = .ok (.iconst 1, 1) := by decide +kernel
theorem dX12_isSo_18 : decode cX12_isSo 18 = .ok (.goto 4, 3) := by decide +kernel
theorem dX12_isSo_21 : decode cX12_isSo 21 = .ok (.iconst 0, 1) := by decide +kernel
theorem dX12_isSo_22 : decode cX12_isSo 22 = .ok (.ireturn, 1) := by decide +kernel
set_option maxHeartbeats 4000000 in
set_option maxRecDepth 20000 in
theorem c_m_isSo {G : Gx} {d : Nat} {x1 : Int32} {μ : Mem} {r : Int32 × Mem} (hf : f_m_isSo x1 μ = some r) : Con G M_m_isSo (d + 5) [.ref (gA G 111), .int x1] μ (some (.int r.1), r.2) := by
  refine Con.ofZ ⟨rfl, rfl, Nat.le_of_ble_eq_true rfl⟩ rfl (fun X hG hX hr dy => ?_)
  subst hG
  show AW X 0 [(0, .ref (gA (xG X) 111)), (1, .int x1)] [] μ dy
  unfold f_m_isSo at hf
  refine r_aload_n hX dX12_isSo_0 0 rfl ?_
  refine r_aload_n hX dX12_isSo_1 0 rfl ?_
  obtain ⟨v3, μ1, h2, hf⟩ := bd2_eq hf
  refine r_callVI (Ok.le hX (by omega)) (c_m_everybody (d := d)  h2) cv_X12_93 (w_111 _ _ _) rfl rfl (st := [.ref (gA (xG X) 111)]) rfl rfl rfl dX12_isSo_2 (fun dy => ?_)
  refine r_aload_n hX dX12_isSo_5 0 rfl ?_
  obtain ⟨v6, μ4, h5, hf⟩ := bd2_eq hf
  refine r_callVI (Ok.le hX (by omega)) (c_m_now (d := d)  h5) cv_X12_137 (w_111 _ _ _) rfl rfl (st := [.int v3, .ref (gA (xG X) 111)]) rfl rfl rfl dX12_isSo_6 (fun dy => ?_)
  refine r_iload_n hX dX12_isSo_9 1 rfl ?_
  obtain ⟨v9, μ7, h8, hf⟩ := bd2_eq hf
  refine r_callVI (Ok.le hX (by omega)) (c_m_dayOf (d := d)  h8) cv_X12_234 (w_111 _ _ _) rfl rfl (st := []) rfl rfl rfl dX12_isSo_10 (fun dy => ?_)
  refine r_iconst hX (-1 : Int32) dX12_isSo_13 rfl ?_
  obtain ⟨v10, e11, hf⟩ := bnd_eq hf
  have J12 : AW X 22 [(0, .ref (gA (xG X) 111)), (1, .int x1)] [.int v10] μ7 dy := by
    obtain ⟨b13, hf⟩ := chk_eq hf
    exact fin_Z hf hr _ _ _ (zb_nar b13) dX12_isSo_22
  refine r_icmp_eq hX 21 dX12_isSo_14 rfl (fun hc14 => ?_) (fun hc14 => ?_)
  · refine r_iconst hX (0 : Int32) dX12_isSo_21 rfl ?_
    exact r_topI (e11.trans (by rw [if_pos hc14])) J12
  · refine r_iconst hX (1 : Int32) dX12_isSo_17 rfl ?_
    refine r_goto hX 22 dX12_isSo_18 rfl ?_
    exact r_topI (e11.trans (by rw [if_neg hc14])) J12
theorem dX12_isSoBy_0 : decode cX12_isSoBy 0 = .ok (.aload_n 0, 1) := by decide +kernel
theorem dX12_isSoBy_1 : decode cX12_isSoBy 1 = .ok (.iload_n 1, 1) := by decide +kernel
theorem dX12_isSoBy_2 : decode cX12_isSoBy 2 = .ok (.iload_n 2, 1) := by decide +kernel
theorem dX12_isSoBy_3 : decode cX12_isSoBy 3 = .ok (.iload 4, 2) := by decide +kernel
theorem dX12_isSoBy_5 : decode cX12_isSoBy 5 = .ok (.invokevirtual 326, 3) := by decide +kernel
theorem dX12_isSoBy_8 : decode cX12_isSoBy 8 = .ok (.aload_n 0, 1) := by decide +kernel
theorem dX12_isSoBy_9 : decode cX12_isSoBy 9 = .ok (.iload_n 3, 1) := by decide +kernel
theorem dX12_isSoBy_10 : decode cX12_isSoBy 10 = .ok (.invokevirtual 330, 3) := by decide +kernel
theorem dX12_isSoBy_13 : decode cX12_isSoBy 13 = .ok (.istore 5, 2) := by decide +kernel
theorem dX12_isSoBy_15 : decode cX12_isSoBy 15 = .ok (.aload_n 0, 1) := by decide +kernel
theorem dX12_isSoBy_16 : decode cX12_isSoBy 16 = .ok (.iload_n 1, 1) := by decide +kernel
theorem dX12_isSoBy_17 : decode cX12_isSoBy 17 = .ok (.iload_n 2, 1) := by decide +kernel
theorem dX12_isSoBy_18 : decode cX12_isSoBy 18 = .ok (.iload 4, 2) := by decide +kernel
theorem dX12_isSoBy_20 : decode cX12_isSoBy 20 = .ok (.invokevirtual 333, 3) := by decide +kernel
theorem dX12_isSoBy_23 : decode cX12_isSoBy 23 = .ok (.iload 5, 2) := by decide +kernel
theorem dX12_isSoBy_25 : decode cX12_isSoBy 25 = .ok (.ireturn, 1) := by decide +kernel
set_option maxHeartbeats 4000000 in
set_option maxRecDepth 20000 in
theorem c_m_isSoBy {G : Gx} {d : Nat} {x1 : Int32} {x2 : Int32} {x3 : Int32} {x4 : Int32} {μ : Mem} {r : Int32 × Mem} (hf : f_m_isSoBy x1 x2 x3 x4 μ = some r) : Con G M_m_isSoBy (d + 6) [.ref (gA G 111), .int x1, .int x2, .int x3, .int x4] μ (some (.int r.1), r.2) := by
  refine Con.ofZ ⟨rfl, rfl, Nat.le_of_ble_eq_true rfl⟩ rfl (fun X hG hX hr dy => ?_)
  subst hG
  show AW X 0 [(0, .ref (gA (xG X) 111)), (1, .int x1), (2, .int x2), (3, .int x3), (4, .int x4)] [] μ dy
  unfold f_m_isSoBy at hf
  refine r_aload_n hX dX12_isSoBy_0 0 rfl ?_
  refine r_iload_n hX dX12_isSoBy_1 1 rfl ?_
  refine r_iload_n hX dX12_isSoBy_2 2 rfl ?_
  refine r_iload hX dX12_isSoBy_3 4 rfl ?_
  obtain ⟨μ1, h2, hf⟩ := bd1_eq hf
  refine r_callVV (Ok.le hX (by omega)) (c_m_changePair (d := d)  h2) cv_X12_326 (w_111 _ _ _) rfl rfl (st := []) rfl rfl rfl dX12_isSoBy_5 (fun dy => ?_)
  refine r_aload_n hX dX12_isSoBy_8 0 rfl ?_
  refine r_iload_n hX dX12_isSoBy_9 3 rfl ?_
  obtain ⟨v5, μ3, h4, hf⟩ := bd2_eq hf
  refine r_callVI (Ok.le hX (by omega)) (c_m_isSo (d := d)  h4) cv_X12_330 (w_111 _ _ _) rfl rfl (st := []) rfl rfl rfl dX12_isSoBy_10 (fun dy => ?_)
  refine r_istore hX dX12_isSoBy_13 rfl (ls' := [(5, .int v5), (0, .ref (gA (xG X) 111)), (1, .int x1), (2, .int x2), (3, .int x3), (4, .int x4)]) rfl ?_
  refine r_aload_n hX dX12_isSoBy_15 1 rfl ?_
  refine r_iload_n hX dX12_isSoBy_16 2 rfl ?_
  refine r_iload_n hX dX12_isSoBy_17 3 rfl ?_
  refine r_iload hX dX12_isSoBy_18 5 rfl ?_
  obtain ⟨μ6, h7, hf⟩ := bd1_eq hf
  refine r_callVV (Ok.le hX (by omega)) (c_m_changeBack (d := d)  h7) cv_X12_333 (w_111 _ _ _) rfl rfl (st := []) rfl rfl rfl dX12_isSoBy_20 (fun dy => ?_)
  refine r_iload hX dX12_isSoBy_23 0 rfl ?_
  obtain ⟨b8, hf⟩ := chk_eq hf
  exact fin_Z hf hr _ _ _ (zb_nar b8) dX12_isSoBy_25
theorem dX12_isSoWithTwo_0 : decode cX12_isSoWithTwo 0 = .ok (.aload_n 0, 1) := by decide +kernel
theorem dX12_isSoWithTwo_1 : decode cX12_isSoWithTwo 1 = .ok (.iload_n 1, 1) := by decide +kernel
theorem dX12_isSoWithTwo_2 : decode cX12_isSoWithTwo 2 = .ok (.iload_n 2, 1) := by decide +kernel
theorem dX12_isSoWithTwo_3 : decode cX12_isSoWithTwo 3 = .ok (.iconst 0, 1) := by decide +kernel
theorem dX12_isSoWithTwo_4 : decode cX12_isSoWithTwo 4 = .ok (.invokevirtual 326, 3) := by decide +kernel
theorem dX12_isSoWithTwo_7 : decode cX12_isSoWithTwo 7 = .ok (.iconst 0, 1) := by decide +kernel
theorem dX12_isSoWithTwo_8 : decode cX12_isSoWithTwo 8 = .ok (.istore 4, 2) := by decide +kernel
theorem dX12_isSoWithTwo_10 : decode cX12_isSoWithTwo 10 = .ok (.iload_n 1, 1) := by decide +kernel
theorem dX12_isSoWithTwo_11 : decode cX12_isSoWithTwo 11 = .ok (.istore 5, 2) := by decide +kernel
theorem dX12_isSoWithTwo_13 : decode cX12_isSoWithTwo 13 = .ok (.iload 5, 2) := by decide +kernel
theorem dX12_isSoWithTwo_15 : decode cX12_isSoWithTwo 15 = .ok (.aload_n 0, 1) := by decide +kernel
theorem dX12_isSoWithTwo_16 : decode cX12_isSoWithTwo 16 = .ok (.getfield 86, 3) := by decide +kernel
theorem dX12_isSoWithTwo_19 : decode cX12_isSoWithTwo 19 = .ok (.if_icmp .ge 103, 3) := by decide +kernel
theorem dX12_isSoWithTwo_22 : decode cX12_isSoWithTwo 22 = .ok (.iload 4, 2) := by decide +kernel
theorem dX12_isSoWithTwo_24 : decode cX12_isSoWithTwo 24 = .ok (.ifCond .ne 98, 3) := by decide +kernel
theorem dX12_isSoWithTwo_27 : decode cX12_isSoWithTwo 27 = .ok (.iload 5, 2) := by decide +kernel
theorem dX12_isSoWithTwo_29 : decode cX12_isSoWithTwo 29 = .ok (.iload_n 1, 1) := by decide +kernel
theorem dX12_isSoWithTwo_30 : decode cX12_isSoWithTwo 30 = .ok (.if_icmp .ne 9, 3) := by decide +kernel
theorem dX12_isSoWithTwo_33 : decode cX12_isSoWithTwo 33 = .ok (.iload_n 2, 1) := by decide +kernel
theorem dX12_isSoWithTwo_34 : decode cX12_isSoWithTwo 34 = .ok (.iconst 1, 1) := by decide +kernel
theorem dX12_isSoWithTwo_35 : decode cX12_isSoWithTwo 35 = .ok (.iadd, 1) := by decide +kernel
theorem dX12_isSoWithTwo_36 : decode cX12_isSoWithTwo 36 = .ok (.goto 7, 3) := by decide +kernel
theorem dX12_isSoWithTwo_39 : decode cX12_isSoWithTwo 39 = .ok (.iload 5, 2) := by decide +kernel
theorem dX12_isSoWithTwo_41 : decode cX12_isSoWithTwo 41 = .ok (.iconst 1, 1) := by decide +kernel
theorem dX12_isSoWithTwo_42 : decode cX12_isSoWithTwo 42 = .ok (.iadd, 1) := by decide +kernel
theorem dX12_isSoWithTwo_43 : decode cX12_isSoWithTwo 43 = .ok (.istore 6, 2) := by decide +kernel
theorem dX12_isSoWithTwo_45 : decode cX12_isSoWithTwo 45 = .ok (.iload 6, 2) := by decide +kernel
theorem dX12_isSoWithTwo_47 : decode cX12_isSoWithTwo 47 = .ok (.aload_n 0, 1) := by decide +kernel
theorem dX12_isSoWithTwo_48 : decode cX12_isSoWithTwo 48 = .ok (.getfield 86, 3) := by decide +kernel
theorem dX12_isSoWithTwo_51 : decode cX12_isSoWithTwo 51 = .ok (.if_icmp .ge 65, 3) := by decide +kernel
theorem dX12_isSoWithTwo_54 : decode cX12_isSoWithTwo 54 = .ok (.iload 4, 2) := by decide +kernel
theorem dX12_isSoWithTwo_56 : decode cX12_isSoWithTwo 56 = .ok (.ifCond .ne 60, 3) := by decide +kernel
theorem dX12_isSoWithTwo_59 : decode cX12_isSoWithTwo 59 = .ok (.aload_n 0, 1) := by decide +kernel
theorem dX12_isSoWithTwo_60 : decode cX12_isSoWithTwo 60 = .ok (.iload 5, 2) := by decide +kernel
theorem dX12_isSoWithTwo_62 : decode cX12_isSoWithTwo 62 = .ok (.iload 6, 2) := by decide +kernel
theorem dX12_isSoWithTwo_64 : decode cX12_isSoWithTwo 64 = .ok (.iload_n 3, 1) := by decide +kernel
theorem dX12_isSoWithTwo_65 : decode cX12_isSoWithTwo 65 = .ok (.iconst 2, 1) := by decide +kernel
theorem dX12_isSoWithTwo_66 : decode cX12_isSoWithTwo 66 = .ok (.invokevirtual 336, 3) := by decide +kernel
theorem dX12_isSoWithTwo_69 : decode cX12_isSoWithTwo 69 = .ok (.istore 4, 2) := by decide +kernel
theorem dX12_isSoWithTwo_71 : decode cX12_isSoWithTwo 71 = .ok (.iload 4, 2) := by decide +kernel
theorem dX12_isSoWithTwo_73 : decode cX12_isSoWithTwo 73 = .ok (.ifCond .ne 6, 3) := by decide +kernel
theorem dX12_isSoWithTwo_76 : decode cX12_isSoWithTwo 76 = .ok (.goto 34, 3) := by decide +kernel
theorem dX12_isSoWithTwo_79 : decode cX12_isSoWithTwo 79 = .ok (.aload_n 0, 1) := by decide +kernel
theorem dX12_isSoWithTwo_80 : decode cX12_isSoWithTwo 80 = .ok (.iconst 0, 1) := by decide +kernel
theorem dX12_isSoWithTwo_81 : decode cX12_isSoWithTwo 81 = .ok (.putfield 83, 3) := by decide +kernel
theorem dX12_isSoWithTwo_84 : decode cX12_isSoWithTwo 84 = .ok (.aload_n 0, 1) := by decide +kernel
theorem dX12_isSoWithTwo_85 : decode cX12_isSoWithTwo 85 = .ok (.iload_n 1, 1) := by decide +kernel
theorem dX12_isSoWithTwo_86 : decode cX12_isSoWithTwo 86 = .ok (.i2l, 1) := by decide +kernel
theorem dX12_isSoWithTwo_87 : decode cX12_isSoWithTwo 87 = .ok (.invokevirtual 217, 3) := by decide +kernel
theorem dX12_isSoWithTwo_90 : decode cX12_isSoWithTwo 90 = .ok (.aload_n 0, 1) := by decide +kernel
theorem dX12_isSoWithTwo_91 : decode cX12_isSoWithTwo 91 = .ok (.iload_n 2, 1) := by decide +kernel
theorem dX12_isSoWithTwo_92 : decode cX12_isSoWithTwo 92 = .ok (.i2l, 1) := by decide +kernel
theorem dX12_isSoWithTwo_93 : decode cX12_isSoWithTwo 93 = .ok (.invokevirtual 217, 3) := by decide +kernel
theorem dX12_isSoWithTwo_96 : decode cX12_isSoWithTwo 96 = .ok (.aload_n 0, 1) := by decide +kernel
theorem dX12_isSoWithTwo_97 : decode cX12_isSoWithTwo 97 = .ok (.iload 5, 2) := by decide +kernel
theorem dX12_isSoWithTwo_99 : decode cX12_isSoWithTwo 99 = .ok (.i2l, 1) := by decide +kernel
theorem dX12_isSoWithTwo_100 : decode cX12_isSoWithTwo 100 = .ok (.invokevirtual 217, 3) := by decide +kernel
theorem dX12_isSoWithTwo_103 : decode cX12_isSoWithTwo 103 = .ok (.aload_n 0, 1) := by decide +kernel
theorem dX12_isSoWithTwo_104 : decode cX12_isSoWithTwo 104 = .ok (.iload 6, 2) := by decide +kernel
theorem dX12_isSoWithTwo_106 : decode cX12_isSoWithTwo 106 = .ok (.i2l, 1) := by decide +kernel
theorem dX12_isSoWithTwo_107 : decode cX12_isSoWithTwo 107 = .ok (.invokevirtual 217, 3) := by decide +kernel
theorem dX12_isSoWithTwo_110 : decode cX12_isSoWithTwo 110 = .ok (.iinc 6 1, 3) := by decide +kernel
theorem dX12_isSoWithTwo_113 : decode cX12_isSoWithTwo 113 = .ok (.goto (-68), 3) := by decide +kernel
theorem dX12_isSoWithTwo_116 : decode cX12_isSoWithTwo 116 = .ok (.iinc 5 1, 3) := by decide +kernel
theorem dX12_isSoWithTwo_119 : decode cX12_isSoWithTwo 119 = .ok (.goto (-106), 3) := by decide +kernel
theorem dX12_isSoWithTwo_122 : decode cX12_isSoWithTwo 122 = .ok (.aload_n 0, 1) := by decide +kernel
theorem dX12_isSoWithTwo_123 : decode cX12_isSoWithTwo 123 = .ok (.iload_n 1, 1) := by decide +kernel
theorem dX12_isSoWithTwo_124 : decode cX12_isSoWithTwo 124 = .ok (.iload_n 2, 1) := by decide +kernel
theorem dX12_isSoWithTwo_125 : decode cX12_isSoWithTwo 125 = .ok (.iconst 0, 1) := by decide +kernel
theorem dX12_isSoWithTwo_126 : decode cX12_isSoWithTwo 126 = .ok (.invokevirtual 333, 3) := by decide +kernel
theorem dX12_isSoWithTwo_129 : decode cX12_isSoWithTwo 129 = .ok (.iload 4, 2) := by decide +kernel
theorem dX12_isSoWithTwo_131 : decode cX12_isSoWithTwo 131 = .ok (.ireturn, 1) := by decide +kernel
set_option maxHeartbeats 4000000 in
set_option maxRecDepth 20000 in
theorem b_m_isSoWithTwo_b122 {X : Cx} {d : Nat} (hX : Ok M_m_isSoWithTwo (d + 7) X) {r : Int32 × Mem} (hr : RetZ M_m_isSoWithTwo X r.1 r.2) (x1 : Int32) (x2 : Int32) (x4 : Int32) (μ : Mem) (dy : Nat → Nat) (hf : f_m_isSoWithTwo_b122 x1 x2 x4 μ = some r) : AW X 122 [(0, .ref (gA (xG X) 111)), (1, .int x1), (2, .int x2), (4, .int x4)] [] μ dy := by
  unfold f_m_isSoWithTwo_b122 at hf
  refine r_aload_n hX dX12_isSoWithTwo_122 0 rfl ?_
  refine r_iload_n hX dX12_isSoWithTwo_123 1 rfl ?_
  refine r_iload_n hX dX12_isSoWithTwo_124 2 rfl ?_
  refine r_iconst hX (0 : Int32) dX12_isSoWithTwo_125 rfl ?_
  obtain ⟨μ4, h5, hf⟩ := bd1_eq hf
  refine r_callVV (Ok.le hX (by omega)) (c_m_changeBack (d := d)  h5) cv_X12_333 (w_111 _ _ _) rfl rfl (st := []) rfl rfl rfl dX12_isSoWithTwo_126 (fun dy => ?_)
  refine r_iload hX dX12_isSoWithTwo_129 3 rfl ?_
  obtain ⟨b6, hf⟩ := chk_eq hf
  exact fin_Z hf hr _ _ _ (zb_nar b6) dX12_isSoWithTwo_131
set_option maxHeartbeats 4000000 in
set_option maxRecDepth 20000 in
theorem b_m_isSoWithTwo_b45 {X : Cx} {d : Nat} (hX : Ok M_m_isSoWithTwo (d + 7) X) {r : Int32 × Mem} (hr : RetZ M_m_isSoWithTwo X r.1 r.2) {k13 : Int32 → Int32 → Int32 → Int32 → Int32 → Mem → Option (Int32 × Mem)} (hk13 : ∀ (x1 : Int32) (x2 : Int32) (x3 : Int32) (x4 : Int32) (x5 : Int32) (μ : Mem) (dy : Nat → Nat), k13 x1 x2 x3 x4 x5 μ = some r → AW X 13 [(0, .ref (gA (xG X) 111)), (1, .int x1), (2, .int x2), (3, .int x3), (4, .int x4), (5, .int x5)] [] μ dy) : ∀ (n : Nat) (x1 : Int32) (x2 : Int32) (x3 : Int32) (x4 : Int32) (x5 : Int32) (x6 : Int32) (μ : Mem) (dy : Nat → Nat), f_m_isSoWithTwo_b45 k13 n x1 x2 x3 x4 x5 x6 μ = some r → AW X 45 [(0, .ref (gA (xG X) 111)), (1, .int x1), (2, .int x2), (3, .int x3), (4, .int x4), (5, .int x5), (6, .int x6)] [] μ dy := by
  intro n
  induction n with
  | zero => intro x1 x2 x3 x4 x5 x6 μ dy hf; exact nomatch hf
  | succ n ih =>
    intro x1 x2 x3 x4 x5 x6 μ dy hf
    rw [f_m_isSoWithTwo_b45] at hf
    refine r_iload hX dX12_isSoWithTwo_45 6 rfl ?_
    refine r_aload_n hX dX12_isSoWithTwo_47 0 rfl ?_
    refine r_get hX fl_X12_86 (w_111 _ _ _) rfl dX12_isSoWithTwo_48 ?_
    refine r_icmp_ge hX 116 dX12_isSoWithTwo_51 rfl (fun hc11 => ?_) (fun hc11 => ?_)
    · rw [if_pos hc11] at hf
      refine r_iinc hX (x5 + (1 : Int32)) dX12_isSoWithTwo_116 5 rfl rfl rfl (ls' := [(5, .int (x5 + (1 : Int32))), (0, .ref (gA (xG X) 111)), (1, .int x1), (2, .int x2), (3, .int x3), (4, .int x4), (6, .int x6)]) rfl ?_
      refine r_goto hX 13 dX12_isSoWithTwo_119 rfl ?_
      refine r_weak [1, 2, 3, 4, 5, 0] rfl ?_
      exact hk13 _ _ _ _ _ _ _ hf
    · rw [if_neg hc11] at hf
      refine r_iload hX dX12_isSoWithTwo_54 4 rfl ?_
      refine r_if_ne hX 116 dX12_isSoWithTwo_56 rfl (fun hc12 => ?_) (fun hc12 => ?_)
      · rw [if_neg hc12] at hf
        refine r_iinc hX (x5 + (1 : Int32)) dX12_isSoWithTwo_116 5 rfl rfl rfl (ls' := [(5, .int (x5 + (1 : Int32))), (0, .ref (gA (xG X) 111)), (1, .int x1), (2, .int x2), (3, .int x3), (4, .int x4), (6, .int x6)]) rfl ?_
        refine r_goto hX 13 dX12_isSoWithTwo_119 rfl ?_
        refine r_weak [1, 2, 3, 4, 5, 0] rfl ?_
        exact hk13 _ _ _ _ _ _ _ hf
      · rw [if_pos hc12] at hf
        refine r_aload_n hX dX12_isSoWithTwo_59 0 rfl ?_
        refine r_iload hX dX12_isSoWithTwo_60 5 rfl ?_
        refine r_iload hX dX12_isSoWithTwo_62 6 rfl ?_
        refine r_iload_n hX dX12_isSoWithTwo_64 3 rfl ?_
        refine r_iconst hX (2 : Int32) dX12_isSoWithTwo_65 rfl ?_
        obtain ⟨v15, μ13, h14, hf⟩ := bd2_eq hf
        refine r_callVI (Ok.le hX (by omega)) (c_m_isSoBy (d := d)  h14) cv_X12_336 (w_111 _ _ _) rfl rfl (st := []) rfl rfl rfl dX12_isSoWithTwo_66 (fun dy => ?_)
        refine r_istore hX dX12_isSoWithTwo_69 rfl (ls' := [(4, .int v15), (0, .ref (gA (xG X) 111)), (1, .int x1), (2, .int x2), (3, .int x3), (5, .int x5), (6, .int x6)]) rfl ?_
        refine r_iload hX dX12_isSoWithTwo_71 0 rfl ?_
        refine r_if_ne hX 79 dX12_isSoWithTwo_73 rfl (fun hc16 => ?_) (fun hc16 => ?_)
        · rw [if_neg hc16] at hf
          refine r_aload_n hX dX12_isSoWithTwo_79 1 rfl ?_
          refine r_iconst hX (0 : Int32) dX12_isSoWithTwo_80 rfl ?_
          obtain ⟨μ17, e18, hf⟩ := bnd_eq hf
          refine r_put hX fl_X12_83 ft_X12_10 (w_111 _ _ _) rfl rfl rfl (s_111_10 _ _ _ _) e18 rfl dX12_isSoWithTwo_81 ?_
          refine r_aload_n hX dX12_isSoWithTwo_84 1 rfl ?_
          refine r_iload_n hX dX12_isSoWithTwo_85 2 rfl ?_
          refine r_i2l hX dX12_isSoWithTwo_86 ?_
          obtain ⟨μ19, h20, hf⟩ := bd1_eq hf
          refine r_callVV (Ok.le hX (by omega)) (c_m_tell (d := d)  h20) cv_X12_217 (w_111 _ _ _) rfl rfl (st := []) rfl rfl rfl dX12_isSoWithTwo_87 (fun dy => ?_)
          refine r_aload_n hX dX12_isSoWithTwo_90 1 rfl ?_
          refine r_iload_n hX dX12_isSoWithTwo_91 3 rfl ?_
          refine r_i2l hX dX12_isSoWithTwo_92 ?_
          obtain ⟨μ21, h22, hf⟩ := bd1_eq hf
          refine r_callVV (Ok.le hX (by omega)) (c_m_tell (d := d)  h22) cv_X12_217 (w_111 _ _ _) rfl rfl (st := []) rfl rfl rfl dX12_isSoWithTwo_93 (fun dy => ?_)
          refine r_aload_n hX dX12_isSoWithTwo_96 1 rfl ?_
          refine r_iload hX dX12_isSoWithTwo_97 5 rfl ?_
          refine r_i2l hX dX12_isSoWithTwo_99 ?_
          obtain ⟨μ23, h24, hf⟩ := bd1_eq hf
          refine r_callVV (Ok.le hX (by omega)) (c_m_tell (d := d)  h24) cv_X12_217 (w_111 _ _ _) rfl rfl (st := []) rfl rfl rfl dX12_isSoWithTwo_100 (fun dy => ?_)
          refine r_aload_n hX dX12_isSoWithTwo_103 1 rfl ?_
          refine r_iload hX dX12_isSoWithTwo_104 6 rfl ?_
          refine r_i2l hX dX12_isSoWithTwo_106 ?_
          obtain ⟨μ25, h26, hf⟩ := bd1_eq hf
          refine r_callVV (Ok.le hX (by omega)) (c_m_tell (d := d)  h26) cv_X12_217 (w_111 _ _ _) rfl rfl (st := []) rfl rfl rfl dX12_isSoWithTwo_107 (fun dy => ?_)
          refine r_iinc hX (x6 + (1 : Int32)) dX12_isSoWithTwo_110 6 rfl rfl rfl (ls' := [(6, .int (x6 + (1 : Int32))), (4, .int v15), (0, .ref (gA (xG X) 111)), (1, .int x1), (2, .int x2), (3, .int x3), (5, .int x5)]) rfl ?_
          refine r_goto hX 45 dX12_isSoWithTwo_113 rfl ?_
          refine r_weak [2, 3, 4, 5, 1, 6, 0] rfl ?_
          exact ih _ _ _ _ _ _ _ _ hf
        · rw [if_pos hc16] at hf
          refine r_goto hX 110 dX12_isSoWithTwo_76 rfl ?_
          refine r_iinc hX (x6 + (1 : Int32)) dX12_isSoWithTwo_110 6 rfl rfl rfl (ls' := [(6, .int (x6 + (1 : Int32))), (4, .int v15), (0, .ref (gA (xG X) 111)), (1, .int x1), (2, .int x2), (3, .int x3), (5, .int x5)]) rfl ?_
          refine r_goto hX 45 dX12_isSoWithTwo_113 rfl ?_
          refine r_weak [2, 3, 4, 5, 1, 6, 0] rfl ?_
          exact ih _ _ _ _ _ _ _ _ hf
set_option maxHeartbeats 4000000 in
set_option maxRecDepth 20000 in
theorem b_m_isSoWithTwo_b13 {X : Cx} {d : Nat} (hX : Ok M_m_isSoWithTwo (d + 7) X) {r : Int32 × Mem} (hr : RetZ M_m_isSoWithTwo X r.1 r.2) : ∀ (n : Nat) (x1 : Int32) (x2 : Int32) (x3 : Int32) (x4 : Int32) (x5 : Int32) (μ : Mem) (dy : Nat → Nat), f_m_isSoWithTwo_b13 n x1 x2 x3 x4 x5 μ = some r → AW X 13 [(0, .ref (gA (xG X) 111)), (1, .int x1), (2, .int x2), (3, .int x3), (4, .int x4), (5, .int x5)] [] μ dy := by
  intro n
  induction n with
  | zero => intro x1 x2 x3 x4 x5 μ dy hf; exact nomatch hf
  | succ n ih =>
    intro x1 x2 x3 x4 x5 μ dy hf
    rw [f_m_isSoWithTwo_b13] at hf
    refine r_iload hX dX12_isSoWithTwo_13 5 rfl ?_
    refine r_aload_n hX dX12_isSoWithTwo_15 0 rfl ?_
    refine r_get hX fl_X12_86 (w_111 _ _ _) rfl dX12_isSoWithTwo_16 ?_
    refine r_icmp_ge hX 122 dX12_isSoWithTwo_19 rfl (fun hc3 => ?_) (fun hc3 => ?_)
    · rw [if_pos hc3] at hf
      refine r_weak [0, 1, 2, 4] rfl ?_
      exact b_m_isSoWithTwo_b122 hX hr _ _ _ _ _ hf
    · rw [if_neg hc3] at hf
      refine r_iload hX dX12_isSoWithTwo_22 4 rfl ?_
      refine r_if_ne hX 122 dX12_isSoWithTwo_24 rfl (fun hc7 => ?_) (fun hc7 => ?_)
      · rw [if_neg hc7] at hf
        refine r_weak [0, 1, 2, 4] rfl ?_
        exact b_m_isSoWithTwo_b122 hX hr _ _ _ _ _ hf
      · rw [if_pos hc7] at hf
        refine r_iload hX dX12_isSoWithTwo_27 5 rfl ?_
        refine r_iload_n hX dX12_isSoWithTwo_29 1 rfl ?_
        obtain ⟨v8, e9, hf⟩ := bnd_eq hf
        have J10 : AW X 43 [(0, .ref (gA (xG X) 111)), (1, .int x1), (2, .int x2), (3, .int x3), (4, .int x4), (5, .int x5)] [.int v8] μ dy := by
          refine r_istore hX dX12_isSoWithTwo_43 rfl (ls' := [(6, .int v8), (0, .ref (gA (xG X) 111)), (1, .int x1), (2, .int x2), (3, .int x3), (4, .int x4), (5, .int x5)]) rfl ?_
          refine r_weak [1, 2, 3, 4, 5, 6, 0] rfl ?_
          exact b_m_isSoWithTwo_b45 hX hr ih FU _ _ _ _ _ _ _ _ hf
        refine r_icmp_ne hX 39 dX12_isSoWithTwo_30 rfl (fun hc27 => ?_) (fun hc27 => ?_)
        · refine r_iload hX dX12_isSoWithTwo_39 5 rfl ?_
          refine r_iconst hX (1 : Int32) dX12_isSoWithTwo_41 rfl ?_
          refine r_iadd hX dX12_isSoWithTwo_42 ?_
          exact r_topI (e9.trans (by rw [if_neg hc27])) J10
        · refine r_iload_n hX dX12_isSoWithTwo_33 2 rfl ?_
          refine r_iconst hX (1 : Int32) dX12_isSoWithTwo_34 rfl ?_
          refine r_iadd hX dX12_isSoWithTwo_35 ?_
          refine r_goto hX 43 dX12_isSoWithTwo_36 rfl ?_
          exact r_topI (e9.trans (by rw [if_pos hc27])) J10
set_option maxHeartbeats 4000000 in
set_option maxRecDepth 20000 in
theorem c_m_isSoWithTwo {G : Gx} {d : Nat} {x1 : Int32} {x2 : Int32} {x3 : Int32} {μ : Mem} {r : Int32 × Mem} (hf : f_m_isSoWithTwo x1 x2 x3 μ = some r) : Con G M_m_isSoWithTwo (d + 7) [.ref (gA G 111), .int x1, .int x2, .int x3] μ (some (.int r.1), r.2) := by
  refine Con.ofZ ⟨rfl, rfl, Nat.le_of_ble_eq_true rfl⟩ rfl (fun X hG hX hr dy => ?_)
  subst hG
  show AW X 0 [(0, .ref (gA (xG X) 111)), (1, .int x1), (2, .int x2), (3, .int x3)] [] μ dy
  unfold f_m_isSoWithTwo at hf
  refine r_aload_n hX dX12_isSoWithTwo_0 0 rfl ?_
  refine r_iload_n hX dX12_isSoWithTwo_1 1 rfl ?_
  refine r_iload_n hX dX12_isSoWithTwo_2 2 rfl ?_
  refine r_iconst hX (0 : Int32) dX12_isSoWithTwo_3 rfl ?_
  obtain ⟨μ1, h2, hf⟩ := bd1_eq hf
  refine r_callVV (Ok.le hX (by omega)) (c_m_changePair (d := d)  h2) cv_X12_326 (w_111 _ _ _) rfl rfl (st := []) rfl rfl rfl dX12_isSoWithTwo_4 (fun dy => ?_)
  refine r_iconst hX (0 : Int32) dX12_isSoWithTwo_7 rfl ?_
  refine r_istore hX dX12_isSoWithTwo_8 rfl (ls' := [(4, .int (0 : Int32)), (0, .ref (gA (xG X) 111)), (1, .int x1), (2, .int x2), (3, .int x3)]) rfl ?_
  refine r_iload_n hX dX12_isSoWithTwo_10 2 rfl ?_
  refine r_istore hX dX12_isSoWithTwo_11 rfl (ls' := [(5, .int x1), (4, .int (0 : Int32)), (0, .ref (gA (xG X) 111)), (1, .int x1), (2, .int x2), (3, .int x3)]) rfl ?_
  refine r_weak [2, 3, 4, 5, 1, 0] rfl ?_
  exact b_m_isSoWithTwo_b13 hX hr FU _ _ _ _ _ _ _ hf
theorem dX12_change_0 : decode cX12_change 0 = .ok (.aload_n 0, 1) := by decide +kernel
theorem dX12_change_1 : decode cX12_change 1 = .ok (.iconst 0, 1) := by decide +kernel
theorem dX12_change_2 : decode cX12_change 2 = .ok (.putfield 80, 3) := by decide +kernel
theorem dX12_change_5 : decode cX12_change 5 = .ok (.iload_n 1, 1) := by decide +kernel
theorem dX12_change_6 : decode cX12_change 6 = .ok (.bipush 20, 2) := by decide +kernel
theorem dX12_change_8 : decode cX12_change 8 = .ok (.invokestatic 253, 3) := by decide +kernel
theorem dX12_change_11 : decode cX12_change 11 = .ok (.ifCond .ne 5, 3) := by decide +kernel
theorem dX12_change_14 : decode cX12_change 14 = .ok (.iconst (-1), 1) := by decide +kernel
theorem dX12_change_15 : decode cX12_change 15 = .ok (.ireturn, 1) := by decide +kernel
theorem dX12_change_16 : decode cX12_change 16 = .ok (.aload_n 0, 1) := by decide +kernel
theorem dX12_change_17 : decode cX12_change 17 = .ok (.iload_n 1, 1) := by decide +kernel
theorem dX12_change_18 : decode cX12_change 18 = .ok (.invokevirtual 330, 3) := by decide +kernel
theorem dX12_change_21 : decode cX12_change 21 = .ok (.ifCond .eq 10, 3) := by decide +kernel
theorem dX12_change_24 : decode cX12_change 24 = .ok (.aload_n 0, 1) := by decide +kernel
theorem dX12_change_25 : decode cX12_change 25 = .ok (.iconst 0, 1) := by decide +kernel
theorem dX12_change_26 : decode cX12_change 26 = .ok (.putfield 83, 3) := by decide +kernel
theorem dX12_change_29 : decode cX12_change 29 = .ok (.iconst 0, 1) := by decide +kernel
theorem dX12_change_30 : decode cX12_change 30 = .ok (.ireturn, 1) := by decide +kernel
theorem dX12_change_31 : decode cX12_change 31 = .ok (.iconst 0, 1) := by decide +kernel
theorem dX12_change_32 : decode cX12_change 32 = .ok (.istore_n 2, 1) := by decide +kernel
theorem dX12_change_33 : decode cX12_change 33 = .ok (.iload_n 2, 1) := by decide +kernel
theorem dX12_change_34 : decode cX12_change 34 = .ok (.aload_n 0, 1) := by decide +kernel
theorem dX12_change_35 : decode cX12_change 35 = .ok (.getfield 86, 3) := by decide +kernel
theorem dX12_change_38 : decode cX12_change 38 = .ok (.if_icmp .ge 60, 3) := by decide +kernel
theorem dX12_change_41 : decode cX12_change 41 = .ok (.iload_n 2, 1) := by decide +kernel
theorem dX12_change_42 : decode cX12_change 42 = .ok (.iconst 1, 1) := by decide +kernel
theorem dX12_change_43 : decode cX12_change 43 = .ok (.iadd, 1) := by decide +kernel
theorem dX12_change_44 : decode cX12_change 44 = .ok (.istore_n 3, 1) := by decide +kernel
theorem dX12_change_45 : decode cX12_change 45 = .ok (.iload_n 3, 1) := by decide +kernel
theorem dX12_change_46 : decode cX12_change 46 = .ok (.aload_n 0, 1) := by decide +kernel
theorem dX12_change_47 : decode cX12_change 47 = .ok (.getfield 86, 3) := by decide +kernel
theorem dX12_change_50 : decode cX12_change 50 = .ok (.if_icmp .ge 42, 3) := by decide +kernel
theorem dX12_change_53 : decode cX12_change 53 = .ok (.aload_n 0, 1) := by decide +kernel
theorem dX12_change_54 : decode cX12_change 54 = .ok (.iload_n 2, 1) := by decide +kernel
theorem dX12_change_55 : decode cX12_change 55 = .ok (.iload_n 3, 1) := by decide +kernel
theorem dX12_change_56 : decode cX12_change 56 = .ok (.iload_n 1, 1) := by decide +kernel
theorem dX12_change_57 : decode cX12_change 57 = .ok (.iconst 0, 1) := by decide +kernel
theorem dX12_change_58 : decode cX12_change 58 = .ok (.invokevirtual 336, 3) := by decide +kernel
theorem dX12_change_61 : decode cX12_change 61 = .ok (.ifCond .ne 6, 3) := by decide +kernel
theorem dX12_change_64 : decode cX12_change 64 = .ok (.goto 22, 3) := by decide +kernel
theorem dX12_change_67 : decode cX12_change 67 = .ok (.aload_n 0, 1) := by decide +kernel
theorem dX12_change_68 : decode cX12_change 68 = .ok (.iconst 0, 1) := by decide +kernel
theorem dX12_change_69 : decode cX12_change 69 = .ok (.putfield 83, 3) := by decide +kernel
theorem dX12_change_72 : decode cX12_change 72 = .ok (.aload_n 0, 1) := by decide +kernel
theorem dX12_change_73 : decode cX12_change 73 = .ok (.iload_n 2, 1) := by decide +kernel
theorem dX12_change_74 : decode cX12_change 74 = .ok (.i2l, 1) := by decide +kernel
theorem dX12_change_75 : decode cX12_change 75 = .ok (.invokevirtual 217, 3) := by decide +kernel
theorem dX12_change_78 : decode cX12_change 78 = .ok (.aload_n 0, 1) := by decide +kernel
theorem dX12_change_79 : decode cX12_change 79 = .ok (.iload_n 3, 1) := by decide +kernel
theorem dX12_change_80 : decode cX12_change 80 = .ok (.i2l, 1) := by decide +kernel
theorem dX12_change_81 : decode cX12_change 81 = .ok (.invokevirtual 217, 3) := by decide +kernel
theorem dX12_change_84 : decode cX12_change 84 = .ok (.iconst 1, 1) := by decide +kernel
theorem dX12_change_85 : decode cX12_change 85 = .ok (.ireturn, 1) := by decide +kernel
theorem dX12_change_86 : decode cX12_change 86 = .ok (.iinc 3 1, 3) := by decide +kernel
theorem dX12_change_89 : decode cX12_change 89 = .ok (.goto (-44), 3) := by decide +kernel
theorem dX12_change_92 : decode cX12_change 92 = .ok (.iinc 2 1, 3) := by decide +kernel
theorem dX12_change_95 : decode cX12_change 95 = .ok (.goto (-62), 3) := by decide +kernel
theorem dX12_change_98 : decode cX12_change 98 = .ok (.iconst 0, 1) := by decide +kernel
theorem dX12_change_99 : decode cX12_change 99 = .ok (.istore_n 2, 1) := by decide +kernel
theorem dX12_change_100 : decode cX12_change 100 = .ok (.iload_n 2, 1) := by decide +kernel
theorem dX12_change_101 : decode cX12_change 101 = .ok (.aload_n 0, 1) := by decide +kernel
theorem dX12_change_102 : decode cX12_change 102 = .ok (.getfield 86, 3) := by decide +kernel
theorem dX12_change_105 : decode cX12_change 105 = .ok (.if_icmp .ge 39, 3) := by decide +kernel
theorem dX12_change_108 : decode cX12_change 108 = .ok (.iload_n 2, 1) := by decide +kernel
theorem dX12_change_109 : decode cX12_change 109 = .ok (.iconst 1, 1) := by decide +kernel
theorem dX12_change_110 : decode cX12_change 110 = .ok (.iadd, 1) := by decide +kernel
theorem dX12_change_111 : decode cX12_change 111 = .ok (.istore_n 3, 1) := by decide +kernel
theorem dX12_change_112 : decode cX12_change 112 = .ok (.iload_n 3, 1) := by decide +kernel
theorem dX12_change_113 : decode cX12_change 113 = .ok (.aload_n 0, 1) := by decide +kernel
theorem dX12_change_114 : decode cX12_change 114 = .ok (.getfield 86, 3) := by decide +kernel
theorem dX12_change_117 : decode cX12_change 117 = .ok (.if_icmp .ge 21, 3) := by decide +kernel
theorem dX12_change_120 : decode cX12_change 120 = .ok (.aload_n 0, 1) := by decide +kernel
theorem dX12_change_121 : decode cX12_change 121 = .ok (.iload_n 2, 1) := by decide +kernel
theorem dX12_change_122 : decode cX12_change 122 = .ok (.iload_n 3, 1) := by decide +kernel
theorem dX12_change_123 : decode cX12_change 123 = .ok (.iload_n 1, 1) := by decide +kernel
theorem dX12_change_124 : decode cX12_change 124 = .ok (.invokevirtual 340, 3) := by decide +kernel
theorem dX12_change_127 : decode cX12_change 127 = .ok (.ifCond .eq 5, 3) := by decide +kernel
theorem dX12_change_130 : decode cX12_change 130 = .ok (.iconst 2, 1) := by decide +kernel
theorem dX12_change_131 : decode cX12_change 131 = .ok (.ireturn, 1) := by decide +kernel
theorem dX12_change_132 : decode cX12_change 132 = .ok (.iinc 3 1, 3) := by decide +kernel
theorem dX12_change_135 : decode cX12_change 135 = .ok (.goto (-23), 3) := by decide +kernel
theorem dX12_change_138 : decode cX12_change 138 = .ok (.iinc 2 1, 3) := by decide +kernel
theorem dX12_change_141 : decode cX12_change 141 = .ok (.goto (-41), 3) := by decide +kernel
theorem dX12_change_144 : decode cX12_change 144 = .ok (.bipush (-2), 2) := by decide +kernel
theorem dX12_change_146 : decode cX12_change 146 = .ok (.ireturn, 1) := by decide +kernel
set_option maxHeartbeats 4000000 in
set_option maxRecDepth 20000 in
theorem b_m_change_b112 {X : Cx} {d : Nat} (hX : Ok M_m_change (d + 8) X) {r : Int32 × Mem} (hr : RetI M_m_change X r.1 r.2) {k100 : Int32 → Int32 → Mem → Option (Int32 × Mem)} (hk100 : ∀ (x1 : Int32) (x2 : Int32) (μ : Mem) (dy : Nat → Nat), k100 x1 x2 μ = some r → AW X 100 [(0, .ref (gA (xG X) 111)), (1, .int x1), (2, .int x2)] [] μ dy) : ∀ (n : Nat) (x1 : Int32) (x2 : Int32) (x3 : Int32) (μ : Mem) (dy : Nat → Nat), f_m_change_b112 k100 n x1 x2 x3 μ = some r → AW X 112 [(0, .ref (gA (xG X) 111)), (1, .int x1), (2, .int x2), (3, .int x3)] [] μ dy := by
  intro n
  induction n with
  | zero => intro x1 x2 x3 μ dy hf; exact nomatch hf
  | succ n ih =>
    intro x1 x2 x3 μ dy hf
    rw [f_m_change_b112] at hf
    refine r_iload_n hX dX12_change_112 3 rfl ?_
    refine r_aload_n hX dX12_change_113 0 rfl ?_
    refine r_get hX fl_X12_86 (w_111 _ _ _) rfl dX12_change_114 ?_
    refine r_icmp_ge hX 138 dX12_change_117 rfl (fun hc13 => ?_) (fun hc13 => ?_)
    · rw [if_pos hc13] at hf
      refine r_iinc hX (x2 + (1 : Int32)) dX12_change_138 2 rfl rfl rfl (ls' := [(2, .int (x2 + (1 : Int32))), (0, .ref (gA (xG X) 111)), (1, .int x1), (3, .int x3)]) rfl ?_
      refine r_goto hX 100 dX12_change_141 rfl ?_
      refine r_weak [1, 2, 0] rfl ?_
      exact hk100 _ _ _ _ hf
    · rw [if_neg hc13] at hf
      refine r_aload_n hX dX12_change_120 0 rfl ?_
      refine r_iload_n hX dX12_change_121 2 rfl ?_
      refine r_iload_n hX dX12_change_122 3 rfl ?_
      refine r_iload_n hX dX12_change_123 1 rfl ?_
      obtain ⟨v16, μ14, h15, hf⟩ := bd2_eq hf
      refine r_callVI (Ok.le hX (by omega)) (c_m_isSoWithTwo (d := d)  h15) cv_X12_340 (w_111 _ _ _) rfl rfl (st := []) rfl rfl rfl dX12_change_124 (fun dy => ?_)
      refine r_if_eq hX 132 dX12_change_127 rfl (fun hc17 => ?_) (fun hc17 => ?_)
      · rw [if_pos hc17] at hf
        refine r_iinc hX (x3 + (1 : Int32)) dX12_change_132 3 rfl rfl rfl (ls' := [(3, .int (x3 + (1 : Int32))), (0, .ref (gA (xG X) 111)), (1, .int x1), (2, .int x2)]) rfl ?_
        refine r_goto hX 112 dX12_change_135 rfl ?_
        refine r_weak [1, 2, 3, 0] rfl ?_
        exact ih _ _ _ _ _ hf
      · rw [if_neg hc17] at hf
        refine r_iconst hX (2 : Int32) dX12_change_130 rfl ?_
        exact fin_I hf hr _ _ _ dX12_change_131
set_option maxHeartbeats 4000000 in
set_option maxRecDepth 20000 in
theorem b_m_change_b100 {X : Cx} {d : Nat} (hX : Ok M_m_change (d + 8) X) {r : Int32 × Mem} (hr : RetI M_m_change X r.1 r.2) : ∀ (n : Nat) (x1 : Int32) (x2 : Int32) (μ : Mem) (dy : Nat → Nat), f_m_change_b100 n x1 x2 μ = some r → AW X 100 [(0, .ref (gA (xG X) 111)), (1, .int x1), (2, .int x2)] [] μ dy := by
  intro n
  induction n with
  | zero => intro x1 x2 μ dy hf; exact nomatch hf
  | succ n ih =>
    intro x1 x2 μ dy hf
    rw [f_m_change_b100] at hf
    refine r_iload_n hX dX12_change_100 2 rfl ?_
    refine r_aload_n hX dX12_change_101 0 rfl ?_
    refine r_get hX fl_X12_86 (w_111 _ _ _) rfl dX12_change_102 ?_
    refine r_icmp_ge hX 144 dX12_change_105 rfl (fun hc12 => ?_) (fun hc12 => ?_)
    · rw [if_pos hc12] at hf
      refine r_bipush hX (-2 : Int32) dX12_change_144 rfl ?_
      exact fin_I hf hr _ _ _ dX12_change_146
    · rw [if_neg hc12] at hf
      refine r_iload_n hX dX12_change_108 2 rfl ?_
      refine r_iconst hX (1 : Int32) dX12_change_109 rfl ?_
      refine r_iadd hX dX12_change_110 ?_
      refine r_istore_n hX dX12_change_111 rfl (ls' := [(3, .int (x2 + (1 : Int32))), (0, .ref (gA (xG X) 111)), (1, .int x1), (2, .int x2)]) rfl ?_
      refine r_weak [1, 2, 3, 0] rfl ?_
      exact b_m_change_b112 hX hr ih FU _ _ _ _ _ hf
set_option maxHeartbeats 4000000 in
set_option maxRecDepth 20000 in
theorem b_m_change_b45 {X : Cx} {d : Nat} (hX : Ok M_m_change (d + 8) X) {r : Int32 × Mem} (hr : RetI M_m_change X r.1 r.2) {k33 : Int32 → Int32 → Mem → Option (Int32 × Mem)} (hk33 : ∀ (x1 : Int32) (x2 : Int32) (μ : Mem) (dy : Nat → Nat), k33 x1 x2 μ = some r → AW X 33 [(0, .ref (gA (xG X) 111)), (1, .int x1), (2, .int x2)] [] μ dy) : ∀ (n : Nat) (x1 : Int32) (x2 : Int32) (x3 : Int32) (μ : Mem) (dy : Nat → Nat), f_m_change_b45 k33 n x1 x2 x3 μ = some r → AW X 45 [(0, .ref (gA (xG X) 111)), (1, .int x1), (2, .int x2), (3, .int x3)] [] μ dy := by
  intro n
  induction n with
  | zero => intro x1 x2 x3 μ dy hf; exact nomatch hf
  | succ n ih =>
    intro x1 x2 x3 μ dy hf
    rw [f_m_change_b45] at hf
    refine r_iload_n hX dX12_change_45 3 rfl ?_
    refine r_aload_n hX dX12_change_46 0 rfl ?_
    refine r_get hX fl_X12_86 (w_111 _ _ _) rfl dX12_change_47 ?_
    refine r_icmp_ge hX 92 dX12_change_50 rfl (fun hc18 => ?_) (fun hc18 => ?_)
    · rw [if_pos hc18] at hf
      refine r_iinc hX (x2 + (1 : Int32)) dX12_change_92 2 rfl rfl rfl (ls' := [(2, .int (x2 + (1 : Int32))), (0, .ref (gA (xG X) 111)), (1, .int x1), (3, .int x3)]) rfl ?_
      refine r_goto hX 33 dX12_change_95 rfl ?_
      refine r_weak [1, 2, 0] rfl ?_
      exact hk33 _ _ _ _ hf
    · rw [if_neg hc18] at hf
      refine r_aload_n hX dX12_change_53 0 rfl ?_
      refine r_iload_n hX dX12_change_54 2 rfl ?_
      refine r_iload_n hX dX12_change_55 3 rfl ?_
      refine r_iload_n hX dX12_change_56 1 rfl ?_
      refine r_iconst hX (0 : Int32) dX12_change_57 rfl ?_
      obtain ⟨v21, μ19, h20, hf⟩ := bd2_eq hf
      refine r_callVI (Ok.le hX (by omega)) (c_m_isSoBy (d := d)  h20) cv_X12_336 (w_111 _ _ _) rfl rfl (st := []) rfl rfl rfl dX12_change_58 (fun dy => ?_)
      refine r_if_ne hX 67 dX12_change_61 rfl (fun hc22 => ?_) (fun hc22 => ?_)
      · rw [if_neg hc22] at hf
        refine r_aload_n hX dX12_change_67 0 rfl ?_
        refine r_iconst hX (0 : Int32) dX12_change_68 rfl ?_
        obtain ⟨μ23, e24, hf⟩ := bnd_eq hf
        refine r_put hX fl_X12_83 ft_X12_10 (w_111 _ _ _) rfl rfl rfl (s_111_10 _ _ _ _) e24 rfl dX12_change_69 ?_
        refine r_aload_n hX dX12_change_72 0 rfl ?_
        refine r_iload_n hX dX12_change_73 2 rfl ?_
        refine r_i2l hX dX12_change_74 ?_
        obtain ⟨μ25, h26, hf⟩ := bd1_eq hf
        refine r_callVV (Ok.le hX (by omega)) (c_m_tell (d := d)  h26) cv_X12_217 (w_111 _ _ _) rfl rfl (st := []) rfl rfl rfl dX12_change_75 (fun dy => ?_)
        refine r_aload_n hX dX12_change_78 0 rfl ?_
        refine r_iload_n hX dX12_change_79 3 rfl ?_
        refine r_i2l hX dX12_change_80 ?_
        obtain ⟨μ27, h28, hf⟩ := bd1_eq hf
        refine r_callVV (Ok.le hX (by omega)) (c_m_tell (d := d)  h28) cv_X12_217 (w_111 _ _ _) rfl rfl (st := []) rfl rfl rfl dX12_change_81 (fun dy => ?_)
        refine r_iconst hX (1 : Int32) dX12_change_84 rfl ?_
        exact fin_I hf hr _ _ _ dX12_change_85
      · rw [if_pos hc22] at hf
        refine r_goto hX 86 dX12_change_64 rfl ?_
        refine r_iinc hX (x3 + (1 : Int32)) dX12_change_86 3 rfl rfl rfl (ls' := [(3, .int (x3 + (1 : Int32))), (0, .ref (gA (xG X) 111)), (1, .int x1), (2, .int x2)]) rfl ?_
        refine r_goto hX 45 dX12_change_89 rfl ?_
        refine r_weak [1, 2, 3, 0] rfl ?_
        exact ih _ _ _ _ _ hf
set_option maxHeartbeats 4000000 in
set_option maxRecDepth 20000 in
theorem b_m_change_b33 {X : Cx} {d : Nat} (hX : Ok M_m_change (d + 8) X) {r : Int32 × Mem} (hr : RetI M_m_change X r.1 r.2) : ∀ (n : Nat) (x1 : Int32) (x2 : Int32) (μ : Mem) (dy : Nat → Nat), f_m_change_b33 n x1 x2 μ = some r → AW X 33 [(0, .ref (gA (xG X) 111)), (1, .int x1), (2, .int x2)] [] μ dy := by
  intro n
  induction n with
  | zero => intro x1 x2 μ dy hf; exact nomatch hf
  | succ n ih =>
    intro x1 x2 μ dy hf
    rw [f_m_change_b33] at hf
    refine r_iload_n hX dX12_change_33 2 rfl ?_
    refine r_aload_n hX dX12_change_34 0 rfl ?_
    refine r_get hX fl_X12_86 (w_111 _ _ _) rfl dX12_change_35 ?_
    refine r_icmp_ge hX 98 dX12_change_38 rfl (fun hc11 => ?_) (fun hc11 => ?_)
    · rw [if_pos hc11] at hf
      refine r_iconst hX (0 : Int32) dX12_change_98 rfl ?_
      refine r_istore_n hX dX12_change_99 rfl (ls' := [(2, .int (0 : Int32)), (0, .ref (gA (xG X) 111)), (1, .int x1)]) rfl ?_
      refine r_weak [1, 2, 0] rfl ?_
      exact b_m_change_b100 hX hr FU _ _ _ _ hf
    · rw [if_neg hc11] at hf
      refine r_iload_n hX dX12_change_41 2 rfl ?_
      refine r_iconst hX (1 : Int32) dX12_change_42 rfl ?_
      refine r_iadd hX dX12_change_43 ?_
      refine r_istore_n hX dX12_change_44 rfl (ls' := [(3, .int (x2 + (1 : Int32))), (0, .ref (gA (xG X) 111)), (1, .int x1), (2, .int x2)]) rfl ?_
      refine r_weak [1, 2, 3, 0] rfl ?_
      exact b_m_change_b45 hX hr ih FU _ _ _ _ _ hf
set_option maxHeartbeats 4000000 in
set_option maxRecDepth 20000 in
theorem c_m_change {G : Gx} {d : Nat} {x1 : Int32} {μ : Mem} {r : Int32 × Mem} (hf : f_m_change x1 μ = some r) : Con G M_m_change (d + 8) [.ref (gA G 111), .int x1] μ (some (.int r.1), r.2) := by
  refine Con.ofI ⟨rfl, rfl, Nat.le_of_ble_eq_true rfl⟩ rfl rfl (fun X hG hX hr dy => ?_)
  subst hG
  show AW X 0 [(0, .ref (gA (xG X) 111)), (1, .int x1)] [] μ dy
  unfold f_m_change at hf
  refine r_aload_n hX dX12_change_0 0 rfl ?_
  refine r_iconst hX (0 : Int32) dX12_change_1 rfl ?_
  obtain ⟨μ1, e2, hf⟩ := bnd_eq hf
  refine r_put hX fl_X12_80 ft_X12_11 (w_111 _ _ _) rfl rfl rfl (s_111_11 _ _ _ _) e2 rfl dX12_change_2 ?_
  refine r_iload_n hX dX12_change_5 1 rfl ?_
  refine r_bipush hX (20 : Int32) dX12_change_6 rfl ?_
  obtain ⟨v5, μ3, h4, hf⟩ := bd2_eq hf
  refine r_callSI (Ok.le hX (by omega)) (c_m_isDays (d := d)  h4) cs_X12_253 (st := []) rfl rfl rfl dX12_change_8 (fun dy => ?_)
  refine r_if_ne hX 16 dX12_change_11 rfl (fun hc6 => ?_) (fun hc6 => ?_)
  · rw [if_neg hc6] at hf
    refine r_aload_n hX dX12_change_16 0 rfl ?_
    refine r_iload_n hX dX12_change_17 1 rfl ?_
    obtain ⟨v9, μ7, h8, hf⟩ := bd2_eq hf
    refine r_callVI (Ok.le hX (by omega)) (c_m_isSo (d := d)  h8) cv_X12_330 (w_111 _ _ _) rfl rfl (st := []) rfl rfl rfl dX12_change_18 (fun dy => ?_)
    refine r_if_eq hX 31 dX12_change_21 rfl (fun hc10 => ?_) (fun hc10 => ?_)
    · rw [if_pos hc10] at hf
      refine r_iconst hX (0 : Int32) dX12_change_31 rfl ?_
      refine r_istore_n hX dX12_change_32 rfl (ls' := [(2, .int (0 : Int32)), (0, .ref (gA (xG X) 111)), (1, .int x1)]) rfl ?_
      refine r_weak [1, 2, 0] rfl ?_
      exact b_m_change_b33 hX hr FU _ _ _ _ hf
    · rw [if_neg hc10] at hf
      refine r_aload_n hX dX12_change_24 0 rfl ?_
      refine r_iconst hX (0 : Int32) dX12_change_25 rfl ?_
      obtain ⟨μ29, e30, hf⟩ := bnd_eq hf
      refine r_put hX fl_X12_83 ft_X12_10 (w_111 _ _ _) rfl rfl rfl (s_111_10 _ _ _ _) e30 rfl dX12_change_26 ?_
      refine r_iconst hX (0 : Int32) dX12_change_29 rfl ?_
      exact fin_I hf hr _ _ _ dX12_change_30
  · rw [if_pos hc6] at hf
    refine r_iconst hX (-1 : Int32) dX12_change_14 rfl ?_
    exact fin_I hf hr _ _ _ dX12_change_15
theorem dX12_single_0 : decode cX12_single 0 = .ok (.aload_n 0, 1) := by decide +kernel
theorem dX12_single_1 : decode cX12_single 1 = .ok (.iconst 0, 1) := by decide +kernel
theorem dX12_single_2 : decode cX12_single 2 = .ok (.putfield 80, 3) := by decide +kernel
theorem dX12_single_5 : decode cX12_single 5 = .ok (.iload_n 1, 1) := by decide +kernel
theorem dX12_single_6 : decode cX12_single 6 = .ok (.bipush 20, 2) := by decide +kernel
theorem dX12_single_8 : decode cX12_single 8 = .ok (.invokestatic 253, 3) := by decide +kernel
theorem dX12_single_11 : decode cX12_single 11 = .ok (.ifCond .ne 5, 3) := by decide +kernel
theorem dX12_single_14 : decode cX12_single 14 = .ok (.iconst (-1), 1) := by decide +kernel
theorem dX12_single_15 : decode cX12_single 15 = .ok (.ireturn, 1) := by decide +kernel
theorem dX12_single_16 : decode cX12_single 16 = .ok (.iconst 0, 1) := by decide +kernel
theorem dX12_single_17 : decode cX12_single 17 = .ok (.istore_n 2, 1) := by decide +kernel
theorem dX12_single_18 : decode cX12_single 18 = .ok (.iconst 0, 1) := by decide +kernel
theorem dX12_single_19 : decode cX12_single 19 = .ok (.istore_n 3, 1) := by decide +kernel
theorem dX12_single_20 : decode cX12_single 20 = .ok (.iconst 0, 1) := by decide +kernel
theorem dX12_single_21 : decode cX12_single 21 = .ok (.istore 4, 2) := by decide +kernel
theorem dX12_single_23 : decode cX12_single 23 = .ok (.iload 4, 2) := by decide +kernel
theorem dX12_single_25 : decode cX12_single 25 = .ok (.aload_n 0, 1) := by decide +kernel
theorem dX12_single_26 : decode cX12_single 26 = .ok (.getfield 86, 3) := by decide +kernel
theorem dX12_single_29 : decode cX12_single 29 = .ok (.if_icmp .ge 87, 3) := by decide +kernel
theorem dX12_single_32 : decode cX12_single 32 = .ok (.iload 4, 2) := by decide +kernel
theorem dX12_single_34 : decode cX12_single 34 = .ok (.iconst 1, 1) := by decide +kernel
theorem dX12_single_35 : decode cX12_single 35 = .ok (.iadd, 1) := by decide +kernel
theorem dX12_single_36 : decode cX12_single 36 = .ok (.istore 5, 2) := by decide +kernel
theorem dX12_single_38 : decode cX12_single 38 = .ok (.iload 5, 2) := by decide +kernel
theorem dX12_single_40 : decode cX12_single 40 = .ok (.aload_n 0, 1) := by decide +kernel
theorem dX12_single_41 : decode cX12_single 41 = .ok (.getfield 86, 3) := by decide +kernel
theorem dX12_single_44 : decode cX12_single 44 = .ok (.if_icmp .ge 66, 3) := by decide +kernel
theorem dX12_single_47 : decode cX12_single 47 = .ok (.aload_n 0, 1) := by decide +kernel
theorem dX12_single_48 : decode cX12_single 48 = .ok (.iload 4, 2) := by decide +kernel
theorem dX12_single_50 : decode cX12_single 50 = .ok (.iload 5, 2) := by decide +kernel
theorem dX12_single_52 : decode cX12_single 52 = .ok (.iload_n 1, 1) := by decide +kernel
theorem dX12_single_53 : decode cX12_single 53 = .ok (.iconst 0, 1) := by decide +kernel
theorem dX12_single_54 : decode cX12_single 54 = .ok (.invokevirtual 336, 3) := by decide +kernel
theorem dX12_single_57 : decode cX12_single 57 = .ok (.ifCond .ne 6, 3) := by decide +kernel
theorem dX12_single_60 : decode cX12_single 60 = .ok (.goto 44, 3) := by decide +kernel
theorem dX12_single_63 : decode cX12_single 63 = .ok (.iinc 2 1, 3) := by decide +kernel
theorem dX12_single_66 : decode cX12_single 66 = .ok (.iload_n 3, 1) := by decide +kernel
theorem dX12_single_67 : decode cX12_single 67 = .ok (.aload_n 0, 1) := by decide +kernel
theorem dX12_single_68 : decode cX12_single 68 = .ok (.getfield 16, 3) := by decide +kernel
theorem dX12_single_71 : decode cX12_single 71 = .ok (.bipush 14, 2) := by decide +kernel
theorem dX12_single_73 : decode cX12_single 73 = .ok (.iload 4, 2) := by decide +kernel
theorem dX12_single_75 : decode cX12_single 75 = .ok (.imul, 1) := by decide +kernel
theorem dX12_single_76 : decode cX12_single 76 = .ok (.iload 5, 2) := by decide +kernel
theorem dX12_single_78 : decode cX12_single 78 = .ok (.iadd, 1) := by decide +kernel
theorem dX12_single_79 : decode cX12_single 79 = .ok (.iaload, 1) := by decide +kernel
theorem dX12_single_80 : decode cX12_single 80 = .ok (.aload_n 0, 1) := by decide +kernel
theorem dX12_single_81 : decode cX12_single 81 = .ok (.getfield 16, 3) := by decide +kernel
theorem dX12_single_84 : decode cX12_single 84 = .ok (.bipush 14, 2) := by decide +kernel
theorem dX12_single_86 : decode cX12_single 86 = .ok (.iload 5, 2) := by decide +kernel
theorem dX12_single_88 : decode cX12_single 88 = .ok (.imul, 1) := by decide +kernel
theorem dX12_single_89 : decode cX12_single 89 = .ok (.iload 4, 2) := by decide +kernel
theorem dX12_single_91 : decode cX12_single 91 = .ok (.iadd, 1) := by decide +kernel
theorem dX12_single_92 : decode cX12_single 92 = .ok (.iaload, 1) := by decide +kernel
theorem dX12_single_93 : decode cX12_single 93 = .ok (.iadd, 1) := by decide +kernel
theorem dX12_single_94 : decode cX12_single 94 = .ok (.ifCond .ne 7, 3) := by decide +kernel
theorem dX12_single_97 : decode cX12_single 97 = .ok (.iconst 1, 1) := by decide +kernel
theorem dX12_single_98 : decode cX12_single 98 = .ok (.goto 4, 3) := by decide +kernel
theorem dX12_single_101 : decode cX12_single 101 = .ok (.iconst 0, 1) := by decide +kernel
theorem dX12_single_102 : decode cX12_single 102 = .ok (.iadd, 1) := by decide +kernel
theorem dX12_single_103 : decode cX12_single 103 = .ok (.istore_n 3, 1) := by decide +kernel
theorem dX12_single_104 : decode cX12_single 104 = .ok (.iinc 5 1, 3) := by decide +kernel
theorem dX12_single_107 : decode cX12_single 107 = .ok (.goto (-69), 3) := by decide +kernel
theorem dX12_single_110 : decode cX12_single 110 = .ok (.iinc 4 1, 3) := by decide +kernel
theorem dX12_single_113 : decode cX12_single 113 = .ok (.goto (-90), 3) := by decide +kernel
theorem dX12_single_116 : decode cX12_single 116 = .ok (.aload_n 0, 1) := by decide +kernel
theorem dX12_single_117 : decode cX12_single 117 = .ok (.iconst 0, 1) := by decide +kernel
theorem dX12_single_118 : decode cX12_single 118 = .ok (.putfield 83, 3) := by decide +kernel
theorem dX12_single_121 : decode cX12_single 121 = .ok (.aload_n 0, 1) := by decide +kernel
theorem dX12_single_122 : decode cX12_single 122 = .ok (.iload_n 3, 1) := by decide +kernel
theorem dX12_single_123 : decode cX12_single 123 = .ok (.i2l, 1) := by decide +kernel
theorem dX12_single_124 : decode cX12_single 124 = .ok (.invokevirtual 217, 3) := by decide +kernel
theorem dX12_single_127 : decode cX12_single 127 = .ok (.iload_n 2, 1) := by decide +kernel
theorem dX12_single_128 : decode cX12_single 128 = .ok (.ireturn, 1) := by decide +kernel
set_option maxHeartbeats 4000000 in
set_option maxRecDepth 20000 in
theorem b_m_single_b38 {X : Cx} {d : Nat} (hX : Ok M_m_single (d + 7) X) {r : Int32 × Mem} (hr : RetI M_m_single X r.1 r.2) {k23 : Int32 → Int32 → Int32 → Int32 → Mem → Option (Int32 × Mem)} (hk23 : ∀ (x1 : Int32) (x2 : Int32) (x3 : Int32) (x4 : Int32) (μ : Mem) (dy : Nat → Nat), k23 x1 x2 x3 x4 μ = some r → AW X 23 [(0, .ref (gA (xG X) 111)), (1, .int x1), (2, .int x2), (3, .int x3), (4, .int x4)] [] μ dy) : ∀ (n : Nat) (x1 : Int32) (x2 : Int32) (x3 : Int32) (x4 : Int32) (x5 : Int32) (μ : Mem) (dy : Nat → Nat), f_m_single_b38 k23 n x1 x2 x3 x4 x5 μ = some r → AW X 38 [(0, .ref (gA (xG X) 111)), (1, .int x1), (2, .int x2), (3, .int x3), (4, .int x4), (5, .int x5)] [] μ dy := by
  intro n
  induction n with
  | zero => intro x1 x2 x3 x4 x5 μ dy hf; exact nomatch hf
  | succ n ih =>
    intro x1 x2 x3 x4 x5 μ dy hf
    rw [f_m_single_b38] at hf
    refine r_iload hX dX12_single_38 5 rfl ?_
    refine r_aload_n hX dX12_single_40 0 rfl ?_
    refine r_get hX fl_X12_86 (w_111 _ _ _) rfl dX12_single_41 ?_
    refine r_icmp_ge hX 110 dX12_single_44 rfl (fun hc12 => ?_) (fun hc12 => ?_)
    · rw [if_pos hc12] at hf
      refine r_iinc hX (x4 + (1 : Int32)) dX12_single_110 4 rfl rfl rfl (ls' := [(4, .int (x4 + (1 : Int32))), (0, .ref (gA (xG X) 111)), (1, .int x1), (2, .int x2), (3, .int x3), (5, .int x5)]) rfl ?_
      refine r_goto hX 23 dX12_single_113 rfl ?_
      refine r_weak [1, 2, 3, 4, 0] rfl ?_
      exact hk23 _ _ _ _ _ _ hf
    · rw [if_neg hc12] at hf
      refine r_aload_n hX dX12_single_47 0 rfl ?_
      refine r_iload hX dX12_single_48 4 rfl ?_
      refine r_iload hX dX12_single_50 5 rfl ?_
      refine r_iload_n hX dX12_single_52 1 rfl ?_
      refine r_iconst hX (0 : Int32) dX12_single_53 rfl ?_
      obtain ⟨v15, μ13, h14, hf⟩ := bd2_eq hf
      refine r_callVI (Ok.le hX (by omega)) (c_m_isSoBy (d := d)  h14) cv_X12_336 (w_111 _ _ _) rfl rfl (st := []) rfl rfl rfl dX12_single_54 (fun dy => ?_)
      refine r_if_ne hX 63 dX12_single_57 rfl (fun hc16 => ?_) (fun hc16 => ?_)
      · rw [if_neg hc16] at hf
        refine r_iinc hX (x2 + (1 : Int32)) dX12_single_63 2 rfl rfl rfl (ls' := [(2, .int (x2 + (1 : Int32))), (0, .ref (gA (xG X) 111)), (1, .int x1), (3, .int x3), (4, .int x4), (5, .int x5)]) rfl ?_
        refine r_iload_n hX dX12_single_66 3 rfl ?_
        refine r_aload_n hX dX12_single_67 1 rfl ?_
        refine r_get hX fl_X12_16 (w_111 _ _ _) rfl dX12_single_68 ?_
        refine r_bipush hX (14 : Int32) dX12_single_71 rfl ?_
        refine r_iload hX dX12_single_73 4 rfl ?_
        refine r_imul hX dX12_single_75 ?_
        refine r_iload hX dX12_single_76 5 rfl ?_
        refine r_iadd hX dX12_single_78 ?_
        obtain ⟨b17, hf⟩ := chk_eq hf
        refine r_iald hX (w_114 _ _ _) (inb_in b17) dX12_single_79 ?_
        refine r_aload_n hX dX12_single_80 1 rfl ?_
        refine r_get hX fl_X12_16 (w_111 _ _ _) rfl dX12_single_81 ?_
        refine r_bipush hX (14 : Int32) dX12_single_84 rfl ?_
        refine r_iload hX dX12_single_86 5 rfl ?_
        refine r_imul hX dX12_single_88 ?_
        refine r_iload hX dX12_single_89 4 rfl ?_
        refine r_iadd hX dX12_single_91 ?_
        obtain ⟨b18, hf⟩ := chk_eq hf
        refine r_iald hX (w_114 _ _ _) (inb_in b18) dX12_single_92 ?_
        refine r_iadd hX dX12_single_93 ?_
        obtain ⟨v19, e20, hf⟩ := bnd_eq hf
        have J21 : AW X 102 [(2, .int (x2 + (1 : Int32))), (0, .ref (gA (xG X) 111)), (1, .int x1), (3, .int x3), (4, .int x4), (5, .int x5)] [.int v19, .int x3] μ13 dy := by
          refine r_iadd hX dX12_single_102 ?_
          refine r_istore_n hX dX12_single_103 rfl (ls' := [(3, .int (x3 + v19)), (2, .int (x2 + (1 : Int32))), (0, .ref (gA (xG X) 111)), (1, .int x1), (4, .int x4), (5, .int x5)]) rfl ?_
          refine r_iinc hX (x5 + (1 : Int32)) dX12_single_104 5 rfl rfl rfl (ls' := [(5, .int (x5 + (1 : Int32))), (3, .int (x3 + v19)), (2, .int (x2 + (1 : Int32))), (0, .ref (gA (xG X) 111)), (1, .int x1), (4, .int x4)]) rfl ?_
          refine r_goto hX 38 dX12_single_107 rfl ?_
          refine r_weak [3, 4, 2, 1, 5, 0] rfl ?_
          exact ih _ _ _ _ _ _ _ hf
        refine r_if_ne hX 101 dX12_single_94 rfl (fun hc22 => ?_) (fun hc22 => ?_)
        · refine r_iconst hX (0 : Int32) dX12_single_101 rfl ?_
          exact r_topI (e20.trans (by rw [if_neg hc22])) J21
        · refine r_iconst hX (1 : Int32) dX12_single_97 rfl ?_
          refine r_goto hX 102 dX12_single_98 rfl ?_
          exact r_topI (e20.trans (by rw [if_pos hc22])) J21
      · rw [if_pos hc16] at hf
        refine r_goto hX 104 dX12_single_60 rfl ?_
        refine r_iinc hX (x5 + (1 : Int32)) dX12_single_104 5 rfl rfl rfl (ls' := [(5, .int (x5 + (1 : Int32))), (0, .ref (gA (xG X) 111)), (1, .int x1), (2, .int x2), (3, .int x3), (4, .int x4)]) rfl ?_
        refine r_goto hX 38 dX12_single_107 rfl ?_
        refine r_weak [1, 2, 3, 4, 5, 0] rfl ?_
        exact ih _ _ _ _ _ _ _ hf
set_option maxHeartbeats 4000000 in
set_option maxRecDepth 20000 in
theorem b_m_single_b23 {X : Cx} {d : Nat} (hX : Ok M_m_single (d + 7) X) {r : Int32 × Mem} (hr : RetI M_m_single X r.1 r.2) : ∀ (n : Nat) (x1 : Int32) (x2 : Int32) (x3 : Int32) (x4 : Int32) (μ : Mem) (dy : Nat → Nat), f_m_single_b23 n x1 x2 x3 x4 μ = some r → AW X 23 [(0, .ref (gA (xG X) 111)), (1, .int x1), (2, .int x2), (3, .int x3), (4, .int x4)] [] μ dy := by
  intro n
  induction n with
  | zero => intro x1 x2 x3 x4 μ dy hf; exact nomatch hf
  | succ n ih =>
    intro x1 x2 x3 x4 μ dy hf
    rw [f_m_single_b23] at hf
    refine r_iload hX dX12_single_23 4 rfl ?_
    refine r_aload_n hX dX12_single_25 0 rfl ?_
    refine r_get hX fl_X12_86 (w_111 _ _ _) rfl dX12_single_26 ?_
    refine r_icmp_ge hX 116 dX12_single_29 rfl (fun hc7 => ?_) (fun hc7 => ?_)
    · rw [if_pos hc7] at hf
      refine r_aload_n hX dX12_single_116 0 rfl ?_
      refine r_iconst hX (0 : Int32) dX12_single_117 rfl ?_
      obtain ⟨μ8, e9, hf⟩ := bnd_eq hf
      refine r_put hX fl_X12_83 ft_X12_10 (w_111 _ _ _) rfl rfl rfl (s_111_10 _ _ _ _) e9 rfl dX12_single_118 ?_
      refine r_aload_n hX dX12_single_121 0 rfl ?_
      refine r_iload_n hX dX12_single_122 3 rfl ?_
      refine r_i2l hX dX12_single_123 ?_
      obtain ⟨μ10, h11, hf⟩ := bd1_eq hf
      refine r_callVV (Ok.le hX (by omega)) (c_m_tell (d := d)  h11) cv_X12_217 (w_111 _ _ _) rfl rfl (st := []) rfl rfl rfl dX12_single_124 (fun dy => ?_)
      refine r_iload_n hX dX12_single_127 2 rfl ?_
      exact fin_I hf hr _ _ _ dX12_single_128
    · rw [if_neg hc7] at hf
      refine r_iload hX dX12_single_32 4 rfl ?_
      refine r_iconst hX (1 : Int32) dX12_single_34 rfl ?_
      refine r_iadd hX dX12_single_35 ?_
      refine r_istore hX dX12_single_36 rfl (ls' := [(5, .int (x4 + (1 : Int32))), (0, .ref (gA (xG X) 111)), (1, .int x1), (2, .int x2), (3, .int x3), (4, .int x4)]) rfl ?_
      refine r_weak [1, 2, 3, 4, 5, 0] rfl ?_
      exact b_m_single_b38 hX hr ih FU _ _ _ _ _ _ _ hf
set_option maxHeartbeats 4000000 in
set_option maxRecDepth 20000 in
theorem c_m_single {G : Gx} {d : Nat} {x1 : Int32} {μ : Mem} {r : Int32 × Mem} (hf : f_m_single x1 μ = some r) : Con G M_m_single (d + 7) [.ref (gA G 111), .int x1] μ (some (.int r.1), r.2) := by
  refine Con.ofI ⟨rfl, rfl, Nat.le_of_ble_eq_true rfl⟩ rfl rfl (fun X hG hX hr dy => ?_)
  subst hG
  show AW X 0 [(0, .ref (gA (xG X) 111)), (1, .int x1)] [] μ dy
  unfold f_m_single at hf
  refine r_aload_n hX dX12_single_0 0 rfl ?_
  refine r_iconst hX (0 : Int32) dX12_single_1 rfl ?_
  obtain ⟨μ1, e2, hf⟩ := bnd_eq hf
  refine r_put hX fl_X12_80 ft_X12_11 (w_111 _ _ _) rfl rfl rfl (s_111_11 _ _ _ _) e2 rfl dX12_single_2 ?_
  refine r_iload_n hX dX12_single_5 1 rfl ?_
  refine r_bipush hX (20 : Int32) dX12_single_6 rfl ?_
  obtain ⟨v5, μ3, h4, hf⟩ := bd2_eq hf
  refine r_callSI (Ok.le hX (by omega)) (c_m_isDays (d := d)  h4) cs_X12_253 (st := []) rfl rfl rfl dX12_single_8 (fun dy => ?_)
  refine r_if_ne hX 16 dX12_single_11 rfl (fun hc6 => ?_) (fun hc6 => ?_)
  · rw [if_neg hc6] at hf
    refine r_iconst hX (0 : Int32) dX12_single_16 rfl ?_
    refine r_istore_n hX dX12_single_17 rfl (ls' := [(2, .int (0 : Int32)), (0, .ref (gA (xG X) 111)), (1, .int x1)]) rfl ?_
    refine r_iconst hX (0 : Int32) dX12_single_18 rfl ?_
    refine r_istore_n hX dX12_single_19 rfl (ls' := [(3, .int (0 : Int32)), (2, .int (0 : Int32)), (0, .ref (gA (xG X) 111)), (1, .int x1)]) rfl ?_
    refine r_iconst hX (0 : Int32) dX12_single_20 rfl ?_
    refine r_istore hX dX12_single_21 rfl (ls' := [(4, .int (0 : Int32)), (3, .int (0 : Int32)), (2, .int (0 : Int32)), (0, .ref (gA (xG X) 111)), (1, .int x1)]) rfl ?_
    refine r_weak [3, 4, 2, 1, 0] rfl ?_
    exact b_m_single_b23 hX hr FU _ _ _ _ _ _ hf
  · rw [if_pos hc6] at hf
    refine r_iconst hX (-1 : Int32) dX12_single_14 rfl ?_
    exact fin_I hf hr _ _ _ dX12_single_15
theorem dX12_meet_0 : decode cX12_meet 0 = .ok (.aload_n 0, 1) := by decide +kernel
theorem dX12_meet_1 : decode cX12_meet 1 = .ok (.iconst 0, 1) := by decide +kernel
theorem dX12_meet_2 : decode cX12_meet 2 = .ok (.putfield 80, 3) := by decide +kernel
theorem dX12_meet_5 : decode cX12_meet 5 = .ok (.aload_n 0, 1) := by decide +kernel
theorem dX12_meet_6 : decode cX12_meet 6 = .ok (.iload_n 1, 1) := by decide +kernel
theorem dX12_meet_7 : decode cX12_meet 7 = .ok (.invokevirtual 157, 3) := by decide +kernel
theorem dX12_meet_10 : decode cX12_meet 10 = .ok (.ifCond .eq 26, 3) := by decide +kernel
theorem dX12_meet_13 : decode cX12_meet 13 = .ok (.aload_n 0, 1) := by decide +kernel
theorem dX12_meet_14 : decode cX12_meet 14 = .ok (.iload_n 2, 1) := by decide +kernel
theorem dX12_meet_15 : decode cX12_meet 15 = .ok (.invokevirtual 157, 3) := by decide +kernel
theorem dX12_meet_18 : decode cX12_meet 18 = .ok (.ifCond .eq 18, 3) := by decide +kernel
theorem dX12_meet_21 : decode cX12_meet 21 = .ok (.iload_n 1, 1) := by decide +kernel
theorem dX12_meet_22 : decode cX12_meet 22 = .ok (.iload_n 2, 1) := by decide +kernel
theorem dX12_meet_23 : decode cX12_meet 23 = .ok (.if_icmp .eq 13, 3) := by decide +kernel
theorem dX12_meet_26 : decode cX12_meet 26 = .ok (.iload_n 3, 1) := by decide +kernel
theorem dX12_meet_27 : decode cX12_meet 27 = .ok (.iconst 0, 1) := by decide +kernel
theorem dX12_meet_28 : decode cX12_meet 28 = .ok (.bipush 9, 2) := by decide +kernel
theorem dX12_meet_30 : decode cX12_meet 30 = .ok (.invokestatic 89, 3) := by decide +kernel
theorem dX12_meet_33 : decode cX12_meet 33 = .ok (.ifCond .ne 5, 3) := by decide +kernel
theorem dX12_meet_36 : decode cX12_meet 36 = .ok (.iconst (-1), 1) := by decide +kernel
theorem dX12_meet_37 : decode cX12_meet 37 = .ok (.ireturn, 1) := by decide +kernel
theorem dX12_meet_38 : decode cX12_meet 38 = .ok (.aload_n 0, 1) := by decide +kernel
theorem dX12_meet_39 : decode cX12_meet 39 = .ok (.getfield 16, 3) := by decide +kernel
theorem dX12_meet_42 : decode cX12_meet 42 = .ok (.bipush 14, 2) := by decide +kernel
theorem dX12_meet_44 : decode cX12_meet 44 = .ok (.iload_n 1, 1) := by decide +kernel
theorem dX12_meet_45 : decode cX12_meet 45 = .ok (.imul, 1) := by decide +kernel
theorem dX12_meet_46 : decode cX12_meet 46 = .ok (.iload_n 2, 1) := by decide +kernel
theorem dX12_meet_47 : decode cX12_meet 47 = .ok (.iadd, 1) := by decide +kernel
theorem dX12_meet_48 : decode cX12_meet 48 = .ok (.iaload, 1) := by decide +kernel
theorem dX12_meet_49 : decode cX12_meet 49 = .ok (.istore 4, 2) := by decide +kernel
theorem dX12_meet_51 : decode cX12_meet 51 = .ok (.aload_n 0, 1) := by decide +kernel
theorem dX12_meet_52 : decode cX12_meet 52 = .ok (.getfield 16, 3) := by decide +kernel
theorem dX12_meet_55 : decode cX12_meet 55 = .ok (.bipush 14, 2) := by decide +kernel
theorem dX12_meet_57 : decode cX12_meet 57 = .ok (.iload_n 1, 1) := by decide +kernel
theorem dX12_meet_58 : decode cX12_meet 58 = .ok (.imul, 1) := by decide +kernel
theorem dX12_meet_59 : decode cX12_meet 59 = .ok (.iload_n 2, 1) := by decide +kernel
theorem dX12_meet_60 : decode cX12_meet 60 = .ok (.iadd, 1) := by decide +kernel
theorem dX12_meet_61 : decode cX12_meet 61 = .ok (.iload_n 3, 1) := by decide +kernel
theorem dX12_meet_62 : decode cX12_meet 62 = .ok (.iastore, 1) := by decide +kernel
theorem dX12_meet_63 : decode cX12_meet 63 = .ok (.aload_n 0, 1) := by decide +kernel
theorem dX12_meet_64 : decode cX12_meet 64 = .ok (.getfield 16, 3) := by decide +kernel
theorem dX12_meet_67 : decode cX12_meet 67 = .ok (.bipush 14, 2) := by decide +kernel
theorem dX12_meet_69 : decode cX12_meet 69 = .ok (.iload_n 2, 1) := by decide +kernel
theorem dX12_meet_70 : decode cX12_meet 70 = .ok (.imul, 1) := by decide +kernel
theorem dX12_meet_71 : decode cX12_meet 71 = .ok (.iload_n 1, 1) := by decide +kernel
theorem dX12_meet_72 : decode cX12_meet 72 = .ok (.iadd, 1) := by decide +kernel
theorem dX12_meet_73 : decode cX12_meet 73 = .ok (.iload_n 3, 1) := by decide +kernel
theorem dX12_meet_74 : decode cX12_meet 74 = .ok (.iastore, 1) := by decide +kernel
theorem dX12_meet_75 : decode cX12_meet 75 = .ok (.iload 4, 2) := by decide +kernel
theorem dX12_meet_77 : decode cX12_meet 77 = .ok (.ireturn, 1) := by decide +kernel
set_option maxHeartbeats 4000000 in
set_option maxRecDepth 20000 in
theorem c_m_meet {G : Gx} {d : Nat} {x1 : Int32} {x2 : Int32} {x3 : Int32} {μ : Mem} {r : Int32 × Mem} (hf : f_m_meet x1 x2 x3 μ = some r) : Con G M_m_meet (d + 2) [.ref (gA G 111), .int x1, .int x2, .int x3] μ (some (.int r.1), r.2) := by
  refine Con.ofI ⟨rfl, rfl, Nat.le_of_ble_eq_true rfl⟩ rfl rfl (fun X hG hX hr dy => ?_)
  subst hG
  show AW X 0 [(0, .ref (gA (xG X) 111)), (1, .int x1), (2, .int x2), (3, .int x3)] [] μ dy
  unfold f_m_meet at hf
  refine r_aload_n hX dX12_meet_0 0 rfl ?_
  refine r_iconst hX (0 : Int32) dX12_meet_1 rfl ?_
  obtain ⟨μ1, e2, hf⟩ := bnd_eq hf
  refine r_put hX fl_X12_80 ft_X12_11 (w_111 _ _ _) rfl rfl rfl (s_111_11 _ _ _ _) e2 rfl dX12_meet_2 ?_
  refine r_aload_n hX dX12_meet_5 0 rfl ?_
  refine r_iload_n hX dX12_meet_6 1 rfl ?_
  obtain ⟨v5, μ3, h4, hf⟩ := bd2_eq hf
  refine r_callVI (Ok.le hX (by omega)) (c_m_isOne (d := d)  h4) cv_X12_157 (w_111 _ _ _) rfl rfl (st := []) rfl rfl rfl dX12_meet_7 (fun dy => ?_)
  refine r_if_eq hX 36 dX12_meet_10 rfl (fun hc6 => ?_) (fun hc6 => ?_)
  · rw [if_pos hc6] at hf
    refine r_iconst hX (-1 : Int32) dX12_meet_36 rfl ?_
    exact fin_I hf hr _ _ _ dX12_meet_37
  · rw [if_neg hc6] at hf
    refine r_aload_n hX dX12_meet_13 0 rfl ?_
    refine r_iload_n hX dX12_meet_14 2 rfl ?_
    obtain ⟨v9, μ7, h8, hf⟩ := bd2_eq hf
    refine r_callVI (Ok.le hX (by omega)) (c_m_isOne (d := d)  h8) cv_X12_157 (w_111 _ _ _) rfl rfl (st := []) rfl rfl rfl dX12_meet_15 (fun dy => ?_)
    refine r_if_eq hX 36 dX12_meet_18 rfl (fun hc10 => ?_) (fun hc10 => ?_)
    · rw [if_pos hc10] at hf
      refine r_iconst hX (-1 : Int32) dX12_meet_36 rfl ?_
      exact fin_I hf hr _ _ _ dX12_meet_37
    · rw [if_neg hc10] at hf
      refine r_iload_n hX dX12_meet_21 1 rfl ?_
      refine r_iload_n hX dX12_meet_22 2 rfl ?_
      refine r_icmp_eq hX 36 dX12_meet_23 rfl (fun hc11 => ?_) (fun hc11 => ?_)
      · rw [if_pos hc11] at hf
        refine r_iconst hX (-1 : Int32) dX12_meet_36 rfl ?_
        exact fin_I hf hr _ _ _ dX12_meet_37
      · rw [if_neg hc11] at hf
        refine r_iload_n hX dX12_meet_26 3 rfl ?_
        refine r_iconst hX (0 : Int32) dX12_meet_27 rfl ?_
        refine r_bipush hX (9 : Int32) dX12_meet_28 rfl ?_
        obtain ⟨v14, μ12, h13, hf⟩ := bd2_eq hf
        refine r_callSI (Ok.le hX (by omega)) (c_m_in (d := d)  h13) cs_X12_89 (st := []) rfl rfl rfl dX12_meet_30 (fun dy => ?_)
        refine r_if_ne hX 38 dX12_meet_33 rfl (fun hc15 => ?_) (fun hc15 => ?_)
        · rw [if_neg hc15] at hf
          refine r_aload_n hX dX12_meet_38 0 rfl ?_
          refine r_get hX fl_X12_16 (w_111 _ _ _) rfl dX12_meet_39 ?_
          refine r_bipush hX (14 : Int32) dX12_meet_42 rfl ?_
          refine r_iload_n hX dX12_meet_44 1 rfl ?_
          refine r_imul hX dX12_meet_45 ?_
          refine r_iload_n hX dX12_meet_46 2 rfl ?_
          refine r_iadd hX dX12_meet_47 ?_
          obtain ⟨b16, hf⟩ := chk_eq hf
          refine r_iald hX (w_114 _ _ _) (inb_in b16) dX12_meet_48 ?_
          obtain ⟨v17, e18, hf⟩ := bnd_eq hf
          refine r_topI e18 ?_
          refine r_istore hX dX12_meet_49 rfl (ls' := [(4, .int v17), (0, .ref (gA (xG X) 111)), (1, .int x1), (2, .int x2), (3, .int x3)]) rfl ?_
          refine r_aload_n hX dX12_meet_51 1 rfl ?_
          refine r_get hX fl_X12_16 (w_111 _ _ _) rfl dX12_meet_52 ?_
          refine r_bipush hX (14 : Int32) dX12_meet_55 rfl ?_
          refine r_iload_n hX dX12_meet_57 2 rfl ?_
          refine r_imul hX dX12_meet_58 ?_
          refine r_iload_n hX dX12_meet_59 3 rfl ?_
          refine r_iadd hX dX12_meet_60 ?_
          refine r_iload_n hX dX12_meet_61 4 rfl ?_
          obtain ⟨b19, hf⟩ := chk_eq hf
          obtain ⟨μ20, e21, hf⟩ := bnd_eq hf
          refine r_iast hX (w_114 _ _ _) (inb_in b19) (s_114 _ _ _ _ _) e21 rfl dX12_meet_62 ?_
          refine r_aload_n hX dX12_meet_63 1 rfl ?_
          refine r_get hX fl_X12_16 (w_111 _ _ _) rfl dX12_meet_64 ?_
          refine r_bipush hX (14 : Int32) dX12_meet_67 rfl ?_
          refine r_iload_n hX dX12_meet_69 3 rfl ?_
          refine r_imul hX dX12_meet_70 ?_
          refine r_iload_n hX dX12_meet_71 2 rfl ?_
          refine r_iadd hX dX12_meet_72 ?_
          refine r_iload_n hX dX12_meet_73 4 rfl ?_
          obtain ⟨b22, hf⟩ := chk_eq hf
          obtain ⟨μ23, e24, hf⟩ := bnd_eq hf
          refine r_iast hX (w_114 _ _ _) (inb_in b22) (s_114 _ _ _ _ _) e24 rfl dX12_meet_74 ?_
          refine r_iload hX dX12_meet_75 0 rfl ?_
          exact fin_I hf hr _ _ _ dX12_meet_77
        · rw [if_pos hc15] at hf
          refine r_iconst hX (-1 : Int32) dX12_meet_36 rfl ?_
          exact fin_I hf hr _ _ _ dX12_meet_37
