theorem dX12_isMoved_0 : decode cX12_isMoved 0 = .ok (.aload_n 0, 1) := by decide +kernel
theorem dX12_isMoved_1 : decode cX12_isMoved 1 = .ok (.getfield 140, 3) := by decide +kernel
theorem dX12_isMoved_4 : decode cX12_isMoved 4 = .ok (.iload_n 1, 1) := by decide +kernel
theorem dX12_isMoved_5 : decode cX12_isMoved 5 = .ok (.invokestatic 164, 3) := by decide +kernel
theorem dX12_isMoved_8 : decode cX12_isMoved 8 = .ok (.ifCond .ne 15, 3) := by decide +kernel
theorem dX12_isMoved_11 : decode cX12_isMoved 11 = .ok (.aload_n 0, 1) := by decide +kernel
theorem dX12_isMoved_12 : decode cX12_isMoved 12 = .ok (.iload_n 1, 1) := by decide +kernel
theorem dX12_isMoved_13 : decode cX12_isMoved 13 = .ok (.invokevirtual 168, 3) := by decide +kernel
theorem dX12_isMoved_16 : decode cX12_isMoved 16 = .ok (.ifCond .le 7, 3) := by decide +kernel
theorem dX12_isMoved_19 : decode cX12_isMoved 19 = .ok (.iconst 1, 1) := by decide +kernel
theorem dX12_isMoved_20 : decode cX12_isMoved 20 = .ok (.goto 4, 3) := by decide +kernel
theorem dX12_isMoved_23 : decode cX12_isMoved 23 = .ok (.iconst 0, 1) := by decide +kernel
theorem dX12_isMoved_24 : decode cX12_isMoved 24 = .ok (.ireturn, 1) := by decide +kernel
set_option maxHeartbeats 4000000 in
set_option maxRecDepth 20000 in
theorem c_m_isMoved {G : Gx} {d : Nat} {x1 : Int32} {μ : Mem} {r : Int32 × Mem} (hf : f_m_isMoved x1 μ = some r) : Con G M_m_isMoved (d + 1) [.ref (gA G 111), .int x1] μ (some (.int r.1), r.2) := by
  refine Con.ofZ ⟨rfl, rfl, Nat.le_of_ble_eq_true rfl⟩ rfl (fun X hG hX hr dy => ?_)
  subst hG
  show AW X 0 [(0, .ref (gA (xG X) 111)), (1, .int x1)] [] μ dy
  unfold f_m_isMoved at hf
  refine r_aload_n hX dX12_isMoved_0 0 rfl ?_
  refine r_get hX fl_X12_140 (w_111 _ _ _) rfl dX12_isMoved_1 ?_
  refine r_iload_n hX dX12_isMoved_4 1 rfl ?_
  obtain ⟨v3, μ1, h2, hf⟩ := bd2_eq hf
  refine r_callSI (Ok.le hX (by omega)) (c_m_has (d := d)  h2) cs_X12_164 (st := []) rfl rfl rfl dX12_isMoved_5 (fun dy => ?_)
  refine r_if_ne hX 23 dX12_isMoved_8 rfl (fun hc4 => ?_) (fun hc4 => ?_)
  · rw [if_neg hc4] at hf
    refine r_iconst hX (0 : Int32) dX12_isMoved_23 rfl ?_
    obtain ⟨b5, hf⟩ := chk_eq hf
    exact fin_Z hf hr _ _ _ (zb_nar b5) dX12_isMoved_24
  · rw [if_pos hc4] at hf
    refine r_aload_n hX dX12_isMoved_11 0 rfl ?_
    refine r_iload_n hX dX12_isMoved_12 1 rfl ?_
    obtain ⟨v8, μ6, h7, hf⟩ := bd2_eq hf
    refine r_callVI (Ok.le hX (by omega)) (c_m_allOf (d := d)  h7) cv_X12_168 (w_111 _ _ _) rfl rfl (st := []) rfl rfl rfl dX12_isMoved_13 (fun dy => ?_)
    obtain ⟨v9, e10, hf⟩ := bnd_eq hf
    have J11 : AW X 24 [(0, .ref (gA (xG X) 111)), (1, .int x1)] [.int v9] μ6 dy := by
      obtain ⟨b12, hf⟩ := chk_eq hf
      exact fin_Z hf hr _ _ _ (zb_nar b12) dX12_isMoved_24
    refine r_if_le hX 23 dX12_isMoved_16 rfl (fun hc13 => ?_) (fun hc13 => ?_)
    · refine r_iconst hX (0 : Int32) dX12_isMoved_23 rfl ?_
      exact r_topI (e10.trans (by rw [if_pos hc13])) J11
    · refine r_iconst hX (1 : Int32) dX12_isMoved_19 rfl ?_
      refine r_goto hX 24 dX12_isMoved_20 rfl ?_
      exact r_topI (e10.trans (by rw [if_neg hc13])) J11
theorem dX12_wouldBelieve_0 : decode cX12_wouldBelieve 0 = .ok (.aload_n 0, 1) := by decide +kernel
theorem dX12_wouldBelieve_1 : decode cX12_wouldBelieve 1 = .ok (.iload_n 1, 1) := by decide +kernel
theorem dX12_wouldBelieve_2 : decode cX12_wouldBelieve 2 = .ok (.invokevirtual 184, 3) := by decide +kernel
theorem dX12_wouldBelieve_5 : decode cX12_wouldBelieve 5 = .ok (.ifCond .ne 9, 3) := by decide +kernel
theorem dX12_wouldBelieve_8 : decode cX12_wouldBelieve 8 = .ok (.iload_n 2, 1) := by decide +kernel
theorem dX12_wouldBelieve_9 : decode cX12_wouldBelieve 9 = .ok (.iload_n 1, 1) := by decide +kernel
theorem dX12_wouldBelieve_10 : decode cX12_wouldBelieve 10 = .ok (.invokestatic 164, 3) := by decide +kernel
theorem dX12_wouldBelieve_13 : decode cX12_wouldBelieve 13 = .ok (.ireturn, 1) := by decide +kernel
theorem dX12_wouldBelieve_14 : decode cX12_wouldBelieve 14 = .ok (.iconst 0, 1) := by decide +kernel
theorem dX12_wouldBelieve_15 : decode cX12_wouldBelieve 15 = .ok (.istore_n 3, 1) := by decide +kernel
theorem dX12_wouldBelieve_16 : decode cX12_wouldBelieve 16 = .ok (.iconst 0, 1) := by decide +kernel
theorem dX12_wouldBelieve_17 : decode cX12_wouldBelieve 17 = .ok (.istore 4, 2) := by decide +kernel
theorem dX12_wouldBelieve_19 : decode cX12_wouldBelieve 19 = .ok (.iload 4, 2) := by decide +kernel
theorem dX12_wouldBelieve_21 : decode cX12_wouldBelieve 21 = .ok (.aload_n 0, 1) := by decide +kernel
theorem dX12_wouldBelieve_22 : decode cX12_wouldBelieve 22 = .ok (.getfield 86, 3) := by decide +kernel
theorem dX12_wouldBelieve_25 : decode cX12_wouldBelieve 25 = .ok (.if_icmp .ge 37, 3) := by decide +kernel
theorem dX12_wouldBelieve_28 : decode cX12_wouldBelieve 28 = .ok (.iload_n 3, 1) := by decide +kernel
theorem dX12_wouldBelieve_29 : decode cX12_wouldBelieve 29 = .ok (.iload_n 2, 1) := by decide +kernel
theorem dX12_wouldBelieve_30 : decode cX12_wouldBelieve 30 = .ok (.iload 4, 2) := by decide +kernel
theorem dX12_wouldBelieve_32 : decode cX12_wouldBelieve 32 = .ok (.invokestatic 164, 3) := by decide +kernel
theorem dX12_wouldBelieve_35 : decode cX12_wouldBelieve 35 = .ok (.ifCond .eq 18, 3) := by decide +kernel
theorem dX12_wouldBelieve_38 : decode cX12_wouldBelieve 38 = .ok (.aload_n 0, 1) := by decide +kernel
theorem dX12_wouldBelieve_39 : decode cX12_wouldBelieve 39 = .ok (.getfield 16, 3) := by decide +kernel
theorem dX12_wouldBelieve_42 : decode cX12_wouldBelieve 42 = .ok (.bipush 14, 2) := by decide +kernel
theorem dX12_wouldBelieve_44 : decode cX12_wouldBelieve 44 = .ok (.iload_n 1, 1) := by decide +kernel
theorem dX12_wouldBelieve_45 : decode cX12_wouldBelieve 45 = .ok (.imul, 1) := by decide +kernel
theorem dX12_wouldBelieve_46 : decode cX12_wouldBelieve 46 = .ok (.iload 4, 2) := by decide +kernel
theorem dX12_wouldBelieve_48 : decode cX12_wouldBelieve 48 = .ok (.iadd, 1) := by decide +kernel
theorem dX12_wouldBelieve_49 : decode cX12_wouldBelieve 49 = .ok (.iaload, 1) := by decide +kernel
theorem dX12_wouldBelieve_50 : decode cX12_wouldBelieve 50 = .ok (.goto 4, 3) := by decide +kernel
theorem dX12_wouldBelieve_53 : decode cX12_wouldBelieve 53 = .ok (.iconst 0, 1) := by decide +kernel
theorem dX12_wouldBelieve_54 : decode cX12_wouldBelieve 54 = .ok (.iadd, 1) := by decide +kernel
theorem dX12_wouldBelieve_55 : decode cX12_wouldBelieve 55 = .ok (.istore_n 3, 1) := by decide +kernel
theorem dX12_wouldBelieve_56 : decode cX12_wouldBelieve 56 = .ok (.iinc 4 1, 3) := by decide +kernel
theorem dX12_wouldBelieve_59 : decode cX12_wouldBelieve 59 = .ok (.goto (-40), 3) := by decide +kernel
theorem dX12_wouldBelieve_62 : decode cX12_wouldBelieve 62 = .ok (.bipush 100, 2) := by decide +kernel
theorem dX12_wouldBelieve_64 : decode cX12_wouldBelieve 64 = .ok (.iload_n 3, 1) := by decide +kernel
theorem dX12_wouldBelieve_65 : decode cX12_wouldBelieve 65 = .ok (.imul, 1) := by decide +kernel
theorem dX12_wouldBelieve_66 : decode cX12_wouldBelieve 66 = .ok (.aload_n 0, 1) := by decide +kernel
theorem dX12_wouldBelieve_67 : decode cX12_wouldBelieve 67 = .ok (.getfield 9, 3) := by decide +kernel
theorem dX12_wouldBelieve_70 : decode cX12_wouldBelieve 70 = .ok (.iload_n 1, 1) := by decide +kernel
theorem dX12_wouldBelieve_71 : decode cX12_wouldBelieve 71 = .ok (.iaload, 1) := by decide +kernel
theorem dX12_wouldBelieve_72 : decode cX12_wouldBelieve 72 = .ok (.aload_n 0, 1) := by decide +kernel
theorem dX12_wouldBelieve_73 : decode cX12_wouldBelieve 73 = .ok (.iload_n 1, 1) := by decide +kernel
theorem dX12_wouldBelieve_74 : decode cX12_wouldBelieve 74 = .ok (.invokevirtual 168, 3) := by decide +kernel
theorem dX12_wouldBelieve_77 : decode cX12_wouldBelieve 77 = .ok (.imul, 1) := by decide +kernel
theorem dX12_wouldBelieve_78 : decode cX12_wouldBelieve 78 = .ok (.if_icmp .le 7, 3) := by decide +kernel
theorem dX12_wouldBelieve_81 : decode cX12_wouldBelieve 81 = .ok (.iconst 1, 1) := by decide +kernel
theorem dX12_wouldBelieve_82 : decode cX12_wouldBelieve 82 = .ok (.goto 4, 3) := by decide +kernel
theorem dX12_wouldBelieve_85 : decode cX12_wouldBelieve 85 = .ok (.iconst 0, 1) := by decide +kernel
theorem dX12_wouldBelieve_86 : decode cX12_wouldBelieve 86 = .ok (.ireturn, 1) := by decide +kernel
set_option maxHeartbeats 4000000 in
set_option maxRecDepth 20000 in
theorem b_m_wouldBelieve_b54 {X : Cx} {d : Nat} (hX : Ok M_m_wouldBelieve (d + 2) X) {r : Int32 × Mem} (hr : RetZ M_m_wouldBelieve X r.1 r.2) {k19 : Int32 → Int32 → Int32 → Int32 → Mem → Option (Int32 × Mem)} (hk19 : ∀ (x1 : Int32) (x2 : Int32) (x3 : Int32) (x4 : Int32) (μ : Mem) (dy : Nat → Nat), k19 x1 x2 x3 x4 μ = some r → AW X 19 [(0, .ref (gA (xG X) 111)), (1, .int x1), (2, .int x2), (3, .int x3), (4, .int x4)] [] μ dy) (x1 : Int32) (x2 : Int32) (x4 : Int32) (s0 : Int32) (s1 : Int32) (μ : Mem) (dy : Nat → Nat) (hf : f_m_wouldBelieve_b54 k19 x1 x2 x4 s0 s1 μ = some r) : AW X 54 [(0, .ref (gA (xG X) 111)), (1, .int x1), (2, .int x2), (4, .int x4)] [.int s1, .int s0] μ dy := by
  unfold f_m_wouldBelieve_b54 at hf
  refine r_iadd hX dX12_wouldBelieve_54 ?_
  refine r_istore_n hX dX12_wouldBelieve_55 rfl (ls' := [(3, .int (s0 + s1)), (0, .ref (gA (xG X) 111)), (1, .int x1), (2, .int x2), (4, .int x4)]) rfl ?_
  refine r_iinc hX (x4 + (1 : Int32)) dX12_wouldBelieve_56 4 rfl rfl rfl (ls' := [(4, .int (x4 + (1 : Int32))), (3, .int (s0 + s1)), (0, .ref (gA (xG X) 111)), (1, .int x1), (2, .int x2)]) rfl ?_
  refine r_goto hX 19 dX12_wouldBelieve_59 rfl ?_
  refine r_weak [2, 3, 4, 1, 0] rfl ?_
  exact hk19 _ _ _ _ _ _ hf
set_option maxHeartbeats 4000000 in
set_option maxRecDepth 20000 in
theorem b_m_wouldBelieve_b19 {X : Cx} {d : Nat} (hX : Ok M_m_wouldBelieve (d + 2) X) {r : Int32 × Mem} (hr : RetZ M_m_wouldBelieve X r.1 r.2) : ∀ (n : Nat) (x1 : Int32) (x2 : Int32) (x3 : Int32) (x4 : Int32) (μ : Mem) (dy : Nat → Nat), f_m_wouldBelieve_b19 n x1 x2 x3 x4 μ = some r → AW X 19 [(0, .ref (gA (xG X) 111)), (1, .int x1), (2, .int x2), (3, .int x3), (4, .int x4)] [] μ dy := by
  intro n
  induction n with
  | zero => intro x1 x2 x3 x4 μ dy hf; exact nomatch hf
  | succ n ih =>
    intro x1 x2 x3 x4 μ dy hf
    rw [f_m_wouldBelieve_b19] at hf
    refine r_iload hX dX12_wouldBelieve_19 4 rfl ?_
    refine r_aload_n hX dX12_wouldBelieve_21 0 rfl ?_
    refine r_get hX fl_X12_86 (w_111 _ _ _) rfl dX12_wouldBelieve_22 ?_
    refine r_icmp_ge hX 62 dX12_wouldBelieve_25 rfl (fun hc5 => ?_) (fun hc5 => ?_)
    · rw [if_pos hc5] at hf
      refine r_bipush hX (100 : Int32) dX12_wouldBelieve_62 rfl ?_
      refine r_iload_n hX dX12_wouldBelieve_64 3 rfl ?_
      refine r_imul hX dX12_wouldBelieve_65 ?_
      refine r_aload_n hX dX12_wouldBelieve_66 0 rfl ?_
      refine r_get hX fl_X12_9 (w_111 _ _ _) rfl dX12_wouldBelieve_67 ?_
      refine r_iload_n hX dX12_wouldBelieve_70 1 rfl ?_
      obtain ⟨b6, hf⟩ := chk_eq hf
      refine r_iald hX (w_112 _ _ _) (inb_in b6) dX12_wouldBelieve_71 ?_
      refine r_aload_n hX dX12_wouldBelieve_72 0 rfl ?_
      refine r_iload_n hX dX12_wouldBelieve_73 1 rfl ?_
      obtain ⟨v9, μ7, h8, hf⟩ := bd2_eq hf
      refine r_callVI (Ok.le hX (by omega)) (c_m_allOf (d := d)  h8) cv_X12_168 (w_111 _ _ _) rfl rfl (st := [.int (μ.1 v_m_need x1.toNatClampNeg), .int ((100 : Int32) * x3)]) rfl rfl rfl dX12_wouldBelieve_74 (fun dy => ?_)
      refine r_imul hX dX12_wouldBelieve_77 ?_
      obtain ⟨v10, e11, hf⟩ := bnd_eq hf
      have J12 : AW X 86 [(0, .ref (gA (xG X) 111)), (1, .int x1), (2, .int x2), (3, .int x3), (4, .int x4)] [.int v10] μ7 dy := by
        obtain ⟨b13, hf⟩ := chk_eq hf
        exact fin_Z hf hr _ _ _ (zb_nar b13) dX12_wouldBelieve_86
      refine r_icmp_le hX 85 dX12_wouldBelieve_78 rfl (fun hc14 => ?_) (fun hc14 => ?_)
      · refine r_iconst hX (0 : Int32) dX12_wouldBelieve_85 rfl ?_
        exact r_topI (e11.trans (by rw [if_pos hc14])) J12
      · refine r_iconst hX (1 : Int32) dX12_wouldBelieve_81 rfl ?_
        refine r_goto hX 86 dX12_wouldBelieve_82 rfl ?_
        exact r_topI (e11.trans (by rw [if_neg hc14])) J12
    · rw [if_neg hc5] at hf
      refine r_iload_n hX dX12_wouldBelieve_28 3 rfl ?_
      refine r_iload_n hX dX12_wouldBelieve_29 2 rfl ?_
      refine r_iload hX dX12_wouldBelieve_30 4 rfl ?_
      obtain ⟨v17, μ15, h16, hf⟩ := bd2_eq hf
      refine r_callSI (Ok.le hX (by omega)) (c_m_has (d := d)  h16) cs_X12_164 (st := [.int x3]) rfl rfl rfl dX12_wouldBelieve_32 (fun dy => ?_)
      refine r_if_eq hX 53 dX12_wouldBelieve_35 rfl (fun hc18 => ?_) (fun hc18 => ?_)
      · rw [if_pos hc18] at hf
        refine r_iconst hX (0 : Int32) dX12_wouldBelieve_53 rfl ?_
        refine r_weak [0, 1, 2, 4] rfl ?_
        exact b_m_wouldBelieve_b54 hX hr ih _ _ _ _ _ _ _ hf
      · rw [if_neg hc18] at hf
        refine r_aload_n hX dX12_wouldBelieve_38 0 rfl ?_
        refine r_get hX fl_X12_16 (w_111 _ _ _) rfl dX12_wouldBelieve_39 ?_
        refine r_bipush hX (14 : Int32) dX12_wouldBelieve_42 rfl ?_
        refine r_iload_n hX dX12_wouldBelieve_44 1 rfl ?_
        refine r_imul hX dX12_wouldBelieve_45 ?_
        refine r_iload hX dX12_wouldBelieve_46 4 rfl ?_
        refine r_iadd hX dX12_wouldBelieve_48 ?_
        obtain ⟨b19, hf⟩ := chk_eq hf
        refine r_iald hX (w_114 _ _ _) (inb_in b19) dX12_wouldBelieve_49 ?_
        refine r_goto hX 54 dX12_wouldBelieve_50 rfl ?_
        refine r_weak [0, 1, 2, 4] rfl ?_
        exact b_m_wouldBelieve_b54 hX hr ih _ _ _ _ _ _ _ hf
set_option maxHeartbeats 4000000 in
set_option maxRecDepth 20000 in
theorem c_m_wouldBelieve {G : Gx} {d : Nat} {x1 : Int32} {x2 : Int32} {μ : Mem} {r : Int32 × Mem} (hf : f_m_wouldBelieve x1 x2 μ = some r) : Con G M_m_wouldBelieve (d + 2) [.ref (gA G 111), .int x1, .int x2] μ (some (.int r.1), r.2) := by
  refine Con.ofZ ⟨rfl, rfl, Nat.le_of_ble_eq_true rfl⟩ rfl (fun X hG hX hr dy => ?_)
  subst hG
  show AW X 0 [(0, .ref (gA (xG X) 111)), (1, .int x1), (2, .int x2)] [] μ dy
  unfold f_m_wouldBelieve at hf
  refine r_aload_n hX dX12_wouldBelieve_0 0 rfl ?_
  refine r_iload_n hX dX12_wouldBelieve_1 1 rfl ?_
  obtain ⟨v3, μ1, h2, hf⟩ := bd2_eq hf
  refine r_callVI (Ok.le hX (by omega)) (c_m_isMoved (d := d)  h2) cv_X12_184 (w_111 _ _ _) rfl rfl (st := []) rfl rfl rfl dX12_wouldBelieve_2 (fun dy => ?_)
  refine r_if_ne hX 14 dX12_wouldBelieve_5 rfl (fun hc4 => ?_) (fun hc4 => ?_)
  · rw [if_neg hc4] at hf
    refine r_iconst hX (0 : Int32) dX12_wouldBelieve_14 rfl ?_
    refine r_istore_n hX dX12_wouldBelieve_15 rfl (ls' := [(3, .int (0 : Int32)), (0, .ref (gA (xG X) 111)), (1, .int x1), (2, .int x2)]) rfl ?_
    refine r_iconst hX (0 : Int32) dX12_wouldBelieve_16 rfl ?_
    refine r_istore hX dX12_wouldBelieve_17 rfl (ls' := [(4, .int (0 : Int32)), (3, .int (0 : Int32)), (0, .ref (gA (xG X) 111)), (1, .int x1), (2, .int x2)]) rfl ?_
    refine r_weak [2, 3, 4, 1, 0] rfl ?_
    exact b_m_wouldBelieve_b19 hX hr FU _ _ _ _ _ _ hf
  · rw [if_pos hc4] at hf
    refine r_iload_n hX dX12_wouldBelieve_8 2 rfl ?_
    refine r_iload_n hX dX12_wouldBelieve_9 1 rfl ?_
    obtain ⟨v22, μ20, h21, hf⟩ := bd2_eq hf
    refine r_callSI (Ok.le hX (by omega)) (c_m_has (d := d)  h21) cs_X12_164 (st := []) rfl rfl rfl dX12_wouldBelieve_10 (fun dy => ?_)
    obtain ⟨b23, hf⟩ := chk_eq hf
    exact fin_Z hf hr _ _ _ (zb_nar b23) dX12_wouldBelieve_13
theorem dX12_next_0 : decode cX12_next 0 = .ok (.iconst 0, 1) := by decide +kernel
theorem dX12_next_1 : decode cX12_next 1 = .ok (.istore_n 2, 1) := by decide +kernel
theorem dX12_next_2 : decode cX12_next 2 = .ok (.iconst 0, 1) := by decide +kernel
theorem dX12_next_3 : decode cX12_next 3 = .ok (.istore_n 3, 1) := by decide +kernel
theorem dX12_next_4 : decode cX12_next 4 = .ok (.iload_n 3, 1) := by decide +kernel
theorem dX12_next_5 : decode cX12_next 5 = .ok (.aload_n 0, 1) := by decide +kernel
theorem dX12_next_6 : decode cX12_next 6 = .ok (.getfield 86, 3) := by decide +kernel
theorem dX12_next_9 : decode cX12_next 9 = .ok (.if_icmp .ge 28, 3) := by decide +kernel
theorem dX12_next_12 : decode cX12_next 12 = .ok (.iload_n 2, 1) := by decide +kernel
theorem dX12_next_13 : decode cX12_next 13 = .ok (.aload_n 0, 1) := by decide +kernel
theorem dX12_next_14 : decode cX12_next 14 = .ok (.iload_n 3, 1) := by decide +kernel
theorem dX12_next_15 : decode cX12_next 15 = .ok (.iload_n 1, 1) := by decide +kernel
theorem dX12_next_16 : decode cX12_next 16 = .ok (.invokevirtual 187, 3) := by decide +kernel
theorem dX12_next_19 : decode cX12_next 19 = .ok (.ifCond .eq 9, 3) := by decide +kernel
theorem dX12_next_22 : decode cX12_next 22 = .ok (.iconst 1, 1) := by decide +kernel
theorem dX12_next_23 : decode cX12_next 23 = .ok (.iload_n 3, 1) := by decide +kernel
theorem dX12_next_24 : decode cX12_next 24 = .ok (.ishl, 1) := by decide +kernel
theorem dX12_next_25 : decode cX12_next 25 = .ok (.goto 4, 3) := by decide +kernel
theorem dX12_next_28 : decode cX12_next 28 = .ok (.iconst 0, 1) := by decide +kernel
theorem dX12_next_29 : decode cX12_next 29 = .ok (.ior, 1) := by decide +kernel
theorem dX12_next_30 : decode cX12_next 30 = .ok (.istore_n 2, 1) := by decide +kernel
theorem dX12_next_31 : decode cX12_next 31 = .ok (.iinc 3 1, 3) := by decide +kernel
theorem dX12_next_34 : decode cX12_next 34 = .ok (.goto (-30), 3) := by decide +kernel
theorem dX12_next_37 : decode cX12_next 37 = .ok (.iload_n 2, 1) := by decide +kernel
theorem dX12_next_38 : decode cX12_next 38 = .ok (.ireturn, 1) := by decide +kernel
set_option maxHeartbeats 4000000 in
set_option maxRecDepth 20000 in
theorem b_m_next_b4 {X : Cx} {d : Nat} (hX : Ok M_m_next (d + 3) X) {r : Int32 × Mem} (hr : RetI M_m_next X r.1 r.2) : ∀ (n : Nat) (x1 : Int32) (x2 : Int32) (x3 : Int32) (μ : Mem) (dy : Nat → Nat), f_m_next_b4 n x1 x2 x3 μ = some r → AW X 4 [(0, .ref (gA (xG X) 111)), (1, .int x1), (2, .int x2), (3, .int x3)] [] μ dy := by
  intro n
  induction n with
  | zero => intro x1 x2 x3 μ dy hf; exact nomatch hf
  | succ n ih =>
    intro x1 x2 x3 μ dy hf
    rw [f_m_next_b4] at hf
    refine r_iload_n hX dX12_next_4 3 rfl ?_
    refine r_aload_n hX dX12_next_5 0 rfl ?_
    refine r_get hX fl_X12_86 (w_111 _ _ _) rfl dX12_next_6 ?_
    refine r_icmp_ge hX 37 dX12_next_9 rfl (fun hc1 => ?_) (fun hc1 => ?_)
    · rw [if_pos hc1] at hf
      refine r_iload_n hX dX12_next_37 2 rfl ?_
      exact fin_I hf hr _ _ _ dX12_next_38
    · rw [if_neg hc1] at hf
      refine r_iload_n hX dX12_next_12 2 rfl ?_
      refine r_aload_n hX dX12_next_13 0 rfl ?_
      refine r_iload_n hX dX12_next_14 3 rfl ?_
      refine r_iload_n hX dX12_next_15 1 rfl ?_
      obtain ⟨v4, μ2, h3, hf⟩ := bd2_eq hf
      refine r_callVI (Ok.le hX (by omega)) (c_m_wouldBelieve (d := d)  h3) cv_X12_187 (w_111 _ _ _) rfl rfl (st := [.int x2]) rfl rfl rfl dX12_next_16 (fun dy => ?_)
      obtain ⟨v5, e6, hf⟩ := bnd_eq hf
      have J7 : AW X 29 [(0, .ref (gA (xG X) 111)), (1, .int x1), (2, .int x2), (3, .int x3)] [.int v5, .int x2] μ2 dy := by
        refine r_ior hX dX12_next_29 ?_
        refine r_istore_n hX dX12_next_30 rfl (ls' := [(2, .int (x2 ||| v5)), (0, .ref (gA (xG X) 111)), (1, .int x1), (3, .int x3)]) rfl ?_
        refine r_iinc hX (x3 + (1 : Int32)) dX12_next_31 3 rfl rfl rfl (ls' := [(3, .int (x3 + (1 : Int32))), (2, .int (x2 ||| v5)), (0, .ref (gA (xG X) 111)), (1, .int x1)]) rfl ?_
        refine r_goto hX 4 dX12_next_34 rfl ?_
        refine r_weak [2, 3, 1, 0] rfl ?_
        exact ih _ _ _ _ _ hf
      refine r_if_eq hX 28 dX12_next_19 rfl (fun hc8 => ?_) (fun hc8 => ?_)
      · refine r_iconst hX (0 : Int32) dX12_next_28 rfl ?_
        exact r_topI (e6.trans (by rw [if_pos hc8])) J7
      · refine r_iconst hX (1 : Int32) dX12_next_22 rfl ?_
        refine r_iload_n hX dX12_next_23 3 rfl ?_
        refine r_ishl hX dX12_next_24 ?_
        refine r_goto hX 29 dX12_next_25 rfl ?_
        exact r_topI (e6.trans (by rw [if_neg hc8])) J7
set_option maxHeartbeats 4000000 in
set_option maxRecDepth 20000 in
theorem c_m_next {G : Gx} {d : Nat} {x1 : Int32} {μ : Mem} {r : Int32 × Mem} (hf : f_m_next x1 μ = some r) : Con G M_m_next (d + 3) [.ref (gA G 111), .int x1] μ (some (.int r.1), r.2) := by
  refine Con.ofI ⟨rfl, rfl, Nat.le_of_ble_eq_true rfl⟩ rfl rfl (fun X hG hX hr dy => ?_)
  subst hG
  show AW X 0 [(0, .ref (gA (xG X) 111)), (1, .int x1)] [] μ dy
  unfold f_m_next at hf
  refine r_iconst hX (0 : Int32) dX12_next_0 rfl ?_
  refine r_istore_n hX dX12_next_1 rfl (ls' := [(2, .int (0 : Int32)), (0, .ref (gA (xG X) 111)), (1, .int x1)]) rfl ?_
  refine r_iconst hX (0 : Int32) dX12_next_2 rfl ?_
  refine r_istore_n hX dX12_next_3 rfl (ls' := [(3, .int (0 : Int32)), (2, .int (0 : Int32)), (0, .ref (gA (xG X) 111)), (1, .int x1)]) rfl ?_
  refine r_weak [2, 3, 1, 0] rfl ?_
  exact b_m_next_b4 hX hr FU _ _ _ _ _ hf
theorem dX12_state_0 : decode cX12_state 0 = .ok (.aload_n 0, 1) := by decide +kernel
theorem dX12_state_1 : decode cX12_state 1 = .ok (.iconst 0, 1) := by decide +kernel
theorem dX12_state_2 : decode cX12_state 2 = .ok (.putfield 80, 3) := by decide +kernel
theorem dX12_state_5 : decode cX12_state 5 = .ok (.iload_n 1, 1) := by decide +kernel
theorem dX12_state_6 : decode cX12_state 6 = .ok (.iconst 0, 1) := by decide +kernel
theorem dX12_state_7 : decode cX12_state 7 = .ok (.aload_n 0, 1) := by decide +kernel
theorem dX12_state_8 : decode cX12_state 8 = .ok (.getfield 97, 3) := by decide +kernel
theorem dX12_state_11 : decode cX12_state 11 = .ok (.invokestatic 89, 3) := by decide +kernel
theorem dX12_state_14 : decode cX12_state 14 = .ok (.ifCond .eq 12, 3) := by decide +kernel
theorem dX12_state_17 : decode cX12_state 17 = .ok (.aload_n 0, 1) := by decide +kernel
theorem dX12_state_18 : decode cX12_state 18 = .ok (.getfield 19, 3) := by decide +kernel
theorem dX12_state_21 : decode cX12_state 21 = .ok (.iload_n 1, 1) := by decide +kernel
theorem dX12_state_22 : decode cX12_state 22 = .ok (.iaload, 1) := by decide +kernel
theorem dX12_state_23 : decode cX12_state 23 = .ok (.goto 4, 3) := by decide +kernel
theorem dX12_state_26 : decode cX12_state 26 = .ok (.iconst (-1), 1) := by decide +kernel
theorem dX12_state_27 : decode cX12_state 27 = .ok (.ireturn, 1) := by decide +kernel
set_option maxHeartbeats 4000000 in
set_option maxRecDepth 20000 in
theorem c_m_state {G : Gx} {d : Nat} {x1 : Int32} {μ : Mem} {r : Int32 × Mem} (hf : f_m_state x1 μ = some r) : Con G M_m_state (d + 1) [.ref (gA G 111), .int x1] μ (some (.int r.1), r.2) := by
  refine Con.ofI ⟨rfl, rfl, Nat.le_of_ble_eq_true rfl⟩ rfl rfl (fun X hG hX hr dy => ?_)
  subst hG
  show AW X 0 [(0, .ref (gA (xG X) 111)), (1, .int x1)] [] μ dy
  unfold f_m_state at hf
  refine r_aload_n hX dX12_state_0 0 rfl ?_
  refine r_iconst hX (0 : Int32) dX12_state_1 rfl ?_
  obtain ⟨μ1, e2, hf⟩ := bnd_eq hf
  refine r_put hX fl_X12_80 ft_X12_11 (w_111 _ _ _) rfl rfl rfl (s_111_11 _ _ _ _) e2 rfl dX12_state_2 ?_
  refine r_iload_n hX dX12_state_5 1 rfl ?_
  refine r_iconst hX (0 : Int32) dX12_state_6 rfl ?_
  refine r_aload_n hX dX12_state_7 0 rfl ?_
  refine r_get hX fl_X12_97 (w_111 _ _ _) rfl dX12_state_8 ?_
  obtain ⟨v5, μ3, h4, hf⟩ := bd2_eq hf
  refine r_callSI (Ok.le hX (by omega)) (c_m_in (d := d)  h4) cs_X12_89 (st := []) rfl rfl rfl dX12_state_11 (fun dy => ?_)
  refine r_if_eq hX 26 dX12_state_14 rfl (fun hc6 => ?_) (fun hc6 => ?_)
  · rw [if_pos hc6] at hf
    refine r_iconst hX (-1 : Int32) dX12_state_26 rfl ?_
    exact fin_I hf hr _ _ _ dX12_state_27
  · rw [if_neg hc6] at hf
    refine r_aload_n hX dX12_state_17 0 rfl ?_
    refine r_get hX fl_X12_19 (w_111 _ _ _) rfl dX12_state_18 ?_
    refine r_iload_n hX dX12_state_21 1 rfl ?_
    obtain ⟨b7, hf⟩ := chk_eq hf
    refine r_iald hX (w_115 _ _ _) (inb_in b7) dX12_state_22 ?_
    refine r_goto hX 27 dX12_state_23 rfl ?_
    exact fin_I hf hr _ _ _ dX12_state_27
theorem dX12_go_0 : decode cX12_go 0 = .ok (.aload_n 0, 1) := by decide +kernel
theorem dX12_go_1 : decode cX12_go 1 = .ok (.iconst 0, 1) := by decide +kernel
theorem dX12_go_2 : decode cX12_go 2 = .ok (.putfield 80, 3) := by decide +kernel
theorem dX12_go_5 : decode cX12_go 5 = .ok (.iload_n 1, 1) := by decide +kernel
theorem dX12_go_6 : decode cX12_go 6 = .ok (.iconst 0, 1) := by decide +kernel
theorem dX12_go_7 : decode cX12_go 7 = .ok (.sipush 200, 3) := by decide +kernel
theorem dX12_go_10 : decode cX12_go 10 = .ok (.invokestatic 89, 3) := by decide +kernel
theorem dX12_go_13 : decode cX12_go 13 = .ok (.ifCond .ne 5, 3) := by decide +kernel
theorem dX12_go_16 : decode cX12_go 16 = .ok (.iconst (-1), 1) := by decide +kernel
theorem dX12_go_17 : decode cX12_go 17 = .ok (.ireturn, 1) := by decide +kernel
theorem dX12_go_18 : decode cX12_go 18 = .ok (.iconst 0, 1) := by decide +kernel
theorem dX12_go_19 : decode cX12_go 19 = .ok (.istore_n 2, 1) := by decide +kernel
theorem dX12_go_20 : decode cX12_go 20 = .ok (.iload_n 2, 1) := by decide +kernel
theorem dX12_go_21 : decode cX12_go 21 = .ok (.iload_n 1, 1) := by decide +kernel
theorem dX12_go_22 : decode cX12_go 22 = .ok (.if_icmp .ge 53, 3) := by decide +kernel
theorem dX12_go_25 : decode cX12_go 25 = .ok (.aload_n 0, 1) := by decide +kernel
theorem dX12_go_26 : decode cX12_go 26 = .ok (.getfield 97, 3) := by decide +kernel
theorem dX12_go_29 : decode cX12_go 29 = .ok (.sipush 200, 3) := by decide +kernel
theorem dX12_go_32 : decode cX12_go 32 = .ok (.if_icmp .ge 43, 3) := by decide +kernel
theorem dX12_go_35 : decode cX12_go 35 = .ok (.aload_n 0, 1) := by decide +kernel
theorem dX12_go_36 : decode cX12_go 36 = .ok (.getfield 19, 3) := by decide +kernel
theorem dX12_go_39 : decode cX12_go 39 = .ok (.aload_n 0, 1) := by decide +kernel
theorem dX12_go_40 : decode cX12_go 40 = .ok (.getfield 97, 3) := by decide +kernel
theorem dX12_go_43 : decode cX12_go 43 = .ok (.iconst 1, 1) := by decide +kernel
theorem dX12_go_44 : decode cX12_go 44 = .ok (.iadd, 1) := by decide +kernel
theorem dX12_go_45 : decode cX12_go 45 = .ok (.aload_n 0, 1) := by decide +kernel
theorem dX12_go_46 : decode cX12_go 46 = .ok (.aload_n 0, 1) := by decide +kernel
theorem dX12_go_47 : decode cX12_go 47 = .ok (.getfield 19, 3) := by decide +kernel
theorem dX12_go_50 : decode cX12_go 50 = .ok (.aload_n 0, 1) := by decide +kernel
theorem dX12_go_51 : decode cX12_go 51 = .ok (.getfield 97, 3) := by decide +kernel
theorem dX12_go_54 : decode cX12_go 54 = .ok (.iaload, 1) := by decide +kernel
theorem dX12_go_55 : decode cX12_go 55 = .ok (.invokevirtual 190, 3) := by decide +kernel
theorem dX12_go_58 : decode cX12_go 58 = .ok (.iastore, 1) := by decide +kernel
theorem dX12_go_59 : decode cX12_go 59 = .ok (.aload_n 0, 1) := by decide +kernel
theorem dX12_go_60 : decode cX12_go 60 = .ok (.dup, 1) := by decide +kernel
theorem dX12_go_61 : decode cX12_go 61 = .ok (.getfield 97, 3) := by decide +kernel
theorem dX12_go_64 : decode cX12_go 64 = .ok (.iconst 1, 1) := by decide +kernel
theorem dX12_go_65 : decode cX12_go 65 = .ok (.iadd, 1) := by decide +kernel
theorem dX12_go_66 : decode cX12_go 66 = .ok (.putfield 97, 3) := by decide +kernel
theorem dX12_go_69 : decode cX12_go 69 = .ok (.iinc 2 1, 3) := by decide +kernel
theorem dX12_go_72 : decode cX12_go 72 = .ok (.goto (-52), 3) := by decide +kernel
theorem dX12_go_75 : decode cX12_go 75 = .ok (.aload_n 0, 1) := by decide +kernel
theorem dX12_go_76 : decode cX12_go 76 = .ok (.invokevirtual 137, 3) := by decide +kernel
theorem dX12_go_79 : decode cX12_go 79 = .ok (.ireturn, 1) := by decide +kernel
set_option maxHeartbeats 4000000 in
set_option maxRecDepth 20000 in
theorem b_m_go_b75 {X : Cx} {d : Nat} (hX : Ok M_m_go (d + 4) X) {r : Int32 × Mem} (hr : RetI M_m_go X r.1 r.2)  (μ : Mem) (dy : Nat → Nat) (hf : f_m_go_b75  μ = some r) : AW X 75 [(0, .ref (gA (xG X) 111))] [] μ dy := by
  unfold f_m_go_b75 at hf
  refine r_aload_n hX dX12_go_75 0 rfl ?_
  obtain ⟨v10, μ8, h9, hf⟩ := bd2_eq hf
  refine r_callVI (Ok.le hX (by omega)) (c_m_now (d := d)  h9) cv_X12_137 (w_111 _ _ _) rfl rfl (st := []) rfl rfl rfl dX12_go_76 (fun dy => ?_)
  exact fin_I hf hr _ _ _ dX12_go_79
set_option maxHeartbeats 4000000 in
set_option maxRecDepth 20000 in
theorem b_m_go_b20 {X : Cx} {d : Nat} (hX : Ok M_m_go (d + 4) X) {r : Int32 × Mem} (hr : RetI M_m_go X r.1 r.2) : ∀ (n : Nat) (x1 : Int32) (x2 : Int32) (μ : Mem) (dy : Nat → Nat), f_m_go_b20 n x1 x2 μ = some r → AW X 20 [(0, .ref (gA (xG X) 111)), (1, .int x1), (2, .int x2)] [] μ dy := by
  intro n
  induction n with
  | zero => intro x1 x2 μ dy hf; exact nomatch hf
  | succ n ih =>
    intro x1 x2 μ dy hf
    rw [f_m_go_b20] at hf
    refine r_iload_n hX dX12_go_20 2 rfl ?_
    refine r_iload_n hX dX12_go_21 1 rfl ?_
    refine r_icmp_ge hX 75 dX12_go_22 rfl (fun hc7 => ?_) (fun hc7 => ?_)
    · rw [if_pos hc7] at hf
      refine r_weak [0] rfl ?_
      exact b_m_go_b75 hX hr _ _ hf
    · rw [if_neg hc7] at hf
      refine r_aload_n hX dX12_go_25 0 rfl ?_
      refine r_get hX fl_X12_97 (w_111 _ _ _) rfl dX12_go_26 ?_
      refine r_sipush hX (200 : Int32) dX12_go_29 rfl ?_
      refine r_icmp_ge hX 75 dX12_go_32 rfl (fun hc11 => ?_) (fun hc11 => ?_)
      · rw [if_pos hc11] at hf
        refine r_weak [0] rfl ?_
        exact b_m_go_b75 hX hr _ _ hf
      · rw [if_neg hc11] at hf
        refine r_aload_n hX dX12_go_35 0 rfl ?_
        refine r_get hX fl_X12_19 (w_111 _ _ _) rfl dX12_go_36 ?_
        refine r_aload_n hX dX12_go_39 0 rfl ?_
        refine r_get hX fl_X12_97 (w_111 _ _ _) rfl dX12_go_40 ?_
        refine r_iconst hX (1 : Int32) dX12_go_43 rfl ?_
        refine r_iadd hX dX12_go_44 ?_
        refine r_aload_n hX dX12_go_45 0 rfl ?_
        refine r_aload_n hX dX12_go_46 0 rfl ?_
        refine r_get hX fl_X12_19 (w_111 _ _ _) rfl dX12_go_47 ?_
        refine r_aload_n hX dX12_go_50 0 rfl ?_
        refine r_get hX fl_X12_97 (w_111 _ _ _) rfl dX12_go_51 ?_
        obtain ⟨b12, hf⟩ := chk_eq hf
        refine r_iald hX (w_115 _ _ _) (inb_in b12) dX12_go_54 ?_
        obtain ⟨v15, μ13, h14, hf⟩ := bd2_eq hf
        refine r_callVI (Ok.le hX (by omega)) (c_m_next (d := d)  h14) cv_X12_190 (w_111 _ _ _) rfl rfl (st := [.int ((μ.1 v_m_days 0) + (1 : Int32)), .ref (gA (xG X) 115)]) rfl rfl rfl dX12_go_55 (fun dy => ?_)
        obtain ⟨b16, hf⟩ := chk_eq hf
        obtain ⟨μ17, e18, hf⟩ := bnd_eq hf
        refine r_iast hX (w_115 _ _ _) (inb_in b16) (s_115 _ _ _ _ _) e18 rfl dX12_go_58 ?_
        refine r_aload_n hX dX12_go_59 0 rfl ?_
        refine r_dup hX dX12_go_60 rfl ?_
        refine r_get hX fl_X12_97 (w_111 _ _ _) rfl dX12_go_61 ?_
        refine r_iconst hX (1 : Int32) dX12_go_64 rfl ?_
        refine r_iadd hX dX12_go_65 ?_
        obtain ⟨μ19, e20, hf⟩ := bnd_eq hf
        refine r_put hX fl_X12_97 ft_X12_6 (w_111 _ _ _) rfl rfl rfl (s_111_6 _ _ _ _) e20 rfl dX12_go_66 ?_
        refine r_iinc hX (x2 + (1 : Int32)) dX12_go_69 2 rfl rfl rfl (ls' := [(2, .int (x2 + (1 : Int32))), (0, .ref (gA (xG X) 111)), (1, .int x1)]) rfl ?_
        refine r_goto hX 20 dX12_go_72 rfl ?_
        refine r_weak [1, 2, 0] rfl ?_
        exact ih _ _ _ _ hf
set_option maxHeartbeats 4000000 in
set_option maxRecDepth 20000 in
theorem c_m_go {G : Gx} {d : Nat} {x1 : Int32} {μ : Mem} {r : Int32 × Mem} (hf : f_m_go x1 μ = some r) : Con G M_m_go (d + 4) [.ref (gA G 111), .int x1] μ (some (.int r.1), r.2) := by
  refine Con.ofI ⟨rfl, rfl, Nat.le_of_ble_eq_true rfl⟩ rfl rfl (fun X hG hX hr dy => ?_)
  subst hG
  show AW X 0 [(0, .ref (gA (xG X) 111)), (1, .int x1)] [] μ dy
  unfold f_m_go at hf
  refine r_aload_n hX dX12_go_0 0 rfl ?_
  refine r_iconst hX (0 : Int32) dX12_go_1 rfl ?_
  obtain ⟨μ1, e2, hf⟩ := bnd_eq hf
  refine r_put hX fl_X12_80 ft_X12_11 (w_111 _ _ _) rfl rfl rfl (s_111_11 _ _ _ _) e2 rfl dX12_go_2 ?_
  refine r_iload_n hX dX12_go_5 1 rfl ?_
  refine r_iconst hX (0 : Int32) dX12_go_6 rfl ?_
  refine r_sipush hX (200 : Int32) dX12_go_7 rfl ?_
  obtain ⟨v5, μ3, h4, hf⟩ := bd2_eq hf
  refine r_callSI (Ok.le hX (by omega)) (c_m_in (d := d)  h4) cs_X12_89 (st := []) rfl rfl rfl dX12_go_10 (fun dy => ?_)
  refine r_if_ne hX 18 dX12_go_13 rfl (fun hc6 => ?_) (fun hc6 => ?_)
  · rw [if_neg hc6] at hf
    refine r_iconst hX (0 : Int32) dX12_go_18 rfl ?_
    refine r_istore_n hX dX12_go_19 rfl (ls' := [(2, .int (0 : Int32)), (0, .ref (gA (xG X) 111)), (1, .int x1)]) rfl ?_
    refine r_weak [1, 2, 0] rfl ?_
    exact b_m_go_b20 hX hr FU _ _ _ _ hf
  · rw [if_pos hc6] at hf
    refine r_iconst hX (-1 : Int32) dX12_go_16 rfl ?_
    exact fin_I hf hr _ _ _ dX12_go_17
theorem dX12_priceOf_0 : decode cX12_priceOf 0 = .ok (.iconst 0, 1) := by decide +kernel
theorem dX12_priceOf_1 : decode cX12_priceOf 1 = .ok (.istore_n 2, 1) := by decide +kernel
theorem dX12_priceOf_2 : decode cX12_priceOf 2 = .ok (.iconst 0, 1) := by decide +kernel
theorem dX12_priceOf_3 : decode cX12_priceOf 3 = .ok (.istore_n 3, 1) := by decide +kernel
theorem dX12_priceOf_4 : decode cX12_priceOf 4 = .ok (.iload_n 3, 1) := by decide +kernel
theorem dX12_priceOf_5 : decode cX12_priceOf 5 = .ok (.aload_n 0, 1) := by decide +kernel
theorem dX12_priceOf_6 : decode cX12_priceOf 6 = .ok (.getfield 86, 3) := by decide +kernel
theorem dX12_priceOf_9 : decode cX12_priceOf 9 = .ok (.if_icmp .ge 30, 3) := by decide +kernel
theorem dX12_priceOf_12 : decode cX12_priceOf 12 = .ok (.iload_n 2, 1) := by decide +kernel
theorem dX12_priceOf_13 : decode cX12_priceOf 13 = .ok (.iload_n 1, 1) := by decide +kernel
theorem dX12_priceOf_14 : decode cX12_priceOf 14 = .ok (.iload_n 3, 1) := by decide +kernel
theorem dX12_priceOf_15 : decode cX12_priceOf 15 = .ok (.invokestatic 164, 3) := by decide +kernel
theorem dX12_priceOf_18 : decode cX12_priceOf 18 = .ok (.ifCond .eq 12, 3) := by decide +kernel
theorem dX12_priceOf_21 : decode cX12_priceOf 21 = .ok (.aload_n 0, 1) := by decide +kernel
theorem dX12_priceOf_22 : decode cX12_priceOf 22 = .ok (.getfield 13, 3) := by decide +kernel
theorem dX12_priceOf_25 : decode cX12_priceOf 25 = .ok (.iload_n 3, 1) := by decide +kernel
theorem dX12_priceOf_26 : decode cX12_priceOf 26 = .ok (.iaload, 1) := by decide +kernel
theorem dX12_priceOf_27 : decode cX12_priceOf 27 = .ok (.goto 4, 3) := by decide +kernel
theorem dX12_priceOf_30 : decode cX12_priceOf 30 = .ok (.iconst 0, 1) := by decide +kernel
theorem dX12_priceOf_31 : decode cX12_priceOf 31 = .ok (.iadd, 1) := by decide +kernel
theorem dX12_priceOf_32 : decode cX12_priceOf 32 = .ok (.istore_n 2, 1) := by decide +kernel
theorem dX12_priceOf_33 : decode cX12_priceOf 33 = .ok (.iinc 3 1, 3) := by decide +kernel
theorem dX12_priceOf_36 : decode cX12_priceOf 36 = .ok (.goto (-32), 3) := by decide +kernel
theorem dX12_priceOf_39 : decode cX12_priceOf 39 = .ok (.iload_n 2, 1) := by decide +kernel
theorem dX12_priceOf_40 : decode cX12_priceOf 40 = .ok (.ireturn, 1) := by decide +kernel
set_option maxHeartbeats 4000000 in
set_option maxRecDepth 20000 in
theorem b_m_priceOf_b31 {X : Cx} {d : Nat} (hX : Ok M_m_priceOf (d + 1) X) {r : Int32 × Mem} (hr : RetI M_m_priceOf X r.1 r.2) {k4 : Int32 → Int32 → Int32 → Mem → Option (Int32 × Mem)} (hk4 : ∀ (x1 : Int32) (x2 : Int32) (x3 : Int32) (μ : Mem) (dy : Nat → Nat), k4 x1 x2 x3 μ = some r → AW X 4 [(0, .ref (gA (xG X) 111)), (1, .int x1), (2, .int x2), (3, .int x3)] [] μ dy) (x1 : Int32) (x3 : Int32) (s0 : Int32) (s1 : Int32) (μ : Mem) (dy : Nat → Nat) (hf : f_m_priceOf_b31 k4 x1 x3 s0 s1 μ = some r) : AW X 31 [(0, .ref (gA (xG X) 111)), (1, .int x1), (3, .int x3)] [.int s1, .int s0] μ dy := by
  unfold f_m_priceOf_b31 at hf
  refine r_iadd hX dX12_priceOf_31 ?_
  refine r_istore_n hX dX12_priceOf_32 rfl (ls' := [(2, .int (s0 + s1)), (0, .ref (gA (xG X) 111)), (1, .int x1), (3, .int x3)]) rfl ?_
  refine r_iinc hX (x3 + (1 : Int32)) dX12_priceOf_33 3 rfl rfl rfl (ls' := [(3, .int (x3 + (1 : Int32))), (2, .int (s0 + s1)), (0, .ref (gA (xG X) 111)), (1, .int x1)]) rfl ?_
  refine r_goto hX 4 dX12_priceOf_36 rfl ?_
  refine r_weak [2, 3, 1, 0] rfl ?_
  exact hk4 _ _ _ _ _ hf
set_option maxHeartbeats 4000000 in
set_option maxRecDepth 20000 in
theorem b_m_priceOf_b4 {X : Cx} {d : Nat} (hX : Ok M_m_priceOf (d + 1) X) {r : Int32 × Mem} (hr : RetI M_m_priceOf X r.1 r.2) : ∀ (n : Nat) (x1 : Int32) (x2 : Int32) (x3 : Int32) (μ : Mem) (dy : Nat → Nat), f_m_priceOf_b4 n x1 x2 x3 μ = some r → AW X 4 [(0, .ref (gA (xG X) 111)), (1, .int x1), (2, .int x2), (3, .int x3)] [] μ dy := by
  intro n
  induction n with
  | zero => intro x1 x2 x3 μ dy hf; exact nomatch hf
  | succ n ih =>
    intro x1 x2 x3 μ dy hf
    rw [f_m_priceOf_b4] at hf
    refine r_iload_n hX dX12_priceOf_4 3 rfl ?_
    refine r_aload_n hX dX12_priceOf_5 0 rfl ?_
    refine r_get hX fl_X12_86 (w_111 _ _ _) rfl dX12_priceOf_6 ?_
    refine r_icmp_ge hX 39 dX12_priceOf_9 rfl (fun hc1 => ?_) (fun hc1 => ?_)
    · rw [if_pos hc1] at hf
      refine r_iload_n hX dX12_priceOf_39 2 rfl ?_
      exact fin_I hf hr _ _ _ dX12_priceOf_40
    · rw [if_neg hc1] at hf
      refine r_iload_n hX dX12_priceOf_12 2 rfl ?_
      refine r_iload_n hX dX12_priceOf_13 1 rfl ?_
      refine r_iload_n hX dX12_priceOf_14 3 rfl ?_
      obtain ⟨v4, μ2, h3, hf⟩ := bd2_eq hf
      refine r_callSI (Ok.le hX (by omega)) (c_m_has (d := d)  h3) cs_X12_164 (st := [.int x2]) rfl rfl rfl dX12_priceOf_15 (fun dy => ?_)
      refine r_if_eq hX 30 dX12_priceOf_18 rfl (fun hc5 => ?_) (fun hc5 => ?_)
      · rw [if_pos hc5] at hf
        refine r_iconst hX (0 : Int32) dX12_priceOf_30 rfl ?_
        refine r_weak [0, 1, 3] rfl ?_
        exact b_m_priceOf_b31 hX hr ih _ _ _ _ _ _ hf
      · rw [if_neg hc5] at hf
        refine r_aload_n hX dX12_priceOf_21 0 rfl ?_
        refine r_get hX fl_X12_13 (w_111 _ _ _) rfl dX12_priceOf_22 ?_
        refine r_iload_n hX dX12_priceOf_25 3 rfl ?_
        obtain ⟨b6, hf⟩ := chk_eq hf
        refine r_iald hX (w_113 _ _ _) (inb_in b6) dX12_priceOf_26 ?_
        refine r_goto hX 31 dX12_priceOf_27 rfl ?_
        refine r_weak [0, 1, 3] rfl ?_
        exact b_m_priceOf_b31 hX hr ih _ _ _ _ _ _ hf
set_option maxHeartbeats 4000000 in
set_option maxRecDepth 20000 in
theorem c_m_priceOf {G : Gx} {d : Nat} {x1 : Int32} {μ : Mem} {r : Int32 × Mem} (hf : f_m_priceOf x1 μ = some r) : Con G M_m_priceOf (d + 1) [.ref (gA G 111), .int x1] μ (some (.int r.1), r.2) := by
  refine Con.ofI ⟨rfl, rfl, Nat.le_of_ble_eq_true rfl⟩ rfl rfl (fun X hG hX hr dy => ?_)
  subst hG
  show AW X 0 [(0, .ref (gA (xG X) 111)), (1, .int x1)] [] μ dy
  unfold f_m_priceOf at hf
  refine r_iconst hX (0 : Int32) dX12_priceOf_0 rfl ?_
  refine r_istore_n hX dX12_priceOf_1 rfl (ls' := [(2, .int (0 : Int32)), (0, .ref (gA (xG X) 111)), (1, .int x1)]) rfl ?_
  refine r_iconst hX (0 : Int32) dX12_priceOf_2 rfl ?_
  refine r_istore_n hX dX12_priceOf_3 rfl (ls' := [(3, .int (0 : Int32)), (2, .int (0 : Int32)), (0, .ref (gA (xG X) 111)), (1, .int x1)]) rfl ?_
  refine r_weak [2, 3, 1, 0] rfl ?_
  exact b_m_priceOf_b4 hX hr FU _ _ _ _ _ hf
theorem dX12_open_0 : decode cX12_open 0 = .ok (.aload_n 0, 1) := by decide +kernel
theorem dX12_open_1 : decode cX12_open 1 = .ok (.invokevirtual 93, 3) := by decide +kernel
theorem dX12_open_4 : decode cX12_open 4 = .ok (.aload_n 0, 1) := by decide +kernel
theorem dX12_open_5 : decode cX12_open 5 = .ok (.getfield 140, 3) := by decide +kernel
theorem dX12_open_8 : decode cX12_open 8 = .ok (.iconst (-1), 1) := by decide +kernel
theorem dX12_open_9 : decode cX12_open 9 = .ok (.ixor, 1) := by decide +kernel
theorem dX12_open_10 : decode cX12_open 10 = .ok (.iand, 1) := by decide +kernel
theorem dX12_open_11 : decode cX12_open 11 = .ok (.aload_n 0, 1) := by decide +kernel
theorem dX12_open_12 : decode cX12_open 12 = .ok (.invokevirtual 137, 3) := by decide +kernel
theorem dX12_open_15 : decode cX12_open 15 = .ok (.iconst (-1), 1) := by decide +kernel
theorem dX12_open_16 : decode cX12_open 16 = .ok (.ixor, 1) := by decide +kernel
theorem dX12_open_17 : decode cX12_open 17 = .ok (.iand, 1) := by decide +kernel
theorem dX12_open_18 : decode cX12_open 18 = .ok (.ireturn, 1) := by decide +kernel
set_option maxHeartbeats 4000000 in
set_option maxRecDepth 20000 in
theorem c_m_open {G : Gx} {d : Nat}  {μ : Mem} {r : Int32 × Mem} (hf : f_m_open  μ = some r) : Con G M_m_open (d + 1) [.ref (gA G 111)] μ (some (.int r.1), r.2) := by
  refine Con.ofI ⟨rfl, rfl, Nat.le_of_ble_eq_true rfl⟩ rfl rfl (fun X hG hX hr dy => ?_)
  subst hG
  show AW X 0 [(0, .ref (gA (xG X) 111))] [] μ dy
  unfold f_m_open at hf
  refine r_aload_n hX dX12_open_0 0 rfl ?_
  obtain ⟨v3, μ1, h2, hf⟩ := bd2_eq hf
  refine r_callVI (Ok.le hX (by omega)) (c_m_everybody (d := d)  h2) cv_X12_93 (w_111 _ _ _) rfl rfl (st := []) rfl rfl rfl dX12_open_1 (fun dy => ?_)
  refine r_aload_n hX dX12_open_4 0 rfl ?_
  refine r_get hX fl_X12_140 (w_111 _ _ _) rfl dX12_open_5 ?_
  refine r_iconst hX (-1 : Int32) dX12_open_8 rfl ?_
  refine r_ixor hX dX12_open_9 ?_
  refine r_iand hX dX12_open_10 ?_
  refine r_aload_n hX dX12_open_11 0 rfl ?_
  obtain ⟨v6, μ4, h5, hf⟩ := bd2_eq hf
  refine r_callVI (Ok.le hX (by omega)) (c_m_now (d := d)  h5) cv_X12_137 (w_111 _ _ _) rfl rfl (st := [.int (v3 &&& ((μ1.1 v_m_firm 0) ^^^ (-1 : Int32)))]) rfl rfl rfl dX12_open_12 (fun dy => ?_)
  refine r_iconst hX (-1 : Int32) dX12_open_15 rfl ?_
  refine r_ixor hX dX12_open_16 ?_
  refine r_iand hX dX12_open_17 ?_
  exact fin_I hf hr _ _ _ dX12_open_18
theorem dX12_talk_0 : decode cX12_talk 0 = .ok (.aload_n 0, 1) := by decide +kernel
theorem dX12_talk_1 : decode cX12_talk 1 = .ok (.iconst 0, 1) := by decide +kernel
theorem dX12_talk_2 : decode cX12_talk 2 = .ok (.putfield 80, 3) := by decide +kernel
theorem dX12_talk_5 : decode cX12_talk 5 = .ok (.aload_n 0, 1) := by decide +kernel
theorem dX12_talk_6 : decode cX12_talk 6 = .ok (.iload_n 1, 1) := by decide +kernel
theorem dX12_talk_7 : decode cX12_talk 7 = .ok (.invokevirtual 193, 3) := by decide +kernel
theorem dX12_talk_10 : decode cX12_talk 10 = .ok (.ifCond .eq 14, 3) := by decide +kernel
theorem dX12_talk_13 : decode cX12_talk 13 = .ok (.iload_n 1, 1) := by decide +kernel
theorem dX12_talk_14 : decode cX12_talk 14 = .ok (.aload_n 0, 1) := by decide +kernel
theorem dX12_talk_15 : decode cX12_talk 15 = .ok (.invokevirtual 196, 3) := by decide +kernel
theorem dX12_talk_18 : decode cX12_talk 18 = .ok (.iconst (-1), 1) := by decide +kernel
theorem dX12_talk_19 : decode cX12_talk 19 = .ok (.ixor, 1) := by decide +kernel
theorem dX12_talk_20 : decode cX12_talk 20 = .ok (.iand, 1) := by decide +kernel
theorem dX12_talk_21 : decode cX12_talk 21 = .ok (.ifCond .eq 5, 3) := by decide +kernel
theorem dX12_talk_24 : decode cX12_talk 24 = .ok (.iconst (-1), 1) := by decide +kernel
theorem dX12_talk_25 : decode cX12_talk 25 = .ok (.ireturn, 1) := by decide +kernel
theorem dX12_talk_26 : decode cX12_talk 26 = .ok (.aload_n 0, 1) := by decide +kernel
theorem dX12_talk_27 : decode cX12_talk 27 = .ok (.getfield 19, 3) := by decide +kernel
theorem dX12_talk_30 : decode cX12_talk 30 = .ok (.aload_n 0, 1) := by decide +kernel
theorem dX12_talk_31 : decode cX12_talk 31 = .ok (.getfield 97, 3) := by decide +kernel
theorem dX12_talk_34 : decode cX12_talk 34 = .ok (.dup2, 1) := by decide +kernel
theorem dX12_talk_35 : decode cX12_talk 35 = .ok (.iaload, 1) := by decide +kernel
theorem dX12_talk_36 : decode cX12_talk 36 = .ok (.iload_n 1, 1) := by decide +kernel
theorem dX12_talk_37 : decode cX12_talk 37 = .ok (.ior, 1) := by decide +kernel
theorem dX12_talk_38 : decode cX12_talk 38 = .ok (.iastore, 1) := by decide +kernel
theorem dX12_talk_39 : decode cX12_talk 39 = .ok (.aload_n 0, 1) := by decide +kernel
theorem dX12_talk_40 : decode cX12_talk 40 = .ok (.iload_n 1, 1) := by decide +kernel
theorem dX12_talk_41 : decode cX12_talk 41 = .ok (.invokevirtual 199, 3) := by decide +kernel
theorem dX12_talk_44 : decode cX12_talk 44 = .ok (.ireturn, 1) := by decide +kernel
set_option maxHeartbeats 4000000 in
set_option maxRecDepth 20000 in
theorem c_m_talk {G : Gx} {d : Nat} {x1 : Int32} {μ : Mem} {r : Int32 × Mem} (hf : f_m_talk x1 μ = some r) : Con G M_m_talk (d + 2) [.ref (gA G 111), .int x1] μ (some (.int r.1), r.2) := by
  refine Con.ofI ⟨rfl, rfl, Nat.le_of_ble_eq_true rfl⟩ rfl rfl (fun X hG hX hr dy => ?_)
  subst hG
  show AW X 0 [(0, .ref (gA (xG X) 111)), (1, .int x1)] [] μ dy
  unfold f_m_talk at hf
  refine r_aload_n hX dX12_talk_0 0 rfl ?_
  refine r_iconst hX (0 : Int32) dX12_talk_1 rfl ?_
  obtain ⟨μ1, e2, hf⟩ := bnd_eq hf
  refine r_put hX fl_X12_80 ft_X12_11 (w_111 _ _ _) rfl rfl rfl (s_111_11 _ _ _ _) e2 rfl dX12_talk_2 ?_
  refine r_aload_n hX dX12_talk_5 0 rfl ?_
  refine r_iload_n hX dX12_talk_6 1 rfl ?_
  obtain ⟨v5, μ3, h4, hf⟩ := bd2_eq hf
  refine r_callVI (Ok.le hX (by omega)) (c_m_areSome (d := d)  h4) cv_X12_193 (w_111 _ _ _) rfl rfl (st := []) rfl rfl rfl dX12_talk_7 (fun dy => ?_)
  refine r_if_eq hX 24 dX12_talk_10 rfl (fun hc6 => ?_) (fun hc6 => ?_)
  · rw [if_pos hc6] at hf
    refine r_iconst hX (-1 : Int32) dX12_talk_24 rfl ?_
    exact fin_I hf hr _ _ _ dX12_talk_25
  · rw [if_neg hc6] at hf
    refine r_iload_n hX dX12_talk_13 1 rfl ?_
    refine r_aload_n hX dX12_talk_14 0 rfl ?_
    obtain ⟨v9, μ7, h8, hf⟩ := bd2_eq hf
    refine r_callVI (Ok.le hX (by omega)) (c_m_open (d := d)  h8) cv_X12_196 (w_111 _ _ _) rfl rfl (st := [.int x1]) rfl rfl rfl dX12_talk_15 (fun dy => ?_)
    refine r_iconst hX (-1 : Int32) dX12_talk_18 rfl ?_
    refine r_ixor hX dX12_talk_19 ?_
    refine r_iand hX dX12_talk_20 ?_
    refine r_if_eq hX 26 dX12_talk_21 rfl (fun hc10 => ?_) (fun hc10 => ?_)
    · rw [if_pos hc10] at hf
      refine r_aload_n hX dX12_talk_26 0 rfl ?_
      refine r_get hX fl_X12_19 (w_111 _ _ _) rfl dX12_talk_27 ?_
      refine r_aload_n hX dX12_talk_30 0 rfl ?_
      refine r_get hX fl_X12_97 (w_111 _ _ _) rfl dX12_talk_31 ?_
      refine r_dup2 hX dX12_talk_34 rfl rfl ?_
      obtain ⟨b11, hf⟩ := chk_eq hf
      refine r_iald hX (w_115 _ _ _) (inb_in b11) dX12_talk_35 ?_
      refine r_iload_n hX dX12_talk_36 1 rfl ?_
      refine r_ior hX dX12_talk_37 ?_
      obtain ⟨b12, hf⟩ := chk_eq hf
      obtain ⟨μ13, e14, hf⟩ := bnd_eq hf
      refine r_iast hX (w_115 _ _ _) (inb_in b12) (s_115 _ _ _ _ _) e14 rfl dX12_talk_38 ?_
      refine r_aload_n hX dX12_talk_39 0 rfl ?_
      refine r_iload_n hX dX12_talk_40 1 rfl ?_
      obtain ⟨v17, μ15, h16, hf⟩ := bd2_eq hf
      refine r_callVI (Ok.le hX (by omega)) (c_m_priceOf (d := d)  h16) cv_X12_199 (w_111 _ _ _) rfl rfl (st := []) rfl rfl rfl dX12_talk_41 (fun dy => ?_)
      exact fin_I hf hr _ _ _ dX12_talk_44
    · rw [if_neg hc10] at hf
      refine r_iconst hX (-1 : Int32) dX12_talk_24 rfl ?_
      exact fin_I hf hr _ _ _ dX12_talk_25
theorem dX12_behind_0 : decode cX12_behind 0 = .ok (.aload_n 0, 1) := by decide +kernel
theorem dX12_behind_1 : decode cX12_behind 1 = .ok (.iconst 0, 1) := by decide +kernel
theorem dX12_behind_2 : decode cX12_behind 2 = .ok (.putfield 80, 3) := by decide +kernel
theorem dX12_behind_5 : decode cX12_behind 5 = .ok (.aload_n 0, 1) := by decide +kernel
theorem dX12_behind_6 : decode cX12_behind 6 = .ok (.iload_n 1, 1) := by decide +kernel
theorem dX12_behind_7 : decode cX12_behind 7 = .ok (.invokevirtual 193, 3) := by decide +kernel
theorem dX12_behind_10 : decode cX12_behind 10 = .ok (.ifCond .eq 11, 3) := by decide +kernel
theorem dX12_behind_13 : decode cX12_behind 13 = .ok (.aload_n 0, 1) := by decide +kernel
theorem dX12_behind_14 : decode cX12_behind 14 = .ok (.iload_n 1, 1) := by decide +kernel
theorem dX12_behind_15 : decode cX12_behind 15 = .ok (.invokevirtual 190, 3) := by decide +kernel
theorem dX12_behind_18 : decode cX12_behind 18 = .ok (.goto 4, 3) := by decide +kernel
theorem dX12_behind_21 : decode cX12_behind 21 = .ok (.iconst (-1), 1) := by decide +kernel
theorem dX12_behind_22 : decode cX12_behind 22 = .ok (.ireturn, 1) := by decide +kernel
set_option maxHeartbeats 4000000 in
set_option maxRecDepth 20000 in
theorem c_m_behind {G : Gx} {d : Nat} {x1 : Int32} {μ : Mem} {r : Int32 × Mem} (hf : f_m_behind x1 μ = some r) : Con G M_m_behind (d + 4) [.ref (gA G 111), .int x1] μ (some (.int r.1), r.2) := by
  refine Con.ofI ⟨rfl, rfl, Nat.le_of_ble_eq_true rfl⟩ rfl rfl (fun X hG hX hr dy => ?_)
  subst hG
  show AW X 0 [(0, .ref (gA (xG X) 111)), (1, .int x1)] [] μ dy
  unfold f_m_behind at hf
  refine r_aload_n hX dX12_behind_0 0 rfl ?_
  refine r_iconst hX (0 : Int32) dX12_behind_1 rfl ?_
  obtain ⟨μ1, e2, hf⟩ := bnd_eq hf
  refine r_put hX fl_X12_80 ft_X12_11 (w_111 _ _ _) rfl rfl rfl (s_111_11 _ _ _ _) e2 rfl dX12_behind_2 ?_
  refine r_aload_n hX dX12_behind_5 0 rfl ?_
  refine r_iload_n hX dX12_behind_6 1 rfl ?_
  obtain ⟨v5, μ3, h4, hf⟩ := bd2_eq hf
  refine r_callVI (Ok.le hX (by omega)) (c_m_areSome (d := d)  h4) cv_X12_193 (w_111 _ _ _) rfl rfl (st := []) rfl rfl rfl dX12_behind_7 (fun dy => ?_)
  refine r_if_eq hX 21 dX12_behind_10 rfl (fun hc6 => ?_) (fun hc6 => ?_)
  · rw [if_pos hc6] at hf
    refine r_iconst hX (-1 : Int32) dX12_behind_21 rfl ?_
    exact fin_I hf hr _ _ _ dX12_behind_22
  · rw [if_neg hc6] at hf
    refine r_aload_n hX dX12_behind_13 0 rfl ?_
    refine r_iload_n hX dX12_behind_14 1 rfl ?_
    obtain ⟨v9, μ7, h8, hf⟩ := bd2_eq hf
    refine r_callVI (Ok.le hX (by omega)) (c_m_next (d := d)  h8) cv_X12_190 (w_111 _ _ _) rfl rfl (st := []) rfl rfl rfl dX12_behind_15 (fun dy => ?_)
    refine r_goto hX 22 dX12_behind_18 rfl ?_
    exact fin_I hf hr _ _ _ dX12_behind_22
theorem dX12_findRest_0 : decode cX12_findRest 0 = .ok (.aload_n 0, 1) := by decide +kernel
theorem dX12_findRest_1 : decode cX12_findRest 1 = .ok (.dup, 1) := by decide +kernel
theorem dX12_findRest_2 : decode cX12_findRest 2 = .ok (.getfield 202, 3) := by decide +kernel
theorem dX12_findRest_5 : decode cX12_findRest 5 = .ok (.iconst 1, 1) := by decide +kernel
theorem dX12_findRest_6 : decode cX12_findRest 6 = .ok (.iadd, 1) := by decide +kernel
theorem dX12_findRest_7 : decode cX12_findRest 7 = .ok (.putfield 202, 3) := by decide +kernel
theorem dX12_findRest_10 : decode cX12_findRest 10 = .ok (.iload_n 1, 1) := by decide +kernel
theorem dX12_findRest_11 : decode cX12_findRest 11 = .ok (.istore_n 2, 1) := by decide +kernel
theorem dX12_findRest_12 : decode cX12_findRest 12 = .ok (.iconst 0, 1) := by decide +kernel
theorem dX12_findRest_13 : decode cX12_findRest 13 = .ok (.istore_n 3, 1) := by decide +kernel
theorem dX12_findRest_14 : decode cX12_findRest 14 = .ok (.aload_n 0, 1) := by decide +kernel
theorem dX12_findRest_15 : decode cX12_findRest 15 = .ok (.getfield 36, 3) := by decide +kernel
theorem dX12_findRest_18 : decode cX12_findRest 18 = .ok (.iload_n 2, 1) := by decide +kernel
theorem dX12_findRest_19 : decode cX12_findRest 19 = .ok (.iaload, 1) := by decide +kernel
theorem dX12_findRest_20 : decode cX12_findRest 20 = .ok (.aload_n 0, 1) := by decide +kernel
theorem dX12_findRest_21 : decode cX12_findRest 21 = .ok (.getfield 202, 3) := by decide +kernel
theorem dX12_findRest_24 : decode cX12_findRest 24 = .ok (.if_icmp .eq 32, 3) := by decide +kernel
theorem dX12_findRest_27 : decode cX12_findRest 27 = .ok (.aload_n 0, 1) := by decide +kernel
theorem dX12_findRest_28 : decode cX12_findRest 28 = .ok (.getfield 36, 3) := by decide +kernel
theorem dX12_findRest_31 : decode cX12_findRest 31 = .ok (.iload_n 2, 1) := by decide +kernel
theorem dX12_findRest_32 : decode cX12_findRest 32 = .ok (.aload_n 0, 1) := by decide +kernel
theorem dX12_findRest_33 : decode cX12_findRest 33 = .ok (.getfield 202, 3) := by decide +kernel
theorem dX12_findRest_36 : decode cX12_findRest 36 = .ok (.iastore, 1) := by decide +kernel
theorem dX12_findRest_37 : decode cX12_findRest 37 = .ok (.aload_n 0, 1) := by decide +kernel
theorem dX12_findRest_38 : decode cX12_findRest 38 = .ok (.getfield 33, 3) := by decide +kernel
theorem dX12_findRest_41 : decode cX12_findRest 41 = .ok (.iload_n 2, 1) := by decide +kernel
theorem dX12_findRest_42 : decode cX12_findRest 42 = .ok (.iload_n 3, 1) := by decide +kernel
theorem dX12_findRest_43 : decode cX12_findRest 43 = .ok (.iastore, 1) := by decide +kernel
theorem dX12_findRest_44 : decode cX12_findRest 44 = .ok (.iinc 3 1, 3) := by decide +kernel
theorem dX12_findRest_47 : decode cX12_findRest 47 = .ok (.aload_n 0, 1) := by decide +kernel
theorem dX12_findRest_48 : decode cX12_findRest 48 = .ok (.iload_n 2, 1) := by decide +kernel
theorem dX12_findRest_49 : decode cX12_findRest 49 = .ok (.invokevirtual 190, 3) := by decide +kernel
theorem dX12_findRest_52 : decode cX12_findRest 52 = .ok (.istore_n 2, 1) := by decide +kernel
theorem dX12_findRest_53 : decode cX12_findRest 53 = .ok (.goto (-39), 3) := by decide +kernel
theorem dX12_findRest_56 : decode cX12_findRest 56 = .ok (.aload_n 0, 1) := by decide +kernel
theorem dX12_findRest_57 : decode cX12_findRest 57 = .ok (.aload_n 0, 1) := by decide +kernel
theorem dX12_findRest_58 : decode cX12_findRest 58 = .ok (.getfield 33, 3) := by decide +kernel
theorem dX12_findRest_61 : decode cX12_findRest 61 = .ok (.iload_n 2, 1) := by decide +kernel
theorem dX12_findRest_62 : decode cX12_findRest 62 = .ok (.iaload, 1) := by decide +kernel
theorem dX12_findRest_63 : decode cX12_findRest 63 = .ok (.putfield 205, 3) := by decide +kernel
theorem dX12_findRest_66 : decode cX12_findRest 66 = .ok (.aload_n 0, 1) := by decide +kernel
theorem dX12_findRest_67 : decode cX12_findRest 67 = .ok (.iload_n 3, 1) := by decide +kernel
theorem dX12_findRest_68 : decode cX12_findRest 68 = .ok (.aload_n 0, 1) := by decide +kernel
theorem dX12_findRest_69 : decode cX12_findRest 69 = .ok (.getfield 33, 3) := by decide +kernel
theorem dX12_findRest_72 : decode cX12_findRest 72 = .ok (.iload_n 2, 1) := by decide +kernel
theorem dX12_findRest_73 : decode cX12_findRest 73 = .ok (.iaload, 1) := by decide +kernel
theorem dX12_findRest_74 : decode cX12_findRest 74 = .ok (.isub, 1) := by decide +kernel
theorem dX12_findRest_75 : decode cX12_findRest 75 = .ok (.putfield 208, 3) := by decide +kernel
theorem dX12_findRest_78 : decode cX12_findRest 78 = .ok (.aload_n 0, 1) := by decide +kernel
theorem dX12_findRest_79 : decode cX12_findRest 79 = .ok (.iload_n 2, 1) := by decide +kernel
theorem dX12_findRest_80 : decode cX12_findRest 80 = .ok (.putfield 211, 3) := by decide +kernel
theorem dX12_findRest_83 : decode cX12_findRest 83 = .ok (.return_, 1) := by decide +kernel
set_option maxHeartbeats 4000000 in
set_option maxRecDepth 20000 in
theorem b_m_findRest_b14 {X : Cx} {d : Nat} (hX : Ok M_m_findRest (d + 4) X) {r : Mem} (hr : RetV M_m_findRest X r) : ∀ (n : Nat) (x2 : Int32) (x3 : Int32) (μ : Mem) (dy : Nat → Nat), f_m_findRest_b14 n x2 x3 μ = some r → AW X 14 [(0, .ref (gA (xG X) 111)), (2, .int x2), (3, .int x3)] [] μ dy := by
  intro n
  induction n with
  | zero => intro x2 x3 μ dy hf; exact nomatch hf
  | succ n ih =>
    intro x2 x3 μ dy hf
    rw [f_m_findRest_b14] at hf
    refine r_aload_n hX dX12_findRest_14 0 rfl ?_
    refine r_get hX fl_X12_36 (w_111 _ _ _) rfl dX12_findRest_15 ?_
    refine r_iload_n hX dX12_findRest_18 1 rfl ?_
    obtain ⟨b3, hf⟩ := chk_eq hf
    refine r_iald hX (w_120 _ _ _) (inb_in b3) dX12_findRest_19 ?_
    refine r_aload_n hX dX12_findRest_20 0 rfl ?_
    refine r_get hX fl_X12_202 (w_111 _ _ _) rfl dX12_findRest_21 ?_
    refine r_icmp_eq hX 56 dX12_findRest_24 rfl (fun hc4 => ?_) (fun hc4 => ?_)
    · rw [if_pos hc4] at hf
      refine r_aload_n hX dX12_findRest_56 0 rfl ?_
      refine r_aload_n hX dX12_findRest_57 0 rfl ?_
      refine r_get hX fl_X12_33 (w_111 _ _ _) rfl dX12_findRest_58 ?_
      refine r_iload_n hX dX12_findRest_61 1 rfl ?_
      obtain ⟨b5, hf⟩ := chk_eq hf
      refine r_iald hX (w_119 _ _ _) (inb_in b5) dX12_findRest_62 ?_
      obtain ⟨μ6, e7, hf⟩ := bnd_eq hf
      refine r_put hX fl_X12_205 ft_X12_21 (w_111 _ _ _) rfl rfl rfl (s_111_21 _ _ _ _) e7 rfl dX12_findRest_63 ?_
      refine r_aload_n hX dX12_findRest_66 0 rfl ?_
      refine r_iload_n hX dX12_findRest_67 2 rfl ?_
      refine r_aload_n hX dX12_findRest_68 0 rfl ?_
      refine r_get hX fl_X12_33 (w_111 _ _ _) rfl dX12_findRest_69 ?_
      refine r_iload_n hX dX12_findRest_72 1 rfl ?_
      obtain ⟨b8, hf⟩ := chk_eq hf
      refine r_iald hX (w_119 _ _ _) (inb_in b8) dX12_findRest_73 ?_
      refine r_isub hX dX12_findRest_74 ?_
      obtain ⟨μ9, e10, hf⟩ := bnd_eq hf
      refine r_put hX fl_X12_208 ft_X12_22 (w_111 _ _ _) rfl rfl rfl (s_111_22 _ _ _ _) e10 rfl dX12_findRest_75 ?_
      refine r_aload_n hX dX12_findRest_78 0 rfl ?_
      refine r_iload_n hX dX12_findRest_79 1 rfl ?_
      obtain ⟨μ11, e12, hf⟩ := bnd_eq hf
      refine r_put hX fl_X12_211 ft_X12_23 (w_111 _ _ _) rfl rfl rfl (s_111_23 _ _ _ _) e12 rfl dX12_findRest_80 ?_
      exact fin_V hf hr _ _ _ dX12_findRest_83
    · rw [if_neg hc4] at hf
      refine r_aload_n hX dX12_findRest_27 0 rfl ?_
      refine r_get hX fl_X12_36 (w_111 _ _ _) rfl dX12_findRest_28 ?_
      refine r_iload_n hX dX12_findRest_31 1 rfl ?_
      refine r_aload_n hX dX12_findRest_32 0 rfl ?_
      refine r_get hX fl_X12_202 (w_111 _ _ _) rfl dX12_findRest_33 ?_
      obtain ⟨b13, hf⟩ := chk_eq hf
      obtain ⟨μ14, e15, hf⟩ := bnd_eq hf
      refine r_iast hX (w_120 _ _ _) (inb_in b13) (s_120 _ _ _ _ _) e15 rfl dX12_findRest_36 ?_
      refine r_aload_n hX dX12_findRest_37 0 rfl ?_
      refine r_get hX fl_X12_33 (w_111 _ _ _) rfl dX12_findRest_38 ?_
      refine r_iload_n hX dX12_findRest_41 1 rfl ?_
      refine r_iload_n hX dX12_findRest_42 2 rfl ?_
      obtain ⟨b16, hf⟩ := chk_eq hf
      obtain ⟨μ17, e18, hf⟩ := bnd_eq hf
      refine r_iast hX (w_119 _ _ _) (inb_in b16) (s_119 _ _ _ _ _) e18 rfl dX12_findRest_43 ?_
      refine r_iinc hX (x3 + (1 : Int32)) dX12_findRest_44 2 rfl rfl rfl (ls' := [(3, .int (x3 + (1 : Int32))), (0, .ref (gA (xG X) 111)), (2, .int x2)]) rfl ?_
      refine r_aload_n hX dX12_findRest_47 1 rfl ?_
      refine r_iload_n hX dX12_findRest_48 2 rfl ?_
      obtain ⟨v21, μ19, h20, hf⟩ := bd2_eq hf
      refine r_callVI (Ok.le hX (by omega)) (c_m_next (d := d)  h20) cv_X12_190 (w_111 _ _ _) rfl rfl (st := []) rfl rfl rfl dX12_findRest_49 (fun dy => ?_)
      refine r_istore_n hX dX12_findRest_52 rfl (ls' := [(2, .int v21), (3, .int (x3 + (1 : Int32))), (0, .ref (gA (xG X) 111))]) rfl ?_
      refine r_goto hX 14 dX12_findRest_53 rfl ?_
      refine r_weak [2, 0, 1] rfl ?_
      exact ih _ _ _ _ hf
set_option maxHeartbeats 4000000 in
set_option maxRecDepth 20000 in
theorem c_m_findRest {G : Gx} {d : Nat} {x1 : Int32} {μ : Mem} {r : Mem} (hf : f_m_findRest x1 μ = some r) : Con G M_m_findRest (d + 4) [.ref (gA G 111), .int x1] μ (none, r) := by
  refine Con.ofV ⟨rfl, rfl, Nat.le_of_ble_eq_true rfl⟩ rfl (fun X hG hX hr dy => ?_)
  subst hG
  show AW X 0 [(0, .ref (gA (xG X) 111)), (1, .int x1)] [] μ dy
  unfold f_m_findRest at hf
  refine r_aload_n hX dX12_findRest_0 0 rfl ?_
  refine r_dup hX dX12_findRest_1 rfl ?_
  refine r_get hX fl_X12_202 (w_111 _ _ _) rfl dX12_findRest_2 ?_
  refine r_iconst hX (1 : Int32) dX12_findRest_5 rfl ?_
  refine r_iadd hX dX12_findRest_6 ?_
  obtain ⟨μ1, e2, hf⟩ := bnd_eq hf
  refine r_put hX fl_X12_202 ft_X12_20 (w_111 _ _ _) rfl rfl rfl (s_111_20 _ _ _ _) e2 rfl dX12_findRest_7 ?_
  refine r_iload_n hX dX12_findRest_10 1 rfl ?_
  refine r_istore_n hX dX12_findRest_11 rfl (ls' := [(2, .int x1), (0, .ref (gA (xG X) 111)), (1, .int x1)]) rfl ?_
  refine r_iconst hX (0 : Int32) dX12_findRest_12 rfl ?_
  refine r_istore_n hX dX12_findRest_13 rfl (ls' := [(3, .int (0 : Int32)), (2, .int x1), (0, .ref (gA (xG X) 111)), (1, .int x1)]) rfl ?_
  refine r_weak [2, 1, 0] rfl ?_
  exact b_m_findRest_b14 hX hr FU _ _ _ _ hf
theorem dX12_rest_0 : decode cX12_rest 0 = .ok (.aload_n 0, 1) := by decide +kernel
theorem dX12_rest_1 : decode cX12_rest 1 = .ok (.iconst 0, 1) := by decide +kernel
theorem dX12_rest_2 : decode cX12_rest 2 = .ok (.putfield 80, 3) := by decide +kernel
theorem dX12_rest_5 : decode cX12_rest 5 = .ok (.aload_n 0, 1) := by decide +kernel
theorem dX12_rest_6 : decode cX12_rest 6 = .ok (.aload_n 0, 1) := by decide +kernel
theorem dX12_rest_7 : decode cX12_rest 7 = .ok (.invokevirtual 137, 3) := by decide +kernel
theorem dX12_rest_10 : decode cX12_rest 10 = .ok (.invokevirtual 214, 3) := by decide +kernel
theorem dX12_rest_13 : decode cX12_rest 13 = .ok (.aload_n 0, 1) := by decide +kernel
theorem dX12_rest_14 : decode cX12_rest 14 = .ok (.getfield 211, 3) := by decide +kernel
theorem dX12_rest_17 : decode cX12_rest 17 = .ok (.istore_n 1, 1) := by decide +kernel
theorem dX12_rest_18 : decode cX12_rest 18 = .ok (.aload_n 0, 1) := by decide +kernel
theorem dX12_rest_19 : decode cX12_rest 19 = .ok (.aload_n 0, 1) := by decide +kernel
theorem dX12_rest_20 : decode cX12_rest 20 = .ok (.getfield 211, 3) := by decide +kernel
theorem dX12_rest_23 : decode cX12_rest 23 = .ok (.invokevirtual 190, 3) := by decide +kernel
theorem dX12_rest_26 : decode cX12_rest 26 = .ok (.istore_n 2, 1) := by decide +kernel
theorem dX12_rest_27 : decode cX12_rest 27 = .ok (.iload_n 2, 1) := by decide +kernel
theorem dX12_rest_28 : decode cX12_rest 28 = .ok (.aload_n 0, 1) := by decide +kernel
theorem dX12_rest_29 : decode cX12_rest 29 = .ok (.getfield 211, 3) := by decide +kernel
theorem dX12_rest_32 : decode cX12_rest 32 = .ok (.if_icmp .eq 18, 3) := by decide +kernel
theorem dX12_rest_35 : decode cX12_rest 35 = .ok (.iload_n 1, 1) := by decide +kernel
theorem dX12_rest_36 : decode cX12_rest 36 = .ok (.iload_n 2, 1) := by decide +kernel
theorem dX12_rest_37 : decode cX12_rest 37 = .ok (.invokestatic 175, 3) := by decide +kernel
theorem dX12_rest_40 : decode cX12_rest 40 = .ok (.istore_n 1, 1) := by decide +kernel
theorem dX12_rest_41 : decode cX12_rest 41 = .ok (.aload_n 0, 1) := by decide +kernel
theorem dX12_rest_42 : decode cX12_rest 42 = .ok (.iload_n 2, 1) := by decide +kernel
theorem dX12_rest_43 : decode cX12_rest 43 = .ok (.invokevirtual 190, 3) := by decide +kernel
theorem dX12_rest_46 : decode cX12_rest 46 = .ok (.istore_n 2, 1) := by decide +kernel
theorem dX12_rest_47 : decode cX12_rest 47 = .ok (.goto (-20), 3) := by decide +kernel
theorem dX12_rest_50 : decode cX12_rest 50 = .ok (.aload_n 0, 1) := by decide +kernel
theorem dX12_rest_51 : decode cX12_rest 51 = .ok (.iconst 0, 1) := by decide +kernel
theorem dX12_rest_52 : decode cX12_rest 52 = .ok (.putfield 83, 3) := by decide +kernel
theorem dX12_rest_55 : decode cX12_rest 55 = .ok (.aload_n 0, 1) := by decide +kernel
theorem dX12_rest_56 : decode cX12_rest 56 = .ok (.aload_n 0, 1) := by decide +kernel
theorem dX12_rest_57 : decode cX12_rest 57 = .ok (.getfield 208, 3) := by decide +kernel
theorem dX12_rest_60 : decode cX12_rest 60 = .ok (.i2l, 1) := by decide +kernel
theorem dX12_rest_61 : decode cX12_rest 61 = .ok (.invokevirtual 217, 3) := by decide +kernel
theorem dX12_rest_64 : decode cX12_rest 64 = .ok (.aload_n 0, 1) := by decide +kernel
theorem dX12_rest_65 : decode cX12_rest 65 = .ok (.aload_n 0, 1) := by decide +kernel
theorem dX12_rest_66 : decode cX12_rest 66 = .ok (.getfield 211, 3) := by decide +kernel
theorem dX12_rest_69 : decode cX12_rest 69 = .ok (.i2l, 1) := by decide +kernel
theorem dX12_rest_70 : decode cX12_rest 70 = .ok (.invokevirtual 217, 3) := by decide +kernel
theorem dX12_rest_73 : decode cX12_rest 73 = .ok (.aload_n 0, 1) := by decide +kernel
theorem dX12_rest_74 : decode cX12_rest 74 = .ok (.iload_n 1, 1) := by decide +kernel
theorem dX12_rest_75 : decode cX12_rest 75 = .ok (.i2l, 1) := by decide +kernel
theorem dX12_rest_76 : decode cX12_rest 76 = .ok (.invokevirtual 217, 3) := by decide +kernel
theorem dX12_rest_79 : decode cX12_rest 79 = .ok (.aload_n 0, 1) := by decide +kernel
theorem dX12_rest_80 : decode cX12_rest 80 = .ok (.getfield 205, 3) := by decide +kernel
theorem dX12_rest_83 : decode cX12_rest 83 = .ok (.ireturn, 1) := by decide +kernel
set_option maxHeartbeats 4000000 in
set_option maxRecDepth 20000 in
theorem b_m_rest_b27 {X : Cx} {d : Nat} (hX : Ok M_m_rest (d + 5) X) {r : Int32 × Mem} (hr : RetI M_m_rest X r.1 r.2) : ∀ (n : Nat) (x1 : Int32) (x2 : Int32) (μ : Mem) (dy : Nat → Nat), f_m_rest_b27 n x1 x2 μ = some r → AW X 27 [(0, .ref (gA (xG X) 111)), (1, .int x1), (2, .int x2)] [] μ dy := by
  intro n
  induction n with
  | zero => intro x1 x2 μ dy hf; exact nomatch hf
  | succ n ih =>
    intro x1 x2 μ dy hf
    rw [f_m_rest_b27] at hf
    refine r_iload_n hX dX12_rest_27 2 rfl ?_
    refine r_aload_n hX dX12_rest_28 0 rfl ?_
    refine r_get hX fl_X12_211 (w_111 _ _ _) rfl dX12_rest_29 ?_
    refine r_icmp_eq hX 50 dX12_rest_32 rfl (fun hc11 => ?_) (fun hc11 => ?_)
    · rw [if_pos hc11] at hf
      refine r_aload_n hX dX12_rest_50 0 rfl ?_
      refine r_iconst hX (0 : Int32) dX12_rest_51 rfl ?_
      obtain ⟨μ12, e13, hf⟩ := bnd_eq hf
      refine r_put hX fl_X12_83 ft_X12_10 (w_111 _ _ _) rfl rfl rfl (s_111_10 _ _ _ _) e13 rfl dX12_rest_52 ?_
      refine r_aload_n hX dX12_rest_55 0 rfl ?_
      refine r_aload_n hX dX12_rest_56 0 rfl ?_
      refine r_get hX fl_X12_208 (w_111 _ _ _) rfl dX12_rest_57 ?_
      refine r_i2l hX dX12_rest_60 ?_
      obtain ⟨μ14, h15, hf⟩ := bd1_eq hf
      refine r_callVV (Ok.le hX (by omega)) (c_m_tell (d := d)  h15) cv_X12_217 (w_111 _ _ _) rfl rfl (st := []) rfl rfl rfl dX12_rest_61 (fun dy => ?_)
      refine r_aload_n hX dX12_rest_64 0 rfl ?_
      refine r_aload_n hX dX12_rest_65 0 rfl ?_
      refine r_get hX fl_X12_211 (w_111 _ _ _) rfl dX12_rest_66 ?_
      refine r_i2l hX dX12_rest_69 ?_
      obtain ⟨μ16, h17, hf⟩ := bd1_eq hf
      refine r_callVV (Ok.le hX (by omega)) (c_m_tell (d := d)  h17) cv_X12_217 (w_111 _ _ _) rfl rfl (st := []) rfl rfl rfl dX12_rest_70 (fun dy => ?_)
      refine r_aload_n hX dX12_rest_73 0 rfl ?_
      refine r_iload_n hX dX12_rest_74 1 rfl ?_
      refine r_i2l hX dX12_rest_75 ?_
      obtain ⟨μ18, h19, hf⟩ := bd1_eq hf
      refine r_callVV (Ok.le hX (by omega)) (c_m_tell (d := d)  h19) cv_X12_217 (w_111 _ _ _) rfl rfl (st := []) rfl rfl rfl dX12_rest_76 (fun dy => ?_)
      refine r_aload_n hX dX12_rest_79 0 rfl ?_
      refine r_get hX fl_X12_205 (w_111 _ _ _) rfl dX12_rest_80 ?_
      exact fin_I hf hr _ _ _ dX12_rest_83
    · rw [if_neg hc11] at hf
      refine r_iload_n hX dX12_rest_35 1 rfl ?_
      refine r_iload_n hX dX12_rest_36 2 rfl ?_
      refine r_min (d := d + 4) (Ok.le hX (by omega)) cs_X12_175 rfl dX12_rest_37 ?_
      refine r_istore_n hX dX12_rest_40 rfl (ls' := [(1, .int (imin x1 x2)), (0, .ref (gA (xG X) 111)), (2, .int x2)]) rfl ?_
      refine r_aload_n hX dX12_rest_41 1 rfl ?_
      refine r_iload_n hX dX12_rest_42 2 rfl ?_
      obtain ⟨v22, μ20, h21, hf⟩ := bd2_eq hf
      refine r_callVI (Ok.le hX (by omega)) (c_m_next (d := d)  h21) cv_X12_190 (w_111 _ _ _) rfl rfl (st := []) rfl rfl rfl dX12_rest_43 (fun dy => ?_)
      refine r_istore_n hX dX12_rest_46 rfl (ls' := [(2, .int v22), (1, .int (imin x1 x2)), (0, .ref (gA (xG X) 111))]) rfl ?_
      refine r_goto hX 27 dX12_rest_47 rfl ?_
      refine r_weak [2, 1, 0] rfl ?_
      exact ih _ _ _ _ hf
set_option maxHeartbeats 4000000 in
set_option maxRecDepth 20000 in
theorem c_m_rest {G : Gx} {d : Nat}  {μ : Mem} {r : Int32 × Mem} (hf : f_m_rest  μ = some r) : Con G M_m_rest (d + 5) [.ref (gA G 111)] μ (some (.int r.1), r.2) := by
  refine Con.ofI ⟨rfl, rfl, Nat.le_of_ble_eq_true rfl⟩ rfl rfl (fun X hG hX hr dy => ?_)
  subst hG
  show AW X 0 [(0, .ref (gA (xG X) 111))] [] μ dy
  unfold f_m_rest at hf
  refine r_aload_n hX dX12_rest_0 0 rfl ?_
  refine r_iconst hX (0 : Int32) dX12_rest_1 rfl ?_
  obtain ⟨μ1, e2, hf⟩ := bnd_eq hf
  refine r_put hX fl_X12_80 ft_X12_11 (w_111 _ _ _) rfl rfl rfl (s_111_11 _ _ _ _) e2 rfl dX12_rest_2 ?_
  refine r_aload_n hX dX12_rest_5 0 rfl ?_
  refine r_aload_n hX dX12_rest_6 0 rfl ?_
  obtain ⟨v5, μ3, h4, hf⟩ := bd2_eq hf
  refine r_callVI (Ok.le hX (by omega)) (c_m_now (d := d)  h4) cv_X12_137 (w_111 _ _ _) rfl rfl (st := [.ref (gA (xG X) 111)]) rfl rfl rfl dX12_rest_7 (fun dy => ?_)
  obtain ⟨μ6, h7, hf⟩ := bd1_eq hf
  refine r_callVV (Ok.le hX (by omega)) (c_m_findRest (d := d)  h7) cv_X12_214 (w_111 _ _ _) rfl rfl (st := []) rfl rfl rfl dX12_rest_10 (fun dy => ?_)
  refine r_aload_n hX dX12_rest_13 0 rfl ?_
  refine r_get hX fl_X12_211 (w_111 _ _ _) rfl dX12_rest_14 ?_
  refine r_istore_n hX dX12_rest_17 rfl (ls' := [(1, .int (μ6.1 v_m_restState 0)), (0, .ref (gA (xG X) 111))]) rfl ?_
  refine r_aload_n hX dX12_rest_18 1 rfl ?_
  refine r_aload_n hX dX12_rest_19 1 rfl ?_
  refine r_get hX fl_X12_211 (w_111 _ _ _) rfl dX12_rest_20 ?_
  obtain ⟨v10, μ8, h9, hf⟩ := bd2_eq hf
  refine r_callVI (Ok.le hX (by omega)) (c_m_next (d := d)  h9) cv_X12_190 (w_111 _ _ _) rfl rfl (st := []) rfl rfl rfl dX12_rest_23 (fun dy => ?_)
  refine r_istore_n hX dX12_rest_26 rfl (ls' := [(2, .int v10), (1, .int (μ6.1 v_m_restState 0)), (0, .ref (gA (xG X) 111))]) rfl ?_
  refine r_weak [2, 1, 0] rfl ?_
  exact b_m_rest_b27 hX hr FU _ _ _ _ hf
theorem dX12_fallOf_0 : decode cX12_fallOf 0 = .ok (.aload_n 0, 1) := by decide +kernel
theorem dX12_fallOf_1 : decode cX12_fallOf 1 = .ok (.getfield 19, 3) := by decide +kernel
theorem dX12_fallOf_4 : decode cX12_fallOf 4 = .ok (.iload_n 1, 1) := by decide +kernel
theorem dX12_fallOf_5 : decode cX12_fallOf 5 = .ok (.iaload, 1) := by decide +kernel
theorem dX12_fallOf_6 : decode cX12_fallOf 6 = .ok (.istore_n 2, 1) := by decide +kernel
theorem dX12_fallOf_7 : decode cX12_fallOf 7 = .ok (.aload_n 0, 1) := by decide +kernel
theorem dX12_fallOf_8 : decode cX12_fallOf 8 = .ok (.getfield 19, 3) := by decide +kernel
theorem dX12_fallOf_11 : decode cX12_fallOf 11 = .ok (.iload_n 1, 1) := by decide +kernel
theorem dX12_fallOf_12 : decode cX12_fallOf 12 = .ok (.iconst 1, 1) := by decide +kernel
theorem dX12_fallOf_13 : decode cX12_fallOf 13 = .ok (.isub, 1) := by decide +kernel
theorem dX12_fallOf_14 : decode cX12_fallOf 14 = .ok (.iaload, 1) := by decide +kernel
theorem dX12_fallOf_15 : decode cX12_fallOf 15 = .ok (.istore_n 3, 1) := by decide +kernel
theorem dX12_fallOf_16 : decode cX12_fallOf 16 = .ok (.lconst 0, 1) := by decide +kernel
theorem dX12_fallOf_17 : decode cX12_fallOf 17 = .ok (.lstore 4, 2) := by decide +kernel
theorem dX12_fallOf_19 : decode cX12_fallOf 19 = .ok (.iconst 0, 1) := by decide +kernel
theorem dX12_fallOf_20 : decode cX12_fallOf 20 = .ok (.istore 6, 2) := by decide +kernel
theorem dX12_fallOf_22 : decode cX12_fallOf 22 = .ok (.iload 6, 2) := by decide +kernel
theorem dX12_fallOf_24 : decode cX12_fallOf 24 = .ok (.aload_n 0, 1) := by decide +kernel
theorem dX12_fallOf_25 : decode cX12_fallOf 25 = .ok (.getfield 86, 3) := by decide +kernel
theorem dX12_fallOf_28 : decode cX12_fallOf 28 = .ok (.if_icmp .ge 139, 3) := by decide +kernel
theorem dX12_fallOf_31 : decode cX12_fallOf 31 = .ok (.iload_n 2, 1) := by decide +kernel
theorem dX12_fallOf_32 : decode cX12_fallOf 32 = .ok (.iload 6, 2) := by decide +kernel
theorem dX12_fallOf_34 : decode cX12_fallOf 34 = .ok (.invokestatic 164, 3) := by decide +kernel
theorem dX12_fallOf_37 : decode cX12_fallOf 37 = .ok (.ifCond .eq 7, 3) := by decide +kernel
theorem dX12_fallOf_40 : decode cX12_fallOf 40 = .ok (.iconst 1, 1) := by decide +kernel
theorem dX12_fallOf_41 : decode cX12_fallOf 41 = .ok (.goto 4, 3) := by decide +kernel
theorem dX12_fallOf_44 : decode cX12_fallOf 44 = .ok (.iconst 0, 1) := by decide +kernel
theorem dX12_fallOf_45 : decode cX12_fallOf 45 = .ok (.iload_n 3, 1) := by decide +kernel
theorem dX12_fallOf_46 : decode cX12_fallOf 46 = .ok (.iload 6, 2) := by decide +kernel
theorem dX12_fallOf_48 : decode cX12_fallOf 48 = .ok (.invokestatic 164, 3) := by decide +kernel
theorem dX12_fallOf_51 : decode cX12_fallOf 51 = .ok (.ifCond .eq 7, 3) := by decide +kernel
theorem dX12_fallOf_54 : decode cX12_fallOf 54 = .ok (.iconst 1, 1) := by decide +kernel
theorem dX12_fallOf_55 : decode cX12_fallOf 55 = .ok (.goto 4, 3) := by decide +kernel
theorem dX12_fallOf_58 : decode cX12_fallOf 58 = .ok (.iconst 0, 1) := by decide +kernel
theorem dX12_fallOf_59 : decode cX12_fallOf 59 = .ok (.iadd, 1) := by decide +kernel
theorem dX12_fallOf_60 : decode cX12_fallOf 60 = .ok (.istore 7, 2) := by decide +kernel
theorem dX12_fallOf_62 : decode cX12_fallOf 62 = .ok (.aload_n 0, 1) := by decide +kernel
theorem dX12_fallOf_63 : decode cX12_fallOf 63 = .ok (.iload 6, 2) := by decide +kernel
theorem dX12_fallOf_65 : decode cX12_fallOf 65 = .ok (.invokevirtual 184, 3) := by decide +kernel
theorem dX12_fallOf_68 : decode cX12_fallOf 68 = .ok (.ifCond .eq 34, 3) := by decide +kernel
theorem dX12_fallOf_71 : decode cX12_fallOf 71 = .ok (.lload 4, 2) := by decide +kernel
theorem dX12_fallOf_73 : decode cX12_fallOf 73 = .ok (.iload 7, 2) := by decide +kernel
theorem dX12_fallOf_75 : decode cX12_fallOf 75 = .ok (.i2l, 1) := by decide +kernel
theorem dX12_fallOf_76 : decode cX12_fallOf 76 = .ok (.ldc2_w 221, 3) := by decide +kernel
theorem dX12_fallOf_79 : decode cX12_fallOf 79 = .ok (.aload_n 0, 1) := by decide +kernel
theorem dX12_fallOf_80 : decode cX12_fallOf 80 = .ok (.getfield 9, 3) := by decide +kernel
theorem dX12_fallOf_83 : decode cX12_fallOf 83 = .ok (.iload 6, 2) := by decide +kernel
theorem dX12_fallOf_85 : decode cX12_fallOf 85 = .ok (.iaload, 1) := by decide +kernel
theorem dX12_fallOf_86 : decode cX12_fallOf 86 = .ok (.i2l, 1) := by decide +kernel
theorem dX12_fallOf_87 : decode cX12_fallOf 87 = .ok (.lmul, 1) := by decide +kernel
theorem dX12_fallOf_88 : decode cX12_fallOf 88 = .ok (.aload_n 0, 1) := by decide +kernel
theorem dX12_fallOf_89 : decode cX12_fallOf 89 = .ok (.iload 6, 2) := by decide +kernel
theorem dX12_fallOf_91 : decode cX12_fallOf 91 = .ok (.invokevirtual 168, 3) := by decide +kernel
theorem dX12_fallOf_94 : decode cX12_fallOf 94 = .ok (.i2l, 1) := by decide +kernel
theorem dX12_fallOf_95 : decode cX12_fallOf 95 = .ok (.lmul, 1) := by decide +kernel
theorem dX12_fallOf_96 : decode cX12_fallOf 96 = .ok (.lconst 1, 1) := by decide +kernel
theorem dX12_fallOf_97 : decode cX12_fallOf 97 = .ok (.ladd, 1) := by decide +kernel
theorem dX12_fallOf_98 : decode cX12_fallOf 98 = .ok (.lmul, 1) := by decide +kernel
theorem dX12_fallOf_99 : decode cX12_fallOf 99 = .ok (.ladd, 1) := by decide +kernel
theorem dX12_fallOf_100 : decode cX12_fallOf 100 = .ok (.lstore 4, 2) := by decide +kernel
theorem dX12_fallOf_102 : decode cX12_fallOf 102 = .ok (.iconst 0, 1) := by decide +kernel
theorem dX12_fallOf_103 : decode cX12_fallOf 103 = .ok (.istore 8, 2) := by decide +kernel
theorem dX12_fallOf_105 : decode cX12_fallOf 105 = .ok (.iload 8, 2) := by decide +kernel
theorem dX12_fallOf_107 : decode cX12_fallOf 107 = .ok (.aload_n 0, 1) := by decide +kernel
theorem dX12_fallOf_108 : decode cX12_fallOf 108 = .ok (.getfield 86, 3) := by decide +kernel
theorem dX12_fallOf_111 : decode cX12_fallOf 111 = .ok (.if_icmp .ge 50, 3) := by decide +kernel
theorem dX12_fallOf_114 : decode cX12_fallOf 114 = .ok (.iload_n 2, 1) := by decide +kernel
theorem dX12_fallOf_115 : decode cX12_fallOf 115 = .ok (.iload 6, 2) := by decide +kernel
theorem dX12_fallOf_117 : decode cX12_fallOf 117 = .ok (.invokestatic 164, 3) := by decide +kernel
theorem dX12_fallOf_120 : decode cX12_fallOf 120 = .ok (.ifCond .eq 35, 3) := by decide +kernel
theorem dX12_fallOf_123 : decode cX12_fallOf 123 = .ok (.iload_n 3, 1) := by decide +kernel
theorem dX12_fallOf_124 : decode cX12_fallOf 124 = .ok (.iload 8, 2) := by decide +kernel
theorem dX12_fallOf_126 : decode cX12_fallOf 126 = .ok (.invokestatic 164, 3) := by decide +kernel
theorem dX12_fallOf_129 : decode cX12_fallOf 129 = .ok (.ifCond .eq 26, 3) := by decide +kernel
theorem dX12_fallOf_132 : decode cX12_fallOf 132 = .ok (.lload 4, 2) := by decide +kernel
theorem dX12_fallOf_134 : decode cX12_fallOf 134 = .ok (.ldc2_w 223, 3) := by decide +kernel
theorem dX12_fallOf_137 : decode cX12_fallOf 137 = .ok (.aload_n 0, 1) := by decide +kernel
theorem dX12_fallOf_138 : decode cX12_fallOf 138 = .ok (.getfield 16, 3) := by decide +kernel
theorem dX12_fallOf_141 : decode cX12_fallOf 141 = .ok (.bipush 14, 2) := by decide +kernel
theorem dX12_fallOf_143 : decode cX12_fallOf 143 = .ok (.iload 6, 2) := by decide +kernel
theorem dX12_fallOf_145 : decode cX12_fallOf 145 = .ok (.imul, 1) := by decide +kernel
theorem dX12_fallOf_146 : decode cX12_fallOf 146 = .ok (.iload 8, 2) := by decide +kernel
theorem dX12_fallOf_148 : decode cX12_fallOf 148 = .ok (.iadd, 1) := by decide +kernel
theorem dX12_fallOf_149 : decode cX12_fallOf 149 = .ok (.iaload, 1) := by decide +kernel
theorem dX12_fallOf_150 : decode cX12_fallOf 150 = .ok (.i2l, 1) := by decide +kernel
theorem dX12_fallOf_151 : decode cX12_fallOf 151 = .ok (.lmul, 1) := by decide +kernel
theorem dX12_fallOf_152 : decode cX12_fallOf 152 = .ok (.lsub, 1) := by decide +kernel
theorem dX12_fallOf_153 : decode cX12_fallOf 153 = .ok (.lstore 4, 2) := by decide +kernel
theorem dX12_fallOf_155 : decode cX12_fallOf 155 = .ok (.iinc 8 1, 3) := by decide +kernel
theorem dX12_fallOf_158 : decode cX12_fallOf 158 = .ok (.goto (-53), 3) := by decide +kernel
theorem dX12_fallOf_161 : decode cX12_fallOf 161 = .ok (.iinc 6 1, 3) := by decide +kernel
theorem dX12_fallOf_164 : decode cX12_fallOf 164 = .ok (.goto (-142), 3) := by decide +kernel
theorem dX12_fallOf_167 : decode cX12_fallOf 167 = .ok (.lload 4, 2) := by decide +kernel
theorem dX12_fallOf_169 : decode cX12_fallOf 169 = .ok (.lreturn, 1) := by decide +kernel
set_option maxHeartbeats 4000000 in
set_option maxRecDepth 20000 in
theorem b_m_fallOf_b105 {X : Cx} {d : Nat} (hX : Ok M_m_fallOf (d + 2) X) {r : Int64 × Mem} (hr : RetL M_m_fallOf X r.1 r.2) {k22 : Int32 → Int32 → Int64 → Int32 → Mem → Option (Int64 × Mem)} (hk22 : ∀ (x2 : Int32) (x3 : Int32) (y4 : Int64) (x6 : Int32) (μ : Mem) (dy : Nat → Nat), k22 x2 x3 y4 x6 μ = some r → AW X 22 [(0, .ref (gA (xG X) 111)), (2, .int x2), (3, .int x3), (4, .long y4), (6, .int x6)] [] μ dy) : ∀ (n : Nat) (x2 : Int32) (x3 : Int32) (y4 : Int64) (x6 : Int32) (x8 : Int32) (μ : Mem) (dy : Nat → Nat), f_m_fallOf_b105 k22 n x2 x3 y4 x6 x8 μ = some r → AW X 105 [(0, .ref (gA (xG X) 111)), (2, .int x2), (3, .int x3), (4, .long y4), (6, .int x6), (8, .int x8)] [] μ dy := by
  intro n
  induction n with
  | zero => intro x2 x3 y4 x6 x8 μ dy hf; exact nomatch hf
  | succ n ih =>
    intro x2 x3 y4 x6 x8 μ dy hf
    rw [f_m_fallOf_b105] at hf
    refine r_iload hX dX12_fallOf_105 5 rfl ?_
    refine r_aload_n hX dX12_fallOf_107 0 rfl ?_
    refine r_get hX fl_X12_86 (w_111 _ _ _) rfl dX12_fallOf_108 ?_
    refine r_icmp_ge hX 161 dX12_fallOf_111 rfl (fun hc24 => ?_) (fun hc24 => ?_)
    · rw [if_pos hc24] at hf
      refine r_iinc hX (x6 + (1 : Int32)) dX12_fallOf_161 4 rfl rfl rfl (ls' := [(6, .int (x6 + (1 : Int32))), (0, .ref (gA (xG X) 111)), (2, .int x2), (3, .int x3), (4, .long y4), (8, .int x8)]) rfl ?_
      refine r_goto hX 22 dX12_fallOf_164 rfl ?_
      refine r_weak [1, 2, 3, 4, 0] rfl ?_
      exact hk22 _ _ _ _ _ _ hf
    · rw [if_neg hc24] at hf
      refine r_iload_n hX dX12_fallOf_114 1 rfl ?_
      refine r_iload hX dX12_fallOf_115 4 rfl ?_
      obtain ⟨v27, μ25, h26, hf⟩ := bd2_eq hf
      refine r_callSI (Ok.le hX (by omega)) (c_m_has (d := d)  h26) cs_X12_164 (st := []) rfl rfl rfl dX12_fallOf_117 (fun dy => ?_)
      refine r_if_eq hX 155 dX12_fallOf_120 rfl (fun hc28 => ?_) (fun hc28 => ?_)
      · rw [if_pos hc28] at hf
        refine r_iinc hX (x8 + (1 : Int32)) dX12_fallOf_155 5 rfl rfl rfl (ls' := [(8, .int (x8 + (1 : Int32))), (0, .ref (gA (xG X) 111)), (2, .int x2), (3, .int x3), (4, .long y4), (6, .int x6)]) rfl ?_
        refine r_goto hX 105 dX12_fallOf_158 rfl ?_
        refine r_weak [1, 2, 3, 4, 5, 0] rfl ?_
        exact ih _ _ _ _ _ _ _ hf
      · rw [if_neg hc28] at hf
        refine r_iload_n hX dX12_fallOf_123 2 rfl ?_
        refine r_iload hX dX12_fallOf_124 5 rfl ?_
        obtain ⟨v31, μ29, h30, hf⟩ := bd2_eq hf
        refine r_callSI (Ok.le hX (by omega)) (c_m_has (d := d)  h30) cs_X12_164 (st := []) rfl rfl rfl dX12_fallOf_126 (fun dy => ?_)
        refine r_if_eq hX 155 dX12_fallOf_129 rfl (fun hc32 => ?_) (fun hc32 => ?_)
        · rw [if_pos hc32] at hf
          refine r_iinc hX (x8 + (1 : Int32)) dX12_fallOf_155 5 rfl rfl rfl (ls' := [(8, .int (x8 + (1 : Int32))), (0, .ref (gA (xG X) 111)), (2, .int x2), (3, .int x3), (4, .long y4), (6, .int x6)]) rfl ?_
          refine r_goto hX 105 dX12_fallOf_158 rfl ?_
          refine r_weak [1, 2, 3, 4, 5, 0] rfl ?_
          exact ih _ _ _ _ _ _ _ hf
        · rw [if_neg hc32] at hf
          refine r_lload hX dX12_fallOf_132 3 rfl ?_
          refine r_ldc2 hX dX12_fallOf_134 kc_X12_223 ?_
          refine r_aload_n hX dX12_fallOf_137 0 rfl ?_
          refine r_get hX fl_X12_16 (w_111 _ _ _) rfl dX12_fallOf_138 ?_
          refine r_bipush hX (14 : Int32) dX12_fallOf_141 rfl ?_
          refine r_iload hX dX12_fallOf_143 4 rfl ?_
          refine r_imul hX dX12_fallOf_145 ?_
          refine r_iload hX dX12_fallOf_146 5 rfl ?_
          refine r_iadd hX dX12_fallOf_148 ?_
          obtain ⟨b33, hf⟩ := chk_eq hf
          refine r_iald hX (w_114 _ _ _) (inb_in b33) dX12_fallOf_149 ?_
          refine r_i2l hX dX12_fallOf_150 ?_
          refine r_lmul hX dX12_fallOf_151 ?_
          refine r_lsub hX dX12_fallOf_152 ?_
          obtain ⟨v34, e35, hf⟩ := bnd_eq hf
          refine r_topL e35 ?_
          refine r_lstore hX dX12_fallOf_153 rfl (ls' := [(4, .long v34), (0, .ref (gA (xG X) 111)), (2, .int x2), (3, .int x3), (6, .int x6), (8, .int x8)]) rfl ?_
          refine r_iinc hX (x8 + (1 : Int32)) dX12_fallOf_155 5 rfl rfl rfl (ls' := [(8, .int (x8 + (1 : Int32))), (4, .long v34), (0, .ref (gA (xG X) 111)), (2, .int x2), (3, .int x3), (6, .int x6)]) rfl ?_
          refine r_goto hX 105 dX12_fallOf_158 rfl ?_
          refine r_weak [2, 3, 4, 1, 5, 0] rfl ?_
          exact ih _ _ _ _ _ _ _ hf
set_option maxHeartbeats 4000000 in
set_option maxRecDepth 20000 in
theorem b_m_fallOf_b102 {X : Cx} {d : Nat} (hX : Ok M_m_fallOf (d + 2) X) {r : Int64 × Mem} (hr : RetL M_m_fallOf X r.1 r.2) {k22 : Int32 → Int32 → Int64 → Int32 → Mem → Option (Int64 × Mem)} (hk22 : ∀ (x2 : Int32) (x3 : Int32) (y4 : Int64) (x6 : Int32) (μ : Mem) (dy : Nat → Nat), k22 x2 x3 y4 x6 μ = some r → AW X 22 [(0, .ref (gA (xG X) 111)), (2, .int x2), (3, .int x3), (4, .long y4), (6, .int x6)] [] μ dy) (x2 : Int32) (x3 : Int32) (y4 : Int64) (x6 : Int32) (μ : Mem) (dy : Nat → Nat) (hf : f_m_fallOf_b102 k22 x2 x3 y4 x6 μ = some r) : AW X 102 [(0, .ref (gA (xG X) 111)), (2, .int x2), (3, .int x3), (4, .long y4), (6, .int x6)] [] μ dy := by
  unfold f_m_fallOf_b102 at hf
  refine r_iconst hX (0 : Int32) dX12_fallOf_102 rfl ?_
  refine r_istore hX dX12_fallOf_103 rfl (ls' := [(8, .int (0 : Int32)), (0, .ref (gA (xG X) 111)), (2, .int x2), (3, .int x3), (4, .long y4), (6, .int x6)]) rfl ?_
  refine r_weak [1, 2, 3, 4, 5, 0] rfl ?_
  exact b_m_fallOf_b105 hX hr hk22 FU _ _ _ _ _ _ _ hf
set_option maxHeartbeats 4000000 in
set_option maxRecDepth 20000 in
theorem b_m_fallOf_b22 {X : Cx} {d : Nat} (hX : Ok M_m_fallOf (d + 2) X) {r : Int64 × Mem} (hr : RetL M_m_fallOf X r.1 r.2) : ∀ (n : Nat) (x2 : Int32) (x3 : Int32) (y4 : Int64) (x6 : Int32) (μ : Mem) (dy : Nat → Nat), f_m_fallOf_b22 n x2 x3 y4 x6 μ = some r → AW X 22 [(0, .ref (gA (xG X) 111)), (2, .int x2), (3, .int x3), (4, .long y4), (6, .int x6)] [] μ dy := by
  intro n
  induction n with
  | zero => intro x2 x3 y4 x6 μ dy hf; exact nomatch hf
  | succ n ih =>
    intro x2 x3 y4 x6 μ dy hf
    rw [f_m_fallOf_b22] at hf
    refine r_iload hX dX12_fallOf_22 4 rfl ?_
    refine r_aload_n hX dX12_fallOf_24 0 rfl ?_
    refine r_get hX fl_X12_86 (w_111 _ _ _) rfl dX12_fallOf_25 ?_
    refine r_icmp_ge hX 167 dX12_fallOf_28 rfl (fun hc7 => ?_) (fun hc7 => ?_)
    · rw [if_pos hc7] at hf
      refine r_lload hX dX12_fallOf_167 3 rfl ?_
      exact fin_L hf hr _ _ _ dX12_fallOf_169
    · rw [if_neg hc7] at hf
      refine r_iload_n hX dX12_fallOf_31 1 rfl ?_
      refine r_iload hX dX12_fallOf_32 4 rfl ?_
      obtain ⟨v10, μ8, h9, hf⟩ := bd2_eq hf
      refine r_callSI (Ok.le hX (by omega)) (c_m_has (d := d)  h9) cs_X12_164 (st := []) rfl rfl rfl dX12_fallOf_34 (fun dy => ?_)
      obtain ⟨v11, e12, hf⟩ := bnd_eq hf
      have J13 : AW X 45 [(0, .ref (gA (xG X) 111)), (2, .int x2), (3, .int x3), (4, .long y4), (6, .int x6)] [.int v11] μ8 dy := by
        refine r_iload_n hX dX12_fallOf_45 2 rfl ?_
        refine r_iload hX dX12_fallOf_46 4 rfl ?_
        obtain ⟨v16, μ14, h15, hf⟩ := bd2_eq hf
        refine r_callSI (Ok.le hX (by omega)) (c_m_has (d := d)  h15) cs_X12_164 (st := [.int v11]) rfl rfl rfl dX12_fallOf_48 (fun dy => ?_)
        obtain ⟨v17, e18, hf⟩ := bnd_eq hf
        have J19 : AW X 59 [(0, .ref (gA (xG X) 111)), (2, .int x2), (3, .int x3), (4, .long y4), (6, .int x6)] [.int v17, .int v11] μ14 dy := by
          refine r_iadd hX dX12_fallOf_59 ?_
          refine r_istore hX dX12_fallOf_60 rfl (ls' := [(7, .int (v11 + v17)), (0, .ref (gA (xG X) 111)), (2, .int x2), (3, .int x3), (4, .long y4), (6, .int x6)]) rfl ?_
          refine r_aload_n hX dX12_fallOf_62 1 rfl ?_
          refine r_iload hX dX12_fallOf_63 5 rfl ?_
          obtain ⟨v22, μ20, h21, hf⟩ := bd2_eq hf
          refine r_callVI (Ok.le hX (by omega)) (c_m_isMoved (d := d)  h21) cv_X12_184 (w_111 _ _ _) rfl rfl (st := []) rfl rfl rfl dX12_fallOf_65 (fun dy => ?_)
          refine r_if_eq hX 102 dX12_fallOf_68 rfl (fun hc23 => ?_) (fun hc23 => ?_)
          · rw [if_pos hc23] at hf
            refine r_weak [1, 2, 3, 4, 5] rfl ?_
            exact b_m_fallOf_b102 hX hr ih _ _ _ _ _ _ hf
          · rw [if_neg hc23] at hf
            refine r_lload hX dX12_fallOf_71 4 rfl ?_
            refine r_iload hX dX12_fallOf_73 0 rfl ?_
            refine r_i2l hX dX12_fallOf_75 ?_
            refine r_ldc2 hX dX12_fallOf_76 kc_X12_221 ?_
            refine r_aload_n hX dX12_fallOf_79 1 rfl ?_
            refine r_get hX fl_X12_9 (w_111 _ _ _) rfl dX12_fallOf_80 ?_
            refine r_iload hX dX12_fallOf_83 5 rfl ?_
            obtain ⟨b36, hf⟩ := chk_eq hf
            refine r_iald hX (w_112 _ _ _) (inb_in b36) dX12_fallOf_85 ?_
            refine r_i2l hX dX12_fallOf_86 ?_
            refine r_lmul hX dX12_fallOf_87 ?_
            refine r_aload_n hX dX12_fallOf_88 1 rfl ?_
            refine r_iload hX dX12_fallOf_89 5 rfl ?_
            obtain ⟨v39, μ37, h38, hf⟩ := bd2_eq hf
            refine r_callVI (Ok.le hX (by omega)) (c_m_allOf (d := d)  h38) cv_X12_168 (w_111 _ _ _) rfl rfl (st := [.long ((2 : Int64) * ((μ20.1 v_m_need x6.toNatClampNeg).toInt64)), .long ((v11 + v17).toInt64), .long y4]) rfl rfl rfl dX12_fallOf_91 (fun dy => ?_)
            refine r_i2l hX dX12_fallOf_94 ?_
            refine r_lmul hX dX12_fallOf_95 ?_
            refine r_lconst hX (1 : Int64) dX12_fallOf_96 rfl ?_
            refine r_ladd hX dX12_fallOf_97 ?_
            refine r_lmul hX dX12_fallOf_98 ?_
            refine r_ladd hX dX12_fallOf_99 ?_
            obtain ⟨v40, e41, hf⟩ := bnd_eq hf
            refine r_topL e41 ?_
            refine r_lstore hX dX12_fallOf_100 rfl (ls' := [(4, .long v40), (7, .int (v11 + v17)), (0, .ref (gA (xG X) 111)), (2, .int x2), (3, .int x3), (6, .int x6)]) rfl ?_
            refine r_weak [2, 3, 4, 0, 5] rfl ?_
            exact b_m_fallOf_b102 hX hr ih _ _ _ _ _ _ hf
        refine r_if_eq hX 58 dX12_fallOf_51 rfl (fun hc42 => ?_) (fun hc42 => ?_)
        · refine r_iconst hX (0 : Int32) dX12_fallOf_58 rfl ?_
          exact r_topI (e18.trans (by rw [if_pos hc42])) J19
        · refine r_iconst hX (1 : Int32) dX12_fallOf_54 rfl ?_
          refine r_goto hX 59 dX12_fallOf_55 rfl ?_
          exact r_topI (e18.trans (by rw [if_neg hc42])) J19
      refine r_if_eq hX 44 dX12_fallOf_37 rfl (fun hc43 => ?_) (fun hc43 => ?_)
      · refine r_iconst hX (0 : Int32) dX12_fallOf_44 rfl ?_
        exact r_topI (e12.trans (by rw [if_pos hc43])) J13
      · refine r_iconst hX (1 : Int32) dX12_fallOf_40 rfl ?_
        refine r_goto hX 45 dX12_fallOf_41 rfl ?_
        exact r_topI (e12.trans (by rw [if_neg hc43])) J13
set_option maxHeartbeats 4000000 in
set_option maxRecDepth 20000 in
theorem c_m_fallOf {G : Gx} {d : Nat} {x1 : Int32} {μ : Mem} {r : Int64 × Mem} (hf : f_m_fallOf x1 μ = some r) : Con G M_m_fallOf (d + 2) [.ref (gA G 111), .int x1] μ (some (.long r.1), r.2) := by
  refine Con.ofL ⟨rfl, rfl, Nat.le_of_ble_eq_true rfl⟩ rfl (fun X hG hX hr dy => ?_)
  subst hG
  show AW X 0 [(0, .ref (gA (xG X) 111)), (1, .int x1)] [] μ dy
  unfold f_m_fallOf at hf
  refine r_aload_n hX dX12_fallOf_0 0 rfl ?_
  refine r_get hX fl_X12_19 (w_111 _ _ _) rfl dX12_fallOf_1 ?_
  refine r_iload_n hX dX12_fallOf_4 1 rfl ?_
  obtain ⟨b1, hf⟩ := chk_eq hf
  refine r_iald hX (w_115 _ _ _) (inb_in b1) dX12_fallOf_5 ?_
  obtain ⟨v2, e3, hf⟩ := bnd_eq hf
  refine r_topI e3 ?_
  refine r_istore_n hX dX12_fallOf_6 rfl (ls' := [(2, .int v2), (0, .ref (gA (xG X) 111)), (1, .int x1)]) rfl ?_
  refine r_aload_n hX dX12_fallOf_7 1 rfl ?_
  refine r_get hX fl_X12_19 (w_111 _ _ _) rfl dX12_fallOf_8 ?_
  refine r_iload_n hX dX12_fallOf_11 2 rfl ?_
  refine r_iconst hX (1 : Int32) dX12_fallOf_12 rfl ?_
  refine r_isub hX dX12_fallOf_13 ?_
  obtain ⟨b4, hf⟩ := chk_eq hf
  refine r_iald hX (w_115 _ _ _) (inb_in b4) dX12_fallOf_14 ?_
  obtain ⟨v5, e6, hf⟩ := bnd_eq hf
  refine r_topI e6 ?_
  refine r_istore_n hX dX12_fallOf_15 rfl (ls' := [(3, .int v5), (2, .int v2), (0, .ref (gA (xG X) 111)), (1, .int x1)]) rfl ?_
  refine r_lconst hX (0 : Int64) dX12_fallOf_16 rfl ?_
  refine r_lstore hX dX12_fallOf_17 rfl (ls' := [(4, .long (0 : Int64)), (3, .int v5), (2, .int v2), (0, .ref (gA (xG X) 111)), (1, .int x1)]) rfl ?_
  refine r_iconst hX (0 : Int32) dX12_fallOf_19 rfl ?_
  refine r_istore hX dX12_fallOf_20 rfl (ls' := [(6, .int (0 : Int32)), (4, .long (0 : Int64)), (3, .int v5), (2, .int v2), (0, .ref (gA (xG X) 111)), (1, .int x1)]) rfl ?_
  refine r_weak [4, 3, 2, 1, 0] rfl ?_
  exact b_m_fallOf_b22 hX hr FU _ _ _ _ _ _ hf
theorem dX12_fall_0 : decode cX12_fall 0 = .ok (.aload_n 0, 1) := by decide +kernel
theorem dX12_fall_1 : decode cX12_fall 1 = .ok (.iconst 0, 1) := by decide +kernel
theorem dX12_fall_2 : decode cX12_fall 2 = .ok (.putfield 80, 3) := by decide +kernel
theorem dX12_fall_5 : decode cX12_fall 5 = .ok (.iload_n 1, 1) := by decide +kernel
theorem dX12_fall_6 : decode cX12_fall 6 = .ok (.iconst 1, 1) := by decide +kernel
theorem dX12_fall_7 : decode cX12_fall 7 = .ok (.aload_n 0, 1) := by decide +kernel
theorem dX12_fall_8 : decode cX12_fall 8 = .ok (.getfield 97, 3) := by decide +kernel
theorem dX12_fall_11 : decode cX12_fall 11 = .ok (.invokestatic 89, 3) := by decide +kernel
theorem dX12_fall_14 : decode cX12_fall 14 = .ok (.ifCond .eq 11, 3) := by decide +kernel
theorem dX12_fall_17 : decode cX12_fall 17 = .ok (.aload_n 0, 1) := by decide +kernel
theorem dX12_fall_18 : decode cX12_fall 18 = .ok (.iload_n 1, 1) := by decide +kernel
theorem dX12_fall_19 : decode cX12_fall 19 = .ok (.invokevirtual 225, 3) := by decide +kernel
theorem dX12_fall_22 : decode cX12_fall 22 = .ok (.goto 6, 3) := by decide +kernel
theorem dX12_fall_25 : decode cX12_fall 25 = .ok (.ldc2_w 229, 3) := by decide +kernel
theorem dX12_fall_28 : decode cX12_fall 28 = .ok (.lreturn, 1) := by decide +kernel
set_option maxHeartbeats 4000000 in
set_option maxRecDepth 20000 in
theorem c_m_fall {G : Gx} {d : Nat} {x1 : Int32} {μ : Mem} {r : Int64 × Mem} (hf : f_m_fall x1 μ = some r) : Con G M_m_fall (d + 3) [.ref (gA G 111), .int x1] μ (some (.long r.1), r.2) := by
  refine Con.ofL ⟨rfl, rfl, Nat.le_of_ble_eq_true rfl⟩ rfl (fun X hG hX hr dy => ?_)
  subst hG
  show AW X 0 [(0, .ref (gA (xG X) 111)), (1, .int x1)] [] μ dy
  unfold f_m_fall at hf
  refine r_aload_n hX dX12_fall_0 0 rfl ?_
  refine r_iconst hX (0 : Int32) dX12_fall_1 rfl ?_
  obtain ⟨μ1, e2, hf⟩ := bnd_eq hf
  refine r_put hX fl_X12_80 ft_X12_11 (w_111 _ _ _) rfl rfl rfl (s_111_11 _ _ _ _) e2 rfl dX12_fall_2 ?_
  refine r_iload_n hX dX12_fall_5 1 rfl ?_
  refine r_iconst hX (1 : Int32) dX12_fall_6 rfl ?_
  refine r_aload_n hX dX12_fall_7 0 rfl ?_
  refine r_get hX fl_X12_97 (w_111 _ _ _) rfl dX12_fall_8 ?_
  obtain ⟨v5, μ3, h4, hf⟩ := bd2_eq hf
  refine r_callSI (Ok.le hX (by omega)) (c_m_in (d := d)  h4) cs_X12_89 (st := []) rfl rfl rfl dX12_fall_11 (fun dy => ?_)
  refine r_if_eq hX 25 dX12_fall_14 rfl (fun hc6 => ?_) (fun hc6 => ?_)
  · rw [if_pos hc6] at hf
    refine r_ldc2 hX dX12_fall_25 kc_X12_229 ?_
    exact fin_L hf hr _ _ _ dX12_fall_28
  · rw [if_neg hc6] at hf
    refine r_aload_n hX dX12_fall_17 0 rfl ?_
    refine r_iload_n hX dX12_fall_18 1 rfl ?_
    obtain ⟨v9, μ7, h8, hf⟩ := bd2_eq hf
    refine r_callVL (Ok.le hX (by omega)) (c_m_fallOf (d := d)  h8) cv_X12_225 (w_111 _ _ _) rfl rfl (st := []) rfl rfl rfl dX12_fall_19 (fun dy => ?_)
    refine r_goto hX 28 dX12_fall_22 rfl ?_
    exact fin_L hf hr _ _ _ dX12_fall_28
theorem dX12_falls_0 : decode cX12_falls 0 = .ok (.aload_n 0, 1) := by decide +kernel
theorem dX12_falls_1 : decode cX12_falls 1 = .ok (.iconst 0, 1) := by decide +kernel
theorem dX12_falls_2 : decode cX12_falls 2 = .ok (.putfield 80, 3) := by decide +kernel
theorem dX12_falls_5 : decode cX12_falls 5 = .ok (.iconst (-1), 1) := by decide +kernel
theorem dX12_falls_6 : decode cX12_falls 6 = .ok (.istore_n 1, 1) := by decide +kernel
theorem dX12_falls_7 : decode cX12_falls 7 = .ok (.iconst (-1), 1) := by decide +kernel
theorem dX12_falls_8 : decode cX12_falls 8 = .ok (.istore_n 2, 1) := by decide +kernel
theorem dX12_falls_9 : decode cX12_falls 9 = .ok (.aload_n 0, 1) := by decide +kernel
theorem dX12_falls_10 : decode cX12_falls 10 = .ok (.getfield 97, 3) := by decide +kernel
theorem dX12_falls_13 : decode cX12_falls 13 = .ok (.istore_n 3, 1) := by decide +kernel
theorem dX12_falls_14 : decode cX12_falls 14 = .ok (.iload_n 3, 1) := by decide +kernel
theorem dX12_falls_15 : decode cX12_falls 15 = .ok (.iconst 1, 1) := by decide +kernel
theorem dX12_falls_16 : decode cX12_falls 16 = .ok (.if_icmp .le 53, 3) := by decide +kernel
theorem dX12_falls_19 : decode cX12_falls 19 = .ok (.aload_n 0, 1) := by decide +kernel
theorem dX12_falls_20 : decode cX12_falls 20 = .ok (.iload_n 3, 1) := by decide +kernel
theorem dX12_falls_21 : decode cX12_falls 21 = .ok (.invokevirtual 225, 3) := by decide +kernel
theorem dX12_falls_24 : decode cX12_falls 24 = .ok (.aload_n 0, 1) := by decide +kernel
theorem dX12_falls_25 : decode cX12_falls 25 = .ok (.iload_n 3, 1) := by decide +kernel
theorem dX12_falls_26 : decode cX12_falls 26 = .ok (.iconst 1, 1) := by decide +kernel
theorem dX12_falls_27 : decode cX12_falls 27 = .ok (.isub, 1) := by decide +kernel
theorem dX12_falls_28 : decode cX12_falls 28 = .ok (.invokevirtual 225, 3) := by decide +kernel
theorem dX12_falls_31 : decode cX12_falls 31 = .ok (.lcmp, 1) := by decide +kernel
theorem dX12_falls_32 : decode cX12_falls 32 = .ok (.ifCond .lt 7, 3) := by decide +kernel
theorem dX12_falls_35 : decode cX12_falls 35 = .ok (.iload_n 3, 1) := by decide +kernel
theorem dX12_falls_36 : decode cX12_falls 36 = .ok (.goto 4, 3) := by decide +kernel
theorem dX12_falls_39 : decode cX12_falls 39 = .ok (.iload_n 1, 1) := by decide +kernel
theorem dX12_falls_40 : decode cX12_falls 40 = .ok (.istore_n 1, 1) := by decide +kernel
theorem dX12_falls_41 : decode cX12_falls 41 = .ok (.aload_n 0, 1) := by decide +kernel
theorem dX12_falls_42 : decode cX12_falls 42 = .ok (.iload_n 3, 1) := by decide +kernel
theorem dX12_falls_43 : decode cX12_falls 43 = .ok (.invokevirtual 225, 3) := by decide +kernel
theorem dX12_falls_46 : decode cX12_falls 46 = .ok (.aload_n 0, 1) := by decide +kernel
theorem dX12_falls_47 : decode cX12_falls 47 = .ok (.iload_n 3, 1) := by decide +kernel
theorem dX12_falls_48 : decode cX12_falls 48 = .ok (.iconst 1, 1) := by decide +kernel
theorem dX12_falls_49 : decode cX12_falls 49 = .ok (.isub, 1) := by decide +kernel
theorem dX12_falls_50 : decode cX12_falls 50 = .ok (.invokevirtual 225, 3) := by decide +kernel
theorem dX12_falls_53 : decode cX12_falls 53 = .ok (.lcmp, 1) := by decide +kernel
theorem dX12_falls_54 : decode cX12_falls 54 = .ok (.ifCond .le 7, 3) := by decide +kernel
theorem dX12_falls_57 : decode cX12_falls 57 = .ok (.iload_n 3, 1) := by decide +kernel
theorem dX12_falls_58 : decode cX12_falls 58 = .ok (.goto 4, 3) := by decide +kernel
theorem dX12_falls_61 : decode cX12_falls 61 = .ok (.iload_n 2, 1) := by decide +kernel
theorem dX12_falls_62 : decode cX12_falls 62 = .ok (.istore_n 2, 1) := by decide +kernel
theorem dX12_falls_63 : decode cX12_falls 63 = .ok (.iinc 3 (-1), 3) := by decide +kernel
theorem dX12_falls_66 : decode cX12_falls 66 = .ok (.goto (-52), 3) := by decide +kernel
theorem dX12_falls_69 : decode cX12_falls 69 = .ok (.aload_n 0, 1) := by decide +kernel
theorem dX12_falls_70 : decode cX12_falls 70 = .ok (.iconst 0, 1) := by decide +kernel
theorem dX12_falls_71 : decode cX12_falls 71 = .ok (.putfield 83, 3) := by decide +kernel
theorem dX12_falls_74 : decode cX12_falls 74 = .ok (.aload_n 0, 1) := by decide +kernel
theorem dX12_falls_75 : decode cX12_falls 75 = .ok (.iload_n 1, 1) := by decide +kernel
theorem dX12_falls_76 : decode cX12_falls 76 = .ok (.i2l, 1) := by decide +kernel
theorem dX12_falls_77 : decode cX12_falls 77 = .ok (.invokevirtual 217, 3) := by decide +kernel
theorem dX12_falls_80 : decode cX12_falls 80 = .ok (.aload_n 0, 1) := by decide +kernel
theorem dX12_falls_81 : decode cX12_falls 81 = .ok (.iload_n 2, 1) := by decide +kernel
theorem dX12_falls_82 : decode cX12_falls 82 = .ok (.i2l, 1) := by decide +kernel
theorem dX12_falls_83 : decode cX12_falls 83 = .ok (.invokevirtual 217, 3) := by decide +kernel
theorem dX12_falls_86 : decode cX12_falls 86 = .ok (.aload_n 0, 1) := by decide +kernel
theorem dX12_falls_87 : decode cX12_falls 87 = .ok (.getfield 97, 3) := by decide +kernel
theorem dX12_falls_90 : decode cX12_falls 90 = .ok (.iconst 2, 1) := by decide +kernel
theorem dX12_falls_91 : decode cX12_falls 91 = .ok (.if_icmp .ge 7, 3) := by decide +kernel
theorem dX12_falls_94 : decode cX12_falls 94 = .ok (.lconst 0, 1) := by decide +kernel
theorem dX12_falls_95 : decode cX12_falls 95 = .ok (.goto 17, 3) := by decide +kernel
theorem dX12_falls_98 : decode cX12_falls 98 = .ok (.aload_n 0, 1) := by decide +kernel
theorem dX12_falls_99 : decode cX12_falls 99 = .ok (.iconst 1, 1) := by decide +kernel
theorem dX12_falls_100 : decode cX12_falls 100 = .ok (.invokevirtual 225, 3) := by decide +kernel
theorem dX12_falls_103 : decode cX12_falls 103 = .ok (.aload_n 0, 1) := by decide +kernel
theorem dX12_falls_104 : decode cX12_falls 104 = .ok (.aload_n 0, 1) := by decide +kernel
theorem dX12_falls_105 : decode cX12_falls 105 = .ok (.getfield 97, 3) := by decide +kernel
theorem dX12_falls_108 : decode cX12_falls 108 = .ok (.invokevirtual 225, 3) := by decide +kernel
theorem dX12_falls_111 : decode cX12_falls 111 = .ok (.lsub, 1) := by decide +kernel
theorem dX12_falls_112 : decode cX12_falls 112 = .ok (.lreturn, 1) := by decide +kernel
set_option maxHeartbeats 4000000 in
set_option maxRecDepth 20000 in
theorem b_m_falls_b14 {X : Cx} {d : Nat} (hX : Ok M_m_falls (d + 3) X) {r : Int64 × Mem} (hr : RetL M_m_falls X r.1 r.2) : ∀ (n : Nat) (x1 : Int32) (x2 : Int32) (x3 : Int32) (μ : Mem) (dy : Nat → Nat), f_m_falls_b14 n x1 x2 x3 μ = some r → AW X 14 [(0, .ref (gA (xG X) 111)), (1, .int x1), (2, .int x2), (3, .int x3)] [] μ dy := by
  intro n
  induction n with
  | zero => intro x1 x2 x3 μ dy hf; exact nomatch hf
  | succ n ih =>
    intro x1 x2 x3 μ dy hf
    rw [f_m_falls_b14] at hf
    refine r_iload_n hX dX12_falls_14 3 rfl ?_
    refine r_iconst hX (1 : Int32) dX12_falls_15 rfl ?_
    refine r_icmp_le hX 69 dX12_falls_16 rfl (fun hc3 => ?_) (fun hc3 => ?_)
    · rw [if_pos hc3] at hf
      refine r_aload_n hX dX12_falls_69 0 rfl ?_
      refine r_iconst hX (0 : Int32) dX12_falls_70 rfl ?_
      obtain ⟨μ4, e5, hf⟩ := bnd_eq hf
      refine r_put hX fl_X12_83 ft_X12_10 (w_111 _ _ _) rfl rfl rfl (s_111_10 _ _ _ _) e5 rfl dX12_falls_71 ?_
      refine r_aload_n hX dX12_falls_74 0 rfl ?_
      refine r_iload_n hX dX12_falls_75 1 rfl ?_
      refine r_i2l hX dX12_falls_76 ?_
      obtain ⟨μ6, h7, hf⟩ := bd1_eq hf
      refine r_callVV (Ok.le hX (by omega)) (c_m_tell (d := d)  h7) cv_X12_217 (w_111 _ _ _) rfl rfl (st := []) rfl rfl rfl dX12_falls_77 (fun dy => ?_)
      refine r_aload_n hX dX12_falls_80 0 rfl ?_
      refine r_iload_n hX dX12_falls_81 2 rfl ?_
      refine r_i2l hX dX12_falls_82 ?_
      obtain ⟨μ8, h9, hf⟩ := bd1_eq hf
      refine r_callVV (Ok.le hX (by omega)) (c_m_tell (d := d)  h9) cv_X12_217 (w_111 _ _ _) rfl rfl (st := []) rfl rfl rfl dX12_falls_83 (fun dy => ?_)
      refine r_aload_n hX dX12_falls_86 0 rfl ?_
      refine r_get hX fl_X12_97 (w_111 _ _ _) rfl dX12_falls_87 ?_
      refine r_iconst hX (2 : Int32) dX12_falls_90 rfl ?_
      refine r_icmp_ge hX 98 dX12_falls_91 rfl (fun hc10 => ?_) (fun hc10 => ?_)
      · rw [if_pos hc10] at hf
        refine r_aload_n hX dX12_falls_98 0 rfl ?_
        refine r_iconst hX (1 : Int32) dX12_falls_99 rfl ?_
        obtain ⟨v13, μ11, h12, hf⟩ := bd2_eq hf
        refine r_callVL (Ok.le hX (by omega)) (c_m_fallOf (d := d)  h12) cv_X12_225 (w_111 _ _ _) rfl rfl (st := []) rfl rfl rfl dX12_falls_100 (fun dy => ?_)
        refine r_aload_n hX dX12_falls_103 0 rfl ?_
        refine r_aload_n hX dX12_falls_104 0 rfl ?_
        refine r_get hX fl_X12_97 (w_111 _ _ _) rfl dX12_falls_105 ?_
        obtain ⟨v16, μ14, h15, hf⟩ := bd2_eq hf
        refine r_callVL (Ok.le hX (by omega)) (c_m_fallOf (d := d)  h15) cv_X12_225 (w_111 _ _ _) rfl rfl (st := [.long v13]) rfl rfl rfl dX12_falls_108 (fun dy => ?_)
        refine r_lsub hX dX12_falls_111 ?_
        exact fin_L hf hr _ _ _ dX12_falls_112
      · rw [if_neg hc10] at hf
        refine r_lconst hX (0 : Int64) dX12_falls_94 rfl ?_
        refine r_goto hX 112 dX12_falls_95 rfl ?_
        exact fin_L hf hr _ _ _ dX12_falls_112
    · rw [if_neg hc3] at hf
      refine r_aload_n hX dX12_falls_19 0 rfl ?_
      refine r_iload_n hX dX12_falls_20 3 rfl ?_
      obtain ⟨v19, μ17, h18, hf⟩ := bd2_eq hf
      refine r_callVL (Ok.le hX (by omega)) (c_m_fallOf (d := d)  h18) cv_X12_225 (w_111 _ _ _) rfl rfl (st := []) rfl rfl rfl dX12_falls_21 (fun dy => ?_)
      refine r_aload_n hX dX12_falls_24 0 rfl ?_
      refine r_iload_n hX dX12_falls_25 3 rfl ?_
      refine r_iconst hX (1 : Int32) dX12_falls_26 rfl ?_
      refine r_isub hX dX12_falls_27 ?_
      obtain ⟨v22, μ20, h21, hf⟩ := bd2_eq hf
      refine r_callVL (Ok.le hX (by omega)) (c_m_fallOf (d := d)  h21) cv_X12_225 (w_111 _ _ _) rfl rfl (st := [.long v19]) rfl rfl rfl dX12_falls_28 (fun dy => ?_)
      refine r_lcmp hX dX12_falls_31 ?_
      obtain ⟨v23, e24, hf⟩ := bnd_eq hf
      have J25 : AW X 40 [(0, .ref (gA (xG X) 111)), (1, .int x1), (2, .int x2), (3, .int x3)] [.int v23] μ20 dy := by
        refine r_istore_n hX dX12_falls_40 rfl (ls' := [(1, .int v23), (0, .ref (gA (xG X) 111)), (2, .int x2), (3, .int x3)]) rfl ?_
        refine r_aload_n hX dX12_falls_41 1 rfl ?_
        refine r_iload_n hX dX12_falls_42 3 rfl ?_
        obtain ⟨v28, μ26, h27, hf⟩ := bd2_eq hf
        refine r_callVL (Ok.le hX (by omega)) (c_m_fallOf (d := d)  h27) cv_X12_225 (w_111 _ _ _) rfl rfl (st := []) rfl rfl rfl dX12_falls_43 (fun dy => ?_)
        refine r_aload_n hX dX12_falls_46 1 rfl ?_
        refine r_iload_n hX dX12_falls_47 3 rfl ?_
        refine r_iconst hX (1 : Int32) dX12_falls_48 rfl ?_
        refine r_isub hX dX12_falls_49 ?_
        obtain ⟨v31, μ29, h30, hf⟩ := bd2_eq hf
        refine r_callVL (Ok.le hX (by omega)) (c_m_fallOf (d := d)  h30) cv_X12_225 (w_111 _ _ _) rfl rfl (st := [.long v28]) rfl rfl rfl dX12_falls_50 (fun dy => ?_)
        refine r_lcmp hX dX12_falls_53 ?_
        obtain ⟨v32, e33, hf⟩ := bnd_eq hf
        have J34 : AW X 62 [(1, .int v23), (0, .ref (gA (xG X) 111)), (2, .int x2), (3, .int x3)] [.int v32] μ29 dy := by
          refine r_istore_n hX dX12_falls_62 rfl (ls' := [(2, .int v32), (1, .int v23), (0, .ref (gA (xG X) 111)), (3, .int x3)]) rfl ?_
          refine r_iinc hX (x3 + (-1 : Int32)) dX12_falls_63 3 rfl rfl rfl (ls' := [(3, .int (x3 + (-1 : Int32))), (2, .int v32), (1, .int v23), (0, .ref (gA (xG X) 111))]) rfl ?_
          refine r_goto hX 14 dX12_falls_66 rfl ?_
          refine r_weak [3, 2, 1, 0] rfl ?_
          exact ih _ _ _ _ _ hf
        refine r_if_le hX 61 dX12_falls_54 rfl (fun hc35 => ?_) (fun hc35 => ?_)
        · refine r_iload_n hX dX12_falls_61 2 rfl ?_
          exact r_topI (e33.trans (by rw [if_pos hc35])) J34
        · refine r_iload_n hX dX12_falls_57 3 rfl ?_
          refine r_goto hX 62 dX12_falls_58 rfl ?_
          exact r_topI (e33.trans (by rw [if_neg hc35])) J34
      refine r_if_lt hX 39 dX12_falls_32 rfl (fun hc36 => ?_) (fun hc36 => ?_)
      · refine r_iload_n hX dX12_falls_39 1 rfl ?_
        exact r_topI (e24.trans (by rw [if_pos hc36])) J25
      · refine r_iload_n hX dX12_falls_35 3 rfl ?_
        refine r_goto hX 40 dX12_falls_36 rfl ?_
        exact r_topI (e24.trans (by rw [if_neg hc36])) J25
set_option maxHeartbeats 4000000 in
set_option maxRecDepth 20000 in
theorem c_m_falls {G : Gx} {d : Nat}  {μ : Mem} {r : Int64 × Mem} (hf : f_m_falls  μ = some r) : Con G M_m_falls (d + 3) [.ref (gA G 111)] μ (some (.long r.1), r.2) := by
  refine Con.ofL ⟨rfl, rfl, Nat.le_of_ble_eq_true rfl⟩ rfl (fun X hG hX hr dy => ?_)
  subst hG
  show AW X 0 [(0, .ref (gA (xG X) 111))] [] μ dy
  unfold f_m_falls at hf
  refine r_aload_n hX dX12_falls_0 0 rfl ?_
  refine r_iconst hX (0 : Int32) dX12_falls_1 rfl ?_
  obtain ⟨μ1, e2, hf⟩ := bnd_eq hf
  refine r_put hX fl_X12_80 ft_X12_11 (w_111 _ _ _) rfl rfl rfl (s_111_11 _ _ _ _) e2 rfl dX12_falls_2 ?_
  refine r_iconst hX (-1 : Int32) dX12_falls_5 rfl ?_
  refine r_istore_n hX dX12_falls_6 rfl (ls' := [(1, .int (-1 : Int32)), (0, .ref (gA (xG X) 111))]) rfl ?_
  refine r_iconst hX (-1 : Int32) dX12_falls_7 rfl ?_
  refine r_istore_n hX dX12_falls_8 rfl (ls' := [(2, .int (-1 : Int32)), (1, .int (-1 : Int32)), (0, .ref (gA (xG X) 111))]) rfl ?_
  refine r_aload_n hX dX12_falls_9 2 rfl ?_
  refine r_get hX fl_X12_97 (w_111 _ _ _) rfl dX12_falls_10 ?_
  refine r_istore_n hX dX12_falls_13 rfl (ls' := [(3, .int (μ1.1 v_m_days 0)), (2, .int (-1 : Int32)), (1, .int (-1 : Int32)), (0, .ref (gA (xG X) 111))]) rfl ?_
  refine r_weak [3, 2, 1, 0] rfl ?_
  exact b_m_falls_b14 hX hr FU _ _ _ _ _ hf
theorem dX12_swings_0 : decode cX12_swings 0 = .ok (.aload_n 0, 1) := by decide +kernel
theorem dX12_swings_1 : decode cX12_swings 1 = .ok (.iconst 0, 1) := by decide +kernel
theorem dX12_swings_2 : decode cX12_swings 2 = .ok (.putfield 80, 3) := by decide +kernel
theorem dX12_swings_5 : decode cX12_swings 5 = .ok (.aload_n 0, 1) := by decide +kernel
theorem dX12_swings_6 : decode cX12_swings 6 = .ok (.aload_n 0, 1) := by decide +kernel
theorem dX12_swings_7 : decode cX12_swings 7 = .ok (.invokevirtual 137, 3) := by decide +kernel
theorem dX12_swings_10 : decode cX12_swings 10 = .ok (.invokevirtual 214, 3) := by decide +kernel
theorem dX12_swings_13 : decode cX12_swings 13 = .ok (.aload_n 0, 1) := by decide +kernel
theorem dX12_swings_14 : decode cX12_swings 14 = .ok (.getfield 211, 3) := by decide +kernel
theorem dX12_swings_17 : decode cX12_swings 17 = .ok (.istore_n 1, 1) := by decide +kernel
theorem dX12_swings_18 : decode cX12_swings 18 = .ok (.aload_n 0, 1) := by decide +kernel
theorem dX12_swings_19 : decode cX12_swings 19 = .ok (.getfield 211, 3) := by decide +kernel
theorem dX12_swings_22 : decode cX12_swings 22 = .ok (.istore_n 2, 1) := by decide +kernel
theorem dX12_swings_23 : decode cX12_swings 23 = .ok (.aload_n 0, 1) := by decide +kernel
theorem dX12_swings_24 : decode cX12_swings 24 = .ok (.aload_n 0, 1) := by decide +kernel
theorem dX12_swings_25 : decode cX12_swings 25 = .ok (.getfield 211, 3) := by decide +kernel
theorem dX12_swings_28 : decode cX12_swings 28 = .ok (.invokevirtual 190, 3) := by decide +kernel
theorem dX12_swings_31 : decode cX12_swings 31 = .ok (.istore_n 3, 1) := by decide +kernel
theorem dX12_swings_32 : decode cX12_swings 32 = .ok (.iload_n 3, 1) := by decide +kernel
theorem dX12_swings_33 : decode cX12_swings 33 = .ok (.aload_n 0, 1) := by decide +kernel
theorem dX12_swings_34 : decode cX12_swings 34 = .ok (.getfield 211, 3) := by decide +kernel
theorem dX12_swings_37 : decode cX12_swings 37 = .ok (.if_icmp .eq 20, 3) := by decide +kernel
theorem dX12_swings_40 : decode cX12_swings 40 = .ok (.iload_n 1, 1) := by decide +kernel
theorem dX12_swings_41 : decode cX12_swings 41 = .ok (.iload_n 3, 1) := by decide +kernel
theorem dX12_swings_42 : decode cX12_swings 42 = .ok (.ior, 1) := by decide +kernel
theorem dX12_swings_43 : decode cX12_swings 43 = .ok (.istore_n 1, 1) := by decide +kernel
theorem dX12_swings_44 : decode cX12_swings 44 = .ok (.iload_n 2, 1) := by decide +kernel
theorem dX12_swings_45 : decode cX12_swings 45 = .ok (.iload_n 3, 1) := by decide +kernel
theorem dX12_swings_46 : decode cX12_swings 46 = .ok (.iand, 1) := by decide +kernel
theorem dX12_swings_47 : decode cX12_swings 47 = .ok (.istore_n 2, 1) := by decide +kernel
theorem dX12_swings_48 : decode cX12_swings 48 = .ok (.aload_n 0, 1) := by decide +kernel
theorem dX12_swings_49 : decode cX12_swings 49 = .ok (.iload_n 3, 1) := by decide +kernel
theorem dX12_swings_50 : decode cX12_swings 50 = .ok (.invokevirtual 190, 3) := by decide +kernel
theorem dX12_swings_53 : decode cX12_swings 53 = .ok (.istore_n 3, 1) := by decide +kernel
theorem dX12_swings_54 : decode cX12_swings 54 = .ok (.goto (-22), 3) := by decide +kernel
theorem dX12_swings_57 : decode cX12_swings 57 = .ok (.aload_n 0, 1) := by decide +kernel
theorem dX12_swings_58 : decode cX12_swings 58 = .ok (.iconst 0, 1) := by decide +kernel
theorem dX12_swings_59 : decode cX12_swings 59 = .ok (.putfield 83, 3) := by decide +kernel
theorem dX12_swings_62 : decode cX12_swings 62 = .ok (.aload_n 0, 1) := by decide +kernel
theorem dX12_swings_63 : decode cX12_swings 63 = .ok (.iload_n 2, 1) := by decide +kernel
theorem dX12_swings_64 : decode cX12_swings 64 = .ok (.i2l, 1) := by decide +kernel
theorem dX12_swings_65 : decode cX12_swings 65 = .ok (.invokevirtual 217, 3) := by decide +kernel
theorem dX12_swings_68 : decode cX12_swings 68 = .ok (.iload_n 1, 1) := by decide +kernel
theorem dX12_swings_69 : decode cX12_swings 69 = .ok (.iload_n 2, 1) := by decide +kernel
theorem dX12_swings_70 : decode cX12_swings 70 = .ok (.iconst (-1), 1) := by decide +kernel
theorem dX12_swings_71 : decode cX12_swings 71 = .ok (.ixor, 1) := by decide +kernel
theorem dX12_swings_72 : decode cX12_swings 72 = .ok (.iand, 1) := by decide +kernel
theorem dX12_swings_73 : decode cX12_swings 73 = .ok (.ireturn, 1) := by decide +kernel
set_option maxHeartbeats 4000000 in
set_option maxRecDepth 20000 in
theorem b_m_swings_b32 {X : Cx} {d : Nat} (hX : Ok M_m_swings (d + 5) X) {r : Int32 × Mem} (hr : RetI M_m_swings X r.1 r.2) : ∀ (n : Nat) (x1 : Int32) (x2 : Int32) (x3 : Int32) (μ : Mem) (dy : Nat → Nat), f_m_swings_b32 n x1 x2 x3 μ = some r → AW X 32 [(0, .ref (gA (xG X) 111)), (1, .int x1), (2, .int x2), (3, .int x3)] [] μ dy := by
  intro n
  induction n with
  | zero => intro x1 x2 x3 μ dy hf; exact nomatch hf
  | succ n ih =>
    intro x1 x2 x3 μ dy hf
    rw [f_m_swings_b32] at hf
    refine r_iload_n hX dX12_swings_32 3 rfl ?_
    refine r_aload_n hX dX12_swings_33 0 rfl ?_
    refine r_get hX fl_X12_211 (w_111 _ _ _) rfl dX12_swings_34 ?_
    refine r_icmp_eq hX 57 dX12_swings_37 rfl (fun hc11 => ?_) (fun hc11 => ?_)
    · rw [if_pos hc11] at hf
      refine r_aload_n hX dX12_swings_57 0 rfl ?_
      refine r_iconst hX (0 : Int32) dX12_swings_58 rfl ?_
      obtain ⟨μ12, e13, hf⟩ := bnd_eq hf
      refine r_put hX fl_X12_83 ft_X12_10 (w_111 _ _ _) rfl rfl rfl (s_111_10 _ _ _ _) e13 rfl dX12_swings_59 ?_
      refine r_aload_n hX dX12_swings_62 0 rfl ?_
      refine r_iload_n hX dX12_swings_63 2 rfl ?_
      refine r_i2l hX dX12_swings_64 ?_
      obtain ⟨μ14, h15, hf⟩ := bd1_eq hf
      refine r_callVV (Ok.le hX (by omega)) (c_m_tell (d := d)  h15) cv_X12_217 (w_111 _ _ _) rfl rfl (st := []) rfl rfl rfl dX12_swings_65 (fun dy => ?_)
      refine r_iload_n hX dX12_swings_68 1 rfl ?_
      refine r_iload_n hX dX12_swings_69 2 rfl ?_
      refine r_iconst hX (-1 : Int32) dX12_swings_70 rfl ?_
      refine r_ixor hX dX12_swings_71 ?_
      refine r_iand hX dX12_swings_72 ?_
      exact fin_I hf hr _ _ _ dX12_swings_73
    · rw [if_neg hc11] at hf
      refine r_iload_n hX dX12_swings_40 1 rfl ?_
      refine r_iload_n hX dX12_swings_41 3 rfl ?_
      refine r_ior hX dX12_swings_42 ?_
      refine r_istore_n hX dX12_swings_43 rfl (ls' := [(1, .int (x1 ||| x3)), (0, .ref (gA (xG X) 111)), (2, .int x2), (3, .int x3)]) rfl ?_
      refine r_iload_n hX dX12_swings_44 2 rfl ?_
      refine r_iload_n hX dX12_swings_45 3 rfl ?_
      refine r_iand hX dX12_swings_46 ?_
      refine r_istore_n hX dX12_swings_47 rfl (ls' := [(2, .int (x2 &&& x3)), (1, .int (x1 ||| x3)), (0, .ref (gA (xG X) 111)), (3, .int x3)]) rfl ?_
      refine r_aload_n hX dX12_swings_48 2 rfl ?_
      refine r_iload_n hX dX12_swings_49 3 rfl ?_
      obtain ⟨v18, μ16, h17, hf⟩ := bd2_eq hf
      refine r_callVI (Ok.le hX (by omega)) (c_m_next (d := d)  h17) cv_X12_190 (w_111 _ _ _) rfl rfl (st := []) rfl rfl rfl dX12_swings_50 (fun dy => ?_)
      refine r_istore_n hX dX12_swings_53 rfl (ls' := [(3, .int v18), (2, .int (x2 &&& x3)), (1, .int (x1 ||| x3)), (0, .ref (gA (xG X) 111))]) rfl ?_
      refine r_goto hX 32 dX12_swings_54 rfl ?_
      refine r_weak [3, 2, 1, 0] rfl ?_
      exact ih _ _ _ _ _ hf
set_option maxHeartbeats 4000000 in
set_option maxRecDepth 20000 in
theorem c_m_swings {G : Gx} {d : Nat}  {μ : Mem} {r : Int32 × Mem} (hf : f_m_swings  μ = some r) : Con G M_m_swings (d + 5) [.ref (gA G 111)] μ (some (.int r.1), r.2) := by
  refine Con.ofI ⟨rfl, rfl, Nat.le_of_ble_eq_true rfl⟩ rfl rfl (fun X hG hX hr dy => ?_)
  subst hG
  show AW X 0 [(0, .ref (gA (xG X) 111))] [] μ dy
  unfold f_m_swings at hf
  refine r_aload_n hX dX12_swings_0 0 rfl ?_
  refine r_iconst hX (0 : Int32) dX12_swings_1 rfl ?_
  obtain ⟨μ1, e2, hf⟩ := bnd_eq hf
  refine r_put hX fl_X12_80 ft_X12_11 (w_111 _ _ _) rfl rfl rfl (s_111_11 _ _ _ _) e2 rfl dX12_swings_2 ?_
  refine r_aload_n hX dX12_swings_5 0 rfl ?_
  refine r_aload_n hX dX12_swings_6 0 rfl ?_
  obtain ⟨v5, μ3, h4, hf⟩ := bd2_eq hf
  refine r_callVI (Ok.le hX (by omega)) (c_m_now (d := d)  h4) cv_X12_137 (w_111 _ _ _) rfl rfl (st := [.ref (gA (xG X) 111)]) rfl rfl rfl dX12_swings_7 (fun dy => ?_)
  obtain ⟨μ6, h7, hf⟩ := bd1_eq hf
  refine r_callVV (Ok.le hX (by omega)) (c_m_findRest (d := d)  h7) cv_X12_214 (w_111 _ _ _) rfl rfl (st := []) rfl rfl rfl dX12_swings_10 (fun dy => ?_)
  refine r_aload_n hX dX12_swings_13 0 rfl ?_
  refine r_get hX fl_X12_211 (w_111 _ _ _) rfl dX12_swings_14 ?_
  refine r_istore_n hX dX12_swings_17 rfl (ls' := [(1, .int (μ6.1 v_m_restState 0)), (0, .ref (gA (xG X) 111))]) rfl ?_
  refine r_aload_n hX dX12_swings_18 1 rfl ?_
  refine r_get hX fl_X12_211 (w_111 _ _ _) rfl dX12_swings_19 ?_
  refine r_istore_n hX dX12_swings_22 rfl (ls' := [(2, .int (μ6.1 v_m_restState 0)), (1, .int (μ6.1 v_m_restState 0)), (0, .ref (gA (xG X) 111))]) rfl ?_
  refine r_aload_n hX dX12_swings_23 2 rfl ?_
  refine r_aload_n hX dX12_swings_24 2 rfl ?_
  refine r_get hX fl_X12_211 (w_111 _ _ _) rfl dX12_swings_25 ?_
  obtain ⟨v10, μ8, h9, hf⟩ := bd2_eq hf
  refine r_callVI (Ok.le hX (by omega)) (c_m_next (d := d)  h9) cv_X12_190 (w_111 _ _ _) rfl rfl (st := []) rfl rfl rfl dX12_swings_28 (fun dy => ?_)
  refine r_istore_n hX dX12_swings_31 rfl (ls' := [(3, .int v10), (2, .int (μ6.1 v_m_restState 0)), (1, .int (μ6.1 v_m_restState 0)), (0, .ref (gA (xG X) 111))]) rfl ?_
  refine r_weak [3, 2, 1, 0] rfl ?_
  exact b_m_swings_b32 hX hr FU _ _ _ _ _ hf
theorem dX12_after_0 : decode cX12_after 0 = .ok (.iload_n 1, 1) := by decide +kernel
theorem dX12_after_1 : decode cX12_after 1 = .ok (.istore_n 3, 1) := by decide +kernel
theorem dX12_after_2 : decode cX12_after 2 = .ok (.iconst 0, 1) := by decide +kernel
theorem dX12_after_3 : decode cX12_after 3 = .ok (.istore 4, 2) := by decide +kernel
theorem dX12_after_5 : decode cX12_after 5 = .ok (.iload 4, 2) := by decide +kernel
theorem dX12_after_7 : decode cX12_after 7 = .ok (.iload_n 2, 1) := by decide +kernel
theorem dX12_after_8 : decode cX12_after 8 = .ok (.if_icmp .ge 15, 3) := by decide +kernel
theorem dX12_after_11 : decode cX12_after 11 = .ok (.aload_n 0, 1) := by decide +kernel
theorem dX12_after_12 : decode cX12_after 12 = .ok (.iload_n 3, 1) := by decide +kernel
theorem dX12_after_13 : decode cX12_after 13 = .ok (.invokevirtual 190, 3) := by decide +kernel
theorem dX12_after_16 : decode cX12_after 16 = .ok (.istore_n 3, 1) := by decide +kernel
theorem dX12_after_17 : decode cX12_after 17 = .ok (.iinc 4 1, 3) := by decide +kernel
theorem dX12_after_20 : decode cX12_after 20 = .ok (.goto (-15), 3) := by decide +kernel
theorem dX12_after_23 : decode cX12_after 23 = .ok (.iload_n 3, 1) := by decide +kernel
theorem dX12_after_24 : decode cX12_after 24 = .ok (.ireturn, 1) := by decide +kernel
set_option maxHeartbeats 4000000 in
set_option maxRecDepth 20000 in
theorem b_m_after_b5 {X : Cx} {d : Nat} (hX : Ok M_m_after (d + 4) X) {r : Int32 × Mem} (hr : RetI M_m_after X r.1 r.2) : ∀ (n : Nat) (x2 : Int32) (x3 : Int32) (x4 : Int32) (μ : Mem) (dy : Nat → Nat), f_m_after_b5 n x2 x3 x4 μ = some r → AW X 5 [(0, .ref (gA (xG X) 111)), (2, .int x2), (3, .int x3), (4, .int x4)] [] μ dy := by
  intro n
  induction n with
  | zero => intro x2 x3 x4 μ dy hf; exact nomatch hf
  | succ n ih =>
    intro x2 x3 x4 μ dy hf
    rw [f_m_after_b5] at hf
    refine r_iload hX dX12_after_5 3 rfl ?_
    refine r_iload_n hX dX12_after_7 1 rfl ?_
    refine r_icmp_ge hX 23 dX12_after_8 rfl (fun hc1 => ?_) (fun hc1 => ?_)
    · rw [if_pos hc1] at hf
      refine r_iload_n hX dX12_after_23 2 rfl ?_
      exact fin_I hf hr _ _ _ dX12_after_24
    · rw [if_neg hc1] at hf
      refine r_aload_n hX dX12_after_11 0 rfl ?_
      refine r_iload_n hX dX12_after_12 2 rfl ?_
      obtain ⟨v4, μ2, h3, hf⟩ := bd2_eq hf
      refine r_callVI (Ok.le hX (by omega)) (c_m_next (d := d)  h3) cv_X12_190 (w_111 _ _ _) rfl rfl (st := []) rfl rfl rfl dX12_after_13 (fun dy => ?_)
      refine r_istore_n hX dX12_after_16 rfl (ls' := [(3, .int v4), (0, .ref (gA (xG X) 111)), (2, .int x2), (4, .int x4)]) rfl ?_
      refine r_iinc hX (x4 + (1 : Int32)) dX12_after_17 3 rfl rfl rfl (ls' := [(4, .int (x4 + (1 : Int32))), (3, .int v4), (0, .ref (gA (xG X) 111)), (2, .int x2)]) rfl ?_
      refine r_goto hX 5 dX12_after_20 rfl ?_
      refine r_weak [2, 3, 1, 0] rfl ?_
      exact ih _ _ _ _ _ hf
set_option maxHeartbeats 4000000 in
set_option maxRecDepth 20000 in
theorem c_m_after {G : Gx} {d : Nat} {x1 : Int32} {x2 : Int32} {μ : Mem} {r : Int32 × Mem} (hf : f_m_after x1 x2 μ = some r) : Con G M_m_after (d + 4) [.ref (gA G 111), .int x1, .int x2] μ (some (.int r.1), r.2) := by
  refine Con.ofI ⟨rfl, rfl, Nat.le_of_ble_eq_true rfl⟩ rfl rfl (fun X hG hX hr dy => ?_)
  subst hG
  show AW X 0 [(0, .ref (gA (xG X) 111)), (1, .int x1), (2, .int x2)] [] μ dy
  unfold f_m_after at hf
  refine r_iload_n hX dX12_after_0 1 rfl ?_
  refine r_istore_n hX dX12_after_1 rfl (ls' := [(3, .int x1), (0, .ref (gA (xG X) 111)), (1, .int x1), (2, .int x2)]) rfl ?_
  refine r_iconst hX (0 : Int32) dX12_after_2 rfl ?_
  refine r_istore hX dX12_after_3 rfl (ls' := [(4, .int (0 : Int32)), (3, .int x1), (0, .ref (gA (xG X) 111)), (1, .int x1), (2, .int x2)]) rfl ?_
  refine r_weak [2, 4, 1, 0] rfl ?_
  exact b_m_after_b5 hX hr FU _ _ _ _ _ hf
theorem dX12_otherwise_0 : decode cX12_otherwise 0 = .ok (.aload_n 0, 1) := by decide +kernel
theorem dX12_otherwise_1 : decode cX12_otherwise 1 = .ok (.iconst 0, 1) := by decide +kernel
theorem dX12_otherwise_2 : decode cX12_otherwise 2 = .ok (.putfield 80, 3) := by decide +kernel
theorem dX12_otherwise_5 : decode cX12_otherwise 5 = .ok (.aload_n 0, 1) := by decide +kernel
theorem dX12_otherwise_6 : decode cX12_otherwise 6 = .ok (.iload_n 1, 1) := by decide +kernel
theorem dX12_otherwise_7 : decode cX12_otherwise 7 = .ok (.invokevirtual 157, 3) := by decide +kernel
theorem dX12_otherwise_10 : decode cX12_otherwise 10 = .ok (.ifCond .eq 25, 3) := by decide +kernel
theorem dX12_otherwise_13 : decode cX12_otherwise 13 = .ok (.aload_n 0, 1) := by decide +kernel
theorem dX12_otherwise_14 : decode cX12_otherwise 14 = .ok (.getfield 140, 3) := by decide +kernel
theorem dX12_otherwise_17 : decode cX12_otherwise 17 = .ok (.iload_n 1, 1) := by decide +kernel
theorem dX12_otherwise_18 : decode cX12_otherwise 18 = .ok (.invokestatic 164, 3) := by decide +kernel
theorem dX12_otherwise_21 : decode cX12_otherwise 21 = .ok (.ifCond .ne 14, 3) := by decide +kernel
theorem dX12_otherwise_24 : decode cX12_otherwise 24 = .ok (.iload_n 2, 1) := by decide +kernel
theorem dX12_otherwise_25 : decode cX12_otherwise 25 = .ok (.iconst 0, 1) := by decide +kernel
theorem dX12_otherwise_26 : decode cX12_otherwise 26 = .ok (.sipush 200, 3) := by decide +kernel
theorem dX12_otherwise_29 : decode cX12_otherwise 29 = .ok (.invokestatic 89, 3) := by decide +kernel
theorem dX12_otherwise_32 : decode cX12_otherwise 32 = .ok (.ifCond .ne 5, 3) := by decide +kernel
theorem dX12_otherwise_35 : decode cX12_otherwise 35 = .ok (.iconst (-1), 1) := by decide +kernel
theorem dX12_otherwise_36 : decode cX12_otherwise 36 = .ok (.ireturn, 1) := by decide +kernel
theorem dX12_otherwise_37 : decode cX12_otherwise 37 = .ok (.aload_n 0, 1) := by decide +kernel
theorem dX12_otherwise_38 : decode cX12_otherwise 38 = .ok (.aload_n 0, 1) := by decide +kernel
theorem dX12_otherwise_39 : decode cX12_otherwise 39 = .ok (.invokevirtual 137, 3) := by decide +kernel
theorem dX12_otherwise_42 : decode cX12_otherwise 42 = .ok (.iload_n 2, 1) := by decide +kernel
theorem dX12_otherwise_43 : decode cX12_otherwise 43 = .ok (.invokevirtual 231, 3) := by decide +kernel
theorem dX12_otherwise_46 : decode cX12_otherwise 46 = .ok (.aload_n 0, 1) := by decide +kernel
theorem dX12_otherwise_47 : decode cX12_otherwise 47 = .ok (.aload_n 0, 1) := by decide +kernel
theorem dX12_otherwise_48 : decode cX12_otherwise 48 = .ok (.invokevirtual 137, 3) := by decide +kernel
theorem dX12_otherwise_51 : decode cX12_otherwise 51 = .ok (.iconst 1, 1) := by decide +kernel
theorem dX12_otherwise_52 : decode cX12_otherwise 52 = .ok (.iload_n 1, 1) := by decide +kernel
theorem dX12_otherwise_53 : decode cX12_otherwise 53 = .ok (.ishl, 1) := by decide +kernel
theorem dX12_otherwise_54 : decode cX12_otherwise 54 = .ok (.ixor, 1) := by decide +kernel
theorem dX12_otherwise_55 : decode cX12_otherwise 55 = .ok (.iload_n 2, 1) := by decide +kernel
theorem dX12_otherwise_56 : decode cX12_otherwise 56 = .ok (.invokevirtual 231, 3) := by decide +kernel
theorem dX12_otherwise_59 : decode cX12_otherwise 59 = .ok (.ixor, 1) := by decide +kernel
theorem dX12_otherwise_60 : decode cX12_otherwise 60 = .ok (.ireturn, 1) := by decide +kernel
set_option maxHeartbeats 4000000 in
set_option maxRecDepth 20000 in
theorem c_m_otherwise {G : Gx} {d : Nat} {x1 : Int32} {x2 : Int32} {μ : Mem} {r : Int32 × Mem} (hf : f_m_otherwise x1 x2 μ = some r) : Con G M_m_otherwise (d + 5) [.ref (gA G 111), .int x1, .int x2] μ (some (.int r.1), r.2) := by
  refine Con.ofI ⟨rfl, rfl, Nat.le_of_ble_eq_true rfl⟩ rfl rfl (fun X hG hX hr dy => ?_)
  subst hG
  show AW X 0 [(0, .ref (gA (xG X) 111)), (1, .int x1), (2, .int x2)] [] μ dy
  unfold f_m_otherwise at hf
  refine r_aload_n hX dX12_otherwise_0 0 rfl ?_
  refine r_iconst hX (0 : Int32) dX12_otherwise_1 rfl ?_
  obtain ⟨μ1, e2, hf⟩ := bnd_eq hf
  refine r_put hX fl_X12_80 ft_X12_11 (w_111 _ _ _) rfl rfl rfl (s_111_11 _ _ _ _) e2 rfl dX12_otherwise_2 ?_
  refine r_aload_n hX dX12_otherwise_5 0 rfl ?_
  refine r_iload_n hX dX12_otherwise_6 1 rfl ?_
  obtain ⟨v5, μ3, h4, hf⟩ := bd2_eq hf
  refine r_callVI (Ok.le hX (by omega)) (c_m_isOne (d := d)  h4) cv_X12_157 (w_111 _ _ _) rfl rfl (st := []) rfl rfl rfl dX12_otherwise_7 (fun dy => ?_)
  refine r_if_eq hX 35 dX12_otherwise_10 rfl (fun hc6 => ?_) (fun hc6 => ?_)
  · rw [if_pos hc6] at hf
    refine r_iconst hX (-1 : Int32) dX12_otherwise_35 rfl ?_
    exact fin_I hf hr _ _ _ dX12_otherwise_36
  · rw [if_neg hc6] at hf
    refine r_aload_n hX dX12_otherwise_13 0 rfl ?_
    refine r_get hX fl_X12_140 (w_111 _ _ _) rfl dX12_otherwise_14 ?_
    refine r_iload_n hX dX12_otherwise_17 1 rfl ?_
    obtain ⟨v9, μ7, h8, hf⟩ := bd2_eq hf
    refine r_callSI (Ok.le hX (by omega)) (c_m_has (d := d)  h8) cs_X12_164 (st := []) rfl rfl rfl dX12_otherwise_18 (fun dy => ?_)
    refine r_if_ne hX 35 dX12_otherwise_21 rfl (fun hc10 => ?_) (fun hc10 => ?_)
    · rw [if_neg hc10] at hf
      refine r_iconst hX (-1 : Int32) dX12_otherwise_35 rfl ?_
      exact fin_I hf hr _ _ _ dX12_otherwise_36
    · rw [if_pos hc10] at hf
      refine r_iload_n hX dX12_otherwise_24 2 rfl ?_
      refine r_iconst hX (0 : Int32) dX12_otherwise_25 rfl ?_
      refine r_sipush hX (200 : Int32) dX12_otherwise_26 rfl ?_
      obtain ⟨v13, μ11, h12, hf⟩ := bd2_eq hf
      refine r_callSI (Ok.le hX (by omega)) (c_m_in (d := d)  h12) cs_X12_89 (st := []) rfl rfl rfl dX12_otherwise_29 (fun dy => ?_)
      refine r_if_ne hX 37 dX12_otherwise_32 rfl (fun hc14 => ?_) (fun hc14 => ?_)
      · rw [if_neg hc14] at hf
        refine r_aload_n hX dX12_otherwise_37 0 rfl ?_
        refine r_aload_n hX dX12_otherwise_38 0 rfl ?_
        obtain ⟨v17, μ15, h16, hf⟩ := bd2_eq hf
        refine r_callVI (Ok.le hX (by omega)) (c_m_now (d := d)  h16) cv_X12_137 (w_111 _ _ _) rfl rfl (st := [.ref (gA (xG X) 111)]) rfl rfl rfl dX12_otherwise_39 (fun dy => ?_)
        refine r_iload_n hX dX12_otherwise_42 2 rfl ?_
        obtain ⟨v20, μ18, h19, hf⟩ := bd2_eq hf
        refine r_callVI (Ok.le hX (by omega)) (c_m_after (d := d)  h19) cv_X12_231 (w_111 _ _ _) rfl rfl (st := []) rfl rfl rfl dX12_otherwise_43 (fun dy => ?_)
        refine r_aload_n hX dX12_otherwise_46 0 rfl ?_
        refine r_aload_n hX dX12_otherwise_47 0 rfl ?_
        obtain ⟨v23, μ21, h22, hf⟩ := bd2_eq hf
        refine r_callVI (Ok.le hX (by omega)) (c_m_now (d := d)  h22) cv_X12_137 (w_111 _ _ _) rfl rfl (st := [.ref (gA (xG X) 111), .int v20]) rfl rfl rfl dX12_otherwise_48 (fun dy => ?_)
        refine r_iconst hX (1 : Int32) dX12_otherwise_51 rfl ?_
        refine r_iload_n hX dX12_otherwise_52 1 rfl ?_
        refine r_ishl hX dX12_otherwise_53 ?_
        refine r_ixor hX dX12_otherwise_54 ?_
        refine r_iload_n hX dX12_otherwise_55 2 rfl ?_
        obtain ⟨v26, μ24, h25, hf⟩ := bd2_eq hf
        refine r_callVI (Ok.le hX (by omega)) (c_m_after (d := d)  h25) cv_X12_231 (w_111 _ _ _) rfl rfl (st := [.int v20]) rfl rfl rfl dX12_otherwise_56 (fun dy => ?_)
        refine r_ixor hX dX12_otherwise_59 ?_
        exact fin_I hf hr _ _ _ dX12_otherwise_60
      · rw [if_pos hc14] at hf
        refine r_iconst hX (-1 : Int32) dX12_otherwise_35 rfl ?_
        exact fin_I hf hr _ _ _ dX12_otherwise_36
theorem dX12_onebyone_0 : decode cX12_onebyone 0 = .ok (.aload_n 0, 1) := by decide +kernel
theorem dX12_onebyone_1 : decode cX12_onebyone 1 = .ok (.iconst 0, 1) := by decide +kernel
theorem dX12_onebyone_2 : decode cX12_onebyone 2 = .ok (.putfield 80, 3) := by decide +kernel
theorem dX12_onebyone_5 : decode cX12_onebyone 5 = .ok (.aload_n 0, 1) := by decide +kernel
theorem dX12_onebyone_6 : decode cX12_onebyone 6 = .ok (.invokevirtual 137, 3) := by decide +kernel
theorem dX12_onebyone_9 : decode cX12_onebyone 9 = .ok (.istore_n 1, 1) := by decide +kernel
theorem dX12_onebyone_10 : decode cX12_onebyone 10 = .ok (.iconst 0, 1) := by decide +kernel
theorem dX12_onebyone_11 : decode cX12_onebyone 11 = .ok (.istore_n 2, 1) := by decide +kernel
theorem dX12_onebyone_12 : decode cX12_onebyone 12 = .ok (.iconst 0, 1) := by decide +kernel
theorem dX12_onebyone_13 : decode cX12_onebyone 13 = .ok (.istore_n 3, 1) := by decide +kernel
theorem dX12_onebyone_14 : decode cX12_onebyone 14 = .ok (.iconst 1, 1) := by decide +kernel
theorem dX12_onebyone_15 : decode cX12_onebyone 15 = .ok (.istore 4, 2) := by decide +kernel
theorem dX12_onebyone_17 : decode cX12_onebyone 17 = .ok (.iload 4, 2) := by decide +kernel
theorem dX12_onebyone_19 : decode cX12_onebyone 19 = .ok (.ifCond .eq 91, 3) := by decide +kernel
theorem dX12_onebyone_22 : decode cX12_onebyone 22 = .ok (.iload_n 3, 1) := by decide +kernel
theorem dX12_onebyone_23 : decode cX12_onebyone 23 = .ok (.istore 5, 2) := by decide +kernel
theorem dX12_onebyone_25 : decode cX12_onebyone 25 = .ok (.iconst 0, 1) := by decide +kernel
theorem dX12_onebyone_26 : decode cX12_onebyone 26 = .ok (.istore 6, 2) := by decide +kernel
theorem dX12_onebyone_28 : decode cX12_onebyone 28 = .ok (.iload 6, 2) := by decide +kernel
theorem dX12_onebyone_30 : decode cX12_onebyone 30 = .ok (.aload_n 0, 1) := by decide +kernel
theorem dX12_onebyone_31 : decode cX12_onebyone 31 = .ok (.getfield 86, 3) := by decide +kernel
theorem dX12_onebyone_34 : decode cX12_onebyone 34 = .ok (.if_icmp .ge 38, 3) := by decide +kernel
theorem dX12_onebyone_37 : decode cX12_onebyone 37 = .ok (.aload_n 0, 1) := by decide +kernel
theorem dX12_onebyone_38 : decode cX12_onebyone 38 = .ok (.iload 6, 2) := by decide +kernel
theorem dX12_onebyone_40 : decode cX12_onebyone 40 = .ok (.iload_n 1, 1) := by decide +kernel
theorem dX12_onebyone_41 : decode cX12_onebyone 41 = .ok (.invokevirtual 187, 3) := by decide +kernel
theorem dX12_onebyone_44 : decode cX12_onebyone 44 = .ok (.iload_n 1, 1) := by decide +kernel
theorem dX12_onebyone_45 : decode cX12_onebyone 45 = .ok (.iload 6, 2) := by decide +kernel
theorem dX12_onebyone_47 : decode cX12_onebyone 47 = .ok (.invokestatic 164, 3) := by decide +kernel
theorem dX12_onebyone_50 : decode cX12_onebyone 50 = .ok (.if_icmp .ne 6, 3) := by decide +kernel
theorem dX12_onebyone_53 : decode cX12_onebyone 53 = .ok (.goto 13, 3) := by decide +kernel
theorem dX12_onebyone_56 : decode cX12_onebyone 56 = .ok (.iload_n 1, 1) := by decide +kernel
theorem dX12_onebyone_57 : decode cX12_onebyone 57 = .ok (.iconst 1, 1) := by decide +kernel
theorem dX12_onebyone_58 : decode cX12_onebyone 58 = .ok (.iload 6, 2) := by decide +kernel
theorem dX12_onebyone_60 : decode cX12_onebyone 60 = .ok (.ishl, 1) := by decide +kernel
theorem dX12_onebyone_61 : decode cX12_onebyone 61 = .ok (.ixor, 1) := by decide +kernel
theorem dX12_onebyone_62 : decode cX12_onebyone 62 = .ok (.istore_n 1, 1) := by decide +kernel
theorem dX12_onebyone_63 : decode cX12_onebyone 63 = .ok (.iinc 3 1, 3) := by decide +kernel
theorem dX12_onebyone_66 : decode cX12_onebyone 66 = .ok (.iinc 6 1, 3) := by decide +kernel
theorem dX12_onebyone_69 : decode cX12_onebyone 69 = .ok (.goto (-41), 3) := by decide +kernel
theorem dX12_onebyone_72 : decode cX12_onebyone 72 = .ok (.iload_n 3, 1) := by decide +kernel
theorem dX12_onebyone_73 : decode cX12_onebyone 73 = .ok (.iload 5, 2) := by decide +kernel
theorem dX12_onebyone_75 : decode cX12_onebyone 75 = .ok (.if_icmp .le 7, 3) := by decide +kernel
theorem dX12_onebyone_78 : decode cX12_onebyone 78 = .ok (.iconst 1, 1) := by decide +kernel
theorem dX12_onebyone_79 : decode cX12_onebyone 79 = .ok (.goto 4, 3) := by decide +kernel
theorem dX12_onebyone_82 : decode cX12_onebyone 82 = .ok (.iconst 0, 1) := by decide +kernel
theorem dX12_onebyone_83 : decode cX12_onebyone 83 = .ok (.istore 4, 2) := by decide +kernel
theorem dX12_onebyone_85 : decode cX12_onebyone 85 = .ok (.iload_n 2, 1) := by decide +kernel
theorem dX12_onebyone_86 : decode cX12_onebyone 86 = .ok (.iload 4, 2) := by decide +kernel
theorem dX12_onebyone_88 : decode cX12_onebyone 88 = .ok (.ifCond .eq 7, 3) := by decide +kernel
theorem dX12_onebyone_91 : decode cX12_onebyone 91 = .ok (.iconst 1, 1) := by decide +kernel
theorem dX12_onebyone_92 : decode cX12_onebyone 92 = .ok (.goto 4, 3) := by decide +kernel
theorem dX12_onebyone_95 : decode cX12_onebyone 95 = .ok (.iconst 0, 1) := by decide +kernel
theorem dX12_onebyone_96 : decode cX12_onebyone 96 = .ok (.iadd, 1) := by decide +kernel
theorem dX12_onebyone_97 : decode cX12_onebyone 97 = .ok (.istore_n 2, 1) := by decide +kernel
theorem dX12_onebyone_98 : decode cX12_onebyone 98 = .ok (.iload_n 2, 1) := by decide +kernel
theorem dX12_onebyone_99 : decode cX12_onebyone 99 = .ok (.bipush 100, 2) := by decide +kernel
theorem dX12_onebyone_101 : decode cX12_onebyone 101 = .ok (.if_icmp .le 6, 3) := by decide +kernel
theorem dX12_onebyone_104 : decode cX12_onebyone 104 = .ok (.bipush (-2), 2) := by decide +kernel
theorem dX12_onebyone_106 : decode cX12_onebyone 106 = .ok (.ireturn, 1) := by decide +kernel
theorem dX12_onebyone_107 : decode cX12_onebyone 107 = .ok (.goto (-90), 3) := by decide +kernel
theorem dX12_onebyone_110 : decode cX12_onebyone 110 = .ok (.aload_n 0, 1) := by decide +kernel
theorem dX12_onebyone_111 : decode cX12_onebyone 111 = .ok (.iconst 0, 1) := by decide +kernel
theorem dX12_onebyone_112 : decode cX12_onebyone 112 = .ok (.putfield 83, 3) := by decide +kernel
theorem dX12_onebyone_115 : decode cX12_onebyone 115 = .ok (.aload_n 0, 1) := by decide +kernel
theorem dX12_onebyone_116 : decode cX12_onebyone 116 = .ok (.iload_n 1, 1) := by decide +kernel
theorem dX12_onebyone_117 : decode cX12_onebyone 117 = .ok (.i2l, 1) := by decide +kernel
theorem dX12_onebyone_118 : decode cX12_onebyone 118 = .ok (.invokevirtual 217, 3) := by decide +kernel
theorem dX12_onebyone_121 : decode cX12_onebyone 121 = .ok (.aload_n 0, 1) := by decide +kernel
theorem dX12_onebyone_122 : decode cX12_onebyone 122 = .ok (.iload_n 3, 1) := by decide +kernel
theorem dX12_onebyone_123 : decode cX12_onebyone 123 = .ok (.i2l, 1) := by decide +kernel
theorem dX12_onebyone_124 : decode cX12_onebyone 124 = .ok (.invokevirtual 217, 3) := by decide +kernel
theorem dX12_onebyone_127 : decode cX12_onebyone 127 = .ok (.iload_n 2, 1) := by decide +kernel
theorem dX12_onebyone_128 : decode cX12_onebyone 128 = .ok (.ireturn, 1) := by decide +kernel
set_option maxHeartbeats 4000000 in
set_option maxRecDepth 20000 in
theorem b_m_onebyone_b28 {X : Cx} {d : Nat} (hX : Ok M_m_onebyone (d + 3) X) {r : Int32 × Mem} (hr : RetI M_m_onebyone X r.1 r.2) {k17 : Int32 → Int32 → Int32 → Int32 → Mem → Option (Int32 × Mem)} (hk17 : ∀ (x1 : Int32) (x2 : Int32) (x3 : Int32) (x4 : Int32) (μ : Mem) (dy : Nat → Nat), k17 x1 x2 x3 x4 μ = some r → AW X 17 [(0, .ref (gA (xG X) 111)), (1, .int x1), (2, .int x2), (3, .int x3), (4, .int x4)] [] μ dy) : ∀ (n : Nat) (x1 : Int32) (x2 : Int32) (x3 : Int32) (x5 : Int32) (x6 : Int32) (μ : Mem) (dy : Nat → Nat), f_m_onebyone_b28 k17 n x1 x2 x3 x5 x6 μ = some r → AW X 28 [(0, .ref (gA (xG X) 111)), (1, .int x1), (2, .int x2), (3, .int x3), (5, .int x5), (6, .int x6)] [] μ dy := by
  intro n
  induction n with
  | zero => intro x1 x2 x3 x5 x6 μ dy hf; exact nomatch hf
  | succ n ih =>
    intro x1 x2 x3 x5 x6 μ dy hf
    rw [f_m_onebyone_b28] at hf
    refine r_iload hX dX12_onebyone_28 5 rfl ?_
    refine r_aload_n hX dX12_onebyone_30 0 rfl ?_
    refine r_get hX fl_X12_86 (w_111 _ _ _) rfl dX12_onebyone_31 ?_
    refine r_icmp_ge hX 72 dX12_onebyone_34 rfl (fun hc13 => ?_) (fun hc13 => ?_)
    · rw [if_pos hc13] at hf
      refine r_iload_n hX dX12_onebyone_72 3 rfl ?_
      refine r_iload hX dX12_onebyone_73 4 rfl ?_
      obtain ⟨v14, e15, hf⟩ := bnd_eq hf
      have J16 : AW X 83 [(0, .ref (gA (xG X) 111)), (1, .int x1), (2, .int x2), (3, .int x3), (5, .int x5), (6, .int x6)] [.int v14] μ dy := by
        refine r_istore hX dX12_onebyone_83 rfl (ls' := [(4, .int v14), (0, .ref (gA (xG X) 111)), (1, .int x1), (2, .int x2), (3, .int x3), (5, .int x5), (6, .int x6)]) rfl ?_
        refine r_iload_n hX dX12_onebyone_85 3 rfl ?_
        refine r_iload hX dX12_onebyone_86 0 rfl ?_
        obtain ⟨v17, e18, hf⟩ := bnd_eq hf
        have J19 : AW X 96 [(4, .int v14), (0, .ref (gA (xG X) 111)), (1, .int x1), (2, .int x2), (3, .int x3), (5, .int x5), (6, .int x6)] [.int v17, .int x2] μ dy := by
          refine r_iadd hX dX12_onebyone_96 ?_
          refine r_istore_n hX dX12_onebyone_97 rfl (ls' := [(2, .int (x2 + v17)), (4, .int v14), (0, .ref (gA (xG X) 111)), (1, .int x1), (3, .int x3), (5, .int x5), (6, .int x6)]) rfl ?_
          refine r_iload_n hX dX12_onebyone_98 0 rfl ?_
          refine r_bipush hX (100 : Int32) dX12_onebyone_99 rfl ?_
          refine r_icmp_le hX 107 dX12_onebyone_101 rfl (fun hc20 => ?_) (fun hc20 => ?_)
          · rw [if_pos hc20] at hf
            refine r_goto hX 17 dX12_onebyone_107 rfl ?_
            refine r_weak [2, 3, 0, 4, 1] rfl ?_
            exact hk17 _ _ _ _ _ _ hf
          · rw [if_neg hc20] at hf
            refine r_bipush hX (-2 : Int32) dX12_onebyone_104 rfl ?_
            exact fin_I hf hr _ _ _ dX12_onebyone_106
        refine r_if_eq hX 95 dX12_onebyone_88 rfl (fun hc21 => ?_) (fun hc21 => ?_)
        · refine r_iconst hX (0 : Int32) dX12_onebyone_95 rfl ?_
          exact r_topI (e18.trans (by rw [if_pos hc21])) J19
        · refine r_iconst hX (1 : Int32) dX12_onebyone_91 rfl ?_
          refine r_goto hX 96 dX12_onebyone_92 rfl ?_
          exact r_topI (e18.trans (by rw [if_neg hc21])) J19
      refine r_icmp_le hX 82 dX12_onebyone_75 rfl (fun hc22 => ?_) (fun hc22 => ?_)
      · refine r_iconst hX (0 : Int32) dX12_onebyone_82 rfl ?_
        exact r_topI (e15.trans (by rw [if_pos hc22])) J16
      · refine r_iconst hX (1 : Int32) dX12_onebyone_78 rfl ?_
        refine r_goto hX 83 dX12_onebyone_79 rfl ?_
        exact r_topI (e15.trans (by rw [if_neg hc22])) J16
    · rw [if_neg hc13] at hf
      refine r_aload_n hX dX12_onebyone_37 0 rfl ?_
      refine r_iload hX dX12_onebyone_38 5 rfl ?_
      refine r_iload_n hX dX12_onebyone_40 1 rfl ?_
      obtain ⟨v25, μ23, h24, hf⟩ := bd2_eq hf
      refine r_callVI (Ok.le hX (by omega)) (c_m_wouldBelieve (d := d)  h24) cv_X12_187 (w_111 _ _ _) rfl rfl (st := []) rfl rfl rfl dX12_onebyone_41 (fun dy => ?_)
      refine r_iload_n hX dX12_onebyone_44 1 rfl ?_
      refine r_iload hX dX12_onebyone_45 5 rfl ?_
      obtain ⟨v28, μ26, h27, hf⟩ := bd2_eq hf
      refine r_callSI (Ok.le hX (by omega)) (c_m_has (d := d)  h27) cs_X12_164 (st := [.int v25]) rfl rfl rfl dX12_onebyone_47 (fun dy => ?_)
      refine r_icmp_ne hX 56 dX12_onebyone_50 rfl (fun hc29 => ?_) (fun hc29 => ?_)
      · rw [if_neg hc29] at hf
        refine r_iload_n hX dX12_onebyone_56 1 rfl ?_
        refine r_iconst hX (1 : Int32) dX12_onebyone_57 rfl ?_
        refine r_iload hX dX12_onebyone_58 5 rfl ?_
        refine r_ishl hX dX12_onebyone_60 ?_
        refine r_ixor hX dX12_onebyone_61 ?_
        obtain ⟨v30, e31, hf⟩ := bnd_eq hf
        refine r_topI e31 ?_
        refine r_istore_n hX dX12_onebyone_62 rfl (ls' := [(1, .int v30), (0, .ref (gA (xG X) 111)), (2, .int x2), (3, .int x3), (5, .int x5), (6, .int x6)]) rfl ?_
        refine r_iinc hX (x3 + (1 : Int32)) dX12_onebyone_63 3 rfl rfl rfl (ls' := [(3, .int (x3 + (1 : Int32))), (1, .int v30), (0, .ref (gA (xG X) 111)), (2, .int x2), (5, .int x5), (6, .int x6)]) rfl ?_
        refine r_iinc hX (x6 + (1 : Int32)) dX12_onebyone_66 5 rfl rfl rfl (ls' := [(6, .int (x6 + (1 : Int32))), (3, .int (x3 + (1 : Int32))), (1, .int v30), (0, .ref (gA (xG X) 111)), (2, .int x2), (5, .int x5)]) rfl ?_
        refine r_goto hX 28 dX12_onebyone_69 rfl ?_
        refine r_weak [3, 2, 4, 1, 5, 0] rfl ?_
        exact ih _ _ _ _ _ _ _ hf
      · rw [if_pos hc29] at hf
        refine r_goto hX 66 dX12_onebyone_53 rfl ?_
        refine r_iinc hX (x6 + (1 : Int32)) dX12_onebyone_66 5 rfl rfl rfl (ls' := [(6, .int (x6 + (1 : Int32))), (0, .ref (gA (xG X) 111)), (1, .int x1), (2, .int x2), (3, .int x3), (5, .int x5)]) rfl ?_
        refine r_goto hX 28 dX12_onebyone_69 rfl ?_
        refine r_weak [1, 2, 3, 4, 5, 0] rfl ?_
        exact ih _ _ _ _ _ _ _ hf
set_option maxHeartbeats 4000000 in
set_option maxRecDepth 20000 in
theorem b_m_onebyone_b17 {X : Cx} {d : Nat} (hX : Ok M_m_onebyone (d + 3) X) {r : Int32 × Mem} (hr : RetI M_m_onebyone X r.1 r.2) : ∀ (n : Nat) (x1 : Int32) (x2 : Int32) (x3 : Int32) (x4 : Int32) (μ : Mem) (dy : Nat → Nat), f_m_onebyone_b17 n x1 x2 x3 x4 μ = some r → AW X 17 [(0, .ref (gA (xG X) 111)), (1, .int x1), (2, .int x2), (3, .int x3), (4, .int x4)] [] μ dy := by
  intro n
  induction n with
  | zero => intro x1 x2 x3 x4 μ dy hf; exact nomatch hf
  | succ n ih =>
    intro x1 x2 x3 x4 μ dy hf
    rw [f_m_onebyone_b17] at hf
    refine r_iload hX dX12_onebyone_17 4 rfl ?_
    refine r_if_eq hX 110 dX12_onebyone_19 rfl (fun hc6 => ?_) (fun hc6 => ?_)
    · rw [if_pos hc6] at hf
      refine r_aload_n hX dX12_onebyone_110 0 rfl ?_
      refine r_iconst hX (0 : Int32) dX12_onebyone_111 rfl ?_
      obtain ⟨μ7, e8, hf⟩ := bnd_eq hf
      refine r_put hX fl_X12_83 ft_X12_10 (w_111 _ _ _) rfl rfl rfl (s_111_10 _ _ _ _) e8 rfl dX12_onebyone_112 ?_
      refine r_aload_n hX dX12_onebyone_115 0 rfl ?_
      refine r_iload_n hX dX12_onebyone_116 1 rfl ?_
      refine r_i2l hX dX12_onebyone_117 ?_
      obtain ⟨μ9, h10, hf⟩ := bd1_eq hf
      refine r_callVV (Ok.le hX (by omega)) (c_m_tell (d := d)  h10) cv_X12_217 (w_111 _ _ _) rfl rfl (st := []) rfl rfl rfl dX12_onebyone_118 (fun dy => ?_)
      refine r_aload_n hX dX12_onebyone_121 0 rfl ?_
      refine r_iload_n hX dX12_onebyone_122 3 rfl ?_
      refine r_i2l hX dX12_onebyone_123 ?_
      obtain ⟨μ11, h12, hf⟩ := bd1_eq hf
      refine r_callVV (Ok.le hX (by omega)) (c_m_tell (d := d)  h12) cv_X12_217 (w_111 _ _ _) rfl rfl (st := []) rfl rfl rfl dX12_onebyone_124 (fun dy => ?_)
      refine r_iload_n hX dX12_onebyone_127 2 rfl ?_
      exact fin_I hf hr _ _ _ dX12_onebyone_128
    · rw [if_neg hc6] at hf
      refine r_iload_n hX dX12_onebyone_22 3 rfl ?_
      refine r_istore hX dX12_onebyone_23 rfl (ls' := [(5, .int x3), (0, .ref (gA (xG X) 111)), (1, .int x1), (2, .int x2), (3, .int x3), (4, .int x4)]) rfl ?_
      refine r_iconst hX (0 : Int32) dX12_onebyone_25 rfl ?_
      refine r_istore hX dX12_onebyone_26 rfl (ls' := [(6, .int (0 : Int32)), (5, .int x3), (0, .ref (gA (xG X) 111)), (1, .int x1), (2, .int x2), (3, .int x3), (4, .int x4)]) rfl ?_
      refine r_weak [2, 3, 4, 5, 1, 0] rfl ?_
      exact b_m_onebyone_b28 hX hr ih FU _ _ _ _ _ _ _ hf
set_option maxHeartbeats 4000000 in
set_option maxRecDepth 20000 in
theorem c_m_onebyone {G : Gx} {d : Nat}  {μ : Mem} {r : Int32 × Mem} (hf : f_m_onebyone  μ = some r) : Con G M_m_onebyone (d + 3) [.ref (gA G 111)] μ (some (.int r.1), r.2) := by
  refine Con.ofI ⟨rfl, rfl, Nat.le_of_ble_eq_true rfl⟩ rfl rfl (fun X hG hX hr dy => ?_)
  subst hG
  show AW X 0 [(0, .ref (gA (xG X) 111))] [] μ dy
  unfold f_m_onebyone at hf
  refine r_aload_n hX dX12_onebyone_0 0 rfl ?_
  refine r_iconst hX (0 : Int32) dX12_onebyone_1 rfl ?_
  obtain ⟨μ1, e2, hf⟩ := bnd_eq hf
  refine r_put hX fl_X12_80 ft_X12_11 (w_111 _ _ _) rfl rfl rfl (s_111_11 _ _ _ _) e2 rfl dX12_onebyone_2 ?_
  refine r_aload_n hX dX12_onebyone_5 0 rfl ?_
  obtain ⟨v5, μ3, h4, hf⟩ := bd2_eq hf
  refine r_callVI (Ok.le hX (by omega)) (c_m_now (d := d)  h4) cv_X12_137 (w_111 _ _ _) rfl rfl (st := []) rfl rfl rfl dX12_onebyone_6 (fun dy => ?_)
  refine r_istore_n hX dX12_onebyone_9 rfl (ls' := [(1, .int v5), (0, .ref (gA (xG X) 111))]) rfl ?_
  refine r_iconst hX (0 : Int32) dX12_onebyone_10 rfl ?_
  refine r_istore_n hX dX12_onebyone_11 rfl (ls' := [(2, .int (0 : Int32)), (1, .int v5), (0, .ref (gA (xG X) 111))]) rfl ?_
  refine r_iconst hX (0 : Int32) dX12_onebyone_12 rfl ?_
  refine r_istore_n hX dX12_onebyone_13 rfl (ls' := [(3, .int (0 : Int32)), (2, .int (0 : Int32)), (1, .int v5), (0, .ref (gA (xG X) 111))]) rfl ?_
  refine r_iconst hX (1 : Int32) dX12_onebyone_14 rfl ?_
  refine r_istore hX dX12_onebyone_15 rfl (ls' := [(4, .int (1 : Int32)), (3, .int (0 : Int32)), (2, .int (0 : Int32)), (1, .int v5), (0, .ref (gA (xG X) 111))]) rfl ?_
  refine r_weak [4, 3, 2, 1, 0] rfl ?_
  exact b_m_onebyone_b17 hX hr FU _ _ _ _ _ _ hf
theorem dX12_dayOf_0 : decode cX12_dayOf 0 = .ok (.iload_n 2, 1) := by decide +kernel
theorem dX12_dayOf_1 : decode cX12_dayOf 1 = .ok (.istore 4, 2) := by decide +kernel
theorem dX12_dayOf_3 : decode cX12_dayOf 3 = .ok (.iconst 0, 1) := by decide +kernel
theorem dX12_dayOf_4 : decode cX12_dayOf 4 = .ok (.istore 5, 2) := by decide +kernel
theorem dX12_dayOf_6 : decode cX12_dayOf 6 = .ok (.iload 5, 2) := by decide +kernel
theorem dX12_dayOf_8 : decode cX12_dayOf 8 = .ok (.iload_n 3, 1) := by decide +kernel
theorem dX12_dayOf_9 : decode cX12_dayOf 9 = .ok (.if_icmp .gt 28, 3) := by decide +kernel
theorem dX12_dayOf_12 : decode cX12_dayOf 12 = .ok (.iload 4, 2) := by decide +kernel
theorem dX12_dayOf_14 : decode cX12_dayOf 14 = .ok (.iload_n 1, 1) := by decide +kernel
theorem dX12_dayOf_15 : decode cX12_dayOf 15 = .ok (.iand, 1) := by decide +kernel
theorem dX12_dayOf_16 : decode cX12_dayOf 16 = .ok (.iload_n 1, 1) := by decide +kernel
theorem dX12_dayOf_17 : decode cX12_dayOf 17 = .ok (.if_icmp .ne 6, 3) := by decide +kernel
theorem dX12_dayOf_20 : decode cX12_dayOf 20 = .ok (.iload 5, 2) := by decide +kernel
theorem dX12_dayOf_22 : decode cX12_dayOf 22 = .ok (.ireturn, 1) := by decide +kernel
theorem dX12_dayOf_23 : decode cX12_dayOf 23 = .ok (.aload_n 0, 1) := by decide +kernel
theorem dX12_dayOf_24 : decode cX12_dayOf 24 = .ok (.iload 4, 2) := by decide +kernel
theorem dX12_dayOf_26 : decode cX12_dayOf 26 = .ok (.invokevirtual 190, 3) := by decide +kernel
theorem dX12_dayOf_29 : decode cX12_dayOf 29 = .ok (.istore 4, 2) := by decide +kernel
theorem dX12_dayOf_31 : decode cX12_dayOf 31 = .ok (.iinc 5 1, 3) := by decide +kernel
theorem dX12_dayOf_34 : decode cX12_dayOf 34 = .ok (.goto (-28), 3) := by decide +kernel
theorem dX12_dayOf_37 : decode cX12_dayOf 37 = .ok (.iconst (-1), 1) := by decide +kernel
theorem dX12_dayOf_38 : decode cX12_dayOf 38 = .ok (.ireturn, 1) := by decide +kernel
set_option maxHeartbeats 4000000 in
set_option maxRecDepth 20000 in
theorem b_m_dayOf_b6 {X : Cx} {d : Nat} (hX : Ok M_m_dayOf (d + 4) X) {r : Int32 × Mem} (hr : RetI M_m_dayOf X r.1 r.2) : ∀ (n : Nat) (x1 : Int32) (x3 : Int32) (x4 : Int32) (x5 : Int32) (μ : Mem) (dy : Nat → Nat), f_m_dayOf_b6 n x1 x3 x4 x5 μ = some r → AW X 6 [(0, .ref (gA (xG X) 111)), (1, .int x1), (3, .int x3), (4, .int x4), (5, .int x5)] [] μ dy := by
  intro n
  induction n with
  | zero => intro x1 x3 x4 x5 μ dy hf; exact nomatch hf
  | succ n ih =>
    intro x1 x3 x4 x5 μ dy hf
    rw [f_m_dayOf_b6] at hf
    refine r_iload hX dX12_dayOf_6 4 rfl ?_
    refine r_iload_n hX dX12_dayOf_8 2 rfl ?_
    refine r_icmp_gt hX 37 dX12_dayOf_9 rfl (fun hc1 => ?_) (fun hc1 => ?_)
    · rw [if_pos hc1] at hf
      refine r_iconst hX (-1 : Int32) dX12_dayOf_37 rfl ?_
      exact fin_I hf hr _ _ _ dX12_dayOf_38
    · rw [if_neg hc1] at hf
      refine r_iload hX dX12_dayOf_12 3 rfl ?_
      refine r_iload_n hX dX12_dayOf_14 1 rfl ?_
      refine r_iand hX dX12_dayOf_15 ?_
      refine r_iload_n hX dX12_dayOf_16 1 rfl ?_
      refine r_icmp_ne hX 23 dX12_dayOf_17 rfl (fun hc2 => ?_) (fun hc2 => ?_)
      · rw [if_neg hc2] at hf
        refine r_aload_n hX dX12_dayOf_23 0 rfl ?_
        refine r_iload hX dX12_dayOf_24 3 rfl ?_
        obtain ⟨v5, μ3, h4, hf⟩ := bd2_eq hf
        refine r_callVI (Ok.le hX (by omega)) (c_m_next (d := d)  h4) cv_X12_190 (w_111 _ _ _) rfl rfl (st := []) rfl rfl rfl dX12_dayOf_26 (fun dy => ?_)
        refine r_istore hX dX12_dayOf_29 rfl (ls' := [(4, .int v5), (0, .ref (gA (xG X) 111)), (1, .int x1), (3, .int x3), (5, .int x5)]) rfl ?_
        refine r_iinc hX (x5 + (1 : Int32)) dX12_dayOf_31 4 rfl rfl rfl (ls' := [(5, .int (x5 + (1 : Int32))), (4, .int v5), (0, .ref (gA (xG X) 111)), (1, .int x1), (3, .int x3)]) rfl ?_
        refine r_goto hX 6 dX12_dayOf_34 rfl ?_
        refine r_weak [2, 3, 4, 1, 0] rfl ?_
        exact ih _ _ _ _ _ _ hf
      · rw [if_pos hc2] at hf
        refine r_iload hX dX12_dayOf_20 4 rfl ?_
        exact fin_I hf hr _ _ _ dX12_dayOf_22
set_option maxHeartbeats 4000000 in
set_option maxRecDepth 20000 in
theorem c_m_dayOf {G : Gx} {d : Nat} {x1 : Int32} {x2 : Int32} {x3 : Int32} {μ : Mem} {r : Int32 × Mem} (hf : f_m_dayOf x1 x2 x3 μ = some r) : Con G M_m_dayOf (d + 4) [.ref (gA G 111), .int x1, .int x2, .int x3] μ (some (.int r.1), r.2) := by
  refine Con.ofI ⟨rfl, rfl, Nat.le_of_ble_eq_true rfl⟩ rfl rfl (fun X hG hX hr dy => ?_)
  subst hG
  show AW X 0 [(0, .ref (gA (xG X) 111)), (1, .int x1), (2, .int x2), (3, .int x3)] [] μ dy
  unfold f_m_dayOf at hf
  refine r_iload_n hX dX12_dayOf_0 2 rfl ?_
  refine r_istore hX dX12_dayOf_1 rfl (ls' := [(4, .int x2), (0, .ref (gA (xG X) 111)), (1, .int x1), (2, .int x2), (3, .int x3)]) rfl ?_
  refine r_iconst hX (0 : Int32) dX12_dayOf_3 rfl ?_
  refine r_istore hX dX12_dayOf_4 rfl (ls' := [(5, .int (0 : Int32)), (4, .int x2), (0, .ref (gA (xG X) 111)), (1, .int x1), (2, .int x2), (3, .int x3)]) rfl ?_
  refine r_weak [2, 3, 5, 1, 0] rfl ?_
  exact b_m_dayOf_b6 hX hr FU _ _ _ _ _ _ hf
theorem dX12_level_0 : decode cX12_level 0 = .ok (.aload_n 0, 1) := by decide +kernel
theorem dX12_level_1 : decode cX12_level 1 = .ok (.iconst 0, 1) := by decide +kernel
theorem dX12_level_2 : decode cX12_level 2 = .ok (.putfield 80, 3) := by decide +kernel
theorem dX12_level_5 : decode cX12_level 5 = .ok (.iload_n 1, 1) := by decide +kernel
theorem dX12_level_6 : decode cX12_level 6 = .ok (.iconst 0, 1) := by decide +kernel
theorem dX12_level_7 : decode cX12_level 7 = .ok (.bipush 20, 2) := by decide +kernel
theorem dX12_level_9 : decode cX12_level 9 = .ok (.invokestatic 89, 3) := by decide +kernel
theorem dX12_level_12 : decode cX12_level 12 = .ok (.ifCond .ne 5, 3) := by decide +kernel
theorem dX12_level_15 : decode cX12_level 15 = .ok (.iconst (-1), 1) := by decide +kernel
theorem dX12_level_16 : decode cX12_level 16 = .ok (.ireturn, 1) := by decide +kernel
theorem dX12_level_17 : decode cX12_level 17 = .ok (.iconst 0, 1) := by decide +kernel
theorem dX12_level_18 : decode cX12_level 18 = .ok (.istore_n 2, 1) := by decide +kernel
theorem dX12_level_19 : decode cX12_level 19 = .ok (.iload_n 2, 1) := by decide +kernel
theorem dX12_level_20 : decode cX12_level 20 = .ok (.aload_n 0, 1) := by decide +kernel
theorem dX12_level_21 : decode cX12_level 21 = .ok (.getfield 86, 3) := by decide +kernel
theorem dX12_level_24 : decode cX12_level 24 = .ok (.if_icmp .ge 21, 3) := by decide +kernel
theorem dX12_level_27 : decode cX12_level 27 = .ok (.aload_n 0, 1) := by decide +kernel
theorem dX12_level_28 : decode cX12_level 28 = .ok (.getfield 39, 3) := by decide +kernel
theorem dX12_level_31 : decode cX12_level 31 = .ok (.iload_n 2, 1) := by decide +kernel
theorem dX12_level_32 : decode cX12_level 32 = .ok (.aload_n 0, 1) := by decide +kernel
theorem dX12_level_33 : decode cX12_level 33 = .ok (.getfield 9, 3) := by decide +kernel
theorem dX12_level_36 : decode cX12_level 36 = .ok (.iload_n 2, 1) := by decide +kernel
theorem dX12_level_37 : decode cX12_level 37 = .ok (.iaload, 1) := by decide +kernel
theorem dX12_level_38 : decode cX12_level 38 = .ok (.iastore, 1) := by decide +kernel
theorem dX12_level_39 : decode cX12_level 39 = .ok (.iinc 2 1, 3) := by decide +kernel
theorem dX12_level_42 : decode cX12_level 42 = .ok (.goto (-23), 3) := by decide +kernel
theorem dX12_level_45 : decode cX12_level 45 = .ok (.bipush (-2), 2) := by decide +kernel
theorem dX12_level_47 : decode cX12_level 47 = .ok (.istore_n 2, 1) := by decide +kernel
theorem dX12_level_48 : decode cX12_level 48 = .ok (.iconst 0, 1) := by decide +kernel
theorem dX12_level_49 : decode cX12_level 49 = .ok (.istore_n 3, 1) := by decide +kernel
theorem dX12_level_50 : decode cX12_level 50 = .ok (.bipush 99, 2) := by decide +kernel
theorem dX12_level_52 : decode cX12_level 52 = .ok (.istore 4, 2) := by decide +kernel
theorem dX12_level_54 : decode cX12_level 54 = .ok (.iload 4, 2) := by decide +kernel
theorem dX12_level_56 : decode cX12_level 56 = .ok (.ifCond .lt 70, 3) := by decide +kernel
theorem dX12_level_59 : decode cX12_level 59 = .ok (.iload_n 2, 1) := by decide +kernel
theorem dX12_level_60 : decode cX12_level 60 = .ok (.ifCond .ge 66, 3) := by decide +kernel
theorem dX12_level_63 : decode cX12_level 63 = .ok (.iconst 0, 1) := by decide +kernel
theorem dX12_level_64 : decode cX12_level 64 = .ok (.istore 5, 2) := by decide +kernel
theorem dX12_level_66 : decode cX12_level 66 = .ok (.iload 5, 2) := by decide +kernel
theorem dX12_level_68 : decode cX12_level 68 = .ok (.aload_n 0, 1) := by decide +kernel
theorem dX12_level_69 : decode cX12_level 69 = .ok (.getfield 86, 3) := by decide +kernel
theorem dX12_level_72 : decode cX12_level 72 = .ok (.if_icmp .ge 18, 3) := by decide +kernel
theorem dX12_level_75 : decode cX12_level 75 = .ok (.aload_n 0, 1) := by decide +kernel
theorem dX12_level_76 : decode cX12_level 76 = .ok (.getfield 9, 3) := by decide +kernel
theorem dX12_level_79 : decode cX12_level 79 = .ok (.iload 5, 2) := by decide +kernel
theorem dX12_level_81 : decode cX12_level 81 = .ok (.iload 4, 2) := by decide +kernel
theorem dX12_level_83 : decode cX12_level 83 = .ok (.iastore, 1) := by decide +kernel
theorem dX12_level_84 : decode cX12_level 84 = .ok (.iinc 5 1, 3) := by decide +kernel
theorem dX12_level_87 : decode cX12_level 87 = .ok (.goto (-21), 3) := by decide +kernel
theorem dX12_level_90 : decode cX12_level 90 = .ok (.aload_n 0, 1) := by decide +kernel
theorem dX12_level_91 : decode cX12_level 91 = .ok (.aload_n 0, 1) := by decide +kernel
theorem dX12_level_92 : decode cX12_level 92 = .ok (.invokevirtual 93, 3) := by decide +kernel
theorem dX12_level_95 : decode cX12_level 95 = .ok (.aload_n 0, 1) := by decide +kernel
theorem dX12_level_96 : decode cX12_level 96 = .ok (.invokevirtual 137, 3) := by decide +kernel
theorem dX12_level_99 : decode cX12_level 99 = .ok (.iload_n 1, 1) := by decide +kernel
theorem dX12_level_100 : decode cX12_level 100 = .ok (.invokevirtual 234, 3) := by decide +kernel
theorem dX12_level_103 : decode cX12_level 103 = .ok (.istore 5, 2) := by decide +kernel
theorem dX12_level_105 : decode cX12_level 105 = .ok (.iload 5, 2) := by decide +kernel
theorem dX12_level_107 : decode cX12_level 107 = .ok (.iconst (-1), 1) := by decide +kernel
theorem dX12_level_108 : decode cX12_level 108 = .ok (.if_icmp .ne 6, 3) := by decide +kernel
theorem dX12_level_111 : decode cX12_level 111 = .ok (.goto 9, 3) := by decide +kernel
theorem dX12_level_114 : decode cX12_level 114 = .ok (.iload 4, 2) := by decide +kernel
theorem dX12_level_116 : decode cX12_level 116 = .ok (.istore_n 2, 1) := by decide +kernel
theorem dX12_level_117 : decode cX12_level 117 = .ok (.iload 5, 2) := by decide +kernel
theorem dX12_level_119 : decode cX12_level 119 = .ok (.istore_n 3, 1) := by decide +kernel
theorem dX12_level_120 : decode cX12_level 120 = .ok (.iinc 4 (-1), 3) := by decide +kernel
theorem dX12_level_123 : decode cX12_level 123 = .ok (.goto (-69), 3) := by decide +kernel
theorem dX12_level_126 : decode cX12_level 126 = .ok (.iconst 0, 1) := by decide +kernel
theorem dX12_level_127 : decode cX12_level 127 = .ok (.istore 4, 2) := by decide +kernel
theorem dX12_level_129 : decode cX12_level 129 = .ok (.iload 4, 2) := by decide +kernel
theorem dX12_level_131 : decode cX12_level 131 = .ok (.aload_n 0, 1) := by decide +kernel
theorem dX12_level_132 : decode cX12_level 132 = .ok (.getfield 86, 3) := by decide +kernel
theorem dX12_level_135 : decode cX12_level 135 = .ok (.if_icmp .ge 23, 3) := by decide +kernel
theorem dX12_level_138 : decode cX12_level 138 = .ok (.aload_n 0, 1) := by decide +kernel
theorem dX12_level_139 : decode cX12_level 139 = .ok (.getfield 9, 3) := by decide +kernel
theorem dX12_level_142 : decode cX12_level 142 = .ok (.iload 4, 2) := by decide +kernel
theorem dX12_level_144 : decode cX12_level 144 = .ok (.aload_n 0, 1) := by decide +kernel
theorem dX12_level_145 : decode cX12_level 145 = .ok (.getfield 39, 3) := by decide +kernel
theorem dX12_level_148 : decode cX12_level 148 = .ok (.iload 4, 2) := by decide +kernel
theorem dX12_level_150 : decode cX12_level 150 = .ok (.iaload, 1) := by decide +kernel
theorem dX12_level_151 : decode cX12_level 151 = .ok (.iastore, 1) := by decide +kernel
theorem dX12_level_152 : decode cX12_level 152 = .ok (.iinc 4 1, 3) := by decide +kernel
theorem dX12_level_155 : decode cX12_level 155 = .ok (.goto (-26), 3) := by decide +kernel
theorem dX12_level_158 : decode cX12_level 158 = .ok (.iload_n 2, 1) := by decide +kernel
theorem dX12_level_159 : decode cX12_level 159 = .ok (.ifCond .ge 6, 3) := by decide +kernel
theorem dX12_level_162 : decode cX12_level 162 = .ok (.bipush (-2), 2) := by decide +kernel
theorem dX12_level_164 : decode cX12_level 164 = .ok (.ireturn, 1) := by decide +kernel
theorem dX12_level_165 : decode cX12_level 165 = .ok (.aload_n 0, 1) := by decide +kernel
theorem dX12_level_166 : decode cX12_level 166 = .ok (.iconst 0, 1) := by decide +kernel
theorem dX12_level_167 : decode cX12_level 167 = .ok (.putfield 83, 3) := by decide +kernel
theorem dX12_level_170 : decode cX12_level 170 = .ok (.aload_n 0, 1) := by decide +kernel
theorem dX12_level_171 : decode cX12_level 171 = .ok (.iload_n 3, 1) := by decide +kernel
theorem dX12_level_172 : decode cX12_level 172 = .ok (.i2l, 1) := by decide +kernel
theorem dX12_level_173 : decode cX12_level 173 = .ok (.invokevirtual 217, 3) := by decide +kernel
theorem dX12_level_176 : decode cX12_level 176 = .ok (.iload_n 2, 1) := by decide +kernel
theorem dX12_level_177 : decode cX12_level 177 = .ok (.ireturn, 1) := by decide +kernel
set_option maxHeartbeats 4000000 in
set_option maxRecDepth 20000 in
theorem b_m_level_b129 {X : Cx} {d : Nat} (hX : Ok M_m_level (d + 5) X) {r : Int32 × Mem} (hr : RetI M_m_level X r.1 r.2) : ∀ (n : Nat) (x2 : Int32) (x3 : Int32) (x4 : Int32) (μ : Mem) (dy : Nat → Nat), f_m_level_b129 n x2 x3 x4 μ = some r → AW X 129 [(0, .ref (gA (xG X) 111)), (2, .int x2), (3, .int x3), (4, .int x4)] [] μ dy := by
  intro n
  induction n with
  | zero => intro x2 x3 x4 μ dy hf; exact nomatch hf
  | succ n ih =>
    intro x2 x3 x4 μ dy hf
    rw [f_m_level_b129] at hf
    refine r_iload hX dX12_level_129 3 rfl ?_
    refine r_aload_n hX dX12_level_131 0 rfl ?_
    refine r_get hX fl_X12_86 (w_111 _ _ _) rfl dX12_level_132 ?_
    refine r_icmp_ge hX 158 dX12_level_135 rfl (fun hc9 => ?_) (fun hc9 => ?_)
    · rw [if_pos hc9] at hf
      refine r_iload_n hX dX12_level_158 1 rfl ?_
      refine r_if_ge hX 165 dX12_level_159 rfl (fun hc10 => ?_) (fun hc10 => ?_)
      · rw [if_pos hc10] at hf
        refine r_aload_n hX dX12_level_165 0 rfl ?_
        refine r_iconst hX (0 : Int32) dX12_level_166 rfl ?_
        obtain ⟨μ11, e12, hf⟩ := bnd_eq hf
        refine r_put hX fl_X12_83 ft_X12_10 (w_111 _ _ _) rfl rfl rfl (s_111_10 _ _ _ _) e12 rfl dX12_level_167 ?_
        refine r_aload_n hX dX12_level_170 0 rfl ?_
        refine r_iload_n hX dX12_level_171 2 rfl ?_
        refine r_i2l hX dX12_level_172 ?_
        obtain ⟨μ13, h14, hf⟩ := bd1_eq hf
        refine r_callVV (Ok.le hX (by omega)) (c_m_tell (d := d)  h14) cv_X12_217 (w_111 _ _ _) rfl rfl (st := []) rfl rfl rfl dX12_level_173 (fun dy => ?_)
        refine r_iload_n hX dX12_level_176 1 rfl ?_
        exact fin_I hf hr _ _ _ dX12_level_177
      · rw [if_neg hc10] at hf
        refine r_bipush hX (-2 : Int32) dX12_level_162 rfl ?_
        exact fin_I hf hr _ _ _ dX12_level_164
    · rw [if_neg hc9] at hf
      refine r_aload_n hX dX12_level_138 0 rfl ?_
      refine r_get hX fl_X12_9 (w_111 _ _ _) rfl dX12_level_139 ?_
      refine r_iload hX dX12_level_142 3 rfl ?_
      refine r_aload_n hX dX12_level_144 0 rfl ?_
      refine r_get hX fl_X12_39 (w_111 _ _ _) rfl dX12_level_145 ?_
      refine r_iload hX dX12_level_148 3 rfl ?_
      obtain ⟨b15, hf⟩ := chk_eq hf
      refine r_iald hX (w_121 _ _ _) (inb_in b15) dX12_level_150 ?_
      obtain ⟨b16, hf⟩ := chk_eq hf
      obtain ⟨μ17, e18, hf⟩ := bnd_eq hf
      refine r_iast hX (w_112 _ _ _) (inb_in b16) (s_112 _ _ _ _ _) e18 rfl dX12_level_151 ?_
      refine r_iinc hX (x4 + (1 : Int32)) dX12_level_152 3 rfl rfl rfl (ls' := [(4, .int (x4 + (1 : Int32))), (0, .ref (gA (xG X) 111)), (2, .int x2), (3, .int x3)]) rfl ?_
      refine r_goto hX 129 dX12_level_155 rfl ?_
      refine r_weak [1, 2, 3, 0] rfl ?_
      exact ih _ _ _ _ _ hf
set_option maxHeartbeats 4000000 in
set_option maxRecDepth 20000 in
theorem b_m_level_b126 {X : Cx} {d : Nat} (hX : Ok M_m_level (d + 5) X) {r : Int32 × Mem} (hr : RetI M_m_level X r.1 r.2) (x2 : Int32) (x3 : Int32) (μ : Mem) (dy : Nat → Nat) (hf : f_m_level_b126 x2 x3 μ = some r) : AW X 126 [(0, .ref (gA (xG X) 111)), (2, .int x2), (3, .int x3)] [] μ dy := by
  unfold f_m_level_b126 at hf
  refine r_iconst hX (0 : Int32) dX12_level_126 rfl ?_
  refine r_istore hX dX12_level_127 rfl (ls' := [(4, .int (0 : Int32)), (0, .ref (gA (xG X) 111)), (2, .int x2), (3, .int x3)]) rfl ?_
  refine r_weak [1, 2, 3, 0] rfl ?_
  exact b_m_level_b129 hX hr FU _ _ _ _ _ hf
set_option maxHeartbeats 4000000 in
set_option maxRecDepth 20000 in
theorem b_m_level_b66 {X : Cx} {d : Nat} (hX : Ok M_m_level (d + 5) X) {r : Int32 × Mem} (hr : RetI M_m_level X r.1 r.2) {k54 : Int32 → Int32 → Int32 → Int32 → Mem → Option (Int32 × Mem)} (hk54 : ∀ (x1 : Int32) (x2 : Int32) (x3 : Int32) (x4 : Int32) (μ : Mem) (dy : Nat → Nat), k54 x1 x2 x3 x4 μ = some r → AW X 54 [(0, .ref (gA (xG X) 111)), (1, .int x1), (2, .int x2), (3, .int x3), (4, .int x4)] [] μ dy) : ∀ (n : Nat) (x1 : Int32) (x2 : Int32) (x3 : Int32) (x4 : Int32) (x5 : Int32) (μ : Mem) (dy : Nat → Nat), f_m_level_b66 k54 n x1 x2 x3 x4 x5 μ = some r → AW X 66 [(0, .ref (gA (xG X) 111)), (1, .int x1), (2, .int x2), (3, .int x3), (4, .int x4), (5, .int x5)] [] μ dy := by
  intro n
  induction n with
  | zero => intro x1 x2 x3 x4 x5 μ dy hf; exact nomatch hf
  | succ n ih =>
    intro x1 x2 x3 x4 x5 μ dy hf
    rw [f_m_level_b66] at hf
    refine r_iload hX dX12_level_66 5 rfl ?_
    refine r_aload_n hX dX12_level_68 0 rfl ?_
    refine r_get hX fl_X12_86 (w_111 _ _ _) rfl dX12_level_69 ?_
    refine r_icmp_ge hX 90 dX12_level_72 rfl (fun hc20 => ?_) (fun hc20 => ?_)
    · rw [if_pos hc20] at hf
      refine r_aload_n hX dX12_level_90 0 rfl ?_
      refine r_aload_n hX dX12_level_91 0 rfl ?_
      obtain ⟨v23, μ21, h22, hf⟩ := bd2_eq hf
      refine r_callVI (Ok.le hX (by omega)) (c_m_everybody (d := d)  h22) cv_X12_93 (w_111 _ _ _) rfl rfl (st := [.ref (gA (xG X) 111)]) rfl rfl rfl dX12_level_92 (fun dy => ?_)
      refine r_aload_n hX dX12_level_95 0 rfl ?_
      obtain ⟨v26, μ24, h25, hf⟩ := bd2_eq hf
      refine r_callVI (Ok.le hX (by omega)) (c_m_now (d := d)  h25) cv_X12_137 (w_111 _ _ _) rfl rfl (st := [.int v23, .ref (gA (xG X) 111)]) rfl rfl rfl dX12_level_96 (fun dy => ?_)
      refine r_iload_n hX dX12_level_99 1 rfl ?_
      obtain ⟨v29, μ27, h28, hf⟩ := bd2_eq hf
      refine r_callVI (Ok.le hX (by omega)) (c_m_dayOf (d := d)  h28) cv_X12_234 (w_111 _ _ _) rfl rfl (st := []) rfl rfl rfl dX12_level_100 (fun dy => ?_)
      refine r_istore hX dX12_level_103 rfl (ls' := [(5, .int v29), (0, .ref (gA (xG X) 111)), (1, .int x1), (2, .int x2), (3, .int x3), (4, .int x4)]) rfl ?_
      refine r_iload hX dX12_level_105 0 rfl ?_
      refine r_iconst hX (-1 : Int32) dX12_level_107 rfl ?_
      refine r_icmp_ne hX 114 dX12_level_108 rfl (fun hc30 => ?_) (fun hc30 => ?_)
      · rw [if_neg hc30] at hf
        refine r_iload hX dX12_level_114 5 rfl ?_
        refine r_istore_n hX dX12_level_116 rfl (ls' := [(2, .int x4), (5, .int v29), (0, .ref (gA (xG X) 111)), (1, .int x1), (3, .int x3), (4, .int x4)]) rfl ?_
        refine r_iload hX dX12_level_117 1 rfl ?_
        refine r_istore_n hX dX12_level_119 rfl (ls' := [(3, .int v29), (2, .int x4), (5, .int v29), (0, .ref (gA (xG X) 111)), (1, .int x1), (4, .int x4)]) rfl ?_
        refine r_iinc hX (x4 + (-1 : Int32)) dX12_level_120 5 rfl rfl rfl (ls' := [(4, .int (x4 + (-1 : Int32))), (3, .int v29), (2, .int x4), (5, .int v29), (0, .ref (gA (xG X) 111)), (1, .int x1)]) rfl ?_
        refine r_goto hX 54 dX12_level_123 rfl ?_
        refine r_weak [4, 5, 2, 1, 0] rfl ?_
        exact hk54 _ _ _ _ _ _ hf
      · rw [if_pos hc30] at hf
        refine r_goto hX 120 dX12_level_111 rfl ?_
        refine r_iinc hX (x4 + (-1 : Int32)) dX12_level_120 5 rfl rfl rfl (ls' := [(4, .int (x4 + (-1 : Int32))), (5, .int v29), (0, .ref (gA (xG X) 111)), (1, .int x1), (2, .int x2), (3, .int x3)]) rfl ?_
        refine r_goto hX 54 dX12_level_123 rfl ?_
        refine r_weak [2, 3, 4, 5, 0] rfl ?_
        exact hk54 _ _ _ _ _ _ hf
    · rw [if_neg hc20] at hf
      refine r_aload_n hX dX12_level_75 0 rfl ?_
      refine r_get hX fl_X12_9 (w_111 _ _ _) rfl dX12_level_76 ?_
      refine r_iload hX dX12_level_79 5 rfl ?_
      refine r_iload hX dX12_level_81 4 rfl ?_
      obtain ⟨b31, hf⟩ := chk_eq hf
      obtain ⟨μ32, e33, hf⟩ := bnd_eq hf
      refine r_iast hX (w_112 _ _ _) (inb_in b31) (s_112 _ _ _ _ _) e33 rfl dX12_level_83 ?_
      refine r_iinc hX (x5 + (1 : Int32)) dX12_level_84 5 rfl rfl rfl (ls' := [(5, .int (x5 + (1 : Int32))), (0, .ref (gA (xG X) 111)), (1, .int x1), (2, .int x2), (3, .int x3), (4, .int x4)]) rfl ?_
      refine r_goto hX 66 dX12_level_87 rfl ?_
      refine r_weak [1, 2, 3, 4, 5, 0] rfl ?_
      exact ih _ _ _ _ _ _ _ hf
set_option maxHeartbeats 4000000 in
set_option maxRecDepth 20000 in
theorem b_m_level_b54 {X : Cx} {d : Nat} (hX : Ok M_m_level (d + 5) X) {r : Int32 × Mem} (hr : RetI M_m_level X r.1 r.2) : ∀ (n : Nat) (x1 : Int32) (x2 : Int32) (x3 : Int32) (x4 : Int32) (μ : Mem) (dy : Nat → Nat), f_m_level_b54 n x1 x2 x3 x4 μ = some r → AW X 54 [(0, .ref (gA (xG X) 111)), (1, .int x1), (2, .int x2), (3, .int x3), (4, .int x4)] [] μ dy := by
  intro n
  induction n with
  | zero => intro x1 x2 x3 x4 μ dy hf; exact nomatch hf
  | succ n ih =>
    intro x1 x2 x3 x4 μ dy hf
    rw [f_m_level_b54] at hf
    refine r_iload hX dX12_level_54 4 rfl ?_
    refine r_if_lt hX 126 dX12_level_56 rfl (fun hc8 => ?_) (fun hc8 => ?_)
    · rw [if_pos hc8] at hf
      refine r_weak [0, 2, 3] rfl ?_
      exact b_m_level_b126 hX hr _ _ _ _ hf
    · rw [if_neg hc8] at hf
      refine r_iload_n hX dX12_level_59 2 rfl ?_
      refine r_if_ge hX 126 dX12_level_60 rfl (fun hc19 => ?_) (fun hc19 => ?_)
      · rw [if_pos hc19] at hf
        refine r_weak [0, 2, 3] rfl ?_
        exact b_m_level_b126 hX hr _ _ _ _ hf
      · rw [if_neg hc19] at hf
        refine r_iconst hX (0 : Int32) dX12_level_63 rfl ?_
        refine r_istore hX dX12_level_64 rfl (ls' := [(5, .int (0 : Int32)), (0, .ref (gA (xG X) 111)), (1, .int x1), (2, .int x2), (3, .int x3), (4, .int x4)]) rfl ?_
        refine r_weak [1, 2, 3, 4, 5, 0] rfl ?_
        exact b_m_level_b66 hX hr ih FU _ _ _ _ _ _ _ hf
set_option maxHeartbeats 4000000 in
set_option maxRecDepth 20000 in
theorem b_m_level_b19 {X : Cx} {d : Nat} (hX : Ok M_m_level (d + 5) X) {r : Int32 × Mem} (hr : RetI M_m_level X r.1 r.2) : ∀ (n : Nat) (x1 : Int32) (x2 : Int32) (μ : Mem) (dy : Nat → Nat), f_m_level_b19 n x1 x2 μ = some r → AW X 19 [(0, .ref (gA (xG X) 111)), (1, .int x1), (2, .int x2)] [] μ dy := by
  intro n
  induction n with
  | zero => intro x1 x2 μ dy hf; exact nomatch hf
  | succ n ih =>
    intro x1 x2 μ dy hf
    rw [f_m_level_b19] at hf
    refine r_iload_n hX dX12_level_19 2 rfl ?_
    refine r_aload_n hX dX12_level_20 0 rfl ?_
    refine r_get hX fl_X12_86 (w_111 _ _ _) rfl dX12_level_21 ?_
    refine r_icmp_ge hX 45 dX12_level_24 rfl (fun hc7 => ?_) (fun hc7 => ?_)
    · rw [if_pos hc7] at hf
      refine r_bipush hX (-2 : Int32) dX12_level_45 rfl ?_
      refine r_istore_n hX dX12_level_47 rfl (ls' := [(2, .int (-2 : Int32)), (0, .ref (gA (xG X) 111)), (1, .int x1)]) rfl ?_
      refine r_iconst hX (0 : Int32) dX12_level_48 rfl ?_
      refine r_istore_n hX dX12_level_49 rfl (ls' := [(3, .int (0 : Int32)), (2, .int (-2 : Int32)), (0, .ref (gA (xG X) 111)), (1, .int x1)]) rfl ?_
      refine r_bipush hX (99 : Int32) dX12_level_50 rfl ?_
      refine r_istore hX dX12_level_52 rfl (ls' := [(4, .int (99 : Int32)), (3, .int (0 : Int32)), (2, .int (-2 : Int32)), (0, .ref (gA (xG X) 111)), (1, .int x1)]) rfl ?_
      refine r_weak [3, 4, 2, 1, 0] rfl ?_
      exact b_m_level_b54 hX hr FU _ _ _ _ _ _ hf
    · rw [if_neg hc7] at hf
      refine r_aload_n hX dX12_level_27 0 rfl ?_
      refine r_get hX fl_X12_39 (w_111 _ _ _) rfl dX12_level_28 ?_
      refine r_iload_n hX dX12_level_31 2 rfl ?_
      refine r_aload_n hX dX12_level_32 0 rfl ?_
      refine r_get hX fl_X12_9 (w_111 _ _ _) rfl dX12_level_33 ?_
      refine r_iload_n hX dX12_level_36 2 rfl ?_
      obtain ⟨b34, hf⟩ := chk_eq hf
      refine r_iald hX (w_112 _ _ _) (inb_in b34) dX12_level_37 ?_
      obtain ⟨b35, hf⟩ := chk_eq hf
      obtain ⟨μ36, e37, hf⟩ := bnd_eq hf
      refine r_iast hX (w_121 _ _ _) (inb_in b35) (s_121 _ _ _ _ _) e37 rfl dX12_level_38 ?_
      refine r_iinc hX (x2 + (1 : Int32)) dX12_level_39 2 rfl rfl rfl (ls' := [(2, .int (x2 + (1 : Int32))), (0, .ref (gA (xG X) 111)), (1, .int x1)]) rfl ?_
      refine r_goto hX 19 dX12_level_42 rfl ?_
      refine r_weak [1, 2, 0] rfl ?_
      exact ih _ _ _ _ hf
set_option maxHeartbeats 4000000 in
set_option maxRecDepth 20000 in
theorem c_m_level {G : Gx} {d : Nat} {x1 : Int32} {μ : Mem} {r : Int32 × Mem} (hf : f_m_level x1 μ = some r) : Con G M_m_level (d + 5) [.ref (gA G 111), .int x1] μ (some (.int r.1), r.2) := by
  refine Con.ofI ⟨rfl, rfl, Nat.le_of_ble_eq_true rfl⟩ rfl rfl (fun X hG hX hr dy => ?_)
  subst hG
  show AW X 0 [(0, .ref (gA (xG X) 111)), (1, .int x1)] [] μ dy
  unfold f_m_level at hf
  refine r_aload_n hX dX12_level_0 0 rfl ?_
  refine r_iconst hX (0 : Int32) dX12_level_1 rfl ?_
  obtain ⟨μ1, e2, hf⟩ := bnd_eq hf
  refine r_put hX fl_X12_80 ft_X12_11 (w_111 _ _ _) rfl rfl rfl (s_111_11 _ _ _ _) e2 rfl dX12_level_2 ?_
  refine r_iload_n hX dX12_level_5 1 rfl ?_
  refine r_iconst hX (0 : Int32) dX12_level_6 rfl ?_
  refine r_bipush hX (20 : Int32) dX12_level_7 rfl ?_
  obtain ⟨v5, μ3, h4, hf⟩ := bd2_eq hf
  refine r_callSI (Ok.le hX (by omega)) (c_m_in (d := d)  h4) cs_X12_89 (st := []) rfl rfl rfl dX12_level_9 (fun dy => ?_)
  refine r_if_ne hX 17 dX12_level_12 rfl (fun hc6 => ?_) (fun hc6 => ?_)
  · rw [if_neg hc6] at hf
    refine r_iconst hX (0 : Int32) dX12_level_17 rfl ?_
    refine r_istore_n hX dX12_level_18 rfl (ls' := [(2, .int (0 : Int32)), (0, .ref (gA (xG X) 111)), (1, .int x1)]) rfl ?_
    refine r_weak [1, 2, 0] rfl ?_
    exact b_m_level_b19 hX hr FU _ _ _ _ hf
  · rw [if_pos hc6] at hf
    refine r_iconst hX (-1 : Int32) dX12_level_15 rfl ?_
    exact fin_I hf hr _ _ _ dX12_level_16
