theorem dX12_tell_0 : decode cX12_tell 0 = .ok (.aload_n 0, 1) := by decide +kernel
theorem dX12_tell_1 : decode cX12_tell 1 = .ok (.getfield 26, 3) := by decide +kernel
theorem dX12_tell_4 : decode cX12_tell 4 = .ok (.aload_n 0, 1) := by decide +kernel
theorem dX12_tell_5 : decode cX12_tell 5 = .ok (.getfield 83, 3) := by decide +kernel
theorem dX12_tell_8 : decode cX12_tell 8 = .ok (.lload_n 1, 1) := by decide +kernel
theorem dX12_tell_9 : decode cX12_tell 9 = .ok (.lastore, 1) := by decide +kernel
theorem dX12_tell_10 : decode cX12_tell 10 = .ok (.aload_n 0, 1) := by decide +kernel
theorem dX12_tell_11 : decode cX12_tell 11 = .ok (.dup, 1) := by decide +kernel
theorem dX12_tell_12 : decode cX12_tell 12 = .ok (.getfield 83, 3) := by decide +kernel
theorem dX12_tell_15 : decode cX12_tell 15 = .ok (.iconst 1, 1) := by decide +kernel
theorem dX12_tell_16 : decode cX12_tell 16 = .ok (.iadd, 1) := by decide +kernel
theorem dX12_tell_17 : decode cX12_tell 17 = .ok (.putfield 83, 3) := by decide +kernel
theorem dX12_tell_20 : decode cX12_tell 20 = .ok (.return_, 1) := by decide +kernel
set_option maxHeartbeats 4000000 in
set_option maxRecDepth 20000 in
theorem c_m_tell {G : Gx} {d : Nat} {y1 : Int64} {μ : Mem} {r : Mem} (hf : f_m_tell y1 μ = some r) : Con G M_m_tell (d + 0) [.ref (gA G 111), .long y1] μ (none, r) := by
  refine Con.ofV ⟨rfl, rfl, Nat.le_of_ble_eq_true rfl⟩ rfl (fun X hG hX hr dy => ?_)
  subst hG
  show AW X 0 [(0, .ref (gA (xG X) 111)), (1, .long y1)] [] μ dy
  unfold f_m_tell at hf
  refine r_aload_n hX dX12_tell_0 0 rfl ?_
  refine r_get hX fl_X12_26 (w_111 _ _ _) rfl dX12_tell_1 ?_
  refine r_aload_n hX dX12_tell_4 0 rfl ?_
  refine r_get hX fl_X12_83 (w_111 _ _ _) rfl dX12_tell_5 ?_
  refine r_lload_n hX dX12_tell_8 1 rfl ?_
  obtain ⟨b1, hf⟩ := chk_eq hf
  obtain ⟨μ2, e3, hf⟩ := bnd_eq hf
  refine r_last hX (w_117 _ _ _) (inb_in b1) (s_117 _ _ _ _ _) e3 rfl dX12_tell_9 ?_
  refine r_aload_n hX dX12_tell_10 0 rfl ?_
  refine r_dup hX dX12_tell_11 rfl ?_
  refine r_get hX fl_X12_83 (w_111 _ _ _) rfl dX12_tell_12 ?_
  refine r_iconst hX (1 : Int32) dX12_tell_15 rfl ?_
  refine r_iadd hX dX12_tell_16 ?_
  obtain ⟨μ4, e5, hf⟩ := bnd_eq hf
  refine r_put hX fl_X12_83 ft_X12_10 (w_111 _ _ _) rfl rfl rfl (s_111_10 _ _ _ _) e5 rfl dX12_tell_17 ?_
  exact fin_V hf hr _ _ _ dX12_tell_20
theorem dX12_isOne_0 : decode cX12_isOne 0 = .ok (.iload_n 1, 1) := by decide +kernel
theorem dX12_isOne_1 : decode cX12_isOne 1 = .ok (.iconst 0, 1) := by decide +kernel
theorem dX12_isOne_2 : decode cX12_isOne 2 = .ok (.aload_n 0, 1) := by decide +kernel
theorem dX12_isOne_3 : decode cX12_isOne 3 = .ok (.getfield 86, 3) := by decide +kernel
theorem dX12_isOne_6 : decode cX12_isOne 6 = .ok (.iconst 1, 1) := by decide +kernel
theorem dX12_isOne_7 : decode cX12_isOne 7 = .ok (.isub, 1) := by decide +kernel
theorem dX12_isOne_8 : decode cX12_isOne 8 = .ok (.invokestatic 89, 3) := by decide +kernel
theorem dX12_isOne_11 : decode cX12_isOne 11 = .ok (.ireturn, 1) := by decide +kernel
set_option maxHeartbeats 4000000 in
set_option maxRecDepth 20000 in
theorem c_m_isOne {G : Gx} {d : Nat} {x1 : Int32} {μ : Mem} {r : Int32 × Mem} (hf : f_m_isOne x1 μ = some r) : Con G M_m_isOne (d + 1) [.ref (gA G 111), .int x1] μ (some (.int r.1), r.2) := by
  refine Con.ofZ ⟨rfl, rfl, Nat.le_of_ble_eq_true rfl⟩ rfl (fun X hG hX hr dy => ?_)
  subst hG
  show AW X 0 [(0, .ref (gA (xG X) 111)), (1, .int x1)] [] μ dy
  unfold f_m_isOne at hf
  refine r_iload_n hX dX12_isOne_0 1 rfl ?_
  refine r_iconst hX (0 : Int32) dX12_isOne_1 rfl ?_
  refine r_aload_n hX dX12_isOne_2 0 rfl ?_
  refine r_get hX fl_X12_86 (w_111 _ _ _) rfl dX12_isOne_3 ?_
  refine r_iconst hX (1 : Int32) dX12_isOne_6 rfl ?_
  refine r_isub hX dX12_isOne_7 ?_
  obtain ⟨v3, μ1, h2, hf⟩ := bd2_eq hf
  refine r_callSI (Ok.le hX (by omega)) (c_m_in (d := d)  h2) cs_X12_89 (st := []) rfl rfl rfl dX12_isOne_8 (fun dy => ?_)
  obtain ⟨b4, hf⟩ := chk_eq hf
  exact fin_Z hf hr _ _ _ (zb_nar b4) dX12_isOne_11
theorem dX12_everybody_0 : decode cX12_everybody 0 = .ok (.iconst 1, 1) := by decide +kernel
theorem dX12_everybody_1 : decode cX12_everybody 1 = .ok (.aload_n 0, 1) := by decide +kernel
theorem dX12_everybody_2 : decode cX12_everybody 2 = .ok (.getfield 86, 3) := by decide +kernel
theorem dX12_everybody_5 : decode cX12_everybody 5 = .ok (.ishl, 1) := by decide +kernel
theorem dX12_everybody_6 : decode cX12_everybody 6 = .ok (.iconst 1, 1) := by decide +kernel
theorem dX12_everybody_7 : decode cX12_everybody 7 = .ok (.isub, 1) := by decide +kernel
theorem dX12_everybody_8 : decode cX12_everybody 8 = .ok (.ireturn, 1) := by decide +kernel
set_option maxHeartbeats 4000000 in
set_option maxRecDepth 20000 in
theorem c_m_everybody {G : Gx} {d : Nat}  {μ : Mem} {r : Int32 × Mem} (hf : f_m_everybody  μ = some r) : Con G M_m_everybody (d + 0) [.ref (gA G 111)] μ (some (.int r.1), r.2) := by
  refine Con.ofI ⟨rfl, rfl, Nat.le_of_ble_eq_true rfl⟩ rfl rfl (fun X hG hX hr dy => ?_)
  subst hG
  show AW X 0 [(0, .ref (gA (xG X) 111))] [] μ dy
  unfold f_m_everybody at hf
  refine r_iconst hX (1 : Int32) dX12_everybody_0 rfl ?_
  refine r_aload_n hX dX12_everybody_1 0 rfl ?_
  refine r_get hX fl_X12_86 (w_111 _ _ _) rfl dX12_everybody_2 ?_
  refine r_ishl hX dX12_everybody_5 ?_
  refine r_iconst hX (1 : Int32) dX12_everybody_6 rfl ?_
  refine r_isub hX dX12_everybody_7 ?_
  exact fin_I hf hr _ _ _ dX12_everybody_8
theorem dX12_areSome_0 : decode cX12_areSome 0 = .ok (.iload_n 1, 1) := by decide +kernel
theorem dX12_areSome_1 : decode cX12_areSome 1 = .ok (.iconst 0, 1) := by decide +kernel
theorem dX12_areSome_2 : decode cX12_areSome 2 = .ok (.aload_n 0, 1) := by decide +kernel
theorem dX12_areSome_3 : decode cX12_areSome 3 = .ok (.invokevirtual 93, 3) := by decide +kernel
theorem dX12_areSome_6 : decode cX12_areSome 6 = .ok (.invokestatic 89, 3) := by decide +kernel
theorem dX12_areSome_9 : decode cX12_areSome 9 = .ok (.ireturn, 1) := by decide +kernel
set_option maxHeartbeats 4000000 in
set_option maxRecDepth 20000 in
theorem c_m_areSome {G : Gx} {d : Nat} {x1 : Int32} {μ : Mem} {r : Int32 × Mem} (hf : f_m_areSome x1 μ = some r) : Con G M_m_areSome (d + 1) [.ref (gA G 111), .int x1] μ (some (.int r.1), r.2) := by
  refine Con.ofZ ⟨rfl, rfl, Nat.le_of_ble_eq_true rfl⟩ rfl (fun X hG hX hr dy => ?_)
  subst hG
  show AW X 0 [(0, .ref (gA (xG X) 111)), (1, .int x1)] [] μ dy
  unfold f_m_areSome at hf
  refine r_iload_n hX dX12_areSome_0 1 rfl ?_
  refine r_iconst hX (0 : Int32) dX12_areSome_1 rfl ?_
  refine r_aload_n hX dX12_areSome_2 0 rfl ?_
  obtain ⟨v3, μ1, h2, hf⟩ := bd2_eq hf
  refine r_callVI (Ok.le hX (by omega)) (c_m_everybody (d := d)  h2) cv_X12_93 (w_111 _ _ _) rfl rfl (st := [.int (0 : Int32), .int x1]) rfl rfl rfl dX12_areSome_3 (fun dy => ?_)
  obtain ⟨v6, μ4, h5, hf⟩ := bd2_eq hf
  refine r_callSI (Ok.le hX (by omega)) (c_m_in (d := d)  h5) cs_X12_89 (st := []) rfl rfl rfl dX12_areSome_6 (fun dy => ?_)
  obtain ⟨b7, hf⟩ := chk_eq hf
  exact fin_Z hf hr _ _ _ (zb_nar b7) dX12_areSome_9
theorem dX12_now_0 : decode cX12_now 0 = .ok (.aload_n 0, 1) := by decide +kernel
theorem dX12_now_1 : decode cX12_now 1 = .ok (.getfield 19, 3) := by decide +kernel
theorem dX12_now_4 : decode cX12_now 4 = .ok (.aload_n 0, 1) := by decide +kernel
theorem dX12_now_5 : decode cX12_now 5 = .ok (.getfield 97, 3) := by decide +kernel
theorem dX12_now_8 : decode cX12_now 8 = .ok (.iaload, 1) := by decide +kernel
theorem dX12_now_9 : decode cX12_now 9 = .ok (.ireturn, 1) := by decide +kernel
set_option maxHeartbeats 4000000 in
set_option maxRecDepth 20000 in
theorem c_m_now {G : Gx} {d : Nat}  {μ : Mem} {r : Int32 × Mem} (hf : f_m_now  μ = some r) : Con G M_m_now (d + 0) [.ref (gA G 111)] μ (some (.int r.1), r.2) := by
  refine Con.ofI ⟨rfl, rfl, Nat.le_of_ble_eq_true rfl⟩ rfl rfl (fun X hG hX hr dy => ?_)
  subst hG
  show AW X 0 [(0, .ref (gA (xG X) 111))] [] μ dy
  unfold f_m_now at hf
  refine r_aload_n hX dX12_now_0 0 rfl ?_
  refine r_get hX fl_X12_19 (w_111 _ _ _) rfl dX12_now_1 ?_
  refine r_aload_n hX dX12_now_4 0 rfl ?_
  refine r_get hX fl_X12_97 (w_111 _ _ _) rfl dX12_now_5 ?_
  obtain ⟨b1, hf⟩ := chk_eq hf
  refine r_iald hX (w_115 _ _ _) (inb_in b1) dX12_now_8 ?_
  exact fin_I hf hr _ _ _ dX12_now_9
theorem dX12_sign_0 : decode cX12_sign 0 = .ok (.aload_n 0, 1) := by decide +kernel
theorem dX12_sign_1 : decode cX12_sign 1 = .ok (.iconst 0, 1) := by decide +kernel
theorem dX12_sign_2 : decode cX12_sign 2 = .ok (.putfield 80, 3) := by decide +kernel
theorem dX12_sign_5 : decode cX12_sign 5 = .ok (.aload_n 0, 1) := by decide +kernel
theorem dX12_sign_6 : decode cX12_sign 6 = .ok (.getfield 100, 3) := by decide +kernel
theorem dX12_sign_9 : decode cX12_sign 9 = .ok (.iconst 4, 1) := by decide +kernel
theorem dX12_sign_10 : decode cX12_sign 10 = .ok (.iadd, 1) := by decide +kernel
theorem dX12_sign_11 : decode cX12_sign 11 = .ok (.bipush 80, 2) := by decide +kernel
theorem dX12_sign_13 : decode cX12_sign 13 = .ok (.if_icmp .le 5, 3) := by decide +kernel
theorem dX12_sign_16 : decode cX12_sign 16 = .ok (.iconst (-1), 1) := by decide +kernel
theorem dX12_sign_17 : decode cX12_sign 17 = .ok (.ireturn, 1) := by decide +kernel
theorem dX12_sign_18 : decode cX12_sign 18 = .ok (.iconst 3, 1) := by decide +kernel
theorem dX12_sign_19 : decode cX12_sign 19 = .ok (.istore_n 2, 1) := by decide +kernel
theorem dX12_sign_20 : decode cX12_sign 20 = .ok (.iload_n 2, 1) := by decide +kernel
theorem dX12_sign_21 : decode cX12_sign 21 = .ok (.ifCond .lt 32, 3) := by decide +kernel
theorem dX12_sign_24 : decode cX12_sign 24 = .ok (.aload_n 0, 1) := by decide +kernel
theorem dX12_sign_25 : decode cX12_sign 25 = .ok (.getfield 22, 3) := by decide +kernel
theorem dX12_sign_28 : decode cX12_sign 28 = .ok (.aload_n 0, 1) := by decide +kernel
theorem dX12_sign_29 : decode cX12_sign 29 = .ok (.dup, 1) := by decide +kernel
theorem dX12_sign_30 : decode cX12_sign 30 = .ok (.getfield 100, 3) := by decide +kernel
theorem dX12_sign_33 : decode cX12_sign 33 = .ok (.dup_x1, 1) := by decide +kernel
theorem dX12_sign_34 : decode cX12_sign 34 = .ok (.iconst 1, 1) := by decide +kernel
theorem dX12_sign_35 : decode cX12_sign 35 = .ok (.iadd, 1) := by decide +kernel
theorem dX12_sign_36 : decode cX12_sign 36 = .ok (.putfield 100, 3) := by decide +kernel
theorem dX12_sign_39 : decode cX12_sign 39 = .ok (.iload_n 1, 1) := by decide +kernel
theorem dX12_sign_40 : decode cX12_sign 40 = .ok (.bipush 8, 2) := by decide +kernel
theorem dX12_sign_42 : decode cX12_sign 42 = .ok (.iload_n 2, 1) := by decide +kernel
theorem dX12_sign_43 : decode cX12_sign 43 = .ok (.imul, 1) := by decide +kernel
theorem dX12_sign_44 : decode cX12_sign 44 = .ok (.ishr, 1) := by decide +kernel
theorem dX12_sign_45 : decode cX12_sign 45 = .ok (.i2b, 1) := by decide +kernel
theorem dX12_sign_46 : decode cX12_sign 46 = .ok (.bastore, 1) := by decide +kernel
theorem dX12_sign_47 : decode cX12_sign 47 = .ok (.iinc 2 (-1), 3) := by decide +kernel
theorem dX12_sign_50 : decode cX12_sign 50 = .ok (.goto (-30), 3) := by decide +kernel
theorem dX12_sign_53 : decode cX12_sign 53 = .ok (.aload_n 0, 1) := by decide +kernel
theorem dX12_sign_54 : decode cX12_sign 54 = .ok (.getfield 100, 3) := by decide +kernel
theorem dX12_sign_57 : decode cX12_sign 57 = .ok (.ireturn, 1) := by decide +kernel
set_option maxHeartbeats 4000000 in
set_option maxRecDepth 20000 in
theorem b_m_sign_b20 {X : Cx} {d : Nat} (hX : Ok M_m_sign (d + 0) X) {r : Int32 × Mem} (hr : RetI M_m_sign X r.1 r.2) : ∀ (n : Nat) (x1 : Int32) (x2 : Int32) (μ : Mem) (dy : Nat → Nat), f_m_sign_b20 n x1 x2 μ = some r → AW X 20 [(0, .ref (gA (xG X) 111)), (1, .int x1), (2, .int x2)] [] μ dy := by
  intro n
  induction n with
  | zero => intro x1 x2 μ dy hf; exact nomatch hf
  | succ n ih =>
    intro x1 x2 μ dy hf
    rw [f_m_sign_b20] at hf
    refine r_iload_n hX dX12_sign_20 2 rfl ?_
    refine r_if_lt hX 53 dX12_sign_21 rfl (fun hc4 => ?_) (fun hc4 => ?_)
    · rw [if_pos hc4] at hf
      refine r_aload_n hX dX12_sign_53 0 rfl ?_
      refine r_get hX fl_X12_100 (w_111 _ _ _) rfl dX12_sign_54 ?_
      exact fin_I hf hr _ _ _ dX12_sign_57
    · rw [if_neg hc4] at hf
      refine r_aload_n hX dX12_sign_24 0 rfl ?_
      refine r_get hX fl_X12_22 (w_111 _ _ _) rfl dX12_sign_25 ?_
      refine r_aload_n hX dX12_sign_28 0 rfl ?_
      refine r_dup hX dX12_sign_29 rfl ?_
      refine r_get hX fl_X12_100 (w_111 _ _ _) rfl dX12_sign_30 ?_
      refine r_dup_x1 hX dX12_sign_33 rfl rfl ?_
      refine r_iconst hX (1 : Int32) dX12_sign_34 rfl ?_
      refine r_iadd hX dX12_sign_35 ?_
      obtain ⟨μ5, e6, hf⟩ := bnd_eq hf
      refine r_put hX fl_X12_100 ft_X12_8 (w_111 _ _ _) rfl rfl rfl (s_111_8 _ _ _ _) e6 rfl dX12_sign_36 ?_
      refine r_iload_n hX dX12_sign_39 1 rfl ?_
      refine r_bipush hX (8 : Int32) dX12_sign_40 rfl ?_
      refine r_iload_n hX dX12_sign_42 2 rfl ?_
      refine r_imul hX dX12_sign_43 ?_
      refine r_ishr hX dX12_sign_44 ?_
      refine r_i2b hX dX12_sign_45 ?_
      obtain ⟨b7, hf⟩ := chk_eq hf
      obtain ⟨μ8, e9, hf⟩ := bnd_eq hf
      refine r_bast hX (w_116 _ _ _) (inb_in b7) (s_116 _ _ _ _ _) e9 rfl dX12_sign_46 ?_
      refine r_iinc hX (x2 + (-1 : Int32)) dX12_sign_47 2 rfl rfl rfl (ls' := [(2, .int (x2 + (-1 : Int32))), (0, .ref (gA (xG X) 111)), (1, .int x1)]) rfl ?_
      refine r_goto hX 20 dX12_sign_50 rfl ?_
      refine r_weak [1, 2, 0] rfl ?_
      exact ih _ _ _ _ hf
set_option maxHeartbeats 4000000 in
set_option maxRecDepth 20000 in
theorem c_m_sign {G : Gx} {d : Nat} {x1 : Int32} {μ : Mem} {r : Int32 × Mem} (hf : f_m_sign x1 μ = some r) : Con G M_m_sign (d + 0) [.ref (gA G 111), .int x1] μ (some (.int r.1), r.2) := by
  refine Con.ofI ⟨rfl, rfl, Nat.le_of_ble_eq_true rfl⟩ rfl rfl (fun X hG hX hr dy => ?_)
  subst hG
  show AW X 0 [(0, .ref (gA (xG X) 111)), (1, .int x1)] [] μ dy
  unfold f_m_sign at hf
  refine r_aload_n hX dX12_sign_0 0 rfl ?_
  refine r_iconst hX (0 : Int32) dX12_sign_1 rfl ?_
  obtain ⟨μ1, e2, hf⟩ := bnd_eq hf
  refine r_put hX fl_X12_80 ft_X12_11 (w_111 _ _ _) rfl rfl rfl (s_111_11 _ _ _ _) e2 rfl dX12_sign_2 ?_
  refine r_aload_n hX dX12_sign_5 0 rfl ?_
  refine r_get hX fl_X12_100 (w_111 _ _ _) rfl dX12_sign_6 ?_
  refine r_iconst hX (4 : Int32) dX12_sign_9 rfl ?_
  refine r_iadd hX dX12_sign_10 ?_
  refine r_bipush hX (80 : Int32) dX12_sign_11 rfl ?_
  refine r_icmp_le hX 18 dX12_sign_13 rfl (fun hc3 => ?_) (fun hc3 => ?_)
  · rw [if_pos hc3] at hf
    refine r_iconst hX (3 : Int32) dX12_sign_18 rfl ?_
    refine r_istore_n hX dX12_sign_19 rfl (ls' := [(2, .int (3 : Int32)), (0, .ref (gA (xG X) 111)), (1, .int x1)]) rfl ?_
    refine r_weak [1, 2, 0] rfl ?_
    exact b_m_sign_b20 hX hr FU _ _ _ _ hf
  · rw [if_neg hc3] at hf
    refine r_iconst hX (-1 : Int32) dX12_sign_16 rfl ?_
    exact fin_I hf hr _ _ _ dX12_sign_17
theorem dX12_end_0 : decode cX12_end 0 = .ok (.aload_n 0, 1) := by decide +kernel
theorem dX12_end_1 : decode cX12_end 1 = .ok (.iconst 0, 1) := by decide +kernel
theorem dX12_end_2 : decode cX12_end 2 = .ok (.putfield 80, 3) := by decide +kernel
theorem dX12_end_5 : decode cX12_end 5 = .ok (.iload_n 1, 1) := by decide +kernel
theorem dX12_end_6 : decode cX12_end 6 = .ok (.iconst 0, 1) := by decide +kernel
theorem dX12_end_7 : decode cX12_end 7 = .ok (.aload_n 0, 1) := by decide +kernel
theorem dX12_end_8 : decode cX12_end 8 = .ok (.getfield 100, 3) := by decide +kernel
theorem dX12_end_11 : decode cX12_end 11 = .ok (.invokestatic 89, 3) := by decide +kernel
theorem dX12_end_14 : decode cX12_end 14 = .ok (.ifCond .ne 5, 3) := by decide +kernel
theorem dX12_end_17 : decode cX12_end 17 = .ok (.iconst 0, 1) := by decide +kernel
theorem dX12_end_18 : decode cX12_end 18 = .ok (.ireturn, 1) := by decide +kernel
theorem dX12_end_19 : decode cX12_end 19 = .ok (.aload_n 0, 1) := by decide +kernel
theorem dX12_end_20 : decode cX12_end 20 = .ok (.iload_n 1, 1) := by decide +kernel
theorem dX12_end_21 : decode cX12_end 21 = .ok (.putfield 100, 3) := by decide +kernel
theorem dX12_end_24 : decode cX12_end 24 = .ok (.iconst 1, 1) := by decide +kernel
theorem dX12_end_25 : decode cX12_end 25 = .ok (.ireturn, 1) := by decide +kernel
set_option maxHeartbeats 4000000 in
set_option maxRecDepth 20000 in
theorem c_m_end {G : Gx} {d : Nat} {x1 : Int32} {μ : Mem} {r : Int32 × Mem} (hf : f_m_end x1 μ = some r) : Con G M_m_end (d + 1) [.ref (gA G 111), .int x1] μ (some (.int r.1), r.2) := by
  refine Con.ofZ ⟨rfl, rfl, Nat.le_of_ble_eq_true rfl⟩ rfl (fun X hG hX hr dy => ?_)
  subst hG
  show AW X 0 [(0, .ref (gA (xG X) 111)), (1, .int x1)] [] μ dy
  unfold f_m_end at hf
  refine r_aload_n hX dX12_end_0 0 rfl ?_
  refine r_iconst hX (0 : Int32) dX12_end_1 rfl ?_
  obtain ⟨μ1, e2, hf⟩ := bnd_eq hf
  refine r_put hX fl_X12_80 ft_X12_11 (w_111 _ _ _) rfl rfl rfl (s_111_11 _ _ _ _) e2 rfl dX12_end_2 ?_
  refine r_iload_n hX dX12_end_5 1 rfl ?_
  refine r_iconst hX (0 : Int32) dX12_end_6 rfl ?_
  refine r_aload_n hX dX12_end_7 0 rfl ?_
  refine r_get hX fl_X12_100 (w_111 _ _ _) rfl dX12_end_8 ?_
  obtain ⟨v5, μ3, h4, hf⟩ := bd2_eq hf
  refine r_callSI (Ok.le hX (by omega)) (c_m_in (d := d)  h4) cs_X12_89 (st := []) rfl rfl rfl dX12_end_11 (fun dy => ?_)
  refine r_if_ne hX 19 dX12_end_14 rfl (fun hc6 => ?_) (fun hc6 => ?_)
  · rw [if_neg hc6] at hf
    refine r_aload_n hX dX12_end_19 0 rfl ?_
    refine r_iload_n hX dX12_end_20 1 rfl ?_
    obtain ⟨μ7, e8, hf⟩ := bnd_eq hf
    refine r_put hX fl_X12_100 ft_X12_8 (w_111 _ _ _) rfl rfl rfl (s_111_8 _ _ _ _) e8 rfl dX12_end_21 ?_
    refine r_iconst hX (1 : Int32) dX12_end_24 rfl ?_
    obtain ⟨b9, hf⟩ := chk_eq hf
    exact fin_Z hf hr _ _ _ (zb_nar b9) dX12_end_25
  · rw [if_pos hc6] at hf
    refine r_iconst hX (0 : Int32) dX12_end_17 rfl ?_
    obtain ⟨b10, hf⟩ := chk_eq hf
    exact fin_Z hf hr _ _ _ (zb_nar b10) dX12_end_18
theorem dX12_begin_0 : decode cX12_begin 0 = .ok (.aload_n 0, 1) := by decide +kernel
theorem dX12_begin_1 : decode cX12_begin 1 = .ok (.aload_n 1, 1) := by decide +kernel
theorem dX12_begin_2 : decode cX12_begin 2 = .ok (.putfield 103, 3) := by decide +kernel
theorem dX12_begin_5 : decode cX12_begin 5 = .ok (.aload_n 0, 1) := by decide +kernel
theorem dX12_begin_6 : decode cX12_begin 6 = .ok (.iload_n 2, 1) := by decide +kernel
theorem dX12_begin_7 : decode cX12_begin 7 = .ok (.putfield 106, 3) := by decide +kernel
theorem dX12_begin_10 : decode cX12_begin 10 = .ok (.aload_n 0, 1) := by decide +kernel
theorem dX12_begin_11 : decode cX12_begin 11 = .ok (.iload_n 3, 1) := by decide +kernel
theorem dX12_begin_12 : decode cX12_begin 12 = .ok (.putfield 109, 3) := by decide +kernel
theorem dX12_begin_15 : decode cX12_begin 15 = .ok (.aload_n 0, 1) := by decide +kernel
theorem dX12_begin_16 : decode cX12_begin 16 = .ok (.iconst 0, 1) := by decide +kernel
theorem dX12_begin_17 : decode cX12_begin 17 = .ok (.putfield 112, 3) := by decide +kernel
theorem dX12_begin_20 : decode cX12_begin 20 = .ok (.aload_n 0, 1) := by decide +kernel
theorem dX12_begin_21 : decode cX12_begin 21 = .ok (.iconst (-1), 1) := by decide +kernel
theorem dX12_begin_22 : decode cX12_begin 22 = .ok (.putfield 115, 3) := by decide +kernel
theorem dX12_begin_25 : decode cX12_begin 25 = .ok (.return_, 1) := by decide +kernel
set_option maxHeartbeats 4000000 in
set_option maxRecDepth 20000 in
theorem c_m_begin_116 {G : Gx} {d : Nat} {x2 : Int32} {x3 : Int32} {μ : Mem} {r : Mem} (hf : f_m_begin_116 x2 x3 μ = some r) : Con G M_m_begin (d + 0) [.ref (gA G 111), .ref (gA G 116), .int x2, .int x3] μ (none, r) := by
  refine Con.ofV ⟨rfl, rfl, Nat.le_of_ble_eq_true rfl⟩ rfl (fun X hG hX hr dy => ?_)
  subst hG
  show AW X 0 [(0, .ref (gA (xG X) 111)), (1, .ref (gA (xG X) 116)), (2, .int x2), (3, .int x3)] [] μ dy
  unfold f_m_begin_116 at hf
  refine r_aload_n hX dX12_begin_0 0 rfl ?_
  refine r_aload_n hX dX12_begin_1 1 rfl ?_
  obtain ⟨μ1, e2, hf⟩ := bnd_eq hf
  refine r_put hX fl_X12_103 ft_X12_12 (w_111 _ _ _) rfl rfl rfl (sD_read1 _ _ _) e2 rfl dX12_begin_2 ?_
  refine r_aload_n hX dX12_begin_5 0 rfl ?_
  refine r_iload_n hX dX12_begin_6 2 rfl ?_
  obtain ⟨μ3, e4, hf⟩ := bnd_eq hf
  refine r_put hX fl_X12_106 ft_X12_13 (w_111 _ _ _) rfl rfl rfl (s_111_13 _ _ _ _) e4 rfl dX12_begin_7 ?_
  refine r_aload_n hX dX12_begin_10 0 rfl ?_
  refine r_iload_n hX dX12_begin_11 3 rfl ?_
  obtain ⟨μ5, e6, hf⟩ := bnd_eq hf
  refine r_put hX fl_X12_109 ft_X12_14 (w_111 _ _ _) rfl rfl rfl (s_111_14 _ _ _ _) e6 rfl dX12_begin_12 ?_
  refine r_aload_n hX dX12_begin_15 0 rfl ?_
  refine r_iconst hX (0 : Int32) dX12_begin_16 rfl ?_
  obtain ⟨μ7, e8, hf⟩ := bnd_eq hf
  refine r_put hX fl_X12_112 ft_X12_15 (w_111 _ _ _) rfl rfl rfl (s_111_15 _ _ _ _) e8 rfl dX12_begin_17 ?_
  refine r_aload_n hX dX12_begin_20 0 rfl ?_
  refine r_iconst hX (-1 : Int32) dX12_begin_21 rfl ?_
  obtain ⟨μ9, e10, hf⟩ := bnd_eq hf
  refine r_put hX fl_X12_115 ft_X12_16 (w_111 _ _ _) rfl rfl rfl (s_111_16 _ _ _ _) e10 rfl dX12_begin_22 ?_
  exact fin_V hf hr _ _ _ dX12_begin_25
set_option maxHeartbeats 4000000 in
set_option maxRecDepth 20000 in
theorem c_m_begin_127 {G : Gx} {d : Nat} {x2 : Int32} {x3 : Int32} {μ : Mem} {r : Mem} (hf : f_m_begin_127 x2 x3 μ = some r) : Con G M_m_begin (d + 0) [.ref (gA G 111), .ref (gA G 127), .int x2, .int x3] μ (none, r) := by
  refine Con.ofV ⟨rfl, rfl, Nat.le_of_ble_eq_true rfl⟩ rfl (fun X hG hX hr dy => ?_)
  subst hG
  show AW X 0 [(0, .ref (gA (xG X) 111)), (1, .ref (gA (xG X) 127)), (2, .int x2), (3, .int x3)] [] μ dy
  unfold f_m_begin_127 at hf
  refine r_aload_n hX dX12_begin_0 0 rfl ?_
  refine r_aload_n hX dX12_begin_1 1 rfl ?_
  obtain ⟨μ1, e2, hf⟩ := bnd_eq hf
  refine r_put hX fl_X12_103 ft_X12_12 (w_111 _ _ _) rfl rfl rfl (sD_read2 _ _ _) e2 rfl dX12_begin_2 ?_
  refine r_aload_n hX dX12_begin_5 0 rfl ?_
  refine r_iload_n hX dX12_begin_6 2 rfl ?_
  obtain ⟨μ3, e4, hf⟩ := bnd_eq hf
  refine r_put hX fl_X12_106 ft_X12_13 (w_111 _ _ _) rfl rfl rfl (s_111_13 _ _ _ _) e4 rfl dX12_begin_7 ?_
  refine r_aload_n hX dX12_begin_10 0 rfl ?_
  refine r_iload_n hX dX12_begin_11 3 rfl ?_
  obtain ⟨μ5, e6, hf⟩ := bnd_eq hf
  refine r_put hX fl_X12_109 ft_X12_14 (w_111 _ _ _) rfl rfl rfl (s_111_14 _ _ _ _) e6 rfl dX12_begin_12 ?_
  refine r_aload_n hX dX12_begin_15 0 rfl ?_
  refine r_iconst hX (0 : Int32) dX12_begin_16 rfl ?_
  obtain ⟨μ7, e8, hf⟩ := bnd_eq hf
  refine r_put hX fl_X12_112 ft_X12_15 (w_111 _ _ _) rfl rfl rfl (s_111_15 _ _ _ _) e8 rfl dX12_begin_17 ?_
  refine r_aload_n hX dX12_begin_20 0 rfl ?_
  refine r_iconst hX (-1 : Int32) dX12_begin_21 rfl ?_
  obtain ⟨μ9, e10, hf⟩ := bnd_eq hf
  refine r_put hX fl_X12_115 ft_X12_16 (w_111 _ _ _) rfl rfl rfl (s_111_16 _ _ _ _) e10 rfl dX12_begin_22 ?_
  exact fin_V hf hr _ _ _ dX12_begin_25
set_option maxHeartbeats 4000000 in
set_option maxRecDepth 20000 in
theorem c_m_begin_128 {G : Gx} {d : Nat} {x2 : Int32} {x3 : Int32} {μ : Mem} {r : Mem} (hf : f_m_begin_128 x2 x3 μ = some r) : Con G M_m_begin (d + 0) [.ref (gA G 111), .ref (gA G 128), .int x2, .int x3] μ (none, r) := by
  refine Con.ofV ⟨rfl, rfl, Nat.le_of_ble_eq_true rfl⟩ rfl (fun X hG hX hr dy => ?_)
  subst hG
  show AW X 0 [(0, .ref (gA (xG X) 111)), (1, .ref (gA (xG X) 128)), (2, .int x2), (3, .int x3)] [] μ dy
  unfold f_m_begin_128 at hf
  refine r_aload_n hX dX12_begin_0 0 rfl ?_
  refine r_aload_n hX dX12_begin_1 1 rfl ?_
  obtain ⟨μ1, e2, hf⟩ := bnd_eq hf
  refine r_put hX fl_X12_103 ft_X12_12 (w_111 _ _ _) rfl rfl rfl (sD_read3 _ _ _) e2 rfl dX12_begin_2 ?_
  refine r_aload_n hX dX12_begin_5 0 rfl ?_
  refine r_iload_n hX dX12_begin_6 2 rfl ?_
  obtain ⟨μ3, e4, hf⟩ := bnd_eq hf
  refine r_put hX fl_X12_106 ft_X12_13 (w_111 _ _ _) rfl rfl rfl (s_111_13 _ _ _ _) e4 rfl dX12_begin_7 ?_
  refine r_aload_n hX dX12_begin_10 0 rfl ?_
  refine r_iload_n hX dX12_begin_11 3 rfl ?_
  obtain ⟨μ5, e6, hf⟩ := bnd_eq hf
  refine r_put hX fl_X12_109 ft_X12_14 (w_111 _ _ _) rfl rfl rfl (s_111_14 _ _ _ _) e6 rfl dX12_begin_12 ?_
  refine r_aload_n hX dX12_begin_15 0 rfl ?_
  refine r_iconst hX (0 : Int32) dX12_begin_16 rfl ?_
  obtain ⟨μ7, e8, hf⟩ := bnd_eq hf
  refine r_put hX fl_X12_112 ft_X12_15 (w_111 _ _ _) rfl rfl rfl (s_111_15 _ _ _ _) e8 rfl dX12_begin_17 ?_
  refine r_aload_n hX dX12_begin_20 0 rfl ?_
  refine r_iconst hX (-1 : Int32) dX12_begin_21 rfl ?_
  obtain ⟨μ9, e10, hf⟩ := bnd_eq hf
  refine r_put hX fl_X12_115 ft_X12_16 (w_111 _ _ _) rfl rfl rfl (s_111_16 _ _ _ _) e10 rfl dX12_begin_22 ?_
  exact fin_V hf hr _ _ _ dX12_begin_25
theorem dX12_here_0 : decode cX12_here 0 = .ok (.aload_n 0, 1) := by decide +kernel
theorem dX12_here_1 : decode cX12_here 1 = .ok (.getfield 112, 3) := by decide +kernel
theorem dX12_here_4 : decode cX12_here 4 = .ok (.aload_n 0, 1) := by decide +kernel
theorem dX12_here_5 : decode cX12_here 5 = .ok (.getfield 106, 3) := by decide +kernel
theorem dX12_here_8 : decode cX12_here 8 = .ok (.if_icmp .ge 26, 3) := by decide +kernel
theorem dX12_here_11 : decode cX12_here 11 = .ok (.aload_n 0, 1) := by decide +kernel
theorem dX12_here_12 : decode cX12_here 12 = .ok (.getfield 112, 3) := by decide +kernel
theorem dX12_here_15 : decode cX12_here 15 = .ok (.aload_n 0, 1) := by decide +kernel
theorem dX12_here_16 : decode cX12_here 16 = .ok (.getfield 109, 3) := by decide +kernel
theorem dX12_here_19 : decode cX12_here 19 = .ok (.if_icmp .ge 15, 3) := by decide +kernel
theorem dX12_here_22 : decode cX12_here 22 = .ok (.aload_n 0, 1) := by decide +kernel
theorem dX12_here_23 : decode cX12_here 23 = .ok (.getfield 103, 3) := by decide +kernel
theorem dX12_here_26 : decode cX12_here 26 = .ok (.aload_n 0, 1) := by decide +kernel
theorem dX12_here_27 : decode cX12_here 27 = .ok (.getfield 112, 3) := by decide +kernel
theorem dX12_here_30 : decode cX12_here 30 = .ok (.baload, 1) := by decide +kernel
theorem dX12_here_31 : decode cX12_here 31 = .ok (.goto 4, 3) := by decide +kernel
theorem dX12_here_34 : decode cX12_here 34 = .ok (.iconst (-1), 1) := by decide +kernel
theorem dX12_here_35 : decode cX12_here 35 = .ok (.ireturn, 1) := by decide +kernel
set_option maxHeartbeats 4000000 in
set_option maxRecDepth 20000 in
theorem c_m_here {G : Gx} {d : Nat}  {μ : Mem} {r : Int32 × Mem} (hf : f_m_here  μ = some r) : Con G M_m_here (d + 0) [.ref (gA G 111)] μ (some (.int r.1), r.2) := by
  refine Con.ofI ⟨rfl, rfl, Nat.le_of_ble_eq_true rfl⟩ rfl rfl (fun X hG hX hr dy => ?_)
  subst hG
  show AW X 0 [(0, .ref (gA (xG X) 111))] [] μ dy
  unfold f_m_here at hf
  refine r_aload_n hX dX12_here_0 0 rfl ?_
  refine r_get hX fl_X12_112 (w_111 _ _ _) rfl dX12_here_1 ?_
  refine r_aload_n hX dX12_here_4 0 rfl ?_
  refine r_get hX fl_X12_106 (w_111 _ _ _) rfl dX12_here_5 ?_
  refine r_icmp_ge hX 34 dX12_here_8 rfl (fun hc1 => ?_) (fun hc1 => ?_)
  · rw [if_pos hc1] at hf
    refine r_iconst hX (-1 : Int32) dX12_here_34 rfl ?_
    exact fin_I hf hr _ _ _ dX12_here_35
  · rw [if_neg hc1] at hf
    refine r_aload_n hX dX12_here_11 0 rfl ?_
    refine r_get hX fl_X12_112 (w_111 _ _ _) rfl dX12_here_12 ?_
    refine r_aload_n hX dX12_here_15 0 rfl ?_
    refine r_get hX fl_X12_109 (w_111 _ _ _) rfl dX12_here_16 ?_
    refine r_icmp_ge hX 34 dX12_here_19 rfl (fun hc2 => ?_) (fun hc2 => ?_)
    · rw [if_pos hc2] at hf
      refine r_iconst hX (-1 : Int32) dX12_here_34 rfl ?_
      exact fin_I hf hr _ _ _ dX12_here_35
    · rw [if_neg hc2] at hf
      refine r_aload_n hX dX12_here_22 0 rfl ?_
      by_cases hc3 : μ.1 v_m_read 0 = 1
      · rw [if_pos hc3] at hf
        refine r_get hX fl_X12_103 (w_111 _ _ _) (v := .ref (gA (xG X) 116)) (dynR1 hc3) dX12_here_23 ?_
        refine r_aload_n hX dX12_here_26 0 rfl ?_
        refine r_get hX fl_X12_112 (w_111 _ _ _) rfl dX12_here_27 ?_
        obtain ⟨b4, hf⟩ := chk_eq hf
        refine r_bald hX (w_116 _ _ _) (inb_in b4) dX12_here_30 ?_
        refine r_goto hX 35 dX12_here_31 rfl ?_
        exact fin_I hf hr _ _ _ dX12_here_35
      · rw [if_neg hc3] at hf
        by_cases hc5 : μ.1 v_m_read 0 = 2
        · rw [if_pos hc5] at hf
          refine r_get hX fl_X12_103 (w_111 _ _ _) (v := .ref (gA (xG X) 127)) (dynR2 hc5) dX12_here_23 ?_
          refine r_aload_n hX dX12_here_26 0 rfl ?_
          refine r_get hX fl_X12_112 (w_111 _ _ _) rfl dX12_here_27 ?_
          obtain ⟨b6, hf⟩ := chk_eq hf
          refine r_bald hX (w_127 _ _ _) (inb_in b6) dX12_here_30 ?_
          refine r_goto hX 35 dX12_here_31 rfl ?_
          exact fin_I hf hr _ _ _ dX12_here_35
        · rw [if_neg hc5] at hf
          by_cases hc7 : μ.1 v_m_read 0 = 3
          · rw [if_pos hc7] at hf
            refine r_get hX fl_X12_103 (w_111 _ _ _) (v := .ref (gA (xG X) 128)) (dynR3 hc7) dX12_here_23 ?_
            refine r_aload_n hX dX12_here_26 0 rfl ?_
            refine r_get hX fl_X12_112 (w_111 _ _ _) rfl dX12_here_27 ?_
            obtain ⟨b8, hf⟩ := chk_eq hf
            refine r_bald hX (w_128 _ _ _) (inb_in b8) dX12_here_30 ?_
            refine r_goto hX 35 dX12_here_31 rfl ?_
            exact fin_I hf hr _ _ _ dX12_here_35
          · rw [if_neg hc7] at hf
            exact nomatch hf
theorem dX12_fine_0 : decode cX12_fine 0 = .ok (.aload_n 0, 1) := by decide +kernel
theorem dX12_fine_1 : decode cX12_fine 1 = .ok (.getfield 115, 3) := by decide +kernel
theorem dX12_fine_4 : decode cX12_fine 4 = .ok (.iconst (-1), 1) := by decide +kernel
theorem dX12_fine_5 : decode cX12_fine 5 = .ok (.if_icmp .ne 7, 3) := by decide +kernel
theorem dX12_fine_8 : decode cX12_fine 8 = .ok (.iconst 1, 1) := by decide +kernel
theorem dX12_fine_9 : decode cX12_fine 9 = .ok (.goto 4, 3) := by decide +kernel
theorem dX12_fine_12 : decode cX12_fine 12 = .ok (.iconst 0, 1) := by decide +kernel
theorem dX12_fine_13 : decode cX12_fine 13 = .ok (.ireturn, 1) := by decide +kernel
set_option maxHeartbeats 4000000 in
set_option maxRecDepth 20000 in
theorem c_m_fine {G : Gx} {d : Nat}  {μ : Mem} {r : Int32 × Mem} (hf : f_m_fine  μ = some r) : Con G M_m_fine (d + 0) [.ref (gA G 111)] μ (some (.int r.1), r.2) := by
  refine Con.ofZ ⟨rfl, rfl, Nat.le_of_ble_eq_true rfl⟩ rfl (fun X hG hX hr dy => ?_)
  subst hG
  show AW X 0 [(0, .ref (gA (xG X) 111))] [] μ dy
  unfold f_m_fine at hf
  refine r_aload_n hX dX12_fine_0 0 rfl ?_
  refine r_get hX fl_X12_115 (w_111 _ _ _) rfl dX12_fine_1 ?_
  refine r_iconst hX (-1 : Int32) dX12_fine_4 rfl ?_
  obtain ⟨v1, e2, hf⟩ := bnd_eq hf
  have J3 : AW X 13 [(0, .ref (gA (xG X) 111))] [.int v1] μ dy := by
    obtain ⟨b4, hf⟩ := chk_eq hf
    exact fin_Z hf hr _ _ _ (zb_nar b4) dX12_fine_13
  refine r_icmp_ne hX 12 dX12_fine_5 rfl (fun hc5 => ?_) (fun hc5 => ?_)
  · refine r_iconst hX (0 : Int32) dX12_fine_12 rfl ?_
    exact r_topI (e2.trans (by rw [if_neg hc5])) J3
  · refine r_iconst hX (1 : Int32) dX12_fine_8 rfl ?_
    refine r_goto hX 13 dX12_fine_9 rfl ?_
    exact r_topI (e2.trans (by rw [if_pos hc5])) J3
theorem dX12_fault_0 : decode cX12_fault 0 = .ok (.aload_n 0, 1) := by decide +kernel
theorem dX12_fault_1 : decode cX12_fault 1 = .ok (.invokevirtual 118, 3) := by decide +kernel
theorem dX12_fault_4 : decode cX12_fault 4 = .ok (.ifCond .eq 8, 3) := by decide +kernel
theorem dX12_fault_7 : decode cX12_fault 7 = .ok (.aload_n 0, 1) := by decide +kernel
theorem dX12_fault_8 : decode cX12_fault 8 = .ok (.iload_n 1, 1) := by decide +kernel
theorem dX12_fault_9 : decode cX12_fault 9 = .ok (.putfield 115, 3) := by decide +kernel
theorem dX12_fault_12 : decode cX12_fault 12 = .ok (.return_, 1) := by decide +kernel
set_option maxHeartbeats 4000000 in
set_option maxRecDepth 20000 in
theorem c_m_fault {G : Gx} {d : Nat} {x1 : Int32} {μ : Mem} {r : Mem} (hf : f_m_fault x1 μ = some r) : Con G M_m_fault (d + 1) [.ref (gA G 111), .int x1] μ (none, r) := by
  refine Con.ofV ⟨rfl, rfl, Nat.le_of_ble_eq_true rfl⟩ rfl (fun X hG hX hr dy => ?_)
  subst hG
  show AW X 0 [(0, .ref (gA (xG X) 111)), (1, .int x1)] [] μ dy
  unfold f_m_fault at hf
  refine r_aload_n hX dX12_fault_0 0 rfl ?_
  obtain ⟨v3, μ1, h2, hf⟩ := bd2_eq hf
  refine r_callVI (Ok.le hX (by omega)) (c_m_fine (d := d)  h2) cv_X12_118 (w_111 _ _ _) rfl rfl (st := []) rfl rfl rfl dX12_fault_1 (fun dy => ?_)
  refine r_if_eq hX 12 dX12_fault_4 rfl (fun hc4 => ?_) (fun hc4 => ?_)
  · rw [if_pos hc4] at hf
    exact fin_V hf hr _ _ _ dX12_fault_12
  · rw [if_neg hc4] at hf
    refine r_aload_n hX dX12_fault_7 0 rfl ?_
    refine r_iload_n hX dX12_fault_8 1 rfl ?_
    obtain ⟨μ5, e6, hf⟩ := bnd_eq hf
    refine r_put hX fl_X12_115 ft_X12_16 (w_111 _ _ _) rfl rfl rfl (s_111_16 _ _ _ _) e6 rfl dX12_fault_9 ?_
    exact fin_V hf hr _ _ _ dX12_fault_12
theorem dX12_passes_0 : decode cX12_passes 0 = .ok (.aload_n 0, 1) := by decide +kernel
theorem dX12_passes_1 : decode cX12_passes 1 = .ok (.invokevirtual 118, 3) := by decide +kernel
theorem dX12_passes_4 : decode cX12_passes 4 = .ok (.ifCond .eq 11, 3) := by decide +kernel
theorem dX12_passes_7 : decode cX12_passes 7 = .ok (.aload_n 0, 1) := by decide +kernel
theorem dX12_passes_8 : decode cX12_passes 8 = .ok (.invokevirtual 122, 3) := by decide +kernel
theorem dX12_passes_11 : decode cX12_passes 11 = .ok (.iload_n 1, 1) := by decide +kernel
theorem dX12_passes_12 : decode cX12_passes 12 = .ok (.if_icmp .eq 5, 3) := by decide +kernel
theorem dX12_passes_15 : decode cX12_passes 15 = .ok (.iconst 0, 1) := by decide +kernel
theorem dX12_passes_16 : decode cX12_passes 16 = .ok (.ireturn, 1) := by decide +kernel
theorem dX12_passes_17 : decode cX12_passes 17 = .ok (.aload_n 0, 1) := by decide +kernel
theorem dX12_passes_18 : decode cX12_passes 18 = .ok (.dup, 1) := by decide +kernel
theorem dX12_passes_19 : decode cX12_passes 19 = .ok (.getfield 112, 3) := by decide +kernel
theorem dX12_passes_22 : decode cX12_passes 22 = .ok (.iconst 1, 1) := by decide +kernel
theorem dX12_passes_23 : decode cX12_passes 23 = .ok (.iadd, 1) := by decide +kernel
theorem dX12_passes_24 : decode cX12_passes 24 = .ok (.putfield 112, 3) := by decide +kernel
theorem dX12_passes_27 : decode cX12_passes 27 = .ok (.iconst 1, 1) := by decide +kernel
theorem dX12_passes_28 : decode cX12_passes 28 = .ok (.ireturn, 1) := by decide +kernel
set_option maxHeartbeats 4000000 in
set_option maxRecDepth 20000 in
theorem c_m_passes {G : Gx} {d : Nat} {x1 : Int32} {μ : Mem} {r : Int32 × Mem} (hf : f_m_passes x1 μ = some r) : Con G M_m_passes (d + 1) [.ref (gA G 111), .int x1] μ (some (.int r.1), r.2) := by
  refine Con.ofZ ⟨rfl, rfl, Nat.le_of_ble_eq_true rfl⟩ rfl (fun X hG hX hr dy => ?_)
  subst hG
  show AW X 0 [(0, .ref (gA (xG X) 111)), (1, .int x1)] [] μ dy
  unfold f_m_passes at hf
  refine r_aload_n hX dX12_passes_0 0 rfl ?_
  obtain ⟨v3, μ1, h2, hf⟩ := bd2_eq hf
  refine r_callVI (Ok.le hX (by omega)) (c_m_fine (d := d)  h2) cv_X12_118 (w_111 _ _ _) rfl rfl (st := []) rfl rfl rfl dX12_passes_1 (fun dy => ?_)
  refine r_if_eq hX 15 dX12_passes_4 rfl (fun hc4 => ?_) (fun hc4 => ?_)
  · rw [if_pos hc4] at hf
    refine r_iconst hX (0 : Int32) dX12_passes_15 rfl ?_
    obtain ⟨b5, hf⟩ := chk_eq hf
    exact fin_Z hf hr _ _ _ (zb_nar b5) dX12_passes_16
  · rw [if_neg hc4] at hf
    refine r_aload_n hX dX12_passes_7 0 rfl ?_
    obtain ⟨v8, μ6, h7, hf⟩ := bd2_eq hf
    refine r_callVI (Ok.le hX (by omega)) (c_m_here (d := d)  h7) cv_X12_122 (w_111 _ _ _) rfl rfl (st := []) rfl rfl rfl dX12_passes_8 (fun dy => ?_)
    refine r_iload_n hX dX12_passes_11 1 rfl ?_
    refine r_icmp_eq hX 17 dX12_passes_12 rfl (fun hc9 => ?_) (fun hc9 => ?_)
    · rw [if_pos hc9] at hf
      refine r_aload_n hX dX12_passes_17 0 rfl ?_
      refine r_dup hX dX12_passes_18 rfl ?_
      refine r_get hX fl_X12_112 (w_111 _ _ _) rfl dX12_passes_19 ?_
      refine r_iconst hX (1 : Int32) dX12_passes_22 rfl ?_
      refine r_iadd hX dX12_passes_23 ?_
      obtain ⟨μ10, e11, hf⟩ := bnd_eq hf
      refine r_put hX fl_X12_112 ft_X12_15 (w_111 _ _ _) rfl rfl rfl (s_111_15 _ _ _ _) e11 rfl dX12_passes_24 ?_
      refine r_iconst hX (1 : Int32) dX12_passes_27 rfl ?_
      obtain ⟨b12, hf⟩ := chk_eq hf
      exact fin_Z hf hr _ _ _ (zb_nar b12) dX12_passes_28
    · rw [if_neg hc9] at hf
      refine r_iconst hX (0 : Int32) dX12_passes_15 rfl ?_
      obtain ⟨b13, hf⟩ := chk_eq hf
      exact fin_Z hf hr _ _ _ (zb_nar b13) dX12_passes_16
theorem dX12_need_0 : decode cX12_need 0 = .ok (.aload_n 0, 1) := by decide +kernel
theorem dX12_need_1 : decode cX12_need 1 = .ok (.iload_n 1, 1) := by decide +kernel
theorem dX12_need_2 : decode cX12_need 2 = .ok (.invokevirtual 125, 3) := by decide +kernel
theorem dX12_need_5 : decode cX12_need 5 = .ok (.ifCond .ne 11, 3) := by decide +kernel
theorem dX12_need_8 : decode cX12_need 8 = .ok (.aload_n 0, 1) := by decide +kernel
theorem dX12_need_9 : decode cX12_need 9 = .ok (.aload_n 0, 1) := by decide +kernel
theorem dX12_need_10 : decode cX12_need 10 = .ok (.getfield 112, 3) := by decide +kernel
theorem dX12_need_13 : decode cX12_need 13 = .ok (.invokevirtual 129, 3) := by decide +kernel
theorem dX12_need_16 : decode cX12_need 16 = .ok (.return_, 1) := by decide +kernel
set_option maxHeartbeats 4000000 in
set_option maxRecDepth 20000 in
theorem c_m_need {G : Gx} {d : Nat} {x1 : Int32} {μ : Mem} {r : Mem} (hf : f_m_need x1 μ = some r) : Con G M_m_need (d + 2) [.ref (gA G 111), .int x1] μ (none, r) := by
  refine Con.ofV ⟨rfl, rfl, Nat.le_of_ble_eq_true rfl⟩ rfl (fun X hG hX hr dy => ?_)
  subst hG
  show AW X 0 [(0, .ref (gA (xG X) 111)), (1, .int x1)] [] μ dy
  unfold f_m_need at hf
  refine r_aload_n hX dX12_need_0 0 rfl ?_
  refine r_iload_n hX dX12_need_1 1 rfl ?_
  obtain ⟨v3, μ1, h2, hf⟩ := bd2_eq hf
  refine r_callVI (Ok.le hX (by omega)) (c_m_passes (d := d)  h2) cv_X12_125 (w_111 _ _ _) rfl rfl (st := []) rfl rfl rfl dX12_need_2 (fun dy => ?_)
  refine r_if_ne hX 16 dX12_need_5 rfl (fun hc4 => ?_) (fun hc4 => ?_)
  · rw [if_neg hc4] at hf
    exact fin_V hf hr _ _ _ dX12_need_16
  · rw [if_pos hc4] at hf
    refine r_aload_n hX dX12_need_8 0 rfl ?_
    refine r_aload_n hX dX12_need_9 0 rfl ?_
    refine r_get hX fl_X12_112 (w_111 _ _ _) rfl dX12_need_10 ?_
    obtain ⟨μ5, h6, hf⟩ := bd1_eq hf
    refine r_callVV (Ok.le hX (by omega)) (c_m_fault (d := d)  h6) cv_X12_129 (w_111 _ _ _) rfl rfl (st := []) rfl rfl rfl dX12_need_13 (fun dy => ?_)
    exact fin_V hf hr _ _ _ dX12_need_16
theorem dX12_number_0 : decode cX12_number 0 = .ok (.aload_n 0, 1) := by decide +kernel
theorem dX12_number_1 : decode cX12_number 1 = .ok (.invokevirtual 118, 3) := by decide +kernel
theorem dX12_number_4 : decode cX12_number 4 = .ok (.ifCond .ne 5, 3) := by decide +kernel
theorem dX12_number_7 : decode cX12_number 7 = .ok (.iconst 0, 1) := by decide +kernel
theorem dX12_number_8 : decode cX12_number 8 = .ok (.ireturn, 1) := by decide +kernel
theorem dX12_number_9 : decode cX12_number 9 = .ok (.aload_n 0, 1) := by decide +kernel
theorem dX12_number_10 : decode cX12_number 10 = .ok (.getfield 112, 3) := by decide +kernel
theorem dX12_number_13 : decode cX12_number 13 = .ok (.istore 4, 2) := by decide +kernel
theorem dX12_number_15 : decode cX12_number 15 = .ok (.iconst 0, 1) := by decide +kernel
theorem dX12_number_16 : decode cX12_number 16 = .ok (.istore 5, 2) := by decide +kernel
theorem dX12_number_18 : decode cX12_number 18 = .ok (.aload_n 0, 1) := by decide +kernel
theorem dX12_number_19 : decode cX12_number 19 = .ok (.getfield 112, 3) := by decide +kernel
theorem dX12_number_22 : decode cX12_number 22 = .ok (.iload 4, 2) := by decide +kernel
theorem dX12_number_24 : decode cX12_number 24 = .ok (.iload_n 1, 1) := by decide +kernel
theorem dX12_number_25 : decode cX12_number 25 = .ok (.iadd, 1) := by decide +kernel
theorem dX12_number_26 : decode cX12_number 26 = .ok (.if_icmp .ge 45, 3) := by decide +kernel
theorem dX12_number_29 : decode cX12_number 29 = .ok (.aload_n 0, 1) := by decide +kernel
theorem dX12_number_30 : decode cX12_number 30 = .ok (.invokevirtual 122, 3) := by decide +kernel
theorem dX12_number_33 : decode cX12_number 33 = .ok (.bipush 48, 2) := by decide +kernel
theorem dX12_number_35 : decode cX12_number 35 = .ok (.bipush 57, 2) := by decide +kernel
theorem dX12_number_37 : decode cX12_number 37 = .ok (.invokestatic 89, 3) := by decide +kernel
theorem dX12_number_40 : decode cX12_number 40 = .ok (.ifCond .eq 31, 3) := by decide +kernel
theorem dX12_number_43 : decode cX12_number 43 = .ok (.bipush 10, 2) := by decide +kernel
theorem dX12_number_45 : decode cX12_number 45 = .ok (.iload 5, 2) := by decide +kernel
theorem dX12_number_47 : decode cX12_number 47 = .ok (.imul, 1) := by decide +kernel
theorem dX12_number_48 : decode cX12_number 48 = .ok (.aload_n 0, 1) := by decide +kernel
theorem dX12_number_49 : decode cX12_number 49 = .ok (.invokevirtual 122, 3) := by decide +kernel
theorem dX12_number_52 : decode cX12_number 52 = .ok (.iadd, 1) := by decide +kernel
theorem dX12_number_53 : decode cX12_number 53 = .ok (.bipush 48, 2) := by decide +kernel
theorem dX12_number_55 : decode cX12_number 55 = .ok (.isub, 1) := by decide +kernel
theorem dX12_number_56 : decode cX12_number 56 = .ok (.istore 5, 2) := by decide +kernel
theorem dX12_number_58 : decode cX12_number 58 = .ok (.aload_n 0, 1) := by decide +kernel
theorem dX12_number_59 : decode cX12_number 59 = .ok (.dup, 1) := by decide +kernel
theorem dX12_number_60 : decode cX12_number 60 = .ok (.getfield 112, 3) := by decide +kernel
theorem dX12_number_63 : decode cX12_number 63 = .ok (.iconst 1, 1) := by decide +kernel
theorem dX12_number_64 : decode cX12_number 64 = .ok (.iadd, 1) := by decide +kernel
theorem dX12_number_65 : decode cX12_number 65 = .ok (.putfield 112, 3) := by decide +kernel
theorem dX12_number_68 : decode cX12_number 68 = .ok (.goto (-50), 3) := by decide +kernel
theorem dX12_number_71 : decode cX12_number 71 = .ok (.aload_n 0, 1) := by decide +kernel
theorem dX12_number_72 : decode cX12_number 72 = .ok (.getfield 112, 3) := by decide +kernel
theorem dX12_number_75 : decode cX12_number 75 = .ok (.iload 4, 2) := by decide +kernel
theorem dX12_number_77 : decode cX12_number 77 = .ok (.if_icmp .ne 14, 3) := by decide +kernel
theorem dX12_number_80 : decode cX12_number 80 = .ok (.aload_n 0, 1) := by decide +kernel
theorem dX12_number_81 : decode cX12_number 81 = .ok (.aload_n 0, 1) := by decide +kernel
theorem dX12_number_82 : decode cX12_number 82 = .ok (.getfield 112, 3) := by decide +kernel
theorem dX12_number_85 : decode cX12_number 85 = .ok (.invokevirtual 129, 3) := by decide +kernel
theorem dX12_number_88 : decode cX12_number 88 = .ok (.goto 23, 3) := by decide +kernel
theorem dX12_number_91 : decode cX12_number 91 = .ok (.iload 5, 2) := by decide +kernel
theorem dX12_number_93 : decode cX12_number 93 = .ok (.iload_n 2, 1) := by decide +kernel
theorem dX12_number_94 : decode cX12_number 94 = .ok (.iload_n 3, 1) := by decide +kernel
theorem dX12_number_95 : decode cX12_number 95 = .ok (.invokestatic 89, 3) := by decide +kernel
theorem dX12_number_98 : decode cX12_number 98 = .ok (.ifCond .ne 13, 3) := by decide +kernel
theorem dX12_number_101 : decode cX12_number 101 = .ok (.aload_n 0, 1) := by decide +kernel
theorem dX12_number_102 : decode cX12_number 102 = .ok (.aload_n 0, 1) := by decide +kernel
theorem dX12_number_103 : decode cX12_number 103 = .ok (.getfield 112, 3) := by decide +kernel
theorem dX12_number_106 : decode cX12_number 106 = .ok (.iconst 1, 1) := by decide +kernel
theorem dX12_number_107 : decode cX12_number 107 = .ok (.isub, 1) := by decide +kernel
theorem dX12_number_108 : decode cX12_number 108 = .ok (.invokevirtual 129, 3) := by decide +kernel
theorem dX12_number_111 : decode cX12_number 111 = .ok (.aload_n 0, 1) := by decide +kernel
theorem dX12_number_112 : decode cX12_number 112 = .ok (.invokevirtual 118, 3) := by decide +kernel
theorem dX12_number_115 : decode cX12_number 115 = .ok (.ifCond .eq 8, 3) := by decide +kernel
theorem dX12_number_118 : decode cX12_number 118 = .ok (.iload 5, 2) := by decide +kernel
theorem dX12_number_120 : decode cX12_number 120 = .ok (.goto 4, 3) := by decide +kernel
theorem dX12_number_123 : decode cX12_number 123 = .ok (.iconst 0, 1) := by decide +kernel
theorem dX12_number_124 : decode cX12_number 124 = .ok (.ireturn, 1) := by decide +kernel
set_option maxHeartbeats 4000000 in
set_option maxRecDepth 20000 in
theorem b_m_number_b111 {X : Cx} {d : Nat} (hX : Ok M_m_number (d + 2) X) {r : Int32 × Mem} (hr : RetI M_m_number X r.1 r.2) (x5 : Int32) (μ : Mem) (dy : Nat → Nat) (hf : f_m_number_b111 x5 μ = some r) : AW X 111 [(0, .ref (gA (xG X) 111)), (5, .int x5)] [] μ dy := by
  unfold f_m_number_b111 at hf
  refine r_aload_n hX dX12_number_111 0 rfl ?_
  obtain ⟨v13, μ11, h12, hf⟩ := bd2_eq hf
  refine r_callVI (Ok.le hX (by omega)) (c_m_fine (d := d)  h12) cv_X12_118 (w_111 _ _ _) rfl rfl (st := []) rfl rfl rfl dX12_number_112 (fun dy => ?_)
  obtain ⟨v14, e15, hf⟩ := bnd_eq hf
  have J16 : AW X 124 [(0, .ref (gA (xG X) 111)), (5, .int x5)] [.int v14] μ11 dy := by
    exact fin_I hf hr _ _ _ dX12_number_124
  refine r_if_eq hX 123 dX12_number_115 rfl (fun hc17 => ?_) (fun hc17 => ?_)
  · refine r_iconst hX (0 : Int32) dX12_number_123 rfl ?_
    exact r_topI (e15.trans (by rw [if_pos hc17])) J16
  · refine r_iload hX dX12_number_118 1 rfl ?_
    refine r_goto hX 124 dX12_number_120 rfl ?_
    exact r_topI (e15.trans (by rw [if_neg hc17])) J16
set_option maxHeartbeats 4000000 in
set_option maxRecDepth 20000 in
theorem b_m_number_b71 {X : Cx} {d : Nat} (hX : Ok M_m_number (d + 2) X) {r : Int32 × Mem} (hr : RetI M_m_number X r.1 r.2) (x2 : Int32) (x3 : Int32) (x4 : Int32) (x5 : Int32) (μ : Mem) (dy : Nat → Nat) (hf : f_m_number_b71 x2 x3 x4 x5 μ = some r) : AW X 71 [(0, .ref (gA (xG X) 111)), (2, .int x2), (3, .int x3), (4, .int x4), (5, .int x5)] [] μ dy := by
  unfold f_m_number_b71 at hf
  refine r_aload_n hX dX12_number_71 0 rfl ?_
  refine r_get hX fl_X12_112 (w_111 _ _ _) rfl dX12_number_72 ?_
  refine r_iload hX dX12_number_75 3 rfl ?_
  refine r_icmp_ne hX 91 dX12_number_77 rfl (fun hc6 => ?_) (fun hc6 => ?_)
  · rw [if_neg hc6] at hf
    refine r_iload hX dX12_number_91 4 rfl ?_
    refine r_iload_n hX dX12_number_93 1 rfl ?_
    refine r_iload_n hX dX12_number_94 2 rfl ?_
    obtain ⟨v9, μ7, h8, hf⟩ := bd2_eq hf
    refine r_callSI (Ok.le hX (by omega)) (c_m_in (d := d)  h8) cs_X12_89 (st := []) rfl rfl rfl dX12_number_95 (fun dy => ?_)
    refine r_if_ne hX 111 dX12_number_98 rfl (fun hc10 => ?_) (fun hc10 => ?_)
    · rw [if_neg hc10] at hf
      refine r_weak [0, 4] rfl ?_
      exact b_m_number_b111 hX hr _ _ _ hf
    · rw [if_pos hc10] at hf
      refine r_aload_n hX dX12_number_101 0 rfl ?_
      refine r_aload_n hX dX12_number_102 0 rfl ?_
      refine r_get hX fl_X12_112 (w_111 _ _ _) rfl dX12_number_103 ?_
      refine r_iconst hX (1 : Int32) dX12_number_106 rfl ?_
      refine r_isub hX dX12_number_107 ?_
      obtain ⟨μ18, h19, hf⟩ := bd1_eq hf
      refine r_callVV (Ok.le hX (by omega)) (c_m_fault (d := d)  h19) cv_X12_129 (w_111 _ _ _) rfl rfl (st := []) rfl rfl rfl dX12_number_108 (fun dy => ?_)
      refine r_weak [0, 4] rfl ?_
      exact b_m_number_b111 hX hr _ _ _ hf
  · rw [if_pos hc6] at hf
    refine r_aload_n hX dX12_number_80 0 rfl ?_
    refine r_aload_n hX dX12_number_81 0 rfl ?_
    refine r_get hX fl_X12_112 (w_111 _ _ _) rfl dX12_number_82 ?_
    obtain ⟨μ20, h21, hf⟩ := bd1_eq hf
    refine r_callVV (Ok.le hX (by omega)) (c_m_fault (d := d)  h21) cv_X12_129 (w_111 _ _ _) rfl rfl (st := []) rfl rfl rfl dX12_number_85 (fun dy => ?_)
    refine r_goto hX 111 dX12_number_88 rfl ?_
    refine r_weak [0, 4] rfl ?_
    exact b_m_number_b111 hX hr _ _ _ hf
set_option maxHeartbeats 4000000 in
set_option maxRecDepth 20000 in
theorem b_m_number_b18 {X : Cx} {d : Nat} (hX : Ok M_m_number (d + 2) X) {r : Int32 × Mem} (hr : RetI M_m_number X r.1 r.2) : ∀ (n : Nat) (x1 : Int32) (x2 : Int32) (x3 : Int32) (x4 : Int32) (x5 : Int32) (μ : Mem) (dy : Nat → Nat), f_m_number_b18 n x1 x2 x3 x4 x5 μ = some r → AW X 18 [(0, .ref (gA (xG X) 111)), (1, .int x1), (2, .int x2), (3, .int x3), (4, .int x4), (5, .int x5)] [] μ dy := by
  intro n
  induction n with
  | zero => intro x1 x2 x3 x4 x5 μ dy hf; exact nomatch hf
  | succ n ih =>
    intro x1 x2 x3 x4 x5 μ dy hf
    rw [f_m_number_b18] at hf
    refine r_aload_n hX dX12_number_18 0 rfl ?_
    refine r_get hX fl_X12_112 (w_111 _ _ _) rfl dX12_number_19 ?_
    refine r_iload hX dX12_number_22 4 rfl ?_
    refine r_iload_n hX dX12_number_24 1 rfl ?_
    refine r_iadd hX dX12_number_25 ?_
    refine r_icmp_ge hX 71 dX12_number_26 rfl (fun hc5 => ?_) (fun hc5 => ?_)
    · rw [if_pos hc5] at hf
      refine r_weak [0, 2, 3, 4, 5] rfl ?_
      exact b_m_number_b71 hX hr _ _ _ _ _ _ hf
    · rw [if_neg hc5] at hf
      refine r_aload_n hX dX12_number_29 0 rfl ?_
      obtain ⟨v24, μ22, h23, hf⟩ := bd2_eq hf
      refine r_callVI (Ok.le hX (by omega)) (c_m_here (d := d)  h23) cv_X12_122 (w_111 _ _ _) rfl rfl (st := []) rfl rfl rfl dX12_number_30 (fun dy => ?_)
      refine r_bipush hX (48 : Int32) dX12_number_33 rfl ?_
      refine r_bipush hX (57 : Int32) dX12_number_35 rfl ?_
      obtain ⟨v27, μ25, h26, hf⟩ := bd2_eq hf
      refine r_callSI (Ok.le hX (by omega)) (c_m_in (d := d)  h26) cs_X12_89 (st := []) rfl rfl rfl dX12_number_37 (fun dy => ?_)
      refine r_if_eq hX 71 dX12_number_40 rfl (fun hc28 => ?_) (fun hc28 => ?_)
      · rw [if_pos hc28] at hf
        refine r_weak [0, 2, 3, 4, 5] rfl ?_
        exact b_m_number_b71 hX hr _ _ _ _ _ _ hf
      · rw [if_neg hc28] at hf
        refine r_bipush hX (10 : Int32) dX12_number_43 rfl ?_
        refine r_iload hX dX12_number_45 5 rfl ?_
        refine r_imul hX dX12_number_47 ?_
        refine r_aload_n hX dX12_number_48 0 rfl ?_
        obtain ⟨v31, μ29, h30, hf⟩ := bd2_eq hf
        refine r_callVI (Ok.le hX (by omega)) (c_m_here (d := d)  h30) cv_X12_122 (w_111 _ _ _) rfl rfl (st := [.int ((10 : Int32) * x5)]) rfl rfl rfl dX12_number_49 (fun dy => ?_)
        refine r_iadd hX dX12_number_52 ?_
        refine r_bipush hX (48 : Int32) dX12_number_53 rfl ?_
        refine r_isub hX dX12_number_55 ?_
        obtain ⟨v32, e33, hf⟩ := bnd_eq hf
        refine r_topI e33 ?_
        refine r_istore hX dX12_number_56 rfl (ls' := [(5, .int v32), (0, .ref (gA (xG X) 111)), (1, .int x1), (2, .int x2), (3, .int x3), (4, .int x4)]) rfl ?_
        refine r_aload_n hX dX12_number_58 1 rfl ?_
        refine r_dup hX dX12_number_59 rfl ?_
        refine r_get hX fl_X12_112 (w_111 _ _ _) rfl dX12_number_60 ?_
        refine r_iconst hX (1 : Int32) dX12_number_63 rfl ?_
        refine r_iadd hX dX12_number_64 ?_
        obtain ⟨μ34, e35, hf⟩ := bnd_eq hf
        refine r_put hX fl_X12_112 ft_X12_15 (w_111 _ _ _) rfl rfl rfl (s_111_15 _ _ _ _) e35 rfl dX12_number_65 ?_
        refine r_goto hX 18 dX12_number_68 rfl ?_
        refine r_weak [1, 2, 3, 4, 5, 0] rfl ?_
        exact ih _ _ _ _ _ _ _ hf
set_option maxHeartbeats 4000000 in
set_option maxRecDepth 20000 in
theorem c_m_number {G : Gx} {d : Nat} {x1 : Int32} {x2 : Int32} {x3 : Int32} {μ : Mem} {r : Int32 × Mem} (hf : f_m_number x1 x2 x3 μ = some r) : Con G M_m_number (d + 2) [.ref (gA G 111), .int x1, .int x2, .int x3] μ (some (.int r.1), r.2) := by
  refine Con.ofI ⟨rfl, rfl, Nat.le_of_ble_eq_true rfl⟩ rfl rfl (fun X hG hX hr dy => ?_)
  subst hG
  show AW X 0 [(0, .ref (gA (xG X) 111)), (1, .int x1), (2, .int x2), (3, .int x3)] [] μ dy
  unfold f_m_number at hf
  refine r_aload_n hX dX12_number_0 0 rfl ?_
  obtain ⟨v3, μ1, h2, hf⟩ := bd2_eq hf
  refine r_callVI (Ok.le hX (by omega)) (c_m_fine (d := d)  h2) cv_X12_118 (w_111 _ _ _) rfl rfl (st := []) rfl rfl rfl dX12_number_1 (fun dy => ?_)
  refine r_if_ne hX 9 dX12_number_4 rfl (fun hc4 => ?_) (fun hc4 => ?_)
  · rw [if_neg hc4] at hf
    refine r_aload_n hX dX12_number_9 0 rfl ?_
    refine r_get hX fl_X12_112 (w_111 _ _ _) rfl dX12_number_10 ?_
    refine r_istore hX dX12_number_13 rfl (ls' := [(4, .int (μ1.1 v_m_at 0)), (0, .ref (gA (xG X) 111)), (1, .int x1), (2, .int x2), (3, .int x3)]) rfl ?_
    refine r_iconst hX (0 : Int32) dX12_number_15 rfl ?_
    refine r_istore hX dX12_number_16 rfl (ls' := [(5, .int (0 : Int32)), (4, .int (μ1.1 v_m_at 0)), (0, .ref (gA (xG X) 111)), (1, .int x1), (2, .int x2), (3, .int x3)]) rfl ?_
    refine r_weak [2, 3, 4, 5, 1, 0] rfl ?_
    exact b_m_number_b18 hX hr FU _ _ _ _ _ _ _ hf
  · rw [if_pos hc4] at hf
    refine r_iconst hX (0 : Int32) dX12_number_7 rfl ?_
    exact fin_I hf hr _ _ _ dX12_number_8
theorem dX12_readMeeting_0 : decode cX12_readMeeting 0 = .ok (.aload_n 0, 1) := by decide +kernel
theorem dX12_readMeeting_1 : decode cX12_readMeeting 1 = .ok (.iconst 2, 1) := by decide +kernel
theorem dX12_readMeeting_2 : decode cX12_readMeeting 2 = .ok (.iconst 0, 1) := by decide +kernel
theorem dX12_readMeeting_3 : decode cX12_readMeeting 3 = .ok (.iload_n 2, 1) := by decide +kernel
theorem dX12_readMeeting_4 : decode cX12_readMeeting 4 = .ok (.iconst 1, 1) := by decide +kernel
theorem dX12_readMeeting_5 : decode cX12_readMeeting 5 = .ok (.isub, 1) := by decide +kernel
theorem dX12_readMeeting_6 : decode cX12_readMeeting 6 = .ok (.invokevirtual 143, 3) := by decide +kernel
theorem dX12_readMeeting_9 : decode cX12_readMeeting 9 = .ok (.istore_n 3, 1) := by decide +kernel
theorem dX12_readMeeting_10 : decode cX12_readMeeting 10 = .ok (.aload_n 0, 1) := by decide +kernel
theorem dX12_readMeeting_11 : decode cX12_readMeeting 11 = .ok (.bipush 45, 2) := by decide +kernel
theorem dX12_readMeeting_13 : decode cX12_readMeeting 13 = .ok (.invokevirtual 125, 3) := by decide +kernel
theorem dX12_readMeeting_16 : decode cX12_readMeeting 16 = .ok (.istore 4, 2) := by decide +kernel
theorem dX12_readMeeting_18 : decode cX12_readMeeting 18 = .ok (.iload 4, 2) := by decide +kernel
theorem dX12_readMeeting_20 : decode cX12_readMeeting 20 = .ok (.ifCond .ne 9, 3) := by decide +kernel
theorem dX12_readMeeting_23 : decode cX12_readMeeting 23 = .ok (.aload_n 0, 1) := by decide +kernel
theorem dX12_readMeeting_24 : decode cX12_readMeeting 24 = .ok (.bipush 62, 2) := by decide +kernel
theorem dX12_readMeeting_26 : decode cX12_readMeeting 26 = .ok (.invokevirtual 147, 3) := by decide +kernel
theorem dX12_readMeeting_29 : decode cX12_readMeeting 29 = .ok (.aload_n 0, 1) := by decide +kernel
theorem dX12_readMeeting_30 : decode cX12_readMeeting 30 = .ok (.iconst 2, 1) := by decide +kernel
theorem dX12_readMeeting_31 : decode cX12_readMeeting 31 = .ok (.iconst 0, 1) := by decide +kernel
theorem dX12_readMeeting_32 : decode cX12_readMeeting 32 = .ok (.iload_n 2, 1) := by decide +kernel
theorem dX12_readMeeting_33 : decode cX12_readMeeting 33 = .ok (.iconst 1, 1) := by decide +kernel
theorem dX12_readMeeting_34 : decode cX12_readMeeting 34 = .ok (.isub, 1) := by decide +kernel
theorem dX12_readMeeting_35 : decode cX12_readMeeting 35 = .ok (.invokevirtual 143, 3) := by decide +kernel
theorem dX12_readMeeting_38 : decode cX12_readMeeting 38 = .ok (.istore 5, 2) := by decide +kernel
theorem dX12_readMeeting_40 : decode cX12_readMeeting 40 = .ok (.aload_n 0, 1) := by decide +kernel
theorem dX12_readMeeting_41 : decode cX12_readMeeting 41 = .ok (.invokevirtual 118, 3) := by decide +kernel
theorem dX12_readMeeting_44 : decode cX12_readMeeting 44 = .ok (.ifCond .eq 19, 3) := by decide +kernel
theorem dX12_readMeeting_47 : decode cX12_readMeeting 47 = .ok (.iload_n 3, 1) := by decide +kernel
theorem dX12_readMeeting_48 : decode cX12_readMeeting 48 = .ok (.iload 5, 2) := by decide +kernel
theorem dX12_readMeeting_50 : decode cX12_readMeeting 50 = .ok (.if_icmp .ne 13, 3) := by decide +kernel
theorem dX12_readMeeting_53 : decode cX12_readMeeting 53 = .ok (.aload_n 0, 1) := by decide +kernel
theorem dX12_readMeeting_54 : decode cX12_readMeeting 54 = .ok (.aload_n 0, 1) := by decide +kernel
theorem dX12_readMeeting_55 : decode cX12_readMeeting 55 = .ok (.getfield 112, 3) := by decide +kernel
theorem dX12_readMeeting_58 : decode cX12_readMeeting 58 = .ok (.iconst 1, 1) := by decide +kernel
theorem dX12_readMeeting_59 : decode cX12_readMeeting 59 = .ok (.isub, 1) := by decide +kernel
theorem dX12_readMeeting_60 : decode cX12_readMeeting 60 = .ok (.invokevirtual 129, 3) := by decide +kernel
theorem dX12_readMeeting_63 : decode cX12_readMeeting 63 = .ok (.aload_n 0, 1) := by decide +kernel
theorem dX12_readMeeting_64 : decode cX12_readMeeting 64 = .ok (.bipush 42, 2) := by decide +kernel
theorem dX12_readMeeting_66 : decode cX12_readMeeting 66 = .ok (.invokevirtual 147, 3) := by decide +kernel
theorem dX12_readMeeting_69 : decode cX12_readMeeting 69 = .ok (.aload_n 0, 1) := by decide +kernel
theorem dX12_readMeeting_70 : decode cX12_readMeeting 70 = .ok (.iconst 1, 1) := by decide +kernel
theorem dX12_readMeeting_71 : decode cX12_readMeeting 71 = .ok (.iconst 0, 1) := by decide +kernel
theorem dX12_readMeeting_72 : decode cX12_readMeeting 72 = .ok (.bipush 9, 2) := by decide +kernel
theorem dX12_readMeeting_74 : decode cX12_readMeeting 74 = .ok (.invokevirtual 143, 3) := by decide +kernel
theorem dX12_readMeeting_77 : decode cX12_readMeeting 77 = .ok (.istore 6, 2) := by decide +kernel
theorem dX12_readMeeting_79 : decode cX12_readMeeting 79 = .ok (.aload_n 0, 1) := by decide +kernel
theorem dX12_readMeeting_80 : decode cX12_readMeeting 80 = .ok (.getfield 30, 3) := by decide +kernel
theorem dX12_readMeeting_83 : decode cX12_readMeeting 83 = .ok (.iload_n 1, 1) := by decide +kernel
theorem dX12_readMeeting_84 : decode cX12_readMeeting 84 = .ok (.iload_n 3, 1) := by decide +kernel
theorem dX12_readMeeting_85 : decode cX12_readMeeting 85 = .ok (.iastore, 1) := by decide +kernel
theorem dX12_readMeeting_86 : decode cX12_readMeeting 86 = .ok (.aload_n 0, 1) := by decide +kernel
theorem dX12_readMeeting_87 : decode cX12_readMeeting 87 = .ok (.getfield 30, 3) := by decide +kernel
theorem dX12_readMeeting_90 : decode cX12_readMeeting 90 = .ok (.iload_n 1, 1) := by decide +kernel
theorem dX12_readMeeting_91 : decode cX12_readMeeting 91 = .ok (.iconst 1, 1) := by decide +kernel
theorem dX12_readMeeting_92 : decode cX12_readMeeting 92 = .ok (.iadd, 1) := by decide +kernel
theorem dX12_readMeeting_93 : decode cX12_readMeeting 93 = .ok (.iload 5, 2) := by decide +kernel
theorem dX12_readMeeting_95 : decode cX12_readMeeting 95 = .ok (.iastore, 1) := by decide +kernel
theorem dX12_readMeeting_96 : decode cX12_readMeeting 96 = .ok (.aload_n 0, 1) := by decide +kernel
theorem dX12_readMeeting_97 : decode cX12_readMeeting 97 = .ok (.getfield 30, 3) := by decide +kernel
theorem dX12_readMeeting_100 : decode cX12_readMeeting 100 = .ok (.iload_n 1, 1) := by decide +kernel
theorem dX12_readMeeting_101 : decode cX12_readMeeting 101 = .ok (.iconst 2, 1) := by decide +kernel
theorem dX12_readMeeting_102 : decode cX12_readMeeting 102 = .ok (.iadd, 1) := by decide +kernel
theorem dX12_readMeeting_103 : decode cX12_readMeeting 103 = .ok (.iload 6, 2) := by decide +kernel
theorem dX12_readMeeting_105 : decode cX12_readMeeting 105 = .ok (.iastore, 1) := by decide +kernel
theorem dX12_readMeeting_106 : decode cX12_readMeeting 106 = .ok (.aload_n 0, 1) := by decide +kernel
theorem dX12_readMeeting_107 : decode cX12_readMeeting 107 = .ok (.getfield 30, 3) := by decide +kernel
theorem dX12_readMeeting_110 : decode cX12_readMeeting 110 = .ok (.iload_n 1, 1) := by decide +kernel
theorem dX12_readMeeting_111 : decode cX12_readMeeting 111 = .ok (.iconst 3, 1) := by decide +kernel
theorem dX12_readMeeting_112 : decode cX12_readMeeting 112 = .ok (.iadd, 1) := by decide +kernel
theorem dX12_readMeeting_113 : decode cX12_readMeeting 113 = .ok (.iload 4, 2) := by decide +kernel
theorem dX12_readMeeting_115 : decode cX12_readMeeting 115 = .ok (.ifCond .eq 7, 3) := by decide +kernel
theorem dX12_readMeeting_118 : decode cX12_readMeeting 118 = .ok (.iconst 1, 1) := by decide +kernel
theorem dX12_readMeeting_119 : decode cX12_readMeeting 119 = .ok (.goto 4, 3) := by decide +kernel
theorem dX12_readMeeting_122 : decode cX12_readMeeting 122 = .ok (.iconst 0, 1) := by decide +kernel
theorem dX12_readMeeting_123 : decode cX12_readMeeting 123 = .ok (.iastore, 1) := by decide +kernel
theorem dX12_readMeeting_124 : decode cX12_readMeeting 124 = .ok (.return_, 1) := by decide +kernel
set_option maxHeartbeats 4000000 in
set_option maxRecDepth 20000 in
theorem b_m_readMeeting_b63 {X : Cx} {d : Nat} (hX : Ok M_m_readMeeting (d + 3) X) {r : Mem} (hr : RetV M_m_readMeeting X r) (x1 : Int32) (x3 : Int32) (x4 : Int32) (x5 : Int32) (μ : Mem) (dy : Nat → Nat) (hf : f_m_readMeeting_b63 x1 x3 x4 x5 μ = some r) : AW X 63 [(0, .ref (gA (xG X) 111)), (1, .int x1), (3, .int x3), (4, .int x4), (5, .int x5)] [] μ dy := by
  unfold f_m_readMeeting_b63 at hf
  refine r_aload_n hX dX12_readMeeting_63 0 rfl ?_
  refine r_bipush hX (42 : Int32) dX12_readMeeting_64 rfl ?_
  obtain ⟨μ15, h16, hf⟩ := bd1_eq hf
  refine r_callVV (Ok.le hX (by omega)) (c_m_need (d := d)  h16) cv_X12_147 (w_111 _ _ _) rfl rfl (st := []) rfl rfl rfl dX12_readMeeting_66 (fun dy => ?_)
  refine r_aload_n hX dX12_readMeeting_69 0 rfl ?_
  refine r_iconst hX (1 : Int32) dX12_readMeeting_70 rfl ?_
  refine r_iconst hX (0 : Int32) dX12_readMeeting_71 rfl ?_
  refine r_bipush hX (9 : Int32) dX12_readMeeting_72 rfl ?_
  obtain ⟨v19, μ17, h18, hf⟩ := bd2_eq hf
  refine r_callVI (Ok.le hX (by omega)) (c_m_number (d := d)  h18) cv_X12_143 (w_111 _ _ _) rfl rfl (st := []) rfl rfl rfl dX12_readMeeting_74 (fun dy => ?_)
  refine r_istore hX dX12_readMeeting_77 rfl (ls' := [(6, .int v19), (0, .ref (gA (xG X) 111)), (1, .int x1), (3, .int x3), (4, .int x4), (5, .int x5)]) rfl ?_
  refine r_aload_n hX dX12_readMeeting_79 1 rfl ?_
  refine r_get hX fl_X12_30 (w_111 _ _ _) rfl dX12_readMeeting_80 ?_
  refine r_iload_n hX dX12_readMeeting_83 2 rfl ?_
  refine r_iload_n hX dX12_readMeeting_84 3 rfl ?_
  obtain ⟨b20, hf⟩ := chk_eq hf
  obtain ⟨μ21, e22, hf⟩ := bnd_eq hf
  refine r_iast hX (w_118 _ _ _) (inb_in b20) (s_118 _ _ _ _ _) e22 rfl dX12_readMeeting_85 ?_
  refine r_aload_n hX dX12_readMeeting_86 1 rfl ?_
  refine r_get hX fl_X12_30 (w_111 _ _ _) rfl dX12_readMeeting_87 ?_
  refine r_iload_n hX dX12_readMeeting_90 2 rfl ?_
  refine r_iconst hX (1 : Int32) dX12_readMeeting_91 rfl ?_
  refine r_iadd hX dX12_readMeeting_92 ?_
  refine r_iload hX dX12_readMeeting_93 5 rfl ?_
  obtain ⟨b23, hf⟩ := chk_eq hf
  obtain ⟨μ24, e25, hf⟩ := bnd_eq hf
  refine r_iast hX (w_118 _ _ _) (inb_in b23) (s_118 _ _ _ _ _) e25 rfl dX12_readMeeting_95 ?_
  refine r_aload_n hX dX12_readMeeting_96 1 rfl ?_
  refine r_get hX fl_X12_30 (w_111 _ _ _) rfl dX12_readMeeting_97 ?_
  refine r_iload_n hX dX12_readMeeting_100 2 rfl ?_
  refine r_iconst hX (2 : Int32) dX12_readMeeting_101 rfl ?_
  refine r_iadd hX dX12_readMeeting_102 ?_
  refine r_iload hX dX12_readMeeting_103 0 rfl ?_
  obtain ⟨b26, hf⟩ := chk_eq hf
  obtain ⟨μ27, e28, hf⟩ := bnd_eq hf
  refine r_iast hX (w_118 _ _ _) (inb_in b26) (s_118 _ _ _ _ _) e28 rfl dX12_readMeeting_105 ?_
  refine r_aload_n hX dX12_readMeeting_106 1 rfl ?_
  refine r_get hX fl_X12_30 (w_111 _ _ _) rfl dX12_readMeeting_107 ?_
  refine r_iload_n hX dX12_readMeeting_110 2 rfl ?_
  refine r_iconst hX (3 : Int32) dX12_readMeeting_111 rfl ?_
  refine r_iadd hX dX12_readMeeting_112 ?_
  refine r_iload hX dX12_readMeeting_113 4 rfl ?_
  obtain ⟨v29, e30, hf⟩ := bnd_eq hf
  have J31 : AW X 123 [(6, .int v19), (0, .ref (gA (xG X) 111)), (1, .int x1), (3, .int x3), (4, .int x4), (5, .int x5)] [.int v29, .int (x1 + (3 : Int32)), .ref (gA (xG X) 118)] μ27 dy := by
    obtain ⟨b32, hf⟩ := chk_eq hf
    obtain ⟨μ33, e34, hf⟩ := bnd_eq hf
    refine r_iast hX (w_118 _ _ _) (inb_in b32) (s_118 _ _ _ _ _) e34 rfl dX12_readMeeting_123 ?_
    exact fin_V hf hr _ _ _ dX12_readMeeting_124
  refine r_if_eq hX 122 dX12_readMeeting_115 rfl (fun hc35 => ?_) (fun hc35 => ?_)
  · refine r_iconst hX (0 : Int32) dX12_readMeeting_122 rfl ?_
    exact r_topI (e30.trans (by rw [if_pos hc35])) J31
  · refine r_iconst hX (1 : Int32) dX12_readMeeting_118 rfl ?_
    refine r_goto hX 123 dX12_readMeeting_119 rfl ?_
    exact r_topI (e30.trans (by rw [if_neg hc35])) J31
set_option maxHeartbeats 4000000 in
set_option maxRecDepth 20000 in
theorem b_m_readMeeting_b29 {X : Cx} {d : Nat} (hX : Ok M_m_readMeeting (d + 3) X) {r : Mem} (hr : RetV M_m_readMeeting X r) (x1 : Int32) (x2 : Int32) (x3 : Int32) (x4 : Int32) (μ : Mem) (dy : Nat → Nat) (hf : f_m_readMeeting_b29 x1 x2 x3 x4 μ = some r) : AW X 29 [(0, .ref (gA (xG X) 111)), (1, .int x1), (2, .int x2), (3, .int x3), (4, .int x4)] [] μ dy := by
  unfold f_m_readMeeting_b29 at hf
  refine r_aload_n hX dX12_readMeeting_29 0 rfl ?_
  refine r_iconst hX (2 : Int32) dX12_readMeeting_30 rfl ?_
  refine r_iconst hX (0 : Int32) dX12_readMeeting_31 rfl ?_
  refine r_iload_n hX dX12_readMeeting_32 2 rfl ?_
  refine r_iconst hX (1 : Int32) dX12_readMeeting_33 rfl ?_
  refine r_isub hX dX12_readMeeting_34 ?_
  obtain ⟨v10, μ8, h9, hf⟩ := bd2_eq hf
  refine r_callVI (Ok.le hX (by omega)) (c_m_number (d := d)  h9) cv_X12_143 (w_111 _ _ _) rfl rfl (st := []) rfl rfl rfl dX12_readMeeting_35 (fun dy => ?_)
  refine r_istore hX dX12_readMeeting_38 rfl (ls' := [(5, .int v10), (0, .ref (gA (xG X) 111)), (1, .int x1), (2, .int x2), (3, .int x3), (4, .int x4)]) rfl ?_
  refine r_aload_n hX dX12_readMeeting_40 1 rfl ?_
  obtain ⟨v13, μ11, h12, hf⟩ := bd2_eq hf
  refine r_callVI (Ok.le hX (by omega)) (c_m_fine (d := d)  h12) cv_X12_118 (w_111 _ _ _) rfl rfl (st := []) rfl rfl rfl dX12_readMeeting_41 (fun dy => ?_)
  refine r_if_eq hX 63 dX12_readMeeting_44 rfl (fun hc14 => ?_) (fun hc14 => ?_)
  · rw [if_pos hc14] at hf
    refine r_weak [1, 2, 4, 5, 0] rfl ?_
    exact b_m_readMeeting_b63 hX hr _ _ _ _ _ _ hf
  · rw [if_neg hc14] at hf
    refine r_iload_n hX dX12_readMeeting_47 4 rfl ?_
    refine r_iload hX dX12_readMeeting_48 0 rfl ?_
    refine r_icmp_ne hX 63 dX12_readMeeting_50 rfl (fun hc36 => ?_) (fun hc36 => ?_)
    · rw [if_neg hc36] at hf
      refine r_weak [1, 2, 4, 5, 0] rfl ?_
      exact b_m_readMeeting_b63 hX hr _ _ _ _ _ _ hf
    · rw [if_pos hc36] at hf
      refine r_aload_n hX dX12_readMeeting_53 1 rfl ?_
      refine r_aload_n hX dX12_readMeeting_54 1 rfl ?_
      refine r_get hX fl_X12_112 (w_111 _ _ _) rfl dX12_readMeeting_55 ?_
      refine r_iconst hX (1 : Int32) dX12_readMeeting_58 rfl ?_
      refine r_isub hX dX12_readMeeting_59 ?_
      obtain ⟨μ37, h38, hf⟩ := bd1_eq hf
      refine r_callVV (Ok.le hX (by omega)) (c_m_fault (d := d)  h38) cv_X12_129 (w_111 _ _ _) rfl rfl (st := []) rfl rfl rfl dX12_readMeeting_60 (fun dy => ?_)
      refine r_weak [1, 2, 4, 5, 0] rfl ?_
      exact b_m_readMeeting_b63 hX hr _ _ _ _ _ _ hf
set_option maxHeartbeats 4000000 in
set_option maxRecDepth 20000 in
theorem c_m_readMeeting {G : Gx} {d : Nat} {x1 : Int32} {x2 : Int32} {μ : Mem} {r : Mem} (hf : f_m_readMeeting x1 x2 μ = some r) : Con G M_m_readMeeting (d + 3) [.ref (gA G 111), .int x1, .int x2] μ (none, r) := by
  refine Con.ofV ⟨rfl, rfl, Nat.le_of_ble_eq_true rfl⟩ rfl (fun X hG hX hr dy => ?_)
  subst hG
  show AW X 0 [(0, .ref (gA (xG X) 111)), (1, .int x1), (2, .int x2)] [] μ dy
  unfold f_m_readMeeting at hf
  refine r_aload_n hX dX12_readMeeting_0 0 rfl ?_
  refine r_iconst hX (2 : Int32) dX12_readMeeting_1 rfl ?_
  refine r_iconst hX (0 : Int32) dX12_readMeeting_2 rfl ?_
  refine r_iload_n hX dX12_readMeeting_3 2 rfl ?_
  refine r_iconst hX (1 : Int32) dX12_readMeeting_4 rfl ?_
  refine r_isub hX dX12_readMeeting_5 ?_
  obtain ⟨v3, μ1, h2, hf⟩ := bd2_eq hf
  refine r_callVI (Ok.le hX (by omega)) (c_m_number (d := d)  h2) cv_X12_143 (w_111 _ _ _) rfl rfl (st := []) rfl rfl rfl dX12_readMeeting_6 (fun dy => ?_)
  refine r_istore_n hX dX12_readMeeting_9 rfl (ls' := [(3, .int v3), (0, .ref (gA (xG X) 111)), (1, .int x1), (2, .int x2)]) rfl ?_
  refine r_aload_n hX dX12_readMeeting_10 1 rfl ?_
  refine r_bipush hX (45 : Int32) dX12_readMeeting_11 rfl ?_
  obtain ⟨v6, μ4, h5, hf⟩ := bd2_eq hf
  refine r_callVI (Ok.le hX (by omega)) (c_m_passes (d := d)  h5) cv_X12_125 (w_111 _ _ _) rfl rfl (st := []) rfl rfl rfl dX12_readMeeting_13 (fun dy => ?_)
  refine r_istore hX dX12_readMeeting_16 rfl (ls' := [(4, .int v6), (3, .int v3), (0, .ref (gA (xG X) 111)), (1, .int x1), (2, .int x2)]) rfl ?_
  refine r_iload hX dX12_readMeeting_18 0 rfl ?_
  refine r_if_ne hX 29 dX12_readMeeting_20 rfl (fun hc7 => ?_) (fun hc7 => ?_)
  · rw [if_neg hc7] at hf
    refine r_weak [2, 3, 4, 1, 0] rfl ?_
    exact b_m_readMeeting_b29 hX hr _ _ _ _ _ _ hf
  · rw [if_pos hc7] at hf
    refine r_aload_n hX dX12_readMeeting_23 2 rfl ?_
    refine r_bipush hX (62 : Int32) dX12_readMeeting_24 rfl ?_
    obtain ⟨μ39, h40, hf⟩ := bd1_eq hf
    refine r_callVV (Ok.le hX (by omega)) (c_m_need (d := d)  h40) cv_X12_147 (w_111 _ _ _) rfl rfl (st := []) rfl rfl rfl dX12_readMeeting_26 (fun dy => ?_)
    refine r_weak [2, 3, 4, 1, 0] rfl ?_
    exact b_m_readMeeting_b29 hX hr _ _ _ _ _ _ hf
theorem dX12_street_0 : decode cX12_street 0 = .ok (.aload_n 0, 1) := by decide +kernel
theorem dX12_street_1 : decode cX12_street 1 = .ok (.iconst 0, 1) := by decide +kernel
theorem dX12_street_2 : decode cX12_street 2 = .ok (.putfield 80, 3) := by decide +kernel
theorem dX12_street_5 : decode cX12_street 5 = .ok (.aload_n 0, 1) := by decide +kernel
theorem dX12_street_6 : decode cX12_street 6 = .ok (.aload_n 0, 1) := by decide +kernel
theorem dX12_street_7 : decode cX12_street 7 = .ok (.getfield 22, 3) := by decide +kernel
theorem dX12_street_10 : decode cX12_street 10 = .ok (.aload_n 0, 1) := by decide +kernel
theorem dX12_street_11 : decode cX12_street 11 = .ok (.getfield 100, 3) := by decide +kernel
theorem dX12_street_14 : decode cX12_street 14 = .ok (.bipush 76, 2) := by decide +kernel
theorem dX12_street_16 : decode cX12_street 16 = .ok (.invokevirtual 133, 3) := by decide +kernel
theorem dX12_street_19 : decode cX12_street 19 = .ok (.aload_n 0, 1) := by decide +kernel
theorem dX12_street_20 : decode cX12_street 20 = .ok (.iconst 0, 1) := by decide +kernel
theorem dX12_street_21 : decode cX12_street 21 = .ok (.putfield 100, 3) := by decide +kernel
theorem dX12_street_24 : decode cX12_street 24 = .ok (.aload_n 0, 1) := by decide +kernel
theorem dX12_street_25 : decode cX12_street 25 = .ok (.getfield 86, 3) := by decide +kernel
theorem dX12_street_28 : decode cX12_street 28 = .ok (.istore_n 1, 1) := by decide +kernel
theorem dX12_street_29 : decode cX12_street 29 = .ok (.aload_n 0, 1) := by decide +kernel
theorem dX12_street_30 : decode cX12_street 30 = .ok (.invokevirtual 137, 3) := by decide +kernel
theorem dX12_street_33 : decode cX12_street 33 = .ok (.istore_n 2, 1) := by decide +kernel
theorem dX12_street_34 : decode cX12_street 34 = .ok (.aload_n 0, 1) := by decide +kernel
theorem dX12_street_35 : decode cX12_street 35 = .ok (.getfield 140, 3) := by decide +kernel
theorem dX12_street_38 : decode cX12_street 38 = .ok (.istore_n 3, 1) := by decide +kernel
theorem dX12_street_39 : decode cX12_street 39 = .ok (.iconst 0, 1) := by decide +kernel
theorem dX12_street_40 : decode cX12_street 40 = .ok (.istore 4, 2) := by decide +kernel
theorem dX12_street_42 : decode cX12_street 42 = .ok (.iconst 0, 1) := by decide +kernel
theorem dX12_street_43 : decode cX12_street 43 = .ok (.istore 5, 2) := by decide +kernel
theorem dX12_street_45 : decode cX12_street 45 = .ok (.aload_n 0, 1) := by decide +kernel
theorem dX12_street_46 : decode cX12_street 46 = .ok (.getfield 106, 3) := by decide +kernel
theorem dX12_street_49 : decode cX12_street 49 = .ok (.ifCond .le 7, 3) := by decide +kernel
theorem dX12_street_52 : decode cX12_street 52 = .ok (.iconst 1, 1) := by decide +kernel
theorem dX12_street_53 : decode cX12_street 53 = .ok (.goto 4, 3) := by decide +kernel
theorem dX12_street_56 : decode cX12_street 56 = .ok (.iconst 0, 1) := by decide +kernel
theorem dX12_street_57 : decode cX12_street 57 = .ok (.istore 6, 2) := by decide +kernel
theorem dX12_street_59 : decode cX12_street 59 = .ok (.iload 6, 2) := by decide +kernel
theorem dX12_street_61 : decode cX12_street 61 = .ok (.ifCond .eq 163, 3) := by decide +kernel
theorem dX12_street_64 : decode cX12_street 64 = .ok (.aload_n 0, 1) := by decide +kernel
theorem dX12_street_65 : decode cX12_street 65 = .ok (.invokevirtual 118, 3) := by decide +kernel
theorem dX12_street_68 : decode cX12_street 68 = .ok (.ifCond .eq 156, 3) := by decide +kernel
theorem dX12_street_71 : decode cX12_street 71 = .ok (.aload_n 0, 1) := by decide +kernel
theorem dX12_street_72 : decode cX12_street 72 = .ok (.invokevirtual 122, 3) := by decide +kernel
theorem dX12_street_75 : decode cX12_street 75 = .ok (.bipush 98, 2) := by decide +kernel
theorem dX12_street_77 : decode cX12_street 77 = .ok (.if_icmp .eq 12, 3) := by decide +kernel
theorem dX12_street_80 : decode cX12_street 80 = .ok (.aload_n 0, 1) := by decide +kernel
theorem dX12_street_81 : decode cX12_street 81 = .ok (.invokevirtual 122, 3) := by decide +kernel
theorem dX12_street_84 : decode cX12_street 84 = .ok (.bipush 110, 2) := by decide +kernel
theorem dX12_street_86 : decode cX12_street 86 = .ok (.if_icmp .ne 112, 3) := by decide +kernel
theorem dX12_street_89 : decode cX12_street 89 = .ok (.iload_n 1, 1) := by decide +kernel
theorem dX12_street_90 : decode cX12_street 90 = .ok (.bipush 14, 2) := by decide +kernel
theorem dX12_street_92 : decode cX12_street 92 = .ok (.if_icmp .ne 14, 3) := by decide +kernel
theorem dX12_street_95 : decode cX12_street 95 = .ok (.aload_n 0, 1) := by decide +kernel
theorem dX12_street_96 : decode cX12_street 96 = .ok (.aload_n 0, 1) := by decide +kernel
theorem dX12_street_97 : decode cX12_street 97 = .ok (.getfield 112, 3) := by decide +kernel
theorem dX12_street_100 : decode cX12_street 100 = .ok (.invokevirtual 129, 3) := by decide +kernel
theorem dX12_street_103 : decode cX12_street 103 = .ok (.goto 121, 3) := by decide +kernel
theorem dX12_street_106 : decode cX12_street 106 = .ok (.aload_n 0, 1) := by decide +kernel
theorem dX12_street_107 : decode cX12_street 107 = .ok (.invokevirtual 122, 3) := by decide +kernel
theorem dX12_street_110 : decode cX12_street 110 = .ok (.bipush 98, 2) := by decide +kernel
theorem dX12_street_112 : decode cX12_street 112 = .ok (.if_icmp .ne 7, 3) := by decide +kernel
theorem dX12_street_115 : decode cX12_street 115 = .ok (.iconst 1, 1) := by decide +kernel
theorem dX12_street_116 : decode cX12_street 116 = .ok (.goto 4, 3) := by decide +kernel
theorem dX12_street_119 : decode cX12_street 119 = .ok (.iconst 0, 1) := by decide +kernel
theorem dX12_street_120 : decode cX12_street 120 = .ok (.istore 7, 2) := by decide +kernel
theorem dX12_street_122 : decode cX12_street 122 = .ok (.aload_n 0, 1) := by decide +kernel
theorem dX12_street_123 : decode cX12_street 123 = .ok (.dup, 1) := by decide +kernel
theorem dX12_street_124 : decode cX12_street 124 = .ok (.getfield 112, 3) := by decide +kernel
theorem dX12_street_127 : decode cX12_street 127 = .ok (.iconst 1, 1) := by decide +kernel
theorem dX12_street_128 : decode cX12_street 128 = .ok (.iadd, 1) := by decide +kernel
theorem dX12_street_129 : decode cX12_street 129 = .ok (.putfield 112, 3) := by decide +kernel
theorem dX12_street_132 : decode cX12_street 132 = .ok (.aload_n 0, 1) := by decide +kernel
theorem dX12_street_133 : decode cX12_street 133 = .ok (.getfield 9, 3) := by decide +kernel
theorem dX12_street_136 : decode cX12_street 136 = .ok (.iload_n 1, 1) := by decide +kernel
theorem dX12_street_137 : decode cX12_street 137 = .ok (.aload_n 0, 1) := by decide +kernel
theorem dX12_street_138 : decode cX12_street 138 = .ok (.iconst 2, 1) := by decide +kernel
theorem dX12_street_139 : decode cX12_street 139 = .ok (.iconst 0, 1) := by decide +kernel
theorem dX12_street_140 : decode cX12_street 140 = .ok (.bipush 99, 2) := by decide +kernel
theorem dX12_street_142 : decode cX12_street 142 = .ok (.invokevirtual 143, 3) := by decide +kernel
theorem dX12_street_145 : decode cX12_street 145 = .ok (.iastore, 1) := by decide +kernel
theorem dX12_street_146 : decode cX12_street 146 = .ok (.aload_n 0, 1) := by decide +kernel
theorem dX12_street_147 : decode cX12_street 147 = .ok (.bipush 44, 2) := by decide +kernel
theorem dX12_street_149 : decode cX12_street 149 = .ok (.invokevirtual 147, 3) := by decide +kernel
theorem dX12_street_152 : decode cX12_street 152 = .ok (.aload_n 0, 1) := by decide +kernel
theorem dX12_street_153 : decode cX12_street 153 = .ok (.getfield 13, 3) := by decide +kernel
theorem dX12_street_156 : decode cX12_street 156 = .ok (.iload_n 1, 1) := by decide +kernel
theorem dX12_street_157 : decode cX12_street 157 = .ok (.aload_n 0, 1) := by decide +kernel
theorem dX12_street_158 : decode cX12_street 158 = .ok (.iconst 1, 1) := by decide +kernel
theorem dX12_street_159 : decode cX12_street 159 = .ok (.iconst 0, 1) := by decide +kernel
theorem dX12_street_160 : decode cX12_street 160 = .ok (.bipush 9, 2) := by decide +kernel
theorem dX12_street_162 : decode cX12_street 162 = .ok (.invokevirtual 143, 3) := by decide +kernel
theorem dX12_street_165 : decode cX12_street 165 = .ok (.iastore, 1) := by decide +kernel
theorem dX12_street_166 : decode cX12_street 166 = .ok (.iload 7, 2) := by decide +kernel
theorem dX12_street_168 : decode cX12_street 168 = .ok (.ifCond .eq 9, 3) := by decide +kernel
theorem dX12_street_171 : decode cX12_street 171 = .ok (.iload_n 2, 1) := by decide +kernel
theorem dX12_street_172 : decode cX12_street 172 = .ok (.iconst 1, 1) := by decide +kernel
theorem dX12_street_173 : decode cX12_street 173 = .ok (.iload_n 1, 1) := by decide +kernel
theorem dX12_street_174 : decode cX12_street 174 = .ok (.ishl, 1) := by decide +kernel
theorem dX12_street_175 : decode cX12_street 175 = .ok (.ior, 1) := by decide +kernel
theorem dX12_street_176 : decode cX12_street 176 = .ok (.istore_n 2, 1) := by decide +kernel
theorem dX12_street_177 : decode cX12_street 177 = .ok (.aload_n 0, 1) := by decide +kernel
theorem dX12_street_178 : decode cX12_street 178 = .ok (.bipush 33, 2) := by decide +kernel
theorem dX12_street_180 : decode cX12_street 180 = .ok (.invokevirtual 125, 3) := by decide +kernel
theorem dX12_street_183 : decode cX12_street 183 = .ok (.ifCond .eq 9, 3) := by decide +kernel
theorem dX12_street_186 : decode cX12_street 186 = .ok (.iload_n 3, 1) := by decide +kernel
theorem dX12_street_187 : decode cX12_street 187 = .ok (.iconst 1, 1) := by decide +kernel
theorem dX12_street_188 : decode cX12_street 188 = .ok (.iload_n 1, 1) := by decide +kernel
theorem dX12_street_189 : decode cX12_street 189 = .ok (.ishl, 1) := by decide +kernel
theorem dX12_street_190 : decode cX12_street 190 = .ok (.ior, 1) := by decide +kernel
theorem dX12_street_191 : decode cX12_street 191 = .ok (.istore_n 3, 1) := by decide +kernel
theorem dX12_street_192 : decode cX12_street 192 = .ok (.iinc 1 1, 3) := by decide +kernel
theorem dX12_street_195 : decode cX12_street 195 = .ok (.goto 15, 3) := by decide +kernel
theorem dX12_street_198 : decode cX12_street 198 = .ok (.aload_n 0, 1) := by decide +kernel
theorem dX12_street_199 : decode cX12_street 199 = .ok (.iconst 4, 1) := by decide +kernel
theorem dX12_street_200 : decode cX12_street 200 = .ok (.iload 5, 2) := by decide +kernel
theorem dX12_street_202 : decode cX12_street 202 = .ok (.imul, 1) := by decide +kernel
theorem dX12_street_203 : decode cX12_street 203 = .ok (.iload_n 1, 1) := by decide +kernel
theorem dX12_street_204 : decode cX12_street 204 = .ok (.invokevirtual 150, 3) := by decide +kernel
theorem dX12_street_207 : decode cX12_street 207 = .ok (.iinc 5 1, 3) := by decide +kernel
theorem dX12_street_210 : decode cX12_street 210 = .ok (.iinc 4 1, 3) := by decide +kernel
theorem dX12_street_213 : decode cX12_street 213 = .ok (.aload_n 0, 1) := by decide +kernel
theorem dX12_street_214 : decode cX12_street 214 = .ok (.bipush 59, 2) := by decide +kernel
theorem dX12_street_216 : decode cX12_street 216 = .ok (.invokevirtual 125, 3) := by decide +kernel
theorem dX12_street_219 : decode cX12_street 219 = .ok (.istore 6, 2) := by decide +kernel
theorem dX12_street_221 : decode cX12_street 221 = .ok (.goto (-162), 3) := by decide +kernel
theorem dX12_street_224 : decode cX12_street 224 = .ok (.aload_n 0, 1) := by decide +kernel
theorem dX12_street_225 : decode cX12_street 225 = .ok (.getfield 112, 3) := by decide +kernel
theorem dX12_street_228 : decode cX12_street 228 = .ok (.aload_n 0, 1) := by decide +kernel
theorem dX12_street_229 : decode cX12_street 229 = .ok (.getfield 106, 3) := by decide +kernel
theorem dX12_street_232 : decode cX12_street 232 = .ok (.if_icmp .ge 11, 3) := by decide +kernel
theorem dX12_street_235 : decode cX12_street 235 = .ok (.aload_n 0, 1) := by decide +kernel
theorem dX12_street_236 : decode cX12_street 236 = .ok (.aload_n 0, 1) := by decide +kernel
theorem dX12_street_237 : decode cX12_street 237 = .ok (.getfield 112, 3) := by decide +kernel
theorem dX12_street_240 : decode cX12_street 240 = .ok (.invokevirtual 129, 3) := by decide +kernel
theorem dX12_street_243 : decode cX12_street 243 = .ok (.aload_n 0, 1) := by decide +kernel
theorem dX12_street_244 : decode cX12_street 244 = .ok (.invokevirtual 118, 3) := by decide +kernel
theorem dX12_street_247 : decode cX12_street 247 = .ok (.ifCond .ne 10, 3) := by decide +kernel
theorem dX12_street_250 : decode cX12_street 250 = .ok (.iconst (-1), 1) := by decide +kernel
theorem dX12_street_251 : decode cX12_street 251 = .ok (.aload_n 0, 1) := by decide +kernel
theorem dX12_street_252 : decode cX12_street 252 = .ok (.getfield 115, 3) := by decide +kernel
theorem dX12_street_255 : decode cX12_street 255 = .ok (.isub, 1) := by decide +kernel
theorem dX12_street_256 : decode cX12_street 256 = .ok (.ireturn, 1) := by decide +kernel
theorem dX12_street_257 : decode cX12_street 257 = .ok (.iload_n 1, 1) := by decide +kernel
theorem dX12_street_258 : decode cX12_street 258 = .ok (.aload_n 0, 1) := by decide +kernel
theorem dX12_street_259 : decode cX12_street 259 = .ok (.getfield 86, 3) := by decide +kernel
theorem dX12_street_262 : decode cX12_street 262 = .ok (.if_icmp .le 97, 3) := by decide +kernel
theorem dX12_street_265 : decode cX12_street 265 = .ok (.iconst 0, 1) := by decide +kernel
theorem dX12_street_266 : decode cX12_street 266 = .ok (.istore 7, 2) := by decide +kernel
theorem dX12_street_268 : decode cX12_street 268 = .ok (.iload 7, 2) := by decide +kernel
theorem dX12_street_270 : decode cX12_street 270 = .ok (.iload_n 1, 1) := by decide +kernel
theorem dX12_street_271 : decode cX12_street 271 = .ok (.if_icmp .ge 56, 3) := by decide +kernel
theorem dX12_street_274 : decode cX12_street 274 = .ok (.iconst 0, 1) := by decide +kernel
theorem dX12_street_275 : decode cX12_street 275 = .ok (.istore 8, 2) := by decide +kernel
theorem dX12_street_277 : decode cX12_street 277 = .ok (.iload 8, 2) := by decide +kernel
theorem dX12_street_279 : decode cX12_street 279 = .ok (.iload_n 1, 1) := by decide +kernel
theorem dX12_street_280 : decode cX12_street 280 = .ok (.if_icmp .ge 41, 3) := by decide +kernel
theorem dX12_street_283 : decode cX12_street 283 = .ok (.iload 7, 2) := by decide +kernel
theorem dX12_street_285 : decode cX12_street 285 = .ok (.aload_n 0, 1) := by decide +kernel
theorem dX12_street_286 : decode cX12_street 286 = .ok (.getfield 86, 3) := by decide +kernel
theorem dX12_street_289 : decode cX12_street 289 = .ok (.if_icmp .ge 12, 3) := by decide +kernel
theorem dX12_street_292 : decode cX12_street 292 = .ok (.iload 8, 2) := by decide +kernel
theorem dX12_street_294 : decode cX12_street 294 = .ok (.aload_n 0, 1) := by decide +kernel
theorem dX12_street_295 : decode cX12_street 295 = .ok (.getfield 86, 3) := by decide +kernel
theorem dX12_street_298 : decode cX12_street 298 = .ok (.if_icmp .lt 17, 3) := by decide +kernel
theorem dX12_street_301 : decode cX12_street 301 = .ok (.aload_n 0, 1) := by decide +kernel
theorem dX12_street_302 : decode cX12_street 302 = .ok (.getfield 16, 3) := by decide +kernel
theorem dX12_street_305 : decode cX12_street 305 = .ok (.bipush 14, 2) := by decide +kernel
theorem dX12_street_307 : decode cX12_street 307 = .ok (.iload 7, 2) := by decide +kernel
theorem dX12_street_309 : decode cX12_street 309 = .ok (.imul, 1) := by decide +kernel
theorem dX12_street_310 : decode cX12_street 310 = .ok (.iload 8, 2) := by decide +kernel
theorem dX12_street_312 : decode cX12_street 312 = .ok (.iadd, 1) := by decide +kernel
theorem dX12_street_313 : decode cX12_street 313 = .ok (.iconst 0, 1) := by decide +kernel
theorem dX12_street_314 : decode cX12_street 314 = .ok (.iastore, 1) := by decide +kernel
theorem dX12_street_315 : decode cX12_street 315 = .ok (.iinc 8 1, 3) := by decide +kernel
theorem dX12_street_318 : decode cX12_street 318 = .ok (.goto (-41), 3) := by decide +kernel
theorem dX12_street_321 : decode cX12_street 321 = .ok (.iinc 7 1, 3) := by decide +kernel
theorem dX12_street_324 : decode cX12_street 324 = .ok (.goto (-56), 3) := by decide +kernel
theorem dX12_street_327 : decode cX12_street 327 = .ok (.aload_n 0, 1) := by decide +kernel
theorem dX12_street_328 : decode cX12_street 328 = .ok (.iload_n 1, 1) := by decide +kernel
theorem dX12_street_329 : decode cX12_street 329 = .ok (.putfield 86, 3) := by decide +kernel
theorem dX12_street_332 : decode cX12_street 332 = .ok (.aload_n 0, 1) := by decide +kernel
theorem dX12_street_333 : decode cX12_street 333 = .ok (.iload_n 3, 1) := by decide +kernel
theorem dX12_street_334 : decode cX12_street 334 = .ok (.putfield 140, 3) := by decide +kernel
theorem dX12_street_337 : decode cX12_street 337 = .ok (.aload_n 0, 1) := by decide +kernel
theorem dX12_street_338 : decode cX12_street 338 = .ok (.iconst 0, 1) := by decide +kernel
theorem dX12_street_339 : decode cX12_street 339 = .ok (.putfield 97, 3) := by decide +kernel
theorem dX12_street_342 : decode cX12_street 342 = .ok (.aload_n 0, 1) := by decide +kernel
theorem dX12_street_343 : decode cX12_street 343 = .ok (.getfield 19, 3) := by decide +kernel
theorem dX12_street_346 : decode cX12_street 346 = .ok (.iconst 0, 1) := by decide +kernel
theorem dX12_street_347 : decode cX12_street 347 = .ok (.iload_n 2, 1) := by decide +kernel
theorem dX12_street_348 : decode cX12_street 348 = .ok (.iastore, 1) := by decide +kernel
theorem dX12_street_349 : decode cX12_street 349 = .ok (.aload_n 0, 1) := by decide +kernel
theorem dX12_street_350 : decode cX12_street 350 = .ok (.dup, 1) := by decide +kernel
theorem dX12_street_351 : decode cX12_street 351 = .ok (.getfield 154, 3) := by decide +kernel
theorem dX12_street_354 : decode cX12_street 354 = .ok (.iconst 1, 1) := by decide +kernel
theorem dX12_street_355 : decode cX12_street 355 = .ok (.iadd, 1) := by decide +kernel
theorem dX12_street_356 : decode cX12_street 356 = .ok (.putfield 154, 3) := by decide +kernel
theorem dX12_street_359 : decode cX12_street 359 = .ok (.iconst 0, 1) := by decide +kernel
theorem dX12_street_360 : decode cX12_street 360 = .ok (.istore 7, 2) := by decide +kernel
theorem dX12_street_362 : decode cX12_street 362 = .ok (.iload 7, 2) := by decide +kernel
theorem dX12_street_364 : decode cX12_street 364 = .ok (.iload 5, 2) := by decide +kernel
theorem dX12_street_366 : decode cX12_street 366 = .ok (.if_icmp .ge 96, 3) := by decide +kernel
theorem dX12_street_369 : decode cX12_street 369 = .ok (.aload_n 0, 1) := by decide +kernel
theorem dX12_street_370 : decode cX12_street 370 = .ok (.getfield 30, 3) := by decide +kernel
theorem dX12_street_373 : decode cX12_street 373 = .ok (.iconst 4, 1) := by decide +kernel
theorem dX12_street_374 : decode cX12_street 374 = .ok (.iload 7, 2) := by decide +kernel
theorem dX12_street_376 : decode cX12_street 376 = .ok (.imul, 1) := by decide +kernel
theorem dX12_street_377 : decode cX12_street 377 = .ok (.iaload, 1) := by decide +kernel
theorem dX12_street_378 : decode cX12_street 378 = .ok (.istore 8, 2) := by decide +kernel
theorem dX12_street_380 : decode cX12_street 380 = .ok (.aload_n 0, 1) := by decide +kernel
theorem dX12_street_381 : decode cX12_street 381 = .ok (.getfield 30, 3) := by decide +kernel
theorem dX12_street_384 : decode cX12_street 384 = .ok (.iconst 4, 1) := by decide +kernel
theorem dX12_street_385 : decode cX12_street 385 = .ok (.iload 7, 2) := by decide +kernel
theorem dX12_street_387 : decode cX12_street 387 = .ok (.imul, 1) := by decide +kernel
theorem dX12_street_388 : decode cX12_street 388 = .ok (.iconst 1, 1) := by decide +kernel
theorem dX12_street_389 : decode cX12_street 389 = .ok (.iadd, 1) := by decide +kernel
theorem dX12_street_390 : decode cX12_street 390 = .ok (.iaload, 1) := by decide +kernel
theorem dX12_street_391 : decode cX12_street 391 = .ok (.istore 9, 2) := by decide +kernel
theorem dX12_street_393 : decode cX12_street 393 = .ok (.aload_n 0, 1) := by decide +kernel
theorem dX12_street_394 : decode cX12_street 394 = .ok (.getfield 16, 3) := by decide +kernel
theorem dX12_street_397 : decode cX12_street 397 = .ok (.bipush 14, 2) := by decide +kernel
theorem dX12_street_399 : decode cX12_street 399 = .ok (.iload 9, 2) := by decide +kernel
theorem dX12_street_401 : decode cX12_street 401 = .ok (.imul, 1) := by decide +kernel
theorem dX12_street_402 : decode cX12_street 402 = .ok (.iload 8, 2) := by decide +kernel
theorem dX12_street_404 : decode cX12_street 404 = .ok (.iadd, 1) := by decide +kernel
theorem dX12_street_405 : decode cX12_street 405 = .ok (.aload_n 0, 1) := by decide +kernel
theorem dX12_street_406 : decode cX12_street 406 = .ok (.getfield 30, 3) := by decide +kernel
theorem dX12_street_409 : decode cX12_street 409 = .ok (.iconst 4, 1) := by decide +kernel
theorem dX12_street_410 : decode cX12_street 410 = .ok (.iload 7, 2) := by decide +kernel
theorem dX12_street_412 : decode cX12_street 412 = .ok (.imul, 1) := by decide +kernel
theorem dX12_street_413 : decode cX12_street 413 = .ok (.iconst 2, 1) := by decide +kernel
theorem dX12_street_414 : decode cX12_street 414 = .ok (.iadd, 1) := by decide +kernel
theorem dX12_street_415 : decode cX12_street 415 = .ok (.iaload, 1) := by decide +kernel
theorem dX12_street_416 : decode cX12_street 416 = .ok (.iastore, 1) := by decide +kernel
theorem dX12_street_417 : decode cX12_street 417 = .ok (.aload_n 0, 1) := by decide +kernel
theorem dX12_street_418 : decode cX12_street 418 = .ok (.getfield 30, 3) := by decide +kernel
theorem dX12_street_421 : decode cX12_street 421 = .ok (.iconst 4, 1) := by decide +kernel
theorem dX12_street_422 : decode cX12_street 422 = .ok (.iload 7, 2) := by decide +kernel
theorem dX12_street_424 : decode cX12_street 424 = .ok (.imul, 1) := by decide +kernel
theorem dX12_street_425 : decode cX12_street 425 = .ok (.iconst 3, 1) := by decide +kernel
theorem dX12_street_426 : decode cX12_street 426 = .ok (.iadd, 1) := by decide +kernel
theorem dX12_street_427 : decode cX12_street 427 = .ok (.iaload, 1) := by decide +kernel
theorem dX12_street_428 : decode cX12_street 428 = .ok (.iconst 1, 1) := by decide +kernel
theorem dX12_street_429 : decode cX12_street 429 = .ok (.if_icmp .ne 27, 3) := by decide +kernel
theorem dX12_street_432 : decode cX12_street 432 = .ok (.aload_n 0, 1) := by decide +kernel
theorem dX12_street_433 : decode cX12_street 433 = .ok (.getfield 16, 3) := by decide +kernel
theorem dX12_street_436 : decode cX12_street 436 = .ok (.bipush 14, 2) := by decide +kernel
theorem dX12_street_438 : decode cX12_street 438 = .ok (.iload 8, 2) := by decide +kernel
theorem dX12_street_440 : decode cX12_street 440 = .ok (.imul, 1) := by decide +kernel
theorem dX12_street_441 : decode cX12_street 441 = .ok (.iload 9, 2) := by decide +kernel
theorem dX12_street_443 : decode cX12_street 443 = .ok (.iadd, 1) := by decide +kernel
theorem dX12_street_444 : decode cX12_street 444 = .ok (.aload_n 0, 1) := by decide +kernel
theorem dX12_street_445 : decode cX12_street 445 = .ok (.getfield 30, 3) := by decide +kernel
theorem dX12_street_448 : decode cX12_street 448 = .ok (.iconst 4, 1) := by decide +kernel
theorem dX12_street_449 : decode cX12_street 449 = .ok (.iload 7, 2) := by decide +kernel
theorem dX12_street_451 : decode cX12_street 451 = .ok (.imul, 1) := by decide +kernel
theorem dX12_street_452 : decode cX12_street 452 = .ok (.iconst 2, 1) := by decide +kernel
theorem dX12_street_453 : decode cX12_street 453 = .ok (.iadd, 1) := by decide +kernel
theorem dX12_street_454 : decode cX12_street 454 = .ok (.iaload, 1) := by decide +kernel
theorem dX12_street_455 : decode cX12_street 455 = .ok (.iastore, 1) := by decide +kernel
theorem dX12_street_456 : decode cX12_street 456 = .ok (.iinc 7 1, 3) := by decide +kernel
theorem dX12_street_459 : decode cX12_street 459 = .ok (.goto (-97), 3) := by decide +kernel
theorem dX12_street_462 : decode cX12_street 462 = .ok (.iload 4, 2) := by decide +kernel
theorem dX12_street_464 : decode cX12_street 464 = .ok (.ireturn, 1) := by decide +kernel
set_option maxHeartbeats 4000000 in
set_option maxRecDepth 20000 in
theorem b_m_street_b362 {X : Cx} {d : Nat} (hX : Ok M_m_street (d + 4) X) {r : Int32 × Mem} (hr : RetI M_m_street X r.1 r.2) : ∀ (n : Nat) (x4 : Int32) (x5 : Int32) (x7 : Int32) (μ : Mem) (dy : Nat → Nat), f_m_street_b362 n x4 x5 x7 μ = some r → AW X 362 [(0, .ref (gA (xG X) 111)), (4, .int x4), (5, .int x5), (7, .int x7)] [] μ dy := by
  intro n
  induction n with
  | zero => intro x4 x5 x7 μ dy hf; exact nomatch hf
  | succ n ih =>
    intro x4 x5 x7 μ dy hf
    rw [f_m_street_b362] at hf
    refine r_iload hX dX12_street_362 3 rfl ?_
    refine r_iload hX dX12_street_364 2 rfl ?_
    refine r_icmp_ge hX 462 dX12_street_366 rfl (fun hc20 => ?_) (fun hc20 => ?_)
    · rw [if_pos hc20] at hf
      refine r_iload hX dX12_street_462 1 rfl ?_
      exact fin_I hf hr _ _ _ dX12_street_464
    · rw [if_neg hc20] at hf
      refine r_aload_n hX dX12_street_369 0 rfl ?_
      refine r_get hX fl_X12_30 (w_111 _ _ _) rfl dX12_street_370 ?_
      refine r_iconst hX (4 : Int32) dX12_street_373 rfl ?_
      refine r_iload hX dX12_street_374 3 rfl ?_
      refine r_imul hX dX12_street_376 ?_
      obtain ⟨b21, hf⟩ := chk_eq hf
      refine r_iald hX (w_118 _ _ _) (inb_in b21) dX12_street_377 ?_
      obtain ⟨v22, e23, hf⟩ := bnd_eq hf
      refine r_topI e23 ?_
      refine r_istore hX dX12_street_378 rfl (ls' := [(8, .int v22), (0, .ref (gA (xG X) 111)), (4, .int x4), (5, .int x5), (7, .int x7)]) rfl ?_
      refine r_aload_n hX dX12_street_380 1 rfl ?_
      refine r_get hX fl_X12_30 (w_111 _ _ _) rfl dX12_street_381 ?_
      refine r_iconst hX (4 : Int32) dX12_street_384 rfl ?_
      refine r_iload hX dX12_street_385 4 rfl ?_
      refine r_imul hX dX12_street_387 ?_
      refine r_iconst hX (1 : Int32) dX12_street_388 rfl ?_
      refine r_iadd hX dX12_street_389 ?_
      obtain ⟨b24, hf⟩ := chk_eq hf
      refine r_iald hX (w_118 _ _ _) (inb_in b24) dX12_street_390 ?_
      obtain ⟨v25, e26, hf⟩ := bnd_eq hf
      refine r_topI e26 ?_
      refine r_istore hX dX12_street_391 rfl (ls' := [(9, .int v25), (8, .int v22), (0, .ref (gA (xG X) 111)), (4, .int x4), (5, .int x5), (7, .int x7)]) rfl ?_
      refine r_aload_n hX dX12_street_393 2 rfl ?_
      refine r_get hX fl_X12_16 (w_111 _ _ _) rfl dX12_street_394 ?_
      refine r_bipush hX (14 : Int32) dX12_street_397 rfl ?_
      refine r_iload hX dX12_street_399 0 rfl ?_
      refine r_imul hX dX12_street_401 ?_
      refine r_iload hX dX12_street_402 1 rfl ?_
      refine r_iadd hX dX12_street_404 ?_
      refine r_aload_n hX dX12_street_405 2 rfl ?_
      refine r_get hX fl_X12_30 (w_111 _ _ _) rfl dX12_street_406 ?_
      refine r_iconst hX (4 : Int32) dX12_street_409 rfl ?_
      refine r_iload hX dX12_street_410 5 rfl ?_
      refine r_imul hX dX12_street_412 ?_
      refine r_iconst hX (2 : Int32) dX12_street_413 rfl ?_
      refine r_iadd hX dX12_street_414 ?_
      obtain ⟨b27, hf⟩ := chk_eq hf
      refine r_iald hX (w_118 _ _ _) (inb_in b27) dX12_street_415 ?_
      obtain ⟨b28, hf⟩ := chk_eq hf
      obtain ⟨μ29, e30, hf⟩ := bnd_eq hf
      refine r_iast hX (w_114 _ _ _) (inb_in b28) (s_114 _ _ _ _ _) e30 rfl dX12_street_416 ?_
      refine r_aload_n hX dX12_street_417 2 rfl ?_
      refine r_get hX fl_X12_30 (w_111 _ _ _) rfl dX12_street_418 ?_
      refine r_iconst hX (4 : Int32) dX12_street_421 rfl ?_
      refine r_iload hX dX12_street_422 5 rfl ?_
      refine r_imul hX dX12_street_424 ?_
      refine r_iconst hX (3 : Int32) dX12_street_425 rfl ?_
      refine r_iadd hX dX12_street_426 ?_
      obtain ⟨b31, hf⟩ := chk_eq hf
      refine r_iald hX (w_118 _ _ _) (inb_in b31) dX12_street_427 ?_
      refine r_iconst hX (1 : Int32) dX12_street_428 rfl ?_
      refine r_icmp_ne hX 456 dX12_street_429 rfl (fun hc32 => ?_) (fun hc32 => ?_)
      · rw [if_neg hc32] at hf
        refine r_iinc hX (x7 + (1 : Int32)) dX12_street_456 5 rfl rfl rfl (ls' := [(7, .int (x7 + (1 : Int32))), (9, .int v25), (8, .int v22), (0, .ref (gA (xG X) 111)), (4, .int x4), (5, .int x5)]) rfl ?_
        refine r_goto hX 362 dX12_street_459 rfl ?_
        refine r_weak [3, 4, 5, 0] rfl ?_
        exact ih _ _ _ _ _ hf
      · rw [if_pos hc32] at hf
        refine r_aload_n hX dX12_street_432 2 rfl ?_
        refine r_get hX fl_X12_16 (w_111 _ _ _) rfl dX12_street_433 ?_
        refine r_bipush hX (14 : Int32) dX12_street_436 rfl ?_
        refine r_iload hX dX12_street_438 1 rfl ?_
        refine r_imul hX dX12_street_440 ?_
        refine r_iload hX dX12_street_441 0 rfl ?_
        refine r_iadd hX dX12_street_443 ?_
        refine r_aload_n hX dX12_street_444 2 rfl ?_
        refine r_get hX fl_X12_30 (w_111 _ _ _) rfl dX12_street_445 ?_
        refine r_iconst hX (4 : Int32) dX12_street_448 rfl ?_
        refine r_iload hX dX12_street_449 5 rfl ?_
        refine r_imul hX dX12_street_451 ?_
        refine r_iconst hX (2 : Int32) dX12_street_452 rfl ?_
        refine r_iadd hX dX12_street_453 ?_
        obtain ⟨b33, hf⟩ := chk_eq hf
        refine r_iald hX (w_118 _ _ _) (inb_in b33) dX12_street_454 ?_
        obtain ⟨b34, hf⟩ := chk_eq hf
        obtain ⟨μ35, e36, hf⟩ := bnd_eq hf
        refine r_iast hX (w_114 _ _ _) (inb_in b34) (s_114 _ _ _ _ _) e36 rfl dX12_street_455 ?_
        refine r_iinc hX (x7 + (1 : Int32)) dX12_street_456 5 rfl rfl rfl (ls' := [(7, .int (x7 + (1 : Int32))), (9, .int v25), (8, .int v22), (0, .ref (gA (xG X) 111)), (4, .int x4), (5, .int x5)]) rfl ?_
        refine r_goto hX 362 dX12_street_459 rfl ?_
        refine r_weak [3, 4, 5, 0] rfl ?_
        exact ih _ _ _ _ _ hf
set_option maxHeartbeats 4000000 in
set_option maxRecDepth 20000 in
theorem b_m_street_b359 {X : Cx} {d : Nat} (hX : Ok M_m_street (d + 4) X) {r : Int32 × Mem} (hr : RetI M_m_street X r.1 r.2) (x4 : Int32) (x5 : Int32) (μ : Mem) (dy : Nat → Nat) (hf : f_m_street_b359 x4 x5 μ = some r) : AW X 359 [(0, .ref (gA (xG X) 111)), (4, .int x4), (5, .int x5)] [] μ dy := by
  unfold f_m_street_b359 at hf
  refine r_iconst hX (0 : Int32) dX12_street_359 rfl ?_
  refine r_istore hX dX12_street_360 rfl (ls' := [(7, .int (0 : Int32)), (0, .ref (gA (xG X) 111)), (4, .int x4), (5, .int x5)]) rfl ?_
  refine r_weak [1, 2, 3, 0] rfl ?_
  exact b_m_street_b362 hX hr FU _ _ _ _ _ hf
set_option maxHeartbeats 4000000 in
set_option maxRecDepth 20000 in
theorem b_m_street_b301 {X : Cx} {d : Nat} (hX : Ok M_m_street (d + 4) X) {r : Int32 × Mem} (hr : RetI M_m_street X r.1 r.2) {k268 : Int32 → Int32 → Int32 → Int32 → Int32 → Int32 → Mem → Option (Int32 × Mem)} (hk268 : ∀ (x1 : Int32) (x2 : Int32) (x3 : Int32) (x4 : Int32) (x5 : Int32) (x7 : Int32) (μ : Mem) (dy : Nat → Nat), k268 x1 x2 x3 x4 x5 x7 μ = some r → AW X 268 [(0, .ref (gA (xG X) 111)), (1, .int x1), (2, .int x2), (3, .int x3), (4, .int x4), (5, .int x5), (7, .int x7)] [] μ dy) {k277 : Int32 → Int32 → Int32 → Int32 → Int32 → Int32 → Int32 → Mem → Option (Int32 × Mem)} (hk277 : ∀ (x1 : Int32) (x2 : Int32) (x3 : Int32) (x4 : Int32) (x5 : Int32) (x7 : Int32) (x8 : Int32) (μ : Mem) (dy : Nat → Nat), k277 x1 x2 x3 x4 x5 x7 x8 μ = some r → AW X 277 [(0, .ref (gA (xG X) 111)), (1, .int x1), (2, .int x2), (3, .int x3), (4, .int x4), (5, .int x5), (7, .int x7), (8, .int x8)] [] μ dy) (x1 : Int32) (x2 : Int32) (x3 : Int32) (x4 : Int32) (x5 : Int32) (x7 : Int32) (x8 : Int32) (μ : Mem) (dy : Nat → Nat) (hf : f_m_street_b301 k268 k277 x1 x2 x3 x4 x5 x7 x8 μ = some r) : AW X 301 [(0, .ref (gA (xG X) 111)), (1, .int x1), (2, .int x2), (3, .int x3), (4, .int x4), (5, .int x5), (7, .int x7), (8, .int x8)] [] μ dy := by
  unfold f_m_street_b301 at hf
  refine r_aload_n hX dX12_street_301 0 rfl ?_
  refine r_get hX fl_X12_16 (w_111 _ _ _) rfl dX12_street_302 ?_
  refine r_bipush hX (14 : Int32) dX12_street_305 rfl ?_
  refine r_iload hX dX12_street_307 6 rfl ?_
  refine r_imul hX dX12_street_309 ?_
  refine r_iload hX dX12_street_310 7 rfl ?_
  refine r_iadd hX dX12_street_312 ?_
  refine r_iconst hX (0 : Int32) dX12_street_313 rfl ?_
  obtain ⟨b51, hf⟩ := chk_eq hf
  obtain ⟨μ52, e53, hf⟩ := bnd_eq hf
  refine r_iast hX (w_114 _ _ _) (inb_in b51) (s_114 _ _ _ _ _) e53 rfl dX12_street_314 ?_
  refine r_iinc hX (x8 + (1 : Int32)) dX12_street_315 7 rfl rfl rfl (ls' := [(8, .int (x8 + (1 : Int32))), (0, .ref (gA (xG X) 111)), (1, .int x1), (2, .int x2), (3, .int x3), (4, .int x4), (5, .int x5), (7, .int x7)]) rfl ?_
  refine r_goto hX 277 dX12_street_318 rfl ?_
  refine r_weak [1, 2, 3, 4, 5, 6, 7, 0] rfl ?_
  exact hk277 _ _ _ _ _ _ _ _ _ hf
set_option maxHeartbeats 4000000 in
set_option maxRecDepth 20000 in
theorem b_m_street_b277 {X : Cx} {d : Nat} (hX : Ok M_m_street (d + 4) X) {r : Int32 × Mem} (hr : RetI M_m_street X r.1 r.2) {k268 : Int32 → Int32 → Int32 → Int32 → Int32 → Int32 → Mem → Option (Int32 × Mem)} (hk268 : ∀ (x1 : Int32) (x2 : Int32) (x3 : Int32) (x4 : Int32) (x5 : Int32) (x7 : Int32) (μ : Mem) (dy : Nat → Nat), k268 x1 x2 x3 x4 x5 x7 μ = some r → AW X 268 [(0, .ref (gA (xG X) 111)), (1, .int x1), (2, .int x2), (3, .int x3), (4, .int x4), (5, .int x5), (7, .int x7)] [] μ dy) : ∀ (n : Nat) (x1 : Int32) (x2 : Int32) (x3 : Int32) (x4 : Int32) (x5 : Int32) (x7 : Int32) (x8 : Int32) (μ : Mem) (dy : Nat → Nat), f_m_street_b277 k268 n x1 x2 x3 x4 x5 x7 x8 μ = some r → AW X 277 [(0, .ref (gA (xG X) 111)), (1, .int x1), (2, .int x2), (3, .int x3), (4, .int x4), (5, .int x5), (7, .int x7), (8, .int x8)] [] μ dy := by
  intro n
  induction n with
  | zero => intro x1 x2 x3 x4 x5 x7 x8 μ dy hf; exact nomatch hf
  | succ n ih =>
    intro x1 x2 x3 x4 x5 x7 x8 μ dy hf
    rw [f_m_street_b277] at hf
    refine r_iload hX dX12_street_277 7 rfl ?_
    refine r_iload_n hX dX12_street_279 1 rfl ?_
    refine r_icmp_ge hX 321 dX12_street_280 rfl (fun hc49 => ?_) (fun hc49 => ?_)
    · rw [if_pos hc49] at hf
      refine r_iinc hX (x7 + (1 : Int32)) dX12_street_321 6 rfl rfl rfl (ls' := [(7, .int (x7 + (1 : Int32))), (0, .ref (gA (xG X) 111)), (1, .int x1), (2, .int x2), (3, .int x3), (4, .int x4), (5, .int x5), (8, .int x8)]) rfl ?_
      refine r_goto hX 268 dX12_street_324 rfl ?_
      refine r_weak [1, 2, 3, 4, 5, 6, 0] rfl ?_
      exact hk268 _ _ _ _ _ _ _ _ hf
    · rw [if_neg hc49] at hf
      refine r_iload hX dX12_street_283 6 rfl ?_
      refine r_aload_n hX dX12_street_285 0 rfl ?_
      refine r_get hX fl_X12_86 (w_111 _ _ _) rfl dX12_street_286 ?_
      refine r_icmp_ge hX 301 dX12_street_289 rfl (fun hc50 => ?_) (fun hc50 => ?_)
      · rw [if_pos hc50] at hf
        refine r_weak [0, 1, 2, 3, 4, 5, 6, 7] rfl ?_
        exact b_m_street_b301 hX hr hk268 ih _ _ _ _ _ _ _ _ _ hf
      · rw [if_neg hc50] at hf
        refine r_iload hX dX12_street_292 7 rfl ?_
        refine r_aload_n hX dX12_street_294 0 rfl ?_
        refine r_get hX fl_X12_86 (w_111 _ _ _) rfl dX12_street_295 ?_
        refine r_icmp_lt hX 315 dX12_street_298 rfl (fun hc54 => ?_) (fun hc54 => ?_)
        · rw [if_pos hc54] at hf
          refine r_iinc hX (x8 + (1 : Int32)) dX12_street_315 7 rfl rfl rfl (ls' := [(8, .int (x8 + (1 : Int32))), (0, .ref (gA (xG X) 111)), (1, .int x1), (2, .int x2), (3, .int x3), (4, .int x4), (5, .int x5), (7, .int x7)]) rfl ?_
          refine r_goto hX 277 dX12_street_318 rfl ?_
          refine r_weak [1, 2, 3, 4, 5, 6, 7, 0] rfl ?_
          exact ih _ _ _ _ _ _ _ _ _ hf
        · rw [if_neg hc54] at hf
          refine r_weak [0, 1, 2, 3, 4, 5, 6, 7] rfl ?_
          exact b_m_street_b301 hX hr hk268 ih _ _ _ _ _ _ _ _ _ hf
set_option maxHeartbeats 4000000 in
set_option maxRecDepth 20000 in
theorem b_m_street_b268 {X : Cx} {d : Nat} (hX : Ok M_m_street (d + 4) X) {r : Int32 × Mem} (hr : RetI M_m_street X r.1 r.2) : ∀ (n : Nat) (x1 : Int32) (x2 : Int32) (x3 : Int32) (x4 : Int32) (x5 : Int32) (x7 : Int32) (μ : Mem) (dy : Nat → Nat), f_m_street_b268 n x1 x2 x3 x4 x5 x7 μ = some r → AW X 268 [(0, .ref (gA (xG X) 111)), (1, .int x1), (2, .int x2), (3, .int x3), (4, .int x4), (5, .int x5), (7, .int x7)] [] μ dy := by
  intro n
  induction n with
  | zero => intro x1 x2 x3 x4 x5 x7 μ dy hf; exact nomatch hf
  | succ n ih =>
    intro x1 x2 x3 x4 x5 x7 μ dy hf
    rw [f_m_street_b268] at hf
    refine r_iload hX dX12_street_268 6 rfl ?_
    refine r_iload_n hX dX12_street_270 1 rfl ?_
    refine r_icmp_ge hX 327 dX12_street_271 rfl (fun hc37 => ?_) (fun hc37 => ?_)
    · rw [if_pos hc37] at hf
      refine r_aload_n hX dX12_street_327 0 rfl ?_
      refine r_iload_n hX dX12_street_328 1 rfl ?_
      obtain ⟨μ38, e39, hf⟩ := bnd_eq hf
      refine r_put hX fl_X12_86 ft_X12_0 (w_111 _ _ _) rfl rfl rfl (s_111_0 _ _ _ _) e39 rfl dX12_street_329 ?_
      refine r_aload_n hX dX12_street_332 0 rfl ?_
      refine r_iload_n hX dX12_street_333 3 rfl ?_
      obtain ⟨μ40, e41, hf⟩ := bnd_eq hf
      refine r_put hX fl_X12_140 ft_X12_3 (w_111 _ _ _) rfl rfl rfl (s_111_3 _ _ _ _) e41 rfl dX12_street_334 ?_
      refine r_aload_n hX dX12_street_337 0 rfl ?_
      refine r_iconst hX (0 : Int32) dX12_street_338 rfl ?_
      obtain ⟨μ42, e43, hf⟩ := bnd_eq hf
      refine r_put hX fl_X12_97 ft_X12_6 (w_111 _ _ _) rfl rfl rfl (s_111_6 _ _ _ _) e43 rfl dX12_street_339 ?_
      refine r_aload_n hX dX12_street_342 0 rfl ?_
      refine r_get hX fl_X12_19 (w_111 _ _ _) rfl dX12_street_343 ?_
      refine r_iconst hX (0 : Int32) dX12_street_346 rfl ?_
      refine r_iload_n hX dX12_street_347 2 rfl ?_
      obtain ⟨b44, hf⟩ := chk_eq hf
      obtain ⟨μ45, e46, hf⟩ := bnd_eq hf
      refine r_iast hX (w_115 _ _ _) (inb_in b44) (s_115 _ _ _ _ _) e46 rfl dX12_street_348 ?_
      refine r_aload_n hX dX12_street_349 0 rfl ?_
      refine r_dup hX dX12_street_350 rfl ?_
      refine r_get hX fl_X12_154 (w_111 _ _ _) rfl dX12_street_351 ?_
      refine r_iconst hX (1 : Int32) dX12_street_354 rfl ?_
      refine r_iadd hX dX12_street_355 ?_
      obtain ⟨μ47, e48, hf⟩ := bnd_eq hf
      refine r_put hX fl_X12_154 ft_X12_35 (w_111 _ _ _) rfl rfl rfl (s_111_35 _ _ _ _) e48 rfl dX12_street_356 ?_
      refine r_weak [0, 4, 5] rfl ?_
      exact b_m_street_b359 hX hr _ _ _ _ hf
    · rw [if_neg hc37] at hf
      refine r_iconst hX (0 : Int32) dX12_street_274 rfl ?_
      refine r_istore hX dX12_street_275 rfl (ls' := [(8, .int (0 : Int32)), (0, .ref (gA (xG X) 111)), (1, .int x1), (2, .int x2), (3, .int x3), (4, .int x4), (5, .int x5), (7, .int x7)]) rfl ?_
      refine r_weak [1, 2, 3, 4, 5, 6, 7, 0] rfl ?_
      exact b_m_street_b277 hX hr ih FU _ _ _ _ _ _ _ _ _ hf
set_option maxHeartbeats 4000000 in
set_option maxRecDepth 20000 in
theorem b_m_street_b243 {X : Cx} {d : Nat} (hX : Ok M_m_street (d + 4) X) {r : Int32 × Mem} (hr : RetI M_m_street X r.1 r.2) (x1 : Int32) (x2 : Int32) (x3 : Int32) (x4 : Int32) (x5 : Int32) (μ : Mem) (dy : Nat → Nat) (hf : f_m_street_b243 x1 x2 x3 x4 x5 μ = some r) : AW X 243 [(0, .ref (gA (xG X) 111)), (1, .int x1), (2, .int x2), (3, .int x3), (4, .int x4), (5, .int x5)] [] μ dy := by
  unfold f_m_street_b243 at hf
  refine r_aload_n hX dX12_street_243 0 rfl ?_
  obtain ⟨v17, μ15, h16, hf⟩ := bd2_eq hf
  refine r_callVI (Ok.le hX (by omega)) (c_m_fine (d := d)  h16) cv_X12_118 (w_111 _ _ _) rfl rfl (st := []) rfl rfl rfl dX12_street_244 (fun dy => ?_)
  refine r_if_ne hX 257 dX12_street_247 rfl (fun hc18 => ?_) (fun hc18 => ?_)
  · rw [if_neg hc18] at hf
    refine r_iload_n hX dX12_street_257 1 rfl ?_
    refine r_aload_n hX dX12_street_258 0 rfl ?_
    refine r_get hX fl_X12_86 (w_111 _ _ _) rfl dX12_street_259 ?_
    refine r_icmp_le hX 359 dX12_street_262 rfl (fun hc19 => ?_) (fun hc19 => ?_)
    · rw [if_pos hc19] at hf
      refine r_weak [0, 4, 5] rfl ?_
      exact b_m_street_b359 hX hr _ _ _ _ hf
    · rw [if_neg hc19] at hf
      refine r_iconst hX (0 : Int32) dX12_street_265 rfl ?_
      refine r_istore hX dX12_street_266 rfl (ls' := [(7, .int (0 : Int32)), (0, .ref (gA (xG X) 111)), (1, .int x1), (2, .int x2), (3, .int x3), (4, .int x4), (5, .int x5)]) rfl ?_
      refine r_weak [1, 2, 3, 4, 5, 6, 0] rfl ?_
      exact b_m_street_b268 hX hr FU _ _ _ _ _ _ _ _ hf
  · rw [if_pos hc18] at hf
    refine r_iconst hX (-1 : Int32) dX12_street_250 rfl ?_
    refine r_aload_n hX dX12_street_251 0 rfl ?_
    refine r_get hX fl_X12_115 (w_111 _ _ _) rfl dX12_street_252 ?_
    refine r_isub hX dX12_street_255 ?_
    exact fin_I hf hr _ _ _ dX12_street_256
set_option maxHeartbeats 4000000 in
set_option maxRecDepth 20000 in
theorem b_m_street_b224 {X : Cx} {d : Nat} (hX : Ok M_m_street (d + 4) X) {r : Int32 × Mem} (hr : RetI M_m_street X r.1 r.2) (x1 : Int32) (x2 : Int32) (x3 : Int32) (x4 : Int32) (x5 : Int32) (μ : Mem) (dy : Nat → Nat) (hf : f_m_street_b224 x1 x2 x3 x4 x5 μ = some r) : AW X 224 [(0, .ref (gA (xG X) 111)), (1, .int x1), (2, .int x2), (3, .int x3), (4, .int x4), (5, .int x5)] [] μ dy := by
  unfold f_m_street_b224 at hf
  refine r_aload_n hX dX12_street_224 0 rfl ?_
  refine r_get hX fl_X12_112 (w_111 _ _ _) rfl dX12_street_225 ?_
  refine r_aload_n hX dX12_street_228 0 rfl ?_
  refine r_get hX fl_X12_106 (w_111 _ _ _) rfl dX12_street_229 ?_
  refine r_icmp_ge hX 243 dX12_street_232 rfl (fun hc14 => ?_) (fun hc14 => ?_)
  · rw [if_pos hc14] at hf
    refine r_weak [0, 1, 2, 3, 4, 5] rfl ?_
    exact b_m_street_b243 hX hr _ _ _ _ _ _ _ hf
  · rw [if_neg hc14] at hf
    refine r_aload_n hX dX12_street_235 0 rfl ?_
    refine r_aload_n hX dX12_street_236 0 rfl ?_
    refine r_get hX fl_X12_112 (w_111 _ _ _) rfl dX12_street_237 ?_
    obtain ⟨μ55, h56, hf⟩ := bd1_eq hf
    refine r_callVV (Ok.le hX (by omega)) (c_m_fault (d := d)  h56) cv_X12_129 (w_111 _ _ _) rfl rfl (st := []) rfl rfl rfl dX12_street_240 (fun dy => ?_)
    refine r_weak [0, 1, 2, 3, 4, 5] rfl ?_
    exact b_m_street_b243 hX hr _ _ _ _ _ _ _ hf
set_option maxHeartbeats 4000000 in
set_option maxRecDepth 20000 in
theorem b_m_street_b210 {X : Cx} {d : Nat} (hX : Ok M_m_street (d + 4) X) {r : Int32 × Mem} (hr : RetI M_m_street X r.1 r.2) {k59 : Int32 → Int32 → Int32 → Int32 → Int32 → Int32 → Mem → Option (Int32 × Mem)} (hk59 : ∀ (x1 : Int32) (x2 : Int32) (x3 : Int32) (x4 : Int32) (x5 : Int32) (x6 : Int32) (μ : Mem) (dy : Nat → Nat), k59 x1 x2 x3 x4 x5 x6 μ = some r → AW X 59 [(0, .ref (gA (xG X) 111)), (1, .int x1), (2, .int x2), (3, .int x3), (4, .int x4), (5, .int x5), (6, .int x6)] [] μ dy) (x1 : Int32) (x2 : Int32) (x3 : Int32) (x4 : Int32) (x5 : Int32) (μ : Mem) (dy : Nat → Nat) (hf : f_m_street_b210 k59 x1 x2 x3 x4 x5 μ = some r) : AW X 210 [(0, .ref (gA (xG X) 111)), (1, .int x1), (2, .int x2), (3, .int x3), (4, .int x4), (5, .int x5)] [] μ dy := by
  unfold f_m_street_b210 at hf
  refine r_iinc hX (x4 + (1 : Int32)) dX12_street_210 4 rfl rfl rfl (ls' := [(4, .int (x4 + (1 : Int32))), (0, .ref (gA (xG X) 111)), (1, .int x1), (2, .int x2), (3, .int x3), (5, .int x5)]) rfl ?_
  refine r_aload_n hX dX12_street_213 1 rfl ?_
  refine r_bipush hX (59 : Int32) dX12_street_214 rfl ?_
  obtain ⟨v95, μ93, h94, hf⟩ := bd2_eq hf
  refine r_callVI (Ok.le hX (by omega)) (c_m_passes (d := d)  h94) cv_X12_125 (w_111 _ _ _) rfl rfl (st := []) rfl rfl rfl dX12_street_216 (fun dy => ?_)
  refine r_istore hX dX12_street_219 rfl (ls' := [(6, .int v95), (4, .int (x4 + (1 : Int32))), (0, .ref (gA (xG X) 111)), (1, .int x1), (2, .int x2), (3, .int x3), (5, .int x5)]) rfl ?_
  refine r_goto hX 59 dX12_street_221 rfl ?_
  refine r_weak [2, 3, 4, 5, 1, 6, 0] rfl ?_
  exact hk59 _ _ _ _ _ _ _ _ hf
set_option maxHeartbeats 4000000 in
set_option maxRecDepth 20000 in
theorem b_m_street_b192 {X : Cx} {d : Nat} (hX : Ok M_m_street (d + 4) X) {r : Int32 × Mem} (hr : RetI M_m_street X r.1 r.2) {k59 : Int32 → Int32 → Int32 → Int32 → Int32 → Int32 → Mem → Option (Int32 × Mem)} (hk59 : ∀ (x1 : Int32) (x2 : Int32) (x3 : Int32) (x4 : Int32) (x5 : Int32) (x6 : Int32) (μ : Mem) (dy : Nat → Nat), k59 x1 x2 x3 x4 x5 x6 μ = some r → AW X 59 [(0, .ref (gA (xG X) 111)), (1, .int x1), (2, .int x2), (3, .int x3), (4, .int x4), (5, .int x5), (6, .int x6)] [] μ dy) (x1 : Int32) (x2 : Int32) (x3 : Int32) (x4 : Int32) (x5 : Int32) (μ : Mem) (dy : Nat → Nat) (hf : f_m_street_b192 k59 x1 x2 x3 x4 x5 μ = some r) : AW X 192 [(0, .ref (gA (xG X) 111)), (1, .int x1), (2, .int x2), (3, .int x3), (4, .int x4), (5, .int x5)] [] μ dy := by
  unfold f_m_street_b192 at hf
  refine r_iinc hX (x1 + (1 : Int32)) dX12_street_192 1 rfl rfl rfl (ls' := [(1, .int (x1 + (1 : Int32))), (0, .ref (gA (xG X) 111)), (2, .int x2), (3, .int x3), (4, .int x4), (5, .int x5)]) rfl ?_
  refine r_goto hX 210 dX12_street_195 rfl ?_
  refine r_weak [1, 0, 2, 3, 4, 5] rfl ?_
  exact b_m_street_b210 hX hr hk59 _ _ _ _ _ _ _ hf
set_option maxHeartbeats 4000000 in
set_option maxRecDepth 20000 in
theorem b_m_street_b177 {X : Cx} {d : Nat} (hX : Ok M_m_street (d + 4) X) {r : Int32 × Mem} (hr : RetI M_m_street X r.1 r.2) {k59 : Int32 → Int32 → Int32 → Int32 → Int32 → Int32 → Mem → Option (Int32 × Mem)} (hk59 : ∀ (x1 : Int32) (x2 : Int32) (x3 : Int32) (x4 : Int32) (x5 : Int32) (x6 : Int32) (μ : Mem) (dy : Nat → Nat), k59 x1 x2 x3 x4 x5 x6 μ = some r → AW X 59 [(0, .ref (gA (xG X) 111)), (1, .int x1), (2, .int x2), (3, .int x3), (4, .int x4), (5, .int x5), (6, .int x6)] [] μ dy) (x1 : Int32) (x2 : Int32) (x3 : Int32) (x4 : Int32) (x5 : Int32) (μ : Mem) (dy : Nat → Nat) (hf : f_m_street_b177 k59 x1 x2 x3 x4 x5 μ = some r) : AW X 177 [(0, .ref (gA (xG X) 111)), (1, .int x1), (2, .int x2), (3, .int x3), (4, .int x4), (5, .int x5)] [] μ dy := by
  unfold f_m_street_b177 at hf
  refine r_aload_n hX dX12_street_177 0 rfl ?_
  refine r_bipush hX (33 : Int32) dX12_street_178 rfl ?_
  obtain ⟨v91, μ89, h90, hf⟩ := bd2_eq hf
  refine r_callVI (Ok.le hX (by omega)) (c_m_passes (d := d)  h90) cv_X12_125 (w_111 _ _ _) rfl rfl (st := []) rfl rfl rfl dX12_street_180 (fun dy => ?_)
  refine r_if_eq hX 192 dX12_street_183 rfl (fun hc92 => ?_) (fun hc92 => ?_)
  · rw [if_pos hc92] at hf
    refine r_weak [0, 1, 2, 3, 4, 5] rfl ?_
    exact b_m_street_b192 hX hr hk59 _ _ _ _ _ _ _ hf
  · rw [if_neg hc92] at hf
    refine r_iload_n hX dX12_street_186 3 rfl ?_
    refine r_iconst hX (1 : Int32) dX12_street_187 rfl ?_
    refine r_iload_n hX dX12_street_188 1 rfl ?_
    refine r_ishl hX dX12_street_189 ?_
    refine r_ior hX dX12_street_190 ?_
    obtain ⟨v96, e97, hf⟩ := bnd_eq hf
    refine r_topI e97 ?_
    refine r_istore_n hX dX12_street_191 rfl (ls' := [(3, .int v96), (0, .ref (gA (xG X) 111)), (1, .int x1), (2, .int x2), (4, .int x4), (5, .int x5)]) rfl ?_
    refine r_weak [1, 2, 3, 0, 4, 5] rfl ?_
    exact b_m_street_b192 hX hr hk59 _ _ _ _ _ _ _ hf
set_option maxHeartbeats 4000000 in
set_option maxRecDepth 20000 in
theorem b_m_street_b89 {X : Cx} {d : Nat} (hX : Ok M_m_street (d + 4) X) {r : Int32 × Mem} (hr : RetI M_m_street X r.1 r.2) {k59 : Int32 → Int32 → Int32 → Int32 → Int32 → Int32 → Mem → Option (Int32 × Mem)} (hk59 : ∀ (x1 : Int32) (x2 : Int32) (x3 : Int32) (x4 : Int32) (x5 : Int32) (x6 : Int32) (μ : Mem) (dy : Nat → Nat), k59 x1 x2 x3 x4 x5 x6 μ = some r → AW X 59 [(0, .ref (gA (xG X) 111)), (1, .int x1), (2, .int x2), (3, .int x3), (4, .int x4), (5, .int x5), (6, .int x6)] [] μ dy) (x1 : Int32) (x2 : Int32) (x3 : Int32) (x4 : Int32) (x5 : Int32) (μ : Mem) (dy : Nat → Nat) (hf : f_m_street_b89 k59 x1 x2 x3 x4 x5 μ = some r) : AW X 89 [(0, .ref (gA (xG X) 111)), (1, .int x1), (2, .int x2), (3, .int x3), (4, .int x4), (5, .int x5)] [] μ dy := by
  unfold f_m_street_b89 at hf
  refine r_iload_n hX dX12_street_89 1 rfl ?_
  refine r_bipush hX (14 : Int32) dX12_street_90 rfl ?_
  refine r_icmp_ne hX 106 dX12_street_92 rfl (fun hc65 => ?_) (fun hc65 => ?_)
  · rw [if_neg hc65] at hf
    refine r_aload_n hX dX12_street_106 0 rfl ?_
    obtain ⟨v68, μ66, h67, hf⟩ := bd2_eq hf
    refine r_callVI (Ok.le hX (by omega)) (c_m_here (d := d)  h67) cv_X12_122 (w_111 _ _ _) rfl rfl (st := []) rfl rfl rfl dX12_street_107 (fun dy => ?_)
    refine r_bipush hX (98 : Int32) dX12_street_110 rfl ?_
    obtain ⟨v69, e70, hf⟩ := bnd_eq hf
    have J71 : AW X 120 [(0, .ref (gA (xG X) 111)), (1, .int x1), (2, .int x2), (3, .int x3), (4, .int x4), (5, .int x5)] [.int v69] μ66 dy := by
      refine r_istore hX dX12_street_120 rfl (ls' := [(7, .int v69), (0, .ref (gA (xG X) 111)), (1, .int x1), (2, .int x2), (3, .int x3), (4, .int x4), (5, .int x5)]) rfl ?_
      refine r_aload_n hX dX12_street_122 1 rfl ?_
      refine r_dup hX dX12_street_123 rfl ?_
      refine r_get hX fl_X12_112 (w_111 _ _ _) rfl dX12_street_124 ?_
      refine r_iconst hX (1 : Int32) dX12_street_127 rfl ?_
      refine r_iadd hX dX12_street_128 ?_
      obtain ⟨μ72, e73, hf⟩ := bnd_eq hf
      refine r_put hX fl_X12_112 ft_X12_15 (w_111 _ _ _) rfl rfl rfl (s_111_15 _ _ _ _) e73 rfl dX12_street_129 ?_
      refine r_aload_n hX dX12_street_132 1 rfl ?_
      refine r_get hX fl_X12_9 (w_111 _ _ _) rfl dX12_street_133 ?_
      refine r_iload_n hX dX12_street_136 2 rfl ?_
      refine r_aload_n hX dX12_street_137 1 rfl ?_
      refine r_iconst hX (2 : Int32) dX12_street_138 rfl ?_
      refine r_iconst hX (0 : Int32) dX12_street_139 rfl ?_
      refine r_bipush hX (99 : Int32) dX12_street_140 rfl ?_
      obtain ⟨v76, μ74, h75, hf⟩ := bd2_eq hf
      refine r_callVI (Ok.le hX (by omega)) (c_m_number (d := d)  h75) cv_X12_143 (w_111 _ _ _) rfl rfl (st := [.int x1, .ref (gA (xG X) 112)]) rfl rfl rfl dX12_street_142 (fun dy => ?_)
      obtain ⟨b77, hf⟩ := chk_eq hf
      obtain ⟨μ78, e79, hf⟩ := bnd_eq hf
      refine r_iast hX (w_112 _ _ _) (inb_in b77) (s_112 _ _ _ _ _) e79 rfl dX12_street_145 ?_
      refine r_aload_n hX dX12_street_146 1 rfl ?_
      refine r_bipush hX (44 : Int32) dX12_street_147 rfl ?_
      obtain ⟨μ80, h81, hf⟩ := bd1_eq hf
      refine r_callVV (Ok.le hX (by omega)) (c_m_need (d := d)  h81) cv_X12_147 (w_111 _ _ _) rfl rfl (st := []) rfl rfl rfl dX12_street_149 (fun dy => ?_)
      refine r_aload_n hX dX12_street_152 1 rfl ?_
      refine r_get hX fl_X12_13 (w_111 _ _ _) rfl dX12_street_153 ?_
      refine r_iload_n hX dX12_street_156 2 rfl ?_
      refine r_aload_n hX dX12_street_157 1 rfl ?_
      refine r_iconst hX (1 : Int32) dX12_street_158 rfl ?_
      refine r_iconst hX (0 : Int32) dX12_street_159 rfl ?_
      refine r_bipush hX (9 : Int32) dX12_street_160 rfl ?_
      obtain ⟨v84, μ82, h83, hf⟩ := bd2_eq hf
      refine r_callVI (Ok.le hX (by omega)) (c_m_number (d := d)  h83) cv_X12_143 (w_111 _ _ _) rfl rfl (st := [.int x1, .ref (gA (xG X) 113)]) rfl rfl rfl dX12_street_162 (fun dy => ?_)
      obtain ⟨b85, hf⟩ := chk_eq hf
      obtain ⟨μ86, e87, hf⟩ := bnd_eq hf
      refine r_iast hX (w_113 _ _ _) (inb_in b85) (s_113 _ _ _ _ _) e87 rfl dX12_street_165 ?_
      refine r_iload hX dX12_street_166 0 rfl ?_
      refine r_if_eq hX 177 dX12_street_168 rfl (fun hc88 => ?_) (fun hc88 => ?_)
      · rw [if_pos hc88] at hf
        refine r_weak [1, 2, 3, 4, 5, 6] rfl ?_
        exact b_m_street_b177 hX hr hk59 _ _ _ _ _ _ _ hf
      · rw [if_neg hc88] at hf
        refine r_iload_n hX dX12_street_171 3 rfl ?_
        refine r_iconst hX (1 : Int32) dX12_street_172 rfl ?_
        refine r_iload_n hX dX12_street_173 2 rfl ?_
        refine r_ishl hX dX12_street_174 ?_
        refine r_ior hX dX12_street_175 ?_
        obtain ⟨v98, e99, hf⟩ := bnd_eq hf
        refine r_topI e99 ?_
        refine r_istore_n hX dX12_street_176 rfl (ls' := [(2, .int v98), (7, .int v69), (0, .ref (gA (xG X) 111)), (1, .int x1), (3, .int x3), (4, .int x4), (5, .int x5)]) rfl ?_
        refine r_weak [2, 3, 0, 4, 5, 6] rfl ?_
        exact b_m_street_b177 hX hr hk59 _ _ _ _ _ _ _ hf
    refine r_icmp_ne hX 119 dX12_street_112 rfl (fun hc100 => ?_) (fun hc100 => ?_)
    · refine r_iconst hX (0 : Int32) dX12_street_119 rfl ?_
      exact r_topI (e70.trans (by rw [if_neg hc100])) J71
    · refine r_iconst hX (1 : Int32) dX12_street_115 rfl ?_
      refine r_goto hX 120 dX12_street_116 rfl ?_
      exact r_topI (e70.trans (by rw [if_pos hc100])) J71
  · rw [if_pos hc65] at hf
    refine r_aload_n hX dX12_street_95 0 rfl ?_
    refine r_aload_n hX dX12_street_96 0 rfl ?_
    refine r_get hX fl_X12_112 (w_111 _ _ _) rfl dX12_street_97 ?_
    obtain ⟨μ101, h102, hf⟩ := bd1_eq hf
    refine r_callVV (Ok.le hX (by omega)) (c_m_fault (d := d)  h102) cv_X12_129 (w_111 _ _ _) rfl rfl (st := []) rfl rfl rfl dX12_street_100 (fun dy => ?_)
    refine r_goto hX 224 dX12_street_103 rfl ?_
    refine r_weak [0, 1, 2, 3, 4, 5] rfl ?_
    exact b_m_street_b224 hX hr _ _ _ _ _ _ _ hf
set_option maxHeartbeats 4000000 in
set_option maxRecDepth 20000 in
theorem b_m_street_b59 {X : Cx} {d : Nat} (hX : Ok M_m_street (d + 4) X) {r : Int32 × Mem} (hr : RetI M_m_street X r.1 r.2) : ∀ (n : Nat) (x1 : Int32) (x2 : Int32) (x3 : Int32) (x4 : Int32) (x5 : Int32) (x6 : Int32) (μ : Mem) (dy : Nat → Nat), f_m_street_b59 n x1 x2 x3 x4 x5 x6 μ = some r → AW X 59 [(0, .ref (gA (xG X) 111)), (1, .int x1), (2, .int x2), (3, .int x3), (4, .int x4), (5, .int x5), (6, .int x6)] [] μ dy := by
  intro n
  induction n with
  | zero => intro x1 x2 x3 x4 x5 x6 μ dy hf; exact nomatch hf
  | succ n ih =>
    intro x1 x2 x3 x4 x5 x6 μ dy hf
    rw [f_m_street_b59] at hf
    refine r_iload hX dX12_street_59 6 rfl ?_
    refine r_if_eq hX 224 dX12_street_61 rfl (fun hc13 => ?_) (fun hc13 => ?_)
    · rw [if_pos hc13] at hf
      refine r_weak [0, 1, 2, 3, 4, 5] rfl ?_
      exact b_m_street_b224 hX hr _ _ _ _ _ _ _ hf
    · rw [if_neg hc13] at hf
      refine r_aload_n hX dX12_street_64 0 rfl ?_
      obtain ⟨v59, μ57, h58, hf⟩ := bd2_eq hf
      refine r_callVI (Ok.le hX (by omega)) (c_m_fine (d := d)  h58) cv_X12_118 (w_111 _ _ _) rfl rfl (st := []) rfl rfl rfl dX12_street_65 (fun dy => ?_)
      refine r_if_eq hX 224 dX12_street_68 rfl (fun hc60 => ?_) (fun hc60 => ?_)
      · rw [if_pos hc60] at hf
        refine r_weak [0, 1, 2, 3, 4, 5] rfl ?_
        exact b_m_street_b224 hX hr _ _ _ _ _ _ _ hf
      · rw [if_neg hc60] at hf
        refine r_aload_n hX dX12_street_71 0 rfl ?_
        obtain ⟨v63, μ61, h62, hf⟩ := bd2_eq hf
        refine r_callVI (Ok.le hX (by omega)) (c_m_here (d := d)  h62) cv_X12_122 (w_111 _ _ _) rfl rfl (st := []) rfl rfl rfl dX12_street_72 (fun dy => ?_)
        refine r_bipush hX (98 : Int32) dX12_street_75 rfl ?_
        refine r_icmp_eq hX 89 dX12_street_77 rfl (fun hc64 => ?_) (fun hc64 => ?_)
        · rw [if_pos hc64] at hf
          refine r_weak [0, 1, 2, 3, 4, 5] rfl ?_
          exact b_m_street_b89 hX hr ih _ _ _ _ _ _ _ hf
        · rw [if_neg hc64] at hf
          refine r_aload_n hX dX12_street_80 0 rfl ?_
          obtain ⟨v105, μ103, h104, hf⟩ := bd2_eq hf
          refine r_callVI (Ok.le hX (by omega)) (c_m_here (d := d)  h104) cv_X12_122 (w_111 _ _ _) rfl rfl (st := []) rfl rfl rfl dX12_street_81 (fun dy => ?_)
          refine r_bipush hX (110 : Int32) dX12_street_84 rfl ?_
          refine r_icmp_ne hX 198 dX12_street_86 rfl (fun hc106 => ?_) (fun hc106 => ?_)
          · rw [if_neg hc106] at hf
            refine r_aload_n hX dX12_street_198 0 rfl ?_
            refine r_iconst hX (4 : Int32) dX12_street_199 rfl ?_
            refine r_iload hX dX12_street_200 5 rfl ?_
            refine r_imul hX dX12_street_202 ?_
            refine r_iload_n hX dX12_street_203 1 rfl ?_
            obtain ⟨μ107, h108, hf⟩ := bd1_eq hf
            refine r_callVV (Ok.le hX (by omega)) (c_m_readMeeting (d := d)  h108) cv_X12_150 (w_111 _ _ _) rfl rfl (st := []) rfl rfl rfl dX12_street_204 (fun dy => ?_)
            refine r_iinc hX (x5 + (1 : Int32)) dX12_street_207 5 rfl rfl rfl (ls' := [(5, .int (x5 + (1 : Int32))), (0, .ref (gA (xG X) 111)), (1, .int x1), (2, .int x2), (3, .int x3), (4, .int x4), (6, .int x6)]) rfl ?_
            refine r_weak [1, 2, 3, 4, 5, 0] rfl ?_
            exact b_m_street_b210 hX hr ih _ _ _ _ _ _ _ hf
          · rw [if_pos hc106] at hf
            refine r_weak [0, 1, 2, 3, 4, 5] rfl ?_
            exact b_m_street_b89 hX hr ih _ _ _ _ _ _ _ hf
set_option maxHeartbeats 4000000 in
set_option maxRecDepth 20000 in
theorem c_m_street {G : Gx} {d : Nat}  {μ : Mem} {r : Int32 × Mem} (hf : f_m_street  μ = some r) : Con G M_m_street (d + 4) [.ref (gA G 111)] μ (some (.int r.1), r.2) := by
  refine Con.ofI ⟨rfl, rfl, Nat.le_of_ble_eq_true rfl⟩ rfl rfl (fun X hG hX hr dy => ?_)
  subst hG
  show AW X 0 [(0, .ref (gA (xG X) 111))] [] μ dy
  unfold f_m_street at hf
  refine r_aload_n hX dX12_street_0 0 rfl ?_
  refine r_iconst hX (0 : Int32) dX12_street_1 rfl ?_
  obtain ⟨μ1, e2, hf⟩ := bnd_eq hf
  refine r_put hX fl_X12_80 ft_X12_11 (w_111 _ _ _) rfl rfl rfl (s_111_11 _ _ _ _) e2 rfl dX12_street_2 ?_
  refine r_aload_n hX dX12_street_5 0 rfl ?_
  refine r_aload_n hX dX12_street_6 0 rfl ?_
  refine r_get hX fl_X12_22 (w_111 _ _ _) rfl dX12_street_7 ?_
  refine r_aload_n hX dX12_street_10 0 rfl ?_
  refine r_get hX fl_X12_100 (w_111 _ _ _) rfl dX12_street_11 ?_
  refine r_bipush hX (76 : Int32) dX12_street_14 rfl ?_
  obtain ⟨μ3, h4, hf⟩ := bd1_eq hf
  refine r_callVV (Ok.le hX (by omega)) (c_m_begin_116 (d := d)  h4) cv_X12_133 (w_111 _ _ _) rfl rfl (st := []) rfl rfl rfl dX12_street_16 (fun dy => ?_)
  refine r_aload_n hX dX12_street_19 0 rfl ?_
  refine r_iconst hX (0 : Int32) dX12_street_20 rfl ?_
  obtain ⟨μ5, e6, hf⟩ := bnd_eq hf
  refine r_put hX fl_X12_100 ft_X12_8 (w_111 _ _ _) rfl rfl rfl (s_111_8 _ _ _ _) e6 rfl dX12_street_21 ?_
  refine r_aload_n hX dX12_street_24 0 rfl ?_
  refine r_get hX fl_X12_86 (w_111 _ _ _) rfl dX12_street_25 ?_
  refine r_istore_n hX dX12_street_28 rfl (ls' := [(1, .int (μ5.1 v_m_people 0)), (0, .ref (gA (xG X) 111))]) rfl ?_
  refine r_aload_n hX dX12_street_29 1 rfl ?_
  obtain ⟨v9, μ7, h8, hf⟩ := bd2_eq hf
  refine r_callVI (Ok.le hX (by omega)) (c_m_now (d := d)  h8) cv_X12_137 (w_111 _ _ _) rfl rfl (st := []) rfl rfl rfl dX12_street_30 (fun dy => ?_)
  refine r_istore_n hX dX12_street_33 rfl (ls' := [(2, .int v9), (1, .int (μ5.1 v_m_people 0)), (0, .ref (gA (xG X) 111))]) rfl ?_
  refine r_aload_n hX dX12_street_34 2 rfl ?_
  refine r_get hX fl_X12_140 (w_111 _ _ _) rfl dX12_street_35 ?_
  refine r_istore_n hX dX12_street_38 rfl (ls' := [(3, .int (μ7.1 v_m_firm 0)), (2, .int v9), (1, .int (μ5.1 v_m_people 0)), (0, .ref (gA (xG X) 111))]) rfl ?_
  refine r_iconst hX (0 : Int32) dX12_street_39 rfl ?_
  refine r_istore hX dX12_street_40 rfl (ls' := [(4, .int (0 : Int32)), (3, .int (μ7.1 v_m_firm 0)), (2, .int v9), (1, .int (μ5.1 v_m_people 0)), (0, .ref (gA (xG X) 111))]) rfl ?_
  refine r_iconst hX (0 : Int32) dX12_street_42 rfl ?_
  refine r_istore hX dX12_street_43 rfl (ls' := [(5, .int (0 : Int32)), (4, .int (0 : Int32)), (3, .int (μ7.1 v_m_firm 0)), (2, .int v9), (1, .int (μ5.1 v_m_people 0)), (0, .ref (gA (xG X) 111))]) rfl ?_
  refine r_aload_n hX dX12_street_45 5 rfl ?_
  refine r_get hX fl_X12_106 (w_111 _ _ _) rfl dX12_street_46 ?_
  obtain ⟨v10, e11, hf⟩ := bnd_eq hf
  have J12 : AW X 57 [(5, .int (0 : Int32)), (4, .int (0 : Int32)), (3, .int (μ7.1 v_m_firm 0)), (2, .int v9), (1, .int (μ5.1 v_m_people 0)), (0, .ref (gA (xG X) 111))] [.int v10] μ7 dy := by
    refine r_istore hX dX12_street_57 rfl (ls' := [(6, .int v10), (5, .int (0 : Int32)), (4, .int (0 : Int32)), (3, .int (μ7.1 v_m_firm 0)), (2, .int v9), (1, .int (μ5.1 v_m_people 0)), (0, .ref (gA (xG X) 111))]) rfl ?_
    refine r_weak [6, 5, 4, 3, 2, 1, 0] rfl ?_
    exact b_m_street_b59 hX hr FU _ _ _ _ _ _ _ _ hf
  refine r_if_le hX 56 dX12_street_49 rfl (fun hc109 => ?_) (fun hc109 => ?_)
  · refine r_iconst hX (0 : Int32) dX12_street_56 rfl ?_
    exact r_topI (e11.trans (by rw [if_pos hc109])) J12
  · refine r_iconst hX (1 : Int32) dX12_street_52 rfl ?_
    refine r_goto hX 57 dX12_street_53 rfl ?_
    exact r_topI (e11.trans (by rw [if_neg hc109])) J12
theorem dX12_allOf_0 : decode cX12_allOf 0 = .ok (.iconst 0, 1) := by decide +kernel
theorem dX12_allOf_1 : decode cX12_allOf 1 = .ok (.istore_n 2, 1) := by decide +kernel
theorem dX12_allOf_2 : decode cX12_allOf 2 = .ok (.iconst 0, 1) := by decide +kernel
theorem dX12_allOf_3 : decode cX12_allOf 3 = .ok (.istore_n 3, 1) := by decide +kernel
theorem dX12_allOf_4 : decode cX12_allOf 4 = .ok (.iload_n 3, 1) := by decide +kernel
theorem dX12_allOf_5 : decode cX12_allOf 5 = .ok (.aload_n 0, 1) := by decide +kernel
theorem dX12_allOf_6 : decode cX12_allOf 6 = .ok (.getfield 86, 3) := by decide +kernel
theorem dX12_allOf_9 : decode cX12_allOf 9 = .ok (.if_icmp .ge 23, 3) := by decide +kernel
theorem dX12_allOf_12 : decode cX12_allOf 12 = .ok (.iload_n 2, 1) := by decide +kernel
theorem dX12_allOf_13 : decode cX12_allOf 13 = .ok (.aload_n 0, 1) := by decide +kernel
theorem dX12_allOf_14 : decode cX12_allOf 14 = .ok (.getfield 16, 3) := by decide +kernel
theorem dX12_allOf_17 : decode cX12_allOf 17 = .ok (.bipush 14, 2) := by decide +kernel
theorem dX12_allOf_19 : decode cX12_allOf 19 = .ok (.iload_n 1, 1) := by decide +kernel
theorem dX12_allOf_20 : decode cX12_allOf 20 = .ok (.imul, 1) := by decide +kernel
theorem dX12_allOf_21 : decode cX12_allOf 21 = .ok (.iload_n 3, 1) := by decide +kernel
theorem dX12_allOf_22 : decode cX12_allOf 22 = .ok (.iadd, 1) := by decide +kernel
theorem dX12_allOf_23 : decode cX12_allOf 23 = .ok (.iaload, 1) := by decide +kernel
theorem dX12_allOf_24 : decode cX12_allOf 24 = .ok (.iadd, 1) := by decide +kernel
theorem dX12_allOf_25 : decode cX12_allOf 25 = .ok (.istore_n 2, 1) := by decide +kernel
theorem dX12_allOf_26 : decode cX12_allOf 26 = .ok (.iinc 3 1, 3) := by decide +kernel
theorem dX12_allOf_29 : decode cX12_allOf 29 = .ok (.goto (-25), 3) := by decide +kernel
theorem dX12_allOf_32 : decode cX12_allOf 32 = .ok (.iload_n 2, 1) := by decide +kernel
theorem dX12_allOf_33 : decode cX12_allOf 33 = .ok (.ireturn, 1) := by decide +kernel
set_option maxHeartbeats 4000000 in
set_option maxRecDepth 20000 in
theorem b_m_allOf_b4 {X : Cx} {d : Nat} (hX : Ok M_m_allOf (d + 0) X) {r : Int32 × Mem} (hr : RetI M_m_allOf X r.1 r.2) : ∀ (n : Nat) (x1 : Int32) (x2 : Int32) (x3 : Int32) (μ : Mem) (dy : Nat → Nat), f_m_allOf_b4 n x1 x2 x3 μ = some r → AW X 4 [(0, .ref (gA (xG X) 111)), (1, .int x1), (2, .int x2), (3, .int x3)] [] μ dy := by
  intro n
  induction n with
  | zero => intro x1 x2 x3 μ dy hf; exact nomatch hf
  | succ n ih =>
    intro x1 x2 x3 μ dy hf
    rw [f_m_allOf_b4] at hf
    refine r_iload_n hX dX12_allOf_4 3 rfl ?_
    refine r_aload_n hX dX12_allOf_5 0 rfl ?_
    refine r_get hX fl_X12_86 (w_111 _ _ _) rfl dX12_allOf_6 ?_
    refine r_icmp_ge hX 32 dX12_allOf_9 rfl (fun hc1 => ?_) (fun hc1 => ?_)
    · rw [if_pos hc1] at hf
      refine r_iload_n hX dX12_allOf_32 2 rfl ?_
      exact fin_I hf hr _ _ _ dX12_allOf_33
    · rw [if_neg hc1] at hf
      refine r_iload_n hX dX12_allOf_12 2 rfl ?_
      refine r_aload_n hX dX12_allOf_13 0 rfl ?_
      refine r_get hX fl_X12_16 (w_111 _ _ _) rfl dX12_allOf_14 ?_
      refine r_bipush hX (14 : Int32) dX12_allOf_17 rfl ?_
      refine r_iload_n hX dX12_allOf_19 1 rfl ?_
      refine r_imul hX dX12_allOf_20 ?_
      refine r_iload_n hX dX12_allOf_21 3 rfl ?_
      refine r_iadd hX dX12_allOf_22 ?_
      obtain ⟨b2, hf⟩ := chk_eq hf
      refine r_iald hX (w_114 _ _ _) (inb_in b2) dX12_allOf_23 ?_
      refine r_iadd hX dX12_allOf_24 ?_
      obtain ⟨v3, e4, hf⟩ := bnd_eq hf
      refine r_topI e4 ?_
      refine r_istore_n hX dX12_allOf_25 rfl (ls' := [(2, .int v3), (0, .ref (gA (xG X) 111)), (1, .int x1), (3, .int x3)]) rfl ?_
      refine r_iinc hX (x3 + (1 : Int32)) dX12_allOf_26 3 rfl rfl rfl (ls' := [(3, .int (x3 + (1 : Int32))), (2, .int v3), (0, .ref (gA (xG X) 111)), (1, .int x1)]) rfl ?_
      refine r_goto hX 4 dX12_allOf_29 rfl ?_
      refine r_weak [2, 3, 1, 0] rfl ?_
      exact ih _ _ _ _ _ hf
set_option maxHeartbeats 4000000 in
set_option maxRecDepth 20000 in
theorem c_m_allOf {G : Gx} {d : Nat} {x1 : Int32} {μ : Mem} {r : Int32 × Mem} (hf : f_m_allOf x1 μ = some r) : Con G M_m_allOf (d + 0) [.ref (gA G 111), .int x1] μ (some (.int r.1), r.2) := by
  refine Con.ofI ⟨rfl, rfl, Nat.le_of_ble_eq_true rfl⟩ rfl rfl (fun X hG hX hr dy => ?_)
  subst hG
  show AW X 0 [(0, .ref (gA (xG X) 111)), (1, .int x1)] [] μ dy
  unfold f_m_allOf at hf
  refine r_iconst hX (0 : Int32) dX12_allOf_0 rfl ?_
  refine r_istore_n hX dX12_allOf_1 rfl (ls' := [(2, .int (0 : Int32)), (0, .ref (gA (xG X) 111)), (1, .int x1)]) rfl ?_
  refine r_iconst hX (0 : Int32) dX12_allOf_2 rfl ?_
  refine r_istore_n hX dX12_allOf_3 rfl (ls' := [(3, .int (0 : Int32)), (2, .int (0 : Int32)), (0, .ref (gA (xG X) 111)), (1, .int x1)]) rfl ?_
  refine r_weak [2, 3, 1, 0] rfl ?_
  exact b_m_allOf_b4 hX hr FU _ _ _ _ _ hf
theorem dX12_heardBy_0 : decode cX12_heardBy 0 = .ok (.iconst 0, 1) := by decide +kernel
theorem dX12_heardBy_1 : decode cX12_heardBy 1 = .ok (.istore_n 2, 1) := by decide +kernel
theorem dX12_heardBy_2 : decode cX12_heardBy 2 = .ok (.iconst 0, 1) := by decide +kernel
theorem dX12_heardBy_3 : decode cX12_heardBy 3 = .ok (.istore_n 3, 1) := by decide +kernel
theorem dX12_heardBy_4 : decode cX12_heardBy 4 = .ok (.iload_n 3, 1) := by decide +kernel
theorem dX12_heardBy_5 : decode cX12_heardBy 5 = .ok (.aload_n 0, 1) := by decide +kernel
theorem dX12_heardBy_6 : decode cX12_heardBy 6 = .ok (.getfield 86, 3) := by decide +kernel
theorem dX12_heardBy_9 : decode cX12_heardBy 9 = .ok (.if_icmp .ge 23, 3) := by decide +kernel
theorem dX12_heardBy_12 : decode cX12_heardBy 12 = .ok (.iload_n 2, 1) := by decide +kernel
theorem dX12_heardBy_13 : decode cX12_heardBy 13 = .ok (.aload_n 0, 1) := by decide +kernel
theorem dX12_heardBy_14 : decode cX12_heardBy 14 = .ok (.getfield 16, 3) := by decide +kernel
theorem dX12_heardBy_17 : decode cX12_heardBy 17 = .ok (.bipush 14, 2) := by decide +kernel
theorem dX12_heardBy_19 : decode cX12_heardBy 19 = .ok (.iload_n 3, 1) := by decide +kernel
theorem dX12_heardBy_20 : decode cX12_heardBy 20 = .ok (.imul, 1) := by decide +kernel
theorem dX12_heardBy_21 : decode cX12_heardBy 21 = .ok (.iload_n 1, 1) := by decide +kernel
theorem dX12_heardBy_22 : decode cX12_heardBy 22 = .ok (.iadd, 1) := by decide +kernel
theorem dX12_heardBy_23 : decode cX12_heardBy 23 = .ok (.iaload, 1) := by decide +kernel
theorem dX12_heardBy_24 : decode cX12_heardBy 24 = .ok (.iadd, 1) := by decide +kernel
theorem dX12_heardBy_25 : decode cX12_heardBy 25 = .ok (.istore_n 2, 1) := by decide +kernel
theorem dX12_heardBy_26 : decode cX12_heardBy 26 = .ok (.iinc 3 1, 3) := by decide +kernel
theorem dX12_heardBy_29 : decode cX12_heardBy 29 = .ok (.goto (-25), 3) := by decide +kernel
theorem dX12_heardBy_32 : decode cX12_heardBy 32 = .ok (.iload_n 2, 1) := by decide +kernel
theorem dX12_heardBy_33 : decode cX12_heardBy 33 = .ok (.ireturn, 1) := by decide +kernel
set_option maxHeartbeats 4000000 in
set_option maxRecDepth 20000 in
theorem b_m_heardBy_b4 {X : Cx} {d : Nat} (hX : Ok M_m_heardBy (d + 0) X) {r : Int32 × Mem} (hr : RetI M_m_heardBy X r.1 r.2) : ∀ (n : Nat) (x1 : Int32) (x2 : Int32) (x3 : Int32) (μ : Mem) (dy : Nat → Nat), f_m_heardBy_b4 n x1 x2 x3 μ = some r → AW X 4 [(0, .ref (gA (xG X) 111)), (1, .int x1), (2, .int x2), (3, .int x3)] [] μ dy := by
  intro n
  induction n with
  | zero => intro x1 x2 x3 μ dy hf; exact nomatch hf
  | succ n ih =>
    intro x1 x2 x3 μ dy hf
    rw [f_m_heardBy_b4] at hf
    refine r_iload_n hX dX12_heardBy_4 3 rfl ?_
    refine r_aload_n hX dX12_heardBy_5 0 rfl ?_
    refine r_get hX fl_X12_86 (w_111 _ _ _) rfl dX12_heardBy_6 ?_
    refine r_icmp_ge hX 32 dX12_heardBy_9 rfl (fun hc1 => ?_) (fun hc1 => ?_)
    · rw [if_pos hc1] at hf
      refine r_iload_n hX dX12_heardBy_32 2 rfl ?_
      exact fin_I hf hr _ _ _ dX12_heardBy_33
    · rw [if_neg hc1] at hf
      refine r_iload_n hX dX12_heardBy_12 2 rfl ?_
      refine r_aload_n hX dX12_heardBy_13 0 rfl ?_
      refine r_get hX fl_X12_16 (w_111 _ _ _) rfl dX12_heardBy_14 ?_
      refine r_bipush hX (14 : Int32) dX12_heardBy_17 rfl ?_
      refine r_iload_n hX dX12_heardBy_19 3 rfl ?_
      refine r_imul hX dX12_heardBy_20 ?_
      refine r_iload_n hX dX12_heardBy_21 1 rfl ?_
      refine r_iadd hX dX12_heardBy_22 ?_
      obtain ⟨b2, hf⟩ := chk_eq hf
      refine r_iald hX (w_114 _ _ _) (inb_in b2) dX12_heardBy_23 ?_
      refine r_iadd hX dX12_heardBy_24 ?_
      obtain ⟨v3, e4, hf⟩ := bnd_eq hf
      refine r_topI e4 ?_
      refine r_istore_n hX dX12_heardBy_25 rfl (ls' := [(2, .int v3), (0, .ref (gA (xG X) 111)), (1, .int x1), (3, .int x3)]) rfl ?_
      refine r_iinc hX (x3 + (1 : Int32)) dX12_heardBy_26 3 rfl rfl rfl (ls' := [(3, .int (x3 + (1 : Int32))), (2, .int v3), (0, .ref (gA (xG X) 111)), (1, .int x1)]) rfl ?_
      refine r_goto hX 4 dX12_heardBy_29 rfl ?_
      refine r_weak [2, 3, 1, 0] rfl ?_
      exact ih _ _ _ _ _ hf
set_option maxHeartbeats 4000000 in
set_option maxRecDepth 20000 in
theorem c_m_heardBy {G : Gx} {d : Nat} {x1 : Int32} {μ : Mem} {r : Int32 × Mem} (hf : f_m_heardBy x1 μ = some r) : Con G M_m_heardBy (d + 0) [.ref (gA G 111), .int x1] μ (some (.int r.1), r.2) := by
  refine Con.ofI ⟨rfl, rfl, Nat.le_of_ble_eq_true rfl⟩ rfl rfl (fun X hG hX hr dy => ?_)
  subst hG
  show AW X 0 [(0, .ref (gA (xG X) 111)), (1, .int x1)] [] μ dy
  unfold f_m_heardBy at hf
  refine r_iconst hX (0 : Int32) dX12_heardBy_0 rfl ?_
  refine r_istore_n hX dX12_heardBy_1 rfl (ls' := [(2, .int (0 : Int32)), (0, .ref (gA (xG X) 111)), (1, .int x1)]) rfl ?_
  refine r_iconst hX (0 : Int32) dX12_heardBy_2 rfl ?_
  refine r_istore_n hX dX12_heardBy_3 rfl (ls' := [(3, .int (0 : Int32)), (2, .int (0 : Int32)), (0, .ref (gA (xG X) 111)), (1, .int x1)]) rfl ?_
  refine r_weak [2, 3, 1, 0] rfl ?_
  exact b_m_heardBy_b4 hX hr FU _ _ _ _ _ hf
theorem dX12_person_0 : decode cX12_person 0 = .ok (.aload_n 0, 1) := by decide +kernel
theorem dX12_person_1 : decode cX12_person 1 = .ok (.iconst 0, 1) := by decide +kernel
theorem dX12_person_2 : decode cX12_person 2 = .ok (.putfield 80, 3) := by decide +kernel
theorem dX12_person_5 : decode cX12_person 5 = .ok (.aload_n 0, 1) := by decide +kernel
theorem dX12_person_6 : decode cX12_person 6 = .ok (.iload_n 1, 1) := by decide +kernel
theorem dX12_person_7 : decode cX12_person 7 = .ok (.invokevirtual 157, 3) := by decide +kernel
theorem dX12_person_10 : decode cX12_person 10 = .ok (.ifCond .eq 12, 3) := by decide +kernel
theorem dX12_person_13 : decode cX12_person 13 = .ok (.iload_n 2, 1) := by decide +kernel
theorem dX12_person_14 : decode cX12_person 14 = .ok (.iconst 0, 1) := by decide +kernel
theorem dX12_person_15 : decode cX12_person 15 = .ok (.iconst 5, 1) := by decide +kernel
theorem dX12_person_16 : decode cX12_person 16 = .ok (.invokestatic 89, 3) := by decide +kernel
theorem dX12_person_19 : decode cX12_person 19 = .ok (.ifCond .ne 8, 3) := by decide +kernel
theorem dX12_person_22 : decode cX12_person 22 = .ok (.aload_n 0, 1) := by decide +kernel
theorem dX12_person_23 : decode cX12_person 23 = .ok (.invokevirtual 161, 3) := by decide +kernel
theorem dX12_person_26 : decode cX12_person 26 = .ok (.ireturn, 1) := by decide +kernel
theorem dX12_person_27 : decode cX12_person 27 = .ok (.iload_n 2, 1) := by decide +kernel
theorem dX12_person_28 : decode cX12_person 28 = .ok (.tableswitch 90 0 4 #[36, 53, 60, 67, 84], 36) := by decide +kernel
theorem dX12_person_64 : decode cX12_person 64 = .ok (.aload_n 0, 1) := by decide +kernel
theorem dX12_person_65 : decode cX12_person 65 = .ok (.invokevirtual 137, 3) := by decide +kernel
theorem dX12_person_68 : decode cX12_person 68 = .ok (.iload_n 1, 1) := by decide +kernel
theorem dX12_person_69 : decode cX12_person 69 = .ok (.invokestatic 164, 3) := by decide +kernel
theorem dX12_person_72 : decode cX12_person 72 = .ok (.ifCond .eq 7, 3) := by decide +kernel
theorem dX12_person_75 : decode cX12_person 75 = .ok (.iconst 1, 1) := by decide +kernel
theorem dX12_person_76 : decode cX12_person 76 = .ok (.goto 4, 3) := by decide +kernel
theorem dX12_person_79 : decode cX12_person 79 = .ok (.iconst 0, 1) := by decide +kernel
theorem dX12_person_80 : decode cX12_person 80 = .ok (.ireturn, 1) := by decide +kernel
theorem dX12_person_81 : decode cX12_person 81 = .ok (.aload_n 0, 1) := by decide +kernel
theorem dX12_person_82 : decode cX12_person 82 = .ok (.getfield 9, 3) := by decide +kernel
theorem dX12_person_85 : decode cX12_person 85 = .ok (.iload_n 1, 1) := by decide +kernel
theorem dX12_person_86 : decode cX12_person 86 = .ok (.iaload, 1) := by decide +kernel
theorem dX12_person_87 : decode cX12_person 87 = .ok (.ireturn, 1) := by decide +kernel
theorem dX12_person_88 : decode cX12_person 88 = .ok (.aload_n 0, 1) := by decide +kernel
theorem dX12_person_89 : decode cX12_person 89 = .ok (.getfield 13, 3) := by decide +kernel
theorem dX12_person_92 : decode cX12_person 92 = .ok (.iload_n 1, 1) := by decide +kernel
theorem dX12_person_93 : decode cX12_person 93 = .ok (.iaload, 1) := by decide +kernel
theorem dX12_person_94 : decode cX12_person 94 = .ok (.ireturn, 1) := by decide +kernel
theorem dX12_person_95 : decode cX12_person 95 = .ok (.aload_n 0, 1) := by decide +kernel
theorem dX12_person_96 : decode cX12_person 96 = .ok (.getfield 140, 3) := by decide +kernel
theorem dX12_person_99 : decode cX12_person 99 = .ok (.iload_n 1, 1) := by decide +kernel
theorem dX12_person_100 : decode cX12_person 100 = .ok (.invokestatic 164, 3) := by decide +kernel
theorem dX12_person_103 : decode cX12_person 103 = .ok (.ifCond .eq 7, 3) := by decide +kernel
theorem dX12_person_106 : decode cX12_person 106 = .ok (.iconst 1, 1) := by decide +kernel
theorem dX12_person_107 : decode cX12_person 107 = .ok (.goto 4, 3) := by decide +kernel
theorem dX12_person_110 : decode cX12_person 110 = .ok (.iconst 0, 1) := by decide +kernel
theorem dX12_person_111 : decode cX12_person 111 = .ok (.ireturn, 1) := by decide +kernel
theorem dX12_person_112 : decode cX12_person 112 = .ok (.aload_n 0, 1) := by decide +kernel
theorem dX12_person_113 : decode cX12_person 113 = .ok (.iload_n 1, 1) := by decide +kernel
theorem dX12_person_114 : decode cX12_person 114 = .ok (.invokevirtual 168, 3) := by decide +kernel
theorem dX12_person_117 : decode cX12_person 117 = .ok (.ireturn, 1) := by decide +kernel
theorem dX12_person_118 : decode cX12_person 118 = .ok (.aload_n 0, 1) := by decide +kernel
theorem dX12_person_119 : decode cX12_person 119 = .ok (.iload_n 1, 1) := by decide +kernel
theorem dX12_person_120 : decode cX12_person 120 = .ok (.invokevirtual 172, 3) := by decide +kernel
theorem dX12_person_123 : decode cX12_person 123 = .ok (.ireturn, 1) := by decide +kernel
set_option maxHeartbeats 4000000 in
set_option maxRecDepth 20000 in
theorem b_m_person_b22 {X : Cx} {d : Nat} (hX : Ok M_m_person (d + 2) X) {r : Int32 × Mem} (hr : RetI M_m_person X r.1 r.2)  (μ : Mem) (dy : Nat → Nat) (hf : f_m_person_b22  μ = some r) : AW X 22 [(0, .ref (gA (xG X) 111))] [] μ dy := by
  unfold f_m_person_b22 at hf
  refine r_aload_n hX dX12_person_22 0 rfl ?_
  obtain ⟨v9, μ7, h8, hf⟩ := bd2_eq hf
  refine r_callVI (Ok.le hX (by omega)) (c_m_lost (d := d)  h8) cv_X12_161 (w_111 _ _ _) rfl rfl (st := []) rfl rfl rfl dX12_person_23 (fun dy => ?_)
  exact fin_I hf hr _ _ _ dX12_person_26
set_option maxHeartbeats 4000000 in
set_option maxRecDepth 20000 in
theorem c_m_person {G : Gx} {d : Nat} {x1 : Int32} {x2 : Int32} {μ : Mem} {r : Int32 × Mem} (hf : f_m_person x1 x2 μ = some r) : Con G M_m_person (d + 2) [.ref (gA G 111), .int x1, .int x2] μ (some (.int r.1), r.2) := by
  refine Con.ofI ⟨rfl, rfl, Nat.le_of_ble_eq_true rfl⟩ rfl rfl (fun X hG hX hr dy => ?_)
  subst hG
  show AW X 0 [(0, .ref (gA (xG X) 111)), (1, .int x1), (2, .int x2)] [] μ dy
  unfold f_m_person at hf
  refine r_aload_n hX dX12_person_0 0 rfl ?_
  refine r_iconst hX (0 : Int32) dX12_person_1 rfl ?_
  obtain ⟨μ1, e2, hf⟩ := bnd_eq hf
  refine r_put hX fl_X12_80 ft_X12_11 (w_111 _ _ _) rfl rfl rfl (s_111_11 _ _ _ _) e2 rfl dX12_person_2 ?_
  refine r_aload_n hX dX12_person_5 0 rfl ?_
  refine r_iload_n hX dX12_person_6 1 rfl ?_
  obtain ⟨v5, μ3, h4, hf⟩ := bd2_eq hf
  refine r_callVI (Ok.le hX (by omega)) (c_m_isOne (d := d)  h4) cv_X12_157 (w_111 _ _ _) rfl rfl (st := []) rfl rfl rfl dX12_person_7 (fun dy => ?_)
  refine r_if_eq hX 22 dX12_person_10 rfl (fun hc6 => ?_) (fun hc6 => ?_)
  · rw [if_pos hc6] at hf
    refine r_weak [0] rfl ?_
    exact b_m_person_b22 hX hr _ _ hf
  · rw [if_neg hc6] at hf
    refine r_iload_n hX dX12_person_13 2 rfl ?_
    refine r_iconst hX (0 : Int32) dX12_person_14 rfl ?_
    refine r_iconst hX (5 : Int32) dX12_person_15 rfl ?_
    obtain ⟨v12, μ10, h11, hf⟩ := bd2_eq hf
    refine r_callSI (Ok.le hX (by omega)) (c_m_in (d := d)  h11) cs_X12_89 (st := []) rfl rfl rfl dX12_person_16 (fun dy => ?_)
    refine r_if_ne hX 27 dX12_person_19 rfl (fun hc13 => ?_) (fun hc13 => ?_)
    · rw [if_neg hc13] at hf
      refine r_iload_n hX dX12_person_27 2 rfl ?_
      by_cases hc14 : x2 = 0
      · rw [if_pos hc14] at hf
        refine r_tabIn hX (off := 36) 64 dX12_person_28 (by rw [hc14]; decide) (by rw [hc14]; decide) (by rw [hc14]; rfl) rfl ?_
        refine r_aload_n hX dX12_person_64 0 rfl ?_
        obtain ⟨v17, μ15, h16, hf⟩ := bd2_eq hf
        refine r_callVI (Ok.le hX (by omega)) (c_m_now (d := d)  h16) cv_X12_137 (w_111 _ _ _) rfl rfl (st := []) rfl rfl rfl dX12_person_65 (fun dy => ?_)
        refine r_iload_n hX dX12_person_68 1 rfl ?_
        obtain ⟨v20, μ18, h19, hf⟩ := bd2_eq hf
        refine r_callSI (Ok.le hX (by omega)) (c_m_has (d := d)  h19) cs_X12_164 (st := []) rfl rfl rfl dX12_person_69 (fun dy => ?_)
        obtain ⟨v21, e22, hf⟩ := bnd_eq hf
        have J23 : AW X 80 [(0, .ref (gA (xG X) 111)), (1, .int x1), (2, .int x2)] [.int v21] μ18 dy := by
          exact fin_I hf hr _ _ _ dX12_person_80
        refine r_if_eq hX 79 dX12_person_72 rfl (fun hc24 => ?_) (fun hc24 => ?_)
        · refine r_iconst hX (0 : Int32) dX12_person_79 rfl ?_
          exact r_topI (e22.trans (by rw [if_pos hc24])) J23
        · refine r_iconst hX (1 : Int32) dX12_person_75 rfl ?_
          refine r_goto hX 80 dX12_person_76 rfl ?_
          exact r_topI (e22.trans (by rw [if_neg hc24])) J23
      · rw [if_neg hc14] at hf
        by_cases hc25 : x2 = 1
        · rw [if_pos hc25] at hf
          refine r_tabIn hX (off := 53) 81 dX12_person_28 (by rw [hc25]; decide) (by rw [hc25]; decide) (by rw [hc25]; rfl) rfl ?_
          refine r_aload_n hX dX12_person_81 0 rfl ?_
          refine r_get hX fl_X12_9 (w_111 _ _ _) rfl dX12_person_82 ?_
          refine r_iload_n hX dX12_person_85 1 rfl ?_
          obtain ⟨b26, hf⟩ := chk_eq hf
          refine r_iald hX (w_112 _ _ _) (inb_in b26) dX12_person_86 ?_
          exact fin_I hf hr _ _ _ dX12_person_87
        · rw [if_neg hc25] at hf
          by_cases hc27 : x2 = 2
          · rw [if_pos hc27] at hf
            refine r_tabIn hX (off := 60) 88 dX12_person_28 (by rw [hc27]; decide) (by rw [hc27]; decide) (by rw [hc27]; rfl) rfl ?_
            refine r_aload_n hX dX12_person_88 0 rfl ?_
            refine r_get hX fl_X12_13 (w_111 _ _ _) rfl dX12_person_89 ?_
            refine r_iload_n hX dX12_person_92 1 rfl ?_
            obtain ⟨b28, hf⟩ := chk_eq hf
            refine r_iald hX (w_113 _ _ _) (inb_in b28) dX12_person_93 ?_
            exact fin_I hf hr _ _ _ dX12_person_94
          · rw [if_neg hc27] at hf
            by_cases hc29 : x2 = 3
            · rw [if_pos hc29] at hf
              refine r_tabIn hX (off := 67) 95 dX12_person_28 (by rw [hc29]; decide) (by rw [hc29]; decide) (by rw [hc29]; rfl) rfl ?_
              refine r_aload_n hX dX12_person_95 0 rfl ?_
              refine r_get hX fl_X12_140 (w_111 _ _ _) rfl dX12_person_96 ?_
              refine r_iload_n hX dX12_person_99 1 rfl ?_
              obtain ⟨v32, μ30, h31, hf⟩ := bd2_eq hf
              refine r_callSI (Ok.le hX (by omega)) (c_m_has (d := d)  h31) cs_X12_164 (st := []) rfl rfl rfl dX12_person_100 (fun dy => ?_)
              obtain ⟨v33, e34, hf⟩ := bnd_eq hf
              have J35 : AW X 111 [(0, .ref (gA (xG X) 111)), (1, .int x1), (2, .int x2)] [.int v33] μ30 dy := by
                exact fin_I hf hr _ _ _ dX12_person_111
              refine r_if_eq hX 110 dX12_person_103 rfl (fun hc36 => ?_) (fun hc36 => ?_)
              · refine r_iconst hX (0 : Int32) dX12_person_110 rfl ?_
                exact r_topI (e34.trans (by rw [if_pos hc36])) J35
              · refine r_iconst hX (1 : Int32) dX12_person_106 rfl ?_
                refine r_goto hX 111 dX12_person_107 rfl ?_
                exact r_topI (e34.trans (by rw [if_neg hc36])) J35
            · rw [if_neg hc29] at hf
              by_cases hc37 : x2 = 4
              · rw [if_pos hc37] at hf
                refine r_tabIn hX (off := 84) 112 dX12_person_28 (by rw [hc37]; decide) (by rw [hc37]; decide) (by rw [hc37]; rfl) rfl ?_
                refine r_aload_n hX dX12_person_112 0 rfl ?_
                refine r_iload_n hX dX12_person_113 1 rfl ?_
                obtain ⟨v40, μ38, h39, hf⟩ := bd2_eq hf
                refine r_callVI (Ok.le hX (by omega)) (c_m_allOf (d := d)  h39) cv_X12_168 (w_111 _ _ _) rfl rfl (st := []) rfl rfl rfl dX12_person_114 (fun dy => ?_)
                exact fin_I hf hr _ _ _ dX12_person_117
              · rw [if_neg hc37] at hf
                have J41 : AW X 118 [(0, .ref (gA (xG X) 111)), (1, .int x1), (2, .int x2)] [] μ10 dy := by
                  refine r_aload_n hX dX12_person_118 0 rfl ?_
                  refine r_iload_n hX dX12_person_119 1 rfl ?_
                  obtain ⟨v44, μ42, h43, hf⟩ := bd2_eq hf
                  refine r_callVI (Ok.le hX (by omega)) (c_m_heardBy (d := d)  h43) cv_X12_172 (w_111 _ _ _) rfl rfl (st := []) rfl rfl rfl dX12_person_120 (fun dy => ?_)
                  exact fin_I hf hr _ _ _ dX12_person_123
                by_cases hc45 : x2.toInt < 0
                · exact r_tabOut hX 118 dX12_person_28 (Or.inl hc45) rfl J41
                by_cases hc46 : 4 < x2.toInt
                · exact r_tabOut hX 118 dX12_person_28 (Or.inr hc46) rfl J41
                have q47 : x2.toInt = 0 ∨ x2.toInt = 1 ∨ x2.toInt = 2 ∨ x2.toInt = 3 ∨ x2.toInt = 4 := by omega
                rcases q47 with q47 | q47 | q47 | q47 | q47
                · exact absurd (i32_eq (y := 0) q47 rfl) hc14
                · exact absurd (i32_eq (y := 1) q47 rfl) hc25
                · exact absurd (i32_eq (y := 2) q47 rfl) hc27
                · exact absurd (i32_eq (y := 3) q47 rfl) hc29
                · exact absurd (i32_eq (y := 4) q47 rfl) hc37
    · rw [if_pos hc13] at hf
      refine r_weak [0] rfl ?_
      exact b_m_person_b22 hX hr _ _ hf
theorem dX12_set_0 : decode cX12_set 0 = .ok (.aload_n 0, 1) := by decide +kernel
theorem dX12_set_1 : decode cX12_set 1 = .ok (.iconst 0, 1) := by decide +kernel
theorem dX12_set_2 : decode cX12_set 2 = .ok (.putfield 80, 3) := by decide +kernel
theorem dX12_set_5 : decode cX12_set 5 = .ok (.aload_n 0, 1) := by decide +kernel
theorem dX12_set_6 : decode cX12_set 6 = .ok (.iload_n 1, 1) := by decide +kernel
theorem dX12_set_7 : decode cX12_set 7 = .ok (.invokevirtual 157, 3) := by decide +kernel
theorem dX12_set_10 : decode cX12_set 10 = .ok (.ifCond .eq 31, 3) := by decide +kernel
theorem dX12_set_13 : decode cX12_set 13 = .ok (.iload_n 2, 1) := by decide +kernel
theorem dX12_set_14 : decode cX12_set 14 = .ok (.iconst 0, 1) := by decide +kernel
theorem dX12_set_15 : decode cX12_set 15 = .ok (.iconst 1, 1) := by decide +kernel
theorem dX12_set_16 : decode cX12_set 16 = .ok (.invokestatic 89, 3) := by decide +kernel
theorem dX12_set_19 : decode cX12_set 19 = .ok (.ifCond .eq 22, 3) := by decide +kernel
theorem dX12_set_22 : decode cX12_set 22 = .ok (.iload_n 3, 1) := by decide +kernel
theorem dX12_set_23 : decode cX12_set 23 = .ok (.iconst 0, 1) := by decide +kernel
theorem dX12_set_24 : decode cX12_set 24 = .ok (.iload_n 2, 1) := by decide +kernel
theorem dX12_set_25 : decode cX12_set 25 = .ok (.ifCond .ne 8, 3) := by decide +kernel
theorem dX12_set_28 : decode cX12_set 28 = .ok (.bipush 99, 2) := by decide +kernel
theorem dX12_set_30 : decode cX12_set 30 = .ok (.goto 5, 3) := by decide +kernel
theorem dX12_set_33 : decode cX12_set 33 = .ok (.bipush 9, 2) := by decide +kernel
theorem dX12_set_35 : decode cX12_set 35 = .ok (.invokestatic 89, 3) := by decide +kernel
theorem dX12_set_38 : decode cX12_set 38 = .ok (.ifCond .ne 5, 3) := by decide +kernel
theorem dX12_set_41 : decode cX12_set 41 = .ok (.iconst (-1), 1) := by decide +kernel
theorem dX12_set_42 : decode cX12_set 42 = .ok (.ireturn, 1) := by decide +kernel
theorem dX12_set_43 : decode cX12_set 43 = .ok (.iload_n 2, 1) := by decide +kernel
theorem dX12_set_44 : decode cX12_set 44 = .ok (.ifCond .ne 12, 3) := by decide +kernel
theorem dX12_set_47 : decode cX12_set 47 = .ok (.aload_n 0, 1) := by decide +kernel
theorem dX12_set_48 : decode cX12_set 48 = .ok (.getfield 9, 3) := by decide +kernel
theorem dX12_set_51 : decode cX12_set 51 = .ok (.iload_n 1, 1) := by decide +kernel
theorem dX12_set_52 : decode cX12_set 52 = .ok (.iaload, 1) := by decide +kernel
theorem dX12_set_53 : decode cX12_set 53 = .ok (.goto 9, 3) := by decide +kernel
theorem dX12_set_56 : decode cX12_set 56 = .ok (.aload_n 0, 1) := by decide +kernel
theorem dX12_set_57 : decode cX12_set 57 = .ok (.getfield 13, 3) := by decide +kernel
theorem dX12_set_60 : decode cX12_set 60 = .ok (.iload_n 1, 1) := by decide +kernel
theorem dX12_set_61 : decode cX12_set 61 = .ok (.iaload, 1) := by decide +kernel
theorem dX12_set_62 : decode cX12_set 62 = .ok (.istore 4, 2) := by decide +kernel
theorem dX12_set_64 : decode cX12_set 64 = .ok (.iload_n 2, 1) := by decide +kernel
theorem dX12_set_65 : decode cX12_set 65 = .ok (.ifCond .ne 13, 3) := by decide +kernel
theorem dX12_set_68 : decode cX12_set 68 = .ok (.aload_n 0, 1) := by decide +kernel
theorem dX12_set_69 : decode cX12_set 69 = .ok (.getfield 9, 3) := by decide +kernel
theorem dX12_set_72 : decode cX12_set 72 = .ok (.iload_n 1, 1) := by decide +kernel
theorem dX12_set_73 : decode cX12_set 73 = .ok (.iload_n 3, 1) := by decide +kernel
theorem dX12_set_74 : decode cX12_set 74 = .ok (.iastore, 1) := by decide +kernel
theorem dX12_set_75 : decode cX12_set 75 = .ok (.goto 10, 3) := by decide +kernel
theorem dX12_set_78 : decode cX12_set 78 = .ok (.aload_n 0, 1) := by decide +kernel
theorem dX12_set_79 : decode cX12_set 79 = .ok (.getfield 13, 3) := by decide +kernel
theorem dX12_set_82 : decode cX12_set 82 = .ok (.iload_n 1, 1) := by decide +kernel
theorem dX12_set_83 : decode cX12_set 83 = .ok (.iload_n 3, 1) := by decide +kernel
theorem dX12_set_84 : decode cX12_set 84 = .ok (.iastore, 1) := by decide +kernel
theorem dX12_set_85 : decode cX12_set 85 = .ok (.iload 4, 2) := by decide +kernel
theorem dX12_set_87 : decode cX12_set 87 = .ok (.ireturn, 1) := by decide +kernel
set_option maxHeartbeats 4000000 in
set_option maxRecDepth 20000 in
theorem b_m_set_b62 {X : Cx} {d : Nat} (hX : Ok M_m_set (d + 2) X) {r : Int32 × Mem} (hr : RetI M_m_set X r.1 r.2) (x1 : Int32) (x2 : Int32) (x3 : Int32) (s0 : Int32) (μ : Mem) (dy : Nat → Nat) (hf : f_m_set_b62 x1 x2 x3 s0 μ = some r) : AW X 62 [(0, .ref (gA (xG X) 111)), (1, .int x1), (2, .int x2), (3, .int x3)] [.int s0] μ dy := by
  unfold f_m_set_b62 at hf
  refine r_istore hX dX12_set_62 rfl (ls' := [(4, .int s0), (0, .ref (gA (xG X) 111)), (1, .int x1), (2, .int x2), (3, .int x3)]) rfl ?_
  refine r_iload_n hX dX12_set_64 3 rfl ?_
  refine r_if_ne hX 78 dX12_set_65 rfl (fun hc20 => ?_) (fun hc20 => ?_)
  · rw [if_neg hc20] at hf
    refine r_aload_n hX dX12_set_78 1 rfl ?_
    refine r_get hX fl_X12_13 (w_111 _ _ _) rfl dX12_set_79 ?_
    refine r_iload_n hX dX12_set_82 2 rfl ?_
    refine r_iload_n hX dX12_set_83 4 rfl ?_
    obtain ⟨b21, hf⟩ := chk_eq hf
    obtain ⟨μ22, e23, hf⟩ := bnd_eq hf
    refine r_iast hX (w_113 _ _ _) (inb_in b21) (s_113 _ _ _ _ _) e23 rfl dX12_set_84 ?_
    refine r_iload hX dX12_set_85 0 rfl ?_
    exact fin_I hf hr _ _ _ dX12_set_87
  · rw [if_pos hc20] at hf
    refine r_aload_n hX dX12_set_68 1 rfl ?_
    refine r_get hX fl_X12_9 (w_111 _ _ _) rfl dX12_set_69 ?_
    refine r_iload_n hX dX12_set_72 2 rfl ?_
    refine r_iload_n hX dX12_set_73 4 rfl ?_
    obtain ⟨b24, hf⟩ := chk_eq hf
    obtain ⟨μ25, e26, hf⟩ := bnd_eq hf
    refine r_iast hX (w_112 _ _ _) (inb_in b24) (s_112 _ _ _ _ _) e26 rfl dX12_set_74 ?_
    refine r_goto hX 85 dX12_set_75 rfl ?_
    refine r_iload hX dX12_set_85 0 rfl ?_
    exact fin_I hf hr _ _ _ dX12_set_87
set_option maxHeartbeats 4000000 in
set_option maxRecDepth 20000 in
theorem c_m_set {G : Gx} {d : Nat} {x1 : Int32} {x2 : Int32} {x3 : Int32} {μ : Mem} {r : Int32 × Mem} (hf : f_m_set x1 x2 x3 μ = some r) : Con G M_m_set (d + 2) [.ref (gA G 111), .int x1, .int x2, .int x3] μ (some (.int r.1), r.2) := by
  refine Con.ofI ⟨rfl, rfl, Nat.le_of_ble_eq_true rfl⟩ rfl rfl (fun X hG hX hr dy => ?_)
  subst hG
  show AW X 0 [(0, .ref (gA (xG X) 111)), (1, .int x1), (2, .int x2), (3, .int x3)] [] μ dy
  unfold f_m_set at hf
  refine r_aload_n hX dX12_set_0 0 rfl ?_
  refine r_iconst hX (0 : Int32) dX12_set_1 rfl ?_
  obtain ⟨μ1, e2, hf⟩ := bnd_eq hf
  refine r_put hX fl_X12_80 ft_X12_11 (w_111 _ _ _) rfl rfl rfl (s_111_11 _ _ _ _) e2 rfl dX12_set_2 ?_
  refine r_aload_n hX dX12_set_5 0 rfl ?_
  refine r_iload_n hX dX12_set_6 1 rfl ?_
  obtain ⟨v5, μ3, h4, hf⟩ := bd2_eq hf
  refine r_callVI (Ok.le hX (by omega)) (c_m_isOne (d := d)  h4) cv_X12_157 (w_111 _ _ _) rfl rfl (st := []) rfl rfl rfl dX12_set_7 (fun dy => ?_)
  refine r_if_eq hX 41 dX12_set_10 rfl (fun hc6 => ?_) (fun hc6 => ?_)
  · rw [if_pos hc6] at hf
    refine r_iconst hX (-1 : Int32) dX12_set_41 rfl ?_
    exact fin_I hf hr _ _ _ dX12_set_42
  · rw [if_neg hc6] at hf
    refine r_iload_n hX dX12_set_13 2 rfl ?_
    refine r_iconst hX (0 : Int32) dX12_set_14 rfl ?_
    refine r_iconst hX (1 : Int32) dX12_set_15 rfl ?_
    obtain ⟨v9, μ7, h8, hf⟩ := bd2_eq hf
    refine r_callSI (Ok.le hX (by omega)) (c_m_in (d := d)  h8) cs_X12_89 (st := []) rfl rfl rfl dX12_set_16 (fun dy => ?_)
    refine r_if_eq hX 41 dX12_set_19 rfl (fun hc10 => ?_) (fun hc10 => ?_)
    · rw [if_pos hc10] at hf
      refine r_iconst hX (-1 : Int32) dX12_set_41 rfl ?_
      exact fin_I hf hr _ _ _ dX12_set_42
    · rw [if_neg hc10] at hf
      refine r_iload_n hX dX12_set_22 3 rfl ?_
      refine r_iconst hX (0 : Int32) dX12_set_23 rfl ?_
      refine r_iload_n hX dX12_set_24 2 rfl ?_
      obtain ⟨v11, e12, hf⟩ := bnd_eq hf
      have J13 : AW X 35 [(0, .ref (gA (xG X) 111)), (1, .int x1), (2, .int x2), (3, .int x3)] [.int v11, .int (0 : Int32), .int x3] μ7 dy := by
        obtain ⟨v16, μ14, h15, hf⟩ := bd2_eq hf
        refine r_callSI (Ok.le hX (by omega)) (c_m_in (d := d)  h15) cs_X12_89 (st := []) rfl rfl rfl dX12_set_35 (fun dy => ?_)
        refine r_if_ne hX 43 dX12_set_38 rfl (fun hc17 => ?_) (fun hc17 => ?_)
        · rw [if_neg hc17] at hf
          refine r_iload_n hX dX12_set_43 2 rfl ?_
          refine r_if_ne hX 56 dX12_set_44 rfl (fun hc18 => ?_) (fun hc18 => ?_)
          · rw [if_neg hc18] at hf
            refine r_aload_n hX dX12_set_56 0 rfl ?_
            refine r_get hX fl_X12_13 (w_111 _ _ _) rfl dX12_set_57 ?_
            refine r_iload_n hX dX12_set_60 1 rfl ?_
            obtain ⟨b19, hf⟩ := chk_eq hf
            refine r_iald hX (w_113 _ _ _) (inb_in b19) dX12_set_61 ?_
            refine r_weak [0, 1, 2, 3] rfl ?_
            exact b_m_set_b62 hX hr _ _ _ _ _ _ hf
          · rw [if_pos hc18] at hf
            refine r_aload_n hX dX12_set_47 0 rfl ?_
            refine r_get hX fl_X12_9 (w_111 _ _ _) rfl dX12_set_48 ?_
            refine r_iload_n hX dX12_set_51 1 rfl ?_
            obtain ⟨b27, hf⟩ := chk_eq hf
            refine r_iald hX (w_112 _ _ _) (inb_in b27) dX12_set_52 ?_
            refine r_goto hX 62 dX12_set_53 rfl ?_
            refine r_weak [0, 1, 2, 3] rfl ?_
            exact b_m_set_b62 hX hr _ _ _ _ _ _ hf
        · rw [if_pos hc17] at hf
          refine r_iconst hX (-1 : Int32) dX12_set_41 rfl ?_
          exact fin_I hf hr _ _ _ dX12_set_42
      refine r_if_ne hX 33 dX12_set_25 rfl (fun hc28 => ?_) (fun hc28 => ?_)
      · refine r_bipush hX (9 : Int32) dX12_set_33 rfl ?_
        exact r_topI (e12.trans (by rw [if_neg hc28])) J13
      · refine r_bipush hX (99 : Int32) dX12_set_28 rfl ?_
        refine r_goto hX 35 dX12_set_30 rfl ?_
        exact r_topI (e12.trans (by rw [if_pos hc28])) J13
theorem dX12_hears_0 : decode cX12_hears 0 = .ok (.aload_n 0, 1) := by decide +kernel
theorem dX12_hears_1 : decode cX12_hears 1 = .ok (.iconst 0, 1) := by decide +kernel
theorem dX12_hears_2 : decode cX12_hears 2 = .ok (.putfield 80, 3) := by decide +kernel
theorem dX12_hears_5 : decode cX12_hears 5 = .ok (.aload_n 0, 1) := by decide +kernel
theorem dX12_hears_6 : decode cX12_hears 6 = .ok (.iload_n 1, 1) := by decide +kernel
theorem dX12_hears_7 : decode cX12_hears 7 = .ok (.invokevirtual 157, 3) := by decide +kernel
theorem dX12_hears_10 : decode cX12_hears 10 = .ok (.ifCond .eq 30, 3) := by decide +kernel
theorem dX12_hears_13 : decode cX12_hears 13 = .ok (.aload_n 0, 1) := by decide +kernel
theorem dX12_hears_14 : decode cX12_hears 14 = .ok (.iload_n 2, 1) := by decide +kernel
theorem dX12_hears_15 : decode cX12_hears 15 = .ok (.invokevirtual 157, 3) := by decide +kernel
theorem dX12_hears_18 : decode cX12_hears 18 = .ok (.ifCond .eq 22, 3) := by decide +kernel
theorem dX12_hears_21 : decode cX12_hears 21 = .ok (.iload_n 1, 1) := by decide +kernel
theorem dX12_hears_22 : decode cX12_hears 22 = .ok (.iload_n 2, 1) := by decide +kernel
theorem dX12_hears_23 : decode cX12_hears 23 = .ok (.if_icmp .eq 17, 3) := by decide +kernel
theorem dX12_hears_26 : decode cX12_hears 26 = .ok (.aload_n 0, 1) := by decide +kernel
theorem dX12_hears_27 : decode cX12_hears 27 = .ok (.getfield 16, 3) := by decide +kernel
theorem dX12_hears_30 : decode cX12_hears 30 = .ok (.bipush 14, 2) := by decide +kernel
theorem dX12_hears_32 : decode cX12_hears 32 = .ok (.iload_n 1, 1) := by decide +kernel
theorem dX12_hears_33 : decode cX12_hears 33 = .ok (.imul, 1) := by decide +kernel
theorem dX12_hears_34 : decode cX12_hears 34 = .ok (.iload_n 2, 1) := by decide +kernel
theorem dX12_hears_35 : decode cX12_hears 35 = .ok (.iadd, 1) := by decide +kernel
theorem dX12_hears_36 : decode cX12_hears 36 = .ok (.iaload, 1) := by decide +kernel
theorem dX12_hears_37 : decode cX12_hears 37 = .ok (.goto 4, 3) := by decide +kernel
theorem dX12_hears_40 : decode cX12_hears 40 = .ok (.iconst (-1), 1) := by decide +kernel
theorem dX12_hears_41 : decode cX12_hears 41 = .ok (.ireturn, 1) := by decide +kernel
set_option maxHeartbeats 4000000 in
set_option maxRecDepth 20000 in
theorem c_m_hears {G : Gx} {d : Nat} {x1 : Int32} {x2 : Int32} {μ : Mem} {r : Int32 × Mem} (hf : f_m_hears x1 x2 μ = some r) : Con G M_m_hears (d + 2) [.ref (gA G 111), .int x1, .int x2] μ (some (.int r.1), r.2) := by
  refine Con.ofI ⟨rfl, rfl, Nat.le_of_ble_eq_true rfl⟩ rfl rfl (fun X hG hX hr dy => ?_)
  subst hG
  show AW X 0 [(0, .ref (gA (xG X) 111)), (1, .int x1), (2, .int x2)] [] μ dy
  unfold f_m_hears at hf
  refine r_aload_n hX dX12_hears_0 0 rfl ?_
  refine r_iconst hX (0 : Int32) dX12_hears_1 rfl ?_
  obtain ⟨μ1, e2, hf⟩ := bnd_eq hf
  refine r_put hX fl_X12_80 ft_X12_11 (w_111 _ _ _) rfl rfl rfl (s_111_11 _ _ _ _) e2 rfl dX12_hears_2 ?_
  refine r_aload_n hX dX12_hears_5 0 rfl ?_
  refine r_iload_n hX dX12_hears_6 1 rfl ?_
  obtain ⟨v5, μ3, h4, hf⟩ := bd2_eq hf
  refine r_callVI (Ok.le hX (by omega)) (c_m_isOne (d := d)  h4) cv_X12_157 (w_111 _ _ _) rfl rfl (st := []) rfl rfl rfl dX12_hears_7 (fun dy => ?_)
  refine r_if_eq hX 40 dX12_hears_10 rfl (fun hc6 => ?_) (fun hc6 => ?_)
  · rw [if_pos hc6] at hf
    refine r_iconst hX (-1 : Int32) dX12_hears_40 rfl ?_
    exact fin_I hf hr _ _ _ dX12_hears_41
  · rw [if_neg hc6] at hf
    refine r_aload_n hX dX12_hears_13 0 rfl ?_
    refine r_iload_n hX dX12_hears_14 2 rfl ?_
    obtain ⟨v9, μ7, h8, hf⟩ := bd2_eq hf
    refine r_callVI (Ok.le hX (by omega)) (c_m_isOne (d := d)  h8) cv_X12_157 (w_111 _ _ _) rfl rfl (st := []) rfl rfl rfl dX12_hears_15 (fun dy => ?_)
    refine r_if_eq hX 40 dX12_hears_18 rfl (fun hc10 => ?_) (fun hc10 => ?_)
    · rw [if_pos hc10] at hf
      refine r_iconst hX (-1 : Int32) dX12_hears_40 rfl ?_
      exact fin_I hf hr _ _ _ dX12_hears_41
    · rw [if_neg hc10] at hf
      refine r_iload_n hX dX12_hears_21 1 rfl ?_
      refine r_iload_n hX dX12_hears_22 2 rfl ?_
      refine r_icmp_eq hX 40 dX12_hears_23 rfl (fun hc11 => ?_) (fun hc11 => ?_)
      · rw [if_pos hc11] at hf
        refine r_iconst hX (-1 : Int32) dX12_hears_40 rfl ?_
        exact fin_I hf hr _ _ _ dX12_hears_41
      · rw [if_neg hc11] at hf
        refine r_aload_n hX dX12_hears_26 0 rfl ?_
        refine r_get hX fl_X12_16 (w_111 _ _ _) rfl dX12_hears_27 ?_
        refine r_bipush hX (14 : Int32) dX12_hears_30 rfl ?_
        refine r_iload_n hX dX12_hears_32 1 rfl ?_
        refine r_imul hX dX12_hears_33 ?_
        refine r_iload_n hX dX12_hears_34 2 rfl ?_
        refine r_iadd hX dX12_hears_35 ?_
        obtain ⟨b12, hf⟩ := chk_eq hf
        refine r_iald hX (w_114 _ _ _) (inb_in b12) dX12_hears_36 ?_
        refine r_goto hX 41 dX12_hears_37 rfl ?_
        exact fin_I hf hr _ _ _ dX12_hears_41
theorem dX12_sheet_0 : decode cX12_sheet 0 = .ok (.aload_n 0, 1) := by decide +kernel
theorem dX12_sheet_1 : decode cX12_sheet 1 = .ok (.iconst 0, 1) := by decide +kernel
theorem dX12_sheet_2 : decode cX12_sheet 2 = .ok (.putfield 80, 3) := by decide +kernel
theorem dX12_sheet_5 : decode cX12_sheet 5 = .ok (.iload_n 1, 1) := by decide +kernel
theorem dX12_sheet_6 : decode cX12_sheet 6 = .ok (.iconst 0, 1) := by decide +kernel
theorem dX12_sheet_7 : decode cX12_sheet 7 = .ok (.iconst 3, 1) := by decide +kernel
theorem dX12_sheet_8 : decode cX12_sheet 8 = .ok (.invokestatic 89, 3) := by decide +kernel
theorem dX12_sheet_11 : decode cX12_sheet 11 = .ok (.ifCond .eq 9, 3) := by decide +kernel
theorem dX12_sheet_14 : decode cX12_sheet 14 = .ok (.iload_n 2, 1) := by decide +kernel
theorem dX12_sheet_15 : decode cX12_sheet 15 = .ok (.bipush 14, 2) := by decide +kernel
theorem dX12_sheet_17 : decode cX12_sheet 17 = .ok (.if_icmp .le 5, 3) := by decide +kernel
theorem dX12_sheet_20 : decode cX12_sheet 20 = .ok (.iconst (-1), 1) := by decide +kernel
theorem dX12_sheet_21 : decode cX12_sheet 21 = .ok (.ireturn, 1) := by decide +kernel
theorem dX12_sheet_22 : decode cX12_sheet 22 = .ok (.iload_n 1, 1) := by decide +kernel
theorem dX12_sheet_23 : decode cX12_sheet 23 = .ok (.iconst 3, 1) := by decide +kernel
theorem dX12_sheet_24 : decode cX12_sheet 24 = .ok (.if_icmp .ge 10, 3) := by decide +kernel
theorem dX12_sheet_27 : decode cX12_sheet 27 = .ok (.iload_n 2, 1) := by decide +kernel
theorem dX12_sheet_28 : decode cX12_sheet 28 = .ok (.ifCond .ge 6, 3) := by decide +kernel
theorem dX12_sheet_31 : decode cX12_sheet 31 = .ok (.bipush (-2), 2) := by decide +kernel
theorem dX12_sheet_33 : decode cX12_sheet 33 = .ok (.ireturn, 1) := by decide +kernel
theorem dX12_sheet_34 : decode cX12_sheet 34 = .ok (.iconst 0, 1) := by decide +kernel
theorem dX12_sheet_35 : decode cX12_sheet 35 = .ok (.istore 5, 2) := by decide +kernel
theorem dX12_sheet_37 : decode cX12_sheet 37 = .ok (.iload_n 3, 1) := by decide +kernel
theorem dX12_sheet_38 : decode cX12_sheet 38 = .ok (.istore 6, 2) := by decide +kernel
theorem dX12_sheet_40 : decode cX12_sheet 40 = .ok (.iconst 0, 1) := by decide +kernel
theorem dX12_sheet_41 : decode cX12_sheet 41 = .ok (.istore 7, 2) := by decide +kernel
theorem dX12_sheet_43 : decode cX12_sheet 43 = .ok (.iload 7, 2) := by decide +kernel
theorem dX12_sheet_45 : decode cX12_sheet 45 = .ok (.aload_n 0, 1) := by decide +kernel
theorem dX12_sheet_46 : decode cX12_sheet 46 = .ok (.getfield 86, 3) := by decide +kernel
theorem dX12_sheet_49 : decode cX12_sheet 49 = .ok (.if_icmp .ge 87, 3) := by decide +kernel
theorem dX12_sheet_52 : decode cX12_sheet 52 = .ok (.iload_n 1, 1) := by decide +kernel
theorem dX12_sheet_53 : decode cX12_sheet 53 = .ok (.ifCond .ne 9, 3) := by decide +kernel
theorem dX12_sheet_56 : decode cX12_sheet 56 = .ok (.iload 6, 2) := by decide +kernel
theorem dX12_sheet_58 : decode cX12_sheet 58 = .ok (.i2b, 1) := by decide +kernel
theorem dX12_sheet_59 : decode cX12_sheet 59 = .ok (.goto 16, 3) := by decide +kernel
theorem dX12_sheet_62 : decode cX12_sheet 62 = .ok (.iload_n 1, 1) := by decide +kernel
theorem dX12_sheet_63 : decode cX12_sheet 63 = .ok (.iconst 1, 1) := by decide +kernel
theorem dX12_sheet_64 : decode cX12_sheet 64 = .ok (.if_icmp .ne 9, 3) := by decide +kernel
theorem dX12_sheet_67 : decode cX12_sheet 67 = .ok (.iload 6, 2) := by decide +kernel
theorem dX12_sheet_69 : decode cX12_sheet 69 = .ok (.i2s, 1) := by decide +kernel
theorem dX12_sheet_70 : decode cX12_sheet 70 = .ok (.goto 5, 3) := by decide +kernel
theorem dX12_sheet_73 : decode cX12_sheet 73 = .ok (.iload 6, 2) := by decide +kernel
theorem dX12_sheet_75 : decode cX12_sheet 75 = .ok (.istore 8, 2) := by decide +kernel
theorem dX12_sheet_77 : decode cX12_sheet 77 = .ok (.aload_n 0, 1) := by decide +kernel
theorem dX12_sheet_78 : decode cX12_sheet 78 = .ok (.getfield 9, 3) := by decide +kernel
theorem dX12_sheet_81 : decode cX12_sheet 81 = .ok (.iload 7, 2) := by decide +kernel
theorem dX12_sheet_83 : decode cX12_sheet 83 = .ok (.iload_n 1, 1) := by decide +kernel
theorem dX12_sheet_84 : decode cX12_sheet 84 = .ok (.iconst 3, 1) := by decide +kernel
theorem dX12_sheet_85 : decode cX12_sheet 85 = .ok (.if_icmp .eq 9, 3) := by decide +kernel
theorem dX12_sheet_88 : decode cX12_sheet 88 = .ok (.iload 7, 2) := by decide +kernel
theorem dX12_sheet_90 : decode cX12_sheet 90 = .ok (.iload_n 2, 1) := by decide +kernel
theorem dX12_sheet_91 : decode cX12_sheet 91 = .ok (.if_icmp .lt 8, 3) := by decide +kernel
theorem dX12_sheet_94 : decode cX12_sheet 94 = .ok (.bipush 50, 2) := by decide +kernel
theorem dX12_sheet_96 : decode cX12_sheet 96 = .ok (.goto 14, 3) := by decide +kernel
theorem dX12_sheet_99 : decode cX12_sheet 99 = .ok (.iconst 0, 1) := by decide +kernel
theorem dX12_sheet_100 : decode cX12_sheet 100 = .ok (.bipush 99, 2) := by decide +kernel
theorem dX12_sheet_102 : decode cX12_sheet 102 = .ok (.iload 8, 2) := by decide +kernel
theorem dX12_sheet_104 : decode cX12_sheet 104 = .ok (.invokestatic 175, 3) := by decide +kernel
theorem dX12_sheet_107 : decode cX12_sheet 107 = .ok (.invokestatic 181, 3) := by decide +kernel
theorem dX12_sheet_110 : decode cX12_sheet 110 = .ok (.iastore, 1) := by decide +kernel
theorem dX12_sheet_111 : decode cX12_sheet 111 = .ok (.iload 5, 2) := by decide +kernel
theorem dX12_sheet_113 : decode cX12_sheet 113 = .ok (.aload_n 0, 1) := by decide +kernel
theorem dX12_sheet_114 : decode cX12_sheet 114 = .ok (.getfield 9, 3) := by decide +kernel
theorem dX12_sheet_117 : decode cX12_sheet 117 = .ok (.iload 7, 2) := by decide +kernel
theorem dX12_sheet_119 : decode cX12_sheet 119 = .ok (.iaload, 1) := by decide +kernel
theorem dX12_sheet_120 : decode cX12_sheet 120 = .ok (.iadd, 1) := by decide +kernel
theorem dX12_sheet_121 : decode cX12_sheet 121 = .ok (.istore 5, 2) := by decide +kernel
theorem dX12_sheet_123 : decode cX12_sheet 123 = .ok (.iload 6, 2) := by decide +kernel
theorem dX12_sheet_125 : decode cX12_sheet 125 = .ok (.iload 4, 2) := by decide +kernel
theorem dX12_sheet_127 : decode cX12_sheet 127 = .ok (.iadd, 1) := by decide +kernel
theorem dX12_sheet_128 : decode cX12_sheet 128 = .ok (.istore 6, 2) := by decide +kernel
theorem dX12_sheet_130 : decode cX12_sheet 130 = .ok (.iinc 7 1, 3) := by decide +kernel
theorem dX12_sheet_133 : decode cX12_sheet 133 = .ok (.goto (-90), 3) := by decide +kernel
theorem dX12_sheet_136 : decode cX12_sheet 136 = .ok (.iload_n 1, 1) := by decide +kernel
theorem dX12_sheet_137 : decode cX12_sheet 137 = .ok (.iconst 3, 1) := by decide +kernel
theorem dX12_sheet_138 : decode cX12_sheet 138 = .ok (.if_icmp .ne 8, 3) := by decide +kernel
theorem dX12_sheet_141 : decode cX12_sheet 141 = .ok (.bipush (-3), 2) := by decide +kernel
theorem dX12_sheet_143 : decode cX12_sheet 143 = .ok (.goto 5, 3) := by decide +kernel
theorem dX12_sheet_146 : decode cX12_sheet 146 = .ok (.iload 5, 2) := by decide +kernel
theorem dX12_sheet_148 : decode cX12_sheet 148 = .ok (.ireturn, 1) := by decide +kernel
set_option maxHeartbeats 4000000 in
set_option maxRecDepth 20000 in
theorem b_m_sheet_b110 {X : Cx} {d : Nat} (hX : Ok M_m_sheet (d + 1) X) {r : Int32 × Mem} (hr : RetI M_m_sheet X r.1 r.2) {k43 : Int32 → Int32 → Int32 → Int32 → Int32 → Int32 → Mem → Option (Int32 × Mem)} (hk43 : ∀ (x1 : Int32) (x2 : Int32) (x4 : Int32) (x5 : Int32) (x6 : Int32) (x7 : Int32) (μ : Mem) (dy : Nat → Nat), k43 x1 x2 x4 x5 x6 x7 μ = some r → AW X 43 [(0, .ref (gA (xG X) 111)), (1, .int x1), (2, .int x2), (4, .int x4), (5, .int x5), (6, .int x6), (7, .int x7)] [] μ dy) (x1 : Int32) (x2 : Int32) (x4 : Int32) (x5 : Int32) (x6 : Int32) (x7 : Int32) (s1 : Int32) (s2 : Int32) (μ : Mem) (dy : Nat → Nat) (hf : f_m_sheet_b110 k43 x1 x2 x4 x5 x6 x7 s1 s2 μ = some r) : AW X 110 [(0, .ref (gA (xG X) 111)), (1, .int x1), (2, .int x2), (4, .int x4), (5, .int x5), (6, .int x6), (7, .int x7)] [.int s2, .int s1, .ref (gA (xG X) 112)] μ dy := by
  unfold f_m_sheet_b110 at hf
  obtain ⟨b18, hf⟩ := chk_eq hf
  obtain ⟨μ19, e20, hf⟩ := bnd_eq hf
  refine r_iast hX (w_112 _ _ _) (inb_in b18) (s_112 _ _ _ _ _) e20 rfl dX12_sheet_110 ?_
  refine r_iload hX dX12_sheet_111 4 rfl ?_
  refine r_aload_n hX dX12_sheet_113 0 rfl ?_
  refine r_get hX fl_X12_9 (w_111 _ _ _) rfl dX12_sheet_114 ?_
  refine r_iload hX dX12_sheet_117 6 rfl ?_
  obtain ⟨b21, hf⟩ := chk_eq hf
  refine r_iald hX (w_112 _ _ _) (inb_in b21) dX12_sheet_119 ?_
  refine r_iadd hX dX12_sheet_120 ?_
  obtain ⟨v22, e23, hf⟩ := bnd_eq hf
  refine r_topI e23 ?_
  refine r_istore hX dX12_sheet_121 rfl (ls' := [(5, .int v22), (0, .ref (gA (xG X) 111)), (1, .int x1), (2, .int x2), (4, .int x4), (6, .int x6), (7, .int x7)]) rfl ?_
  refine r_iload hX dX12_sheet_123 5 rfl ?_
  refine r_iload hX dX12_sheet_125 4 rfl ?_
  refine r_iadd hX dX12_sheet_127 ?_
  refine r_istore hX dX12_sheet_128 rfl (ls' := [(6, .int (x6 + x4)), (5, .int v22), (0, .ref (gA (xG X) 111)), (1, .int x1), (2, .int x2), (4, .int x4), (7, .int x7)]) rfl ?_
  refine r_iinc hX (x7 + (1 : Int32)) dX12_sheet_130 6 rfl rfl rfl (ls' := [(7, .int (x7 + (1 : Int32))), (6, .int (x6 + x4)), (5, .int v22), (0, .ref (gA (xG X) 111)), (1, .int x1), (2, .int x2), (4, .int x4)]) rfl ?_
  refine r_goto hX 43 dX12_sheet_133 rfl ?_
  refine r_weak [3, 4, 5, 6, 2, 1, 0] rfl ?_
  exact hk43 _ _ _ _ _ _ _ _ hf
set_option maxHeartbeats 4000000 in
set_option maxRecDepth 20000 in
theorem b_m_sheet_b94 {X : Cx} {d : Nat} (hX : Ok M_m_sheet (d + 1) X) {r : Int32 × Mem} (hr : RetI M_m_sheet X r.1 r.2) {k43 : Int32 → Int32 → Int32 → Int32 → Int32 → Int32 → Mem → Option (Int32 × Mem)} (hk43 : ∀ (x1 : Int32) (x2 : Int32) (x4 : Int32) (x5 : Int32) (x6 : Int32) (x7 : Int32) (μ : Mem) (dy : Nat → Nat), k43 x1 x2 x4 x5 x6 x7 μ = some r → AW X 43 [(0, .ref (gA (xG X) 111)), (1, .int x1), (2, .int x2), (4, .int x4), (5, .int x5), (6, .int x6), (7, .int x7)] [] μ dy) (x1 : Int32) (x2 : Int32) (x4 : Int32) (x5 : Int32) (x6 : Int32) (x7 : Int32) (s1 : Int32) (μ : Mem) (dy : Nat → Nat) (hf : f_m_sheet_b94 k43 x1 x2 x4 x5 x6 x7 s1 μ = some r) : AW X 94 [(0, .ref (gA (xG X) 111)), (1, .int x1), (2, .int x2), (4, .int x4), (5, .int x5), (6, .int x6), (7, .int x7)] [.int s1, .ref (gA (xG X) 112)] μ dy := by
  unfold f_m_sheet_b94 at hf
  refine r_bipush hX (50 : Int32) dX12_sheet_94 rfl ?_
  refine r_goto hX 110 dX12_sheet_96 rfl ?_
  refine r_weak [0, 1, 2, 3, 4, 5, 6] rfl ?_
  exact b_m_sheet_b110 hX hr hk43 _ _ _ _ _ _ _ _ _ _ hf
set_option maxHeartbeats 4000000 in
set_option maxRecDepth 20000 in
theorem b_m_sheet_b43 {X : Cx} {d : Nat} (hX : Ok M_m_sheet (d + 1) X) {r : Int32 × Mem} (hr : RetI M_m_sheet X r.1 r.2) : ∀ (n : Nat) (x1 : Int32) (x2 : Int32) (x4 : Int32) (x5 : Int32) (x6 : Int32) (x7 : Int32) (μ : Mem) (dy : Nat → Nat), f_m_sheet_b43 n x1 x2 x4 x5 x6 x7 μ = some r → AW X 43 [(0, .ref (gA (xG X) 111)), (1, .int x1), (2, .int x2), (4, .int x4), (5, .int x5), (6, .int x6), (7, .int x7)] [] μ dy := by
  intro n
  induction n with
  | zero => intro x1 x2 x4 x5 x6 x7 μ dy hf; exact nomatch hf
  | succ n ih =>
    intro x1 x2 x4 x5 x6 x7 μ dy hf
    rw [f_m_sheet_b43] at hf
    refine r_iload hX dX12_sheet_43 6 rfl ?_
    refine r_aload_n hX dX12_sheet_45 0 rfl ?_
    refine r_get hX fl_X12_86 (w_111 _ _ _) rfl dX12_sheet_46 ?_
    refine r_icmp_ge hX 136 dX12_sheet_49 rfl (fun hc9 => ?_) (fun hc9 => ?_)
    · rw [if_pos hc9] at hf
      refine r_iload_n hX dX12_sheet_136 1 rfl ?_
      refine r_iconst hX (3 : Int32) dX12_sheet_137 rfl ?_
      obtain ⟨v10, e11, hf⟩ := bnd_eq hf
      have J12 : AW X 148 [(0, .ref (gA (xG X) 111)), (1, .int x1), (2, .int x2), (4, .int x4), (5, .int x5), (6, .int x6), (7, .int x7)] [.int v10] μ dy := by
        exact fin_I hf hr _ _ _ dX12_sheet_148
      refine r_icmp_ne hX 146 dX12_sheet_138 rfl (fun hc13 => ?_) (fun hc13 => ?_)
      · refine r_iload hX dX12_sheet_146 4 rfl ?_
        exact r_topI (e11.trans (by rw [if_neg hc13])) J12
      · refine r_bipush hX (-3 : Int32) dX12_sheet_141 rfl ?_
        refine r_goto hX 148 dX12_sheet_143 rfl ?_
        exact r_topI (e11.trans (by rw [if_pos hc13])) J12
    · rw [if_neg hc9] at hf
      refine r_iload_n hX dX12_sheet_52 1 rfl ?_
      obtain ⟨v14, e15, hf⟩ := bnd_eq hf
      have J16 : AW X 75 [(0, .ref (gA (xG X) 111)), (1, .int x1), (2, .int x2), (4, .int x4), (5, .int x5), (6, .int x6), (7, .int x7)] [.int v14] μ dy := by
        refine r_istore hX dX12_sheet_75 rfl (ls' := [(8, .int v14), (0, .ref (gA (xG X) 111)), (1, .int x1), (2, .int x2), (4, .int x4), (5, .int x5), (6, .int x6), (7, .int x7)]) rfl ?_
        refine r_aload_n hX dX12_sheet_77 1 rfl ?_
        refine r_get hX fl_X12_9 (w_111 _ _ _) rfl dX12_sheet_78 ?_
        refine r_iload hX dX12_sheet_81 7 rfl ?_
        refine r_iload_n hX dX12_sheet_83 2 rfl ?_
        refine r_iconst hX (3 : Int32) dX12_sheet_84 rfl ?_
        refine r_icmp_eq hX 94 dX12_sheet_85 rfl (fun hc17 => ?_) (fun hc17 => ?_)
        · rw [if_pos hc17] at hf
          refine r_weak [1, 2, 3, 4, 5, 6, 7] rfl ?_
          exact b_m_sheet_b94 hX hr ih _ _ _ _ _ _ _ _ _ hf
        · rw [if_neg hc17] at hf
          refine r_iload hX dX12_sheet_88 7 rfl ?_
          refine r_iload_n hX dX12_sheet_90 3 rfl ?_
          refine r_icmp_lt hX 99 dX12_sheet_91 rfl (fun hc24 => ?_) (fun hc24 => ?_)
          · rw [if_pos hc24] at hf
            refine r_iconst hX (0 : Int32) dX12_sheet_99 rfl ?_
            refine r_bipush hX (99 : Int32) dX12_sheet_100 rfl ?_
            refine r_iload hX dX12_sheet_102 0 rfl ?_
            refine r_min (d := d + 0) (Ok.le hX (by omega)) cs_X12_175 rfl dX12_sheet_104 ?_
            refine r_max (d := d + 0) (Ok.le hX (by omega)) cs_X12_181 rfl dX12_sheet_107 ?_
            refine r_weak [1, 2, 3, 4, 5, 6, 7] rfl ?_
            exact b_m_sheet_b110 hX hr ih _ _ _ _ _ _ _ _ _ _ hf
          · rw [if_neg hc24] at hf
            refine r_weak [1, 2, 3, 4, 5, 6, 7] rfl ?_
            exact b_m_sheet_b94 hX hr ih _ _ _ _ _ _ _ _ _ hf
      refine r_if_ne hX 62 dX12_sheet_53 rfl (fun hc25 => ?_) (fun hc25 => ?_)
      · refine r_iload_n hX dX12_sheet_62 1 rfl ?_
        refine r_iconst hX (1 : Int32) dX12_sheet_63 rfl ?_
        refine r_icmp_ne hX 73 dX12_sheet_64 rfl (fun hc26 => ?_) (fun hc26 => ?_)
        · refine r_iload hX dX12_sheet_73 5 rfl ?_
          exact r_topI (e15.trans (by rw [if_neg hc25, if_neg hc26])) J16
        · refine r_iload hX dX12_sheet_67 5 rfl ?_
          refine r_i2s hX dX12_sheet_69 ?_
          refine r_goto hX 75 dX12_sheet_70 rfl ?_
          exact r_topI (e15.trans (by rw [if_neg hc25, if_pos hc26])) J16
      · refine r_iload hX dX12_sheet_56 5 rfl ?_
        refine r_i2b hX dX12_sheet_58 ?_
        refine r_goto hX 75 dX12_sheet_59 rfl ?_
        exact r_topI (e15.trans (by rw [if_pos hc25])) J16
set_option maxHeartbeats 4000000 in
set_option maxRecDepth 20000 in
theorem b_m_sheet_b34 {X : Cx} {d : Nat} (hX : Ok M_m_sheet (d + 1) X) {r : Int32 × Mem} (hr : RetI M_m_sheet X r.1 r.2) (x1 : Int32) (x2 : Int32) (x3 : Int32) (x4 : Int32) (μ : Mem) (dy : Nat → Nat) (hf : f_m_sheet_b34 x1 x2 x3 x4 μ = some r) : AW X 34 [(0, .ref (gA (xG X) 111)), (1, .int x1), (2, .int x2), (3, .int x3), (4, .int x4)] [] μ dy := by
  unfold f_m_sheet_b34 at hf
  refine r_iconst hX (0 : Int32) dX12_sheet_34 rfl ?_
  refine r_istore hX dX12_sheet_35 rfl (ls' := [(5, .int (0 : Int32)), (0, .ref (gA (xG X) 111)), (1, .int x1), (2, .int x2), (3, .int x3), (4, .int x4)]) rfl ?_
  refine r_iload_n hX dX12_sheet_37 4 rfl ?_
  refine r_istore hX dX12_sheet_38 rfl (ls' := [(6, .int x3), (5, .int (0 : Int32)), (0, .ref (gA (xG X) 111)), (1, .int x1), (2, .int x2), (3, .int x3), (4, .int x4)]) rfl ?_
  refine r_iconst hX (0 : Int32) dX12_sheet_40 rfl ?_
  refine r_istore hX dX12_sheet_41 rfl (ls' := [(7, .int (0 : Int32)), (6, .int x3), (5, .int (0 : Int32)), (0, .ref (gA (xG X) 111)), (1, .int x1), (2, .int x2), (3, .int x3), (4, .int x4)]) rfl ?_
  refine r_weak [3, 4, 5, 7, 2, 1, 0] rfl ?_
  exact b_m_sheet_b43 hX hr FU _ _ _ _ _ _ _ _ hf
set_option maxHeartbeats 4000000 in
set_option maxRecDepth 20000 in
theorem c_m_sheet {G : Gx} {d : Nat} {x1 : Int32} {x2 : Int32} {x3 : Int32} {x4 : Int32} {μ : Mem} {r : Int32 × Mem} (hf : f_m_sheet x1 x2 x3 x4 μ = some r) : Con G M_m_sheet (d + 1) [.ref (gA G 111), .int x1, .int x2, .int x3, .int x4] μ (some (.int r.1), r.2) := by
  refine Con.ofI ⟨rfl, rfl, Nat.le_of_ble_eq_true rfl⟩ rfl rfl (fun X hG hX hr dy => ?_)
  subst hG
  show AW X 0 [(0, .ref (gA (xG X) 111)), (1, .int x1), (2, .int x2), (3, .int x3), (4, .int x4)] [] μ dy
  unfold f_m_sheet at hf
  refine r_aload_n hX dX12_sheet_0 0 rfl ?_
  refine r_iconst hX (0 : Int32) dX12_sheet_1 rfl ?_
  obtain ⟨μ1, e2, hf⟩ := bnd_eq hf
  refine r_put hX fl_X12_80 ft_X12_11 (w_111 _ _ _) rfl rfl rfl (s_111_11 _ _ _ _) e2 rfl dX12_sheet_2 ?_
  refine r_iload_n hX dX12_sheet_5 1 rfl ?_
  refine r_iconst hX (0 : Int32) dX12_sheet_6 rfl ?_
  refine r_iconst hX (3 : Int32) dX12_sheet_7 rfl ?_
  obtain ⟨v5, μ3, h4, hf⟩ := bd2_eq hf
  refine r_callSI (Ok.le hX (by omega)) (c_m_in (d := d)  h4) cs_X12_89 (st := []) rfl rfl rfl dX12_sheet_8 (fun dy => ?_)
  refine r_if_eq hX 20 dX12_sheet_11 rfl (fun hc6 => ?_) (fun hc6 => ?_)
  · rw [if_pos hc6] at hf
    refine r_iconst hX (-1 : Int32) dX12_sheet_20 rfl ?_
    exact fin_I hf hr _ _ _ dX12_sheet_21
  · rw [if_neg hc6] at hf
    refine r_iload_n hX dX12_sheet_14 2 rfl ?_
    refine r_bipush hX (14 : Int32) dX12_sheet_15 rfl ?_
    refine r_icmp_le hX 22 dX12_sheet_17 rfl (fun hc7 => ?_) (fun hc7 => ?_)
    · rw [if_pos hc7] at hf
      refine r_iload_n hX dX12_sheet_22 1 rfl ?_
      refine r_iconst hX (3 : Int32) dX12_sheet_23 rfl ?_
      refine r_icmp_ge hX 34 dX12_sheet_24 rfl (fun hc8 => ?_) (fun hc8 => ?_)
      · rw [if_pos hc8] at hf
        refine r_weak [0, 1, 2, 3, 4] rfl ?_
        exact b_m_sheet_b34 hX hr _ _ _ _ _ _ hf
      · rw [if_neg hc8] at hf
        refine r_iload_n hX dX12_sheet_27 2 rfl ?_
        refine r_if_ge hX 34 dX12_sheet_28 rfl (fun hc27 => ?_) (fun hc27 => ?_)
        · rw [if_pos hc27] at hf
          refine r_weak [0, 1, 2, 3, 4] rfl ?_
          exact b_m_sheet_b34 hX hr _ _ _ _ _ _ hf
        · rw [if_neg hc27] at hf
          refine r_bipush hX (-2 : Int32) dX12_sheet_31 rfl ?_
          exact fin_I hf hr _ _ _ dX12_sheet_33
    · rw [if_neg hc7] at hf
      refine r_iconst hX (-1 : Int32) dX12_sheet_20 rfl ?_
      exact fin_I hf hr _ _ _ dX12_sheet_21
theorem dX12_alike_0 : decode cX12_alike 0 = .ok (.aload_n 0, 1) := by decide +kernel
theorem dX12_alike_1 : decode cX12_alike 1 = .ok (.iconst 0, 1) := by decide +kernel
theorem dX12_alike_2 : decode cX12_alike 2 = .ok (.putfield 80, 3) := by decide +kernel
theorem dX12_alike_5 : decode cX12_alike 5 = .ok (.iconst 0, 1) := by decide +kernel
theorem dX12_alike_6 : decode cX12_alike 6 = .ok (.istore_n 1, 1) := by decide +kernel
theorem dX12_alike_7 : decode cX12_alike 7 = .ok (.iload_n 1, 1) := by decide +kernel
theorem dX12_alike_8 : decode cX12_alike 8 = .ok (.aload_n 0, 1) := by decide +kernel
theorem dX12_alike_9 : decode cX12_alike 9 = .ok (.getfield 86, 3) := by decide +kernel
theorem dX12_alike_12 : decode cX12_alike 12 = .ok (.if_icmp .ge 49, 3) := by decide +kernel
theorem dX12_alike_15 : decode cX12_alike 15 = .ok (.iconst 0, 1) := by decide +kernel
theorem dX12_alike_16 : decode cX12_alike 16 = .ok (.istore_n 2, 1) := by decide +kernel
theorem dX12_alike_17 : decode cX12_alike 17 = .ok (.iload_n 2, 1) := by decide +kernel
theorem dX12_alike_18 : decode cX12_alike 18 = .ok (.iload_n 1, 1) := by decide +kernel
theorem dX12_alike_19 : decode cX12_alike 19 = .ok (.if_icmp .ge 36, 3) := by decide +kernel
theorem dX12_alike_22 : decode cX12_alike 22 = .ok (.aload_n 0, 1) := by decide +kernel
theorem dX12_alike_23 : decode cX12_alike 23 = .ok (.getfield 16, 3) := by decide +kernel
theorem dX12_alike_26 : decode cX12_alike 26 = .ok (.bipush 14, 2) := by decide +kernel
theorem dX12_alike_28 : decode cX12_alike 28 = .ok (.iload_n 1, 1) := by decide +kernel
theorem dX12_alike_29 : decode cX12_alike 29 = .ok (.imul, 1) := by decide +kernel
theorem dX12_alike_30 : decode cX12_alike 30 = .ok (.iload_n 2, 1) := by decide +kernel
theorem dX12_alike_31 : decode cX12_alike 31 = .ok (.iadd, 1) := by decide +kernel
theorem dX12_alike_32 : decode cX12_alike 32 = .ok (.iaload, 1) := by decide +kernel
theorem dX12_alike_33 : decode cX12_alike 33 = .ok (.aload_n 0, 1) := by decide +kernel
theorem dX12_alike_34 : decode cX12_alike 34 = .ok (.getfield 16, 3) := by decide +kernel
theorem dX12_alike_37 : decode cX12_alike 37 = .ok (.bipush 14, 2) := by decide +kernel
theorem dX12_alike_39 : decode cX12_alike 39 = .ok (.iload_n 2, 1) := by decide +kernel
theorem dX12_alike_40 : decode cX12_alike 40 = .ok (.imul, 1) := by decide +kernel
theorem dX12_alike_41 : decode cX12_alike 41 = .ok (.iload_n 1, 1) := by decide +kernel
theorem dX12_alike_42 : decode cX12_alike 42 = .ok (.iadd, 1) := by decide +kernel
theorem dX12_alike_43 : decode cX12_alike 43 = .ok (.iaload, 1) := by decide +kernel
theorem dX12_alike_44 : decode cX12_alike 44 = .ok (.if_icmp .eq 5, 3) := by decide +kernel
theorem dX12_alike_47 : decode cX12_alike 47 = .ok (.iconst 0, 1) := by decide +kernel
theorem dX12_alike_48 : decode cX12_alike 48 = .ok (.ireturn, 1) := by decide +kernel
theorem dX12_alike_49 : decode cX12_alike 49 = .ok (.iinc 2 1, 3) := by decide +kernel
theorem dX12_alike_52 : decode cX12_alike 52 = .ok (.goto (-35), 3) := by decide +kernel
theorem dX12_alike_55 : decode cX12_alike 55 = .ok (.iinc 1 1, 3) := by decide +kernel
theorem dX12_alike_58 : decode cX12_alike 58 = .ok (.goto (-51), 3) := by decide +kernel
theorem dX12_alike_61 : decode cX12_alike 61 = .ok (.iconst 1, 1) := by decide +kernel
theorem dX12_alike_62 : decode cX12_alike 62 = .ok (.ireturn, 1) := by decide +kernel
set_option maxHeartbeats 4000000 in
set_option maxRecDepth 20000 in
theorem b_m_alike_b17 {X : Cx} {d : Nat} (hX : Ok M_m_alike (d + 0) X) {r : Int32 × Mem} (hr : RetI M_m_alike X r.1 r.2) {k7 : Int32 → Mem → Option (Int32 × Mem)} (hk7 : ∀ (x1 : Int32) (μ : Mem) (dy : Nat → Nat), k7 x1 μ = some r → AW X 7 [(0, .ref (gA (xG X) 111)), (1, .int x1)] [] μ dy) : ∀ (n : Nat) (x1 : Int32) (x2 : Int32) (μ : Mem) (dy : Nat → Nat), f_m_alike_b17 k7 n x1 x2 μ = some r → AW X 17 [(0, .ref (gA (xG X) 111)), (1, .int x1), (2, .int x2)] [] μ dy := by
  intro n
  induction n with
  | zero => intro x1 x2 μ dy hf; exact nomatch hf
  | succ n ih =>
    intro x1 x2 μ dy hf
    rw [f_m_alike_b17] at hf
    refine r_iload_n hX dX12_alike_17 2 rfl ?_
    refine r_iload_n hX dX12_alike_18 1 rfl ?_
    refine r_icmp_ge hX 55 dX12_alike_19 rfl (fun hc4 => ?_) (fun hc4 => ?_)
    · rw [if_pos hc4] at hf
      refine r_iinc hX (x1 + (1 : Int32)) dX12_alike_55 1 rfl rfl rfl (ls' := [(1, .int (x1 + (1 : Int32))), (0, .ref (gA (xG X) 111)), (2, .int x2)]) rfl ?_
      refine r_goto hX 7 dX12_alike_58 rfl ?_
      refine r_weak [1, 0] rfl ?_
      exact hk7 _ _ _ hf
    · rw [if_neg hc4] at hf
      refine r_aload_n hX dX12_alike_22 0 rfl ?_
      refine r_get hX fl_X12_16 (w_111 _ _ _) rfl dX12_alike_23 ?_
      refine r_bipush hX (14 : Int32) dX12_alike_26 rfl ?_
      refine r_iload_n hX dX12_alike_28 1 rfl ?_
      refine r_imul hX dX12_alike_29 ?_
      refine r_iload_n hX dX12_alike_30 2 rfl ?_
      refine r_iadd hX dX12_alike_31 ?_
      obtain ⟨b5, hf⟩ := chk_eq hf
      refine r_iald hX (w_114 _ _ _) (inb_in b5) dX12_alike_32 ?_
      refine r_aload_n hX dX12_alike_33 0 rfl ?_
      refine r_get hX fl_X12_16 (w_111 _ _ _) rfl dX12_alike_34 ?_
      refine r_bipush hX (14 : Int32) dX12_alike_37 rfl ?_
      refine r_iload_n hX dX12_alike_39 2 rfl ?_
      refine r_imul hX dX12_alike_40 ?_
      refine r_iload_n hX dX12_alike_41 1 rfl ?_
      refine r_iadd hX dX12_alike_42 ?_
      obtain ⟨b6, hf⟩ := chk_eq hf
      refine r_iald hX (w_114 _ _ _) (inb_in b6) dX12_alike_43 ?_
      refine r_icmp_eq hX 49 dX12_alike_44 rfl (fun hc7 => ?_) (fun hc7 => ?_)
      · rw [if_pos hc7] at hf
        refine r_iinc hX (x2 + (1 : Int32)) dX12_alike_49 2 rfl rfl rfl (ls' := [(2, .int (x2 + (1 : Int32))), (0, .ref (gA (xG X) 111)), (1, .int x1)]) rfl ?_
        refine r_goto hX 17 dX12_alike_52 rfl ?_
        refine r_weak [1, 2, 0] rfl ?_
        exact ih _ _ _ _ hf
      · rw [if_neg hc7] at hf
        refine r_iconst hX (0 : Int32) dX12_alike_47 rfl ?_
        exact fin_I hf hr _ _ _ dX12_alike_48
set_option maxHeartbeats 4000000 in
set_option maxRecDepth 20000 in
theorem b_m_alike_b7 {X : Cx} {d : Nat} (hX : Ok M_m_alike (d + 0) X) {r : Int32 × Mem} (hr : RetI M_m_alike X r.1 r.2) : ∀ (n : Nat) (x1 : Int32) (μ : Mem) (dy : Nat → Nat), f_m_alike_b7 n x1 μ = some r → AW X 7 [(0, .ref (gA (xG X) 111)), (1, .int x1)] [] μ dy := by
  intro n
  induction n with
  | zero => intro x1 μ dy hf; exact nomatch hf
  | succ n ih =>
    intro x1 μ dy hf
    rw [f_m_alike_b7] at hf
    refine r_iload_n hX dX12_alike_7 1 rfl ?_
    refine r_aload_n hX dX12_alike_8 0 rfl ?_
    refine r_get hX fl_X12_86 (w_111 _ _ _) rfl dX12_alike_9 ?_
    refine r_icmp_ge hX 61 dX12_alike_12 rfl (fun hc3 => ?_) (fun hc3 => ?_)
    · rw [if_pos hc3] at hf
      refine r_iconst hX (1 : Int32) dX12_alike_61 rfl ?_
      exact fin_I hf hr _ _ _ dX12_alike_62
    · rw [if_neg hc3] at hf
      refine r_iconst hX (0 : Int32) dX12_alike_15 rfl ?_
      refine r_istore_n hX dX12_alike_16 rfl (ls' := [(2, .int (0 : Int32)), (0, .ref (gA (xG X) 111)), (1, .int x1)]) rfl ?_
      refine r_weak [1, 2, 0] rfl ?_
      exact b_m_alike_b17 hX hr ih FU _ _ _ _ hf
set_option maxHeartbeats 4000000 in
set_option maxRecDepth 20000 in
theorem c_m_alike {G : Gx} {d : Nat}  {μ : Mem} {r : Int32 × Mem} (hf : f_m_alike  μ = some r) : Con G M_m_alike (d + 0) [.ref (gA G 111)] μ (some (.int r.1), r.2) := by
  refine Con.ofI ⟨rfl, rfl, Nat.le_of_ble_eq_true rfl⟩ rfl rfl (fun X hG hX hr dy => ?_)
  subst hG
  show AW X 0 [(0, .ref (gA (xG X) 111))] [] μ dy
  unfold f_m_alike at hf
  refine r_aload_n hX dX12_alike_0 0 rfl ?_
  refine r_iconst hX (0 : Int32) dX12_alike_1 rfl ?_
  obtain ⟨μ1, e2, hf⟩ := bnd_eq hf
  refine r_put hX fl_X12_80 ft_X12_11 (w_111 _ _ _) rfl rfl rfl (s_111_11 _ _ _ _) e2 rfl dX12_alike_2 ?_
  refine r_iconst hX (0 : Int32) dX12_alike_5 rfl ?_
  refine r_istore_n hX dX12_alike_6 rfl (ls' := [(1, .int (0 : Int32)), (0, .ref (gA (xG X) 111))]) rfl ?_
  refine r_weak [1, 0] rfl ?_
  exact b_m_alike_b7 hX hr FU _ _ _ hf
