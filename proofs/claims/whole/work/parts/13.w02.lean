theorem dX2_recall_0 : decode cX2_recall 0 = .ok (.aload_n 0, 1) := by decide +kernel
theorem dX2_recall_1 : decode cX2_recall 1 = .ok (.getfield 11, 3) := by decide +kernel
theorem dX2_recall_4 : decode cX2_recall 4 = .ok (.iload_n 1, 1) := by decide +kernel
theorem dX2_recall_5 : decode cX2_recall 5 = .ok (.aload_n 0, 1) := by decide +kernel
theorem dX2_recall_6 : decode cX2_recall 6 = .ok (.getfield 15, 3) := by decide +kernel
theorem dX2_recall_9 : decode cX2_recall 9 = .ok (.imul, 1) := by decide +kernel
theorem dX2_recall_10 : decode cX2_recall 10 = .ok (.iload_n 2, 1) := by decide +kernel
theorem dX2_recall_11 : decode cX2_recall 11 = .ok (.iadd, 1) := by decide +kernel
theorem dX2_recall_12 : decode cX2_recall 12 = .ok (.iaload, 1) := by decide +kernel
theorem dX2_recall_13 : decode cX2_recall 13 = .ok (.istore_n 3, 1) := by decide +kernel
theorem dX2_recall_14 : decode cX2_recall 14 = .ok (.iload_n 3, 1) := by decide +kernel
theorem dX2_recall_15 : decode cX2_recall 15 = .ok (.bipush 15, 2) := by decide +kernel
theorem dX2_recall_17 : decode cX2_recall 17 = .ok (.iushr, 1) := by decide +kernel
theorem dX2_recall_18 : decode cX2_recall 18 = .ok (.aload_n 0, 1) := by decide +kernel
theorem dX2_recall_19 : decode cX2_recall 19 = .ok (.getfield 19, 3) := by decide +kernel
theorem dX2_recall_22 : decode cX2_recall 22 = .ok (.if_icmp .ne 11, 3) := by decide +kernel
theorem dX2_recall_25 : decode cX2_recall 25 = .ok (.iload_n 3, 1) := by decide +kernel
theorem dX2_recall_26 : decode cX2_recall 26 = .ok (.sipush 32767, 3) := by decide +kernel
theorem dX2_recall_29 : decode cX2_recall 29 = .ok (.iand, 1) := by decide +kernel
theorem dX2_recall_30 : decode cX2_recall 30 = .ok (.goto 4, 3) := by decide +kernel
theorem dX2_recall_33 : decode cX2_recall 33 = .ok (.iconst (-1), 1) := by decide +kernel
theorem dX2_recall_34 : decode cX2_recall 34 = .ok (.ireturn, 1) := by decide +kernel
set_option maxHeartbeats 4000000 in
set_option maxRecDepth 20000 in
theorem c_me_recall {G : Gx} {d : Nat} {x1 : Int32} {x2 : Int32} {μ : Mem} {r : Int32 × Mem} (hf : f_me_recall x1 x2 μ = some r) : Con G M_me_recall (d + 0) [.ref (gA G 90), .int x1, .int x2] μ (some (.int r.1), r.2) := by
  refine Con.ofI ⟨rfl, rfl, Nat.le_of_ble_eq_true rfl⟩ rfl rfl (fun X hG hX hr dy => ?_)
  subst hG
  show AW X 0 [(0, .ref (gA (xG X) 90)), (1, .int x1), (2, .int x2)] [] μ dy
  unfold f_me_recall at hf
  refine r_aload_n hX dX2_recall_0 0 rfl ?_
  refine r_get hX fl_X2_11 (w_90 _ _ _) rfl dX2_recall_1 ?_
  refine r_iload_n hX dX2_recall_4 1 rfl ?_
  refine r_aload_n hX dX2_recall_5 0 rfl ?_
  refine r_get hX fl_X2_15 (w_90 _ _ _) rfl dX2_recall_6 ?_
  refine r_imul hX dX2_recall_9 ?_
  refine r_iload_n hX dX2_recall_10 2 rfl ?_
  refine r_iadd hX dX2_recall_11 ?_
  obtain ⟨b1, hf⟩ := chk_eq hf
  refine r_iald hX (w_137 _ _ _) (inb_in b1) dX2_recall_12 ?_
  obtain ⟨v2, e3, hf⟩ := bnd_eq hf
  refine r_topI e3 ?_
  refine r_istore_n hX dX2_recall_13 rfl (ls' := [(3, .int v2), (0, .ref (gA (xG X) 90)), (1, .int x1), (2, .int x2)]) rfl ?_
  refine r_iload_n hX dX2_recall_14 0 rfl ?_
  refine r_bipush hX (15 : Int32) dX2_recall_15 rfl ?_
  refine r_iushr hX dX2_recall_17 ?_
  refine r_aload_n hX dX2_recall_18 1 rfl ?_
  refine r_get hX fl_X2_19 (w_90 _ _ _) rfl dX2_recall_19 ?_
  obtain ⟨v4, e5, hf⟩ := bnd_eq hf
  have J6 : AW X 34 [(3, .int v2), (0, .ref (gA (xG X) 90)), (1, .int x1), (2, .int x2)] [.int v4] μ dy := by
    exact fin_I hf hr _ _ _ dX2_recall_34
  refine r_icmp_ne hX 33 dX2_recall_22 rfl (fun hc7 => ?_) (fun hc7 => ?_)
  · refine r_iconst hX (-1 : Int32) dX2_recall_33 rfl ?_
    exact r_topI (e5.trans (by rw [if_neg hc7])) J6
  · refine r_iload_n hX dX2_recall_25 0 rfl ?_
    refine r_sipush hX (32767 : Int32) dX2_recall_26 rfl ?_
    refine r_iand hX dX2_recall_29 ?_
    refine r_goto hX 34 dX2_recall_30 rfl ?_
    exact r_topI (e5.trans (by rw [if_pos hc7])) J6
theorem dX2_note_0 : decode cX2_note 0 = .ok (.aload_n 0, 1) := by decide +kernel
theorem dX2_note_1 : decode cX2_note 1 = .ok (.getfield 11, 3) := by decide +kernel
theorem dX2_note_4 : decode cX2_note 4 = .ok (.iload_n 1, 1) := by decide +kernel
theorem dX2_note_5 : decode cX2_note 5 = .ok (.aload_n 0, 1) := by decide +kernel
theorem dX2_note_6 : decode cX2_note 6 = .ok (.getfield 15, 3) := by decide +kernel
theorem dX2_note_9 : decode cX2_note 9 = .ok (.imul, 1) := by decide +kernel
theorem dX2_note_10 : decode cX2_note 10 = .ok (.iload_n 2, 1) := by decide +kernel
theorem dX2_note_11 : decode cX2_note 11 = .ok (.iadd, 1) := by decide +kernel
theorem dX2_note_12 : decode cX2_note 12 = .ok (.aload_n 0, 1) := by decide +kernel
theorem dX2_note_13 : decode cX2_note 13 = .ok (.getfield 19, 3) := by decide +kernel
theorem dX2_note_16 : decode cX2_note 16 = .ok (.bipush 15, 2) := by decide +kernel
theorem dX2_note_18 : decode cX2_note 18 = .ok (.ishl, 1) := by decide +kernel
theorem dX2_note_19 : decode cX2_note 19 = .ok (.iload_n 3, 1) := by decide +kernel
theorem dX2_note_20 : decode cX2_note 20 = .ok (.ior, 1) := by decide +kernel
theorem dX2_note_21 : decode cX2_note 21 = .ok (.iastore, 1) := by decide +kernel
theorem dX2_note_22 : decode cX2_note 22 = .ok (.return_, 1) := by decide +kernel
set_option maxHeartbeats 4000000 in
set_option maxRecDepth 20000 in
theorem c_me_note {G : Gx} {d : Nat} {x1 : Int32} {x2 : Int32} {x3 : Int32} {μ : Mem} {r : Mem} (hf : f_me_note x1 x2 x3 μ = some r) : Con G M_me_note (d + 0) [.ref (gA G 90), .int x1, .int x2, .int x3] μ (none, r) := by
  refine Con.ofV ⟨rfl, rfl, Nat.le_of_ble_eq_true rfl⟩ rfl (fun X hG hX hr dy => ?_)
  subst hG
  show AW X 0 [(0, .ref (gA (xG X) 90)), (1, .int x1), (2, .int x2), (3, .int x3)] [] μ dy
  unfold f_me_note at hf
  refine r_aload_n hX dX2_note_0 0 rfl ?_
  refine r_get hX fl_X2_11 (w_90 _ _ _) rfl dX2_note_1 ?_
  refine r_iload_n hX dX2_note_4 1 rfl ?_
  refine r_aload_n hX dX2_note_5 0 rfl ?_
  refine r_get hX fl_X2_15 (w_90 _ _ _) rfl dX2_note_6 ?_
  refine r_imul hX dX2_note_9 ?_
  refine r_iload_n hX dX2_note_10 2 rfl ?_
  refine r_iadd hX dX2_note_11 ?_
  refine r_aload_n hX dX2_note_12 0 rfl ?_
  refine r_get hX fl_X2_19 (w_90 _ _ _) rfl dX2_note_13 ?_
  refine r_bipush hX (15 : Int32) dX2_note_16 rfl ?_
  refine r_ishl hX dX2_note_18 ?_
  refine r_iload_n hX dX2_note_19 3 rfl ?_
  refine r_ior hX dX2_note_20 ?_
  obtain ⟨b1, hf⟩ := chk_eq hf
  obtain ⟨μ2, e3, hf⟩ := bnd_eq hf
  refine r_iast hX (w_137 _ _ _) (inb_in b1) (s_137 _ _ _ _ _) e3 rfl dX2_note_21 ?_
  exact fin_V hf hr _ _ _ dX2_note_22
theorem dX3_goRound_0 : decode cX3_goRound 0 = .ok (.aload_n 0, 1) := by decide +kernel
theorem dX3_goRound_1 : decode cX3_goRound 1 = .ok (.aload_n 0, 1) := by decide +kernel
theorem dX3_goRound_2 : decode cX3_goRound 2 = .ok (.getfield 63, 3) := by decide +kernel
theorem dX3_goRound_5 : decode cX3_goRound 5 = .ok (.putfield 69, 3) := by decide +kernel
theorem dX3_goRound_8 : decode cX3_goRound 8 = .ok (.aload_n 0, 1) := by decide +kernel
theorem dX3_goRound_9 : decode cX3_goRound 9 = .ok (.aload_n 0, 1) := by decide +kernel
theorem dX3_goRound_10 : decode cX3_goRound 10 = .ok (.getfield 63, 3) := by decide +kernel
theorem dX3_goRound_13 : decode cX3_goRound 13 = .ok (.putfield 72, 3) := by decide +kernel
theorem dX3_goRound_16 : decode cX3_goRound 16 = .ok (.aload_n 0, 1) := by decide +kernel
theorem dX3_goRound_17 : decode cX3_goRound 17 = .ok (.aload_n 0, 1) := by decide +kernel
theorem dX3_goRound_18 : decode cX3_goRound 18 = .ok (.getfield 63, 3) := by decide +kernel
theorem dX3_goRound_21 : decode cX3_goRound 21 = .ok (.putfield 75, 3) := by decide +kernel
theorem dX3_goRound_24 : decode cX3_goRound 24 = .ok (.aload_n 0, 1) := by decide +kernel
theorem dX3_goRound_25 : decode cX3_goRound 25 = .ok (.getfield 63, 3) := by decide +kernel
theorem dX3_goRound_28 : decode cX3_goRound 28 = .ok (.istore_n 1, 1) := by decide +kernel
theorem dX3_goRound_29 : decode cX3_goRound 29 = .ok (.iconst 1, 1) := by decide +kernel
theorem dX3_goRound_30 : decode cX3_goRound 30 = .ok (.istore_n 2, 1) := by decide +kernel
theorem dX3_goRound_31 : decode cX3_goRound 31 = .ok (.iload_n 2, 1) := by decide +kernel
theorem dX3_goRound_32 : decode cX3_goRound 32 = .ok (.aload_n 0, 1) := by decide +kernel
theorem dX3_goRound_33 : decode cX3_goRound 33 = .ok (.getfield 60, 3) := by decide +kernel
theorem dX3_goRound_36 : decode cX3_goRound 36 = .ok (.if_icmp .ge 50, 3) := by decide +kernel
theorem dX3_goRound_39 : decode cX3_goRound 39 = .ok (.aload_n 0, 1) := by decide +kernel
theorem dX3_goRound_40 : decode cX3_goRound 40 = .ok (.getfield 15, 3) := by decide +kernel
theorem dX3_goRound_43 : decode cX3_goRound 43 = .ok (.iload_n 1, 1) := by decide +kernel
theorem dX3_goRound_44 : decode cX3_goRound 44 = .ok (.invokevirtual 51, 3) := by decide +kernel
theorem dX3_goRound_47 : decode cX3_goRound 47 = .ok (.istore_n 1, 1) := by decide +kernel
theorem dX3_goRound_48 : decode cX3_goRound 48 = .ok (.aload_n 0, 1) := by decide +kernel
theorem dX3_goRound_49 : decode cX3_goRound 49 = .ok (.aload_n 0, 1) := by decide +kernel
theorem dX3_goRound_50 : decode cX3_goRound 50 = .ok (.getfield 69, 3) := by decide +kernel
theorem dX3_goRound_53 : decode cX3_goRound 53 = .ok (.iload_n 1, 1) := by decide +kernel
theorem dX3_goRound_54 : decode cX3_goRound 54 = .ok (.invokestatic 78, 3) := by decide +kernel
theorem dX3_goRound_57 : decode cX3_goRound 57 = .ok (.putfield 69, 3) := by decide +kernel
theorem dX3_goRound_60 : decode cX3_goRound 60 = .ok (.aload_n 0, 1) := by decide +kernel
theorem dX3_goRound_61 : decode cX3_goRound 61 = .ok (.dup, 1) := by decide +kernel
theorem dX3_goRound_62 : decode cX3_goRound 62 = .ok (.getfield 72, 3) := by decide +kernel
theorem dX3_goRound_65 : decode cX3_goRound 65 = .ok (.iload_n 1, 1) := by decide +kernel
theorem dX3_goRound_66 : decode cX3_goRound 66 = .ok (.iand, 1) := by decide +kernel
theorem dX3_goRound_67 : decode cX3_goRound 67 = .ok (.putfield 72, 3) := by decide +kernel
theorem dX3_goRound_70 : decode cX3_goRound 70 = .ok (.aload_n 0, 1) := by decide +kernel
theorem dX3_goRound_71 : decode cX3_goRound 71 = .ok (.dup, 1) := by decide +kernel
theorem dX3_goRound_72 : decode cX3_goRound 72 = .ok (.getfield 75, 3) := by decide +kernel
theorem dX3_goRound_75 : decode cX3_goRound 75 = .ok (.iload_n 1, 1) := by decide +kernel
theorem dX3_goRound_76 : decode cX3_goRound 76 = .ok (.ior, 1) := by decide +kernel
theorem dX3_goRound_77 : decode cX3_goRound 77 = .ok (.putfield 75, 3) := by decide +kernel
theorem dX3_goRound_80 : decode cX3_goRound 80 = .ok (.iinc 2 1, 3) := by decide +kernel
theorem dX3_goRound_83 : decode cX3_goRound 83 = .ok (.goto (-52), 3) := by decide +kernel
theorem dX3_goRound_86 : decode cX3_goRound 86 = .ok (.return_, 1) := by decide +kernel
set_option maxHeartbeats 4000000 in
set_option maxRecDepth 20000 in
theorem b_ob_goRound_b31 {X : Cx} {d : Nat} (hX : Ok M_ob_goRound (d + 3) X) {r : Mem} (hr : RetV M_ob_goRound X r) : ∀ (n : Nat) (x1 : Int32) (x2 : Int32) (μ : Mem) (dy : Nat → Nat), f_ob_goRound_b31 n x1 x2 μ = some r → AW X 31 [(0, .ref (gA (xG X) 91)), (1, .int x1), (2, .int x2)] [] μ dy := by
  intro n
  induction n with
  | zero => intro x1 x2 μ dy hf; exact nomatch hf
  | succ n ih =>
    intro x1 x2 μ dy hf
    rw [f_ob_goRound_b31] at hf
    refine r_iload_n hX dX3_goRound_31 2 rfl ?_
    refine r_aload_n hX dX3_goRound_32 0 rfl ?_
    refine r_get hX fl_X3_60 (w_91 _ _ _) rfl dX3_goRound_33 ?_
    refine r_icmp_ge hX 86 dX3_goRound_36 rfl (fun hc7 => ?_) (fun hc7 => ?_)
    · rw [if_pos hc7] at hf
      exact fin_V hf hr _ _ _ dX3_goRound_86
    · rw [if_neg hc7] at hf
      refine r_aload_n hX dX3_goRound_39 0 rfl ?_
      refine r_get hX fl_X3_15 (w_91 _ _ _) rfl dX3_goRound_40 ?_
      refine r_iload_n hX dX3_goRound_43 1 rfl ?_
      obtain ⟨v10, μ8, h9, hf⟩ := bd2_eq hf
      refine r_callVI (Ok.le hX (by omega)) (c_he_after (d := d) (by decide) h9) cv_X3_51 (w_80 _ _ _) rfl rfl (st := []) rfl rfl rfl dX3_goRound_44 (fun dy => ?_)
      refine r_istore_n hX dX3_goRound_47 rfl (ls' := [(1, .int v10), (0, .ref (gA (xG X) 91)), (2, .int x2)]) rfl ?_
      refine r_aload_n hX dX3_goRound_48 1 rfl ?_
      refine r_aload_n hX dX3_goRound_49 1 rfl ?_
      refine r_get hX fl_X3_69 (w_91 _ _ _) rfl dX3_goRound_50 ?_
      refine r_iload_n hX dX3_goRound_53 0 rfl ?_
      refine r_min (d := d + 2) (Ok.le hX (by omega)) cs_X3_78 rfl dX3_goRound_54 ?_
      obtain ⟨μ11, e12, hf⟩ := bnd_eq hf
      refine r_put hX fl_X3_69 ft_X3_7 (w_91 _ _ _) rfl rfl rfl (s_91_7 _ _ _ _) e12 rfl dX3_goRound_57 ?_
      refine r_aload_n hX dX3_goRound_60 1 rfl ?_
      refine r_dup hX dX3_goRound_61 rfl ?_
      refine r_get hX fl_X3_72 (w_91 _ _ _) rfl dX3_goRound_62 ?_
      refine r_iload_n hX dX3_goRound_65 0 rfl ?_
      refine r_iand hX dX3_goRound_66 ?_
      obtain ⟨μ13, e14, hf⟩ := bnd_eq hf
      refine r_put hX fl_X3_72 ft_X3_8 (w_91 _ _ _) rfl rfl rfl (s_91_8 _ _ _ _) e14 rfl dX3_goRound_67 ?_
      refine r_aload_n hX dX3_goRound_70 1 rfl ?_
      refine r_dup hX dX3_goRound_71 rfl ?_
      refine r_get hX fl_X3_75 (w_91 _ _ _) rfl dX3_goRound_72 ?_
      refine r_iload_n hX dX3_goRound_75 0 rfl ?_
      refine r_ior hX dX3_goRound_76 ?_
      obtain ⟨μ15, e16, hf⟩ := bnd_eq hf
      refine r_put hX fl_X3_75 ft_X3_9 (w_91 _ _ _) rfl rfl rfl (s_91_9 _ _ _ _) e16 rfl dX3_goRound_77 ?_
      refine r_iinc hX (x2 + (1 : Int32)) dX3_goRound_80 2 rfl rfl rfl (ls' := [(2, .int (x2 + (1 : Int32))), (1, .int v10), (0, .ref (gA (xG X) 91))]) rfl ?_
      refine r_goto hX 31 dX3_goRound_83 rfl ?_
      refine r_weak [2, 1, 0] rfl ?_
      exact ih _ _ _ _ hf
set_option maxHeartbeats 4000000 in
set_option maxRecDepth 20000 in
theorem c_ob_goRound {G : Gx} {d : Nat}  {μ : Mem} {r : Mem} (hf : f_ob_goRound  μ = some r) : Con G M_ob_goRound (d + 3) [.ref (gA G 91)] μ (none, r) := by
  refine Con.ofV ⟨rfl, rfl, Nat.le_of_ble_eq_true rfl⟩ rfl (fun X hG hX hr dy => ?_)
  subst hG
  show AW X 0 [(0, .ref (gA (xG X) 91))] [] μ dy
  unfold f_ob_goRound at hf
  refine r_aload_n hX dX3_goRound_0 0 rfl ?_
  refine r_aload_n hX dX3_goRound_1 0 rfl ?_
  refine r_get hX fl_X3_63 (w_91 _ _ _) rfl dX3_goRound_2 ?_
  obtain ⟨μ1, e2, hf⟩ := bnd_eq hf
  refine r_put hX fl_X3_69 ft_X3_7 (w_91 _ _ _) rfl rfl rfl (s_91_7 _ _ _ _) e2 rfl dX3_goRound_5 ?_
  refine r_aload_n hX dX3_goRound_8 0 rfl ?_
  refine r_aload_n hX dX3_goRound_9 0 rfl ?_
  refine r_get hX fl_X3_63 (w_91 _ _ _) rfl dX3_goRound_10 ?_
  obtain ⟨μ3, e4, hf⟩ := bnd_eq hf
  refine r_put hX fl_X3_72 ft_X3_8 (w_91 _ _ _) rfl rfl rfl (s_91_8 _ _ _ _) e4 rfl dX3_goRound_13 ?_
  refine r_aload_n hX dX3_goRound_16 0 rfl ?_
  refine r_aload_n hX dX3_goRound_17 0 rfl ?_
  refine r_get hX fl_X3_63 (w_91 _ _ _) rfl dX3_goRound_18 ?_
  obtain ⟨μ5, e6, hf⟩ := bnd_eq hf
  refine r_put hX fl_X3_75 ft_X3_9 (w_91 _ _ _) rfl rfl rfl (s_91_9 _ _ _ _) e6 rfl dX3_goRound_21 ?_
  refine r_aload_n hX dX3_goRound_24 0 rfl ?_
  refine r_get hX fl_X3_63 (w_91 _ _ _) rfl dX3_goRound_25 ?_
  refine r_istore_n hX dX3_goRound_28 rfl (ls' := [(1, .int (μ5.1 v_or_entry 0)), (0, .ref (gA (xG X) 91))]) rfl ?_
  refine r_iconst hX (1 : Int32) dX3_goRound_29 rfl ?_
  refine r_istore_n hX dX3_goRound_30 rfl (ls' := [(2, .int (1 : Int32)), (1, .int (μ5.1 v_or_entry 0)), (0, .ref (gA (xG X) 91))]) rfl ?_
  refine r_weak [2, 1, 0] rfl ?_
  exact b_ob_goRound_b31 hX hr FU _ _ _ _ hf
theorem dX3_follow_0 : decode cX3_follow 0 = .ok (.aload_n 0, 1) := by decide +kernel
theorem dX3_follow_1 : decode cX3_follow 1 = .ok (.getfield 19, 3) := by decide +kernel
theorem dX3_follow_4 : decode cX3_follow 4 = .ok (.aload_n 0, 1) := by decide +kernel
theorem dX3_follow_5 : decode cX3_follow 5 = .ok (.getfield 9, 3) := by decide +kernel
theorem dX3_follow_8 : decode cX3_follow 8 = .ok (.getfield 27, 3) := by decide +kernel
theorem dX3_follow_11 : decode cX3_follow 11 = .ok (.invokevirtual 33, 3) := by decide +kernel
theorem dX3_follow_14 : decode cX3_follow 14 = .ok (.iload_n 1, 1) := by decide +kernel
theorem dX3_follow_15 : decode cX3_follow 15 = .ok (.istore_n 2, 1) := by decide +kernel
theorem dX3_follow_16 : decode cX3_follow 16 = .ok (.iconst 0, 1) := by decide +kernel
theorem dX3_follow_17 : decode cX3_follow 17 = .ok (.istore_n 3, 1) := by decide +kernel
theorem dX3_follow_18 : decode cX3_follow 18 = .ok (.iload_n 3, 1) := by decide +kernel
theorem dX3_follow_19 : decode cX3_follow 19 = .ok (.aload_n 0, 1) := by decide +kernel
theorem dX3_follow_20 : decode cX3_follow 20 = .ok (.getfield 9, 3) := by decide +kernel
theorem dX3_follow_23 : decode cX3_follow 23 = .ok (.invokevirtual 39, 3) := by decide +kernel
theorem dX3_follow_26 : decode cX3_follow 26 = .ok (.if_icmp .gt 41, 3) := by decide +kernel
theorem dX3_follow_29 : decode cX3_follow 29 = .ok (.aload_n 0, 1) := by decide +kernel
theorem dX3_follow_30 : decode cX3_follow 30 = .ok (.getfield 19, 3) := by decide +kernel
theorem dX3_follow_33 : decode cX3_follow 33 = .ok (.iconst 0, 1) := by decide +kernel
theorem dX3_follow_34 : decode cX3_follow 34 = .ok (.iload_n 2, 1) := by decide +kernel
theorem dX3_follow_35 : decode cX3_follow 35 = .ok (.invokevirtual 43, 3) := by decide +kernel
theorem dX3_follow_38 : decode cX3_follow 38 = .ok (.iconst (-1), 1) := by decide +kernel
theorem dX3_follow_39 : decode cX3_follow 39 = .ok (.if_icmp .ne 28, 3) := by decide +kernel
theorem dX3_follow_42 : decode cX3_follow 42 = .ok (.aload_n 0, 1) := by decide +kernel
theorem dX3_follow_43 : decode cX3_follow 43 = .ok (.getfield 19, 3) := by decide +kernel
theorem dX3_follow_46 : decode cX3_follow 46 = .ok (.iconst 0, 1) := by decide +kernel
theorem dX3_follow_47 : decode cX3_follow 47 = .ok (.iload_n 2, 1) := by decide +kernel
theorem dX3_follow_48 : decode cX3_follow 48 = .ok (.iload_n 3, 1) := by decide +kernel
theorem dX3_follow_49 : decode cX3_follow 49 = .ok (.iinc 3 1, 3) := by decide +kernel
theorem dX3_follow_52 : decode cX3_follow 52 = .ok (.invokevirtual 47, 3) := by decide +kernel
theorem dX3_follow_55 : decode cX3_follow 55 = .ok (.aload_n 0, 1) := by decide +kernel
theorem dX3_follow_56 : decode cX3_follow 56 = .ok (.getfield 15, 3) := by decide +kernel
theorem dX3_follow_59 : decode cX3_follow 59 = .ok (.iload_n 2, 1) := by decide +kernel
theorem dX3_follow_60 : decode cX3_follow 60 = .ok (.invokevirtual 51, 3) := by decide +kernel
theorem dX3_follow_63 : decode cX3_follow 63 = .ok (.istore_n 2, 1) := by decide +kernel
theorem dX3_follow_64 : decode cX3_follow 64 = .ok (.goto (-46), 3) := by decide +kernel
theorem dX3_follow_67 : decode cX3_follow 67 = .ok (.aload_n 0, 1) := by decide +kernel
theorem dX3_follow_68 : decode cX3_follow 68 = .ok (.aload_n 0, 1) := by decide +kernel
theorem dX3_follow_69 : decode cX3_follow 69 = .ok (.getfield 19, 3) := by decide +kernel
theorem dX3_follow_72 : decode cX3_follow 72 = .ok (.iconst 0, 1) := by decide +kernel
theorem dX3_follow_73 : decode cX3_follow 73 = .ok (.iload_n 2, 1) := by decide +kernel
theorem dX3_follow_74 : decode cX3_follow 74 = .ok (.invokevirtual 43, 3) := by decide +kernel
theorem dX3_follow_77 : decode cX3_follow 77 = .ok (.putfield 57, 3) := by decide +kernel
theorem dX3_follow_80 : decode cX3_follow 80 = .ok (.aload_n 0, 1) := by decide +kernel
theorem dX3_follow_81 : decode cX3_follow 81 = .ok (.iload_n 3, 1) := by decide +kernel
theorem dX3_follow_82 : decode cX3_follow 82 = .ok (.aload_n 0, 1) := by decide +kernel
theorem dX3_follow_83 : decode cX3_follow 83 = .ok (.getfield 57, 3) := by decide +kernel
theorem dX3_follow_86 : decode cX3_follow 86 = .ok (.isub, 1) := by decide +kernel
theorem dX3_follow_87 : decode cX3_follow 87 = .ok (.putfield 60, 3) := by decide +kernel
theorem dX3_follow_90 : decode cX3_follow 90 = .ok (.aload_n 0, 1) := by decide +kernel
theorem dX3_follow_91 : decode cX3_follow 91 = .ok (.iload_n 2, 1) := by decide +kernel
theorem dX3_follow_92 : decode cX3_follow 92 = .ok (.putfield 63, 3) := by decide +kernel
theorem dX3_follow_95 : decode cX3_follow 95 = .ok (.aload_n 0, 1) := by decide +kernel
theorem dX3_follow_96 : decode cX3_follow 96 = .ok (.invokevirtual 66, 3) := by decide +kernel
theorem dX3_follow_99 : decode cX3_follow 99 = .ok (.return_, 1) := by decide +kernel
set_option maxHeartbeats 4000000 in
set_option maxRecDepth 20000 in
theorem b_ob_follow_b67 {X : Cx} {d : Nat} (hX : Ok M_ob_follow (d + 4) X) {r : Mem} (hr : RetV M_ob_follow X r) (x2 : Int32) (x3 : Int32) (μ : Mem) (dy : Nat → Nat) (hf : f_ob_follow_b67 x2 x3 μ = some r) : AW X 67 [(0, .ref (gA (xG X) 91)), (2, .int x2), (3, .int x3)] [] μ dy := by
  unfold f_ob_follow_b67 at hf
  refine r_aload_n hX dX3_follow_67 0 rfl ?_
  refine r_aload_n hX dX3_follow_68 0 rfl ?_
  refine r_get hX fl_X3_19 (w_91 _ _ _) rfl dX3_follow_69 ?_
  refine r_iconst hX (0 : Int32) dX3_follow_72 rfl ?_
  refine r_iload_n hX dX3_follow_73 1 rfl ?_
  obtain ⟨v9, μ7, h8, hf⟩ := bd2_eq hf
  refine r_callVI (Ok.le hX (by omega)) (c_me_recall (d := d)  h8) cv_X3_43 (w_90 _ _ _) rfl rfl (st := [.ref (gA (xG X) 91)]) rfl rfl rfl dX3_follow_74 (fun dy => ?_)
  obtain ⟨μ10, e11, hf⟩ := bnd_eq hf
  refine r_put hX fl_X3_57 ft_X3_4 (w_91 _ _ _) rfl rfl rfl (s_91_4 _ _ _ _) e11 rfl dX3_follow_77 ?_
  refine r_aload_n hX dX3_follow_80 0 rfl ?_
  refine r_iload_n hX dX3_follow_81 2 rfl ?_
  refine r_aload_n hX dX3_follow_82 0 rfl ?_
  refine r_get hX fl_X3_57 (w_91 _ _ _) rfl dX3_follow_83 ?_
  refine r_isub hX dX3_follow_86 ?_
  obtain ⟨μ12, e13, hf⟩ := bnd_eq hf
  refine r_put hX fl_X3_60 ft_X3_5 (w_91 _ _ _) rfl rfl rfl (s_91_5 _ _ _ _) e13 rfl dX3_follow_87 ?_
  refine r_aload_n hX dX3_follow_90 0 rfl ?_
  refine r_iload_n hX dX3_follow_91 1 rfl ?_
  obtain ⟨μ14, e15, hf⟩ := bnd_eq hf
  refine r_put hX fl_X3_63 ft_X3_6 (w_91 _ _ _) rfl rfl rfl (s_91_6 _ _ _ _) e15 rfl dX3_follow_92 ?_
  refine r_aload_n hX dX3_follow_95 0 rfl ?_
  obtain ⟨μ16, h17, hf⟩ := bd1_eq hf
  refine r_callVV (Ok.le hX (by omega)) (c_ob_goRound (d := d)  h17) cv_X3_66 (w_91 _ _ _) rfl rfl (st := []) rfl rfl rfl dX3_follow_96 (fun dy => ?_)
  exact fin_V hf hr _ _ _ dX3_follow_99
set_option maxHeartbeats 4000000 in
set_option maxRecDepth 20000 in
theorem b_ob_follow_b18 {X : Cx} {d : Nat} (hX : Ok M_ob_follow (d + 4) X) {r : Mem} (hr : RetV M_ob_follow X r) : ∀ (n : Nat) (x2 : Int32) (x3 : Int32) (μ : Mem) (dy : Nat → Nat), f_ob_follow_b18 n x2 x3 μ = some r → AW X 18 [(0, .ref (gA (xG X) 91)), (2, .int x2), (3, .int x3)] [] μ dy := by
  intro n
  induction n with
  | zero => intro x2 x3 μ dy hf; exact nomatch hf
  | succ n ih =>
    intro x2 x3 μ dy hf
    rw [f_ob_follow_b18] at hf
    refine r_iload_n hX dX3_follow_18 2 rfl ?_
    refine r_aload_n hX dX3_follow_19 0 rfl ?_
    refine r_get hX fl_X3_9 (w_91 _ _ _) rfl dX3_follow_20 ?_
    obtain ⟨v5, μ3, h4, hf⟩ := bd2_eq hf
    refine r_callVI (Ok.le hX (by omega)) (c_st_everybody (d := d)  h4) cv_X3_39 (w_4 _ _ _) rfl rfl (st := [.int x3]) rfl rfl rfl dX3_follow_23 (fun dy => ?_)
    refine r_icmp_gt hX 67 dX3_follow_26 rfl (fun hc6 => ?_) (fun hc6 => ?_)
    · rw [if_pos hc6] at hf
      refine r_weak [0, 1, 2] rfl ?_
      exact b_ob_follow_b67 hX hr _ _ _ _ hf
    · rw [if_neg hc6] at hf
      refine r_aload_n hX dX3_follow_29 0 rfl ?_
      refine r_get hX fl_X3_19 (w_91 _ _ _) rfl dX3_follow_30 ?_
      refine r_iconst hX (0 : Int32) dX3_follow_33 rfl ?_
      refine r_iload_n hX dX3_follow_34 1 rfl ?_
      obtain ⟨v20, μ18, h19, hf⟩ := bd2_eq hf
      refine r_callVI (Ok.le hX (by omega)) (c_me_recall (d := d)  h19) cv_X3_43 (w_90 _ _ _) rfl rfl (st := []) rfl rfl rfl dX3_follow_35 (fun dy => ?_)
      refine r_iconst hX (-1 : Int32) dX3_follow_38 rfl ?_
      refine r_icmp_ne hX 67 dX3_follow_39 rfl (fun hc21 => ?_) (fun hc21 => ?_)
      · rw [if_neg hc21] at hf
        refine r_weak [0, 1, 2] rfl ?_
        exact b_ob_follow_b67 hX hr _ _ _ _ hf
      · rw [if_pos hc21] at hf
        refine r_aload_n hX dX3_follow_42 0 rfl ?_
        refine r_get hX fl_X3_19 (w_91 _ _ _) rfl dX3_follow_43 ?_
        refine r_iconst hX (0 : Int32) dX3_follow_46 rfl ?_
        refine r_iload_n hX dX3_follow_47 1 rfl ?_
        refine r_iload_n hX dX3_follow_48 2 rfl ?_
        refine r_iinc hX (x3 + (1 : Int32)) dX3_follow_49 2 rfl rfl rfl (ls' := [(3, .int (x3 + (1 : Int32))), (0, .ref (gA (xG X) 91)), (2, .int x2)]) rfl ?_
        obtain ⟨μ22, h23, hf⟩ := bd1_eq hf
        refine r_callVV (Ok.le hX (by omega)) (c_me_note (d := d)  h23) cv_X3_47 (w_90 _ _ _) rfl rfl (st := []) rfl rfl rfl dX3_follow_52 (fun dy => ?_)
        refine r_aload_n hX dX3_follow_55 1 rfl ?_
        refine r_get hX fl_X3_15 (w_91 _ _ _) rfl dX3_follow_56 ?_
        refine r_iload_n hX dX3_follow_59 2 rfl ?_
        obtain ⟨v26, μ24, h25, hf⟩ := bd2_eq hf
        refine r_callVI (Ok.le hX (by omega)) (c_he_after (d := d) (by decide) h25) cv_X3_51 (w_80 _ _ _) rfl rfl (st := []) rfl rfl rfl dX3_follow_60 (fun dy => ?_)
        refine r_istore_n hX dX3_follow_63 rfl (ls' := [(2, .int v26), (3, .int (x3 + (1 : Int32))), (0, .ref (gA (xG X) 91))]) rfl ?_
        refine r_goto hX 18 dX3_follow_64 rfl ?_
        refine r_weak [2, 0, 1] rfl ?_
        exact ih _ _ _ _ hf
set_option maxHeartbeats 4000000 in
set_option maxRecDepth 20000 in
theorem c_ob_follow {G : Gx} {d : Nat} {x1 : Int32} {μ : Mem} {r : Mem} (hf : f_ob_follow x1 μ = some r) : Con G M_ob_follow (d + 4) [.ref (gA G 91), .int x1] μ (none, r) := by
  refine Con.ofV ⟨rfl, rfl, Nat.le_of_ble_eq_true rfl⟩ rfl (fun X hG hX hr dy => ?_)
  subst hG
  show AW X 0 [(0, .ref (gA (xG X) 91)), (1, .int x1)] [] μ dy
  unfold f_ob_follow at hf
  refine r_aload_n hX dX3_follow_0 0 rfl ?_
  refine r_get hX fl_X3_19 (w_91 _ _ _) rfl dX3_follow_1 ?_
  refine r_aload_n hX dX3_follow_4 0 rfl ?_
  refine r_get hX fl_X3_9 (w_91 _ _ _) rfl dX3_follow_5 ?_
  refine r_getN hX fl_X3_27 (w_4 _ _ _) rfl dX3_follow_8 ?_
  obtain ⟨μ1, h2, hf⟩ := bd1_eq hf
  refine r_callVV (Ok.le hX (by omega)) (c_me_begin (d := d)  h2) cv_X3_33 (w_90 _ _ _) rfl rfl (st := []) rfl rfl rfl dX3_follow_11 (fun dy => ?_)
  refine r_iload_n hX dX3_follow_14 1 rfl ?_
  refine r_istore_n hX dX3_follow_15 rfl (ls' := [(2, .int x1), (0, .ref (gA (xG X) 91)), (1, .int x1)]) rfl ?_
  refine r_iconst hX (0 : Int32) dX3_follow_16 rfl ?_
  refine r_istore_n hX dX3_follow_17 rfl (ls' := [(3, .int (0 : Int32)), (2, .int x1), (0, .ref (gA (xG X) 91)), (1, .int x1)]) rfl ?_
  refine r_weak [2, 1, 0] rfl ?_
  exact b_ob_follow_b18 hX hr FU _ _ _ _ hf
theorem dX3_isFirmAs_0 : decode cX3_isFirmAs 0 = .ok (.iload_n 1, 1) := by decide +kernel
theorem dX3_isFirmAs_1 : decode cX3_isFirmAs 1 = .ok (.iload_n 2, 1) := by decide +kernel
theorem dX3_isFirmAs_2 : decode cX3_isFirmAs 2 = .ok (.ixor, 1) := by decide +kernel
theorem dX3_isFirmAs_3 : decode cX3_isFirmAs 3 = .ok (.aload_n 0, 1) := by decide +kernel
theorem dX3_isFirmAs_4 : decode cX3_isFirmAs 4 = .ok (.getfield 9, 3) := by decide +kernel
theorem dX3_isFirmAs_7 : decode cX3_isFirmAs 7 = .ok (.getfield 83, 3) := by decide +kernel
theorem dX3_isFirmAs_10 : decode cX3_isFirmAs 10 = .ok (.iand, 1) := by decide +kernel
theorem dX3_isFirmAs_11 : decode cX3_isFirmAs 11 = .ok (.ifCond .ne 7, 3) := by decide +kernel
theorem dX3_isFirmAs_14 : decode cX3_isFirmAs 14 = .ok (.iconst 1, 1) := by decide +kernel
theorem dX3_isFirmAs_15 : decode cX3_isFirmAs 15 = .ok (.goto 4, 3) := by decide +kernel
theorem dX3_isFirmAs_18 : decode cX3_isFirmAs 18 = .ok (.iconst 0, 1) := by decide +kernel
theorem dX3_isFirmAs_19 : decode cX3_isFirmAs 19 = .ok (.ireturn, 1) := by decide +kernel
set_option maxHeartbeats 4000000 in
set_option maxRecDepth 20000 in
theorem c_ob_isFirmAs {G : Gx} {d : Nat} {x1 : Int32} {x2 : Int32} {μ : Mem} {r : Int32 × Mem} (hf : f_ob_isFirmAs x1 x2 μ = some r) : Con G M_ob_isFirmAs (d + 0) [.ref (gA G 91), .int x1, .int x2] μ (some (.int r.1), r.2) := by
  refine Con.ofZ ⟨rfl, rfl, Nat.le_of_ble_eq_true rfl⟩ rfl (fun X hG hX hr dy => ?_)
  subst hG
  show AW X 0 [(0, .ref (gA (xG X) 91)), (1, .int x1), (2, .int x2)] [] μ dy
  unfold f_ob_isFirmAs at hf
  refine r_iload_n hX dX3_isFirmAs_0 1 rfl ?_
  refine r_iload_n hX dX3_isFirmAs_1 2 rfl ?_
  refine r_ixor hX dX3_isFirmAs_2 ?_
  refine r_aload_n hX dX3_isFirmAs_3 0 rfl ?_
  refine r_get hX fl_X3_9 (w_91 _ _ _) rfl dX3_isFirmAs_4 ?_
  refine r_getN hX fl_X3_83 (w_4 _ _ _) rfl dX3_isFirmAs_7 ?_
  refine r_iand hX dX3_isFirmAs_10 ?_
  obtain ⟨v1, e2, hf⟩ := bnd_eq hf
  have J3 : AW X 19 [(0, .ref (gA (xG X) 91)), (1, .int x1), (2, .int x2)] [.int v1] μ dy := by
    obtain ⟨b4, hf⟩ := chk_eq hf
    exact fin_Z hf hr _ _ _ (zb_nar b4) dX3_isFirmAs_19
  refine r_if_ne hX 18 dX3_isFirmAs_11 rfl (fun hc5 => ?_) (fun hc5 => ?_)
  · refine r_iconst hX (0 : Int32) dX3_isFirmAs_18 rfl ?_
    exact r_topI (e2.trans (by rw [if_neg hc5])) J3
  · refine r_iconst hX (1 : Int32) dX3_isFirmAs_14 rfl ?_
    refine r_goto hX 19 dX3_isFirmAs_15 rfl ?_
    exact r_topI (e2.trans (by rw [if_pos hc5])) J3
theorem dX3_answer_0 : decode cX3_answer 0 = .ok (.aload_n 0, 1) := by decide +kernel
theorem dX3_answer_1 : decode cX3_answer 1 = .ok (.getfield 23, 3) := by decide +kernel
theorem dX3_answer_4 : decode cX3_answer 4 = .ok (.invokevirtual 86, 3) := by decide +kernel
theorem dX3_answer_7 : decode cX3_answer 7 = .ok (.iload_n 1, 1) := by decide +kernel
theorem dX3_answer_8 : decode cX3_answer 8 = .ok (.ifCond .le 12, 3) := by decide +kernel
theorem dX3_answer_11 : decode cX3_answer 11 = .ok (.aload_n 0, 1) := by decide +kernel
theorem dX3_answer_12 : decode cX3_answer 12 = .ok (.getfield 23, 3) := by decide +kernel
theorem dX3_answer_15 : decode cX3_answer 15 = .ok (.iload_n 2, 1) := by decide +kernel
theorem dX3_answer_16 : decode cX3_answer 16 = .ok (.i2l, 1) := by decide +kernel
theorem dX3_answer_17 : decode cX3_answer 17 = .ok (.invokevirtual 91, 3) := by decide +kernel
theorem dX3_answer_20 : decode cX3_answer 20 = .ok (.iload_n 1, 1) := by decide +kernel
theorem dX3_answer_21 : decode cX3_answer 21 = .ok (.ireturn, 1) := by decide +kernel
set_option maxHeartbeats 4000000 in
set_option maxRecDepth 20000 in
theorem c_ob_answer {G : Gx} {d : Nat} {x1 : Int32} {x2 : Int32} {μ : Mem} {r : Int32 × Mem} (hf : f_ob_answer x1 x2 μ = some r) : Con G M_ob_answer (d + 1) [.ref (gA G 91), .int x1, .int x2] μ (some (.int r.1), r.2) := by
  refine Con.ofI ⟨rfl, rfl, Nat.le_of_ble_eq_true rfl⟩ rfl rfl (fun X hG hX hr dy => ?_)
  subst hG
  show AW X 0 [(0, .ref (gA (xG X) 91)), (1, .int x1), (2, .int x2)] [] μ dy
  unfold f_ob_answer at hf
  refine r_aload_n hX dX3_answer_0 0 rfl ?_
  refine r_get hX fl_X3_23 (w_91 _ _ _) rfl dX3_answer_1 ?_
  obtain ⟨μ1, h2, hf⟩ := bd1_eq hf
  refine r_callVV (Ok.le hX (by omega)) (c_rw_clear (d := d)  h2) cv_X3_86 (w_2 _ _ _) rfl rfl (st := []) rfl rfl rfl dX3_answer_4 (fun dy => ?_)
  refine r_iload_n hX dX3_answer_7 1 rfl ?_
  refine r_if_le hX 20 dX3_answer_8 rfl (fun hc3 => ?_) (fun hc3 => ?_)
  · rw [if_pos hc3] at hf
    refine r_iload_n hX dX3_answer_20 1 rfl ?_
    exact fin_I hf hr _ _ _ dX3_answer_21
  · rw [if_neg hc3] at hf
    refine r_aload_n hX dX3_answer_11 0 rfl ?_
    refine r_get hX fl_X3_23 (w_91 _ _ _) rfl dX3_answer_12 ?_
    refine r_iload_n hX dX3_answer_15 2 rfl ?_
    refine r_i2l hX dX3_answer_16 ?_
    obtain ⟨μ4, h5, hf⟩ := bd1_eq hf
    refine r_callVV (Ok.le hX (by omega)) (c_rw_add (d := d)  h5) cv_X3_91 (w_2 _ _ _) rfl rfl (st := []) rfl rfl rfl dX3_answer_17 (fun dy => ?_)
    refine r_iload_n hX dX3_answer_20 1 rfl ?_
    exact fin_I hf hr _ _ _ dX3_answer_21
theorem dX3_leadHere_0 : decode cX3_leadHere 0 = .ok (.aload_n 0, 1) := by decide +kernel
theorem dX3_leadHere_1 : decode cX3_leadHere 1 = .ok (.getfield 9, 3) := by decide +kernel
theorem dX3_leadHere_4 : decode cX3_leadHere 4 = .ok (.invokevirtual 95, 3) := by decide +kernel
theorem dX3_leadHere_7 : decode cX3_leadHere 7 = .ok (.istore_n 2, 1) := by decide +kernel
theorem dX3_leadHere_8 : decode cX3_leadHere 8 = .ok (.iconst 0, 1) := by decide +kernel
theorem dX3_leadHere_9 : decode cX3_leadHere 9 = .ok (.istore_n 3, 1) := by decide +kernel
theorem dX3_leadHere_10 : decode cX3_leadHere 10 = .ok (.iconst 0, 1) := by decide +kernel
theorem dX3_leadHere_11 : decode cX3_leadHere 11 = .ok (.istore 4, 2) := by decide +kernel
theorem dX3_leadHere_13 : decode cX3_leadHere 13 = .ok (.aload_n 0, 1) := by decide +kernel
theorem dX3_leadHere_14 : decode cX3_leadHere 14 = .ok (.getfield 9, 3) := by decide +kernel
theorem dX3_leadHere_17 : decode cX3_leadHere 17 = .ok (.invokevirtual 39, 3) := by decide +kernel
theorem dX3_leadHere_20 : decode cX3_leadHere 20 = .ok (.istore 5, 2) := by decide +kernel
theorem dX3_leadHere_22 : decode cX3_leadHere 22 = .ok (.iload 5, 2) := by decide +kernel
theorem dX3_leadHere_24 : decode cX3_leadHere 24 = .ok (.ifCond .lt 40, 3) := by decide +kernel
theorem dX3_leadHere_27 : decode cX3_leadHere 27 = .ok (.aload_n 0, 1) := by decide +kernel
theorem dX3_leadHere_28 : decode cX3_leadHere 28 = .ok (.iload 5, 2) := by decide +kernel
theorem dX3_leadHere_30 : decode cX3_leadHere 30 = .ok (.iload_n 2, 1) := by decide +kernel
theorem dX3_leadHere_31 : decode cX3_leadHere 31 = .ok (.invokevirtual 98, 3) := by decide +kernel
theorem dX3_leadHere_34 : decode cX3_leadHere 34 = .ok (.ifCond .eq 24, 3) := by decide +kernel
theorem dX3_leadHere_37 : decode cX3_leadHere 37 = .ok (.aload_n 0, 1) := by decide +kernel
theorem dX3_leadHere_38 : decode cX3_leadHere 38 = .ok (.getfield 15, 3) := by decide +kernel
theorem dX3_leadHere_41 : decode cX3_leadHere 41 = .ok (.iload 5, 2) := by decide +kernel
theorem dX3_leadHere_43 : decode cX3_leadHere 43 = .ok (.iload_n 1, 1) := by decide +kernel
theorem dX3_leadHere_44 : decode cX3_leadHere 44 = .ok (.invokevirtual 102, 3) := by decide +kernel
theorem dX3_leadHere_47 : decode cX3_leadHere 47 = .ok (.iload_n 2, 1) := by decide +kernel
theorem dX3_leadHere_48 : decode cX3_leadHere 48 = .ok (.if_icmp .ne 10, 3) := by decide +kernel
theorem dX3_leadHere_51 : decode cX3_leadHere 51 = .ok (.iinc 3 1, 3) := by decide +kernel
theorem dX3_leadHere_54 : decode cX3_leadHere 54 = .ok (.iload 5, 2) := by decide +kernel
theorem dX3_leadHere_56 : decode cX3_leadHere 56 = .ok (.istore 4, 2) := by decide +kernel
theorem dX3_leadHere_58 : decode cX3_leadHere 58 = .ok (.iinc 5 (-1), 3) := by decide +kernel
theorem dX3_leadHere_61 : decode cX3_leadHere 61 = .ok (.goto (-39), 3) := by decide +kernel
theorem dX3_leadHere_64 : decode cX3_leadHere 64 = .ok (.aload_n 0, 1) := by decide +kernel
theorem dX3_leadHere_65 : decode cX3_leadHere 65 = .ok (.iload_n 3, 1) := by decide +kernel
theorem dX3_leadHere_66 : decode cX3_leadHere 66 = .ok (.iload 4, 2) := by decide +kernel
theorem dX3_leadHere_68 : decode cX3_leadHere 68 = .ok (.invokevirtual 105, 3) := by decide +kernel
theorem dX3_leadHere_71 : decode cX3_leadHere 71 = .ok (.ireturn, 1) := by decide +kernel
set_option maxHeartbeats 4000000 in
set_option maxRecDepth 20000 in
theorem b_ob_leadHere_b22 {X : Cx} {d : Nat} (hX : Ok M_ob_leadHere (d + 4) X) {r : Int32 × Mem} (hr : RetI M_ob_leadHere X r.1 r.2) : ∀ (n : Nat) (x1 : Int32) (x2 : Int32) (x3 : Int32) (x4 : Int32) (x5 : Int32) (μ : Mem) (dy : Nat → Nat), f_ob_leadHere_b22 n x1 x2 x3 x4 x5 μ = some r → AW X 22 [(0, .ref (gA (xG X) 91)), (1, .int x1), (2, .int x2), (3, .int x3), (4, .int x4), (5, .int x5)] [] μ dy := by
  intro n
  induction n with
  | zero => intro x1 x2 x3 x4 x5 μ dy hf; exact nomatch hf
  | succ n ih =>
    intro x1 x2 x3 x4 x5 μ dy hf
    rw [f_ob_leadHere_b22] at hf
    refine r_iload hX dX3_leadHere_22 5 rfl ?_
    refine r_if_lt hX 64 dX3_leadHere_24 rfl (fun hc7 => ?_) (fun hc7 => ?_)
    · rw [if_pos hc7] at hf
      refine r_aload_n hX dX3_leadHere_64 0 rfl ?_
      refine r_iload_n hX dX3_leadHere_65 3 rfl ?_
      refine r_iload hX dX3_leadHere_66 4 rfl ?_
      obtain ⟨v10, μ8, h9, hf⟩ := bd2_eq hf
      refine r_callVI (Ok.le hX (by omega)) (c_ob_answer (d := d)  h9) cv_X3_105 (w_91 _ _ _) rfl rfl (st := []) rfl rfl rfl dX3_leadHere_68 (fun dy => ?_)
      exact fin_I hf hr _ _ _ dX3_leadHere_71
    · rw [if_neg hc7] at hf
      refine r_aload_n hX dX3_leadHere_27 0 rfl ?_
      refine r_iload hX dX3_leadHere_28 5 rfl ?_
      refine r_iload_n hX dX3_leadHere_30 2 rfl ?_
      obtain ⟨v13, μ11, h12, hf⟩ := bd2_eq hf
      refine r_callVI (Ok.le hX (by omega)) (c_ob_isFirmAs (d := d)  h12) cv_X3_98 (w_91 _ _ _) rfl rfl (st := []) rfl rfl rfl dX3_leadHere_31 (fun dy => ?_)
      refine r_if_eq hX 58 dX3_leadHere_34 rfl (fun hc14 => ?_) (fun hc14 => ?_)
      · rw [if_pos hc14] at hf
        refine r_iinc hX (x5 + (-1 : Int32)) dX3_leadHere_58 5 rfl rfl rfl (ls' := [(5, .int (x5 + (-1 : Int32))), (0, .ref (gA (xG X) 91)), (1, .int x1), (2, .int x2), (3, .int x3), (4, .int x4)]) rfl ?_
        refine r_goto hX 22 dX3_leadHere_61 rfl ?_
        refine r_weak [1, 2, 3, 4, 5, 0] rfl ?_
        exact ih _ _ _ _ _ _ _ hf
      · rw [if_neg hc14] at hf
        refine r_aload_n hX dX3_leadHere_37 0 rfl ?_
        refine r_get hX fl_X3_15 (w_91 _ _ _) rfl dX3_leadHere_38 ?_
        refine r_iload hX dX3_leadHere_41 5 rfl ?_
        refine r_iload_n hX dX3_leadHere_43 1 rfl ?_
        obtain ⟨v17, μ15, h16, hf⟩ := bd2_eq hf
        refine r_callVI (Ok.le hX (by omega)) (c_he_later (d := d) (by decide) h16) cv_X3_102 (w_80 _ _ _) rfl rfl (st := []) rfl rfl rfl dX3_leadHere_44 (fun dy => ?_)
        refine r_iload_n hX dX3_leadHere_47 2 rfl ?_
        refine r_icmp_ne hX 58 dX3_leadHere_48 rfl (fun hc18 => ?_) (fun hc18 => ?_)
        · rw [if_neg hc18] at hf
          refine r_iinc hX (x5 + (-1 : Int32)) dX3_leadHere_58 5 rfl rfl rfl (ls' := [(5, .int (x5 + (-1 : Int32))), (0, .ref (gA (xG X) 91)), (1, .int x1), (2, .int x2), (3, .int x3), (4, .int x4)]) rfl ?_
          refine r_goto hX 22 dX3_leadHere_61 rfl ?_
          refine r_weak [1, 2, 3, 4, 5, 0] rfl ?_
          exact ih _ _ _ _ _ _ _ hf
        · rw [if_pos hc18] at hf
          refine r_iinc hX (x3 + (1 : Int32)) dX3_leadHere_51 3 rfl rfl rfl (ls' := [(3, .int (x3 + (1 : Int32))), (0, .ref (gA (xG X) 91)), (1, .int x1), (2, .int x2), (4, .int x4), (5, .int x5)]) rfl ?_
          refine r_iload hX dX3_leadHere_54 5 rfl ?_
          refine r_istore hX dX3_leadHere_56 rfl (ls' := [(4, .int x5), (3, .int (x3 + (1 : Int32))), (0, .ref (gA (xG X) 91)), (1, .int x1), (2, .int x2), (5, .int x5)]) rfl ?_
          refine r_iinc hX (x5 + (-1 : Int32)) dX3_leadHere_58 5 rfl rfl rfl (ls' := [(5, .int (x5 + (-1 : Int32))), (4, .int x5), (3, .int (x3 + (1 : Int32))), (0, .ref (gA (xG X) 91)), (1, .int x1), (2, .int x2)]) rfl ?_
          refine r_goto hX 22 dX3_leadHere_61 rfl ?_
          refine r_weak [3, 4, 5, 2, 1, 0] rfl ?_
          exact ih _ _ _ _ _ _ _ hf
set_option maxHeartbeats 4000000 in
set_option maxRecDepth 20000 in
theorem c_ob_leadHere {G : Gx} {d : Nat} {x1 : Int32} {μ : Mem} {r : Int32 × Mem} (hf : f_ob_leadHere x1 μ = some r) : Con G M_ob_leadHere (d + 4) [.ref (gA G 91), .int x1] μ (some (.int r.1), r.2) := by
  refine Con.ofI ⟨rfl, rfl, Nat.le_of_ble_eq_true rfl⟩ rfl rfl (fun X hG hX hr dy => ?_)
  subst hG
  show AW X 0 [(0, .ref (gA (xG X) 91)), (1, .int x1)] [] μ dy
  unfold f_ob_leadHere at hf
  refine r_aload_n hX dX3_leadHere_0 0 rfl ?_
  refine r_get hX fl_X3_9 (w_91 _ _ _) rfl dX3_leadHere_1 ?_
  obtain ⟨v3, μ1, h2, hf⟩ := bd2_eq hf
  refine r_callVI (Ok.le hX (by omega)) (c_st_now (d := d)  h2) cv_X3_95 (w_4 _ _ _) rfl rfl (st := []) rfl rfl rfl dX3_leadHere_4 (fun dy => ?_)
  refine r_istore_n hX dX3_leadHere_7 rfl (ls' := [(2, .int v3), (0, .ref (gA (xG X) 91)), (1, .int x1)]) rfl ?_
  refine r_iconst hX (0 : Int32) dX3_leadHere_8 rfl ?_
  refine r_istore_n hX dX3_leadHere_9 rfl (ls' := [(3, .int (0 : Int32)), (2, .int v3), (0, .ref (gA (xG X) 91)), (1, .int x1)]) rfl ?_
  refine r_iconst hX (0 : Int32) dX3_leadHere_10 rfl ?_
  refine r_istore hX dX3_leadHere_11 rfl (ls' := [(4, .int (0 : Int32)), (3, .int (0 : Int32)), (2, .int v3), (0, .ref (gA (xG X) 91)), (1, .int x1)]) rfl ?_
  refine r_aload_n hX dX3_leadHere_13 3 rfl ?_
  refine r_get hX fl_X3_9 (w_91 _ _ _) rfl dX3_leadHere_14 ?_
  obtain ⟨v6, μ4, h5, hf⟩ := bd2_eq hf
  refine r_callVI (Ok.le hX (by omega)) (c_st_everybody (d := d)  h5) cv_X3_39 (w_4 _ _ _) rfl rfl (st := []) rfl rfl rfl dX3_leadHere_17 (fun dy => ?_)
  refine r_istore hX dX3_leadHere_20 rfl (ls' := [(5, .int v6), (4, .int (0 : Int32)), (3, .int (0 : Int32)), (2, .int v3), (0, .ref (gA (xG X) 91)), (1, .int x1)]) rfl ?_
  refine r_weak [4, 5, 3, 2, 1, 0] rfl ?_
  exact b_ob_leadHere_b22 hX hr FU _ _ _ _ _ _ _ hf
theorem dJ6_bitCount_0f7a4_0 : decode cJ6_bitCount_0f7a4 0 = .ok (.iload_n 0, 1) := by decide +kernel
theorem dJ6_bitCount_0f7a4_1 : decode cJ6_bitCount_0f7a4 1 = .ok (.iload_n 0, 1) := by decide +kernel
theorem dJ6_bitCount_0f7a4_2 : decode cJ6_bitCount_0f7a4 2 = .ok (.iconst 1, 1) := by decide +kernel
theorem dJ6_bitCount_0f7a4_3 : decode cJ6_bitCount_0f7a4 3 = .ok (.iushr, 1) := by decide +kernel
theorem dJ6_bitCount_0f7a4_4 : decode cJ6_bitCount_0f7a4 4 = .ok (.ldc_w 265, 3) := by decide +kernel
theorem dJ6_bitCount_0f7a4_7 : decode cJ6_bitCount_0f7a4 7 = .ok (.iand, 1) := by decide +kernel
theorem dJ6_bitCount_0f7a4_8 : decode cJ6_bitCount_0f7a4 8 = .ok (.isub, 1) := by decide +kernel
theorem dJ6_bitCount_0f7a4_9 : decode cJ6_bitCount_0f7a4 9 = .ok (.istore_n 0, 1) := by decide +kernel
theorem dJ6_bitCount_0f7a4_10 : decode cJ6_bitCount_0f7a4 10 = .ok (.iload_n 0, 1) := by decide +kernel
theorem dJ6_bitCount_0f7a4_11 : decode cJ6_bitCount_0f7a4 11 = .ok (.ldc_w 266, 3) := by decide +kernel
theorem dJ6_bitCount_0f7a4_14 : decode cJ6_bitCount_0f7a4 14 = .ok (.iand, 1) := by decide +kernel
theorem dJ6_bitCount_0f7a4_15 : decode cJ6_bitCount_0f7a4 15 = .ok (.iload_n 0, 1) := by decide +kernel
theorem dJ6_bitCount_0f7a4_16 : decode cJ6_bitCount_0f7a4 16 = .ok (.iconst 2, 1) := by decide +kernel
theorem dJ6_bitCount_0f7a4_17 : decode cJ6_bitCount_0f7a4 17 = .ok (.iushr, 1) := by decide +kernel
theorem dJ6_bitCount_0f7a4_18 : decode cJ6_bitCount_0f7a4 18 = .ok (.ldc_w 266, 3) := by decide +kernel
theorem dJ6_bitCount_0f7a4_21 : decode cJ6_bitCount_0f7a4 21 = .ok (.iand, 1) := by decide +kernel
theorem dJ6_bitCount_0f7a4_22 : decode cJ6_bitCount_0f7a4 22 = .ok (.iadd, 1) := by decide +kernel
theorem dJ6_bitCount_0f7a4_23 : decode cJ6_bitCount_0f7a4 23 = .ok (.istore_n 0, 1) := by decide +kernel
theorem dJ6_bitCount_0f7a4_24 : decode cJ6_bitCount_0f7a4 24 = .ok (.iload_n 0, 1) := by decide +kernel
theorem dJ6_bitCount_0f7a4_25 : decode cJ6_bitCount_0f7a4 25 = .ok (.iload_n 0, 1) := by decide +kernel
theorem dJ6_bitCount_0f7a4_26 : decode cJ6_bitCount_0f7a4 26 = .ok (.iconst 4, 1) := by decide +kernel
theorem dJ6_bitCount_0f7a4_27 : decode cJ6_bitCount_0f7a4 27 = .ok (.iushr, 1) := by decide +kernel
theorem dJ6_bitCount_0f7a4_28 : decode cJ6_bitCount_0f7a4 28 = .ok (.iadd, 1) := by decide +kernel
theorem dJ6_bitCount_0f7a4_29 : decode cJ6_bitCount_0f7a4 29 = .ok (.ldc_w 267, 3) := by decide +kernel
theorem dJ6_bitCount_0f7a4_32 : decode cJ6_bitCount_0f7a4 32 = .ok (.iand, 1) := by decide +kernel
theorem dJ6_bitCount_0f7a4_33 : decode cJ6_bitCount_0f7a4 33 = .ok (.istore_n 0, 1) := by decide +kernel
theorem dJ6_bitCount_0f7a4_34 : decode cJ6_bitCount_0f7a4 34 = .ok (.iload_n 0, 1) := by decide +kernel
theorem dJ6_bitCount_0f7a4_35 : decode cJ6_bitCount_0f7a4 35 = .ok (.iload_n 0, 1) := by decide +kernel
theorem dJ6_bitCount_0f7a4_36 : decode cJ6_bitCount_0f7a4 36 = .ok (.bipush 8, 2) := by decide +kernel
theorem dJ6_bitCount_0f7a4_38 : decode cJ6_bitCount_0f7a4 38 = .ok (.iushr, 1) := by decide +kernel
theorem dJ6_bitCount_0f7a4_39 : decode cJ6_bitCount_0f7a4 39 = .ok (.iadd, 1) := by decide +kernel
theorem dJ6_bitCount_0f7a4_40 : decode cJ6_bitCount_0f7a4 40 = .ok (.istore_n 0, 1) := by decide +kernel
theorem dJ6_bitCount_0f7a4_41 : decode cJ6_bitCount_0f7a4 41 = .ok (.iload_n 0, 1) := by decide +kernel
theorem dJ6_bitCount_0f7a4_42 : decode cJ6_bitCount_0f7a4 42 = .ok (.iload_n 0, 1) := by decide +kernel
theorem dJ6_bitCount_0f7a4_43 : decode cJ6_bitCount_0f7a4 43 = .ok (.bipush 16, 2) := by decide +kernel
theorem dJ6_bitCount_0f7a4_45 : decode cJ6_bitCount_0f7a4 45 = .ok (.iushr, 1) := by decide +kernel
theorem dJ6_bitCount_0f7a4_46 : decode cJ6_bitCount_0f7a4 46 = .ok (.iadd, 1) := by decide +kernel
theorem dJ6_bitCount_0f7a4_47 : decode cJ6_bitCount_0f7a4 47 = .ok (.istore_n 0, 1) := by decide +kernel
theorem dJ6_bitCount_0f7a4_48 : decode cJ6_bitCount_0f7a4 48 = .ok (.iload_n 0, 1) := by decide +kernel
theorem dJ6_bitCount_0f7a4_49 : decode cJ6_bitCount_0f7a4 49 = .ok (.bipush 63, 2) := by decide +kernel
theorem dJ6_bitCount_0f7a4_51 : decode cJ6_bitCount_0f7a4 51 = .ok (.iand, 1) := by decide +kernel
theorem dJ6_bitCount_0f7a4_52 : decode cJ6_bitCount_0f7a4 52 = .ok (.ireturn, 1) := by decide +kernel
set_option maxHeartbeats 4000000 in
set_option maxRecDepth 20000 in
theorem c_jd_bitCount {G : Gx} {d : Nat} {x0 : Int32} {μ : Mem} {r : Int32 × Mem} (hf : f_jd_bitCount x0 μ = some r) : Con G M_jd_bitCount (d + 0) [.int x0] μ (some (.int r.1), r.2) := by
  refine Con.ofI ⟨rfl, rfl, Nat.le_of_ble_eq_true rfl⟩ rfl rfl (fun X hG hX hr dy => ?_)
  subst hG
  show AW X 0 [(0, .int x0)] [] μ dy
  unfold f_jd_bitCount at hf
  refine r_iload_n hX dJ6_bitCount_0f7a4_0 0 rfl ?_
  refine r_iload_n hX dJ6_bitCount_0f7a4_1 0 rfl ?_
  refine r_iconst hX (1 : Int32) dJ6_bitCount_0f7a4_2 rfl ?_
  refine r_iushr hX dJ6_bitCount_0f7a4_3 ?_
  refine r_ldcw hX dJ6_bitCount_0f7a4_4 kc_J6_265 ?_
  refine r_iand hX dJ6_bitCount_0f7a4_7 ?_
  refine r_isub hX dJ6_bitCount_0f7a4_8 ?_
  obtain ⟨v1, e2, hf⟩ := bnd_eq hf
  refine r_topI e2 ?_
  refine r_istore_n hX dJ6_bitCount_0f7a4_9 rfl (ls' := [(0, .int v1)]) rfl ?_
  refine r_iload_n hX dJ6_bitCount_0f7a4_10 0 rfl ?_
  refine r_ldcw hX dJ6_bitCount_0f7a4_11 kc_J6_266 ?_
  refine r_iand hX dJ6_bitCount_0f7a4_14 ?_
  refine r_iload_n hX dJ6_bitCount_0f7a4_15 0 rfl ?_
  refine r_iconst hX (2 : Int32) dJ6_bitCount_0f7a4_16 rfl ?_
  refine r_iushr hX dJ6_bitCount_0f7a4_17 ?_
  refine r_ldcw hX dJ6_bitCount_0f7a4_18 kc_J6_266 ?_
  refine r_iand hX dJ6_bitCount_0f7a4_21 ?_
  refine r_iadd hX dJ6_bitCount_0f7a4_22 ?_
  obtain ⟨v3, e4, hf⟩ := bnd_eq hf
  refine r_topI e4 ?_
  refine r_istore_n hX dJ6_bitCount_0f7a4_23 rfl (ls' := [(0, .int v3)]) rfl ?_
  refine r_iload_n hX dJ6_bitCount_0f7a4_24 0 rfl ?_
  refine r_iload_n hX dJ6_bitCount_0f7a4_25 0 rfl ?_
  refine r_iconst hX (4 : Int32) dJ6_bitCount_0f7a4_26 rfl ?_
  refine r_iushr hX dJ6_bitCount_0f7a4_27 ?_
  refine r_iadd hX dJ6_bitCount_0f7a4_28 ?_
  refine r_ldcw hX dJ6_bitCount_0f7a4_29 kc_J6_267 ?_
  refine r_iand hX dJ6_bitCount_0f7a4_32 ?_
  obtain ⟨v5, e6, hf⟩ := bnd_eq hf
  refine r_topI e6 ?_
  refine r_istore_n hX dJ6_bitCount_0f7a4_33 rfl (ls' := [(0, .int v5)]) rfl ?_
  refine r_iload_n hX dJ6_bitCount_0f7a4_34 0 rfl ?_
  refine r_iload_n hX dJ6_bitCount_0f7a4_35 0 rfl ?_
  refine r_bipush hX (8 : Int32) dJ6_bitCount_0f7a4_36 rfl ?_
  refine r_iushr hX dJ6_bitCount_0f7a4_38 ?_
  refine r_iadd hX dJ6_bitCount_0f7a4_39 ?_
  obtain ⟨v7, e8, hf⟩ := bnd_eq hf
  refine r_topI e8 ?_
  refine r_istore_n hX dJ6_bitCount_0f7a4_40 rfl (ls' := [(0, .int v7)]) rfl ?_
  refine r_iload_n hX dJ6_bitCount_0f7a4_41 0 rfl ?_
  refine r_iload_n hX dJ6_bitCount_0f7a4_42 0 rfl ?_
  refine r_bipush hX (16 : Int32) dJ6_bitCount_0f7a4_43 rfl ?_
  refine r_iushr hX dJ6_bitCount_0f7a4_45 ?_
  refine r_iadd hX dJ6_bitCount_0f7a4_46 ?_
  obtain ⟨v9, e10, hf⟩ := bnd_eq hf
  refine r_topI e10 ?_
  refine r_istore_n hX dJ6_bitCount_0f7a4_47 rfl (ls' := [(0, .int v9)]) rfl ?_
  refine r_iload_n hX dJ6_bitCount_0f7a4_48 0 rfl ?_
  refine r_bipush hX (63 : Int32) dJ6_bitCount_0f7a4_49 rfl ?_
  refine r_iand hX dJ6_bitCount_0f7a4_51 ?_
  exact fin_I hf hr _ _ _ dJ6_bitCount_0f7a4_52
theorem dX3_meetWith_0 : decode cX3_meetWith 0 = .ok (.aload_n 0, 1) := by decide +kernel
theorem dX3_meetWith_1 : decode cX3_meetWith 1 = .ok (.getfield 15, 3) := by decide +kernel
theorem dX3_meetWith_4 : decode cX3_meetWith 4 = .ok (.iload_n 1, 1) := by decide +kernel
theorem dX3_meetWith_5 : decode cX3_meetWith 5 = .ok (.invokevirtual 51, 3) := by decide +kernel
theorem dX3_meetWith_8 : decode cX3_meetWith 8 = .ok (.istore_n 2, 1) := by decide +kernel
theorem dX3_meetWith_9 : decode cX3_meetWith 9 = .ok (.iconst 0, 1) := by decide +kernel
theorem dX3_meetWith_10 : decode cX3_meetWith 10 = .ok (.istore_n 3, 1) := by decide +kernel
theorem dX3_meetWith_11 : decode cX3_meetWith 11 = .ok (.iconst 0, 1) := by decide +kernel
theorem dX3_meetWith_12 : decode cX3_meetWith 12 = .ok (.istore 4, 2) := by decide +kernel
theorem dX3_meetWith_14 : decode cX3_meetWith 14 = .ok (.bipush 15, 2) := by decide +kernel
theorem dX3_meetWith_16 : decode cX3_meetWith 16 = .ok (.istore 5, 2) := by decide +kernel
theorem dX3_meetWith_18 : decode cX3_meetWith 18 = .ok (.iconst 0, 1) := by decide +kernel
theorem dX3_meetWith_19 : decode cX3_meetWith 19 = .ok (.istore 6, 2) := by decide +kernel
theorem dX3_meetWith_21 : decode cX3_meetWith 21 = .ok (.iload 6, 2) := by decide +kernel
theorem dX3_meetWith_23 : decode cX3_meetWith 23 = .ok (.aload_n 0, 1) := by decide +kernel
theorem dX3_meetWith_24 : decode cX3_meetWith 24 = .ok (.getfield 9, 3) := by decide +kernel
theorem dX3_meetWith_27 : decode cX3_meetWith 27 = .ok (.invokevirtual 39, 3) := by decide +kernel
theorem dX3_meetWith_30 : decode cX3_meetWith 30 = .ok (.if_icmp .gt 75, 3) := by decide +kernel
theorem dX3_meetWith_33 : decode cX3_meetWith 33 = .ok (.iload 6, 2) := by decide +kernel
theorem dX3_meetWith_35 : decode cX3_meetWith 35 = .ok (.iload_n 1, 1) := by decide +kernel
theorem dX3_meetWith_36 : decode cX3_meetWith 36 = .ok (.if_icmp .eq 63, 3) := by decide +kernel
theorem dX3_meetWith_39 : decode cX3_meetWith 39 = .ok (.aload_n 0, 1) := by decide +kernel
theorem dX3_meetWith_40 : decode cX3_meetWith 40 = .ok (.iload 6, 2) := by decide +kernel
theorem dX3_meetWith_42 : decode cX3_meetWith 42 = .ok (.iload_n 1, 1) := by decide +kernel
theorem dX3_meetWith_43 : decode cX3_meetWith 43 = .ok (.invokevirtual 98, 3) := by decide +kernel
theorem dX3_meetWith_46 : decode cX3_meetWith 46 = .ok (.ifCond .eq 53, 3) := by decide +kernel
theorem dX3_meetWith_49 : decode cX3_meetWith 49 = .ok (.aload_n 0, 1) := by decide +kernel
theorem dX3_meetWith_50 : decode cX3_meetWith 50 = .ok (.getfield 15, 3) := by decide +kernel
theorem dX3_meetWith_53 : decode cX3_meetWith 53 = .ok (.iload 6, 2) := by decide +kernel
theorem dX3_meetWith_55 : decode cX3_meetWith 55 = .ok (.invokevirtual 51, 3) := by decide +kernel
theorem dX3_meetWith_58 : decode cX3_meetWith 58 = .ok (.iload_n 2, 1) := by decide +kernel
theorem dX3_meetWith_59 : decode cX3_meetWith 59 = .ok (.if_icmp .ne 40, 3) := by decide +kernel
theorem dX3_meetWith_62 : decode cX3_meetWith 62 = .ok (.iinc 3 1, 3) := by decide +kernel
theorem dX3_meetWith_65 : decode cX3_meetWith 65 = .ok (.iload 6, 2) := by decide +kernel
theorem dX3_meetWith_67 : decode cX3_meetWith 67 = .ok (.iload_n 1, 1) := by decide +kernel
theorem dX3_meetWith_68 : decode cX3_meetWith 68 = .ok (.ixor, 1) := by decide +kernel
theorem dX3_meetWith_69 : decode cX3_meetWith 69 = .ok (.invokestatic 108, 3) := by decide +kernel
theorem dX3_meetWith_72 : decode cX3_meetWith 72 = .ok (.istore 7, 2) := by decide +kernel
theorem dX3_meetWith_74 : decode cX3_meetWith 74 = .ok (.iload 7, 2) := by decide +kernel
theorem dX3_meetWith_76 : decode cX3_meetWith 76 = .ok (.iload 5, 2) := by decide +kernel
theorem dX3_meetWith_78 : decode cX3_meetWith 78 = .ok (.if_icmp .ge 8, 3) := by decide +kernel
theorem dX3_meetWith_81 : decode cX3_meetWith 81 = .ok (.iload 6, 2) := by decide +kernel
theorem dX3_meetWith_83 : decode cX3_meetWith 83 = .ok (.goto 5, 3) := by decide +kernel
theorem dX3_meetWith_86 : decode cX3_meetWith 86 = .ok (.iload 4, 2) := by decide +kernel
theorem dX3_meetWith_88 : decode cX3_meetWith 88 = .ok (.istore 4, 2) := by decide +kernel
theorem dX3_meetWith_90 : decode cX3_meetWith 90 = .ok (.iload 5, 2) := by decide +kernel
theorem dX3_meetWith_92 : decode cX3_meetWith 92 = .ok (.iload 7, 2) := by decide +kernel
theorem dX3_meetWith_94 : decode cX3_meetWith 94 = .ok (.invokestatic 78, 3) := by decide +kernel
theorem dX3_meetWith_97 : decode cX3_meetWith 97 = .ok (.istore 5, 2) := by decide +kernel
theorem dX3_meetWith_99 : decode cX3_meetWith 99 = .ok (.iinc 6 1, 3) := by decide +kernel
theorem dX3_meetWith_102 : decode cX3_meetWith 102 = .ok (.goto (-81), 3) := by decide +kernel
theorem dX3_meetWith_105 : decode cX3_meetWith 105 = .ok (.aload_n 0, 1) := by decide +kernel
theorem dX3_meetWith_106 : decode cX3_meetWith 106 = .ok (.iload_n 3, 1) := by decide +kernel
theorem dX3_meetWith_107 : decode cX3_meetWith 107 = .ok (.iload 4, 2) := by decide +kernel
theorem dX3_meetWith_109 : decode cX3_meetWith 109 = .ok (.invokevirtual 105, 3) := by decide +kernel
theorem dX3_meetWith_112 : decode cX3_meetWith 112 = .ok (.pop, 1) := by decide +kernel
theorem dX3_meetWith_113 : decode cX3_meetWith 113 = .ok (.iload_n 3, 1) := by decide +kernel
theorem dX3_meetWith_114 : decode cX3_meetWith 114 = .ok (.ifCond .le 13, 3) := by decide +kernel
theorem dX3_meetWith_117 : decode cX3_meetWith 117 = .ok (.aload_n 0, 1) := by decide +kernel
theorem dX3_meetWith_118 : decode cX3_meetWith 118 = .ok (.getfield 23, 3) := by decide +kernel
theorem dX3_meetWith_121 : decode cX3_meetWith 121 = .ok (.iload 5, 2) := by decide +kernel
theorem dX3_meetWith_123 : decode cX3_meetWith 123 = .ok (.i2l, 1) := by decide +kernel
theorem dX3_meetWith_124 : decode cX3_meetWith 124 = .ok (.invokevirtual 91, 3) := by decide +kernel
theorem dX3_meetWith_127 : decode cX3_meetWith 127 = .ok (.iload_n 3, 1) := by decide +kernel
theorem dX3_meetWith_128 : decode cX3_meetWith 128 = .ok (.ireturn, 1) := by decide +kernel
set_option maxHeartbeats 4000000 in
set_option maxRecDepth 20000 in
theorem b_ob_meetWith_b21 {X : Cx} {d : Nat} (hX : Ok M_ob_meetWith (d + 3) X) {r : Int32 × Mem} (hr : RetI M_ob_meetWith X r.1 r.2) : ∀ (n : Nat) (x1 : Int32) (x2 : Int32) (x3 : Int32) (x4 : Int32) (x5 : Int32) (x6 : Int32) (μ : Mem) (dy : Nat → Nat), f_ob_meetWith_b21 n x1 x2 x3 x4 x5 x6 μ = some r → AW X 21 [(0, .ref (gA (xG X) 91)), (1, .int x1), (2, .int x2), (3, .int x3), (4, .int x4), (5, .int x5), (6, .int x6)] [] μ dy := by
  intro n
  induction n with
  | zero => intro x1 x2 x3 x4 x5 x6 μ dy hf; exact nomatch hf
  | succ n ih =>
    intro x1 x2 x3 x4 x5 x6 μ dy hf
    rw [f_ob_meetWith_b21] at hf
    refine r_iload hX dX3_meetWith_21 6 rfl ?_
    refine r_aload_n hX dX3_meetWith_23 0 rfl ?_
    refine r_get hX fl_X3_9 (w_91 _ _ _) rfl dX3_meetWith_24 ?_
    obtain ⟨v6, μ4, h5, hf⟩ := bd2_eq hf
    refine r_callVI (Ok.le hX (by omega)) (c_st_everybody (d := d)  h5) cv_X3_39 (w_4 _ _ _) rfl rfl (st := [.int x6]) rfl rfl rfl dX3_meetWith_27 (fun dy => ?_)
    refine r_icmp_gt hX 105 dX3_meetWith_30 rfl (fun hc7 => ?_) (fun hc7 => ?_)
    · rw [if_pos hc7] at hf
      refine r_aload_n hX dX3_meetWith_105 0 rfl ?_
      refine r_iload_n hX dX3_meetWith_106 3 rfl ?_
      refine r_iload hX dX3_meetWith_107 4 rfl ?_
      obtain ⟨v10, μ8, h9, hf⟩ := bd2_eq hf
      refine r_callVI (Ok.le hX (by omega)) (c_ob_answer (d := d)  h9) cv_X3_105 (w_91 _ _ _) rfl rfl (st := []) rfl rfl rfl dX3_meetWith_109 (fun dy => ?_)
      refine r_pop hX dX3_meetWith_112 rfl ?_
      refine r_iload_n hX dX3_meetWith_113 3 rfl ?_
      refine r_if_le hX 127 dX3_meetWith_114 rfl (fun hc11 => ?_) (fun hc11 => ?_)
      · rw [if_pos hc11] at hf
        refine r_iload_n hX dX3_meetWith_127 3 rfl ?_
        exact fin_I hf hr _ _ _ dX3_meetWith_128
      · rw [if_neg hc11] at hf
        refine r_aload_n hX dX3_meetWith_117 0 rfl ?_
        refine r_get hX fl_X3_23 (w_91 _ _ _) rfl dX3_meetWith_118 ?_
        refine r_iload hX dX3_meetWith_121 5 rfl ?_
        refine r_i2l hX dX3_meetWith_123 ?_
        obtain ⟨μ12, h13, hf⟩ := bd1_eq hf
        refine r_callVV (Ok.le hX (by omega)) (c_rw_add (d := d)  h13) cv_X3_91 (w_2 _ _ _) rfl rfl (st := []) rfl rfl rfl dX3_meetWith_124 (fun dy => ?_)
        refine r_iload_n hX dX3_meetWith_127 3 rfl ?_
        exact fin_I hf hr _ _ _ dX3_meetWith_128
    · rw [if_neg hc7] at hf
      refine r_iload hX dX3_meetWith_33 6 rfl ?_
      refine r_iload_n hX dX3_meetWith_35 1 rfl ?_
      refine r_icmp_eq hX 99 dX3_meetWith_36 rfl (fun hc14 => ?_) (fun hc14 => ?_)
      · rw [if_pos hc14] at hf
        refine r_iinc hX (x6 + (1 : Int32)) dX3_meetWith_99 6 rfl rfl rfl (ls' := [(6, .int (x6 + (1 : Int32))), (0, .ref (gA (xG X) 91)), (1, .int x1), (2, .int x2), (3, .int x3), (4, .int x4), (5, .int x5)]) rfl ?_
        refine r_goto hX 21 dX3_meetWith_102 rfl ?_
        refine r_weak [1, 2, 3, 4, 5, 6, 0] rfl ?_
        exact ih _ _ _ _ _ _ _ _ hf
      · rw [if_neg hc14] at hf
        refine r_aload_n hX dX3_meetWith_39 0 rfl ?_
        refine r_iload hX dX3_meetWith_40 6 rfl ?_
        refine r_iload_n hX dX3_meetWith_42 1 rfl ?_
        obtain ⟨v17, μ15, h16, hf⟩ := bd2_eq hf
        refine r_callVI (Ok.le hX (by omega)) (c_ob_isFirmAs (d := d)  h16) cv_X3_98 (w_91 _ _ _) rfl rfl (st := []) rfl rfl rfl dX3_meetWith_43 (fun dy => ?_)
        refine r_if_eq hX 99 dX3_meetWith_46 rfl (fun hc18 => ?_) (fun hc18 => ?_)
        · rw [if_pos hc18] at hf
          refine r_iinc hX (x6 + (1 : Int32)) dX3_meetWith_99 6 rfl rfl rfl (ls' := [(6, .int (x6 + (1 : Int32))), (0, .ref (gA (xG X) 91)), (1, .int x1), (2, .int x2), (3, .int x3), (4, .int x4), (5, .int x5)]) rfl ?_
          refine r_goto hX 21 dX3_meetWith_102 rfl ?_
          refine r_weak [1, 2, 3, 4, 5, 6, 0] rfl ?_
          exact ih _ _ _ _ _ _ _ _ hf
        · rw [if_neg hc18] at hf
          refine r_aload_n hX dX3_meetWith_49 0 rfl ?_
          refine r_get hX fl_X3_15 (w_91 _ _ _) rfl dX3_meetWith_50 ?_
          refine r_iload hX dX3_meetWith_53 6 rfl ?_
          obtain ⟨v21, μ19, h20, hf⟩ := bd2_eq hf
          refine r_callVI (Ok.le hX (by omega)) (c_he_after (d := d) (by decide) h20) cv_X3_51 (w_80 _ _ _) rfl rfl (st := []) rfl rfl rfl dX3_meetWith_55 (fun dy => ?_)
          refine r_iload_n hX dX3_meetWith_58 2 rfl ?_
          refine r_icmp_ne hX 99 dX3_meetWith_59 rfl (fun hc22 => ?_) (fun hc22 => ?_)
          · rw [if_neg hc22] at hf
            refine r_iinc hX (x6 + (1 : Int32)) dX3_meetWith_99 6 rfl rfl rfl (ls' := [(6, .int (x6 + (1 : Int32))), (0, .ref (gA (xG X) 91)), (1, .int x1), (2, .int x2), (3, .int x3), (4, .int x4), (5, .int x5)]) rfl ?_
            refine r_goto hX 21 dX3_meetWith_102 rfl ?_
            refine r_weak [1, 2, 3, 4, 5, 6, 0] rfl ?_
            exact ih _ _ _ _ _ _ _ _ hf
          · rw [if_pos hc22] at hf
            refine r_iinc hX (x3 + (1 : Int32)) dX3_meetWith_62 3 rfl rfl rfl (ls' := [(3, .int (x3 + (1 : Int32))), (0, .ref (gA (xG X) 91)), (1, .int x1), (2, .int x2), (4, .int x4), (5, .int x5), (6, .int x6)]) rfl ?_
            refine r_iload hX dX3_meetWith_65 6 rfl ?_
            refine r_iload_n hX dX3_meetWith_67 2 rfl ?_
            refine r_ixor hX dX3_meetWith_68 ?_
            obtain ⟨v25, μ23, h24, hf⟩ := bd2_eq hf
            refine r_callSI (Ok.le hX (by omega)) (c_jd_bitCount (d := d)  h24) cs_X3_108 (st := []) rfl rfl rfl dX3_meetWith_69 (fun dy => ?_)
            refine r_istore hX dX3_meetWith_72 rfl (ls' := [(7, .int v25), (3, .int (x3 + (1 : Int32))), (0, .ref (gA (xG X) 91)), (1, .int x1), (2, .int x2), (4, .int x4), (5, .int x5), (6, .int x6)]) rfl ?_
            refine r_iload hX dX3_meetWith_74 0 rfl ?_
            refine r_iload hX dX3_meetWith_76 6 rfl ?_
            obtain ⟨v26, e27, hf⟩ := bnd_eq hf
            have J28 : AW X 88 [(7, .int v25), (3, .int (x3 + (1 : Int32))), (0, .ref (gA (xG X) 91)), (1, .int x1), (2, .int x2), (4, .int x4), (5, .int x5), (6, .int x6)] [.int v26] μ23 dy := by
              refine r_istore hX dX3_meetWith_88 rfl (ls' := [(4, .int v26), (7, .int v25), (3, .int (x3 + (1 : Int32))), (0, .ref (gA (xG X) 91)), (1, .int x1), (2, .int x2), (5, .int x5), (6, .int x6)]) rfl ?_
              refine r_iload hX dX3_meetWith_90 6 rfl ?_
              refine r_iload hX dX3_meetWith_92 1 rfl ?_
              refine r_min (d := d + 2) (Ok.le hX (by omega)) cs_X3_78 rfl dX3_meetWith_94 ?_
              refine r_istore hX dX3_meetWith_97 rfl (ls' := [(5, .int (imin x5 v25)), (4, .int v26), (7, .int v25), (3, .int (x3 + (1 : Int32))), (0, .ref (gA (xG X) 91)), (1, .int x1), (2, .int x2), (6, .int x6)]) rfl ?_
              refine r_iinc hX (x6 + (1 : Int32)) dX3_meetWith_99 7 rfl rfl rfl (ls' := [(6, .int (x6 + (1 : Int32))), (5, .int (imin x5 v25)), (4, .int v26), (7, .int v25), (3, .int (x3 + (1 : Int32))), (0, .ref (gA (xG X) 91)), (1, .int x1), (2, .int x2)]) rfl ?_
              refine r_goto hX 21 dX3_meetWith_102 rfl ?_
              refine r_weak [5, 6, 7, 4, 2, 1, 0] rfl ?_
              exact ih _ _ _ _ _ _ _ _ hf
            refine r_icmp_ge hX 86 dX3_meetWith_78 rfl (fun hc29 => ?_) (fun hc29 => ?_)
            · refine r_iload hX dX3_meetWith_86 5 rfl ?_
              exact r_topI (e27.trans (by rw [if_pos hc29])) J28
            · refine r_iload hX dX3_meetWith_81 7 rfl ?_
              refine r_goto hX 88 dX3_meetWith_83 rfl ?_
              exact r_topI (e27.trans (by rw [if_neg hc29])) J28
set_option maxHeartbeats 4000000 in
set_option maxRecDepth 20000 in
theorem c_ob_meetWith {G : Gx} {d : Nat} {x1 : Int32} {μ : Mem} {r : Int32 × Mem} (hf : f_ob_meetWith x1 μ = some r) : Con G M_ob_meetWith (d + 3) [.ref (gA G 91), .int x1] μ (some (.int r.1), r.2) := by
  refine Con.ofI ⟨rfl, rfl, Nat.le_of_ble_eq_true rfl⟩ rfl rfl (fun X hG hX hr dy => ?_)
  subst hG
  show AW X 0 [(0, .ref (gA (xG X) 91)), (1, .int x1)] [] μ dy
  unfold f_ob_meetWith at hf
  refine r_aload_n hX dX3_meetWith_0 0 rfl ?_
  refine r_get hX fl_X3_15 (w_91 _ _ _) rfl dX3_meetWith_1 ?_
  refine r_iload_n hX dX3_meetWith_4 1 rfl ?_
  obtain ⟨v3, μ1, h2, hf⟩ := bd2_eq hf
  refine r_callVI (Ok.le hX (by omega)) (c_he_after (d := d) (by decide) h2) cv_X3_51 (w_80 _ _ _) rfl rfl (st := []) rfl rfl rfl dX3_meetWith_5 (fun dy => ?_)
  refine r_istore_n hX dX3_meetWith_8 rfl (ls' := [(2, .int v3), (0, .ref (gA (xG X) 91)), (1, .int x1)]) rfl ?_
  refine r_iconst hX (0 : Int32) dX3_meetWith_9 rfl ?_
  refine r_istore_n hX dX3_meetWith_10 rfl (ls' := [(3, .int (0 : Int32)), (2, .int v3), (0, .ref (gA (xG X) 91)), (1, .int x1)]) rfl ?_
  refine r_iconst hX (0 : Int32) dX3_meetWith_11 rfl ?_
  refine r_istore hX dX3_meetWith_12 rfl (ls' := [(4, .int (0 : Int32)), (3, .int (0 : Int32)), (2, .int v3), (0, .ref (gA (xG X) 91)), (1, .int x1)]) rfl ?_
  refine r_bipush hX (15 : Int32) dX3_meetWith_14 rfl ?_
  refine r_istore hX dX3_meetWith_16 rfl (ls' := [(5, .int (15 : Int32)), (4, .int (0 : Int32)), (3, .int (0 : Int32)), (2, .int v3), (0, .ref (gA (xG X) 91)), (1, .int x1)]) rfl ?_
  refine r_iconst hX (0 : Int32) dX3_meetWith_18 rfl ?_
  refine r_istore hX dX3_meetWith_19 rfl (ls' := [(6, .int (0 : Int32)), (5, .int (15 : Int32)), (4, .int (0 : Int32)), (3, .int (0 : Int32)), (2, .int v3), (0, .ref (gA (xG X) 91)), (1, .int x1)]) rfl ?_
  refine r_weak [5, 6, 4, 3, 2, 1, 0] rfl ?_
  exact b_ob_meetWith_b21 hX hr FU _ _ _ _ _ _ _ _ hf
theorem dX3_withoutPast_0 : decode cX3_withoutPast 0 = .ok (.aload_n 0, 1) := by decide +kernel
theorem dX3_withoutPast_1 : decode cX3_withoutPast 1 = .ok (.getfield 9, 3) := by decide +kernel
theorem dX3_withoutPast_4 : decode cX3_withoutPast 4 = .ok (.invokevirtual 95, 3) := by decide +kernel
theorem dX3_withoutPast_7 : decode cX3_withoutPast 7 = .ok (.istore_n 1, 1) := by decide +kernel
theorem dX3_withoutPast_8 : decode cX3_withoutPast 8 = .ok (.aload_n 0, 1) := by decide +kernel
theorem dX3_withoutPast_9 : decode cX3_withoutPast 9 = .ok (.getfield 19, 3) := by decide +kernel
theorem dX3_withoutPast_12 : decode cX3_withoutPast 12 = .ok (.aload_n 0, 1) := by decide +kernel
theorem dX3_withoutPast_13 : decode cX3_withoutPast 13 = .ok (.getfield 9, 3) := by decide +kernel
theorem dX3_withoutPast_16 : decode cX3_withoutPast 16 = .ok (.getfield 27, 3) := by decide +kernel
theorem dX3_withoutPast_19 : decode cX3_withoutPast 19 = .ok (.invokevirtual 33, 3) := by decide +kernel
theorem dX3_withoutPast_22 : decode cX3_withoutPast 22 = .ok (.iconst 0, 1) := by decide +kernel
theorem dX3_withoutPast_23 : decode cX3_withoutPast 23 = .ok (.istore_n 2, 1) := by decide +kernel
theorem dX3_withoutPast_24 : decode cX3_withoutPast 24 = .ok (.iload_n 2, 1) := by decide +kernel
theorem dX3_withoutPast_25 : decode cX3_withoutPast 25 = .ok (.aload_n 0, 1) := by decide +kernel
theorem dX3_withoutPast_26 : decode cX3_withoutPast 26 = .ok (.getfield 9, 3) := by decide +kernel
theorem dX3_withoutPast_29 : decode cX3_withoutPast 29 = .ok (.invokevirtual 39, 3) := by decide +kernel
theorem dX3_withoutPast_32 : decode cX3_withoutPast 32 = .ok (.if_icmp .gt 35, 3) := by decide +kernel
theorem dX3_withoutPast_35 : decode cX3_withoutPast 35 = .ok (.aload_n 0, 1) := by decide +kernel
theorem dX3_withoutPast_36 : decode cX3_withoutPast 36 = .ok (.iload_n 2, 1) := by decide +kernel
theorem dX3_withoutPast_37 : decode cX3_withoutPast 37 = .ok (.iload_n 1, 1) := by decide +kernel
theorem dX3_withoutPast_38 : decode cX3_withoutPast 38 = .ok (.invokevirtual 98, 3) := by decide +kernel
theorem dX3_withoutPast_41 : decode cX3_withoutPast 41 = .ok (.ifCond .eq 20, 3) := by decide +kernel
theorem dX3_withoutPast_44 : decode cX3_withoutPast 44 = .ok (.aload_n 0, 1) := by decide +kernel
theorem dX3_withoutPast_45 : decode cX3_withoutPast 45 = .ok (.getfield 19, 3) := by decide +kernel
theorem dX3_withoutPast_48 : decode cX3_withoutPast 48 = .ok (.iconst 0, 1) := by decide +kernel
theorem dX3_withoutPast_49 : decode cX3_withoutPast 49 = .ok (.aload_n 0, 1) := by decide +kernel
theorem dX3_withoutPast_50 : decode cX3_withoutPast 50 = .ok (.getfield 15, 3) := by decide +kernel
theorem dX3_withoutPast_53 : decode cX3_withoutPast 53 = .ok (.iload_n 2, 1) := by decide +kernel
theorem dX3_withoutPast_54 : decode cX3_withoutPast 54 = .ok (.invokevirtual 51, 3) := by decide +kernel
theorem dX3_withoutPast_57 : decode cX3_withoutPast 57 = .ok (.iconst 1, 1) := by decide +kernel
theorem dX3_withoutPast_58 : decode cX3_withoutPast 58 = .ok (.invokevirtual 47, 3) := by decide +kernel
theorem dX3_withoutPast_61 : decode cX3_withoutPast 61 = .ok (.iinc 2 1, 3) := by decide +kernel
theorem dX3_withoutPast_64 : decode cX3_withoutPast 64 = .ok (.goto (-40), 3) := by decide +kernel
theorem dX3_withoutPast_67 : decode cX3_withoutPast 67 = .ok (.iconst 0, 1) := by decide +kernel
theorem dX3_withoutPast_68 : decode cX3_withoutPast 68 = .ok (.istore_n 2, 1) := by decide +kernel
theorem dX3_withoutPast_69 : decode cX3_withoutPast 69 = .ok (.iconst 0, 1) := by decide +kernel
theorem dX3_withoutPast_70 : decode cX3_withoutPast 70 = .ok (.istore_n 3, 1) := by decide +kernel
theorem dX3_withoutPast_71 : decode cX3_withoutPast 71 = .ok (.aload_n 0, 1) := by decide +kernel
theorem dX3_withoutPast_72 : decode cX3_withoutPast 72 = .ok (.getfield 9, 3) := by decide +kernel
theorem dX3_withoutPast_75 : decode cX3_withoutPast 75 = .ok (.invokevirtual 39, 3) := by decide +kernel
theorem dX3_withoutPast_78 : decode cX3_withoutPast 78 = .ok (.istore 4, 2) := by decide +kernel
theorem dX3_withoutPast_80 : decode cX3_withoutPast 80 = .ok (.iload 4, 2) := by decide +kernel
theorem dX3_withoutPast_82 : decode cX3_withoutPast 82 = .ok (.ifCond .lt 39, 3) := by decide +kernel
theorem dX3_withoutPast_85 : decode cX3_withoutPast 85 = .ok (.aload_n 0, 1) := by decide +kernel
theorem dX3_withoutPast_86 : decode cX3_withoutPast 86 = .ok (.iload 4, 2) := by decide +kernel
theorem dX3_withoutPast_88 : decode cX3_withoutPast 88 = .ok (.iload_n 1, 1) := by decide +kernel
theorem dX3_withoutPast_89 : decode cX3_withoutPast 89 = .ok (.invokevirtual 98, 3) := by decide +kernel
theorem dX3_withoutPast_92 : decode cX3_withoutPast 92 = .ok (.ifCond .eq 23, 3) := by decide +kernel
theorem dX3_withoutPast_95 : decode cX3_withoutPast 95 = .ok (.aload_n 0, 1) := by decide +kernel
theorem dX3_withoutPast_96 : decode cX3_withoutPast 96 = .ok (.getfield 19, 3) := by decide +kernel
theorem dX3_withoutPast_99 : decode cX3_withoutPast 99 = .ok (.iconst 0, 1) := by decide +kernel
theorem dX3_withoutPast_100 : decode cX3_withoutPast 100 = .ok (.iload 4, 2) := by decide +kernel
theorem dX3_withoutPast_102 : decode cX3_withoutPast 102 = .ok (.invokevirtual 43, 3) := by decide +kernel
theorem dX3_withoutPast_105 : decode cX3_withoutPast 105 = .ok (.iconst (-1), 1) := by decide +kernel
theorem dX3_withoutPast_106 : decode cX3_withoutPast 106 = .ok (.if_icmp .ne 9, 3) := by decide +kernel
theorem dX3_withoutPast_109 : decode cX3_withoutPast 109 = .ok (.iinc 2 1, 3) := by decide +kernel
theorem dX3_withoutPast_112 : decode cX3_withoutPast 112 = .ok (.iload 4, 2) := by decide +kernel
theorem dX3_withoutPast_114 : decode cX3_withoutPast 114 = .ok (.istore_n 3, 1) := by decide +kernel
theorem dX3_withoutPast_115 : decode cX3_withoutPast 115 = .ok (.iinc 4 (-1), 3) := by decide +kernel
theorem dX3_withoutPast_118 : decode cX3_withoutPast 118 = .ok (.goto (-38), 3) := by decide +kernel
theorem dX3_withoutPast_121 : decode cX3_withoutPast 121 = .ok (.aload_n 0, 1) := by decide +kernel
theorem dX3_withoutPast_122 : decode cX3_withoutPast 122 = .ok (.iload_n 2, 1) := by decide +kernel
theorem dX3_withoutPast_123 : decode cX3_withoutPast 123 = .ok (.iload_n 3, 1) := by decide +kernel
theorem dX3_withoutPast_124 : decode cX3_withoutPast 124 = .ok (.invokevirtual 105, 3) := by decide +kernel
theorem dX3_withoutPast_127 : decode cX3_withoutPast 127 = .ok (.ireturn, 1) := by decide +kernel
set_option maxHeartbeats 4000000 in
set_option maxRecDepth 20000 in
theorem b_ob_withoutPast_b80 {X : Cx} {d : Nat} (hX : Ok M_ob_withoutPast (d + 3) X) {r : Int32 × Mem} (hr : RetI M_ob_withoutPast X r.1 r.2) : ∀ (n : Nat) (x1 : Int32) (x2 : Int32) (x3 : Int32) (x4 : Int32) (μ : Mem) (dy : Nat → Nat), f_ob_withoutPast_b80 n x1 x2 x3 x4 μ = some r → AW X 80 [(0, .ref (gA (xG X) 91)), (1, .int x1), (2, .int x2), (3, .int x3), (4, .int x4)] [] μ dy := by
  intro n
  induction n with
  | zero => intro x1 x2 x3 x4 μ dy hf; exact nomatch hf
  | succ n ih =>
    intro x1 x2 x3 x4 μ dy hf
    rw [f_ob_withoutPast_b80] at hf
    refine r_iload hX dX3_withoutPast_80 4 rfl ?_
    refine r_if_lt hX 121 dX3_withoutPast_82 rfl (fun hc13 => ?_) (fun hc13 => ?_)
    · rw [if_pos hc13] at hf
      refine r_aload_n hX dX3_withoutPast_121 0 rfl ?_
      refine r_iload_n hX dX3_withoutPast_122 2 rfl ?_
      refine r_iload_n hX dX3_withoutPast_123 3 rfl ?_
      obtain ⟨v16, μ14, h15, hf⟩ := bd2_eq hf
      refine r_callVI (Ok.le hX (by omega)) (c_ob_answer (d := d)  h15) cv_X3_105 (w_91 _ _ _) rfl rfl (st := []) rfl rfl rfl dX3_withoutPast_124 (fun dy => ?_)
      exact fin_I hf hr _ _ _ dX3_withoutPast_127
    · rw [if_neg hc13] at hf
      refine r_aload_n hX dX3_withoutPast_85 0 rfl ?_
      refine r_iload hX dX3_withoutPast_86 4 rfl ?_
      refine r_iload_n hX dX3_withoutPast_88 1 rfl ?_
      obtain ⟨v19, μ17, h18, hf⟩ := bd2_eq hf
      refine r_callVI (Ok.le hX (by omega)) (c_ob_isFirmAs (d := d)  h18) cv_X3_98 (w_91 _ _ _) rfl rfl (st := []) rfl rfl rfl dX3_withoutPast_89 (fun dy => ?_)
      refine r_if_eq hX 115 dX3_withoutPast_92 rfl (fun hc20 => ?_) (fun hc20 => ?_)
      · rw [if_pos hc20] at hf
        refine r_iinc hX (x4 + (-1 : Int32)) dX3_withoutPast_115 4 rfl rfl rfl (ls' := [(4, .int (x4 + (-1 : Int32))), (0, .ref (gA (xG X) 91)), (1, .int x1), (2, .int x2), (3, .int x3)]) rfl ?_
        refine r_goto hX 80 dX3_withoutPast_118 rfl ?_
        refine r_weak [1, 2, 3, 4, 0] rfl ?_
        exact ih _ _ _ _ _ _ hf
      · rw [if_neg hc20] at hf
        refine r_aload_n hX dX3_withoutPast_95 0 rfl ?_
        refine r_get hX fl_X3_19 (w_91 _ _ _) rfl dX3_withoutPast_96 ?_
        refine r_iconst hX (0 : Int32) dX3_withoutPast_99 rfl ?_
        refine r_iload hX dX3_withoutPast_100 4 rfl ?_
        obtain ⟨v23, μ21, h22, hf⟩ := bd2_eq hf
        refine r_callVI (Ok.le hX (by omega)) (c_me_recall (d := d)  h22) cv_X3_43 (w_90 _ _ _) rfl rfl (st := []) rfl rfl rfl dX3_withoutPast_102 (fun dy => ?_)
        refine r_iconst hX (-1 : Int32) dX3_withoutPast_105 rfl ?_
        refine r_icmp_ne hX 115 dX3_withoutPast_106 rfl (fun hc24 => ?_) (fun hc24 => ?_)
        · rw [if_neg hc24] at hf
          refine r_iinc hX (x4 + (-1 : Int32)) dX3_withoutPast_115 4 rfl rfl rfl (ls' := [(4, .int (x4 + (-1 : Int32))), (0, .ref (gA (xG X) 91)), (1, .int x1), (2, .int x2), (3, .int x3)]) rfl ?_
          refine r_goto hX 80 dX3_withoutPast_118 rfl ?_
          refine r_weak [1, 2, 3, 4, 0] rfl ?_
          exact ih _ _ _ _ _ _ hf
        · rw [if_pos hc24] at hf
          refine r_iinc hX (x2 + (1 : Int32)) dX3_withoutPast_109 2 rfl rfl rfl (ls' := [(2, .int (x2 + (1 : Int32))), (0, .ref (gA (xG X) 91)), (1, .int x1), (3, .int x3), (4, .int x4)]) rfl ?_
          refine r_iload hX dX3_withoutPast_112 4 rfl ?_
          refine r_istore_n hX dX3_withoutPast_114 rfl (ls' := [(3, .int x4), (2, .int (x2 + (1 : Int32))), (0, .ref (gA (xG X) 91)), (1, .int x1), (4, .int x4)]) rfl ?_
          refine r_iinc hX (x4 + (-1 : Int32)) dX3_withoutPast_115 4 rfl rfl rfl (ls' := [(4, .int (x4 + (-1 : Int32))), (3, .int x4), (2, .int (x2 + (1 : Int32))), (0, .ref (gA (xG X) 91)), (1, .int x1)]) rfl ?_
          refine r_goto hX 80 dX3_withoutPast_118 rfl ?_
          refine r_weak [3, 4, 2, 1, 0] rfl ?_
          exact ih _ _ _ _ _ _ hf
set_option maxHeartbeats 4000000 in
set_option maxRecDepth 20000 in
theorem b_ob_withoutPast_b24 {X : Cx} {d : Nat} (hX : Ok M_ob_withoutPast (d + 3) X) {r : Int32 × Mem} (hr : RetI M_ob_withoutPast X r.1 r.2) : ∀ (n : Nat) (x1 : Int32) (x2 : Int32) (μ : Mem) (dy : Nat → Nat), f_ob_withoutPast_b24 n x1 x2 μ = some r → AW X 24 [(0, .ref (gA (xG X) 91)), (1, .int x1), (2, .int x2)] [] μ dy := by
  intro n
  induction n with
  | zero => intro x1 x2 μ dy hf; exact nomatch hf
  | succ n ih =>
    intro x1 x2 μ dy hf
    rw [f_ob_withoutPast_b24] at hf
    refine r_iload_n hX dX3_withoutPast_24 2 rfl ?_
    refine r_aload_n hX dX3_withoutPast_25 0 rfl ?_
    refine r_get hX fl_X3_9 (w_91 _ _ _) rfl dX3_withoutPast_26 ?_
    obtain ⟨v8, μ6, h7, hf⟩ := bd2_eq hf
    refine r_callVI (Ok.le hX (by omega)) (c_st_everybody (d := d)  h7) cv_X3_39 (w_4 _ _ _) rfl rfl (st := [.int x2]) rfl rfl rfl dX3_withoutPast_29 (fun dy => ?_)
    refine r_icmp_gt hX 67 dX3_withoutPast_32 rfl (fun hc9 => ?_) (fun hc9 => ?_)
    · rw [if_pos hc9] at hf
      refine r_iconst hX (0 : Int32) dX3_withoutPast_67 rfl ?_
      refine r_istore_n hX dX3_withoutPast_68 rfl (ls' := [(2, .int (0 : Int32)), (0, .ref (gA (xG X) 91)), (1, .int x1)]) rfl ?_
      refine r_iconst hX (0 : Int32) dX3_withoutPast_69 rfl ?_
      refine r_istore_n hX dX3_withoutPast_70 rfl (ls' := [(3, .int (0 : Int32)), (2, .int (0 : Int32)), (0, .ref (gA (xG X) 91)), (1, .int x1)]) rfl ?_
      refine r_aload_n hX dX3_withoutPast_71 2 rfl ?_
      refine r_get hX fl_X3_9 (w_91 _ _ _) rfl dX3_withoutPast_72 ?_
      obtain ⟨v12, μ10, h11, hf⟩ := bd2_eq hf
      refine r_callVI (Ok.le hX (by omega)) (c_st_everybody (d := d)  h11) cv_X3_39 (w_4 _ _ _) rfl rfl (st := []) rfl rfl rfl dX3_withoutPast_75 (fun dy => ?_)
      refine r_istore hX dX3_withoutPast_78 rfl (ls' := [(4, .int v12), (3, .int (0 : Int32)), (2, .int (0 : Int32)), (0, .ref (gA (xG X) 91)), (1, .int x1)]) rfl ?_
      refine r_weak [3, 4, 2, 1, 0] rfl ?_
      exact b_ob_withoutPast_b80 hX hr FU _ _ _ _ _ _ hf
    · rw [if_neg hc9] at hf
      refine r_aload_n hX dX3_withoutPast_35 0 rfl ?_
      refine r_iload_n hX dX3_withoutPast_36 2 rfl ?_
      refine r_iload_n hX dX3_withoutPast_37 1 rfl ?_
      obtain ⟨v27, μ25, h26, hf⟩ := bd2_eq hf
      refine r_callVI (Ok.le hX (by omega)) (c_ob_isFirmAs (d := d)  h26) cv_X3_98 (w_91 _ _ _) rfl rfl (st := []) rfl rfl rfl dX3_withoutPast_38 (fun dy => ?_)
      refine r_if_eq hX 61 dX3_withoutPast_41 rfl (fun hc28 => ?_) (fun hc28 => ?_)
      · rw [if_pos hc28] at hf
        refine r_iinc hX (x2 + (1 : Int32)) dX3_withoutPast_61 2 rfl rfl rfl (ls' := [(2, .int (x2 + (1 : Int32))), (0, .ref (gA (xG X) 91)), (1, .int x1)]) rfl ?_
        refine r_goto hX 24 dX3_withoutPast_64 rfl ?_
        refine r_weak [1, 2, 0] rfl ?_
        exact ih _ _ _ _ hf
      · rw [if_neg hc28] at hf
        refine r_aload_n hX dX3_withoutPast_44 0 rfl ?_
        refine r_get hX fl_X3_19 (w_91 _ _ _) rfl dX3_withoutPast_45 ?_
        refine r_iconst hX (0 : Int32) dX3_withoutPast_48 rfl ?_
        refine r_aload_n hX dX3_withoutPast_49 0 rfl ?_
        refine r_get hX fl_X3_15 (w_91 _ _ _) rfl dX3_withoutPast_50 ?_
        refine r_iload_n hX dX3_withoutPast_53 2 rfl ?_
        obtain ⟨v31, μ29, h30, hf⟩ := bd2_eq hf
        refine r_callVI (Ok.le hX (by omega)) (c_he_after (d := d) (by decide) h30) cv_X3_51 (w_80 _ _ _) rfl rfl (st := [.int (0 : Int32), .ref (gA (xG X) 90)]) rfl rfl rfl dX3_withoutPast_54 (fun dy => ?_)
        refine r_iconst hX (1 : Int32) dX3_withoutPast_57 rfl ?_
        obtain ⟨μ32, h33, hf⟩ := bd1_eq hf
        refine r_callVV (Ok.le hX (by omega)) (c_me_note (d := d)  h33) cv_X3_47 (w_90 _ _ _) rfl rfl (st := []) rfl rfl rfl dX3_withoutPast_58 (fun dy => ?_)
        refine r_iinc hX (x2 + (1 : Int32)) dX3_withoutPast_61 2 rfl rfl rfl (ls' := [(2, .int (x2 + (1 : Int32))), (0, .ref (gA (xG X) 91)), (1, .int x1)]) rfl ?_
        refine r_goto hX 24 dX3_withoutPast_64 rfl ?_
        refine r_weak [1, 2, 0] rfl ?_
        exact ih _ _ _ _ hf
set_option maxHeartbeats 4000000 in
set_option maxRecDepth 20000 in
theorem c_ob_withoutPast {G : Gx} {d : Nat}  {μ : Mem} {r : Int32 × Mem} (hf : f_ob_withoutPast  μ = some r) : Con G M_ob_withoutPast (d + 3) [.ref (gA G 91)] μ (some (.int r.1), r.2) := by
  refine Con.ofI ⟨rfl, rfl, Nat.le_of_ble_eq_true rfl⟩ rfl rfl (fun X hG hX hr dy => ?_)
  subst hG
  show AW X 0 [(0, .ref (gA (xG X) 91))] [] μ dy
  unfold f_ob_withoutPast at hf
  refine r_aload_n hX dX3_withoutPast_0 0 rfl ?_
  refine r_get hX fl_X3_9 (w_91 _ _ _) rfl dX3_withoutPast_1 ?_
  obtain ⟨v3, μ1, h2, hf⟩ := bd2_eq hf
  refine r_callVI (Ok.le hX (by omega)) (c_st_now (d := d)  h2) cv_X3_95 (w_4 _ _ _) rfl rfl (st := []) rfl rfl rfl dX3_withoutPast_4 (fun dy => ?_)
  refine r_istore_n hX dX3_withoutPast_7 rfl (ls' := [(1, .int v3), (0, .ref (gA (xG X) 91))]) rfl ?_
  refine r_aload_n hX dX3_withoutPast_8 1 rfl ?_
  refine r_get hX fl_X3_19 (w_91 _ _ _) rfl dX3_withoutPast_9 ?_
  refine r_aload_n hX dX3_withoutPast_12 1 rfl ?_
  refine r_get hX fl_X3_9 (w_91 _ _ _) rfl dX3_withoutPast_13 ?_
  refine r_getN hX fl_X3_27 (w_4 _ _ _) rfl dX3_withoutPast_16 ?_
  obtain ⟨μ4, h5, hf⟩ := bd1_eq hf
  refine r_callVV (Ok.le hX (by omega)) (c_me_begin (d := d)  h5) cv_X3_33 (w_90 _ _ _) rfl rfl (st := []) rfl rfl rfl dX3_withoutPast_19 (fun dy => ?_)
  refine r_iconst hX (0 : Int32) dX3_withoutPast_22 rfl ?_
  refine r_istore_n hX dX3_withoutPast_23 rfl (ls' := [(2, .int (0 : Int32)), (1, .int v3), (0, .ref (gA (xG X) 91))]) rfl ?_
  refine r_weak [2, 1, 0] rfl ?_
  exact b_ob_withoutPast_b24 hX hr FU _ _ _ _ hf
theorem dX3_walkMarking_0 : decode cX3_walkMarking 0 = .ok (.iload_n 1, 1) := by decide +kernel
theorem dX3_walkMarking_1 : decode cX3_walkMarking 1 = .ok (.istore 4, 2) := by decide +kernel
theorem dX3_walkMarking_3 : decode cX3_walkMarking 3 = .ok (.iconst 0, 1) := by decide +kernel
theorem dX3_walkMarking_4 : decode cX3_walkMarking 4 = .ok (.istore 5, 2) := by decide +kernel
theorem dX3_walkMarking_6 : decode cX3_walkMarking 6 = .ok (.iload 5, 2) := by decide +kernel
theorem dX3_walkMarking_8 : decode cX3_walkMarking 8 = .ok (.aload_n 0, 1) := by decide +kernel
theorem dX3_walkMarking_9 : decode cX3_walkMarking 9 = .ok (.getfield 9, 3) := by decide +kernel
theorem dX3_walkMarking_12 : decode cX3_walkMarking 12 = .ok (.invokevirtual 39, 3) := by decide +kernel
theorem dX3_walkMarking_15 : decode cX3_walkMarking 15 = .ok (.if_icmp .gt 45, 3) := by decide +kernel
theorem dX3_walkMarking_18 : decode cX3_walkMarking 18 = .ok (.aload_n 0, 1) := by decide +kernel
theorem dX3_walkMarking_19 : decode cX3_walkMarking 19 = .ok (.getfield 19, 3) := by decide +kernel
theorem dX3_walkMarking_22 : decode cX3_walkMarking 22 = .ok (.iconst 0, 1) := by decide +kernel
theorem dX3_walkMarking_23 : decode cX3_walkMarking 23 = .ok (.iload 4, 2) := by decide +kernel
theorem dX3_walkMarking_25 : decode cX3_walkMarking 25 = .ok (.invokevirtual 43, 3) := by decide +kernel
theorem dX3_walkMarking_28 : decode cX3_walkMarking 28 = .ok (.iload_n 3, 1) := by decide +kernel
theorem dX3_walkMarking_29 : decode cX3_walkMarking 29 = .ok (.if_icmp .ne 31, 3) := by decide +kernel
theorem dX3_walkMarking_32 : decode cX3_walkMarking 32 = .ok (.aload_n 0, 1) := by decide +kernel
theorem dX3_walkMarking_33 : decode cX3_walkMarking 33 = .ok (.getfield 19, 3) := by decide +kernel
theorem dX3_walkMarking_36 : decode cX3_walkMarking 36 = .ok (.iconst 0, 1) := by decide +kernel
theorem dX3_walkMarking_37 : decode cX3_walkMarking 37 = .ok (.iload 4, 2) := by decide +kernel
theorem dX3_walkMarking_39 : decode cX3_walkMarking 39 = .ok (.iload_n 2, 1) := by decide +kernel
theorem dX3_walkMarking_40 : decode cX3_walkMarking 40 = .ok (.invokevirtual 47, 3) := by decide +kernel
theorem dX3_walkMarking_43 : decode cX3_walkMarking 43 = .ok (.aload_n 0, 1) := by decide +kernel
theorem dX3_walkMarking_44 : decode cX3_walkMarking 44 = .ok (.getfield 15, 3) := by decide +kernel
theorem dX3_walkMarking_47 : decode cX3_walkMarking 47 = .ok (.iload 4, 2) := by decide +kernel
theorem dX3_walkMarking_49 : decode cX3_walkMarking 49 = .ok (.invokevirtual 51, 3) := by decide +kernel
theorem dX3_walkMarking_52 : decode cX3_walkMarking 52 = .ok (.istore 4, 2) := by decide +kernel
theorem dX3_walkMarking_54 : decode cX3_walkMarking 54 = .ok (.iinc 5 1, 3) := by decide +kernel
theorem dX3_walkMarking_57 : decode cX3_walkMarking 57 = .ok (.goto (-51), 3) := by decide +kernel
theorem dX3_walkMarking_60 : decode cX3_walkMarking 60 = .ok (.iload 4, 2) := by decide +kernel
theorem dX3_walkMarking_62 : decode cX3_walkMarking 62 = .ok (.ireturn, 1) := by decide +kernel
set_option maxHeartbeats 4000000 in
set_option maxRecDepth 20000 in
theorem b_ob_walkMarking_b6 {X : Cx} {d : Nat} (hX : Ok M_ob_walkMarking (d + 3) X) {r : Int32 × Mem} (hr : RetI M_ob_walkMarking X r.1 r.2) : ∀ (n : Nat) (x2 : Int32) (x3 : Int32) (x4 : Int32) (x5 : Int32) (μ : Mem) (dy : Nat → Nat), f_ob_walkMarking_b6 n x2 x3 x4 x5 μ = some r → AW X 6 [(0, .ref (gA (xG X) 91)), (2, .int x2), (3, .int x3), (4, .int x4), (5, .int x5)] [] μ dy := by
  intro n
  induction n with
  | zero => intro x2 x3 x4 x5 μ dy hf; exact nomatch hf
  | succ n ih =>
    intro x2 x3 x4 x5 μ dy hf
    rw [f_ob_walkMarking_b6] at hf
    refine r_iload hX dX3_walkMarking_6 4 rfl ?_
    refine r_aload_n hX dX3_walkMarking_8 0 rfl ?_
    refine r_get hX fl_X3_9 (w_91 _ _ _) rfl dX3_walkMarking_9 ?_
    obtain ⟨v3, μ1, h2, hf⟩ := bd2_eq hf
    refine r_callVI (Ok.le hX (by omega)) (c_st_everybody (d := d)  h2) cv_X3_39 (w_4 _ _ _) rfl rfl (st := [.int x5]) rfl rfl rfl dX3_walkMarking_12 (fun dy => ?_)
    refine r_icmp_gt hX 60 dX3_walkMarking_15 rfl (fun hc4 => ?_) (fun hc4 => ?_)
    · rw [if_pos hc4] at hf
      refine r_iload hX dX3_walkMarking_60 3 rfl ?_
      exact fin_I hf hr _ _ _ dX3_walkMarking_62
    · rw [if_neg hc4] at hf
      refine r_aload_n hX dX3_walkMarking_18 0 rfl ?_
      refine r_get hX fl_X3_19 (w_91 _ _ _) rfl dX3_walkMarking_19 ?_
      refine r_iconst hX (0 : Int32) dX3_walkMarking_22 rfl ?_
      refine r_iload hX dX3_walkMarking_23 3 rfl ?_
      obtain ⟨v7, μ5, h6, hf⟩ := bd2_eq hf
      refine r_callVI (Ok.le hX (by omega)) (c_me_recall (d := d)  h6) cv_X3_43 (w_90 _ _ _) rfl rfl (st := []) rfl rfl rfl dX3_walkMarking_25 (fun dy => ?_)
      refine r_iload_n hX dX3_walkMarking_28 2 rfl ?_
      refine r_icmp_ne hX 60 dX3_walkMarking_29 rfl (fun hc8 => ?_) (fun hc8 => ?_)
      · rw [if_neg hc8] at hf
        refine r_iload hX dX3_walkMarking_60 3 rfl ?_
        exact fin_I hf hr _ _ _ dX3_walkMarking_62
      · rw [if_pos hc8] at hf
        refine r_aload_n hX dX3_walkMarking_32 0 rfl ?_
        refine r_get hX fl_X3_19 (w_91 _ _ _) rfl dX3_walkMarking_33 ?_
        refine r_iconst hX (0 : Int32) dX3_walkMarking_36 rfl ?_
        refine r_iload hX dX3_walkMarking_37 3 rfl ?_
        refine r_iload_n hX dX3_walkMarking_39 1 rfl ?_
        obtain ⟨μ9, h10, hf⟩ := bd1_eq hf
        refine r_callVV (Ok.le hX (by omega)) (c_me_note (d := d)  h10) cv_X3_47 (w_90 _ _ _) rfl rfl (st := []) rfl rfl rfl dX3_walkMarking_40 (fun dy => ?_)
        refine r_aload_n hX dX3_walkMarking_43 0 rfl ?_
        refine r_get hX fl_X3_15 (w_91 _ _ _) rfl dX3_walkMarking_44 ?_
        refine r_iload hX dX3_walkMarking_47 3 rfl ?_
        obtain ⟨v13, μ11, h12, hf⟩ := bd2_eq hf
        refine r_callVI (Ok.le hX (by omega)) (c_he_after (d := d) (by decide) h12) cv_X3_51 (w_80 _ _ _) rfl rfl (st := []) rfl rfl rfl dX3_walkMarking_49 (fun dy => ?_)
        refine r_istore hX dX3_walkMarking_52 rfl (ls' := [(4, .int v13), (0, .ref (gA (xG X) 91)), (2, .int x2), (3, .int x3), (5, .int x5)]) rfl ?_
        refine r_iinc hX (x5 + (1 : Int32)) dX3_walkMarking_54 4 rfl rfl rfl (ls' := [(5, .int (x5 + (1 : Int32))), (4, .int v13), (0, .ref (gA (xG X) 91)), (2, .int x2), (3, .int x3)]) rfl ?_
        refine r_goto hX 6 dX3_walkMarking_57 rfl ?_
        refine r_weak [2, 3, 4, 1, 0] rfl ?_
        exact ih _ _ _ _ _ _ hf
set_option maxHeartbeats 4000000 in
set_option maxRecDepth 20000 in
theorem c_ob_walkMarking {G : Gx} {d : Nat} {x1 : Int32} {x2 : Int32} {x3 : Int32} {μ : Mem} {r : Int32 × Mem} (hf : f_ob_walkMarking x1 x2 x3 μ = some r) : Con G M_ob_walkMarking (d + 3) [.ref (gA G 91), .int x1, .int x2, .int x3] μ (some (.int r.1), r.2) := by
  refine Con.ofI ⟨rfl, rfl, Nat.le_of_ble_eq_true rfl⟩ rfl rfl (fun X hG hX hr dy => ?_)
  subst hG
  show AW X 0 [(0, .ref (gA (xG X) 91)), (1, .int x1), (2, .int x2), (3, .int x3)] [] μ dy
  unfold f_ob_walkMarking at hf
  refine r_iload_n hX dX3_walkMarking_0 1 rfl ?_
  refine r_istore hX dX3_walkMarking_1 rfl (ls' := [(4, .int x1), (0, .ref (gA (xG X) 91)), (1, .int x1), (2, .int x2), (3, .int x3)]) rfl ?_
  refine r_iconst hX (0 : Int32) dX3_walkMarking_3 rfl ?_
  refine r_istore hX dX3_walkMarking_4 rfl (ls' := [(5, .int (0 : Int32)), (4, .int x1), (0, .ref (gA (xG X) 91)), (1, .int x1), (2, .int x2), (3, .int x3)]) rfl ?_
  refine r_weak [2, 4, 5, 1, 0] rfl ?_
  exact b_ob_walkMarking_b6 hX hr FU _ _ _ _ _ _ hf
theorem dX3_roundOf_0 : decode cX3_roundOf 0 = .ok (.aload_n 0, 1) := by decide +kernel
theorem dX3_roundOf_1 : decode cX3_roundOf 1 = .ok (.getfield 15, 3) := by decide +kernel
theorem dX3_roundOf_4 : decode cX3_roundOf 4 = .ok (.iload_n 1, 1) := by decide +kernel
theorem dX3_roundOf_5 : decode cX3_roundOf 5 = .ok (.invokevirtual 51, 3) := by decide +kernel
theorem dX3_roundOf_8 : decode cX3_roundOf 8 = .ok (.istore_n 2, 1) := by decide +kernel
theorem dX3_roundOf_9 : decode cX3_roundOf 9 = .ok (.iconst 1, 1) := by decide +kernel
theorem dX3_roundOf_10 : decode cX3_roundOf 10 = .ok (.istore_n 3, 1) := by decide +kernel
theorem dX3_roundOf_11 : decode cX3_roundOf 11 = .ok (.iload_n 3, 1) := by decide +kernel
theorem dX3_roundOf_12 : decode cX3_roundOf 12 = .ok (.aload_n 0, 1) := by decide +kernel
theorem dX3_roundOf_13 : decode cX3_roundOf 13 = .ok (.getfield 9, 3) := by decide +kernel
theorem dX3_roundOf_16 : decode cX3_roundOf 16 = .ok (.invokevirtual 39, 3) := by decide +kernel
theorem dX3_roundOf_19 : decode cX3_roundOf 19 = .ok (.if_icmp .gt 23, 3) := by decide +kernel
theorem dX3_roundOf_22 : decode cX3_roundOf 22 = .ok (.iload_n 2, 1) := by decide +kernel
theorem dX3_roundOf_23 : decode cX3_roundOf 23 = .ok (.iload_n 1, 1) := by decide +kernel
theorem dX3_roundOf_24 : decode cX3_roundOf 24 = .ok (.if_icmp .eq 18, 3) := by decide +kernel
theorem dX3_roundOf_27 : decode cX3_roundOf 27 = .ok (.aload_n 0, 1) := by decide +kernel
theorem dX3_roundOf_28 : decode cX3_roundOf 28 = .ok (.getfield 15, 3) := by decide +kernel
theorem dX3_roundOf_31 : decode cX3_roundOf 31 = .ok (.iload_n 2, 1) := by decide +kernel
theorem dX3_roundOf_32 : decode cX3_roundOf 32 = .ok (.invokevirtual 51, 3) := by decide +kernel
theorem dX3_roundOf_35 : decode cX3_roundOf 35 = .ok (.istore_n 2, 1) := by decide +kernel
theorem dX3_roundOf_36 : decode cX3_roundOf 36 = .ok (.iinc 3 1, 3) := by decide +kernel
theorem dX3_roundOf_39 : decode cX3_roundOf 39 = .ok (.goto (-28), 3) := by decide +kernel
theorem dX3_roundOf_42 : decode cX3_roundOf 42 = .ok (.iload_n 3, 1) := by decide +kernel
theorem dX3_roundOf_43 : decode cX3_roundOf 43 = .ok (.ireturn, 1) := by decide +kernel
set_option maxHeartbeats 4000000 in
set_option maxRecDepth 20000 in
theorem b_ob_roundOf_b11 {X : Cx} {d : Nat} (hX : Ok M_ob_roundOf (d + 3) X) {r : Int32 × Mem} (hr : RetI M_ob_roundOf X r.1 r.2) : ∀ (n : Nat) (x1 : Int32) (x2 : Int32) (x3 : Int32) (μ : Mem) (dy : Nat → Nat), f_ob_roundOf_b11 n x1 x2 x3 μ = some r → AW X 11 [(0, .ref (gA (xG X) 91)), (1, .int x1), (2, .int x2), (3, .int x3)] [] μ dy := by
  intro n
  induction n with
  | zero => intro x1 x2 x3 μ dy hf; exact nomatch hf
  | succ n ih =>
    intro x1 x2 x3 μ dy hf
    rw [f_ob_roundOf_b11] at hf
    refine r_iload_n hX dX3_roundOf_11 3 rfl ?_
    refine r_aload_n hX dX3_roundOf_12 0 rfl ?_
    refine r_get hX fl_X3_9 (w_91 _ _ _) rfl dX3_roundOf_13 ?_
    obtain ⟨v6, μ4, h5, hf⟩ := bd2_eq hf
    refine r_callVI (Ok.le hX (by omega)) (c_st_everybody (d := d)  h5) cv_X3_39 (w_4 _ _ _) rfl rfl (st := [.int x3]) rfl rfl rfl dX3_roundOf_16 (fun dy => ?_)
    refine r_icmp_gt hX 42 dX3_roundOf_19 rfl (fun hc7 => ?_) (fun hc7 => ?_)
    · rw [if_pos hc7] at hf
      refine r_iload_n hX dX3_roundOf_42 3 rfl ?_
      exact fin_I hf hr _ _ _ dX3_roundOf_43
    · rw [if_neg hc7] at hf
      refine r_iload_n hX dX3_roundOf_22 2 rfl ?_
      refine r_iload_n hX dX3_roundOf_23 1 rfl ?_
      refine r_icmp_eq hX 42 dX3_roundOf_24 rfl (fun hc8 => ?_) (fun hc8 => ?_)
      · rw [if_pos hc8] at hf
        refine r_iload_n hX dX3_roundOf_42 3 rfl ?_
        exact fin_I hf hr _ _ _ dX3_roundOf_43
      · rw [if_neg hc8] at hf
        refine r_aload_n hX dX3_roundOf_27 0 rfl ?_
        refine r_get hX fl_X3_15 (w_91 _ _ _) rfl dX3_roundOf_28 ?_
        refine r_iload_n hX dX3_roundOf_31 2 rfl ?_
        obtain ⟨v11, μ9, h10, hf⟩ := bd2_eq hf
        refine r_callVI (Ok.le hX (by omega)) (c_he_after (d := d) (by decide) h10) cv_X3_51 (w_80 _ _ _) rfl rfl (st := []) rfl rfl rfl dX3_roundOf_32 (fun dy => ?_)
        refine r_istore_n hX dX3_roundOf_35 rfl (ls' := [(2, .int v11), (0, .ref (gA (xG X) 91)), (1, .int x1), (3, .int x3)]) rfl ?_
        refine r_iinc hX (x3 + (1 : Int32)) dX3_roundOf_36 3 rfl rfl rfl (ls' := [(3, .int (x3 + (1 : Int32))), (2, .int v11), (0, .ref (gA (xG X) 91)), (1, .int x1)]) rfl ?_
        refine r_goto hX 11 dX3_roundOf_39 rfl ?_
        refine r_weak [2, 3, 1, 0] rfl ?_
        exact ih _ _ _ _ _ hf
set_option maxHeartbeats 4000000 in
set_option maxRecDepth 20000 in
theorem c_ob_roundOf {G : Gx} {d : Nat} {x1 : Int32} {μ : Mem} {r : Int32 × Mem} (hf : f_ob_roundOf x1 μ = some r) : Con G M_ob_roundOf (d + 3) [.ref (gA G 91), .int x1] μ (some (.int r.1), r.2) := by
  refine Con.ofI ⟨rfl, rfl, Nat.le_of_ble_eq_true rfl⟩ rfl rfl (fun X hG hX hr dy => ?_)
  subst hG
  show AW X 0 [(0, .ref (gA (xG X) 91)), (1, .int x1)] [] μ dy
  unfold f_ob_roundOf at hf
  refine r_aload_n hX dX3_roundOf_0 0 rfl ?_
  refine r_get hX fl_X3_15 (w_91 _ _ _) rfl dX3_roundOf_1 ?_
  refine r_iload_n hX dX3_roundOf_4 1 rfl ?_
  obtain ⟨v3, μ1, h2, hf⟩ := bd2_eq hf
  refine r_callVI (Ok.le hX (by omega)) (c_he_after (d := d) (by decide) h2) cv_X3_51 (w_80 _ _ _) rfl rfl (st := []) rfl rfl rfl dX3_roundOf_5 (fun dy => ?_)
  refine r_istore_n hX dX3_roundOf_8 rfl (ls' := [(2, .int v3), (0, .ref (gA (xG X) 91)), (1, .int x1)]) rfl ?_
  refine r_iconst hX (1 : Int32) dX3_roundOf_9 rfl ?_
  refine r_istore_n hX dX3_roundOf_10 rfl (ls' := [(3, .int (1 : Int32)), (2, .int v3), (0, .ref (gA (xG X) 91)), (1, .int x1)]) rfl ?_
  refine r_weak [2, 3, 1, 0] rfl ?_
  exact b_ob_roundOf_b11 hX hr FU _ _ _ _ _ hf
theorem dX3_comeAgain_0 : decode cX3_comeAgain 0 = .ok (.aload_n 0, 1) := by decide +kernel
theorem dX3_comeAgain_1 : decode cX3_comeAgain 1 = .ok (.getfield 9, 3) := by decide +kernel
theorem dX3_comeAgain_4 : decode cX3_comeAgain 4 = .ok (.invokevirtual 95, 3) := by decide +kernel
theorem dX3_comeAgain_7 : decode cX3_comeAgain 7 = .ok (.istore_n 1, 1) := by decide +kernel
theorem dX3_comeAgain_8 : decode cX3_comeAgain 8 = .ok (.iconst 0, 1) := by decide +kernel
theorem dX3_comeAgain_9 : decode cX3_comeAgain 9 = .ok (.istore_n 2, 1) := by decide +kernel
theorem dX3_comeAgain_10 : decode cX3_comeAgain 10 = .ok (.iconst 0, 1) := by decide +kernel
theorem dX3_comeAgain_11 : decode cX3_comeAgain 11 = .ok (.istore_n 3, 1) := by decide +kernel
theorem dX3_comeAgain_12 : decode cX3_comeAgain 12 = .ok (.iconst 0, 1) := by decide +kernel
theorem dX3_comeAgain_13 : decode cX3_comeAgain 13 = .ok (.istore 4, 2) := by decide +kernel
theorem dX3_comeAgain_15 : decode cX3_comeAgain 15 = .ok (.aload_n 0, 1) := by decide +kernel
theorem dX3_comeAgain_16 : decode cX3_comeAgain 16 = .ok (.getfield 19, 3) := by decide +kernel
theorem dX3_comeAgain_19 : decode cX3_comeAgain 19 = .ok (.aload_n 0, 1) := by decide +kernel
theorem dX3_comeAgain_20 : decode cX3_comeAgain 20 = .ok (.getfield 9, 3) := by decide +kernel
theorem dX3_comeAgain_23 : decode cX3_comeAgain 23 = .ok (.getfield 27, 3) := by decide +kernel
theorem dX3_comeAgain_26 : decode cX3_comeAgain 26 = .ok (.invokevirtual 33, 3) := by decide +kernel
theorem dX3_comeAgain_29 : decode cX3_comeAgain 29 = .ok (.iconst 0, 1) := by decide +kernel
theorem dX3_comeAgain_30 : decode cX3_comeAgain 30 = .ok (.istore 5, 2) := by decide +kernel
theorem dX3_comeAgain_32 : decode cX3_comeAgain 32 = .ok (.iload 5, 2) := by decide +kernel
theorem dX3_comeAgain_34 : decode cX3_comeAgain 34 = .ok (.aload_n 0, 1) := by decide +kernel
theorem dX3_comeAgain_35 : decode cX3_comeAgain 35 = .ok (.getfield 9, 3) := by decide +kernel
theorem dX3_comeAgain_38 : decode cX3_comeAgain 38 = .ok (.invokevirtual 39, 3) := by decide +kernel
theorem dX3_comeAgain_41 : decode cX3_comeAgain 41 = .ok (.if_icmp .gt 99, 3) := by decide +kernel
theorem dX3_comeAgain_44 : decode cX3_comeAgain 44 = .ok (.aload_n 0, 1) := by decide +kernel
theorem dX3_comeAgain_45 : decode cX3_comeAgain 45 = .ok (.iload 5, 2) := by decide +kernel
theorem dX3_comeAgain_47 : decode cX3_comeAgain 47 = .ok (.iload_n 1, 1) := by decide +kernel
theorem dX3_comeAgain_48 : decode cX3_comeAgain 48 = .ok (.invokevirtual 98, 3) := by decide +kernel
theorem dX3_comeAgain_51 : decode cX3_comeAgain 51 = .ok (.ifCond .eq 83, 3) := by decide +kernel
theorem dX3_comeAgain_54 : decode cX3_comeAgain 54 = .ok (.aload_n 0, 1) := by decide +kernel
theorem dX3_comeAgain_55 : decode cX3_comeAgain 55 = .ok (.getfield 19, 3) := by decide +kernel
theorem dX3_comeAgain_58 : decode cX3_comeAgain 58 = .ok (.iconst 0, 1) := by decide +kernel
theorem dX3_comeAgain_59 : decode cX3_comeAgain 59 = .ok (.iload 5, 2) := by decide +kernel
theorem dX3_comeAgain_61 : decode cX3_comeAgain 61 = .ok (.invokevirtual 43, 3) := by decide +kernel
theorem dX3_comeAgain_64 : decode cX3_comeAgain 64 = .ok (.iconst (-1), 1) := by decide +kernel
theorem dX3_comeAgain_65 : decode cX3_comeAgain 65 = .ok (.if_icmp .ne 69, 3) := by decide +kernel
theorem dX3_comeAgain_68 : decode cX3_comeAgain 68 = .ok (.aload_n 0, 1) := by decide +kernel
theorem dX3_comeAgain_69 : decode cX3_comeAgain 69 = .ok (.iload 5, 2) := by decide +kernel
theorem dX3_comeAgain_71 : decode cX3_comeAgain 71 = .ok (.iload 5, 2) := by decide +kernel
theorem dX3_comeAgain_73 : decode cX3_comeAgain 73 = .ok (.iconst (-1), 1) := by decide +kernel
theorem dX3_comeAgain_74 : decode cX3_comeAgain 74 = .ok (.invokevirtual 113, 3) := by decide +kernel
theorem dX3_comeAgain_77 : decode cX3_comeAgain 77 = .ok (.istore 6, 2) := by decide +kernel
theorem dX3_comeAgain_79 : decode cX3_comeAgain 79 = .ok (.aload_n 0, 1) := by decide +kernel
theorem dX3_comeAgain_80 : decode cX3_comeAgain 80 = .ok (.getfield 19, 3) := by decide +kernel
theorem dX3_comeAgain_83 : decode cX3_comeAgain 83 = .ok (.iconst 0, 1) := by decide +kernel
theorem dX3_comeAgain_84 : decode cX3_comeAgain 84 = .ok (.iload 6, 2) := by decide +kernel
theorem dX3_comeAgain_86 : decode cX3_comeAgain 86 = .ok (.invokevirtual 43, 3) := by decide +kernel
theorem dX3_comeAgain_89 : decode cX3_comeAgain 89 = .ok (.iload 5, 2) := by decide +kernel
theorem dX3_comeAgain_91 : decode cX3_comeAgain 91 = .ok (.if_icmp .ne 12, 3) := by decide +kernel
theorem dX3_comeAgain_94 : decode cX3_comeAgain 94 = .ok (.aload_n 0, 1) := by decide +kernel
theorem dX3_comeAgain_95 : decode cX3_comeAgain 95 = .ok (.iload 6, 2) := by decide +kernel
theorem dX3_comeAgain_97 : decode cX3_comeAgain 97 = .ok (.invokevirtual 117, 3) := by decide +kernel
theorem dX3_comeAgain_100 : decode cX3_comeAgain 100 = .ok (.goto 4, 3) := by decide +kernel
theorem dX3_comeAgain_103 : decode cX3_comeAgain 103 = .ok (.iconst 0, 1) := by decide +kernel
theorem dX3_comeAgain_104 : decode cX3_comeAgain 104 = .ok (.istore 7, 2) := by decide +kernel
theorem dX3_comeAgain_106 : decode cX3_comeAgain 106 = .ok (.iload_n 2, 1) := by decide +kernel
theorem dX3_comeAgain_107 : decode cX3_comeAgain 107 = .ok (.iload 7, 2) := by decide +kernel
theorem dX3_comeAgain_109 : decode cX3_comeAgain 109 = .ok (.iadd, 1) := by decide +kernel
theorem dX3_comeAgain_110 : decode cX3_comeAgain 110 = .ok (.istore_n 2, 1) := by decide +kernel
theorem dX3_comeAgain_111 : decode cX3_comeAgain 111 = .ok (.iload_n 3, 1) := by decide +kernel
theorem dX3_comeAgain_112 : decode cX3_comeAgain 112 = .ok (.iload 7, 2) := by decide +kernel
theorem dX3_comeAgain_114 : decode cX3_comeAgain 114 = .ok (.iconst 1, 1) := by decide +kernel
theorem dX3_comeAgain_115 : decode cX3_comeAgain 115 = .ok (.if_icmp .ne 7, 3) := by decide +kernel
theorem dX3_comeAgain_118 : decode cX3_comeAgain 118 = .ok (.iconst 1, 1) := by decide +kernel
theorem dX3_comeAgain_119 : decode cX3_comeAgain 119 = .ok (.goto 4, 3) := by decide +kernel
theorem dX3_comeAgain_122 : decode cX3_comeAgain 122 = .ok (.iconst 0, 1) := by decide +kernel
theorem dX3_comeAgain_123 : decode cX3_comeAgain 123 = .ok (.iadd, 1) := by decide +kernel
theorem dX3_comeAgain_124 : decode cX3_comeAgain 124 = .ok (.istore_n 3, 1) := by decide +kernel
theorem dX3_comeAgain_125 : decode cX3_comeAgain 125 = .ok (.iload 4, 2) := by decide +kernel
theorem dX3_comeAgain_127 : decode cX3_comeAgain 127 = .ok (.iload 7, 2) := by decide +kernel
theorem dX3_comeAgain_129 : decode cX3_comeAgain 129 = .ok (.invokestatic 120, 3) := by decide +kernel
theorem dX3_comeAgain_132 : decode cX3_comeAgain 132 = .ok (.istore 4, 2) := by decide +kernel
theorem dX3_comeAgain_134 : decode cX3_comeAgain 134 = .ok (.iinc 5 1, 3) := by decide +kernel
theorem dX3_comeAgain_137 : decode cX3_comeAgain 137 = .ok (.goto (-105), 3) := by decide +kernel
theorem dX3_comeAgain_140 : decode cX3_comeAgain 140 = .ok (.aload_n 0, 1) := by decide +kernel
theorem dX3_comeAgain_141 : decode cX3_comeAgain 141 = .ok (.getfield 23, 3) := by decide +kernel
theorem dX3_comeAgain_144 : decode cX3_comeAgain 144 = .ok (.iload_n 3, 1) := by decide +kernel
theorem dX3_comeAgain_145 : decode cX3_comeAgain 145 = .ok (.i2l, 1) := by decide +kernel
theorem dX3_comeAgain_146 : decode cX3_comeAgain 146 = .ok (.invokevirtual 123, 3) := by decide +kernel
theorem dX3_comeAgain_149 : decode cX3_comeAgain 149 = .ok (.aload_n 0, 1) := by decide +kernel
theorem dX3_comeAgain_150 : decode cX3_comeAgain 150 = .ok (.getfield 23, 3) := by decide +kernel
theorem dX3_comeAgain_153 : decode cX3_comeAgain 153 = .ok (.iload 4, 2) := by decide +kernel
theorem dX3_comeAgain_155 : decode cX3_comeAgain 155 = .ok (.i2l, 1) := by decide +kernel
theorem dX3_comeAgain_156 : decode cX3_comeAgain 156 = .ok (.invokevirtual 91, 3) := by decide +kernel
theorem dX3_comeAgain_159 : decode cX3_comeAgain 159 = .ok (.iload_n 2, 1) := by decide +kernel
theorem dX3_comeAgain_160 : decode cX3_comeAgain 160 = .ok (.ireturn, 1) := by decide +kernel
set_option maxHeartbeats 4000000 in
set_option maxRecDepth 20000 in
theorem b_ob_comeAgain_b104 {X : Cx} {d : Nat} (hX : Ok M_ob_comeAgain (d + 4) X) {r : Int32 × Mem} (hr : RetI M_ob_comeAgain X r.1 r.2) {k32 : Int32 → Int32 → Int32 → Int32 → Int32 → Mem → Option (Int32 × Mem)} (hk32 : ∀ (x1 : Int32) (x2 : Int32) (x3 : Int32) (x4 : Int32) (x5 : Int32) (μ : Mem) (dy : Nat → Nat), k32 x1 x2 x3 x4 x5 μ = some r → AW X 32 [(0, .ref (gA (xG X) 91)), (1, .int x1), (2, .int x2), (3, .int x3), (4, .int x4), (5, .int x5)] [] μ dy) (x1 : Int32) (x2 : Int32) (x3 : Int32) (x4 : Int32) (x5 : Int32) (s0 : Int32) (μ : Mem) (dy : Nat → Nat) (hf : f_ob_comeAgain_b104 k32 x1 x2 x3 x4 x5 s0 μ = some r) : AW X 104 [(0, .ref (gA (xG X) 91)), (1, .int x1), (2, .int x2), (3, .int x3), (4, .int x4), (5, .int x5)] [.int s0] μ dy := by
  unfold f_ob_comeAgain_b104 at hf
  refine r_istore hX dX3_comeAgain_104 rfl (ls' := [(7, .int s0), (0, .ref (gA (xG X) 91)), (1, .int x1), (2, .int x2), (3, .int x3), (4, .int x4), (5, .int x5)]) rfl ?_
  refine r_iload_n hX dX3_comeAgain_106 3 rfl ?_
  refine r_iload hX dX3_comeAgain_107 0 rfl ?_
  refine r_iadd hX dX3_comeAgain_109 ?_
  refine r_istore_n hX dX3_comeAgain_110 rfl (ls' := [(2, .int (x2 + s0)), (7, .int s0), (0, .ref (gA (xG X) 91)), (1, .int x1), (3, .int x3), (4, .int x4), (5, .int x5)]) rfl ?_
  refine r_iload_n hX dX3_comeAgain_111 4 rfl ?_
  refine r_iload hX dX3_comeAgain_112 1 rfl ?_
  refine r_iconst hX (1 : Int32) dX3_comeAgain_114 rfl ?_
  obtain ⟨v29, e30, hf⟩ := bnd_eq hf
  have J31 : AW X 123 [(2, .int (x2 + s0)), (7, .int s0), (0, .ref (gA (xG X) 91)), (1, .int x1), (3, .int x3), (4, .int x4), (5, .int x5)] [.int v29, .int x3] μ dy := by
    refine r_iadd hX dX3_comeAgain_123 ?_
    refine r_istore_n hX dX3_comeAgain_124 rfl (ls' := [(3, .int (x3 + v29)), (2, .int (x2 + s0)), (7, .int s0), (0, .ref (gA (xG X) 91)), (1, .int x1), (4, .int x4), (5, .int x5)]) rfl ?_
    refine r_iload hX dX3_comeAgain_125 5 rfl ?_
    refine r_iload hX dX3_comeAgain_127 2 rfl ?_
    refine r_max (d := d + 3) (Ok.le hX (by omega)) cs_X3_120 rfl dX3_comeAgain_129 ?_
    refine r_istore hX dX3_comeAgain_132 rfl (ls' := [(4, .int (imax x4 s0)), (3, .int (x3 + v29)), (2, .int (x2 + s0)), (7, .int s0), (0, .ref (gA (xG X) 91)), (1, .int x1), (5, .int x5)]) rfl ?_
    refine r_iinc hX (x5 + (1 : Int32)) dX3_comeAgain_134 6 rfl rfl rfl (ls' := [(5, .int (x5 + (1 : Int32))), (4, .int (imax x4 s0)), (3, .int (x3 + v29)), (2, .int (x2 + s0)), (7, .int s0), (0, .ref (gA (xG X) 91)), (1, .int x1)]) rfl ?_
    refine r_goto hX 32 dX3_comeAgain_137 rfl ?_
    refine r_weak [5, 6, 3, 2, 1, 0] rfl ?_
    exact hk32 _ _ _ _ _ _ _ hf
  refine r_icmp_ne hX 122 dX3_comeAgain_115 rfl (fun hc32 => ?_) (fun hc32 => ?_)
  · refine r_iconst hX (0 : Int32) dX3_comeAgain_122 rfl ?_
    exact r_topI (e30.trans (by rw [if_neg hc32])) J31
  · refine r_iconst hX (1 : Int32) dX3_comeAgain_118 rfl ?_
    refine r_goto hX 123 dX3_comeAgain_119 rfl ?_
    exact r_topI (e30.trans (by rw [if_pos hc32])) J31
set_option maxHeartbeats 4000000 in
set_option maxRecDepth 20000 in
theorem b_ob_comeAgain_b32 {X : Cx} {d : Nat} (hX : Ok M_ob_comeAgain (d + 4) X) {r : Int32 × Mem} (hr : RetI M_ob_comeAgain X r.1 r.2) : ∀ (n : Nat) (x1 : Int32) (x2 : Int32) (x3 : Int32) (x4 : Int32) (x5 : Int32) (μ : Mem) (dy : Nat → Nat), f_ob_comeAgain_b32 n x1 x2 x3 x4 x5 μ = some r → AW X 32 [(0, .ref (gA (xG X) 91)), (1, .int x1), (2, .int x2), (3, .int x3), (4, .int x4), (5, .int x5)] [] μ dy := by
  intro n
  induction n with
  | zero => intro x1 x2 x3 x4 x5 μ dy hf; exact nomatch hf
  | succ n ih =>
    intro x1 x2 x3 x4 x5 μ dy hf
    rw [f_ob_comeAgain_b32] at hf
    refine r_iload hX dX3_comeAgain_32 5 rfl ?_
    refine r_aload_n hX dX3_comeAgain_34 0 rfl ?_
    refine r_get hX fl_X3_9 (w_91 _ _ _) rfl dX3_comeAgain_35 ?_
    obtain ⟨v8, μ6, h7, hf⟩ := bd2_eq hf
    refine r_callVI (Ok.le hX (by omega)) (c_st_everybody (d := d)  h7) cv_X3_39 (w_4 _ _ _) rfl rfl (st := [.int x5]) rfl rfl rfl dX3_comeAgain_38 (fun dy => ?_)
    refine r_icmp_gt hX 140 dX3_comeAgain_41 rfl (fun hc9 => ?_) (fun hc9 => ?_)
    · rw [if_pos hc9] at hf
      refine r_aload_n hX dX3_comeAgain_140 0 rfl ?_
      refine r_get hX fl_X3_23 (w_91 _ _ _) rfl dX3_comeAgain_141 ?_
      refine r_iload_n hX dX3_comeAgain_144 3 rfl ?_
      refine r_i2l hX dX3_comeAgain_145 ?_
      obtain ⟨μ10, h11, hf⟩ := bd1_eq hf
      refine r_callVV (Ok.le hX (by omega)) (c_rw_only (d := d)  h11) cv_X3_123 (w_2 _ _ _) rfl rfl (st := []) rfl rfl rfl dX3_comeAgain_146 (fun dy => ?_)
      refine r_aload_n hX dX3_comeAgain_149 0 rfl ?_
      refine r_get hX fl_X3_23 (w_91 _ _ _) rfl dX3_comeAgain_150 ?_
      refine r_iload hX dX3_comeAgain_153 4 rfl ?_
      refine r_i2l hX dX3_comeAgain_155 ?_
      obtain ⟨μ12, h13, hf⟩ := bd1_eq hf
      refine r_callVV (Ok.le hX (by omega)) (c_rw_add (d := d)  h13) cv_X3_91 (w_2 _ _ _) rfl rfl (st := []) rfl rfl rfl dX3_comeAgain_156 (fun dy => ?_)
      refine r_iload_n hX dX3_comeAgain_159 2 rfl ?_
      exact fin_I hf hr _ _ _ dX3_comeAgain_160
    · rw [if_neg hc9] at hf
      refine r_aload_n hX dX3_comeAgain_44 0 rfl ?_
      refine r_iload hX dX3_comeAgain_45 5 rfl ?_
      refine r_iload_n hX dX3_comeAgain_47 1 rfl ?_
      obtain ⟨v16, μ14, h15, hf⟩ := bd2_eq hf
      refine r_callVI (Ok.le hX (by omega)) (c_ob_isFirmAs (d := d)  h15) cv_X3_98 (w_91 _ _ _) rfl rfl (st := []) rfl rfl rfl dX3_comeAgain_48 (fun dy => ?_)
      refine r_if_eq hX 134 dX3_comeAgain_51 rfl (fun hc17 => ?_) (fun hc17 => ?_)
      · rw [if_pos hc17] at hf
        refine r_iinc hX (x5 + (1 : Int32)) dX3_comeAgain_134 5 rfl rfl rfl (ls' := [(5, .int (x5 + (1 : Int32))), (0, .ref (gA (xG X) 91)), (1, .int x1), (2, .int x2), (3, .int x3), (4, .int x4)]) rfl ?_
        refine r_goto hX 32 dX3_comeAgain_137 rfl ?_
        refine r_weak [1, 2, 3, 4, 5, 0] rfl ?_
        exact ih _ _ _ _ _ _ _ hf
      · rw [if_neg hc17] at hf
        refine r_aload_n hX dX3_comeAgain_54 0 rfl ?_
        refine r_get hX fl_X3_19 (w_91 _ _ _) rfl dX3_comeAgain_55 ?_
        refine r_iconst hX (0 : Int32) dX3_comeAgain_58 rfl ?_
        refine r_iload hX dX3_comeAgain_59 5 rfl ?_
        obtain ⟨v20, μ18, h19, hf⟩ := bd2_eq hf
        refine r_callVI (Ok.le hX (by omega)) (c_me_recall (d := d)  h19) cv_X3_43 (w_90 _ _ _) rfl rfl (st := []) rfl rfl rfl dX3_comeAgain_61 (fun dy => ?_)
        refine r_iconst hX (-1 : Int32) dX3_comeAgain_64 rfl ?_
        refine r_icmp_ne hX 134 dX3_comeAgain_65 rfl (fun hc21 => ?_) (fun hc21 => ?_)
        · rw [if_neg hc21] at hf
          refine r_iinc hX (x5 + (1 : Int32)) dX3_comeAgain_134 5 rfl rfl rfl (ls' := [(5, .int (x5 + (1 : Int32))), (0, .ref (gA (xG X) 91)), (1, .int x1), (2, .int x2), (3, .int x3), (4, .int x4)]) rfl ?_
          refine r_goto hX 32 dX3_comeAgain_137 rfl ?_
          refine r_weak [1, 2, 3, 4, 5, 0] rfl ?_
          exact ih _ _ _ _ _ _ _ hf
        · rw [if_pos hc21] at hf
          refine r_aload_n hX dX3_comeAgain_68 0 rfl ?_
          refine r_iload hX dX3_comeAgain_69 5 rfl ?_
          refine r_iload hX dX3_comeAgain_71 5 rfl ?_
          refine r_iconst hX (-1 : Int32) dX3_comeAgain_73 rfl ?_
          obtain ⟨v24, μ22, h23, hf⟩ := bd2_eq hf
          refine r_callVI (Ok.le hX (by omega)) (c_ob_walkMarking (d := d)  h23) cv_X3_113 (w_91 _ _ _) rfl rfl (st := []) rfl rfl rfl dX3_comeAgain_74 (fun dy => ?_)
          refine r_istore hX dX3_comeAgain_77 rfl (ls' := [(6, .int v24), (0, .ref (gA (xG X) 91)), (1, .int x1), (2, .int x2), (3, .int x3), (4, .int x4), (5, .int x5)]) rfl ?_
          refine r_aload_n hX dX3_comeAgain_79 1 rfl ?_
          refine r_get hX fl_X3_19 (w_91 _ _ _) rfl dX3_comeAgain_80 ?_
          refine r_iconst hX (0 : Int32) dX3_comeAgain_83 rfl ?_
          refine r_iload hX dX3_comeAgain_84 0 rfl ?_
          obtain ⟨v27, μ25, h26, hf⟩ := bd2_eq hf
          refine r_callVI (Ok.le hX (by omega)) (c_me_recall (d := d)  h26) cv_X3_43 (w_90 _ _ _) rfl rfl (st := []) rfl rfl rfl dX3_comeAgain_86 (fun dy => ?_)
          refine r_iload hX dX3_comeAgain_89 6 rfl ?_
          refine r_icmp_ne hX 103 dX3_comeAgain_91 rfl (fun hc28 => ?_) (fun hc28 => ?_)
          · rw [if_neg hc28] at hf
            refine r_iconst hX (0 : Int32) dX3_comeAgain_103 rfl ?_
            refine r_weak [1, 2, 3, 4, 5, 6] rfl ?_
            exact b_ob_comeAgain_b104 hX hr ih _ _ _ _ _ _ _ _ hf
          · rw [if_pos hc28] at hf
            refine r_aload_n hX dX3_comeAgain_94 1 rfl ?_
            refine r_iload hX dX3_comeAgain_95 0 rfl ?_
            obtain ⟨v35, μ33, h34, hf⟩ := bd2_eq hf
            refine r_callVI (Ok.le hX (by omega)) (c_ob_roundOf (d := d)  h34) cv_X3_117 (w_91 _ _ _) rfl rfl (st := []) rfl rfl rfl dX3_comeAgain_97 (fun dy => ?_)
            refine r_goto hX 104 dX3_comeAgain_100 rfl ?_
            refine r_weak [1, 2, 3, 4, 5, 6] rfl ?_
            exact b_ob_comeAgain_b104 hX hr ih _ _ _ _ _ _ _ _ hf
set_option maxHeartbeats 4000000 in
set_option maxRecDepth 20000 in
theorem c_ob_comeAgain {G : Gx} {d : Nat}  {μ : Mem} {r : Int32 × Mem} (hf : f_ob_comeAgain  μ = some r) : Con G M_ob_comeAgain (d + 4) [.ref (gA G 91)] μ (some (.int r.1), r.2) := by
  refine Con.ofI ⟨rfl, rfl, Nat.le_of_ble_eq_true rfl⟩ rfl rfl (fun X hG hX hr dy => ?_)
  subst hG
  show AW X 0 [(0, .ref (gA (xG X) 91))] [] μ dy
  unfold f_ob_comeAgain at hf
  refine r_aload_n hX dX3_comeAgain_0 0 rfl ?_
  refine r_get hX fl_X3_9 (w_91 _ _ _) rfl dX3_comeAgain_1 ?_
  obtain ⟨v3, μ1, h2, hf⟩ := bd2_eq hf
  refine r_callVI (Ok.le hX (by omega)) (c_st_now (d := d)  h2) cv_X3_95 (w_4 _ _ _) rfl rfl (st := []) rfl rfl rfl dX3_comeAgain_4 (fun dy => ?_)
  refine r_istore_n hX dX3_comeAgain_7 rfl (ls' := [(1, .int v3), (0, .ref (gA (xG X) 91))]) rfl ?_
  refine r_iconst hX (0 : Int32) dX3_comeAgain_8 rfl ?_
  refine r_istore_n hX dX3_comeAgain_9 rfl (ls' := [(2, .int (0 : Int32)), (1, .int v3), (0, .ref (gA (xG X) 91))]) rfl ?_
  refine r_iconst hX (0 : Int32) dX3_comeAgain_10 rfl ?_
  refine r_istore_n hX dX3_comeAgain_11 rfl (ls' := [(3, .int (0 : Int32)), (2, .int (0 : Int32)), (1, .int v3), (0, .ref (gA (xG X) 91))]) rfl ?_
  refine r_iconst hX (0 : Int32) dX3_comeAgain_12 rfl ?_
  refine r_istore hX dX3_comeAgain_13 rfl (ls' := [(4, .int (0 : Int32)), (3, .int (0 : Int32)), (2, .int (0 : Int32)), (1, .int v3), (0, .ref (gA (xG X) 91))]) rfl ?_
  refine r_aload_n hX dX3_comeAgain_15 4 rfl ?_
  refine r_get hX fl_X3_19 (w_91 _ _ _) rfl dX3_comeAgain_16 ?_
  refine r_aload_n hX dX3_comeAgain_19 4 rfl ?_
  refine r_get hX fl_X3_9 (w_91 _ _ _) rfl dX3_comeAgain_20 ?_
  refine r_getN hX fl_X3_27 (w_4 _ _ _) rfl dX3_comeAgain_23 ?_
  obtain ⟨μ4, h5, hf⟩ := bd1_eq hf
  refine r_callVV (Ok.le hX (by omega)) (c_me_begin (d := d)  h5) cv_X3_33 (w_90 _ _ _) rfl rfl (st := []) rfl rfl rfl dX3_comeAgain_26 (fun dy => ?_)
  refine r_iconst hX (0 : Int32) dX3_comeAgain_29 rfl ?_
  refine r_istore hX dX3_comeAgain_30 rfl (ls' := [(5, .int (0 : Int32)), (4, .int (0 : Int32)), (3, .int (0 : Int32)), (2, .int (0 : Int32)), (1, .int v3), (0, .ref (gA (xG X) 91))]) rfl ?_
  refine r_weak [5, 4, 3, 2, 1, 0] rfl ?_
  exact b_ob_comeAgain_b32 hX hr FU _ _ _ _ _ _ _ hf
theorem dX3_leadTo_0 : decode cX3_leadTo 0 = .ok (.aload_n 0, 1) := by decide +kernel
theorem dX3_leadTo_1 : decode cX3_leadTo 1 = .ok (.getfield 9, 3) := by decide +kernel
theorem dX3_leadTo_4 : decode cX3_leadTo 4 = .ok (.invokevirtual 95, 3) := by decide +kernel
theorem dX3_leadTo_7 : decode cX3_leadTo 7 = .ok (.istore_n 2, 1) := by decide +kernel
theorem dX3_leadTo_8 : decode cX3_leadTo 8 = .ok (.iconst 0, 1) := by decide +kernel
theorem dX3_leadTo_9 : decode cX3_leadTo 9 = .ok (.istore_n 3, 1) := by decide +kernel
theorem dX3_leadTo_10 : decode cX3_leadTo 10 = .ok (.aload_n 0, 1) := by decide +kernel
theorem dX3_leadTo_11 : decode cX3_leadTo 11 = .ok (.getfield 19, 3) := by decide +kernel
theorem dX3_leadTo_14 : decode cX3_leadTo 14 = .ok (.aload_n 0, 1) := by decide +kernel
theorem dX3_leadTo_15 : decode cX3_leadTo 15 = .ok (.getfield 9, 3) := by decide +kernel
theorem dX3_leadTo_18 : decode cX3_leadTo 18 = .ok (.getfield 27, 3) := by decide +kernel
theorem dX3_leadTo_21 : decode cX3_leadTo 21 = .ok (.invokevirtual 33, 3) := by decide +kernel
theorem dX3_leadTo_24 : decode cX3_leadTo 24 = .ok (.aload_n 0, 1) := by decide +kernel
theorem dX3_leadTo_25 : decode cX3_leadTo 25 = .ok (.getfield 19, 3) := by decide +kernel
theorem dX3_leadTo_28 : decode cX3_leadTo 28 = .ok (.iconst 0, 1) := by decide +kernel
theorem dX3_leadTo_29 : decode cX3_leadTo 29 = .ok (.iload_n 1, 1) := by decide +kernel
theorem dX3_leadTo_30 : decode cX3_leadTo 30 = .ok (.iconst 1, 1) := by decide +kernel
theorem dX3_leadTo_31 : decode cX3_leadTo 31 = .ok (.invokevirtual 47, 3) := by decide +kernel
theorem dX3_leadTo_34 : decode cX3_leadTo 34 = .ok (.iconst 0, 1) := by decide +kernel
theorem dX3_leadTo_35 : decode cX3_leadTo 35 = .ok (.istore 4, 2) := by decide +kernel
theorem dX3_leadTo_37 : decode cX3_leadTo 37 = .ok (.iload 4, 2) := by decide +kernel
theorem dX3_leadTo_39 : decode cX3_leadTo 39 = .ok (.aload_n 0, 1) := by decide +kernel
theorem dX3_leadTo_40 : decode cX3_leadTo 40 = .ok (.getfield 9, 3) := by decide +kernel
theorem dX3_leadTo_43 : decode cX3_leadTo 43 = .ok (.invokevirtual 39, 3) := by decide +kernel
theorem dX3_leadTo_46 : decode cX3_leadTo 46 = .ok (.if_icmp .gt 78, 3) := by decide +kernel
theorem dX3_leadTo_49 : decode cX3_leadTo 49 = .ok (.aload_n 0, 1) := by decide +kernel
theorem dX3_leadTo_50 : decode cX3_leadTo 50 = .ok (.iload 4, 2) := by decide +kernel
theorem dX3_leadTo_52 : decode cX3_leadTo 52 = .ok (.iload_n 2, 1) := by decide +kernel
theorem dX3_leadTo_53 : decode cX3_leadTo 53 = .ok (.invokevirtual 98, 3) := by decide +kernel
theorem dX3_leadTo_56 : decode cX3_leadTo 56 = .ok (.ifCond .eq 62, 3) := by decide +kernel
theorem dX3_leadTo_59 : decode cX3_leadTo 59 = .ok (.aload_n 0, 1) := by decide +kernel
theorem dX3_leadTo_60 : decode cX3_leadTo 60 = .ok (.iload 4, 2) := by decide +kernel
theorem dX3_leadTo_62 : decode cX3_leadTo 62 = .ok (.iconst 3, 1) := by decide +kernel
theorem dX3_leadTo_63 : decode cX3_leadTo 63 = .ok (.iconst (-1), 1) := by decide +kernel
theorem dX3_leadTo_64 : decode cX3_leadTo 64 = .ok (.invokevirtual 113, 3) := by decide +kernel
theorem dX3_leadTo_67 : decode cX3_leadTo 67 = .ok (.istore 5, 2) := by decide +kernel
theorem dX3_leadTo_69 : decode cX3_leadTo 69 = .ok (.aload_n 0, 1) := by decide +kernel
theorem dX3_leadTo_70 : decode cX3_leadTo 70 = .ok (.iload 4, 2) := by decide +kernel
theorem dX3_leadTo_72 : decode cX3_leadTo 72 = .ok (.aload_n 0, 1) := by decide +kernel
theorem dX3_leadTo_73 : decode cX3_leadTo 73 = .ok (.getfield 19, 3) := by decide +kernel
theorem dX3_leadTo_76 : decode cX3_leadTo 76 = .ok (.iconst 0, 1) := by decide +kernel
theorem dX3_leadTo_77 : decode cX3_leadTo 77 = .ok (.iload 5, 2) := by decide +kernel
theorem dX3_leadTo_79 : decode cX3_leadTo 79 = .ok (.invokevirtual 43, 3) := by decide +kernel
theorem dX3_leadTo_82 : decode cX3_leadTo 82 = .ok (.iconst 1, 1) := by decide +kernel
theorem dX3_leadTo_83 : decode cX3_leadTo 83 = .ok (.if_icmp .ne 7, 3) := by decide +kernel
theorem dX3_leadTo_86 : decode cX3_leadTo 86 = .ok (.iconst 1, 1) := by decide +kernel
theorem dX3_leadTo_87 : decode cX3_leadTo 87 = .ok (.goto 4, 3) := by decide +kernel
theorem dX3_leadTo_90 : decode cX3_leadTo 90 = .ok (.iconst 2, 1) := by decide +kernel
theorem dX3_leadTo_91 : decode cX3_leadTo 91 = .ok (.iconst 3, 1) := by decide +kernel
theorem dX3_leadTo_92 : decode cX3_leadTo 92 = .ok (.invokevirtual 113, 3) := by decide +kernel
theorem dX3_leadTo_95 : decode cX3_leadTo 95 = .ok (.pop, 1) := by decide +kernel
theorem dX3_leadTo_96 : decode cX3_leadTo 96 = .ok (.iload_n 3, 1) := by decide +kernel
theorem dX3_leadTo_97 : decode cX3_leadTo 97 = .ok (.aload_n 0, 1) := by decide +kernel
theorem dX3_leadTo_98 : decode cX3_leadTo 98 = .ok (.getfield 19, 3) := by decide +kernel
theorem dX3_leadTo_101 : decode cX3_leadTo 101 = .ok (.iconst 0, 1) := by decide +kernel
theorem dX3_leadTo_102 : decode cX3_leadTo 102 = .ok (.iload 4, 2) := by decide +kernel
theorem dX3_leadTo_104 : decode cX3_leadTo 104 = .ok (.invokevirtual 43, 3) := by decide +kernel
theorem dX3_leadTo_107 : decode cX3_leadTo 107 = .ok (.iconst 1, 1) := by decide +kernel
theorem dX3_leadTo_108 : decode cX3_leadTo 108 = .ok (.if_icmp .ne 7, 3) := by decide +kernel
theorem dX3_leadTo_111 : decode cX3_leadTo 111 = .ok (.iconst 1, 1) := by decide +kernel
theorem dX3_leadTo_112 : decode cX3_leadTo 112 = .ok (.goto 4, 3) := by decide +kernel
theorem dX3_leadTo_115 : decode cX3_leadTo 115 = .ok (.iconst 0, 1) := by decide +kernel
theorem dX3_leadTo_116 : decode cX3_leadTo 116 = .ok (.iadd, 1) := by decide +kernel
theorem dX3_leadTo_117 : decode cX3_leadTo 117 = .ok (.istore_n 3, 1) := by decide +kernel
theorem dX3_leadTo_118 : decode cX3_leadTo 118 = .ok (.iinc 4 1, 3) := by decide +kernel
theorem dX3_leadTo_121 : decode cX3_leadTo 121 = .ok (.goto (-84), 3) := by decide +kernel
theorem dX3_leadTo_124 : decode cX3_leadTo 124 = .ok (.iload_n 3, 1) := by decide +kernel
theorem dX3_leadTo_125 : decode cX3_leadTo 125 = .ok (.ireturn, 1) := by decide +kernel
set_option maxHeartbeats 4000000 in
set_option maxRecDepth 20000 in
theorem b_ob_leadTo_b37 {X : Cx} {d : Nat} (hX : Ok M_ob_leadTo (d + 4) X) {r : Int32 × Mem} (hr : RetI M_ob_leadTo X r.1 r.2) : ∀ (n : Nat) (x2 : Int32) (x3 : Int32) (x4 : Int32) (μ : Mem) (dy : Nat → Nat), f_ob_leadTo_b37 n x2 x3 x4 μ = some r → AW X 37 [(0, .ref (gA (xG X) 91)), (2, .int x2), (3, .int x3), (4, .int x4)] [] μ dy := by
  intro n
  induction n with
  | zero => intro x2 x3 x4 μ dy hf; exact nomatch hf
  | succ n ih =>
    intro x2 x3 x4 μ dy hf
    rw [f_ob_leadTo_b37] at hf
    refine r_iload hX dX3_leadTo_37 3 rfl ?_
    refine r_aload_n hX dX3_leadTo_39 0 rfl ?_
    refine r_get hX fl_X3_9 (w_91 _ _ _) rfl dX3_leadTo_40 ?_
    obtain ⟨v10, μ8, h9, hf⟩ := bd2_eq hf
    refine r_callVI (Ok.le hX (by omega)) (c_st_everybody (d := d)  h9) cv_X3_39 (w_4 _ _ _) rfl rfl (st := [.int x4]) rfl rfl rfl dX3_leadTo_43 (fun dy => ?_)
    refine r_icmp_gt hX 124 dX3_leadTo_46 rfl (fun hc11 => ?_) (fun hc11 => ?_)
    · rw [if_pos hc11] at hf
      refine r_iload_n hX dX3_leadTo_124 2 rfl ?_
      exact fin_I hf hr _ _ _ dX3_leadTo_125
    · rw [if_neg hc11] at hf
      refine r_aload_n hX dX3_leadTo_49 0 rfl ?_
      refine r_iload hX dX3_leadTo_50 3 rfl ?_
      refine r_iload_n hX dX3_leadTo_52 1 rfl ?_
      obtain ⟨v14, μ12, h13, hf⟩ := bd2_eq hf
      refine r_callVI (Ok.le hX (by omega)) (c_ob_isFirmAs (d := d)  h13) cv_X3_98 (w_91 _ _ _) rfl rfl (st := []) rfl rfl rfl dX3_leadTo_53 (fun dy => ?_)
      refine r_if_eq hX 118 dX3_leadTo_56 rfl (fun hc15 => ?_) (fun hc15 => ?_)
      · rw [if_pos hc15] at hf
        refine r_iinc hX (x4 + (1 : Int32)) dX3_leadTo_118 3 rfl rfl rfl (ls' := [(4, .int (x4 + (1 : Int32))), (0, .ref (gA (xG X) 91)), (2, .int x2), (3, .int x3)]) rfl ?_
        refine r_goto hX 37 dX3_leadTo_121 rfl ?_
        refine r_weak [1, 2, 3, 0] rfl ?_
        exact ih _ _ _ _ _ hf
      · rw [if_neg hc15] at hf
        refine r_aload_n hX dX3_leadTo_59 0 rfl ?_
        refine r_iload hX dX3_leadTo_60 3 rfl ?_
        refine r_iconst hX (3 : Int32) dX3_leadTo_62 rfl ?_
        refine r_iconst hX (-1 : Int32) dX3_leadTo_63 rfl ?_
        obtain ⟨v18, μ16, h17, hf⟩ := bd2_eq hf
        refine r_callVI (Ok.le hX (by omega)) (c_ob_walkMarking (d := d)  h17) cv_X3_113 (w_91 _ _ _) rfl rfl (st := []) rfl rfl rfl dX3_leadTo_64 (fun dy => ?_)
        refine r_istore hX dX3_leadTo_67 rfl (ls' := [(5, .int v18), (0, .ref (gA (xG X) 91)), (2, .int x2), (3, .int x3), (4, .int x4)]) rfl ?_
        refine r_aload_n hX dX3_leadTo_69 1 rfl ?_
        refine r_iload hX dX3_leadTo_70 4 rfl ?_
        refine r_aload_n hX dX3_leadTo_72 1 rfl ?_
        refine r_get hX fl_X3_19 (w_91 _ _ _) rfl dX3_leadTo_73 ?_
        refine r_iconst hX (0 : Int32) dX3_leadTo_76 rfl ?_
        refine r_iload hX dX3_leadTo_77 0 rfl ?_
        obtain ⟨v21, μ19, h20, hf⟩ := bd2_eq hf
        refine r_callVI (Ok.le hX (by omega)) (c_me_recall (d := d)  h20) cv_X3_43 (w_90 _ _ _) rfl rfl (st := [.int x4, .ref (gA (xG X) 91)]) rfl rfl rfl dX3_leadTo_79 (fun dy => ?_)
        refine r_iconst hX (1 : Int32) dX3_leadTo_82 rfl ?_
        obtain ⟨v22, e23, hf⟩ := bnd_eq hf
        have J24 : AW X 91 [(5, .int v18), (0, .ref (gA (xG X) 91)), (2, .int x2), (3, .int x3), (4, .int x4)] [.int v22, .int x4, .ref (gA (xG X) 91)] μ19 dy := by
          refine r_iconst hX (3 : Int32) dX3_leadTo_91 rfl ?_
          obtain ⟨v27, μ25, h26, hf⟩ := bd2_eq hf
          refine r_callVI (Ok.le hX (by omega)) (c_ob_walkMarking (d := d)  h26) cv_X3_113 (w_91 _ _ _) rfl rfl (st := []) rfl rfl rfl dX3_leadTo_92 (fun dy => ?_)
          refine r_pop hX dX3_leadTo_95 rfl ?_
          refine r_iload_n hX dX3_leadTo_96 3 rfl ?_
          refine r_aload_n hX dX3_leadTo_97 1 rfl ?_
          refine r_get hX fl_X3_19 (w_91 _ _ _) rfl dX3_leadTo_98 ?_
          refine r_iconst hX (0 : Int32) dX3_leadTo_101 rfl ?_
          refine r_iload hX dX3_leadTo_102 4 rfl ?_
          obtain ⟨v30, μ28, h29, hf⟩ := bd2_eq hf
          refine r_callVI (Ok.le hX (by omega)) (c_me_recall (d := d)  h29) cv_X3_43 (w_90 _ _ _) rfl rfl (st := [.int x3]) rfl rfl rfl dX3_leadTo_104 (fun dy => ?_)
          refine r_iconst hX (1 : Int32) dX3_leadTo_107 rfl ?_
          obtain ⟨v31, e32, hf⟩ := bnd_eq hf
          have J33 : AW X 116 [(5, .int v18), (0, .ref (gA (xG X) 91)), (2, .int x2), (3, .int x3), (4, .int x4)] [.int v31, .int x3] μ28 dy := by
            refine r_iadd hX dX3_leadTo_116 ?_
            refine r_istore_n hX dX3_leadTo_117 rfl (ls' := [(3, .int (x3 + v31)), (5, .int v18), (0, .ref (gA (xG X) 91)), (2, .int x2), (4, .int x4)]) rfl ?_
            refine r_iinc hX (x4 + (1 : Int32)) dX3_leadTo_118 4 rfl rfl rfl (ls' := [(4, .int (x4 + (1 : Int32))), (3, .int (x3 + v31)), (5, .int v18), (0, .ref (gA (xG X) 91)), (2, .int x2)]) rfl ?_
            refine r_goto hX 37 dX3_leadTo_121 rfl ?_
            refine r_weak [3, 4, 1, 0] rfl ?_
            exact ih _ _ _ _ _ hf
          refine r_icmp_ne hX 115 dX3_leadTo_108 rfl (fun hc34 => ?_) (fun hc34 => ?_)
          · refine r_iconst hX (0 : Int32) dX3_leadTo_115 rfl ?_
            exact r_topI (e32.trans (by rw [if_neg hc34])) J33
          · refine r_iconst hX (1 : Int32) dX3_leadTo_111 rfl ?_
            refine r_goto hX 116 dX3_leadTo_112 rfl ?_
            exact r_topI (e32.trans (by rw [if_pos hc34])) J33
        refine r_icmp_ne hX 90 dX3_leadTo_83 rfl (fun hc35 => ?_) (fun hc35 => ?_)
        · refine r_iconst hX (2 : Int32) dX3_leadTo_90 rfl ?_
          exact r_topI (e23.trans (by rw [if_neg hc35])) J24
        · refine r_iconst hX (1 : Int32) dX3_leadTo_86 rfl ?_
          refine r_goto hX 91 dX3_leadTo_87 rfl ?_
          exact r_topI (e23.trans (by rw [if_pos hc35])) J24
set_option maxHeartbeats 4000000 in
set_option maxRecDepth 20000 in
theorem c_ob_leadTo {G : Gx} {d : Nat} {x1 : Int32} {μ : Mem} {r : Int32 × Mem} (hf : f_ob_leadTo x1 μ = some r) : Con G M_ob_leadTo (d + 4) [.ref (gA G 91), .int x1] μ (some (.int r.1), r.2) := by
  refine Con.ofI ⟨rfl, rfl, Nat.le_of_ble_eq_true rfl⟩ rfl rfl (fun X hG hX hr dy => ?_)
  subst hG
  show AW X 0 [(0, .ref (gA (xG X) 91)), (1, .int x1)] [] μ dy
  unfold f_ob_leadTo at hf
  refine r_aload_n hX dX3_leadTo_0 0 rfl ?_
  refine r_get hX fl_X3_9 (w_91 _ _ _) rfl dX3_leadTo_1 ?_
  obtain ⟨v3, μ1, h2, hf⟩ := bd2_eq hf
  refine r_callVI (Ok.le hX (by omega)) (c_st_now (d := d)  h2) cv_X3_95 (w_4 _ _ _) rfl rfl (st := []) rfl rfl rfl dX3_leadTo_4 (fun dy => ?_)
  refine r_istore_n hX dX3_leadTo_7 rfl (ls' := [(2, .int v3), (0, .ref (gA (xG X) 91)), (1, .int x1)]) rfl ?_
  refine r_iconst hX (0 : Int32) dX3_leadTo_8 rfl ?_
  refine r_istore_n hX dX3_leadTo_9 rfl (ls' := [(3, .int (0 : Int32)), (2, .int v3), (0, .ref (gA (xG X) 91)), (1, .int x1)]) rfl ?_
  refine r_aload_n hX dX3_leadTo_10 2 rfl ?_
  refine r_get hX fl_X3_19 (w_91 _ _ _) rfl dX3_leadTo_11 ?_
  refine r_aload_n hX dX3_leadTo_14 2 rfl ?_
  refine r_get hX fl_X3_9 (w_91 _ _ _) rfl dX3_leadTo_15 ?_
  refine r_getN hX fl_X3_27 (w_4 _ _ _) rfl dX3_leadTo_18 ?_
  obtain ⟨μ4, h5, hf⟩ := bd1_eq hf
  refine r_callVV (Ok.le hX (by omega)) (c_me_begin (d := d)  h5) cv_X3_33 (w_90 _ _ _) rfl rfl (st := []) rfl rfl rfl dX3_leadTo_21 (fun dy => ?_)
  refine r_aload_n hX dX3_leadTo_24 2 rfl ?_
  refine r_get hX fl_X3_19 (w_91 _ _ _) rfl dX3_leadTo_25 ?_
  refine r_iconst hX (0 : Int32) dX3_leadTo_28 rfl ?_
  refine r_iload_n hX dX3_leadTo_29 3 rfl ?_
  refine r_iconst hX (1 : Int32) dX3_leadTo_30 rfl ?_
  obtain ⟨μ6, h7, hf⟩ := bd1_eq hf
  refine r_callVV (Ok.le hX (by omega)) (c_me_note (d := d)  h7) cv_X3_47 (w_90 _ _ _) rfl rfl (st := []) rfl rfl rfl dX3_leadTo_31 (fun dy => ?_)
  refine r_iconst hX (0 : Int32) dX3_leadTo_34 rfl ?_
  refine r_istore hX dX3_leadTo_35 rfl (ls' := [(4, .int (0 : Int32)), (3, .int (0 : Int32)), (2, .int v3), (0, .ref (gA (xG X) 91)), (1, .int x1)]) rfl ?_
  refine r_weak [3, 2, 1, 0] rfl ?_
  exact b_ob_leadTo_b37 hX hr FU _ _ _ _ _ hf
theorem dX5_isTold_0 : decode cX5_isTold 0 = .ok (.aload_n 0, 1) := by decide +kernel
theorem dX5_isTold_1 : decode cX5_isTold 1 = .ok (.getfield 18, 3) := by decide +kernel
theorem dX5_isTold_4 : decode cX5_isTold 4 = .ok (.ifCond .le 7, 3) := by decide +kernel
theorem dX5_isTold_7 : decode cX5_isTold 7 = .ok (.iconst 1, 1) := by decide +kernel
theorem dX5_isTold_8 : decode cX5_isTold 8 = .ok (.goto 4, 3) := by decide +kernel
theorem dX5_isTold_11 : decode cX5_isTold 11 = .ok (.iconst 0, 1) := by decide +kernel
theorem dX5_isTold_12 : decode cX5_isTold 12 = .ok (.ireturn, 1) := by decide +kernel
set_option maxHeartbeats 4000000 in
set_option maxRecDepth 20000 in
theorem c_ru_isTold {G : Gx} {d : Nat} {t : Nat} (ht : t < 3)  {μ : Mem} {r : Int32 × Mem} (hf : f_ru_isTold t  μ = some r) : Con G M_ru_isTold (d + 0) [.ref (gA G (67 + 3 * t))] μ (some (.int r.1), r.2) := by
  refine Con.ofZ ⟨rfl, rfl, Nat.le_of_ble_eq_true rfl⟩ rfl (fun X hG hX hr dy => ?_)
  subst hG
  show AW X 0 [(0, .ref (gA (xG X) (67 + 3 * t)))] [] μ dy
  unfold f_ru_isTold at hf
  refine r_aload_n hX dX5_isTold_0 0 rfl ?_
  refine r_get hX fl_X5_18 (wRu_o ht) rfl dX5_isTold_1 ?_
  obtain ⟨v1, e2, hf⟩ := bnd_eq hf
  have J3 : AW X 12 [(0, .ref (gA (xG X) (67 + 3 * t)))] [.int v1] μ dy := by
    obtain ⟨b4, hf⟩ := chk_eq hf
    exact fin_Z hf hr _ _ _ (zb_nar b4) dX5_isTold_12
  refine r_if_le hX 11 dX5_isTold_4 rfl (fun hc5 => ?_) (fun hc5 => ?_)
  · refine r_iconst hX (0 : Int32) dX5_isTold_11 rfl ?_
    exact r_topI (e2.trans (by rw [if_pos hc5])) J3
  · refine r_iconst hX (1 : Int32) dX5_isTold_7 rfl ?_
    refine r_goto hX 12 dX5_isTold_8 rfl ?_
    exact r_topI (e2.trans (by rw [if_neg hc5])) J3
theorem dX5_clear_0 : decode cX5_clear 0 = .ok (.aload_n 0, 1) := by decide +kernel
theorem dX5_clear_1 : decode cX5_clear 1 = .ok (.iconst 0, 1) := by decide +kernel
theorem dX5_clear_2 : decode cX5_clear 2 = .ok (.putfield 18, 3) := by decide +kernel
theorem dX5_clear_5 : decode cX5_clear 5 = .ok (.return_, 1) := by decide +kernel
set_option maxHeartbeats 4000000 in
set_option maxRecDepth 20000 in
theorem c_ru_clear {G : Gx} {d : Nat} {t : Nat} (ht : t < 3)  {μ : Mem} {r : Mem} (hf : f_ru_clear t  μ = some r) : Con G M_ru_clear (d + 0) [.ref (gA G (67 + 3 * t))] μ (none, r) := by
  refine Con.ofV ⟨rfl, rfl, Nat.le_of_ble_eq_true rfl⟩ rfl (fun X hG hX hr dy => ?_)
  subst hG
  show AW X 0 [(0, .ref (gA (xG X) (67 + 3 * t)))] [] μ dy
  unfold f_ru_clear at hf
  refine r_aload_n hX dX5_clear_0 0 rfl ?_
  refine r_iconst hX (0 : Int32) dX5_clear_1 rfl ?_
  obtain ⟨μ1, e2, hf⟩ := bnd_eq hf
  refine r_put hX fl_X5_18 ft_X5_2 (wRu_o ht) rfl rfl rfl (sRu_size ht _) e2 rfl dX5_clear_2 ?_
  exact fin_V hf hr _ _ _ dX5_clear_5
theorem dX5_add_0 : decode cX5_add 0 = .ok (.aload_n 0, 1) := by decide +kernel
theorem dX5_add_1 : decode cX5_add 1 = .ok (.getfield 18, 3) := by decide +kernel
theorem dX5_add_4 : decode cX5_add 4 = .ok (.bipush 40, 2) := by decide +kernel
theorem dX5_add_6 : decode cX5_add 6 = .ok (.if_icmp .ge 20, 3) := by decide +kernel
theorem dX5_add_9 : decode cX5_add 9 = .ok (.aload_n 0, 1) := by decide +kernel
theorem dX5_add_10 : decode cX5_add 10 = .ok (.getfield 9, 3) := by decide +kernel
theorem dX5_add_13 : decode cX5_add 13 = .ok (.aload_n 0, 1) := by decide +kernel
theorem dX5_add_14 : decode cX5_add 14 = .ok (.dup, 1) := by decide +kernel
theorem dX5_add_15 : decode cX5_add 15 = .ok (.getfield 18, 3) := by decide +kernel
theorem dX5_add_18 : decode cX5_add 18 = .ok (.dup_x1, 1) := by decide +kernel
theorem dX5_add_19 : decode cX5_add 19 = .ok (.iconst 1, 1) := by decide +kernel
theorem dX5_add_20 : decode cX5_add 20 = .ok (.iadd, 1) := by decide +kernel
theorem dX5_add_21 : decode cX5_add 21 = .ok (.putfield 18, 3) := by decide +kernel
theorem dX5_add_24 : decode cX5_add 24 = .ok (.iload_n 1, 1) := by decide +kernel
theorem dX5_add_25 : decode cX5_add 25 = .ok (.iastore, 1) := by decide +kernel
theorem dX5_add_26 : decode cX5_add 26 = .ok (.return_, 1) := by decide +kernel
set_option maxHeartbeats 4000000 in
set_option maxRecDepth 20000 in
theorem c_ru_add {G : Gx} {d : Nat} {t : Nat} (ht : t < 3) {x1 : Int32} {μ : Mem} {r : Mem} (hf : f_ru_add t x1 μ = some r) : Con G M_ru_add (d + 0) [.ref (gA G (67 + 3 * t)), .int x1] μ (none, r) := by
  refine Con.ofV ⟨rfl, rfl, Nat.le_of_ble_eq_true rfl⟩ rfl (fun X hG hX hr dy => ?_)
  subst hG
  show AW X 0 [(0, .ref (gA (xG X) (67 + 3 * t))), (1, .int x1)] [] μ dy
  unfold f_ru_add at hf
  refine r_aload_n hX dX5_add_0 0 rfl ?_
  refine r_get hX fl_X5_18 (wRu_o ht) rfl dX5_add_1 ?_
  refine r_bipush hX (40 : Int32) dX5_add_4 rfl ?_
  refine r_icmp_ge hX 26 dX5_add_6 rfl (fun hc1 => ?_) (fun hc1 => ?_)
  · rw [if_pos hc1] at hf
    exact fin_V hf hr _ _ _ dX5_add_26
  · rw [if_neg hc1] at hf
    refine r_aload_n hX dX5_add_9 0 rfl ?_
    refine r_get hX fl_X5_9 (wRu_o ht) rfl dX5_add_10 ?_
    refine r_aload_n hX dX5_add_13 0 rfl ?_
    refine r_dup hX dX5_add_14 rfl ?_
    refine r_get hX fl_X5_18 (wRu_o ht) rfl dX5_add_15 ?_
    refine r_dup_x1 hX dX5_add_18 rfl rfl ?_
    refine r_iconst hX (1 : Int32) dX5_add_19 rfl ?_
    refine r_iadd hX dX5_add_20 ?_
    obtain ⟨μ2, e3, hf⟩ := bnd_eq hf
    refine r_put hX fl_X5_18 ft_X5_2 (wRu_o ht) rfl rfl rfl (sRu_size ht _) e3 rfl dX5_add_21 ?_
    refine r_iload_n hX dX5_add_24 1 rfl ?_
    obtain ⟨b4, hf⟩ := chk_eq hf
    obtain ⟨μ5, e6, hf⟩ := bnd_eq hf
    refine r_iast hX (wRu_c ht) (inb_in b4) (sRu_codes ht _ _) e6 rfl dX5_add_25 ?_
    exact fin_V hf hr _ _ _ dX5_add_26
theorem dX5_pop_0 : decode cX5_pop 0 = .ok (.aload_n 0, 1) := by decide +kernel
theorem dX5_pop_1 : decode cX5_pop 1 = .ok (.getfield 22, 3) := by decide +kernel
theorem dX5_pop_4 : decode cX5_pop 4 = .ok (.ifCond .le 22, 3) := by decide +kernel
theorem dX5_pop_7 : decode cX5_pop 7 = .ok (.aload_n 0, 1) := by decide +kernel
theorem dX5_pop_8 : decode cX5_pop 8 = .ok (.getfield 15, 3) := by decide +kernel
theorem dX5_pop_11 : decode cX5_pop 11 = .ok (.aload_n 0, 1) := by decide +kernel
theorem dX5_pop_12 : decode cX5_pop 12 = .ok (.dup, 1) := by decide +kernel
theorem dX5_pop_13 : decode cX5_pop 13 = .ok (.getfield 22, 3) := by decide +kernel
theorem dX5_pop_16 : decode cX5_pop 16 = .ok (.iconst 1, 1) := by decide +kernel
theorem dX5_pop_17 : decode cX5_pop 17 = .ok (.isub, 1) := by decide +kernel
theorem dX5_pop_18 : decode cX5_pop 18 = .ok (.dup_x1, 1) := by decide +kernel
theorem dX5_pop_19 : decode cX5_pop 19 = .ok (.putfield 22, 3) := by decide +kernel
theorem dX5_pop_22 : decode cX5_pop 22 = .ok (.iaload, 1) := by decide +kernel
theorem dX5_pop_23 : decode cX5_pop 23 = .ok (.goto 4, 3) := by decide +kernel
theorem dX5_pop_26 : decode cX5_pop 26 = .ok (.iconst 0, 1) := by decide +kernel
theorem dX5_pop_27 : decode cX5_pop 27 = .ok (.ireturn, 1) := by decide +kernel
set_option maxHeartbeats 4000000 in
set_option maxRecDepth 20000 in
theorem c_ru_pop {G : Gx} {d : Nat} {t : Nat} (ht : t < 3)  {μ : Mem} {r : Int32 × Mem} (hf : f_ru_pop t  μ = some r) : Con G M_ru_pop (d + 0) [.ref (gA G (67 + 3 * t))] μ (some (.int r.1), r.2) := by
  refine Con.ofI ⟨rfl, rfl, Nat.le_of_ble_eq_true rfl⟩ rfl rfl (fun X hG hX hr dy => ?_)
  subst hG
  show AW X 0 [(0, .ref (gA (xG X) (67 + 3 * t)))] [] μ dy
  unfold f_ru_pop at hf
  refine r_aload_n hX dX5_pop_0 0 rfl ?_
  refine r_get hX fl_X5_22 (wRu_o ht) rfl dX5_pop_1 ?_
  refine r_if_le hX 26 dX5_pop_4 rfl (fun hc1 => ?_) (fun hc1 => ?_)
  · rw [if_pos hc1] at hf
    refine r_iconst hX (0 : Int32) dX5_pop_26 rfl ?_
    exact fin_I hf hr _ _ _ dX5_pop_27
  · rw [if_neg hc1] at hf
    refine r_aload_n hX dX5_pop_7 0 rfl ?_
    refine r_get hX fl_X5_15 (wRu_o ht) rfl dX5_pop_8 ?_
    refine r_aload_n hX dX5_pop_11 0 rfl ?_
    refine r_dup hX dX5_pop_12 rfl ?_
    refine r_get hX fl_X5_22 (wRu_o ht) rfl dX5_pop_13 ?_
    refine r_iconst hX (1 : Int32) dX5_pop_16 rfl ?_
    refine r_isub hX dX5_pop_17 ?_
    refine r_dup_x1 hX dX5_pop_18 rfl rfl ?_
    obtain ⟨μ2, e3, hf⟩ := bnd_eq hf
    refine r_put hX fl_X5_22 ft_X5_3 (wRu_o ht) rfl rfl rfl (sRu_top ht _) e3 rfl dX5_pop_19 ?_
    obtain ⟨b4, hf⟩ := chk_eq hf
    refine r_iald hX (wRu_s ht) (inb_in b4) dX5_pop_22 ?_
    refine r_goto hX 27 dX5_pop_23 rfl ?_
    exact fin_I hf hr _ _ _ dX5_pop_27
theorem dX5_reckon_0 : decode cX5_reckon 0 = .ok (.iload_n 0, 1) := by decide +kernel
theorem dX5_reckon_1 : decode cX5_reckon 1 = .ok (.lookupswitch 105 #[(42, 67), (43, 59), (45, 63), (47, 71), (60, 83), (62, 94)], 59) := by decide +kernel
theorem dX5_reckon_60 : decode cX5_reckon 60 = .ok (.iload_n 1, 1) := by decide +kernel
theorem dX5_reckon_61 : decode cX5_reckon 61 = .ok (.iload_n 2, 1) := by decide +kernel
theorem dX5_reckon_62 : decode cX5_reckon 62 = .ok (.iadd, 1) := by decide +kernel
theorem dX5_reckon_63 : decode cX5_reckon 63 = .ok (.ireturn, 1) := by decide +kernel
theorem dX5_reckon_64 : decode cX5_reckon 64 = .ok (.iload_n 1, 1) := by decide +kernel
theorem dX5_reckon_65 : decode cX5_reckon 65 = .ok (.iload_n 2, 1) := by decide +kernel
theorem dX5_reckon_66 : decode cX5_reckon 66 = .ok (.isub, 1) := by decide +kernel
theorem dX5_reckon_67 : decode cX5_reckon 67 = .ok (.ireturn, 1) := by decide +kernel
theorem dX5_reckon_68 : decode cX5_reckon 68 = .ok (.iload_n 1, 1) := by decide +kernel
theorem dX5_reckon_69 : decode cX5_reckon 69 = .ok (.iload_n 2, 1) := by decide +kernel
theorem dX5_reckon_70 : decode cX5_reckon 70 = .ok (.imul, 1) := by decide +kernel
theorem dX5_reckon_71 : decode cX5_reckon 71 = .ok (.ireturn, 1) := by decide +kernel
theorem dX5_reckon_72 : decode cX5_reckon 72 = .ok (.iload_n 2, 1) := by decide +kernel
theorem dX5_reckon_73 : decode cX5_reckon 73 = .ok (.ifCond .ne 7, 3) := by decide +kernel
theorem dX5_reckon_76 : decode cX5_reckon 76 = .ok (.iconst 0, 1) := by decide +kernel
theorem dX5_reckon_77 : decode cX5_reckon 77 = .ok (.goto 6, 3) := by decide +kernel
theorem dX5_reckon_80 : decode cX5_reckon 80 = .ok (.iload_n 1, 1) := by decide +kernel
theorem dX5_reckon_81 : decode cX5_reckon 81 = .ok (.iload_n 2, 1) := by decide +kernel
theorem dX5_reckon_82 : decode cX5_reckon 82 = .ok (.idiv, 1) := by decide +kernel
theorem dX5_reckon_83 : decode cX5_reckon 83 = .ok (.ireturn, 1) := by decide +kernel
theorem dX5_reckon_84 : decode cX5_reckon 84 = .ok (.iload_n 1, 1) := by decide +kernel
theorem dX5_reckon_85 : decode cX5_reckon 85 = .ok (.iload_n 2, 1) := by decide +kernel
theorem dX5_reckon_86 : decode cX5_reckon 86 = .ok (.if_icmp .ge 7, 3) := by decide +kernel
theorem dX5_reckon_89 : decode cX5_reckon 89 = .ok (.iconst 1, 1) := by decide +kernel
theorem dX5_reckon_90 : decode cX5_reckon 90 = .ok (.goto 4, 3) := by decide +kernel
theorem dX5_reckon_93 : decode cX5_reckon 93 = .ok (.iconst 0, 1) := by decide +kernel
theorem dX5_reckon_94 : decode cX5_reckon 94 = .ok (.ireturn, 1) := by decide +kernel
theorem dX5_reckon_95 : decode cX5_reckon 95 = .ok (.iload_n 1, 1) := by decide +kernel
theorem dX5_reckon_96 : decode cX5_reckon 96 = .ok (.iload_n 2, 1) := by decide +kernel
theorem dX5_reckon_97 : decode cX5_reckon 97 = .ok (.if_icmp .le 7, 3) := by decide +kernel
theorem dX5_reckon_100 : decode cX5_reckon 100 = .ok (.iconst 1, 1) := by decide +kernel
theorem dX5_reckon_101 : decode cX5_reckon 101 = .ok (.goto 4, 3) := by decide +kernel
theorem dX5_reckon_104 : decode cX5_reckon 104 = .ok (.iconst 0, 1) := by decide +kernel
theorem dX5_reckon_105 : decode cX5_reckon 105 = .ok (.ireturn, 1) := by decide +kernel
theorem dX5_reckon_106 : decode cX5_reckon 106 = .ok (.iload_n 1, 1) := by decide +kernel
theorem dX5_reckon_107 : decode cX5_reckon 107 = .ok (.iload_n 2, 1) := by decide +kernel
theorem dX5_reckon_108 : decode cX5_reckon 108 = .ok (.if_icmp .ne 7, 3) := by decide +kernel
theorem dX5_reckon_111 : decode cX5_reckon 111 = .ok (.iconst 1, 1) := by decide +kernel
theorem dX5_reckon_112 : decode cX5_reckon 112 = .ok (.goto 4, 3) := by decide +kernel
theorem dX5_reckon_115 : decode cX5_reckon 115 = .ok (.iconst 0, 1) := by decide +kernel
theorem dX5_reckon_116 : decode cX5_reckon 116 = .ok (.ireturn, 1) := by decide +kernel
set_option maxHeartbeats 4000000 in
set_option maxRecDepth 20000 in
theorem c_ru_reckon {G : Gx} {d : Nat} {x0 : Int32} {x1 : Int32} {x2 : Int32} {μ : Mem} {r : Int32 × Mem} (hf : f_ru_reckon x0 x1 x2 μ = some r) : Con G M_ru_reckon (d + 0) [.int x0, .int x1, .int x2] μ (some (.int r.1), r.2) := by
  refine Con.ofI ⟨rfl, rfl, Nat.le_of_ble_eq_true rfl⟩ rfl rfl (fun X hG hX hr dy => ?_)
  subst hG
  show AW X 0 [(0, .int x0), (1, .int x1), (2, .int x2)] [] μ dy
  unfold f_ru_reckon at hf
  refine r_iload_n hX dX5_reckon_0 0 rfl ?_
  by_cases hc1 : x0 = 42
  · rw [if_pos hc1] at hf
    refine r_look hX (off := 67) 68 dX5_reckon_1 rfl (by rw [hc1]; rfl) rfl ?_
    refine r_iload_n hX dX5_reckon_68 1 rfl ?_
    refine r_iload_n hX dX5_reckon_69 2 rfl ?_
    refine r_imul hX dX5_reckon_70 ?_
    exact fin_I hf hr _ _ _ dX5_reckon_71
  · rw [if_neg hc1] at hf
    by_cases hc2 : x0 = 43
    · rw [if_pos hc2] at hf
      refine r_look hX (off := 59) 60 dX5_reckon_1 rfl (by rw [hc2]; rfl) rfl ?_
      refine r_iload_n hX dX5_reckon_60 1 rfl ?_
      refine r_iload_n hX dX5_reckon_61 2 rfl ?_
      refine r_iadd hX dX5_reckon_62 ?_
      exact fin_I hf hr _ _ _ dX5_reckon_63
    · rw [if_neg hc2] at hf
      by_cases hc3 : x0 = 45
      · rw [if_pos hc3] at hf
        refine r_look hX (off := 63) 64 dX5_reckon_1 rfl (by rw [hc3]; rfl) rfl ?_
        refine r_iload_n hX dX5_reckon_64 1 rfl ?_
        refine r_iload_n hX dX5_reckon_65 2 rfl ?_
        refine r_isub hX dX5_reckon_66 ?_
        exact fin_I hf hr _ _ _ dX5_reckon_67
      · rw [if_neg hc3] at hf
        by_cases hc4 : x0 = 47
        · rw [if_pos hc4] at hf
          refine r_look hX (off := 71) 72 dX5_reckon_1 rfl (by rw [hc4]; rfl) rfl ?_
          refine r_iload_n hX dX5_reckon_72 2 rfl ?_
          refine r_if_ne hX 80 dX5_reckon_73 rfl (fun hc5 => ?_) (fun hc5 => ?_)
          · rw [if_neg hc5] at hf
            refine r_iload_n hX dX5_reckon_80 1 rfl ?_
            refine r_iload_n hX dX5_reckon_81 2 rfl ?_
            obtain ⟨b6, hf⟩ := chk_eq hf
            refine r_idiv hX dX5_reckon_82 (of_decide_eq_true b6) ?_
            exact fin_I hf hr _ _ _ dX5_reckon_83
          · rw [if_pos hc5] at hf
            refine r_iconst hX (0 : Int32) dX5_reckon_76 rfl ?_
            refine r_goto hX 83 dX5_reckon_77 rfl ?_
            exact fin_I hf hr _ _ _ dX5_reckon_83
        · rw [if_neg hc4] at hf
          by_cases hc7 : x0 = 60
          · rw [if_pos hc7] at hf
            refine r_look hX (off := 83) 84 dX5_reckon_1 rfl (by rw [hc7]; rfl) rfl ?_
            refine r_iload_n hX dX5_reckon_84 1 rfl ?_
            refine r_iload_n hX dX5_reckon_85 2 rfl ?_
            obtain ⟨v8, e9, hf⟩ := bnd_eq hf
            have J10 : AW X 94 [(0, .int x0), (1, .int x1), (2, .int x2)] [.int v8] μ dy := by
              exact fin_I hf hr _ _ _ dX5_reckon_94
            refine r_icmp_ge hX 93 dX5_reckon_86 rfl (fun hc11 => ?_) (fun hc11 => ?_)
            · refine r_iconst hX (0 : Int32) dX5_reckon_93 rfl ?_
              exact r_topI (e9.trans (by rw [if_pos hc11])) J10
            · refine r_iconst hX (1 : Int32) dX5_reckon_89 rfl ?_
              refine r_goto hX 94 dX5_reckon_90 rfl ?_
              exact r_topI (e9.trans (by rw [if_neg hc11])) J10
          · rw [if_neg hc7] at hf
            by_cases hc12 : x0 = 62
            · rw [if_pos hc12] at hf
              refine r_look hX (off := 94) 95 dX5_reckon_1 rfl (by rw [hc12]; rfl) rfl ?_
              refine r_iload_n hX dX5_reckon_95 1 rfl ?_
              refine r_iload_n hX dX5_reckon_96 2 rfl ?_
              obtain ⟨v13, e14, hf⟩ := bnd_eq hf
              have J15 : AW X 105 [(0, .int x0), (1, .int x1), (2, .int x2)] [.int v13] μ dy := by
                exact fin_I hf hr _ _ _ dX5_reckon_105
              refine r_icmp_le hX 104 dX5_reckon_97 rfl (fun hc16 => ?_) (fun hc16 => ?_)
              · refine r_iconst hX (0 : Int32) dX5_reckon_104 rfl ?_
                exact r_topI (e14.trans (by rw [if_pos hc16])) J15
              · refine r_iconst hX (1 : Int32) dX5_reckon_100 rfl ?_
                refine r_goto hX 105 dX5_reckon_101 rfl ?_
                exact r_topI (e14.trans (by rw [if_neg hc16])) J15
            · rw [if_neg hc12] at hf
              refine r_look hX (off := 105) 106 dX5_reckon_1 rfl (by show Op.lookupswitch.offset [(42, 67), (43, 59), (45, 63), (47, 71), (60, 83), (62, 94)] 105 _ = 105; rw [Op.lookupswitch.offset_cons, if_neg (i32_nf (y := 42) (n := 42) hc1 rfl), Op.lookupswitch.offset_cons, if_neg (i32_nf (y := 43) (n := 43) hc2 rfl), Op.lookupswitch.offset_cons, if_neg (i32_nf (y := 45) (n := 45) hc3 rfl), Op.lookupswitch.offset_cons, if_neg (i32_nf (y := 47) (n := 47) hc4 rfl), Op.lookupswitch.offset_cons, if_neg (i32_nf (y := 60) (n := 60) hc7 rfl), Op.lookupswitch.offset_cons, if_neg (i32_nf (y := 62) (n := 62) hc12 rfl)]; rfl) rfl ?_
              refine r_iload_n hX dX5_reckon_106 1 rfl ?_
              refine r_iload_n hX dX5_reckon_107 2 rfl ?_
              obtain ⟨v17, e18, hf⟩ := bnd_eq hf
              have J19 : AW X 116 [(0, .int x0), (1, .int x1), (2, .int x2)] [.int v17] μ dy := by
                exact fin_I hf hr _ _ _ dX5_reckon_116
              refine r_icmp_ne hX 115 dX5_reckon_108 rfl (fun hc20 => ?_) (fun hc20 => ?_)
              · refine r_iconst hX (0 : Int32) dX5_reckon_115 rfl ?_
                exact r_topI (e18.trans (by rw [if_neg hc20])) J19
              · refine r_iconst hX (1 : Int32) dX5_reckon_111 rfl ?_
                refine r_goto hX 116 dX5_reckon_112 rfl ?_
                exact r_topI (e18.trans (by rw [if_pos hc20])) J19
theorem dX5_push_0 : decode cX5_push 0 = .ok (.aload_n 0, 1) := by decide +kernel
theorem dX5_push_1 : decode cX5_push 1 = .ok (.getfield 22, 3) := by decide +kernel
theorem dX5_push_4 : decode cX5_push 4 = .ok (.bipush 40, 2) := by decide +kernel
theorem dX5_push_6 : decode cX5_push 6 = .ok (.if_icmp .ge 20, 3) := by decide +kernel
theorem dX5_push_9 : decode cX5_push 9 = .ok (.aload_n 0, 1) := by decide +kernel
theorem dX5_push_10 : decode cX5_push 10 = .ok (.getfield 15, 3) := by decide +kernel
theorem dX5_push_13 : decode cX5_push 13 = .ok (.aload_n 0, 1) := by decide +kernel
theorem dX5_push_14 : decode cX5_push 14 = .ok (.dup, 1) := by decide +kernel
theorem dX5_push_15 : decode cX5_push 15 = .ok (.getfield 22, 3) := by decide +kernel
theorem dX5_push_18 : decode cX5_push 18 = .ok (.dup_x1, 1) := by decide +kernel
theorem dX5_push_19 : decode cX5_push 19 = .ok (.iconst 1, 1) := by decide +kernel
theorem dX5_push_20 : decode cX5_push 20 = .ok (.iadd, 1) := by decide +kernel
theorem dX5_push_21 : decode cX5_push 21 = .ok (.putfield 22, 3) := by decide +kernel
theorem dX5_push_24 : decode cX5_push 24 = .ok (.iload_n 1, 1) := by decide +kernel
theorem dX5_push_25 : decode cX5_push 25 = .ok (.iastore, 1) := by decide +kernel
theorem dX5_push_26 : decode cX5_push 26 = .ok (.return_, 1) := by decide +kernel
set_option maxHeartbeats 4000000 in
set_option maxRecDepth 20000 in
theorem c_ru_push {G : Gx} {d : Nat} {t : Nat} (ht : t < 3) {x1 : Int32} {μ : Mem} {r : Mem} (hf : f_ru_push t x1 μ = some r) : Con G M_ru_push (d + 0) [.ref (gA G (67 + 3 * t)), .int x1] μ (none, r) := by
  refine Con.ofV ⟨rfl, rfl, Nat.le_of_ble_eq_true rfl⟩ rfl (fun X hG hX hr dy => ?_)
  subst hG
  show AW X 0 [(0, .ref (gA (xG X) (67 + 3 * t))), (1, .int x1)] [] μ dy
  unfold f_ru_push at hf
  refine r_aload_n hX dX5_push_0 0 rfl ?_
  refine r_get hX fl_X5_22 (wRu_o ht) rfl dX5_push_1 ?_
  refine r_bipush hX (40 : Int32) dX5_push_4 rfl ?_
  refine r_icmp_ge hX 26 dX5_push_6 rfl (fun hc1 => ?_) (fun hc1 => ?_)
  · rw [if_pos hc1] at hf
    exact fin_V hf hr _ _ _ dX5_push_26
  · rw [if_neg hc1] at hf
    refine r_aload_n hX dX5_push_9 0 rfl ?_
    refine r_get hX fl_X5_15 (wRu_o ht) rfl dX5_push_10 ?_
    refine r_aload_n hX dX5_push_13 0 rfl ?_
    refine r_dup hX dX5_push_14 rfl ?_
    refine r_get hX fl_X5_22 (wRu_o ht) rfl dX5_push_15 ?_
    refine r_dup_x1 hX dX5_push_18 rfl rfl ?_
    refine r_iconst hX (1 : Int32) dX5_push_19 rfl ?_
    refine r_iadd hX dX5_push_20 ?_
    obtain ⟨μ2, e3, hf⟩ := bnd_eq hf
    refine r_put hX fl_X5_22 ft_X5_3 (wRu_o ht) rfl rfl rfl (sRu_top ht _) e3 rfl dX5_push_21 ?_
    refine r_iload_n hX dX5_push_24 1 rfl ?_
    obtain ⟨b4, hf⟩ := chk_eq hf
    obtain ⟨μ5, e6, hf⟩ := bnd_eq hf
    refine r_iast hX (wRu_s ht) (inb_in b4) (sRu_stack ht _ _) e6 rfl dX5_push_25 ?_
    exact fin_V hf hr _ _ _ dX5_push_26
theorem dX5_value_0 : decode cX5_value 0 = .ok (.aload_n 0, 1) := by decide +kernel
theorem dX5_value_1 : decode cX5_value 1 = .ok (.iconst 0, 1) := by decide +kernel
theorem dX5_value_2 : decode cX5_value 2 = .ok (.putfield 22, 3) := by decide +kernel
theorem dX5_value_5 : decode cX5_value 5 = .ok (.iconst 0, 1) := by decide +kernel
theorem dX5_value_6 : decode cX5_value 6 = .ok (.istore_n 2, 1) := by decide +kernel
theorem dX5_value_7 : decode cX5_value 7 = .ok (.iload_n 2, 1) := by decide +kernel
theorem dX5_value_8 : decode cX5_value 8 = .ok (.aload_n 0, 1) := by decide +kernel
theorem dX5_value_9 : decode cX5_value 9 = .ok (.getfield 18, 3) := by decide +kernel
theorem dX5_value_12 : decode cX5_value 12 = .ok (.if_icmp .ge 85, 3) := by decide +kernel
theorem dX5_value_15 : decode cX5_value 15 = .ok (.aload_n 0, 1) := by decide +kernel
theorem dX5_value_16 : decode cX5_value 16 = .ok (.getfield 9, 3) := by decide +kernel
theorem dX5_value_19 : decode cX5_value 19 = .ok (.iload_n 2, 1) := by decide +kernel
theorem dX5_value_20 : decode cX5_value 20 = .ok (.iaload, 1) := by decide +kernel
theorem dX5_value_21 : decode cX5_value 21 = .ok (.istore_n 3, 1) := by decide +kernel
theorem dX5_value_22 : decode cX5_value 22 = .ok (.iload_n 3, 1) := by decide +kernel
theorem dX5_value_23 : decode cX5_value 23 = .ok (.sipush 2000, 3) := by decide +kernel
theorem dX5_value_26 : decode cX5_value 26 = .ok (.if_icmp .lt 43, 3) := by decide +kernel
theorem dX5_value_29 : decode cX5_value 29 = .ok (.aload_n 0, 1) := by decide +kernel
theorem dX5_value_30 : decode cX5_value 30 = .ok (.invokevirtual 25, 3) := by decide +kernel
theorem dX5_value_33 : decode cX5_value 33 = .ok (.istore 4, 2) := by decide +kernel
theorem dX5_value_35 : decode cX5_value 35 = .ok (.aload_n 0, 1) := by decide +kernel
theorem dX5_value_36 : decode cX5_value 36 = .ok (.iload_n 3, 1) := by decide +kernel
theorem dX5_value_37 : decode cX5_value 37 = .ok (.sipush 2126, 3) := by decide +kernel
theorem dX5_value_40 : decode cX5_value 40 = .ok (.if_icmp .ne 9, 3) := by decide +kernel
theorem dX5_value_43 : decode cX5_value 43 = .ok (.iload 4, 2) := by decide +kernel
theorem dX5_value_45 : decode cX5_value 45 = .ok (.ineg, 1) := by decide +kernel
theorem dX5_value_46 : decode cX5_value 46 = .ok (.goto 17, 3) := by decide +kernel
theorem dX5_value_49 : decode cX5_value 49 = .ok (.iload_n 3, 1) := by decide +kernel
theorem dX5_value_50 : decode cX5_value 50 = .ok (.sipush 2000, 3) := by decide +kernel
theorem dX5_value_53 : decode cX5_value 53 = .ok (.isub, 1) := by decide +kernel
theorem dX5_value_54 : decode cX5_value 54 = .ok (.aload_n 0, 1) := by decide +kernel
theorem dX5_value_55 : decode cX5_value 55 = .ok (.invokevirtual 25, 3) := by decide +kernel
theorem dX5_value_58 : decode cX5_value 58 = .ok (.iload 4, 2) := by decide +kernel
theorem dX5_value_60 : decode cX5_value 60 = .ok (.invokestatic 29, 3) := by decide +kernel
theorem dX5_value_63 : decode cX5_value 63 = .ok (.invokevirtual 33, 3) := by decide +kernel
theorem dX5_value_66 : decode cX5_value 66 = .ok (.goto 25, 3) := by decide +kernel
theorem dX5_value_69 : decode cX5_value 69 = .ok (.aload_n 0, 1) := by decide +kernel
theorem dX5_value_70 : decode cX5_value 70 = .ok (.iload_n 3, 1) := by decide +kernel
theorem dX5_value_71 : decode cX5_value 71 = .ok (.sipush 1000, 3) := by decide +kernel
theorem dX5_value_74 : decode cX5_value 74 = .ok (.if_icmp .lt 13, 3) := by decide +kernel
theorem dX5_value_77 : decode cX5_value 77 = .ok (.aload_n 1, 1) := by decide +kernel
theorem dX5_value_78 : decode cX5_value 78 = .ok (.iload_n 3, 1) := by decide +kernel
theorem dX5_value_79 : decode cX5_value 79 = .ok (.sipush 1000, 3) := by decide +kernel
theorem dX5_value_82 : decode cX5_value 82 = .ok (.isub, 1) := by decide +kernel
theorem dX5_value_83 : decode cX5_value 83 = .ok (.iaload, 1) := by decide +kernel
theorem dX5_value_84 : decode cX5_value 84 = .ok (.goto 4, 3) := by decide +kernel
theorem dX5_value_87 : decode cX5_value 87 = .ok (.iload_n 3, 1) := by decide +kernel
theorem dX5_value_88 : decode cX5_value 88 = .ok (.invokevirtual 33, 3) := by decide +kernel
theorem dX5_value_91 : decode cX5_value 91 = .ok (.iinc 2 1, 3) := by decide +kernel
theorem dX5_value_94 : decode cX5_value 94 = .ok (.goto (-87), 3) := by decide +kernel
theorem dX5_value_97 : decode cX5_value 97 = .ok (.aload_n 0, 1) := by decide +kernel
theorem dX5_value_98 : decode cX5_value 98 = .ok (.invokevirtual 25, 3) := by decide +kernel
theorem dX5_value_101 : decode cX5_value 101 = .ok (.ireturn, 1) := by decide +kernel
set_option maxHeartbeats 4000000 in
set_option maxRecDepth 20000 in
theorem b_ru_value_b88 {X : Cx} {d : Nat} {t : Nat} {i : Nat} (ht : t < 3) (hi : i < 14) (hX : Ok M_ru_value (d + 1) X) {r : Int32 × Mem} (hr : RetI M_ru_value X r.1 r.2) {k7 : Int32 → Mem → Option (Int32 × Mem)} (hk7 : ∀ (x2 : Int32) (μ : Mem) (dy : Nat → Nat), k7 x2 μ = some r → AW X 7 [(0, .ref (gA (xG X) (67 + 3 * t))), (1, .ref (gA (xG X) (95 + i))), (2, .int x2)] [] μ dy) (x2 : Int32) (s1 : Int32) (μ : Mem) (dy : Nat → Nat) (hf : f_ru_value_b88 t i k7 x2 s1 μ = some r) : AW X 88 [(0, .ref (gA (xG X) (67 + 3 * t))), (1, .ref (gA (xG X) (95 + i))), (2, .int x2)] [.int s1, .ref (gA (xG X) (67 + 3 * t))] μ dy := by
  unfold f_ru_value_b88 at hf
  obtain ⟨μ12, h13, hf⟩ := bd1_eq hf
  refine r_callVV (Ok.le hX (by omega)) (c_ru_push (d := d) ht h13) cv_X5_33 (wRu_o ht) rfl rfl (st := []) rfl rfl rfl dX5_value_88 (fun dy => ?_)
  refine r_iinc hX (x2 + (1 : Int32)) dX5_value_91 2 rfl rfl rfl (ls' := [(2, .int (x2 + (1 : Int32))), (0, .ref (gA (xG X) (67 + 3 * t))), (1, .ref (gA (xG X) (95 + i)))]) rfl ?_
  refine r_goto hX 7 dX5_value_94 rfl ?_
  refine r_weak [1, 2, 0] rfl ?_
  exact hk7 _ _ _ hf
set_option maxHeartbeats 4000000 in
set_option maxRecDepth 20000 in
theorem b_ru_value_b63 {X : Cx} {d : Nat} {t : Nat} {i : Nat} (ht : t < 3) (hi : i < 14) (hX : Ok M_ru_value (d + 1) X) {r : Int32 × Mem} (hr : RetI M_ru_value X r.1 r.2) {k7 : Int32 → Mem → Option (Int32 × Mem)} (hk7 : ∀ (x2 : Int32) (μ : Mem) (dy : Nat → Nat), k7 x2 μ = some r → AW X 7 [(0, .ref (gA (xG X) (67 + 3 * t))), (1, .ref (gA (xG X) (95 + i))), (2, .int x2)] [] μ dy) (x2 : Int32) (s1 : Int32) (μ : Mem) (dy : Nat → Nat) (hf : f_ru_value_b63 t i k7 x2 s1 μ = some r) : AW X 63 [(0, .ref (gA (xG X) (67 + 3 * t))), (1, .ref (gA (xG X) (95 + i))), (2, .int x2)] [.int s1, .ref (gA (xG X) (67 + 3 * t))] μ dy := by
  unfold f_ru_value_b63 at hf
  obtain ⟨μ25, h26, hf⟩ := bd1_eq hf
  refine r_callVV (Ok.le hX (by omega)) (c_ru_push (d := d) ht h26) cv_X5_33 (wRu_o ht) rfl rfl (st := []) rfl rfl rfl dX5_value_63 (fun dy => ?_)
  refine r_goto hX 91 dX5_value_66 rfl ?_
  refine r_iinc hX (x2 + (1 : Int32)) dX5_value_91 2 rfl rfl rfl (ls' := [(2, .int (x2 + (1 : Int32))), (0, .ref (gA (xG X) (67 + 3 * t))), (1, .ref (gA (xG X) (95 + i)))]) rfl ?_
  refine r_goto hX 7 dX5_value_94 rfl ?_
  refine r_weak [1, 2, 0] rfl ?_
  exact hk7 _ _ _ hf
set_option maxHeartbeats 4000000 in
set_option maxRecDepth 20000 in
theorem b_ru_value_b7 {X : Cx} {d : Nat} {t : Nat} {i : Nat} (ht : t < 3) (hi : i < 14) (hX : Ok M_ru_value (d + 1) X) {r : Int32 × Mem} (hr : RetI M_ru_value X r.1 r.2) : ∀ (n : Nat) (x2 : Int32) (μ : Mem) (dy : Nat → Nat), f_ru_value_b7 t i n x2 μ = some r → AW X 7 [(0, .ref (gA (xG X) (67 + 3 * t))), (1, .ref (gA (xG X) (95 + i))), (2, .int x2)] [] μ dy := by
  intro n
  induction n with
  | zero => intro x2 μ dy hf; exact nomatch hf
  | succ n ih =>
    intro x2 μ dy hf
    rw [f_ru_value_b7] at hf
    refine r_iload_n hX dX5_value_7 2 rfl ?_
    refine r_aload_n hX dX5_value_8 0 rfl ?_
    refine r_get hX fl_X5_18 (wRu_o ht) rfl dX5_value_9 ?_
    refine r_icmp_ge hX 97 dX5_value_12 rfl (fun hc3 => ?_) (fun hc3 => ?_)
    · rw [if_pos hc3] at hf
      refine r_aload_n hX dX5_value_97 0 rfl ?_
      obtain ⟨v6, μ4, h5, hf⟩ := bd2_eq hf
      refine r_callVI (Ok.le hX (by omega)) (c_ru_pop (d := d) ht h5) cv_X5_25 (wRu_o ht) rfl rfl (st := []) rfl rfl rfl dX5_value_98 (fun dy => ?_)
      exact fin_I hf hr _ _ _ dX5_value_101
    · rw [if_neg hc3] at hf
      refine r_aload_n hX dX5_value_15 0 rfl ?_
      refine r_get hX fl_X5_9 (wRu_o ht) rfl dX5_value_16 ?_
      refine r_iload_n hX dX5_value_19 2 rfl ?_
      obtain ⟨b7, hf⟩ := chk_eq hf
      refine r_iald hX (wRu_c ht) (inb_in b7) dX5_value_20 ?_
      obtain ⟨v8, e9, hf⟩ := bnd_eq hf
      refine r_topI e9 ?_
      refine r_istore_n hX dX5_value_21 rfl (ls' := [(3, .int v8), (0, .ref (gA (xG X) (67 + 3 * t))), (1, .ref (gA (xG X) (95 + i))), (2, .int x2)]) rfl ?_
      refine r_iload_n hX dX5_value_22 0 rfl ?_
      refine r_sipush hX (2000 : Int32) dX5_value_23 rfl ?_
      refine r_icmp_lt hX 69 dX5_value_26 rfl (fun hc10 => ?_) (fun hc10 => ?_)
      · rw [if_pos hc10] at hf
        refine r_aload_n hX dX5_value_69 1 rfl ?_
        refine r_iload_n hX dX5_value_70 0 rfl ?_
        refine r_sipush hX (1000 : Int32) dX5_value_71 rfl ?_
        refine r_icmp_lt hX 87 dX5_value_74 rfl (fun hc11 => ?_) (fun hc11 => ?_)
        · rw [if_pos hc11] at hf
          refine r_iload_n hX dX5_value_87 0 rfl ?_
          refine r_weak [1, 2, 3] rfl ?_
          exact b_ru_value_b88 ht hi hX hr ih _ _ _ _ hf
        · rw [if_neg hc11] at hf
          refine r_aload_n hX dX5_value_77 2 rfl ?_
          refine r_iload_n hX dX5_value_78 0 rfl ?_
          refine r_sipush hX (1000 : Int32) dX5_value_79 rfl ?_
          refine r_isub hX dX5_value_82 ?_
          obtain ⟨b14, hf⟩ := chk_eq hf
          refine r_iald hX (wFa hi) (inb_in b14) dX5_value_83 ?_
          refine r_goto hX 88 dX5_value_84 rfl ?_
          refine r_weak [1, 2, 3] rfl ?_
          exact b_ru_value_b88 ht hi hX hr ih _ _ _ _ hf
      · rw [if_neg hc10] at hf
        refine r_aload_n hX dX5_value_29 1 rfl ?_
        obtain ⟨v17, μ15, h16, hf⟩ := bd2_eq hf
        refine r_callVI (Ok.le hX (by omega)) (c_ru_pop (d := d) ht h16) cv_X5_25 (wRu_o ht) rfl rfl (st := []) rfl rfl rfl dX5_value_30 (fun dy => ?_)
        refine r_istore hX dX5_value_33 rfl (ls' := [(4, .int v17), (3, .int v8), (0, .ref (gA (xG X) (67 + 3 * t))), (1, .ref (gA (xG X) (95 + i))), (2, .int x2)]) rfl ?_
        refine r_aload_n hX dX5_value_35 2 rfl ?_
        refine r_iload_n hX dX5_value_36 1 rfl ?_
        refine r_sipush hX (2126 : Int32) dX5_value_37 rfl ?_
        refine r_icmp_ne hX 49 dX5_value_40 rfl (fun hc18 => ?_) (fun hc18 => ?_)
        · rw [if_neg hc18] at hf
          refine r_iload_n hX dX5_value_49 1 rfl ?_
          refine r_sipush hX (2000 : Int32) dX5_value_50 rfl ?_
          refine r_isub hX dX5_value_53 ?_
          refine r_aload_n hX dX5_value_54 2 rfl ?_
          obtain ⟨v21, μ19, h20, hf⟩ := bd2_eq hf
          refine r_callVI (Ok.le hX (by omega)) (c_ru_pop (d := d) ht h20) cv_X5_25 (wRu_o ht) rfl rfl (st := [.int (v8 - (2000 : Int32)), .ref (gA (xG X) (67 + 3 * t))]) rfl rfl rfl dX5_value_55 (fun dy => ?_)
          refine r_iload hX dX5_value_58 0 rfl ?_
          obtain ⟨v24, μ22, h23, hf⟩ := bd2_eq hf
          refine r_callSI (Ok.le hX (by omega)) (c_ru_reckon (d := d)  h23) cs_X5_29 (st := [.ref (gA (xG X) (67 + 3 * t))]) rfl rfl rfl dX5_value_60 (fun dy => ?_)
          refine r_weak [2, 3, 4] rfl ?_
          exact b_ru_value_b63 ht hi hX hr ih _ _ _ _ hf
        · rw [if_pos hc18] at hf
          refine r_iload hX dX5_value_43 0 rfl ?_
          refine r_ineg hX dX5_value_45 ?_
          refine r_goto hX 63 dX5_value_46 rfl ?_
          refine r_weak [2, 3, 4] rfl ?_
          exact b_ru_value_b63 ht hi hX hr ih _ _ _ _ hf
set_option maxHeartbeats 4000000 in
set_option maxRecDepth 20000 in
theorem c_ru_value {G : Gx} {d : Nat} {t : Nat} {i : Nat} (ht : t < 3) (hi : i < 14)  {μ : Mem} {r : Int32 × Mem} (hf : f_ru_value t i  μ = some r) : Con G M_ru_value (d + 1) [.ref (gA G (67 + 3 * t)), .ref (gA G (95 + i))] μ (some (.int r.1), r.2) := by
  refine Con.ofI ⟨rfl, rfl, Nat.le_of_ble_eq_true rfl⟩ rfl rfl (fun X hG hX hr dy => ?_)
  subst hG
  show AW X 0 [(0, .ref (gA (xG X) (67 + 3 * t))), (1, .ref (gA (xG X) (95 + i)))] [] μ dy
  unfold f_ru_value at hf
  refine r_aload_n hX dX5_value_0 0 rfl ?_
  refine r_iconst hX (0 : Int32) dX5_value_1 rfl ?_
  obtain ⟨μ1, e2, hf⟩ := bnd_eq hf
  refine r_put hX fl_X5_22 ft_X5_3 (wRu_o ht) rfl rfl rfl (sRu_top ht _) e2 rfl dX5_value_2 ?_
  refine r_iconst hX (0 : Int32) dX5_value_5 rfl ?_
  refine r_istore_n hX dX5_value_6 rfl (ls' := [(2, .int (0 : Int32)), (0, .ref (gA (xG X) (67 + 3 * t))), (1, .ref (gA (xG X) (95 + i)))]) rfl ?_
  refine r_weak [1, 2, 0] rfl ?_
  exact b_ru_value_b7 ht hi hX hr FU _ _ _ hf
theorem dX6_isOneOf_0 : decode cX6_isOneOf 0 = .ok (.aload_n 0, 1) := by decide +kernel
theorem dX6_isOneOf_1 : decode cX6_isOneOf 1 = .ok (.getfield 36, 3) := by decide +kernel
theorem dX6_isOneOf_4 : decode cX6_isOneOf 4 = .ok (.aload_n 0, 1) := by decide +kernel
theorem dX6_isOneOf_5 : decode cX6_isOneOf 5 = .ok (.getfield 32, 3) := by decide +kernel
theorem dX6_isOneOf_8 : decode cX6_isOneOf 8 = .ok (.if_icmp .ge 24, 3) := by decide +kernel
theorem dX6_isOneOf_11 : decode cX6_isOneOf 11 = .ok (.aload_n 1, 1) := by decide +kernel
theorem dX6_isOneOf_12 : decode cX6_isOneOf 12 = .ok (.aload_n 0, 1) := by decide +kernel
theorem dX6_isOneOf_13 : decode cX6_isOneOf 13 = .ok (.getfield 22, 3) := by decide +kernel
theorem dX6_isOneOf_16 : decode cX6_isOneOf 16 = .ok (.aload_n 0, 1) := by decide +kernel
theorem dX6_isOneOf_17 : decode cX6_isOneOf 17 = .ok (.getfield 36, 3) := by decide +kernel
theorem dX6_isOneOf_20 : decode cX6_isOneOf 20 = .ok (.iaload, 1) := by decide +kernel
theorem dX6_isOneOf_21 : decode cX6_isOneOf 21 = .ok (.i2c, 1) := by decide +kernel
theorem dX6_isOneOf_22 : decode cX6_isOneOf 22 = .ok (.invokevirtual 76, 3) := by decide +kernel
theorem dX6_isOneOf_25 : decode cX6_isOneOf 25 = .ok (.ifCond .lt 7, 3) := by decide +kernel
theorem dX6_isOneOf_28 : decode cX6_isOneOf 28 = .ok (.iconst 1, 1) := by decide +kernel
theorem dX6_isOneOf_29 : decode cX6_isOneOf 29 = .ok (.goto 4, 3) := by decide +kernel
theorem dX6_isOneOf_32 : decode cX6_isOneOf 32 = .ok (.iconst 0, 1) := by decide +kernel
theorem dX6_isOneOf_33 : decode cX6_isOneOf 33 = .ok (.ireturn, 1) := by decide +kernel
set_option maxHeartbeats 4000000 in
set_option maxRecDepth 20000 in
theorem c_rr_isOneOf {G : Gx} {d : Nat} {s : Nat} (hs : s < 8)  {μ : Mem} {r : Int32 × Mem} (hf : f_rr_isOneOf s  μ = some r) : Con G M_rr_isOneOf (d + 9) [.ref (gA G 78), .ref (gK G s)] μ (some (.int r.1), r.2) := by
  refine Con.ofZ ⟨rfl, rfl, Nat.le_of_ble_eq_true rfl⟩ rfl (fun X hG hX hr dy => ?_)
  subst hG
  show AW X 0 [(0, .ref (gA (xG X) 78)), (1, .ref (gK (xG X) s))] [] μ dy
  unfold f_rr_isOneOf at hf
  refine r_aload_n hX dX6_isOneOf_0 0 rfl ?_
  refine r_get hX fl_X6_36 (w_78 _ _ _) rfl dX6_isOneOf_1 ?_
  refine r_aload_n hX dX6_isOneOf_4 0 rfl ?_
  refine r_get hX fl_X6_32 (w_78 _ _ _) rfl dX6_isOneOf_5 ?_
  refine r_icmp_ge hX 32 dX6_isOneOf_8 rfl (fun hc1 => ?_) (fun hc1 => ?_)
  · rw [if_pos hc1] at hf
    refine r_iconst hX (0 : Int32) dX6_isOneOf_32 rfl ?_
    obtain ⟨b2, hf⟩ := chk_eq hf
    exact fin_Z hf hr _ _ _ (zb_nar b2) dX6_isOneOf_33
  · rw [if_neg hc1] at hf
    refine r_aload_n hX dX6_isOneOf_11 1 rfl ?_
    refine r_aload_n hX dX6_isOneOf_12 0 rfl ?_
    by_cases hc3 : μ.1 v_rr_text 0 = 1
    · rw [if_pos hc3] at hf
      refine r_get hX fl_X6_22 (w_78 _ _ _) (v := .ref (gA (xG X) 1)) (dynT hc3) dX6_isOneOf_13 ?_
      refine r_aload_n hX dX6_isOneOf_16 0 rfl ?_
      refine r_get hX fl_X6_36 (w_78 _ _ _) rfl dX6_isOneOf_17 ?_
      obtain ⟨b4, hf⟩ := chk_eq hf
      refine r_iald hX (w_1 _ _ _) (inb_in b4) dX6_isOneOf_20 ?_
      refine r_i2c hX dX6_isOneOf_21 ?_
      obtain ⟨b7, hf⟩ := chk_eq hf
      obtain ⟨v5, e6, hf⟩ := bnd_eq hf
      refine r_indexOf (d := d + 1) (Ok.le hX (by omega)) hs cv_X6_76 b7 e6 rfl dX6_isOneOf_22 (fun dy => ?_)
      obtain ⟨v8, e9, hf⟩ := bnd_eq hf
      have J10 : AW X 33 [(0, .ref (gA (xG X) 78)), (1, .ref (gK (xG X) s))] [.int v8] μ dy := by
        obtain ⟨b11, hf⟩ := chk_eq hf
        exact fin_Z hf hr _ _ _ (zb_nar b11) dX6_isOneOf_33
      refine r_if_lt hX 32 dX6_isOneOf_25 rfl (fun hc12 => ?_) (fun hc12 => ?_)
      · refine r_iconst hX (0 : Int32) dX6_isOneOf_32 rfl ?_
        exact r_topI (e9.trans (by rw [if_pos hc12])) J10
      · refine r_iconst hX (1 : Int32) dX6_isOneOf_28 rfl ?_
        refine r_goto hX 33 dX6_isOneOf_29 rfl ?_
        exact r_topI (e9.trans (by rw [if_neg hc12])) J10
    · rw [if_neg hc3] at hf
      exact nomatch hf
theorem dX6_number_0 : decode cX6_number 0 = .ok (.iconst 0, 1) := by decide +kernel
theorem dX6_number_1 : decode cX6_number 1 = .ok (.istore_n 1, 1) := by decide +kernel
theorem dX6_number_2 : decode cX6_number 2 = .ok (.iconst 0, 1) := by decide +kernel
theorem dX6_number_3 : decode cX6_number 3 = .ok (.istore_n 2, 1) := by decide +kernel
theorem dX6_number_4 : decode cX6_number 4 = .ok (.iload_n 2, 1) := by decide +kernel
theorem dX6_number_5 : decode cX6_number 5 = .ok (.iconst 3, 1) := by decide +kernel
theorem dX6_number_6 : decode cX6_number 6 = .ok (.if_icmp .ge 73, 3) := by decide +kernel
theorem dX6_number_9 : decode cX6_number 9 = .ok (.aload_n 0, 1) := by decide +kernel
theorem dX6_number_10 : decode cX6_number 10 = .ok (.getfield 36, 3) := by decide +kernel
theorem dX6_number_13 : decode cX6_number 13 = .ok (.aload_n 0, 1) := by decide +kernel
theorem dX6_number_14 : decode cX6_number 14 = .ok (.getfield 32, 3) := by decide +kernel
theorem dX6_number_17 : decode cX6_number 17 = .ok (.if_icmp .ge 62, 3) := by decide +kernel
theorem dX6_number_20 : decode cX6_number 20 = .ok (.aload_n 0, 1) := by decide +kernel
theorem dX6_number_21 : decode cX6_number 21 = .ok (.getfield 22, 3) := by decide +kernel
theorem dX6_number_24 : decode cX6_number 24 = .ok (.aload_n 0, 1) := by decide +kernel
theorem dX6_number_25 : decode cX6_number 25 = .ok (.getfield 36, 3) := by decide +kernel
theorem dX6_number_28 : decode cX6_number 28 = .ok (.iaload, 1) := by decide +kernel
theorem dX6_number_29 : decode cX6_number 29 = .ok (.bipush 48, 2) := by decide +kernel
theorem dX6_number_31 : decode cX6_number 31 = .ok (.if_icmp .lt 48, 3) := by decide +kernel
theorem dX6_number_34 : decode cX6_number 34 = .ok (.aload_n 0, 1) := by decide +kernel
theorem dX6_number_35 : decode cX6_number 35 = .ok (.getfield 22, 3) := by decide +kernel
theorem dX6_number_38 : decode cX6_number 38 = .ok (.aload_n 0, 1) := by decide +kernel
theorem dX6_number_39 : decode cX6_number 39 = .ok (.getfield 36, 3) := by decide +kernel
theorem dX6_number_42 : decode cX6_number 42 = .ok (.iaload, 1) := by decide +kernel
theorem dX6_number_43 : decode cX6_number 43 = .ok (.bipush 57, 2) := by decide +kernel
theorem dX6_number_45 : decode cX6_number 45 = .ok (.if_icmp .gt 34, 3) := by decide +kernel
theorem dX6_number_48 : decode cX6_number 48 = .ok (.iload_n 1, 1) := by decide +kernel
theorem dX6_number_49 : decode cX6_number 49 = .ok (.bipush 10, 2) := by decide +kernel
theorem dX6_number_51 : decode cX6_number 51 = .ok (.imul, 1) := by decide +kernel
theorem dX6_number_52 : decode cX6_number 52 = .ok (.aload_n 0, 1) := by decide +kernel
theorem dX6_number_53 : decode cX6_number 53 = .ok (.getfield 22, 3) := by decide +kernel
theorem dX6_number_56 : decode cX6_number 56 = .ok (.aload_n 0, 1) := by decide +kernel
theorem dX6_number_57 : decode cX6_number 57 = .ok (.dup, 1) := by decide +kernel
theorem dX6_number_58 : decode cX6_number 58 = .ok (.getfield 36, 3) := by decide +kernel
theorem dX6_number_61 : decode cX6_number 61 = .ok (.dup_x1, 1) := by decide +kernel
theorem dX6_number_62 : decode cX6_number 62 = .ok (.iconst 1, 1) := by decide +kernel
theorem dX6_number_63 : decode cX6_number 63 = .ok (.iadd, 1) := by decide +kernel
theorem dX6_number_64 : decode cX6_number 64 = .ok (.putfield 36, 3) := by decide +kernel
theorem dX6_number_67 : decode cX6_number 67 = .ok (.iaload, 1) := by decide +kernel
theorem dX6_number_68 : decode cX6_number 68 = .ok (.iadd, 1) := by decide +kernel
theorem dX6_number_69 : decode cX6_number 69 = .ok (.bipush 48, 2) := by decide +kernel
theorem dX6_number_71 : decode cX6_number 71 = .ok (.isub, 1) := by decide +kernel
theorem dX6_number_72 : decode cX6_number 72 = .ok (.istore_n 1, 1) := by decide +kernel
theorem dX6_number_73 : decode cX6_number 73 = .ok (.iinc 2 1, 3) := by decide +kernel
theorem dX6_number_76 : decode cX6_number 76 = .ok (.goto (-72), 3) := by decide +kernel
theorem dX6_number_79 : decode cX6_number 79 = .ok (.iload_n 1, 1) := by decide +kernel
theorem dX6_number_80 : decode cX6_number 80 = .ok (.ireturn, 1) := by decide +kernel
set_option maxHeartbeats 4000000 in
set_option maxRecDepth 20000 in
theorem b_rr_number_b4 {X : Cx} {d : Nat} (hX : Ok M_rr_number (d + 0) X) {r : Int32 × Mem} (hr : RetI M_rr_number X r.1 r.2) : ∀ (n : Nat) (x1 : Int32) (x2 : Int32) (μ : Mem) (dy : Nat → Nat), f_rr_number_b4 n x1 x2 μ = some r → AW X 4 [(0, .ref (gA (xG X) 78)), (1, .int x1), (2, .int x2)] [] μ dy := by
  intro n
  induction n with
  | zero => intro x1 x2 μ dy hf; exact nomatch hf
  | succ n ih =>
    intro x1 x2 μ dy hf
    rw [f_rr_number_b4] at hf
    refine r_iload_n hX dX6_number_4 2 rfl ?_
    refine r_iconst hX (3 : Int32) dX6_number_5 rfl ?_
    refine r_icmp_ge hX 79 dX6_number_6 rfl (fun hc1 => ?_) (fun hc1 => ?_)
    · rw [if_pos hc1] at hf
      refine r_iload_n hX dX6_number_79 1 rfl ?_
      exact fin_I hf hr _ _ _ dX6_number_80
    · rw [if_neg hc1] at hf
      refine r_aload_n hX dX6_number_9 0 rfl ?_
      refine r_get hX fl_X6_36 (w_78 _ _ _) rfl dX6_number_10 ?_
      refine r_aload_n hX dX6_number_13 0 rfl ?_
      refine r_get hX fl_X6_32 (w_78 _ _ _) rfl dX6_number_14 ?_
      refine r_icmp_ge hX 79 dX6_number_17 rfl (fun hc2 => ?_) (fun hc2 => ?_)
      · rw [if_pos hc2] at hf
        refine r_iload_n hX dX6_number_79 1 rfl ?_
        exact fin_I hf hr _ _ _ dX6_number_80
      · rw [if_neg hc2] at hf
        refine r_aload_n hX dX6_number_20 0 rfl ?_
        by_cases hc3 : μ.1 v_rr_text 0 = 1
        · rw [if_pos hc3] at hf
          refine r_get hX fl_X6_22 (w_78 _ _ _) (v := .ref (gA (xG X) 1)) (dynT hc3) dX6_number_21 ?_
          refine r_aload_n hX dX6_number_24 0 rfl ?_
          refine r_get hX fl_X6_36 (w_78 _ _ _) rfl dX6_number_25 ?_
          obtain ⟨b4, hf⟩ := chk_eq hf
          refine r_iald hX (w_1 _ _ _) (inb_in b4) dX6_number_28 ?_
          refine r_bipush hX (48 : Int32) dX6_number_29 rfl ?_
          refine r_icmp_lt hX 79 dX6_number_31 rfl (fun hc5 => ?_) (fun hc5 => ?_)
          · rw [if_pos hc5] at hf
            refine r_iload_n hX dX6_number_79 1 rfl ?_
            exact fin_I hf hr _ _ _ dX6_number_80
          · rw [if_neg hc5] at hf
            refine r_aload_n hX dX6_number_34 0 rfl ?_
            by_cases hc6 : μ.1 v_rr_text 0 = 1
            · rw [if_pos hc6] at hf
              refine r_get hX fl_X6_22 (w_78 _ _ _) (v := .ref (gA (xG X) 1)) (dynT hc6) dX6_number_35 ?_
              refine r_aload_n hX dX6_number_38 0 rfl ?_
              refine r_get hX fl_X6_36 (w_78 _ _ _) rfl dX6_number_39 ?_
              obtain ⟨b7, hf⟩ := chk_eq hf
              refine r_iald hX (w_1 _ _ _) (inb_in b7) dX6_number_42 ?_
              refine r_bipush hX (57 : Int32) dX6_number_43 rfl ?_
              refine r_icmp_gt hX 79 dX6_number_45 rfl (fun hc8 => ?_) (fun hc8 => ?_)
              · rw [if_pos hc8] at hf
                refine r_iload_n hX dX6_number_79 1 rfl ?_
                exact fin_I hf hr _ _ _ dX6_number_80
              · rw [if_neg hc8] at hf
                refine r_iload_n hX dX6_number_48 1 rfl ?_
                refine r_bipush hX (10 : Int32) dX6_number_49 rfl ?_
                refine r_imul hX dX6_number_51 ?_
                refine r_aload_n hX dX6_number_52 0 rfl ?_
                by_cases hc9 : μ.1 v_rr_text 0 = 1
                · rw [if_pos hc9] at hf
                  refine r_get hX fl_X6_22 (w_78 _ _ _) (v := .ref (gA (xG X) 1)) (dynT hc9) dX6_number_53 ?_
                  refine r_aload_n hX dX6_number_56 0 rfl ?_
                  refine r_dup hX dX6_number_57 rfl ?_
                  refine r_get hX fl_X6_36 (w_78 _ _ _) rfl dX6_number_58 ?_
                  refine r_dup_x1 hX dX6_number_61 rfl rfl ?_
                  refine r_iconst hX (1 : Int32) dX6_number_62 rfl ?_
                  refine r_iadd hX dX6_number_63 ?_
                  obtain ⟨μ10, e11, hf⟩ := bnd_eq hf
                  refine r_put hX fl_X6_36 ft_X6_4 (w_78 _ _ _) rfl rfl rfl (s_78_4 _ _ _ _) e11 rfl dX6_number_64 ?_
                  obtain ⟨b12, hf⟩ := chk_eq hf
                  refine r_iald hX (w_1 _ _ _) (inb_in b12) dX6_number_67 ?_
                  refine r_iadd hX dX6_number_68 ?_
                  refine r_bipush hX (48 : Int32) dX6_number_69 rfl ?_
                  refine r_isub hX dX6_number_71 ?_
                  obtain ⟨v13, e14, hf⟩ := bnd_eq hf
                  refine r_topI e14 ?_
                  refine r_istore_n hX dX6_number_72 rfl (ls' := [(1, .int v13), (0, .ref (gA (xG X) 78)), (2, .int x2)]) rfl ?_
                  refine r_iinc hX (x2 + (1 : Int32)) dX6_number_73 2 rfl rfl rfl (ls' := [(2, .int (x2 + (1 : Int32))), (1, .int v13), (0, .ref (gA (xG X) 78))]) rfl ?_
                  refine r_goto hX 4 dX6_number_76 rfl ?_
                  refine r_weak [2, 1, 0] rfl ?_
                  exact ih _ _ _ _ hf
                · rw [if_neg hc9] at hf
                  exact nomatch hf
            · rw [if_neg hc6] at hf
              exact nomatch hf
        · rw [if_neg hc3] at hf
          exact nomatch hf
set_option maxHeartbeats 4000000 in
set_option maxRecDepth 20000 in
theorem c_rr_number {G : Gx} {d : Nat}  {μ : Mem} {r : Int32 × Mem} (hf : f_rr_number  μ = some r) : Con G M_rr_number (d + 0) [.ref (gA G 78)] μ (some (.int r.1), r.2) := by
  refine Con.ofI ⟨rfl, rfl, Nat.le_of_ble_eq_true rfl⟩ rfl rfl (fun X hG hX hr dy => ?_)
  subst hG
  show AW X 0 [(0, .ref (gA (xG X) 78))] [] μ dy
  unfold f_rr_number at hf
  refine r_iconst hX (0 : Int32) dX6_number_0 rfl ?_
  refine r_istore_n hX dX6_number_1 rfl (ls' := [(1, .int (0 : Int32)), (0, .ref (gA (xG X) 78))]) rfl ?_
  refine r_iconst hX (0 : Int32) dX6_number_2 rfl ?_
  refine r_istore_n hX dX6_number_3 rfl (ls' := [(2, .int (0 : Int32)), (1, .int (0 : Int32)), (0, .ref (gA (xG X) 78))]) rfl ?_
  refine r_weak [2, 1, 0] rfl ?_
  exact b_rr_number_b4 hX hr FU _ _ _ _ hf
theorem dX6_readSigned_0 : decode cX6_readSigned 0 = .ok (.iconst 0, 1) := by decide +kernel
theorem dX6_readSigned_1 : decode cX6_readSigned 1 = .ok (.istore_n 2, 1) := by decide +kernel
theorem dX6_readSigned_2 : decode cX6_readSigned 2 = .ok (.aload_n 0, 1) := by decide +kernel
theorem dX6_readSigned_3 : decode cX6_readSigned 3 = .ok (.getfield 36, 3) := by decide +kernel
theorem dX6_readSigned_6 : decode cX6_readSigned 6 = .ok (.aload_n 0, 1) := by decide +kernel
theorem dX6_readSigned_7 : decode cX6_readSigned 7 = .ok (.getfield 32, 3) := by decide +kernel
theorem dX6_readSigned_10 : decode cX6_readSigned 10 = .ok (.if_icmp .ge 35, 3) := by decide +kernel
theorem dX6_readSigned_13 : decode cX6_readSigned 13 = .ok (.aload_n 0, 1) := by decide +kernel
theorem dX6_readSigned_14 : decode cX6_readSigned 14 = .ok (.ldc 69, 2) := by decide +kernel
theorem dX6_readSigned_16 : decode cX6_readSigned 16 = .ok (.invokevirtual 51, 3) := by decide +kernel
theorem dX6_readSigned_19 : decode cX6_readSigned 19 = .ok (.ifCond .eq 26, 3) := by decide +kernel
theorem dX6_readSigned_22 : decode cX6_readSigned 22 = .ok (.aload_n 0, 1) := by decide +kernel
theorem dX6_readSigned_23 : decode cX6_readSigned 23 = .ok (.dup, 1) := by decide +kernel
theorem dX6_readSigned_24 : decode cX6_readSigned 24 = .ok (.getfield 36, 3) := by decide +kernel
theorem dX6_readSigned_27 : decode cX6_readSigned 27 = .ok (.iconst 1, 1) := by decide +kernel
theorem dX6_readSigned_28 : decode cX6_readSigned 28 = .ok (.iadd, 1) := by decide +kernel
theorem dX6_readSigned_29 : decode cX6_readSigned 29 = .ok (.putfield 36, 3) := by decide +kernel
theorem dX6_readSigned_32 : decode cX6_readSigned 32 = .ok (.iload_n 2, 1) := by decide +kernel
theorem dX6_readSigned_33 : decode cX6_readSigned 33 = .ok (.ifCond .ne 7, 3) := by decide +kernel
theorem dX6_readSigned_36 : decode cX6_readSigned 36 = .ok (.iconst 1, 1) := by decide +kernel
theorem dX6_readSigned_37 : decode cX6_readSigned 37 = .ok (.goto 4, 3) := by decide +kernel
theorem dX6_readSigned_40 : decode cX6_readSigned 40 = .ok (.iconst 0, 1) := by decide +kernel
theorem dX6_readSigned_41 : decode cX6_readSigned 41 = .ok (.istore_n 2, 1) := by decide +kernel
theorem dX6_readSigned_42 : decode cX6_readSigned 42 = .ok (.goto (-40), 3) := by decide +kernel
theorem dX6_readSigned_45 : decode cX6_readSigned 45 = .ok (.aload_n 0, 1) := by decide +kernel
theorem dX6_readSigned_46 : decode cX6_readSigned 46 = .ok (.iload_n 1, 1) := by decide +kernel
theorem dX6_readSigned_47 : decode cX6_readSigned 47 = .ok (.invokevirtual 71, 3) := by decide +kernel
theorem dX6_readSigned_50 : decode cX6_readSigned 50 = .ok (.ifCond .ne 5, 3) := by decide +kernel
theorem dX6_readSigned_53 : decode cX6_readSigned 53 = .ok (.iconst 0, 1) := by decide +kernel
theorem dX6_readSigned_54 : decode cX6_readSigned 54 = .ok (.ireturn, 1) := by decide +kernel
theorem dX6_readSigned_55 : decode cX6_readSigned 55 = .ok (.iload_n 2, 1) := by decide +kernel
theorem dX6_readSigned_56 : decode cX6_readSigned 56 = .ok (.ifCond .eq 13, 3) := by decide +kernel
theorem dX6_readSigned_59 : decode cX6_readSigned 59 = .ok (.aload_n 0, 1) := by decide +kernel
theorem dX6_readSigned_60 : decode cX6_readSigned 60 = .ok (.getfield 12, 3) := by decide +kernel
theorem dX6_readSigned_63 : decode cX6_readSigned 63 = .ok (.sipush 2126, 3) := by decide +kernel
theorem dX6_readSigned_66 : decode cX6_readSigned 66 = .ok (.invokevirtual 55, 3) := by decide +kernel
theorem dX6_readSigned_69 : decode cX6_readSigned 69 = .ok (.iconst 1, 1) := by decide +kernel
theorem dX6_readSigned_70 : decode cX6_readSigned 70 = .ok (.ireturn, 1) := by decide +kernel
set_option maxHeartbeats 4000000 in
set_option maxRecDepth 20000 in
theorem b_rr_readSigned_b45 {X : Cx} {d : Nat} {R : Int32 → Mem → Option (Int32 × Mem)} (hR : ∀ (x1 : Int32) (μ : Mem) (r : Int32 × Mem), R x1 μ = some r → Con (xG X) M_rr_readThing (d + 9) [.ref (gA (xG X) 78), .int x1] μ (some (.int r.1), r.2)) (hX : Ok M_rr_readSigned (d + 10) X) {r : Int32 × Mem} (hr : RetZ M_rr_readSigned X r.1 r.2) (x1 : Int32) (x2 : Int32) (μ : Mem) (dy : Nat → Nat) (hf : f_rr_readSigned_b45 R x1 x2 μ = some r) : AW X 45 [(0, .ref (gA (xG X) 78)), (1, .int x1), (2, .int x2)] [] μ dy := by
  unfold f_rr_readSigned_b45 at hf
  refine r_aload_n hX dX6_readSigned_45 0 rfl ?_
  refine r_iload_n hX dX6_readSigned_46 1 rfl ?_
  obtain ⟨v4, μ2, h3, hf⟩ := bd2_eq hf
  refine r_callVI (Ok.le hX (by omega)) (hR _ _ _ h3) cv_X6_71 (w_78 _ _ _) rfl rfl (st := []) rfl rfl rfl dX6_readSigned_47 (fun dy => ?_)
  refine r_if_ne hX 55 dX6_readSigned_50 rfl (fun hc5 => ?_) (fun hc5 => ?_)
  · rw [if_neg hc5] at hf
    refine r_iload_n hX dX6_readSigned_55 2 rfl ?_
    refine r_if_eq hX 69 dX6_readSigned_56 rfl (fun hc6 => ?_) (fun hc6 => ?_)
    · rw [if_pos hc6] at hf
      refine r_iconst hX (1 : Int32) dX6_readSigned_69 rfl ?_
      obtain ⟨b7, hf⟩ := chk_eq hf
      exact fin_Z hf hr _ _ _ (zb_nar b7) dX6_readSigned_70
    · rw [if_neg hc6] at hf
      refine r_aload_n hX dX6_readSigned_59 0 rfl ?_
      obtain ⟨b8, hf⟩ := chk_eq hf
      refine r_get hX fl_X6_12 (w_78 _ _ _) rfl dX6_readSigned_60 ?_
      refine r_sipush hX (2126 : Int32) dX6_readSigned_63 rfl ?_
      obtain ⟨μ9, h10, hf⟩ := bd1_eq hf
      refine r_callVV (Ok.le hX (by omega)) (c_ru_add (d := d) (of_decide_eq_true b8) h10) cv_X6_55 (wRu_o (of_decide_eq_true b8)) rfl rfl (st := []) rfl rfl rfl dX6_readSigned_66 (fun dy => ?_)
      refine r_iconst hX (1 : Int32) dX6_readSigned_69 rfl ?_
      obtain ⟨b11, hf⟩ := chk_eq hf
      exact fin_Z hf hr _ _ _ (zb_nar b11) dX6_readSigned_70
  · rw [if_pos hc5] at hf
    refine r_iconst hX (0 : Int32) dX6_readSigned_53 rfl ?_
    obtain ⟨b12, hf⟩ := chk_eq hf
    exact fin_Z hf hr _ _ _ (zb_nar b12) dX6_readSigned_54
set_option maxHeartbeats 4000000 in
set_option maxRecDepth 20000 in
theorem b_rr_readSigned_b2 {X : Cx} {d : Nat} {R : Int32 → Mem → Option (Int32 × Mem)} (hR : ∀ (x1 : Int32) (μ : Mem) (r : Int32 × Mem), R x1 μ = some r → Con (xG X) M_rr_readThing (d + 9) [.ref (gA (xG X) 78), .int x1] μ (some (.int r.1), r.2)) (hX : Ok M_rr_readSigned (d + 10) X) {r : Int32 × Mem} (hr : RetZ M_rr_readSigned X r.1 r.2) : ∀ (n : Nat) (x1 : Int32) (x2 : Int32) (μ : Mem) (dy : Nat → Nat), f_rr_readSigned_b2 R n x1 x2 μ = some r → AW X 2 [(0, .ref (gA (xG X) 78)), (1, .int x1), (2, .int x2)] [] μ dy := by
  intro n
  induction n with
  | zero => intro x1 x2 μ dy hf; exact nomatch hf
  | succ n ih =>
    intro x1 x2 μ dy hf
    rw [f_rr_readSigned_b2] at hf
    refine r_aload_n hX dX6_readSigned_2 0 rfl ?_
    refine r_get hX fl_X6_36 (w_78 _ _ _) rfl dX6_readSigned_3 ?_
    refine r_aload_n hX dX6_readSigned_6 0 rfl ?_
    refine r_get hX fl_X6_32 (w_78 _ _ _) rfl dX6_readSigned_7 ?_
    refine r_icmp_ge hX 45 dX6_readSigned_10 rfl (fun hc1 => ?_) (fun hc1 => ?_)
    · rw [if_pos hc1] at hf
      refine r_weak [0, 1, 2] rfl ?_
      exact b_rr_readSigned_b45 hR hX hr _ _ _ _ hf
    · rw [if_neg hc1] at hf
      refine r_aload_n hX dX6_readSigned_13 0 rfl ?_
      refine r_ldcS hX 0 (by decide) rfl rfl dX6_readSigned_14 ?_
      obtain ⟨v15, μ13, h14, hf⟩ := bd2_eq hf
      refine r_callVI (Ok.le hX (by omega)) (c_rr_isOneOf (d := d) (by decide : 0 < 8) h14) cv_X6_51 (w_78 _ _ _) rfl rfl (st := []) rfl rfl rfl dX6_readSigned_16 (fun dy => ?_)
      refine r_if_eq hX 45 dX6_readSigned_19 rfl (fun hc16 => ?_) (fun hc16 => ?_)
      · rw [if_pos hc16] at hf
        refine r_weak [0, 1, 2] rfl ?_
        exact b_rr_readSigned_b45 hR hX hr _ _ _ _ hf
      · rw [if_neg hc16] at hf
        refine r_aload_n hX dX6_readSigned_22 0 rfl ?_
        refine r_dup hX dX6_readSigned_23 rfl ?_
        refine r_get hX fl_X6_36 (w_78 _ _ _) rfl dX6_readSigned_24 ?_
        refine r_iconst hX (1 : Int32) dX6_readSigned_27 rfl ?_
        refine r_iadd hX dX6_readSigned_28 ?_
        obtain ⟨μ17, e18, hf⟩ := bnd_eq hf
        refine r_put hX fl_X6_36 ft_X6_4 (w_78 _ _ _) rfl rfl rfl (s_78_4 _ _ _ _) e18 rfl dX6_readSigned_29 ?_
        refine r_iload_n hX dX6_readSigned_32 2 rfl ?_
        obtain ⟨v19, e20, hf⟩ := bnd_eq hf
        have J21 : AW X 41 [(0, .ref (gA (xG X) 78)), (1, .int x1), (2, .int x2)] [.int v19] μ17 dy := by
          refine r_istore_n hX dX6_readSigned_41 rfl (ls' := [(2, .int v19), (0, .ref (gA (xG X) 78)), (1, .int x1)]) rfl ?_
          refine r_goto hX 2 dX6_readSigned_42 rfl ?_
          refine r_weak [1, 2, 0] rfl ?_
          exact ih _ _ _ _ hf
        refine r_if_ne hX 40 dX6_readSigned_33 rfl (fun hc22 => ?_) (fun hc22 => ?_)
        · refine r_iconst hX (0 : Int32) dX6_readSigned_40 rfl ?_
          exact r_topI (e20.trans (by rw [if_neg hc22])) J21
        · refine r_iconst hX (1 : Int32) dX6_readSigned_36 rfl ?_
          refine r_goto hX 41 dX6_readSigned_37 rfl ?_
          exact r_topI (e20.trans (by rw [if_pos hc22])) J21
set_option maxHeartbeats 4000000 in
set_option maxRecDepth 20000 in
theorem c_rr_readSigned {G : Gx} {d : Nat} {R : Int32 → Mem → Option (Int32 × Mem)} (hR : ∀ (x1 : Int32) (μ : Mem) (r : Int32 × Mem), R x1 μ = some r → Con G M_rr_readThing (d + 9) [.ref (gA G 78), .int x1] μ (some (.int r.1), r.2)) {x1 : Int32} {μ : Mem} {r : Int32 × Mem} (hf : f_rr_readSigned R x1 μ = some r) : Con G M_rr_readSigned (d + 10) [.ref (gA G 78), .int x1] μ (some (.int r.1), r.2) := by
  refine Con.ofZ ⟨rfl, rfl, Nat.le_of_ble_eq_true rfl⟩ rfl (fun X hG hX hr dy => ?_)
  subst hG
  show AW X 0 [(0, .ref (gA (xG X) 78)), (1, .int x1)] [] μ dy
  unfold f_rr_readSigned at hf
  refine r_iconst hX (0 : Int32) dX6_readSigned_0 rfl ?_
  refine r_istore_n hX dX6_readSigned_1 rfl (ls' := [(2, .int (0 : Int32)), (0, .ref (gA (xG X) 78)), (1, .int x1)]) rfl ?_
  refine r_weak [1, 2, 0] rfl ?_
  exact b_rr_readSigned_b2 hR hX hr FU _ _ _ _ hf
theorem dX6_readProduct_0 : decode cX6_readProduct 0 = .ok (.aload_n 0, 1) := by decide +kernel
theorem dX6_readProduct_1 : decode cX6_readProduct 1 = .ok (.iload_n 1, 1) := by decide +kernel
theorem dX6_readProduct_2 : decode cX6_readProduct 2 = .ok (.invokevirtual 64, 3) := by decide +kernel
theorem dX6_readProduct_5 : decode cX6_readProduct 5 = .ok (.ifCond .ne 5, 3) := by decide +kernel
theorem dX6_readProduct_8 : decode cX6_readProduct 8 = .ok (.iconst 0, 1) := by decide +kernel
theorem dX6_readProduct_9 : decode cX6_readProduct 9 = .ok (.ireturn, 1) := by decide +kernel
theorem dX6_readProduct_10 : decode cX6_readProduct 10 = .ok (.aload_n 0, 1) := by decide +kernel
theorem dX6_readProduct_11 : decode cX6_readProduct 11 = .ok (.getfield 36, 3) := by decide +kernel
theorem dX6_readProduct_14 : decode cX6_readProduct 14 = .ok (.aload_n 0, 1) := by decide +kernel
theorem dX6_readProduct_15 : decode cX6_readProduct 15 = .ok (.getfield 32, 3) := by decide +kernel
theorem dX6_readProduct_18 : decode cX6_readProduct 18 = .ok (.if_icmp .ge 54, 3) := by decide +kernel
theorem dX6_readProduct_21 : decode cX6_readProduct 21 = .ok (.aload_n 0, 1) := by decide +kernel
theorem dX6_readProduct_22 : decode cX6_readProduct 22 = .ok (.ldc 67, 2) := by decide +kernel
theorem dX6_readProduct_24 : decode cX6_readProduct 24 = .ok (.invokevirtual 51, 3) := by decide +kernel
theorem dX6_readProduct_27 : decode cX6_readProduct 27 = .ok (.ifCond .eq 45, 3) := by decide +kernel
theorem dX6_readProduct_30 : decode cX6_readProduct 30 = .ok (.aload_n 0, 1) := by decide +kernel
theorem dX6_readProduct_31 : decode cX6_readProduct 31 = .ok (.getfield 22, 3) := by decide +kernel
theorem dX6_readProduct_34 : decode cX6_readProduct 34 = .ok (.aload_n 0, 1) := by decide +kernel
theorem dX6_readProduct_35 : decode cX6_readProduct 35 = .ok (.dup, 1) := by decide +kernel
theorem dX6_readProduct_36 : decode cX6_readProduct 36 = .ok (.getfield 36, 3) := by decide +kernel
theorem dX6_readProduct_39 : decode cX6_readProduct 39 = .ok (.dup_x1, 1) := by decide +kernel
theorem dX6_readProduct_40 : decode cX6_readProduct 40 = .ok (.iconst 1, 1) := by decide +kernel
theorem dX6_readProduct_41 : decode cX6_readProduct 41 = .ok (.iadd, 1) := by decide +kernel
theorem dX6_readProduct_42 : decode cX6_readProduct 42 = .ok (.putfield 36, 3) := by decide +kernel
theorem dX6_readProduct_45 : decode cX6_readProduct 45 = .ok (.iaload, 1) := by decide +kernel
theorem dX6_readProduct_46 : decode cX6_readProduct 46 = .ok (.istore_n 2, 1) := by decide +kernel
theorem dX6_readProduct_47 : decode cX6_readProduct 47 = .ok (.aload_n 0, 1) := by decide +kernel
theorem dX6_readProduct_48 : decode cX6_readProduct 48 = .ok (.iload_n 1, 1) := by decide +kernel
theorem dX6_readProduct_49 : decode cX6_readProduct 49 = .ok (.invokevirtual 64, 3) := by decide +kernel
theorem dX6_readProduct_52 : decode cX6_readProduct 52 = .ok (.ifCond .ne 5, 3) := by decide +kernel
theorem dX6_readProduct_55 : decode cX6_readProduct 55 = .ok (.iconst 0, 1) := by decide +kernel
theorem dX6_readProduct_56 : decode cX6_readProduct 56 = .ok (.ireturn, 1) := by decide +kernel
theorem dX6_readProduct_57 : decode cX6_readProduct 57 = .ok (.aload_n 0, 1) := by decide +kernel
theorem dX6_readProduct_58 : decode cX6_readProduct 58 = .ok (.getfield 12, 3) := by decide +kernel
theorem dX6_readProduct_61 : decode cX6_readProduct 61 = .ok (.sipush 2000, 3) := by decide +kernel
theorem dX6_readProduct_64 : decode cX6_readProduct 64 = .ok (.iload_n 2, 1) := by decide +kernel
theorem dX6_readProduct_65 : decode cX6_readProduct 65 = .ok (.iadd, 1) := by decide +kernel
theorem dX6_readProduct_66 : decode cX6_readProduct 66 = .ok (.invokevirtual 55, 3) := by decide +kernel
theorem dX6_readProduct_69 : decode cX6_readProduct 69 = .ok (.goto (-59), 3) := by decide +kernel
theorem dX6_readProduct_72 : decode cX6_readProduct 72 = .ok (.iconst 1, 1) := by decide +kernel
theorem dX6_readProduct_73 : decode cX6_readProduct 73 = .ok (.ireturn, 1) := by decide +kernel
set_option maxHeartbeats 4000000 in
set_option maxRecDepth 20000 in
theorem b_rr_readProduct_b10 {X : Cx} {d : Nat} {R : Int32 → Mem → Option (Int32 × Mem)} (hR : ∀ (x1 : Int32) (μ : Mem) (r : Int32 × Mem), R x1 μ = some r → Con (xG X) M_rr_readThing (d + 9) [.ref (gA (xG X) 78), .int x1] μ (some (.int r.1), r.2)) (hX : Ok M_rr_readProduct (d + 11) X) {r : Int32 × Mem} (hr : RetZ M_rr_readProduct X r.1 r.2) : ∀ (n : Nat) (x1 : Int32) (μ : Mem) (dy : Nat → Nat), f_rr_readProduct_b10 R n x1 μ = some r → AW X 10 [(0, .ref (gA (xG X) 78)), (1, .int x1)] [] μ dy := by
  intro n
  induction n with
  | zero => intro x1 μ dy hf; exact nomatch hf
  | succ n ih =>
    intro x1 μ dy hf
    rw [f_rr_readProduct_b10] at hf
    refine r_aload_n hX dX6_readProduct_10 0 rfl ?_
    refine r_get hX fl_X6_36 (w_78 _ _ _) rfl dX6_readProduct_11 ?_
    refine r_aload_n hX dX6_readProduct_14 0 rfl ?_
    refine r_get hX fl_X6_32 (w_78 _ _ _) rfl dX6_readProduct_15 ?_
    refine r_icmp_ge hX 72 dX6_readProduct_18 rfl (fun hc5 => ?_) (fun hc5 => ?_)
    · rw [if_pos hc5] at hf
      refine r_iconst hX (1 : Int32) dX6_readProduct_72 rfl ?_
      obtain ⟨b6, hf⟩ := chk_eq hf
      exact fin_Z hf hr _ _ _ (zb_nar b6) dX6_readProduct_73
    · rw [if_neg hc5] at hf
      refine r_aload_n hX dX6_readProduct_21 0 rfl ?_
      refine r_ldcS hX 5 (by decide) rfl rfl dX6_readProduct_22 ?_
      obtain ⟨v9, μ7, h8, hf⟩ := bd2_eq hf
      refine r_callVI (Ok.le hX (by omega)) (c_rr_isOneOf (d := d) (by decide : 5 < 8) h8) cv_X6_51 (w_78 _ _ _) rfl rfl (st := []) rfl rfl rfl dX6_readProduct_24 (fun dy => ?_)
      refine r_if_eq hX 72 dX6_readProduct_27 rfl (fun hc10 => ?_) (fun hc10 => ?_)
      · rw [if_pos hc10] at hf
        refine r_iconst hX (1 : Int32) dX6_readProduct_72 rfl ?_
        obtain ⟨b11, hf⟩ := chk_eq hf
        exact fin_Z hf hr _ _ _ (zb_nar b11) dX6_readProduct_73
      · rw [if_neg hc10] at hf
        refine r_aload_n hX dX6_readProduct_30 0 rfl ?_
        by_cases hc12 : μ7.1 v_rr_text 0 = 1
        · rw [if_pos hc12] at hf
          refine r_get hX fl_X6_22 (w_78 _ _ _) (v := .ref (gA (xG X) 1)) (dynT hc12) dX6_readProduct_31 ?_
          refine r_aload_n hX dX6_readProduct_34 0 rfl ?_
          refine r_dup hX dX6_readProduct_35 rfl ?_
          refine r_get hX fl_X6_36 (w_78 _ _ _) rfl dX6_readProduct_36 ?_
          refine r_dup_x1 hX dX6_readProduct_39 rfl rfl ?_
          refine r_iconst hX (1 : Int32) dX6_readProduct_40 rfl ?_
          refine r_iadd hX dX6_readProduct_41 ?_
          obtain ⟨μ13, e14, hf⟩ := bnd_eq hf
          refine r_put hX fl_X6_36 ft_X6_4 (w_78 _ _ _) rfl rfl rfl (s_78_4 _ _ _ _) e14 rfl dX6_readProduct_42 ?_
          obtain ⟨b15, hf⟩ := chk_eq hf
          refine r_iald hX (w_1 _ _ _) (inb_in b15) dX6_readProduct_45 ?_
          obtain ⟨v16, e17, hf⟩ := bnd_eq hf
          refine r_topI e17 ?_
          refine r_istore_n hX dX6_readProduct_46 rfl (ls' := [(2, .int v16), (0, .ref (gA (xG X) 78)), (1, .int x1)]) rfl ?_
          refine r_aload_n hX dX6_readProduct_47 1 rfl ?_
          refine r_iload_n hX dX6_readProduct_48 2 rfl ?_
          obtain ⟨v20, μ18, h19, hf⟩ := bd2_eq hf
          refine r_callVI (Ok.le hX (by omega)) (c_rr_readSigned (d := d) hR h19) cv_X6_64 (w_78 _ _ _) rfl rfl (st := []) rfl rfl rfl dX6_readProduct_49 (fun dy => ?_)
          refine r_if_ne hX 57 dX6_readProduct_52 rfl (fun hc21 => ?_) (fun hc21 => ?_)
          · rw [if_neg hc21] at hf
            refine r_aload_n hX dX6_readProduct_57 1 rfl ?_
            obtain ⟨b22, hf⟩ := chk_eq hf
            refine r_get hX fl_X6_12 (w_78 _ _ _) rfl dX6_readProduct_58 ?_
            refine r_sipush hX (2000 : Int32) dX6_readProduct_61 rfl ?_
            refine r_iload_n hX dX6_readProduct_64 0 rfl ?_
            refine r_iadd hX dX6_readProduct_65 ?_
            obtain ⟨μ23, h24, hf⟩ := bd1_eq hf
            refine r_callVV (Ok.le hX (by omega)) (c_ru_add (d := d) (of_decide_eq_true b22) h24) cv_X6_55 (wRu_o (of_decide_eq_true b22)) rfl rfl (st := []) rfl rfl rfl dX6_readProduct_66 (fun dy => ?_)
            refine r_goto hX 10 dX6_readProduct_69 rfl ?_
            refine r_weak [1, 2] rfl ?_
            exact ih _ _ _ hf
          · rw [if_pos hc21] at hf
            refine r_iconst hX (0 : Int32) dX6_readProduct_55 rfl ?_
            obtain ⟨b25, hf⟩ := chk_eq hf
            exact fin_Z hf hr _ _ _ (zb_nar b25) dX6_readProduct_56
        · rw [if_neg hc12] at hf
          exact nomatch hf
set_option maxHeartbeats 4000000 in
set_option maxRecDepth 20000 in
theorem c_rr_readProduct {G : Gx} {d : Nat} {R : Int32 → Mem → Option (Int32 × Mem)} (hR : ∀ (x1 : Int32) (μ : Mem) (r : Int32 × Mem), R x1 μ = some r → Con G M_rr_readThing (d + 9) [.ref (gA G 78), .int x1] μ (some (.int r.1), r.2)) {x1 : Int32} {μ : Mem} {r : Int32 × Mem} (hf : f_rr_readProduct R x1 μ = some r) : Con G M_rr_readProduct (d + 11) [.ref (gA G 78), .int x1] μ (some (.int r.1), r.2) := by
  refine Con.ofZ ⟨rfl, rfl, Nat.le_of_ble_eq_true rfl⟩ rfl (fun X hG hX hr dy => ?_)
  subst hG
  show AW X 0 [(0, .ref (gA (xG X) 78)), (1, .int x1)] [] μ dy
  unfold f_rr_readProduct at hf
  refine r_aload_n hX dX6_readProduct_0 0 rfl ?_
  refine r_iload_n hX dX6_readProduct_1 1 rfl ?_
  obtain ⟨v3, μ1, h2, hf⟩ := bd2_eq hf
  refine r_callVI (Ok.le hX (by omega)) (c_rr_readSigned (d := d) hR h2) cv_X6_64 (w_78 _ _ _) rfl rfl (st := []) rfl rfl rfl dX6_readProduct_2 (fun dy => ?_)
  refine r_if_ne hX 10 dX6_readProduct_5 rfl (fun hc4 => ?_) (fun hc4 => ?_)
  · rw [if_neg hc4] at hf
    refine r_weak [0, 1] rfl ?_
    exact b_rr_readProduct_b10 hR hX hr FU _ _ _ hf
  · rw [if_pos hc4] at hf
    refine r_iconst hX (0 : Int32) dX6_readProduct_8 rfl ?_
    obtain ⟨b26, hf⟩ := chk_eq hf
    exact fin_Z hf hr _ _ _ (zb_nar b26) dX6_readProduct_9
