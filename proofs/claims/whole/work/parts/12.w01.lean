theorem dX8_now_0 : decode cX8_now 0 = .ok (.aload_n 0, 1) := by decide +kernel
theorem dX8_now_1 : decode cX8_now 1 = .ok (.getfield 23, 3) := by decide +kernel
theorem dX8_now_4 : decode cX8_now 4 = .ok (.aload_n 0, 1) := by decide +kernel
theorem dX8_now_5 : decode cX8_now 5 = .ok (.getfield 33, 3) := by decide +kernel
theorem dX8_now_8 : decode cX8_now 8 = .ok (.iaload, 1) := by decide +kernel
theorem dX8_now_9 : decode cX8_now 9 = .ok (.ireturn, 1) := by decide +kernel
set_option maxHeartbeats 4000000 in
set_option maxRecDepth 20000 in
theorem c_st_now {G : Gx} {d : Nat}  {μ : Mem} {r : Int32 × Mem} (hf : f_st_now  μ = some r) : Con G M_st_now (d + 0) [.ref (gA G 4)] μ (some (.int r.1), r.2) := by
  refine Con.ofI ⟨rfl, rfl, Nat.le_of_ble_eq_true rfl⟩ rfl rfl (fun X hG hX hr dy => ?_)
  subst hG
  show AW X 0 [(0, .ref (gA (xG X) 4))] [] μ dy
  unfold f_st_now at hf
  refine r_aload_n hX dX8_now_0 0 rfl ?_
  refine r_get hX fl_X8_23 (w_4 _ _ _) rfl dX8_now_1 ?_
  refine r_aload_n hX dX8_now_4 0 rfl ?_
  refine r_get hX fl_X8_33 (w_4 _ _ _) rfl dX8_now_5 ?_
  obtain ⟨b1, hf⟩ := chk_eq hf
  refine r_iald hX (w_22 _ _ _) (inb_in b1) dX8_now_8 ?_
  exact fin_I hf hr _ _ _ dX8_now_9
theorem dX8_everybody_0 : decode cX8_everybody 0 = .ok (.iconst 1, 1) := by decide +kernel
theorem dX8_everybody_1 : decode cX8_everybody 1 = .ok (.aload_n 0, 1) := by decide +kernel
theorem dX8_everybody_2 : decode cX8_everybody 2 = .ok (.getfield 36, 3) := by decide +kernel
theorem dX8_everybody_5 : decode cX8_everybody 5 = .ok (.ishl, 1) := by decide +kernel
theorem dX8_everybody_6 : decode cX8_everybody 6 = .ok (.iconst 1, 1) := by decide +kernel
theorem dX8_everybody_7 : decode cX8_everybody 7 = .ok (.isub, 1) := by decide +kernel
theorem dX8_everybody_8 : decode cX8_everybody 8 = .ok (.ireturn, 1) := by decide +kernel
set_option maxHeartbeats 4000000 in
set_option maxRecDepth 20000 in
theorem c_st_everybody {G : Gx} {d : Nat}  {μ : Mem} {r : Int32 × Mem} (hf : f_st_everybody  μ = some r) : Con G M_st_everybody (d + 0) [.ref (gA G 4)] μ (some (.int r.1), r.2) := by
  refine Con.ofI ⟨rfl, rfl, Nat.le_of_ble_eq_true rfl⟩ rfl rfl (fun X hG hX hr dy => ?_)
  subst hG
  show AW X 0 [(0, .ref (gA (xG X) 4))] [] μ dy
  unfold f_st_everybody at hf
  refine r_iconst hX (1 : Int32) dX8_everybody_0 rfl ?_
  refine r_aload_n hX dX8_everybody_1 0 rfl ?_
  refine r_get hX fl_X8_36 (w_4 _ _ _) rfl dX8_everybody_2 ?_
  refine r_ishl hX dX8_everybody_5 ?_
  refine r_iconst hX (1 : Int32) dX8_everybody_6 rfl ?_
  refine r_isub hX dX8_everybody_7 ?_
  exact fin_I hf hr _ _ _ dX8_everybody_8
theorem dX1_highest_0 : decode cX1_highest 0 = .ok (.lload_n 0, 1) := by decide +kernel
theorem dX1_highest_1 : decode cX1_highest 1 = .ok (.bipush 7, 2) := by decide +kernel
theorem dX1_highest_3 : decode cX1_highest 3 = .ok (.lushr, 1) := by decide +kernel
theorem dX1_highest_4 : decode cX1_highest 4 = .ok (.ldc2_w 80, 3) := by decide +kernel
theorem dX1_highest_7 : decode cX1_highest 7 = .ok (.land, 1) := by decide +kernel
theorem dX1_highest_8 : decode cX1_highest 8 = .ok (.ldc2_w 82, 3) := by decide +kernel
theorem dX1_highest_11 : decode cX1_highest 11 = .ok (.lmul, 1) := by decide +kernel
theorem dX1_highest_12 : decode cX1_highest 12 = .ok (.bipush 56, 2) := by decide +kernel
theorem dX1_highest_14 : decode cX1_highest 14 = .ok (.lushr, 1) := by decide +kernel
theorem dX1_highest_15 : decode cX1_highest 15 = .ok (.l2i, 1) := by decide +kernel
theorem dX1_highest_16 : decode cX1_highest 16 = .ok (.ireturn, 1) := by decide +kernel
set_option maxHeartbeats 4000000 in
set_option maxRecDepth 20000 in
theorem c_he_highest {G : Gx} {d : Nat} {y0 : Int64} {μ : Mem} {r : Int32 × Mem} (hf : f_he_highest y0 μ = some r) : Con G M_he_highest (d + 0) [.long y0] μ (some (.int r.1), r.2) := by
  refine Con.ofI ⟨rfl, rfl, Nat.le_of_ble_eq_true rfl⟩ rfl rfl (fun X hG hX hr dy => ?_)
  subst hG
  show AW X 0 [(0, .long y0)] [] μ dy
  unfold f_he_highest at hf
  refine r_lload_n hX dX1_highest_0 0 rfl ?_
  refine r_bipush hX (7 : Int32) dX1_highest_1 rfl ?_
  refine r_lushr hX dX1_highest_3 ?_
  refine r_ldc2 hX dX1_highest_4 kc_X1_80 ?_
  refine r_land hX dX1_highest_7 ?_
  refine r_ldc2 hX dX1_highest_8 kc_X1_82 ?_
  refine r_lmul hX dX1_highest_11 ?_
  refine r_bipush hX (56 : Int32) dX1_highest_12 rfl ?_
  refine r_lushr hX dX1_highest_14 ?_
  refine r_l2i hX dX1_highest_15 ?_
  exact fin_I hf hr _ _ _ dX1_highest_16
theorem dX1_next_0 : decode cX1_next 0 = .ok (.aload_n 0, 1) := by decide +kernel
theorem dX1_next_1 : decode cX1_next 1 = .ok (.getfield 36, 3) := by decide +kernel
theorem dX1_next_4 : decode cX1_next 4 = .ok (.lstore_n 2, 1) := by decide +kernel
theorem dX1_next_5 : decode cX1_next 5 = .ok (.aload_n 0, 1) := by decide +kernel
theorem dX1_next_6 : decode cX1_next 6 = .ok (.getfield 40, 3) := by decide +kernel
theorem dX1_next_9 : decode cX1_next 9 = .ok (.lstore 4, 2) := by decide +kernel
theorem dX1_next_11 : decode cX1_next 11 = .ok (.iconst 0, 1) := by decide +kernel
theorem dX1_next_12 : decode cX1_next 12 = .ok (.istore 6, 2) := by decide +kernel
theorem dX1_next_14 : decode cX1_next 14 = .ok (.iload 6, 2) := by decide +kernel
theorem dX1_next_16 : decode cX1_next 16 = .ok (.aload_n 0, 1) := by decide +kernel
theorem dX1_next_17 : decode cX1_next 17 = .ok (.getfield 28, 3) := by decide +kernel
theorem dX1_next_20 : decode cX1_next 20 = .ok (.getfield 43, 3) := by decide +kernel
theorem dX1_next_23 : decode cX1_next 23 = .ok (.if_icmp .ge 40, 3) := by decide +kernel
theorem dX1_next_26 : decode cX1_next 26 = .ok (.iload_n 1, 1) := by decide +kernel
theorem dX1_next_27 : decode cX1_next 27 = .ok (.iload 6, 2) := by decide +kernel
theorem dX1_next_29 : decode cX1_next 29 = .ok (.ishr, 1) := by decide +kernel
theorem dX1_next_30 : decode cX1_next 30 = .ok (.iconst 1, 1) := by decide +kernel
theorem dX1_next_31 : decode cX1_next 31 = .ok (.iand, 1) := by decide +kernel
theorem dX1_next_32 : decode cX1_next 32 = .ok (.ifCond .eq 25, 3) := by decide +kernel
theorem dX1_next_35 : decode cX1_next 35 = .ok (.lload_n 2, 1) := by decide +kernel
theorem dX1_next_36 : decode cX1_next 36 = .ok (.aload_n 0, 1) := by decide +kernel
theorem dX1_next_37 : decode cX1_next 37 = .ok (.getfield 11, 3) := by decide +kernel
theorem dX1_next_40 : decode cX1_next 40 = .ok (.iload 6, 2) := by decide +kernel
theorem dX1_next_42 : decode cX1_next 42 = .ok (.laload, 1) := by decide +kernel
theorem dX1_next_43 : decode cX1_next 43 = .ok (.ladd, 1) := by decide +kernel
theorem dX1_next_44 : decode cX1_next 44 = .ok (.lstore_n 2, 1) := by decide +kernel
theorem dX1_next_45 : decode cX1_next 45 = .ok (.lload 4, 2) := by decide +kernel
theorem dX1_next_47 : decode cX1_next 47 = .ok (.aload_n 0, 1) := by decide +kernel
theorem dX1_next_48 : decode cX1_next 48 = .ok (.getfield 15, 3) := by decide +kernel
theorem dX1_next_51 : decode cX1_next 51 = .ok (.iload 6, 2) := by decide +kernel
theorem dX1_next_53 : decode cX1_next 53 = .ok (.laload, 1) := by decide +kernel
theorem dX1_next_54 : decode cX1_next 54 = .ok (.ladd, 1) := by decide +kernel
theorem dX1_next_55 : decode cX1_next 55 = .ok (.lstore 4, 2) := by decide +kernel
theorem dX1_next_57 : decode cX1_next 57 = .ok (.iinc 6 1, 3) := by decide +kernel
theorem dX1_next_60 : decode cX1_next 60 = .ok (.goto (-46), 3) := by decide +kernel
theorem dX1_next_63 : decode cX1_next 63 = .ok (.lload_n 2, 1) := by decide +kernel
theorem dX1_next_64 : decode cX1_next 64 = .ok (.invokestatic 76, 3) := by decide +kernel
theorem dX1_next_67 : decode cX1_next 67 = .ok (.lload 4, 2) := by decide +kernel
theorem dX1_next_69 : decode cX1_next 69 = .ok (.invokestatic 76, 3) := by decide +kernel
theorem dX1_next_72 : decode cX1_next 72 = .ok (.bipush 8, 2) := by decide +kernel
theorem dX1_next_74 : decode cX1_next 74 = .ok (.ishl, 1) := by decide +kernel
theorem dX1_next_75 : decode cX1_next 75 = .ok (.ior, 1) := by decide +kernel
theorem dX1_next_76 : decode cX1_next 76 = .ok (.istore 6, 2) := by decide +kernel
theorem dX1_next_78 : decode cX1_next 78 = .ok (.iload 6, 2) := by decide +kernel
theorem dX1_next_80 : decode cX1_next 80 = .ok (.aload_n 0, 1) := by decide +kernel
theorem dX1_next_81 : decode cX1_next 81 = .ok (.getfield 32, 3) := by decide +kernel
theorem dX1_next_84 : decode cX1_next 84 = .ok (.iand, 1) := by decide +kernel
theorem dX1_next_85 : decode cX1_next 85 = .ok (.iload_n 1, 1) := by decide +kernel
theorem dX1_next_86 : decode cX1_next 86 = .ok (.aload_n 0, 1) := by decide +kernel
theorem dX1_next_87 : decode cX1_next 87 = .ok (.getfield 32, 3) := by decide +kernel
theorem dX1_next_90 : decode cX1_next 90 = .ok (.iconst (-1), 1) := by decide +kernel
theorem dX1_next_91 : decode cX1_next 91 = .ok (.ixor, 1) := by decide +kernel
theorem dX1_next_92 : decode cX1_next 92 = .ok (.iand, 1) := by decide +kernel
theorem dX1_next_93 : decode cX1_next 93 = .ok (.ior, 1) := by decide +kernel
theorem dX1_next_94 : decode cX1_next 94 = .ok (.ireturn, 1) := by decide +kernel
set_option maxHeartbeats 4000000 in
set_option maxRecDepth 20000 in
theorem b_he_next_b14 {X : Cx} {d : Nat} {t : Nat} (ht : t < 2) (hX : Ok M_he_next (d + 1) X) {r : Int32 × Mem} (hr : RetI M_he_next X r.1 r.2) : ∀ (n : Nat) (x1 : Int32) (y2 : Int64) (y4 : Int64) (x6 : Int32) (μ : Mem) (dy : Nat → Nat), f_he_next_b14 t n x1 y2 y4 x6 μ = some r → AW X 14 [(0, .ref (gA (xG X) (80 + 5 * t))), (1, .int x1), (2, .long y2), (4, .long y4), (6, .int x6)] [] μ dy := by
  intro n
  induction n with
  | zero => intro x1 y2 y4 x6 μ dy hf; exact nomatch hf
  | succ n ih =>
    intro x1 y2 y4 x6 μ dy hf
    rw [f_he_next_b14] at hf
    refine r_iload hX dX1_next_14 4 rfl ?_
    refine r_aload_n hX dX1_next_16 0 rfl ?_
    refine r_get hX fl_X1_28 (wHe_o ht) rfl dX1_next_17 ?_
    refine r_getN hX fl_X1_43 (w_4 _ _ _) rfl dX1_next_20 ?_
    refine r_icmp_ge hX 63 dX1_next_23 rfl (fun hc1 => ?_) (fun hc1 => ?_)
    · rw [if_pos hc1] at hf
      refine r_lload_n hX dX1_next_63 2 rfl ?_
      obtain ⟨v4, μ2, h3, hf⟩ := bd2_eq hf
      refine r_callSI (Ok.le hX (by omega)) (c_he_highest (d := d)  h3) cs_X1_76 (st := []) rfl rfl rfl dX1_next_64 (fun dy => ?_)
      refine r_lload hX dX1_next_67 3 rfl ?_
      obtain ⟨v7, μ5, h6, hf⟩ := bd2_eq hf
      refine r_callSI (Ok.le hX (by omega)) (c_he_highest (d := d)  h6) cs_X1_76 (st := [.int v4]) rfl rfl rfl dX1_next_69 (fun dy => ?_)
      refine r_bipush hX (8 : Int32) dX1_next_72 rfl ?_
      refine r_ishl hX dX1_next_74 ?_
      refine r_ior hX dX1_next_75 ?_
      obtain ⟨v8, e9, hf⟩ := bnd_eq hf
      refine r_topI e9 ?_
      refine r_istore hX dX1_next_76 rfl (ls' := [(6, .int v8), (0, .ref (gA (xG X) (80 + 5 * t))), (1, .int x1), (2, .long y2), (4, .long y4)]) rfl ?_
      refine r_iload hX dX1_next_78 0 rfl ?_
      refine r_aload_n hX dX1_next_80 1 rfl ?_
      refine r_get hX fl_X1_32 (wHe_o ht) rfl dX1_next_81 ?_
      refine r_iand hX dX1_next_84 ?_
      refine r_iload_n hX dX1_next_85 2 rfl ?_
      refine r_aload_n hX dX1_next_86 1 rfl ?_
      refine r_get hX fl_X1_32 (wHe_o ht) rfl dX1_next_87 ?_
      refine r_iconst hX (-1 : Int32) dX1_next_90 rfl ?_
      refine r_ixor hX dX1_next_91 ?_
      refine r_iand hX dX1_next_92 ?_
      refine r_ior hX dX1_next_93 ?_
      exact fin_I hf hr _ _ _ dX1_next_94
    · rw [if_neg hc1] at hf
      refine r_iload_n hX dX1_next_26 1 rfl ?_
      refine r_iload hX dX1_next_27 4 rfl ?_
      refine r_ishr hX dX1_next_29 ?_
      refine r_iconst hX (1 : Int32) dX1_next_30 rfl ?_
      refine r_iand hX dX1_next_31 ?_
      refine r_if_eq hX 57 dX1_next_32 rfl (fun hc10 => ?_) (fun hc10 => ?_)
      · rw [if_pos hc10] at hf
        refine r_iinc hX (x6 + (1 : Int32)) dX1_next_57 4 rfl rfl rfl (ls' := [(6, .int (x6 + (1 : Int32))), (0, .ref (gA (xG X) (80 + 5 * t))), (1, .int x1), (2, .long y2), (4, .long y4)]) rfl ?_
        refine r_goto hX 14 dX1_next_60 rfl ?_
        refine r_weak [1, 2, 3, 4, 0] rfl ?_
        exact ih _ _ _ _ _ _ hf
      · rw [if_neg hc10] at hf
        refine r_lload_n hX dX1_next_35 2 rfl ?_
        refine r_aload_n hX dX1_next_36 0 rfl ?_
        refine r_get hX fl_X1_11 (wHe_o ht) rfl dX1_next_37 ?_
        refine r_iload hX dX1_next_40 4 rfl ?_
        obtain ⟨b11, hf⟩ := chk_eq hf
        refine r_lald hX (wHe_low ht) (inb_in b11) dX1_next_42 ?_
        refine r_ladd hX dX1_next_43 ?_
        obtain ⟨v12, e13, hf⟩ := bnd_eq hf
        refine r_topL e13 ?_
        refine r_lstore_n hX dX1_next_44 rfl (ls' := [(2, .long v12), (0, .ref (gA (xG X) (80 + 5 * t))), (1, .int x1), (4, .long y4), (6, .int x6)]) rfl ?_
        refine r_lload hX dX1_next_45 3 rfl ?_
        refine r_aload_n hX dX1_next_47 1 rfl ?_
        refine r_get hX fl_X1_15 (wHe_o ht) rfl dX1_next_48 ?_
        refine r_iload hX dX1_next_51 4 rfl ?_
        obtain ⟨b14, hf⟩ := chk_eq hf
        refine r_lald hX (wHe_high ht) (inb_in b14) dX1_next_53 ?_
        refine r_ladd hX dX1_next_54 ?_
        obtain ⟨v15, e16, hf⟩ := bnd_eq hf
        refine r_topL e16 ?_
        refine r_lstore hX dX1_next_55 rfl (ls' := [(4, .long v15), (2, .long v12), (0, .ref (gA (xG X) (80 + 5 * t))), (1, .int x1), (6, .int x6)]) rfl ?_
        refine r_iinc hX (x6 + (1 : Int32)) dX1_next_57 4 rfl rfl rfl (ls' := [(6, .int (x6 + (1 : Int32))), (4, .long v15), (2, .long v12), (0, .ref (gA (xG X) (80 + 5 * t))), (1, .int x1)]) rfl ?_
        refine r_goto hX 14 dX1_next_60 rfl ?_
        refine r_weak [3, 4, 2, 1, 0] rfl ?_
        exact ih _ _ _ _ _ _ hf
set_option maxHeartbeats 4000000 in
set_option maxRecDepth 20000 in
theorem c_he_next {G : Gx} {d : Nat} {t : Nat} (ht : t < 2) {x1 : Int32} {μ : Mem} {r : Int32 × Mem} (hf : f_he_next t x1 μ = some r) : Con G M_he_next (d + 1) [.ref (gA G (80 + 5 * t)), .int x1] μ (some (.int r.1), r.2) := by
  refine Con.ofI ⟨rfl, rfl, Nat.le_of_ble_eq_true rfl⟩ rfl rfl (fun X hG hX hr dy => ?_)
  subst hG
  show AW X 0 [(0, .ref (gA (xG X) (80 + 5 * t))), (1, .int x1)] [] μ dy
  unfold f_he_next at hf
  refine r_aload_n hX dX1_next_0 0 rfl ?_
  refine r_get hX fl_X1_36 (wHe_o ht) rfl dX1_next_1 ?_
  refine r_lstore_n hX dX1_next_4 rfl (ls' := [(2, .long (μ.2.1 (lHe t 0) 0)), (0, .ref (gA (xG X) (80 + 5 * t))), (1, .int x1)]) rfl ?_
  refine r_aload_n hX dX1_next_5 1 rfl ?_
  refine r_get hX fl_X1_40 (wHe_o ht) rfl dX1_next_6 ?_
  refine r_lstore hX dX1_next_9 rfl (ls' := [(4, .long (μ.2.1 (lHe t 1) 0)), (2, .long (μ.2.1 (lHe t 0) 0)), (0, .ref (gA (xG X) (80 + 5 * t))), (1, .int x1)]) rfl ?_
  refine r_iconst hX (0 : Int32) dX1_next_11 rfl ?_
  refine r_istore hX dX1_next_12 rfl (ls' := [(6, .int (0 : Int32)), (4, .long (μ.2.1 (lHe t 1) 0)), (2, .long (μ.2.1 (lHe t 0) 0)), (0, .ref (gA (xG X) (80 + 5 * t))), (1, .int x1)]) rfl ?_
  refine r_weak [3, 4, 2, 1, 0] rfl ?_
  exact b_he_next_b14 ht hX hr FU _ _ _ _ _ _ hf
theorem dX0_dayOfAll_0 : decode cX0_dayOfAll 0 = .ok (.aload_n 0, 1) := by decide +kernel
theorem dX0_dayOfAll_1 : decode cX0_dayOfAll 1 = .ok (.getfield 9, 3) := by decide +kernel
theorem dX0_dayOfAll_4 : decode cX0_dayOfAll 4 = .ok (.invokevirtual 28, 3) := by decide +kernel
theorem dX0_dayOfAll_7 : decode cX0_dayOfAll 7 = .ok (.istore_n 2, 1) := by decide +kernel
theorem dX0_dayOfAll_8 : decode cX0_dayOfAll 8 = .ok (.iconst 0, 1) := by decide +kernel
theorem dX0_dayOfAll_9 : decode cX0_dayOfAll 9 = .ok (.istore_n 3, 1) := by decide +kernel
theorem dX0_dayOfAll_10 : decode cX0_dayOfAll 10 = .ok (.iload_n 3, 1) := by decide +kernel
theorem dX0_dayOfAll_11 : decode cX0_dayOfAll 11 = .ok (.iload_n 1, 1) := by decide +kernel
theorem dX0_dayOfAll_12 : decode cX0_dayOfAll 12 = .ok (.if_icmp .gt 43, 3) := by decide +kernel
theorem dX0_dayOfAll_15 : decode cX0_dayOfAll 15 = .ok (.iload_n 2, 1) := by decide +kernel
theorem dX0_dayOfAll_16 : decode cX0_dayOfAll 16 = .ok (.aload_n 0, 1) := by decide +kernel
theorem dX0_dayOfAll_17 : decode cX0_dayOfAll 17 = .ok (.getfield 9, 3) := by decide +kernel
theorem dX0_dayOfAll_20 : decode cX0_dayOfAll 20 = .ok (.invokevirtual 34, 3) := by decide +kernel
theorem dX0_dayOfAll_23 : decode cX0_dayOfAll 23 = .ok (.if_icmp .ne 5, 3) := by decide +kernel
theorem dX0_dayOfAll_26 : decode cX0_dayOfAll 26 = .ok (.iload_n 3, 1) := by decide +kernel
theorem dX0_dayOfAll_27 : decode cX0_dayOfAll 27 = .ok (.ireturn, 1) := by decide +kernel
theorem dX0_dayOfAll_28 : decode cX0_dayOfAll 28 = .ok (.aload_n 0, 1) := by decide +kernel
theorem dX0_dayOfAll_29 : decode cX0_dayOfAll 29 = .ok (.getfield 24, 3) := by decide +kernel
theorem dX0_dayOfAll_32 : decode cX0_dayOfAll 32 = .ok (.iload_n 2, 1) := by decide +kernel
theorem dX0_dayOfAll_33 : decode cX0_dayOfAll 33 = .ok (.invokevirtual 37, 3) := by decide +kernel
theorem dX0_dayOfAll_36 : decode cX0_dayOfAll 36 = .ok (.istore 4, 2) := by decide +kernel
theorem dX0_dayOfAll_38 : decode cX0_dayOfAll 38 = .ok (.iload 4, 2) := by decide +kernel
theorem dX0_dayOfAll_40 : decode cX0_dayOfAll 40 = .ok (.iload_n 2, 1) := by decide +kernel
theorem dX0_dayOfAll_41 : decode cX0_dayOfAll 41 = .ok (.if_icmp .ne 5, 3) := by decide +kernel
theorem dX0_dayOfAll_44 : decode cX0_dayOfAll 44 = .ok (.iconst (-1), 1) := by decide +kernel
theorem dX0_dayOfAll_45 : decode cX0_dayOfAll 45 = .ok (.ireturn, 1) := by decide +kernel
theorem dX0_dayOfAll_46 : decode cX0_dayOfAll 46 = .ok (.iload 4, 2) := by decide +kernel
theorem dX0_dayOfAll_48 : decode cX0_dayOfAll 48 = .ok (.istore_n 2, 1) := by decide +kernel
theorem dX0_dayOfAll_49 : decode cX0_dayOfAll 49 = .ok (.iinc 3 1, 3) := by decide +kernel
theorem dX0_dayOfAll_52 : decode cX0_dayOfAll 52 = .ok (.goto (-42), 3) := by decide +kernel
theorem dX0_dayOfAll_55 : decode cX0_dayOfAll 55 = .ok (.iconst (-1), 1) := by decide +kernel
theorem dX0_dayOfAll_56 : decode cX0_dayOfAll 56 = .ok (.ireturn, 1) := by decide +kernel
set_option maxHeartbeats 4000000 in
set_option maxRecDepth 20000 in
theorem b_ac_dayOfAll_b10 {X : Cx} {d : Nat} (hX : Ok M_ac_dayOfAll (d + 2) X) {r : Int32 × Mem} (hr : RetI M_ac_dayOfAll X r.1 r.2) : ∀ (n : Nat) (x1 : Int32) (x2 : Int32) (x3 : Int32) (μ : Mem) (dy : Nat → Nat), f_ac_dayOfAll_b10 n x1 x2 x3 μ = some r → AW X 10 [(0, .ref (gA (xG X) 110)), (1, .int x1), (2, .int x2), (3, .int x3)] [] μ dy := by
  intro n
  induction n with
  | zero => intro x1 x2 x3 μ dy hf; exact nomatch hf
  | succ n ih =>
    intro x1 x2 x3 μ dy hf
    rw [f_ac_dayOfAll_b10] at hf
    refine r_iload_n hX dX0_dayOfAll_10 3 rfl ?_
    refine r_iload_n hX dX0_dayOfAll_11 1 rfl ?_
    refine r_icmp_gt hX 55 dX0_dayOfAll_12 rfl (fun hc4 => ?_) (fun hc4 => ?_)
    · rw [if_pos hc4] at hf
      refine r_iconst hX (-1 : Int32) dX0_dayOfAll_55 rfl ?_
      exact fin_I hf hr _ _ _ dX0_dayOfAll_56
    · rw [if_neg hc4] at hf
      refine r_iload_n hX dX0_dayOfAll_15 2 rfl ?_
      refine r_aload_n hX dX0_dayOfAll_16 0 rfl ?_
      refine r_get hX fl_X0_9 (w_110 _ _ _) rfl dX0_dayOfAll_17 ?_
      obtain ⟨v7, μ5, h6, hf⟩ := bd2_eq hf
      refine r_callVI (Ok.le hX (by omega)) (c_st_everybody (d := d)  h6) cv_X0_34 (w_4 _ _ _) rfl rfl (st := [.int x2]) rfl rfl rfl dX0_dayOfAll_20 (fun dy => ?_)
      refine r_icmp_ne hX 28 dX0_dayOfAll_23 rfl (fun hc8 => ?_) (fun hc8 => ?_)
      · rw [if_neg hc8] at hf
        refine r_aload_n hX dX0_dayOfAll_28 0 rfl ?_
        refine r_get hX fl_X0_24 (w_110 _ _ _) rfl dX0_dayOfAll_29 ?_
        refine r_iload_n hX dX0_dayOfAll_32 2 rfl ?_
        obtain ⟨v11, μ9, h10, hf⟩ := bd2_eq hf
        refine r_callVI (Ok.le hX (by omega)) (c_he_next (d := d) (by decide) h10) cv_X0_37 (w_85 _ _ _) rfl rfl (st := []) rfl rfl rfl dX0_dayOfAll_33 (fun dy => ?_)
        refine r_istore hX dX0_dayOfAll_36 rfl (ls' := [(4, .int v11), (0, .ref (gA (xG X) 110)), (1, .int x1), (2, .int x2), (3, .int x3)]) rfl ?_
        refine r_iload hX dX0_dayOfAll_38 0 rfl ?_
        refine r_iload_n hX dX0_dayOfAll_40 3 rfl ?_
        refine r_icmp_ne hX 46 dX0_dayOfAll_41 rfl (fun hc12 => ?_) (fun hc12 => ?_)
        · rw [if_neg hc12] at hf
          refine r_iload hX dX0_dayOfAll_46 0 rfl ?_
          refine r_istore_n hX dX0_dayOfAll_48 rfl (ls' := [(2, .int v11), (4, .int v11), (0, .ref (gA (xG X) 110)), (1, .int x1), (3, .int x3)]) rfl ?_
          refine r_iinc hX (x3 + (1 : Int32)) dX0_dayOfAll_49 4 rfl rfl rfl (ls' := [(3, .int (x3 + (1 : Int32))), (2, .int v11), (4, .int v11), (0, .ref (gA (xG X) 110)), (1, .int x1)]) rfl ?_
          refine r_goto hX 10 dX0_dayOfAll_52 rfl ?_
          refine r_weak [3, 4, 1, 0] rfl ?_
          exact ih _ _ _ _ _ hf
        · rw [if_pos hc12] at hf
          refine r_iconst hX (-1 : Int32) dX0_dayOfAll_44 rfl ?_
          exact fin_I hf hr _ _ _ dX0_dayOfAll_45
      · rw [if_pos hc8] at hf
        refine r_iload_n hX dX0_dayOfAll_26 3 rfl ?_
        exact fin_I hf hr _ _ _ dX0_dayOfAll_27
set_option maxHeartbeats 4000000 in
set_option maxRecDepth 20000 in
theorem c_ac_dayOfAll {G : Gx} {d : Nat} {x1 : Int32} {μ : Mem} {r : Int32 × Mem} (hf : f_ac_dayOfAll x1 μ = some r) : Con G M_ac_dayOfAll (d + 2) [.ref (gA G 110), .int x1] μ (some (.int r.1), r.2) := by
  refine Con.ofI ⟨rfl, rfl, Nat.le_of_ble_eq_true rfl⟩ rfl rfl (fun X hG hX hr dy => ?_)
  subst hG
  show AW X 0 [(0, .ref (gA (xG X) 110)), (1, .int x1)] [] μ dy
  unfold f_ac_dayOfAll at hf
  refine r_aload_n hX dX0_dayOfAll_0 0 rfl ?_
  refine r_get hX fl_X0_9 (w_110 _ _ _) rfl dX0_dayOfAll_1 ?_
  obtain ⟨v3, μ1, h2, hf⟩ := bd2_eq hf
  refine r_callVI (Ok.le hX (by omega)) (c_st_now (d := d)  h2) cv_X0_28 (w_4 _ _ _) rfl rfl (st := []) rfl rfl rfl dX0_dayOfAll_4 (fun dy => ?_)
  refine r_istore_n hX dX0_dayOfAll_7 rfl (ls' := [(2, .int v3), (0, .ref (gA (xG X) 110)), (1, .int x1)]) rfl ?_
  refine r_iconst hX (0 : Int32) dX0_dayOfAll_8 rfl ?_
  refine r_istore_n hX dX0_dayOfAll_9 rfl (ls' := [(3, .int (0 : Int32)), (2, .int v3), (0, .ref (gA (xG X) 110)), (1, .int x1)]) rfl ?_
  refine r_weak [2, 3, 1, 0] rfl ?_
  exact b_ac_dayOfAll_b10 hX hr FU _ _ _ _ _ hf
theorem dX1_addLoud_0 : decode cX1_addLoud 0 = .ok (.aload_n 0, 1) := by decide +kernel
theorem dX1_addLoud_1 : decode cX1_addLoud 1 = .ok (.getfield 18, 3) := by decide +kernel
theorem dX1_addLoud_4 : decode cX1_addLoud 4 = .ok (.iload_n 1, 1) := by decide +kernel
theorem dX1_addLoud_5 : decode cX1_addLoud 5 = .ok (.dup2, 1) := by decide +kernel
theorem dX1_addLoud_6 : decode cX1_addLoud 6 = .ok (.iaload, 1) := by decide +kernel
theorem dX1_addLoud_7 : decode cX1_addLoud 7 = .ok (.iload_n 3, 1) := by decide +kernel
theorem dX1_addLoud_8 : decode cX1_addLoud 8 = .ok (.iadd, 1) := by decide +kernel
theorem dX1_addLoud_9 : decode cX1_addLoud 9 = .ok (.iastore, 1) := by decide +kernel
theorem dX1_addLoud_10 : decode cX1_addLoud 10 = .ok (.iload_n 1, 1) := by decide +kernel
theorem dX1_addLoud_11 : decode cX1_addLoud 11 = .ok (.bipush 8, 2) := by decide +kernel
theorem dX1_addLoud_13 : decode cX1_addLoud 13 = .ok (.if_icmp .ge 22, 3) := by decide +kernel
theorem dX1_addLoud_16 : decode cX1_addLoud 16 = .ok (.aload_n 0, 1) := by decide +kernel
theorem dX1_addLoud_17 : decode cX1_addLoud 17 = .ok (.getfield 11, 3) := by decide +kernel
theorem dX1_addLoud_20 : decode cX1_addLoud 20 = .ok (.iload_n 2, 1) := by decide +kernel
theorem dX1_addLoud_21 : decode cX1_addLoud 21 = .ok (.dup2, 1) := by decide +kernel
theorem dX1_addLoud_22 : decode cX1_addLoud 22 = .ok (.laload, 1) := by decide +kernel
theorem dX1_addLoud_23 : decode cX1_addLoud 23 = .ok (.iload_n 3, 1) := by decide +kernel
theorem dX1_addLoud_24 : decode cX1_addLoud 24 = .ok (.i2l, 1) := by decide +kernel
theorem dX1_addLoud_25 : decode cX1_addLoud 25 = .ok (.iload_n 1, 1) := by decide +kernel
theorem dX1_addLoud_26 : decode cX1_addLoud 26 = .ok (.bipush 8, 2) := by decide +kernel
theorem dX1_addLoud_28 : decode cX1_addLoud 28 = .ok (.imul, 1) := by decide +kernel
theorem dX1_addLoud_29 : decode cX1_addLoud 29 = .ok (.lshl, 1) := by decide +kernel
theorem dX1_addLoud_30 : decode cX1_addLoud 30 = .ok (.ladd, 1) := by decide +kernel
theorem dX1_addLoud_31 : decode cX1_addLoud 31 = .ok (.lastore, 1) := by decide +kernel
theorem dX1_addLoud_32 : decode cX1_addLoud 32 = .ok (.goto 22, 3) := by decide +kernel
theorem dX1_addLoud_35 : decode cX1_addLoud 35 = .ok (.aload_n 0, 1) := by decide +kernel
theorem dX1_addLoud_36 : decode cX1_addLoud 36 = .ok (.getfield 15, 3) := by decide +kernel
theorem dX1_addLoud_39 : decode cX1_addLoud 39 = .ok (.iload_n 2, 1) := by decide +kernel
theorem dX1_addLoud_40 : decode cX1_addLoud 40 = .ok (.dup2, 1) := by decide +kernel
theorem dX1_addLoud_41 : decode cX1_addLoud 41 = .ok (.laload, 1) := by decide +kernel
theorem dX1_addLoud_42 : decode cX1_addLoud 42 = .ok (.iload_n 3, 1) := by decide +kernel
theorem dX1_addLoud_43 : decode cX1_addLoud 43 = .ok (.i2l, 1) := by decide +kernel
theorem dX1_addLoud_44 : decode cX1_addLoud 44 = .ok (.iload_n 1, 1) := by decide +kernel
theorem dX1_addLoud_45 : decode cX1_addLoud 45 = .ok (.bipush 8, 2) := by decide +kernel
theorem dX1_addLoud_47 : decode cX1_addLoud 47 = .ok (.isub, 1) := by decide +kernel
theorem dX1_addLoud_48 : decode cX1_addLoud 48 = .ok (.bipush 8, 2) := by decide +kernel
theorem dX1_addLoud_50 : decode cX1_addLoud 50 = .ok (.imul, 1) := by decide +kernel
theorem dX1_addLoud_51 : decode cX1_addLoud 51 = .ok (.lshl, 1) := by decide +kernel
theorem dX1_addLoud_52 : decode cX1_addLoud 52 = .ok (.ladd, 1) := by decide +kernel
theorem dX1_addLoud_53 : decode cX1_addLoud 53 = .ok (.lastore, 1) := by decide +kernel
theorem dX1_addLoud_54 : decode cX1_addLoud 54 = .ok (.return_, 1) := by decide +kernel
set_option maxHeartbeats 4000000 in
set_option maxRecDepth 20000 in
theorem c_he_addLoud {G : Gx} {d : Nat} {t : Nat} (ht : t < 2) {x1 : Int32} {x2 : Int32} {x3 : Int32} {μ : Mem} {r : Mem} (hf : f_he_addLoud t x1 x2 x3 μ = some r) : Con G M_he_addLoud (d + 0) [.ref (gA G (80 + 5 * t)), .int x1, .int x2, .int x3] μ (none, r) := by
  refine Con.ofV ⟨rfl, rfl, Nat.le_of_ble_eq_true rfl⟩ rfl (fun X hG hX hr dy => ?_)
  subst hG
  show AW X 0 [(0, .ref (gA (xG X) (80 + 5 * t))), (1, .int x1), (2, .int x2), (3, .int x3)] [] μ dy
  unfold f_he_addLoud at hf
  refine r_aload_n hX dX1_addLoud_0 0 rfl ?_
  refine r_get hX fl_X1_18 (wHe_o ht) rfl dX1_addLoud_1 ?_
  refine r_iload_n hX dX1_addLoud_4 1 rfl ?_
  refine r_dup2 hX dX1_addLoud_5 rfl rfl ?_
  obtain ⟨b1, hf⟩ := chk_eq hf
  refine r_iald hX (wHe_all ht) (inb_in b1) dX1_addLoud_6 ?_
  refine r_iload_n hX dX1_addLoud_7 3 rfl ?_
  refine r_iadd hX dX1_addLoud_8 ?_
  obtain ⟨b2, hf⟩ := chk_eq hf
  obtain ⟨μ3, e4, hf⟩ := bnd_eq hf
  refine r_iast hX (wHe_all ht) (inb_in b2) (sHe_all ht _ _) e4 rfl dX1_addLoud_9 ?_
  refine r_iload_n hX dX1_addLoud_10 1 rfl ?_
  refine r_bipush hX (8 : Int32) dX1_addLoud_11 rfl ?_
  refine r_icmp_ge hX 35 dX1_addLoud_13 rfl (fun hc5 => ?_) (fun hc5 => ?_)
  · rw [if_pos hc5] at hf
    refine r_aload_n hX dX1_addLoud_35 0 rfl ?_
    refine r_get hX fl_X1_15 (wHe_o ht) rfl dX1_addLoud_36 ?_
    refine r_iload_n hX dX1_addLoud_39 2 rfl ?_
    refine r_dup2 hX dX1_addLoud_40 rfl rfl ?_
    obtain ⟨b6, hf⟩ := chk_eq hf
    refine r_lald hX (wHe_high ht) (inb_in b6) dX1_addLoud_41 ?_
    refine r_iload_n hX dX1_addLoud_42 3 rfl ?_
    refine r_i2l hX dX1_addLoud_43 ?_
    refine r_iload_n hX dX1_addLoud_44 1 rfl ?_
    refine r_bipush hX (8 : Int32) dX1_addLoud_45 rfl ?_
    refine r_isub hX dX1_addLoud_47 ?_
    refine r_bipush hX (8 : Int32) dX1_addLoud_48 rfl ?_
    refine r_imul hX dX1_addLoud_50 ?_
    refine r_lshl hX dX1_addLoud_51 ?_
    refine r_ladd hX dX1_addLoud_52 ?_
    obtain ⟨b7, hf⟩ := chk_eq hf
    obtain ⟨μ8, e9, hf⟩ := bnd_eq hf
    refine r_last hX (wHe_high ht) (inb_in b7) (sHe_high ht _ _) e9 rfl dX1_addLoud_53 ?_
    exact fin_V hf hr _ _ _ dX1_addLoud_54
  · rw [if_neg hc5] at hf
    refine r_aload_n hX dX1_addLoud_16 0 rfl ?_
    refine r_get hX fl_X1_11 (wHe_o ht) rfl dX1_addLoud_17 ?_
    refine r_iload_n hX dX1_addLoud_20 2 rfl ?_
    refine r_dup2 hX dX1_addLoud_21 rfl rfl ?_
    obtain ⟨b10, hf⟩ := chk_eq hf
    refine r_lald hX (wHe_low ht) (inb_in b10) dX1_addLoud_22 ?_
    refine r_iload_n hX dX1_addLoud_23 3 rfl ?_
    refine r_i2l hX dX1_addLoud_24 ?_
    refine r_iload_n hX dX1_addLoud_25 1 rfl ?_
    refine r_bipush hX (8 : Int32) dX1_addLoud_26 rfl ?_
    refine r_imul hX dX1_addLoud_28 ?_
    refine r_lshl hX dX1_addLoud_29 ?_
    refine r_ladd hX dX1_addLoud_30 ?_
    obtain ⟨b11, hf⟩ := chk_eq hf
    obtain ⟨μ12, e13, hf⟩ := bnd_eq hf
    refine r_last hX (wHe_low ht) (inb_in b11) (sHe_low ht _ _) e13 rfl dX1_addLoud_31 ?_
    refine r_goto hX 54 dX1_addLoud_32 rfl ?_
    exact fin_V hf hr _ _ _ dX1_addLoud_54
theorem dX1_raiseBar_0 : decode cX1_raiseBar 0 = .ok (.bipush 127, 2) := by decide +kernel
theorem dX1_raiseBar_2 : decode cX1_raiseBar 2 = .ok (.aload_n 0, 1) := by decide +kernel
theorem dX1_raiseBar_3 : decode cX1_raiseBar 3 = .ok (.getfield 22, 3) := by decide +kernel
theorem dX1_raiseBar_6 : decode cX1_raiseBar 6 = .ok (.iload_n 1, 1) := by decide +kernel
theorem dX1_raiseBar_7 : decode cX1_raiseBar 7 = .ok (.iaload, 1) := by decide +kernel
theorem dX1_raiseBar_8 : decode cX1_raiseBar 8 = .ok (.aload_n 0, 1) := by decide +kernel
theorem dX1_raiseBar_9 : decode cX1_raiseBar 9 = .ok (.getfield 18, 3) := by decide +kernel
theorem dX1_raiseBar_12 : decode cX1_raiseBar 12 = .ok (.iload_n 1, 1) := by decide +kernel
theorem dX1_raiseBar_13 : decode cX1_raiseBar 13 = .ok (.iaload, 1) := by decide +kernel
theorem dX1_raiseBar_14 : decode cX1_raiseBar 14 = .ok (.imul, 1) := by decide +kernel
theorem dX1_raiseBar_15 : decode cX1_raiseBar 15 = .ok (.bipush 100, 2) := by decide +kernel
theorem dX1_raiseBar_17 : decode cX1_raiseBar 17 = .ok (.idiv, 1) := by decide +kernel
theorem dX1_raiseBar_18 : decode cX1_raiseBar 18 = .ok (.isub, 1) := by decide +kernel
theorem dX1_raiseBar_19 : decode cX1_raiseBar 19 = .ok (.i2l, 1) := by decide +kernel
theorem dX1_raiseBar_20 : decode cX1_raiseBar 20 = .ok (.lstore_n 2, 1) := by decide +kernel
theorem dX1_raiseBar_21 : decode cX1_raiseBar 21 = .ok (.iload_n 1, 1) := by decide +kernel
theorem dX1_raiseBar_22 : decode cX1_raiseBar 22 = .ok (.bipush 8, 2) := by decide +kernel
theorem dX1_raiseBar_24 : decode cX1_raiseBar 24 = .ok (.if_icmp .ge 36, 3) := by decide +kernel
theorem dX1_raiseBar_27 : decode cX1_raiseBar 27 = .ok (.iload_n 1, 1) := by decide +kernel
theorem dX1_raiseBar_28 : decode cX1_raiseBar 28 = .ok (.bipush 8, 2) := by decide +kernel
theorem dX1_raiseBar_30 : decode cX1_raiseBar 30 = .ok (.imul, 1) := by decide +kernel
theorem dX1_raiseBar_31 : decode cX1_raiseBar 31 = .ok (.istore 4, 2) := by decide +kernel
theorem dX1_raiseBar_33 : decode cX1_raiseBar 33 = .ok (.aload_n 0, 1) := by decide +kernel
theorem dX1_raiseBar_34 : decode cX1_raiseBar 34 = .ok (.aload_n 0, 1) := by decide +kernel
theorem dX1_raiseBar_35 : decode cX1_raiseBar 35 = .ok (.getfield 36, 3) := by decide +kernel
theorem dX1_raiseBar_38 : decode cX1_raiseBar 38 = .ok (.ldc2_w 69, 3) := by decide +kernel
theorem dX1_raiseBar_41 : decode cX1_raiseBar 41 = .ok (.iload 4, 2) := by decide +kernel
theorem dX1_raiseBar_43 : decode cX1_raiseBar 43 = .ok (.lshl, 1) := by decide +kernel
theorem dX1_raiseBar_44 : decode cX1_raiseBar 44 = .ok (.ldc2_w 71, 3) := by decide +kernel
theorem dX1_raiseBar_47 : decode cX1_raiseBar 47 = .ok (.lxor, 1) := by decide +kernel
theorem dX1_raiseBar_48 : decode cX1_raiseBar 48 = .ok (.land, 1) := by decide +kernel
theorem dX1_raiseBar_49 : decode cX1_raiseBar 49 = .ok (.lload_n 2, 1) := by decide +kernel
theorem dX1_raiseBar_50 : decode cX1_raiseBar 50 = .ok (.iload 4, 2) := by decide +kernel
theorem dX1_raiseBar_52 : decode cX1_raiseBar 52 = .ok (.lshl, 1) := by decide +kernel
theorem dX1_raiseBar_53 : decode cX1_raiseBar 53 = .ok (.lor, 1) := by decide +kernel
theorem dX1_raiseBar_54 : decode cX1_raiseBar 54 = .ok (.putfield 36, 3) := by decide +kernel
theorem dX1_raiseBar_57 : decode cX1_raiseBar 57 = .ok (.goto 36, 3) := by decide +kernel
theorem dX1_raiseBar_60 : decode cX1_raiseBar 60 = .ok (.iload_n 1, 1) := by decide +kernel
theorem dX1_raiseBar_61 : decode cX1_raiseBar 61 = .ok (.bipush 8, 2) := by decide +kernel
theorem dX1_raiseBar_63 : decode cX1_raiseBar 63 = .ok (.isub, 1) := by decide +kernel
theorem dX1_raiseBar_64 : decode cX1_raiseBar 64 = .ok (.bipush 8, 2) := by decide +kernel
theorem dX1_raiseBar_66 : decode cX1_raiseBar 66 = .ok (.imul, 1) := by decide +kernel
theorem dX1_raiseBar_67 : decode cX1_raiseBar 67 = .ok (.istore 4, 2) := by decide +kernel
theorem dX1_raiseBar_69 : decode cX1_raiseBar 69 = .ok (.aload_n 0, 1) := by decide +kernel
theorem dX1_raiseBar_70 : decode cX1_raiseBar 70 = .ok (.aload_n 0, 1) := by decide +kernel
theorem dX1_raiseBar_71 : decode cX1_raiseBar 71 = .ok (.getfield 40, 3) := by decide +kernel
theorem dX1_raiseBar_74 : decode cX1_raiseBar 74 = .ok (.ldc2_w 69, 3) := by decide +kernel
theorem dX1_raiseBar_77 : decode cX1_raiseBar 77 = .ok (.iload 4, 2) := by decide +kernel
theorem dX1_raiseBar_79 : decode cX1_raiseBar 79 = .ok (.lshl, 1) := by decide +kernel
theorem dX1_raiseBar_80 : decode cX1_raiseBar 80 = .ok (.ldc2_w 71, 3) := by decide +kernel
theorem dX1_raiseBar_83 : decode cX1_raiseBar 83 = .ok (.lxor, 1) := by decide +kernel
theorem dX1_raiseBar_84 : decode cX1_raiseBar 84 = .ok (.land, 1) := by decide +kernel
theorem dX1_raiseBar_85 : decode cX1_raiseBar 85 = .ok (.lload_n 2, 1) := by decide +kernel
theorem dX1_raiseBar_86 : decode cX1_raiseBar 86 = .ok (.iload 4, 2) := by decide +kernel
theorem dX1_raiseBar_88 : decode cX1_raiseBar 88 = .ok (.lshl, 1) := by decide +kernel
theorem dX1_raiseBar_89 : decode cX1_raiseBar 89 = .ok (.lor, 1) := by decide +kernel
theorem dX1_raiseBar_90 : decode cX1_raiseBar 90 = .ok (.putfield 40, 3) := by decide +kernel
theorem dX1_raiseBar_93 : decode cX1_raiseBar 93 = .ok (.aload_n 0, 1) := by decide +kernel
theorem dX1_raiseBar_94 : decode cX1_raiseBar 94 = .ok (.getfield 18, 3) := by decide +kernel
theorem dX1_raiseBar_97 : decode cX1_raiseBar 97 = .ok (.iload_n 1, 1) := by decide +kernel
theorem dX1_raiseBar_98 : decode cX1_raiseBar 98 = .ok (.iaload, 1) := by decide +kernel
theorem dX1_raiseBar_99 : decode cX1_raiseBar 99 = .ok (.ifCond .le 21, 3) := by decide +kernel
theorem dX1_raiseBar_102 : decode cX1_raiseBar 102 = .ok (.aload_n 0, 1) := by decide +kernel
theorem dX1_raiseBar_103 : decode cX1_raiseBar 103 = .ok (.getfield 28, 3) := by decide +kernel
theorem dX1_raiseBar_106 : decode cX1_raiseBar 106 = .ok (.getfield 73, 3) := by decide +kernel
theorem dX1_raiseBar_109 : decode cX1_raiseBar 109 = .ok (.iload_n 1, 1) := by decide +kernel
theorem dX1_raiseBar_110 : decode cX1_raiseBar 110 = .ok (.ishr, 1) := by decide +kernel
theorem dX1_raiseBar_111 : decode cX1_raiseBar 111 = .ok (.iconst 1, 1) := by decide +kernel
theorem dX1_raiseBar_112 : decode cX1_raiseBar 112 = .ok (.iand, 1) := by decide +kernel
theorem dX1_raiseBar_113 : decode cX1_raiseBar 113 = .ok (.ifCond .ne 7, 3) := by decide +kernel
theorem dX1_raiseBar_116 : decode cX1_raiseBar 116 = .ok (.iconst 1, 1) := by decide +kernel
theorem dX1_raiseBar_117 : decode cX1_raiseBar 117 = .ok (.goto 4, 3) := by decide +kernel
theorem dX1_raiseBar_120 : decode cX1_raiseBar 120 = .ok (.iconst 0, 1) := by decide +kernel
theorem dX1_raiseBar_121 : decode cX1_raiseBar 121 = .ok (.istore 4, 2) := by decide +kernel
theorem dX1_raiseBar_123 : decode cX1_raiseBar 123 = .ok (.aload_n 0, 1) := by decide +kernel
theorem dX1_raiseBar_124 : decode cX1_raiseBar 124 = .ok (.iload 4, 2) := by decide +kernel
theorem dX1_raiseBar_126 : decode cX1_raiseBar 126 = .ok (.ifCond .eq 14, 3) := by decide +kernel
theorem dX1_raiseBar_129 : decode cX1_raiseBar 129 = .ok (.aload_n 0, 1) := by decide +kernel
theorem dX1_raiseBar_130 : decode cX1_raiseBar 130 = .ok (.getfield 32, 3) := by decide +kernel
theorem dX1_raiseBar_133 : decode cX1_raiseBar 133 = .ok (.iconst 1, 1) := by decide +kernel
theorem dX1_raiseBar_134 : decode cX1_raiseBar 134 = .ok (.iload_n 1, 1) := by decide +kernel
theorem dX1_raiseBar_135 : decode cX1_raiseBar 135 = .ok (.ishl, 1) := by decide +kernel
theorem dX1_raiseBar_136 : decode cX1_raiseBar 136 = .ok (.ior, 1) := by decide +kernel
theorem dX1_raiseBar_137 : decode cX1_raiseBar 137 = .ok (.goto 13, 3) := by decide +kernel
theorem dX1_raiseBar_140 : decode cX1_raiseBar 140 = .ok (.aload_n 0, 1) := by decide +kernel
theorem dX1_raiseBar_141 : decode cX1_raiseBar 141 = .ok (.getfield 32, 3) := by decide +kernel
theorem dX1_raiseBar_144 : decode cX1_raiseBar 144 = .ok (.iconst 1, 1) := by decide +kernel
theorem dX1_raiseBar_145 : decode cX1_raiseBar 145 = .ok (.iload_n 1, 1) := by decide +kernel
theorem dX1_raiseBar_146 : decode cX1_raiseBar 146 = .ok (.ishl, 1) := by decide +kernel
theorem dX1_raiseBar_147 : decode cX1_raiseBar 147 = .ok (.iconst (-1), 1) := by decide +kernel
theorem dX1_raiseBar_148 : decode cX1_raiseBar 148 = .ok (.ixor, 1) := by decide +kernel
theorem dX1_raiseBar_149 : decode cX1_raiseBar 149 = .ok (.iand, 1) := by decide +kernel
theorem dX1_raiseBar_150 : decode cX1_raiseBar 150 = .ok (.putfield 32, 3) := by decide +kernel
theorem dX1_raiseBar_153 : decode cX1_raiseBar 153 = .ok (.return_, 1) := by decide +kernel
set_option maxHeartbeats 4000000 in
set_option maxRecDepth 20000 in
theorem b_he_raiseBar_b93 {X : Cx} {d : Nat} {t : Nat} (ht : t < 2) (hX : Ok M_he_raiseBar (d + 0) X) {r : Mem} (hr : RetV M_he_raiseBar X r) (x1 : Int32) (μ : Mem) (dy : Nat → Nat) (hf : f_he_raiseBar_b93 t x1 μ = some r) : AW X 93 [(0, .ref (gA (xG X) (80 + 5 * t))), (1, .int x1)] [] μ dy := by
  unfold f_he_raiseBar_b93 at hf
  refine r_aload_n hX dX1_raiseBar_93 0 rfl ?_
  refine r_get hX fl_X1_18 (wHe_o ht) rfl dX1_raiseBar_94 ?_
  refine r_iload_n hX dX1_raiseBar_97 1 rfl ?_
  obtain ⟨b11, hf⟩ := chk_eq hf
  refine r_iald hX (wHe_all ht) (inb_in b11) dX1_raiseBar_98 ?_
  obtain ⟨v12, e13, hf⟩ := bnd_eq hf
  have J14 : AW X 121 [(0, .ref (gA (xG X) (80 + 5 * t))), (1, .int x1)] [.int v12] μ dy := by
    refine r_istore hX dX1_raiseBar_121 rfl (ls' := [(4, .int v12), (0, .ref (gA (xG X) (80 + 5 * t))), (1, .int x1)]) rfl ?_
    refine r_aload_n hX dX1_raiseBar_123 1 rfl ?_
    refine r_iload hX dX1_raiseBar_124 0 rfl ?_
    obtain ⟨v15, e16, hf⟩ := bnd_eq hf
    have J17 : AW X 150 [(4, .int v12), (0, .ref (gA (xG X) (80 + 5 * t))), (1, .int x1)] [.int v15, .ref (gA (xG X) (80 + 5 * t))] μ dy := by
      obtain ⟨μ18, e19, hf⟩ := bnd_eq hf
      refine r_put hX fl_X1_32 ft_X1_7 (wHe_o ht) rfl rfl rfl (sHe_moving ht _) e19 rfl dX1_raiseBar_150 ?_
      exact fin_V hf hr _ _ _ dX1_raiseBar_153
    refine r_if_eq hX 140 dX1_raiseBar_126 rfl (fun hc20 => ?_) (fun hc20 => ?_)
    · refine r_aload_n hX dX1_raiseBar_140 1 rfl ?_
      refine r_get hX fl_X1_32 (wHe_o ht) rfl dX1_raiseBar_141 ?_
      refine r_iconst hX (1 : Int32) dX1_raiseBar_144 rfl ?_
      refine r_iload_n hX dX1_raiseBar_145 2 rfl ?_
      refine r_ishl hX dX1_raiseBar_146 ?_
      refine r_iconst hX (-1 : Int32) dX1_raiseBar_147 rfl ?_
      refine r_ixor hX dX1_raiseBar_148 ?_
      refine r_iand hX dX1_raiseBar_149 ?_
      exact r_topI (e16.trans (by rw [if_pos hc20])) J17
    · refine r_aload_n hX dX1_raiseBar_129 1 rfl ?_
      refine r_get hX fl_X1_32 (wHe_o ht) rfl dX1_raiseBar_130 ?_
      refine r_iconst hX (1 : Int32) dX1_raiseBar_133 rfl ?_
      refine r_iload_n hX dX1_raiseBar_134 2 rfl ?_
      refine r_ishl hX dX1_raiseBar_135 ?_
      refine r_ior hX dX1_raiseBar_136 ?_
      refine r_goto hX 150 dX1_raiseBar_137 rfl ?_
      exact r_topI (e16.trans (by rw [if_neg hc20])) J17
  refine r_if_le hX 120 dX1_raiseBar_99 rfl (fun hc21 => ?_) (fun hc21 => ?_)
  · refine r_iconst hX (0 : Int32) dX1_raiseBar_120 rfl ?_
    exact r_topI (e13.trans (by rw [if_pos hc21])) J14
  · refine r_aload_n hX dX1_raiseBar_102 0 rfl ?_
    refine r_get hX fl_X1_28 (wHe_o ht) rfl dX1_raiseBar_103 ?_
    refine r_getN hX fl_X1_73 (w_4 _ _ _) rfl dX1_raiseBar_106 ?_
    refine r_iload_n hX dX1_raiseBar_109 1 rfl ?_
    refine r_ishr hX dX1_raiseBar_110 ?_
    refine r_iconst hX (1 : Int32) dX1_raiseBar_111 rfl ?_
    refine r_iand hX dX1_raiseBar_112 ?_
    refine r_if_ne hX 120 dX1_raiseBar_113 rfl (fun hc22 => ?_) (fun hc22 => ?_)
    · refine r_iconst hX (0 : Int32) dX1_raiseBar_120 rfl ?_
      exact r_topI (e13.trans (by rw [if_neg hc21, if_neg hc22])) J14
    · refine r_iconst hX (1 : Int32) dX1_raiseBar_116 rfl ?_
      refine r_goto hX 121 dX1_raiseBar_117 rfl ?_
      exact r_topI (e13.trans (by rw [if_neg hc21, if_pos hc22])) J14
set_option maxHeartbeats 4000000 in
set_option maxRecDepth 20000 in
theorem c_he_raiseBar {G : Gx} {d : Nat} {t : Nat} (ht : t < 2) {x1 : Int32} {μ : Mem} {r : Mem} (hf : f_he_raiseBar t x1 μ = some r) : Con G M_he_raiseBar (d + 0) [.ref (gA G (80 + 5 * t)), .int x1] μ (none, r) := by
  refine Con.ofV ⟨rfl, rfl, Nat.le_of_ble_eq_true rfl⟩ rfl (fun X hG hX hr dy => ?_)
  subst hG
  show AW X 0 [(0, .ref (gA (xG X) (80 + 5 * t))), (1, .int x1)] [] μ dy
  unfold f_he_raiseBar at hf
  refine r_bipush hX (127 : Int32) dX1_raiseBar_0 rfl ?_
  refine r_aload_n hX dX1_raiseBar_2 0 rfl ?_
  refine r_get hX fl_X1_22 (wHe_o ht) rfl dX1_raiseBar_3 ?_
  refine r_iload_n hX dX1_raiseBar_6 1 rfl ?_
  obtain ⟨b1, hf⟩ := chk_eq hf
  refine r_iald hX (wHe_need ht) (inb_in b1) dX1_raiseBar_7 ?_
  refine r_aload_n hX dX1_raiseBar_8 0 rfl ?_
  refine r_get hX fl_X1_18 (wHe_o ht) rfl dX1_raiseBar_9 ?_
  refine r_iload_n hX dX1_raiseBar_12 1 rfl ?_
  obtain ⟨b2, hf⟩ := chk_eq hf
  refine r_iald hX (wHe_all ht) (inb_in b2) dX1_raiseBar_13 ?_
  refine r_imul hX dX1_raiseBar_14 ?_
  refine r_bipush hX (100 : Int32) dX1_raiseBar_15 rfl ?_
  refine r_idiv hX dX1_raiseBar_17 (by decide) ?_
  refine r_isub hX dX1_raiseBar_18 ?_
  refine r_i2l hX dX1_raiseBar_19 ?_
  obtain ⟨v4, e5, hf⟩ := bnd_eq hf
  refine r_topL e5 ?_
  refine r_lstore_n hX dX1_raiseBar_20 rfl (ls' := [(2, .long v4), (0, .ref (gA (xG X) (80 + 5 * t))), (1, .int x1)]) rfl ?_
  refine r_iload_n hX dX1_raiseBar_21 2 rfl ?_
  refine r_bipush hX (8 : Int32) dX1_raiseBar_22 rfl ?_
  refine r_icmp_ge hX 60 dX1_raiseBar_24 rfl (fun hc6 => ?_) (fun hc6 => ?_)
  · rw [if_pos hc6] at hf
    refine r_iload_n hX dX1_raiseBar_60 2 rfl ?_
    refine r_bipush hX (8 : Int32) dX1_raiseBar_61 rfl ?_
    refine r_isub hX dX1_raiseBar_63 ?_
    refine r_bipush hX (8 : Int32) dX1_raiseBar_64 rfl ?_
    refine r_imul hX dX1_raiseBar_66 ?_
    obtain ⟨v7, e8, hf⟩ := bnd_eq hf
    refine r_topI e8 ?_
    refine r_istore hX dX1_raiseBar_67 rfl (ls' := [(4, .int v7), (2, .long v4), (0, .ref (gA (xG X) (80 + 5 * t))), (1, .int x1)]) rfl ?_
    refine r_aload_n hX dX1_raiseBar_69 2 rfl ?_
    refine r_aload_n hX dX1_raiseBar_70 2 rfl ?_
    refine r_get hX fl_X1_40 (wHe_o ht) rfl dX1_raiseBar_71 ?_
    refine r_ldc2 hX dX1_raiseBar_74 kc_X1_69 ?_
    refine r_iload hX dX1_raiseBar_77 0 rfl ?_
    refine r_lshl hX dX1_raiseBar_79 ?_
    refine r_ldc2 hX dX1_raiseBar_80 kc_X1_71 ?_
    refine r_lxor hX dX1_raiseBar_83 ?_
    refine r_land hX dX1_raiseBar_84 ?_
    refine r_lload_n hX dX1_raiseBar_85 1 rfl ?_
    refine r_iload hX dX1_raiseBar_86 0 rfl ?_
    refine r_lshl hX dX1_raiseBar_88 ?_
    refine r_lor hX dX1_raiseBar_89 ?_
    obtain ⟨μ9, e10, hf⟩ := bnd_eq hf
    refine r_put hX fl_X1_40 ft_X1_6 (wHe_o ht) rfl rfl rfl (sHe_highBar ht _) e10 rfl dX1_raiseBar_90 ?_
    refine r_weak [2, 3] rfl ?_
    exact b_he_raiseBar_b93 ht hX hr _ _ _ hf
  · rw [if_neg hc6] at hf
    refine r_iload_n hX dX1_raiseBar_27 2 rfl ?_
    refine r_bipush hX (8 : Int32) dX1_raiseBar_28 rfl ?_
    refine r_imul hX dX1_raiseBar_30 ?_
    refine r_istore hX dX1_raiseBar_31 rfl (ls' := [(4, .int (x1 * (8 : Int32))), (2, .long v4), (0, .ref (gA (xG X) (80 + 5 * t))), (1, .int x1)]) rfl ?_
    refine r_aload_n hX dX1_raiseBar_33 2 rfl ?_
    refine r_aload_n hX dX1_raiseBar_34 2 rfl ?_
    refine r_get hX fl_X1_36 (wHe_o ht) rfl dX1_raiseBar_35 ?_
    refine r_ldc2 hX dX1_raiseBar_38 kc_X1_69 ?_
    refine r_iload hX dX1_raiseBar_41 0 rfl ?_
    refine r_lshl hX dX1_raiseBar_43 ?_
    refine r_ldc2 hX dX1_raiseBar_44 kc_X1_71 ?_
    refine r_lxor hX dX1_raiseBar_47 ?_
    refine r_land hX dX1_raiseBar_48 ?_
    refine r_lload_n hX dX1_raiseBar_49 1 rfl ?_
    refine r_iload hX dX1_raiseBar_50 0 rfl ?_
    refine r_lshl hX dX1_raiseBar_52 ?_
    refine r_lor hX dX1_raiseBar_53 ?_
    obtain ⟨μ23, e24, hf⟩ := bnd_eq hf
    refine r_put hX fl_X1_36 ft_X1_5 (wHe_o ht) rfl rfl rfl (sHe_lowBar ht _) e24 rfl dX1_raiseBar_54 ?_
    refine r_goto hX 93 dX1_raiseBar_57 rfl ?_
    refine r_weak [2, 3] rfl ?_
    exact b_he_raiseBar_b93 ht hX hr _ _ _ hf
theorem dX1_learn_0 : decode cX1_learn 0 = .ok (.aload_n 0, 1) := by decide +kernel
theorem dX1_learn_1 : decode cX1_learn 1 = .ok (.iconst 0, 1) := by decide +kernel
theorem dX1_learn_2 : decode cX1_learn 2 = .ok (.putfield 32, 3) := by decide +kernel
theorem dX1_learn_5 : decode cX1_learn 5 = .ok (.aload_n 0, 1) := by decide +kernel
theorem dX1_learn_6 : decode cX1_learn 6 = .ok (.lconst 0, 1) := by decide +kernel
theorem dX1_learn_7 : decode cX1_learn 7 = .ok (.putfield 36, 3) := by decide +kernel
theorem dX1_learn_10 : decode cX1_learn 10 = .ok (.aload_n 0, 1) := by decide +kernel
theorem dX1_learn_11 : decode cX1_learn 11 = .ok (.lconst 0, 1) := by decide +kernel
theorem dX1_learn_12 : decode cX1_learn 12 = .ok (.putfield 40, 3) := by decide +kernel
theorem dX1_learn_15 : decode cX1_learn 15 = .ok (.iconst 0, 1) := by decide +kernel
theorem dX1_learn_16 : decode cX1_learn 16 = .ok (.istore_n 1, 1) := by decide +kernel
theorem dX1_learn_17 : decode cX1_learn 17 = .ok (.iload_n 1, 1) := by decide +kernel
theorem dX1_learn_18 : decode cX1_learn 18 = .ok (.aload_n 0, 1) := by decide +kernel
theorem dX1_learn_19 : decode cX1_learn 19 = .ok (.getfield 28, 3) := by decide +kernel
theorem dX1_learn_22 : decode cX1_learn 22 = .ok (.getfield 43, 3) := by decide +kernel
theorem dX1_learn_25 : decode cX1_learn 25 = .ok (.if_icmp .ge 45, 3) := by decide +kernel
theorem dX1_learn_28 : decode cX1_learn 28 = .ok (.aload_n 0, 1) := by decide +kernel
theorem dX1_learn_29 : decode cX1_learn 29 = .ok (.getfield 11, 3) := by decide +kernel
theorem dX1_learn_32 : decode cX1_learn 32 = .ok (.iload_n 1, 1) := by decide +kernel
theorem dX1_learn_33 : decode cX1_learn 33 = .ok (.lconst 0, 1) := by decide +kernel
theorem dX1_learn_34 : decode cX1_learn 34 = .ok (.lastore, 1) := by decide +kernel
theorem dX1_learn_35 : decode cX1_learn 35 = .ok (.aload_n 0, 1) := by decide +kernel
theorem dX1_learn_36 : decode cX1_learn 36 = .ok (.getfield 15, 3) := by decide +kernel
theorem dX1_learn_39 : decode cX1_learn 39 = .ok (.iload_n 1, 1) := by decide +kernel
theorem dX1_learn_40 : decode cX1_learn 40 = .ok (.lconst 0, 1) := by decide +kernel
theorem dX1_learn_41 : decode cX1_learn 41 = .ok (.lastore, 1) := by decide +kernel
theorem dX1_learn_42 : decode cX1_learn 42 = .ok (.aload_n 0, 1) := by decide +kernel
theorem dX1_learn_43 : decode cX1_learn 43 = .ok (.getfield 18, 3) := by decide +kernel
theorem dX1_learn_46 : decode cX1_learn 46 = .ok (.iload_n 1, 1) := by decide +kernel
theorem dX1_learn_47 : decode cX1_learn 47 = .ok (.iconst 0, 1) := by decide +kernel
theorem dX1_learn_48 : decode cX1_learn 48 = .ok (.iastore, 1) := by decide +kernel
theorem dX1_learn_49 : decode cX1_learn 49 = .ok (.aload_n 0, 1) := by decide +kernel
theorem dX1_learn_50 : decode cX1_learn 50 = .ok (.getfield 22, 3) := by decide +kernel
theorem dX1_learn_53 : decode cX1_learn 53 = .ok (.iload_n 1, 1) := by decide +kernel
theorem dX1_learn_54 : decode cX1_learn 54 = .ok (.aload_n 0, 1) := by decide +kernel
theorem dX1_learn_55 : decode cX1_learn 55 = .ok (.getfield 28, 3) := by decide +kernel
theorem dX1_learn_58 : decode cX1_learn 58 = .ok (.getfield 48, 3) := by decide +kernel
theorem dX1_learn_61 : decode cX1_learn 61 = .ok (.iload_n 1, 1) := by decide +kernel
theorem dX1_learn_62 : decode cX1_learn 62 = .ok (.iaload, 1) := by decide +kernel
theorem dX1_learn_63 : decode cX1_learn 63 = .ok (.iastore, 1) := by decide +kernel
theorem dX1_learn_64 : decode cX1_learn 64 = .ok (.iinc 1 1, 3) := by decide +kernel
theorem dX1_learn_67 : decode cX1_learn 67 = .ok (.goto (-50), 3) := by decide +kernel
theorem dX1_learn_70 : decode cX1_learn 70 = .ok (.iconst 0, 1) := by decide +kernel
theorem dX1_learn_71 : decode cX1_learn 71 = .ok (.istore_n 1, 1) := by decide +kernel
theorem dX1_learn_72 : decode cX1_learn 72 = .ok (.iload_n 1, 1) := by decide +kernel
theorem dX1_learn_73 : decode cX1_learn 73 = .ok (.aload_n 0, 1) := by decide +kernel
theorem dX1_learn_74 : decode cX1_learn 74 = .ok (.getfield 28, 3) := by decide +kernel
theorem dX1_learn_77 : decode cX1_learn 77 = .ok (.getfield 43, 3) := by decide +kernel
theorem dX1_learn_80 : decode cX1_learn 80 = .ok (.if_icmp .ge 50, 3) := by decide +kernel
theorem dX1_learn_83 : decode cX1_learn 83 = .ok (.iconst 0, 1) := by decide +kernel
theorem dX1_learn_84 : decode cX1_learn 84 = .ok (.istore_n 2, 1) := by decide +kernel
theorem dX1_learn_85 : decode cX1_learn 85 = .ok (.iload_n 2, 1) := by decide +kernel
theorem dX1_learn_86 : decode cX1_learn 86 = .ok (.aload_n 0, 1) := by decide +kernel
theorem dX1_learn_87 : decode cX1_learn 87 = .ok (.getfield 28, 3) := by decide +kernel
theorem dX1_learn_90 : decode cX1_learn 90 = .ok (.getfield 43, 3) := by decide +kernel
theorem dX1_learn_93 : decode cX1_learn 93 = .ok (.if_icmp .ge 26, 3) := by decide +kernel
theorem dX1_learn_96 : decode cX1_learn 96 = .ok (.aload_n 0, 1) := by decide +kernel
theorem dX1_learn_97 : decode cX1_learn 97 = .ok (.iload_n 1, 1) := by decide +kernel
theorem dX1_learn_98 : decode cX1_learn 98 = .ok (.iload_n 2, 1) := by decide +kernel
theorem dX1_learn_99 : decode cX1_learn 99 = .ok (.aload_n 0, 1) := by decide +kernel
theorem dX1_learn_100 : decode cX1_learn 100 = .ok (.getfield 28, 3) := by decide +kernel
theorem dX1_learn_103 : decode cX1_learn 103 = .ok (.getfield 49, 3) := by decide +kernel
theorem dX1_learn_106 : decode cX1_learn 106 = .ok (.iload_n 1, 1) := by decide +kernel
theorem dX1_learn_107 : decode cX1_learn 107 = .ok (.aaload, 1) := by decide +kernel
theorem dX1_learn_108 : decode cX1_learn 108 = .ok (.iload_n 2, 1) := by decide +kernel
theorem dX1_learn_109 : decode cX1_learn 109 = .ok (.iaload, 1) := by decide +kernel
theorem dX1_learn_110 : decode cX1_learn 110 = .ok (.invokevirtual 53, 3) := by decide +kernel
theorem dX1_learn_113 : decode cX1_learn 113 = .ok (.iinc 2 1, 3) := by decide +kernel
theorem dX1_learn_116 : decode cX1_learn 116 = .ok (.goto (-31), 3) := by decide +kernel
theorem dX1_learn_119 : decode cX1_learn 119 = .ok (.aload_n 0, 1) := by decide +kernel
theorem dX1_learn_120 : decode cX1_learn 120 = .ok (.iload_n 1, 1) := by decide +kernel
theorem dX1_learn_121 : decode cX1_learn 121 = .ok (.invokevirtual 57, 3) := by decide +kernel
theorem dX1_learn_124 : decode cX1_learn 124 = .ok (.iinc 1 1, 3) := by decide +kernel
theorem dX1_learn_127 : decode cX1_learn 127 = .ok (.goto (-55), 3) := by decide +kernel
theorem dX1_learn_130 : decode cX1_learn 130 = .ok (.aload_n 0, 1) := by decide +kernel
theorem dX1_learn_131 : decode cX1_learn 131 = .ok (.aload_n 0, 1) := by decide +kernel
theorem dX1_learn_132 : decode cX1_learn 132 = .ok (.getfield 28, 3) := by decide +kernel
theorem dX1_learn_135 : decode cX1_learn 135 = .ok (.getfield 61, 3) := by decide +kernel
theorem dX1_learn_138 : decode cX1_learn 138 = .ok (.putfield 64, 3) := by decide +kernel
theorem dX1_learn_141 : decode cX1_learn 141 = .ok (.return_, 1) := by decide +kernel
set_option maxHeartbeats 4000000 in
set_option maxRecDepth 20000 in
theorem b_he_learn_b85 {X : Cx} {d : Nat} {t : Nat} (ht : t < 2) (hX : Ok M_he_learn (d + 1) X) {r : Mem} (hr : RetV M_he_learn X r) {k72 : Int32 → Mem → Option (Mem)} (hk72 : ∀ (x1 : Int32) (μ : Mem) (dy : Nat → Nat), k72 x1 μ = some r → AW X 72 [(0, .ref (gA (xG X) (80 + 5 * t))), (1, .int x1)] [] μ dy) : ∀ (n : Nat) (x1 : Int32) (x2 : Int32) (μ : Mem) (dy : Nat → Nat), f_he_learn_b85 t k72 n x1 x2 μ = some r → AW X 85 [(0, .ref (gA (xG X) (80 + 5 * t))), (1, .int x1), (2, .int x2)] [] μ dy := by
  intro n
  induction n with
  | zero => intro x1 x2 μ dy hf; exact nomatch hf
  | succ n ih =>
    intro x1 x2 μ dy hf
    rw [f_he_learn_b85] at hf
    refine r_iload_n hX dX1_learn_85 2 rfl ?_
    refine r_aload_n hX dX1_learn_86 0 rfl ?_
    refine r_get hX fl_X1_28 (wHe_o ht) rfl dX1_learn_87 ?_
    refine r_getN hX fl_X1_43 (w_4 _ _ _) rfl dX1_learn_90 ?_
    refine r_icmp_ge hX 119 dX1_learn_93 rfl (fun hc11 => ?_) (fun hc11 => ?_)
    · rw [if_pos hc11] at hf
      refine r_aload_n hX dX1_learn_119 0 rfl ?_
      refine r_iload_n hX dX1_learn_120 1 rfl ?_
      obtain ⟨μ12, h13, hf⟩ := bd1_eq hf
      refine r_callVV (Ok.le hX (by omega)) (c_he_raiseBar (d := d) ht h13) cv_X1_57 (wHe_o ht) rfl rfl (st := []) rfl rfl rfl dX1_learn_121 (fun dy => ?_)
      refine r_iinc hX (x1 + (1 : Int32)) dX1_learn_124 1 rfl rfl rfl (ls' := [(1, .int (x1 + (1 : Int32))), (0, .ref (gA (xG X) (80 + 5 * t))), (2, .int x2)]) rfl ?_
      refine r_goto hX 72 dX1_learn_127 rfl ?_
      refine r_weak [1, 0] rfl ?_
      exact hk72 _ _ _ hf
    · rw [if_neg hc11] at hf
      refine r_aload_n hX dX1_learn_96 0 rfl ?_
      refine r_iload_n hX dX1_learn_97 1 rfl ?_
      refine r_iload_n hX dX1_learn_98 2 rfl ?_
      refine r_aload_n hX dX1_learn_99 0 rfl ?_
      refine r_get hX fl_X1_28 (wHe_o ht) rfl dX1_learn_100 ?_
      refine r_getN hX fl_X1_49 (w_4 _ _ _) rfl dX1_learn_103 ?_
      refine r_iload_n hX dX1_learn_106 1 rfl ?_
      obtain ⟨b14, hf⟩ := chk_eq hf
      refine r_aald hX (w_7 _ _ _) (b := gA (xG X) (8 + x1.toNatClampNeg)) rfl rfl (inb_in b14) (if_pos (inb_lt b14)) dX1_learn_107 ?_
      refine r_iload_n hX dX1_learn_108 2 rfl ?_
      obtain ⟨b15, hf⟩ := chk_eq hf
      refine r_iald hX (wLo (inb_lt b14)) (inb_in b15) dX1_learn_109 ?_
      obtain ⟨μ16, h17, hf⟩ := bd1_eq hf
      refine r_callVV (Ok.le hX (by omega)) (c_he_addLoud (d := d) ht h17) cv_X1_53 (wHe_o ht) rfl rfl (st := []) rfl rfl rfl dX1_learn_110 (fun dy => ?_)
      refine r_iinc hX (x2 + (1 : Int32)) dX1_learn_113 2 rfl rfl rfl (ls' := [(2, .int (x2 + (1 : Int32))), (0, .ref (gA (xG X) (80 + 5 * t))), (1, .int x1)]) rfl ?_
      refine r_goto hX 85 dX1_learn_116 rfl ?_
      refine r_weak [1, 2, 0] rfl ?_
      exact ih _ _ _ _ hf
set_option maxHeartbeats 4000000 in
set_option maxRecDepth 20000 in
theorem b_he_learn_b72 {X : Cx} {d : Nat} {t : Nat} (ht : t < 2) (hX : Ok M_he_learn (d + 1) X) {r : Mem} (hr : RetV M_he_learn X r) : ∀ (n : Nat) (x1 : Int32) (μ : Mem) (dy : Nat → Nat), f_he_learn_b72 t n x1 μ = some r → AW X 72 [(0, .ref (gA (xG X) (80 + 5 * t))), (1, .int x1)] [] μ dy := by
  intro n
  induction n with
  | zero => intro x1 μ dy hf; exact nomatch hf
  | succ n ih =>
    intro x1 μ dy hf
    rw [f_he_learn_b72] at hf
    refine r_iload_n hX dX1_learn_72 1 rfl ?_
    refine r_aload_n hX dX1_learn_73 0 rfl ?_
    refine r_get hX fl_X1_28 (wHe_o ht) rfl dX1_learn_74 ?_
    refine r_getN hX fl_X1_43 (w_4 _ _ _) rfl dX1_learn_77 ?_
    refine r_icmp_ge hX 130 dX1_learn_80 rfl (fun hc8 => ?_) (fun hc8 => ?_)
    · rw [if_pos hc8] at hf
      refine r_aload_n hX dX1_learn_130 0 rfl ?_
      refine r_aload_n hX dX1_learn_131 0 rfl ?_
      refine r_get hX fl_X1_28 (wHe_o ht) rfl dX1_learn_132 ?_
      refine r_getN hX fl_X1_61 (w_4 _ _ _) rfl dX1_learn_135 ?_
      obtain ⟨μ9, e10, hf⟩ := bnd_eq hf
      refine r_put hX fl_X1_64 ft_X1_9 (wHe_o ht) rfl rfl rfl (sHe_version ht _) e10 rfl dX1_learn_138 ?_
      exact fin_V hf hr _ _ _ dX1_learn_141
    · rw [if_neg hc8] at hf
      refine r_iconst hX (0 : Int32) dX1_learn_83 rfl ?_
      refine r_istore_n hX dX1_learn_84 rfl (ls' := [(2, .int (0 : Int32)), (0, .ref (gA (xG X) (80 + 5 * t))), (1, .int x1)]) rfl ?_
      refine r_weak [1, 2, 0] rfl ?_
      exact b_he_learn_b85 ht hX hr ih FU _ _ _ _ hf
set_option maxHeartbeats 4000000 in
set_option maxRecDepth 20000 in
theorem b_he_learn_b17 {X : Cx} {d : Nat} {t : Nat} (ht : t < 2) (hX : Ok M_he_learn (d + 1) X) {r : Mem} (hr : RetV M_he_learn X r) : ∀ (n : Nat) (x1 : Int32) (μ : Mem) (dy : Nat → Nat), f_he_learn_b17 t n x1 μ = some r → AW X 17 [(0, .ref (gA (xG X) (80 + 5 * t))), (1, .int x1)] [] μ dy := by
  intro n
  induction n with
  | zero => intro x1 μ dy hf; exact nomatch hf
  | succ n ih =>
    intro x1 μ dy hf
    rw [f_he_learn_b17] at hf
    refine r_iload_n hX dX1_learn_17 1 rfl ?_
    refine r_aload_n hX dX1_learn_18 0 rfl ?_
    refine r_get hX fl_X1_28 (wHe_o ht) rfl dX1_learn_19 ?_
    refine r_getN hX fl_X1_43 (w_4 _ _ _) rfl dX1_learn_22 ?_
    refine r_icmp_ge hX 70 dX1_learn_25 rfl (fun hc7 => ?_) (fun hc7 => ?_)
    · rw [if_pos hc7] at hf
      refine r_iconst hX (0 : Int32) dX1_learn_70 rfl ?_
      refine r_istore_n hX dX1_learn_71 rfl (ls' := [(1, .int (0 : Int32)), (0, .ref (gA (xG X) (80 + 5 * t)))]) rfl ?_
      refine r_weak [1, 0] rfl ?_
      exact b_he_learn_b72 ht hX hr FU _ _ _ hf
    · rw [if_neg hc7] at hf
      refine r_aload_n hX dX1_learn_28 0 rfl ?_
      refine r_get hX fl_X1_11 (wHe_o ht) rfl dX1_learn_29 ?_
      refine r_iload_n hX dX1_learn_32 1 rfl ?_
      refine r_lconst hX (0 : Int64) dX1_learn_33 rfl ?_
      obtain ⟨b18, hf⟩ := chk_eq hf
      obtain ⟨μ19, e20, hf⟩ := bnd_eq hf
      refine r_last hX (wHe_low ht) (inb_in b18) (sHe_low ht _ _) e20 rfl dX1_learn_34 ?_
      refine r_aload_n hX dX1_learn_35 0 rfl ?_
      refine r_get hX fl_X1_15 (wHe_o ht) rfl dX1_learn_36 ?_
      refine r_iload_n hX dX1_learn_39 1 rfl ?_
      refine r_lconst hX (0 : Int64) dX1_learn_40 rfl ?_
      obtain ⟨b21, hf⟩ := chk_eq hf
      obtain ⟨μ22, e23, hf⟩ := bnd_eq hf
      refine r_last hX (wHe_high ht) (inb_in b21) (sHe_high ht _ _) e23 rfl dX1_learn_41 ?_
      refine r_aload_n hX dX1_learn_42 0 rfl ?_
      refine r_get hX fl_X1_18 (wHe_o ht) rfl dX1_learn_43 ?_
      refine r_iload_n hX dX1_learn_46 1 rfl ?_
      refine r_iconst hX (0 : Int32) dX1_learn_47 rfl ?_
      obtain ⟨b24, hf⟩ := chk_eq hf
      obtain ⟨μ25, e26, hf⟩ := bnd_eq hf
      refine r_iast hX (wHe_all ht) (inb_in b24) (sHe_all ht _ _) e26 rfl dX1_learn_48 ?_
      refine r_aload_n hX dX1_learn_49 0 rfl ?_
      refine r_get hX fl_X1_22 (wHe_o ht) rfl dX1_learn_50 ?_
      refine r_iload_n hX dX1_learn_53 1 rfl ?_
      refine r_aload_n hX dX1_learn_54 0 rfl ?_
      refine r_get hX fl_X1_28 (wHe_o ht) rfl dX1_learn_55 ?_
      refine r_getN hX fl_X1_48 (w_4 _ _ _) rfl dX1_learn_58 ?_
      refine r_iload_n hX dX1_learn_61 1 rfl ?_
      obtain ⟨b27, hf⟩ := chk_eq hf
      refine r_iald hX (w_5 _ _ _) (inb_in b27) dX1_learn_62 ?_
      obtain ⟨b28, hf⟩ := chk_eq hf
      obtain ⟨μ29, e30, hf⟩ := bnd_eq hf
      refine r_iast hX (wHe_need ht) (inb_in b28) (sHe_need ht _ _) e30 rfl dX1_learn_63 ?_
      refine r_iinc hX (x1 + (1 : Int32)) dX1_learn_64 1 rfl rfl rfl (ls' := [(1, .int (x1 + (1 : Int32))), (0, .ref (gA (xG X) (80 + 5 * t)))]) rfl ?_
      refine r_goto hX 17 dX1_learn_67 rfl ?_
      refine r_weak [1, 0] rfl ?_
      exact ih _ _ _ hf
set_option maxHeartbeats 4000000 in
set_option maxRecDepth 20000 in
theorem c_he_learn {G : Gx} {d : Nat} {t : Nat} (ht : t < 2)  {μ : Mem} {r : Mem} (hf : f_he_learn t  μ = some r) : Con G M_he_learn (d + 1) [.ref (gA G (80 + 5 * t))] μ (none, r) := by
  refine Con.ofV ⟨rfl, rfl, Nat.le_of_ble_eq_true rfl⟩ rfl (fun X hG hX hr dy => ?_)
  subst hG
  show AW X 0 [(0, .ref (gA (xG X) (80 + 5 * t)))] [] μ dy
  unfold f_he_learn at hf
  refine r_aload_n hX dX1_learn_0 0 rfl ?_
  refine r_iconst hX (0 : Int32) dX1_learn_1 rfl ?_
  obtain ⟨μ1, e2, hf⟩ := bnd_eq hf
  refine r_put hX fl_X1_32 ft_X1_7 (wHe_o ht) rfl rfl rfl (sHe_moving ht _) e2 rfl dX1_learn_2 ?_
  refine r_aload_n hX dX1_learn_5 0 rfl ?_
  refine r_lconst hX (0 : Int64) dX1_learn_6 rfl ?_
  obtain ⟨μ3, e4, hf⟩ := bnd_eq hf
  refine r_put hX fl_X1_36 ft_X1_5 (wHe_o ht) rfl rfl rfl (sHe_lowBar ht _) e4 rfl dX1_learn_7 ?_
  refine r_aload_n hX dX1_learn_10 0 rfl ?_
  refine r_lconst hX (0 : Int64) dX1_learn_11 rfl ?_
  obtain ⟨μ5, e6, hf⟩ := bnd_eq hf
  refine r_put hX fl_X1_40 ft_X1_6 (wHe_o ht) rfl rfl rfl (sHe_highBar ht _) e6 rfl dX1_learn_12 ?_
  refine r_iconst hX (0 : Int32) dX1_learn_15 rfl ?_
  refine r_istore_n hX dX1_learn_16 rfl (ls' := [(1, .int (0 : Int32)), (0, .ref (gA (xG X) (80 + 5 * t)))]) rfl ?_
  refine r_weak [1, 0] rfl ?_
  exact b_he_learn_b17 ht hX hr FU _ _ _ hf
theorem dX1_needAll_0 : decode cX1_needAll 0 = .ok (.iconst 0, 1) := by decide +kernel
theorem dX1_needAll_1 : decode cX1_needAll 1 = .ok (.istore_n 2, 1) := by decide +kernel
theorem dX1_needAll_2 : decode cX1_needAll 2 = .ok (.iload_n 2, 1) := by decide +kernel
theorem dX1_needAll_3 : decode cX1_needAll 3 = .ok (.aload_n 0, 1) := by decide +kernel
theorem dX1_needAll_4 : decode cX1_needAll 4 = .ok (.getfield 28, 3) := by decide +kernel
theorem dX1_needAll_7 : decode cX1_needAll 7 = .ok (.getfield 43, 3) := by decide +kernel
theorem dX1_needAll_10 : decode cX1_needAll 10 = .ok (.if_icmp .ge 21, 3) := by decide +kernel
theorem dX1_needAll_13 : decode cX1_needAll 13 = .ok (.aload_n 0, 1) := by decide +kernel
theorem dX1_needAll_14 : decode cX1_needAll 14 = .ok (.getfield 22, 3) := by decide +kernel
theorem dX1_needAll_17 : decode cX1_needAll 17 = .ok (.iload_n 2, 1) := by decide +kernel
theorem dX1_needAll_18 : decode cX1_needAll 18 = .ok (.iload_n 1, 1) := by decide +kernel
theorem dX1_needAll_19 : decode cX1_needAll 19 = .ok (.iastore, 1) := by decide +kernel
theorem dX1_needAll_20 : decode cX1_needAll 20 = .ok (.aload_n 0, 1) := by decide +kernel
theorem dX1_needAll_21 : decode cX1_needAll 21 = .ok (.iload_n 2, 1) := by decide +kernel
theorem dX1_needAll_22 : decode cX1_needAll 22 = .ok (.invokevirtual 57, 3) := by decide +kernel
theorem dX1_needAll_25 : decode cX1_needAll 25 = .ok (.iinc 2 1, 3) := by decide +kernel
theorem dX1_needAll_28 : decode cX1_needAll 28 = .ok (.goto (-26), 3) := by decide +kernel
theorem dX1_needAll_31 : decode cX1_needAll 31 = .ok (.return_, 1) := by decide +kernel
set_option maxHeartbeats 4000000 in
set_option maxRecDepth 20000 in
theorem b_he_needAll_b2 {X : Cx} {d : Nat} {t : Nat} (ht : t < 2) (hX : Ok M_he_needAll (d + 1) X) {r : Mem} (hr : RetV M_he_needAll X r) : ∀ (n : Nat) (x1 : Int32) (x2 : Int32) (μ : Mem) (dy : Nat → Nat), f_he_needAll_b2 t n x1 x2 μ = some r → AW X 2 [(0, .ref (gA (xG X) (80 + 5 * t))), (1, .int x1), (2, .int x2)] [] μ dy := by
  intro n
  induction n with
  | zero => intro x1 x2 μ dy hf; exact nomatch hf
  | succ n ih =>
    intro x1 x2 μ dy hf
    rw [f_he_needAll_b2] at hf
    refine r_iload_n hX dX1_needAll_2 2 rfl ?_
    refine r_aload_n hX dX1_needAll_3 0 rfl ?_
    refine r_get hX fl_X1_28 (wHe_o ht) rfl dX1_needAll_4 ?_
    refine r_getN hX fl_X1_43 (w_4 _ _ _) rfl dX1_needAll_7 ?_
    refine r_icmp_ge hX 31 dX1_needAll_10 rfl (fun hc1 => ?_) (fun hc1 => ?_)
    · rw [if_pos hc1] at hf
      exact fin_V hf hr _ _ _ dX1_needAll_31
    · rw [if_neg hc1] at hf
      refine r_aload_n hX dX1_needAll_13 0 rfl ?_
      refine r_get hX fl_X1_22 (wHe_o ht) rfl dX1_needAll_14 ?_
      refine r_iload_n hX dX1_needAll_17 2 rfl ?_
      refine r_iload_n hX dX1_needAll_18 1 rfl ?_
      obtain ⟨b2, hf⟩ := chk_eq hf
      obtain ⟨μ3, e4, hf⟩ := bnd_eq hf
      refine r_iast hX (wHe_need ht) (inb_in b2) (sHe_need ht _ _) e4 rfl dX1_needAll_19 ?_
      refine r_aload_n hX dX1_needAll_20 0 rfl ?_
      refine r_iload_n hX dX1_needAll_21 2 rfl ?_
      obtain ⟨μ5, h6, hf⟩ := bd1_eq hf
      refine r_callVV (Ok.le hX (by omega)) (c_he_raiseBar (d := d) ht h6) cv_X1_57 (wHe_o ht) rfl rfl (st := []) rfl rfl rfl dX1_needAll_22 (fun dy => ?_)
      refine r_iinc hX (x2 + (1 : Int32)) dX1_needAll_25 2 rfl rfl rfl (ls' := [(2, .int (x2 + (1 : Int32))), (0, .ref (gA (xG X) (80 + 5 * t))), (1, .int x1)]) rfl ?_
      refine r_goto hX 2 dX1_needAll_28 rfl ?_
      refine r_weak [1, 2, 0] rfl ?_
      exact ih _ _ _ _ hf
set_option maxHeartbeats 4000000 in
set_option maxRecDepth 20000 in
theorem c_he_needAll {G : Gx} {d : Nat} {t : Nat} (ht : t < 2) {x1 : Int32} {μ : Mem} {r : Mem} (hf : f_he_needAll t x1 μ = some r) : Con G M_he_needAll (d + 1) [.ref (gA G (80 + 5 * t)), .int x1] μ (none, r) := by
  refine Con.ofV ⟨rfl, rfl, Nat.le_of_ble_eq_true rfl⟩ rfl (fun X hG hX hr dy => ?_)
  subst hG
  show AW X 0 [(0, .ref (gA (xG X) (80 + 5 * t))), (1, .int x1)] [] μ dy
  unfold f_he_needAll at hf
  refine r_iconst hX (0 : Int32) dX1_needAll_0 rfl ?_
  refine r_istore_n hX dX1_needAll_1 rfl (ls' := [(2, .int (0 : Int32)), (0, .ref (gA (xG X) (80 + 5 * t))), (1, .int x1)]) rfl ?_
  refine r_weak [1, 2, 0] rfl ?_
  exact b_he_needAll_b2 ht hX hr FU _ _ _ _ hf
theorem dX4_clear_0 : decode cX4_clear 0 = .ok (.aload_n 0, 1) := by decide +kernel
theorem dX4_clear_1 : decode cX4_clear 1 = .ok (.iconst 0, 1) := by decide +kernel
theorem dX4_clear_2 : decode cX4_clear 2 = .ok (.putfield 13, 3) := by decide +kernel
theorem dX4_clear_5 : decode cX4_clear 5 = .ok (.return_, 1) := by decide +kernel
set_option maxHeartbeats 4000000 in
set_option maxRecDepth 20000 in
theorem c_rw_clear {G : Gx} {d : Nat}  {μ : Mem} {r : Mem} (hf : f_rw_clear  μ = some r) : Con G M_rw_clear (d + 0) [.ref (gA G 2)] μ (none, r) := by
  refine Con.ofV ⟨rfl, rfl, Nat.le_of_ble_eq_true rfl⟩ rfl (fun X hG hX hr dy => ?_)
  subst hG
  show AW X 0 [(0, .ref (gA (xG X) 2))] [] μ dy
  unfold f_rw_clear at hf
  refine r_aload_n hX dX4_clear_0 0 rfl ?_
  refine r_iconst hX (0 : Int32) dX4_clear_1 rfl ?_
  obtain ⟨μ1, e2, hf⟩ := bnd_eq hf
  refine r_put hX fl_X4_13 ft_X4_1 (w_2 _ _ _) rfl rfl rfl (s_2_1 _ _ _ _) e2 rfl dX4_clear_2 ?_
  exact fin_V hf hr _ _ _ dX4_clear_5
theorem dX4_add_0 : decode cX4_add 0 = .ok (.aload_n 0, 1) := by decide +kernel
theorem dX4_add_1 : decode cX4_add 1 = .ok (.getfield 13, 3) := by decide +kernel
theorem dX4_add_4 : decode cX4_add 4 = .ok (.bipush 16, 2) := by decide +kernel
theorem dX4_add_6 : decode cX4_add 6 = .ok (.if_icmp .ge 20, 3) := by decide +kernel
theorem dX4_add_9 : decode cX4_add 9 = .ok (.aload_n 0, 1) := by decide +kernel
theorem dX4_add_10 : decode cX4_add 10 = .ok (.getfield 9, 3) := by decide +kernel
theorem dX4_add_13 : decode cX4_add 13 = .ok (.aload_n 0, 1) := by decide +kernel
theorem dX4_add_14 : decode cX4_add 14 = .ok (.dup, 1) := by decide +kernel
theorem dX4_add_15 : decode cX4_add 15 = .ok (.getfield 13, 3) := by decide +kernel
theorem dX4_add_18 : decode cX4_add 18 = .ok (.dup_x1, 1) := by decide +kernel
theorem dX4_add_19 : decode cX4_add 19 = .ok (.iconst 1, 1) := by decide +kernel
theorem dX4_add_20 : decode cX4_add 20 = .ok (.iadd, 1) := by decide +kernel
theorem dX4_add_21 : decode cX4_add 21 = .ok (.putfield 13, 3) := by decide +kernel
theorem dX4_add_24 : decode cX4_add 24 = .ok (.lload_n 1, 1) := by decide +kernel
theorem dX4_add_25 : decode cX4_add 25 = .ok (.lastore, 1) := by decide +kernel
theorem dX4_add_26 : decode cX4_add 26 = .ok (.return_, 1) := by decide +kernel
set_option maxHeartbeats 4000000 in
set_option maxRecDepth 20000 in
theorem c_rw_add {G : Gx} {d : Nat} {y1 : Int64} {μ : Mem} {r : Mem} (hf : f_rw_add y1 μ = some r) : Con G M_rw_add (d + 0) [.ref (gA G 2), .long y1] μ (none, r) := by
  refine Con.ofV ⟨rfl, rfl, Nat.le_of_ble_eq_true rfl⟩ rfl (fun X hG hX hr dy => ?_)
  subst hG
  show AW X 0 [(0, .ref (gA (xG X) 2)), (1, .long y1)] [] μ dy
  unfold f_rw_add at hf
  refine r_aload_n hX dX4_add_0 0 rfl ?_
  refine r_get hX fl_X4_13 (w_2 _ _ _) rfl dX4_add_1 ?_
  refine r_bipush hX (16 : Int32) dX4_add_4 rfl ?_
  refine r_icmp_ge hX 26 dX4_add_6 rfl (fun hc1 => ?_) (fun hc1 => ?_)
  · rw [if_pos hc1] at hf
    exact fin_V hf hr _ _ _ dX4_add_26
  · rw [if_neg hc1] at hf
    refine r_aload_n hX dX4_add_9 0 rfl ?_
    refine r_get hX fl_X4_9 (w_2 _ _ _) rfl dX4_add_10 ?_
    refine r_aload_n hX dX4_add_13 0 rfl ?_
    refine r_dup hX dX4_add_14 rfl ?_
    refine r_get hX fl_X4_13 (w_2 _ _ _) rfl dX4_add_15 ?_
    refine r_dup_x1 hX dX4_add_18 rfl rfl ?_
    refine r_iconst hX (1 : Int32) dX4_add_19 rfl ?_
    refine r_iadd hX dX4_add_20 ?_
    obtain ⟨μ2, e3, hf⟩ := bnd_eq hf
    refine r_put hX fl_X4_13 ft_X4_1 (w_2 _ _ _) rfl rfl rfl (s_2_1 _ _ _ _) e3 rfl dX4_add_21 ?_
    refine r_lload_n hX dX4_add_24 1 rfl ?_
    obtain ⟨b4, hf⟩ := chk_eq hf
    obtain ⟨μ5, e6, hf⟩ := bnd_eq hf
    refine r_last hX (w_3 _ _ _) (inb_in b4) (s_3 _ _ _ _ _) e6 rfl dX4_add_25 ?_
    exact fin_V hf hr _ _ _ dX4_add_26
theorem dX4_only_0 : decode cX4_only 0 = .ok (.aload_n 0, 1) := by decide +kernel
theorem dX4_only_1 : decode cX4_only 1 = .ok (.invokevirtual 17, 3) := by decide +kernel
theorem dX4_only_4 : decode cX4_only 4 = .ok (.aload_n 0, 1) := by decide +kernel
theorem dX4_only_5 : decode cX4_only 5 = .ok (.lload_n 1, 1) := by decide +kernel
theorem dX4_only_6 : decode cX4_only 6 = .ok (.invokevirtual 20, 3) := by decide +kernel
theorem dX4_only_9 : decode cX4_only 9 = .ok (.return_, 1) := by decide +kernel
set_option maxHeartbeats 4000000 in
set_option maxRecDepth 20000 in
theorem c_rw_only {G : Gx} {d : Nat} {y1 : Int64} {μ : Mem} {r : Mem} (hf : f_rw_only y1 μ = some r) : Con G M_rw_only (d + 1) [.ref (gA G 2), .long y1] μ (none, r) := by
  refine Con.ofV ⟨rfl, rfl, Nat.le_of_ble_eq_true rfl⟩ rfl (fun X hG hX hr dy => ?_)
  subst hG
  show AW X 0 [(0, .ref (gA (xG X) 2)), (1, .long y1)] [] μ dy
  unfold f_rw_only at hf
  refine r_aload_n hX dX4_only_0 0 rfl ?_
  obtain ⟨μ1, h2, hf⟩ := bd1_eq hf
  refine r_callVV (Ok.le hX (by omega)) (c_rw_clear (d := d)  h2) cv_X4_17 (w_2 _ _ _) rfl rfl (st := []) rfl rfl rfl dX4_only_1 (fun dy => ?_)
  refine r_aload_n hX dX4_only_4 0 rfl ?_
  refine r_lload_n hX dX4_only_5 1 rfl ?_
  obtain ⟨μ3, h4, hf⟩ := bd1_eq hf
  refine r_callVV (Ok.le hX (by omega)) (c_rw_add (d := d)  h4) cv_X4_20 (w_2 _ _ _) rfl rfl (st := []) rfl rfl rfl dX4_only_6 (fun dy => ?_)
  exact fin_V hf hr _ _ _ dX4_only_9
theorem dX0_highestNeed_0 : decode cX0_highestNeed 0 = .ok (.aload_n 0, 1) := by decide +kernel
theorem dX0_highestNeed_1 : decode cX0_highestNeed 1 = .ok (.getfield 24, 3) := by decide +kernel
theorem dX0_highestNeed_4 : decode cX0_highestNeed 4 = .ok (.invokevirtual 41, 3) := by decide +kernel
theorem dX0_highestNeed_7 : decode cX0_highestNeed 7 = .ok (.iconst (-1), 1) := by decide +kernel
theorem dX0_highestNeed_8 : decode cX0_highestNeed 8 = .ok (.istore_n 2, 1) := by decide +kernel
theorem dX0_highestNeed_9 : decode cX0_highestNeed 9 = .ok (.iconst (-1), 1) := by decide +kernel
theorem dX0_highestNeed_10 : decode cX0_highestNeed 10 = .ok (.istore_n 3, 1) := by decide +kernel
theorem dX0_highestNeed_11 : decode cX0_highestNeed 11 = .ok (.bipush 64, 2) := by decide +kernel
theorem dX0_highestNeed_13 : decode cX0_highestNeed 13 = .ok (.istore 4, 2) := by decide +kernel
theorem dX0_highestNeed_15 : decode cX0_highestNeed 15 = .ok (.iload 4, 2) := by decide +kernel
theorem dX0_highestNeed_17 : decode cX0_highestNeed 17 = .ok (.ifCond .le 67, 3) := by decide +kernel
theorem dX0_highestNeed_20 : decode cX0_highestNeed 20 = .ok (.iload_n 2, 1) := by decide +kernel
theorem dX0_highestNeed_21 : decode cX0_highestNeed 21 = .ok (.iload 4, 2) := by decide +kernel
theorem dX0_highestNeed_23 : decode cX0_highestNeed 23 = .ok (.iadd, 1) := by decide +kernel
theorem dX0_highestNeed_24 : decode cX0_highestNeed 24 = .ok (.bipush 99, 2) := by decide +kernel
theorem dX0_highestNeed_26 : decode cX0_highestNeed 26 = .ok (.if_icmp .gt 49, 3) := by decide +kernel
theorem dX0_highestNeed_29 : decode cX0_highestNeed 29 = .ok (.aload_n 0, 1) := by decide +kernel
theorem dX0_highestNeed_30 : decode cX0_highestNeed 30 = .ok (.getfield 24, 3) := by decide +kernel
theorem dX0_highestNeed_33 : decode cX0_highestNeed 33 = .ok (.iload_n 2, 1) := by decide +kernel
theorem dX0_highestNeed_34 : decode cX0_highestNeed 34 = .ok (.iload 4, 2) := by decide +kernel
theorem dX0_highestNeed_36 : decode cX0_highestNeed 36 = .ok (.iadd, 1) := by decide +kernel
theorem dX0_highestNeed_37 : decode cX0_highestNeed 37 = .ok (.invokevirtual 44, 3) := by decide +kernel
theorem dX0_highestNeed_40 : decode cX0_highestNeed 40 = .ok (.aload_n 0, 1) := by decide +kernel
theorem dX0_highestNeed_41 : decode cX0_highestNeed 41 = .ok (.iload_n 1, 1) := by decide +kernel
theorem dX0_highestNeed_42 : decode cX0_highestNeed 42 = .ok (.invokevirtual 48, 3) := by decide +kernel
theorem dX0_highestNeed_45 : decode cX0_highestNeed 45 = .ok (.istore 5, 2) := by decide +kernel
theorem dX0_highestNeed_47 : decode cX0_highestNeed 47 = .ok (.iload 5, 2) := by decide +kernel
theorem dX0_highestNeed_49 : decode cX0_highestNeed 49 = .ok (.iconst (-1), 1) := by decide +kernel
theorem dX0_highestNeed_50 : decode cX0_highestNeed 50 = .ok (.if_icmp .eq 8, 3) := by decide +kernel
theorem dX0_highestNeed_53 : decode cX0_highestNeed 53 = .ok (.iload 5, 2) := by decide +kernel
theorem dX0_highestNeed_55 : decode cX0_highestNeed 55 = .ok (.goto 4, 3) := by decide +kernel
theorem dX0_highestNeed_58 : decode cX0_highestNeed 58 = .ok (.iload_n 3, 1) := by decide +kernel
theorem dX0_highestNeed_59 : decode cX0_highestNeed 59 = .ok (.istore_n 3, 1) := by decide +kernel
theorem dX0_highestNeed_60 : decode cX0_highestNeed 60 = .ok (.iload 5, 2) := by decide +kernel
theorem dX0_highestNeed_62 : decode cX0_highestNeed 62 = .ok (.iconst (-1), 1) := by decide +kernel
theorem dX0_highestNeed_63 : decode cX0_highestNeed 63 = .ok (.if_icmp .eq 10, 3) := by decide +kernel
theorem dX0_highestNeed_66 : decode cX0_highestNeed 66 = .ok (.iload_n 2, 1) := by decide +kernel
theorem dX0_highestNeed_67 : decode cX0_highestNeed 67 = .ok (.iload 4, 2) := by decide +kernel
theorem dX0_highestNeed_69 : decode cX0_highestNeed 69 = .ok (.iadd, 1) := by decide +kernel
theorem dX0_highestNeed_70 : decode cX0_highestNeed 70 = .ok (.goto 4, 3) := by decide +kernel
theorem dX0_highestNeed_73 : decode cX0_highestNeed 73 = .ok (.iload_n 2, 1) := by decide +kernel
theorem dX0_highestNeed_74 : decode cX0_highestNeed 74 = .ok (.istore_n 2, 1) := by decide +kernel
theorem dX0_highestNeed_75 : decode cX0_highestNeed 75 = .ok (.iload 4, 2) := by decide +kernel
theorem dX0_highestNeed_77 : decode cX0_highestNeed 77 = .ok (.iconst 2, 1) := by decide +kernel
theorem dX0_highestNeed_78 : decode cX0_highestNeed 78 = .ok (.idiv, 1) := by decide +kernel
theorem dX0_highestNeed_79 : decode cX0_highestNeed 79 = .ok (.istore 4, 2) := by decide +kernel
theorem dX0_highestNeed_81 : decode cX0_highestNeed 81 = .ok (.goto (-66), 3) := by decide +kernel
theorem dX0_highestNeed_84 : decode cX0_highestNeed 84 = .ok (.iload_n 2, 1) := by decide +kernel
theorem dX0_highestNeed_85 : decode cX0_highestNeed 85 = .ok (.iconst (-1), 1) := by decide +kernel
theorem dX0_highestNeed_86 : decode cX0_highestNeed 86 = .ok (.if_icmp .ne 6, 3) := by decide +kernel
theorem dX0_highestNeed_89 : decode cX0_highestNeed 89 = .ok (.bipush (-2), 2) := by decide +kernel
theorem dX0_highestNeed_91 : decode cX0_highestNeed 91 = .ok (.ireturn, 1) := by decide +kernel
theorem dX0_highestNeed_92 : decode cX0_highestNeed 92 = .ok (.aload_n 0, 1) := by decide +kernel
theorem dX0_highestNeed_93 : decode cX0_highestNeed 93 = .ok (.getfield 15, 3) := by decide +kernel
theorem dX0_highestNeed_96 : decode cX0_highestNeed 96 = .ok (.iload_n 3, 1) := by decide +kernel
theorem dX0_highestNeed_97 : decode cX0_highestNeed 97 = .ok (.i2l, 1) := by decide +kernel
theorem dX0_highestNeed_98 : decode cX0_highestNeed 98 = .ok (.invokevirtual 51, 3) := by decide +kernel
theorem dX0_highestNeed_101 : decode cX0_highestNeed 101 = .ok (.iload_n 2, 1) := by decide +kernel
theorem dX0_highestNeed_102 : decode cX0_highestNeed 102 = .ok (.ireturn, 1) := by decide +kernel
set_option maxHeartbeats 4000000 in
set_option maxRecDepth 20000 in
theorem b_ac_highestNeed_b75 {X : Cx} {d : Nat} (hX : Ok M_ac_highestNeed (d + 3) X) {r : Int32 × Mem} (hr : RetI M_ac_highestNeed X r.1 r.2) {k15 : Int32 → Int32 → Int32 → Int32 → Mem → Option (Int32 × Mem)} (hk15 : ∀ (x1 : Int32) (x2 : Int32) (x3 : Int32) (x4 : Int32) (μ : Mem) (dy : Nat → Nat), k15 x1 x2 x3 x4 μ = some r → AW X 15 [(0, .ref (gA (xG X) 110)), (1, .int x1), (2, .int x2), (3, .int x3), (4, .int x4)] [] μ dy) (x1 : Int32) (x2 : Int32) (x3 : Int32) (x4 : Int32) (μ : Mem) (dy : Nat → Nat) (hf : f_ac_highestNeed_b75 k15 x1 x2 x3 x4 μ = some r) : AW X 75 [(0, .ref (gA (xG X) 110)), (1, .int x1), (2, .int x2), (3, .int x3), (4, .int x4)] [] μ dy := by
  unfold f_ac_highestNeed_b75 at hf
  refine r_iload hX dX0_highestNeed_75 4 rfl ?_
  refine r_iconst hX (2 : Int32) dX0_highestNeed_77 rfl ?_
  refine r_idiv hX dX0_highestNeed_78 (by decide) ?_
  refine r_istore hX dX0_highestNeed_79 rfl (ls' := [(4, .int (x4 / (2 : Int32))), (0, .ref (gA (xG X) 110)), (1, .int x1), (2, .int x2), (3, .int x3)]) rfl ?_
  refine r_goto hX 15 dX0_highestNeed_81 rfl ?_
  refine r_weak [1, 2, 3, 4, 0] rfl ?_
  exact hk15 _ _ _ _ _ _ hf
set_option maxHeartbeats 4000000 in
set_option maxRecDepth 20000 in
theorem b_ac_highestNeed_b15 {X : Cx} {d : Nat} (hX : Ok M_ac_highestNeed (d + 3) X) {r : Int32 × Mem} (hr : RetI M_ac_highestNeed X r.1 r.2) : ∀ (n : Nat) (x1 : Int32) (x2 : Int32) (x3 : Int32) (x4 : Int32) (μ : Mem) (dy : Nat → Nat), f_ac_highestNeed_b15 n x1 x2 x3 x4 μ = some r → AW X 15 [(0, .ref (gA (xG X) 110)), (1, .int x1), (2, .int x2), (3, .int x3), (4, .int x4)] [] μ dy := by
  intro n
  induction n with
  | zero => intro x1 x2 x3 x4 μ dy hf; exact nomatch hf
  | succ n ih =>
    intro x1 x2 x3 x4 μ dy hf
    rw [f_ac_highestNeed_b15] at hf
    refine r_iload hX dX0_highestNeed_15 4 rfl ?_
    refine r_if_le hX 84 dX0_highestNeed_17 rfl (fun hc3 => ?_) (fun hc3 => ?_)
    · rw [if_pos hc3] at hf
      refine r_iload_n hX dX0_highestNeed_84 2 rfl ?_
      refine r_iconst hX (-1 : Int32) dX0_highestNeed_85 rfl ?_
      refine r_icmp_ne hX 92 dX0_highestNeed_86 rfl (fun hc4 => ?_) (fun hc4 => ?_)
      · rw [if_neg hc4] at hf
        refine r_aload_n hX dX0_highestNeed_92 0 rfl ?_
        refine r_get hX fl_X0_15 (w_110 _ _ _) rfl dX0_highestNeed_93 ?_
        refine r_iload_n hX dX0_highestNeed_96 3 rfl ?_
        refine r_i2l hX dX0_highestNeed_97 ?_
        obtain ⟨μ5, h6, hf⟩ := bd1_eq hf
        refine r_callVV (Ok.le hX (by omega)) (c_rw_only (d := d)  h6) cv_X0_51 (w_2 _ _ _) rfl rfl (st := []) rfl rfl rfl dX0_highestNeed_98 (fun dy => ?_)
        refine r_iload_n hX dX0_highestNeed_101 2 rfl ?_
        exact fin_I hf hr _ _ _ dX0_highestNeed_102
      · rw [if_pos hc4] at hf
        refine r_bipush hX (-2 : Int32) dX0_highestNeed_89 rfl ?_
        exact fin_I hf hr _ _ _ dX0_highestNeed_91
    · rw [if_neg hc3] at hf
      refine r_iload_n hX dX0_highestNeed_20 2 rfl ?_
      refine r_iload hX dX0_highestNeed_21 4 rfl ?_
      refine r_iadd hX dX0_highestNeed_23 ?_
      refine r_bipush hX (99 : Int32) dX0_highestNeed_24 rfl ?_
      refine r_icmp_gt hX 75 dX0_highestNeed_26 rfl (fun hc7 => ?_) (fun hc7 => ?_)
      · rw [if_pos hc7] at hf
        refine r_weak [0, 1, 2, 3, 4] rfl ?_
        exact b_ac_highestNeed_b75 hX hr ih _ _ _ _ _ _ hf
      · rw [if_neg hc7] at hf
        refine r_aload_n hX dX0_highestNeed_29 0 rfl ?_
        refine r_get hX fl_X0_24 (w_110 _ _ _) rfl dX0_highestNeed_30 ?_
        refine r_iload_n hX dX0_highestNeed_33 2 rfl ?_
        refine r_iload hX dX0_highestNeed_34 4 rfl ?_
        refine r_iadd hX dX0_highestNeed_36 ?_
        obtain ⟨μ9, h10, hf⟩ := bd1_eq hf
        refine r_callVV (Ok.le hX (by omega)) (c_he_needAll (d := d) (by decide) h10) cv_X0_44 (w_85 _ _ _) rfl rfl (st := []) rfl rfl rfl dX0_highestNeed_37 (fun dy => ?_)
        refine r_aload_n hX dX0_highestNeed_40 0 rfl ?_
        refine r_iload_n hX dX0_highestNeed_41 1 rfl ?_
        obtain ⟨v13, μ11, h12, hf⟩ := bd2_eq hf
        refine r_callVI (Ok.le hX (by omega)) (c_ac_dayOfAll (d := d)  h12) cv_X0_48 (w_110 _ _ _) rfl rfl (st := []) rfl rfl rfl dX0_highestNeed_42 (fun dy => ?_)
        refine r_istore hX dX0_highestNeed_45 rfl (ls' := [(5, .int v13), (0, .ref (gA (xG X) 110)), (1, .int x1), (2, .int x2), (3, .int x3), (4, .int x4)]) rfl ?_
        refine r_iload hX dX0_highestNeed_47 0 rfl ?_
        refine r_iconst hX (-1 : Int32) dX0_highestNeed_49 rfl ?_
        obtain ⟨v14, e15, hf⟩ := bnd_eq hf
        have J16 : AW X 59 [(5, .int v13), (0, .ref (gA (xG X) 110)), (1, .int x1), (2, .int x2), (3, .int x3), (4, .int x4)] [.int v14] μ11 dy := by
          refine r_istore_n hX dX0_highestNeed_59 rfl (ls' := [(3, .int v14), (5, .int v13), (0, .ref (gA (xG X) 110)), (1, .int x1), (2, .int x2), (4, .int x4)]) rfl ?_
          refine r_iload hX dX0_highestNeed_60 1 rfl ?_
          refine r_iconst hX (-1 : Int32) dX0_highestNeed_62 rfl ?_
          obtain ⟨v17, e18, hf⟩ := bnd_eq hf
          have J19 : AW X 74 [(3, .int v14), (5, .int v13), (0, .ref (gA (xG X) 110)), (1, .int x1), (2, .int x2), (4, .int x4)] [.int v17] μ11 dy := by
            refine r_istore_n hX dX0_highestNeed_74 rfl (ls' := [(2, .int v17), (3, .int v14), (5, .int v13), (0, .ref (gA (xG X) 110)), (1, .int x1), (4, .int x4)]) rfl ?_
            refine r_weak [3, 4, 0, 1, 5] rfl ?_
            exact b_ac_highestNeed_b75 hX hr ih _ _ _ _ _ _ hf
          refine r_icmp_eq hX 73 dX0_highestNeed_63 rfl (fun hc20 => ?_) (fun hc20 => ?_)
          · refine r_iload_n hX dX0_highestNeed_73 4 rfl ?_
            exact r_topI (e18.trans (by rw [if_pos hc20])) J19
          · refine r_iload_n hX dX0_highestNeed_66 4 rfl ?_
            refine r_iload hX dX0_highestNeed_67 5 rfl ?_
            refine r_iadd hX dX0_highestNeed_69 ?_
            refine r_goto hX 74 dX0_highestNeed_70 rfl ?_
            exact r_topI (e18.trans (by rw [if_neg hc20])) J19
        refine r_icmp_eq hX 58 dX0_highestNeed_50 rfl (fun hc21 => ?_) (fun hc21 => ?_)
        · refine r_iload_n hX dX0_highestNeed_58 4 rfl ?_
          exact r_topI (e15.trans (by rw [if_pos hc21])) J16
        · refine r_iload hX dX0_highestNeed_53 0 rfl ?_
          refine r_goto hX 59 dX0_highestNeed_55 rfl ?_
          exact r_topI (e15.trans (by rw [if_neg hc21])) J16
set_option maxHeartbeats 4000000 in
set_option maxRecDepth 20000 in
theorem c_ac_highestNeed {G : Gx} {d : Nat} {x1 : Int32} {μ : Mem} {r : Int32 × Mem} (hf : f_ac_highestNeed x1 μ = some r) : Con G M_ac_highestNeed (d + 3) [.ref (gA G 110), .int x1] μ (some (.int r.1), r.2) := by
  refine Con.ofI ⟨rfl, rfl, Nat.le_of_ble_eq_true rfl⟩ rfl rfl (fun X hG hX hr dy => ?_)
  subst hG
  show AW X 0 [(0, .ref (gA (xG X) 110)), (1, .int x1)] [] μ dy
  unfold f_ac_highestNeed at hf
  refine r_aload_n hX dX0_highestNeed_0 0 rfl ?_
  refine r_get hX fl_X0_24 (w_110 _ _ _) rfl dX0_highestNeed_1 ?_
  obtain ⟨μ1, h2, hf⟩ := bd1_eq hf
  refine r_callVV (Ok.le hX (by omega)) (c_he_learn (d := d) (by decide) h2) cv_X0_41 (w_85 _ _ _) rfl rfl (st := []) rfl rfl rfl dX0_highestNeed_4 (fun dy => ?_)
  refine r_iconst hX (-1 : Int32) dX0_highestNeed_7 rfl ?_
  refine r_istore_n hX dX0_highestNeed_8 rfl (ls' := [(2, .int (-1 : Int32)), (0, .ref (gA (xG X) 110)), (1, .int x1)]) rfl ?_
  refine r_iconst hX (-1 : Int32) dX0_highestNeed_9 rfl ?_
  refine r_istore_n hX dX0_highestNeed_10 rfl (ls' := [(3, .int (-1 : Int32)), (2, .int (-1 : Int32)), (0, .ref (gA (xG X) 110)), (1, .int x1)]) rfl ?_
  refine r_bipush hX (64 : Int32) dX0_highestNeed_11 rfl ?_
  refine r_istore hX dX0_highestNeed_13 rfl (ls' := [(4, .int (64 : Int32)), (3, .int (-1 : Int32)), (2, .int (-1 : Int32)), (0, .ref (gA (xG X) 110)), (1, .int x1)]) rfl ?_
  refine r_weak [3, 4, 2, 1, 0] rfl ?_
  exact b_ac_highestNeed_b15 hX hr FU _ _ _ _ _ _ hf
theorem dX0_one_0 : decode cX0_one 0 = .ok (.aload_n 0, 1) := by decide +kernel
theorem dX0_one_1 : decode cX0_one 1 = .ok (.getfield 9, 3) := by decide +kernel
theorem dX0_one_4 : decode cX0_one 4 = .ok (.getfield 60, 3) := by decide +kernel
theorem dX0_one_7 : decode cX0_one 7 = .ok (.ifCond .le 15, 3) := by decide +kernel
theorem dX0_one_10 : decode cX0_one 10 = .ok (.iload_n 1, 1) := by decide +kernel
theorem dX0_one_11 : decode cX0_one 11 = .ok (.aload_n 0, 1) := by decide +kernel
theorem dX0_one_12 : decode cX0_one 12 = .ok (.getfield 9, 3) := by decide +kernel
theorem dX0_one_15 : decode cX0_one 15 = .ok (.getfield 60, 3) := by decide +kernel
theorem dX0_one_18 : decode cX0_one 18 = .ok (.idiv, 1) := by decide +kernel
theorem dX0_one_19 : decode cX0_one 19 = .ok (.goto 4, 3) := by decide +kernel
theorem dX0_one_22 : decode cX0_one 22 = .ok (.iconst 0, 1) := by decide +kernel
theorem dX0_one_23 : decode cX0_one 23 = .ok (.ireturn, 1) := by decide +kernel
set_option maxHeartbeats 4000000 in
set_option maxRecDepth 20000 in
theorem c_ac_one {G : Gx} {d : Nat} {x1 : Int32} {μ : Mem} {r : Int32 × Mem} (hf : f_ac_one x1 μ = some r) : Con G M_ac_one (d + 0) [.ref (gA G 110), .int x1] μ (some (.int r.1), r.2) := by
  refine Con.ofI ⟨rfl, rfl, Nat.le_of_ble_eq_true rfl⟩ rfl rfl (fun X hG hX hr dy => ?_)
  subst hG
  show AW X 0 [(0, .ref (gA (xG X) 110)), (1, .int x1)] [] μ dy
  unfold f_ac_one at hf
  refine r_aload_n hX dX0_one_0 0 rfl ?_
  refine r_get hX fl_X0_9 (w_110 _ _ _) rfl dX0_one_1 ?_
  refine r_getN hX fl_X0_60 (w_4 _ _ _) rfl dX0_one_4 ?_
  refine r_if_le hX 22 dX0_one_7 rfl (fun hc1 => ?_) (fun hc1 => ?_)
  · rw [if_pos hc1] at hf
    refine r_iconst hX (0 : Int32) dX0_one_22 rfl ?_
    exact fin_I hf hr _ _ _ dX0_one_23
  · rw [if_neg hc1] at hf
    refine r_iload_n hX dX0_one_10 1 rfl ?_
    refine r_aload_n hX dX0_one_11 0 rfl ?_
    refine r_get hX fl_X0_9 (w_110 _ _ _) rfl dX0_one_12 ?_
    refine r_getN hX fl_X0_60 (w_4 _ _ _) rfl dX0_one_15 ?_
    obtain ⟨b2, hf⟩ := chk_eq hf
    refine r_idiv hX dX0_one_18 (of_decide_eq_true b2) ?_
    refine r_goto hX 23 dX0_one_19 rfl ?_
    exact fin_I hf hr _ _ _ dX0_one_23
theorem dX0_other_0 : decode cX0_other 0 = .ok (.aload_n 0, 1) := by decide +kernel
theorem dX0_other_1 : decode cX0_other 1 = .ok (.getfield 9, 3) := by decide +kernel
theorem dX0_other_4 : decode cX0_other 4 = .ok (.getfield 60, 3) := by decide +kernel
theorem dX0_other_7 : decode cX0_other 7 = .ok (.ifCond .le 15, 3) := by decide +kernel
theorem dX0_other_10 : decode cX0_other 10 = .ok (.iload_n 1, 1) := by decide +kernel
theorem dX0_other_11 : decode cX0_other 11 = .ok (.aload_n 0, 1) := by decide +kernel
theorem dX0_other_12 : decode cX0_other 12 = .ok (.getfield 9, 3) := by decide +kernel
theorem dX0_other_15 : decode cX0_other 15 = .ok (.getfield 60, 3) := by decide +kernel
theorem dX0_other_18 : decode cX0_other 18 = .ok (.irem, 1) := by decide +kernel
theorem dX0_other_19 : decode cX0_other 19 = .ok (.goto 4, 3) := by decide +kernel
theorem dX0_other_22 : decode cX0_other 22 = .ok (.iconst 0, 1) := by decide +kernel
theorem dX0_other_23 : decode cX0_other 23 = .ok (.ireturn, 1) := by decide +kernel
set_option maxHeartbeats 4000000 in
set_option maxRecDepth 20000 in
theorem c_ac_other {G : Gx} {d : Nat} {x1 : Int32} {μ : Mem} {r : Int32 × Mem} (hf : f_ac_other x1 μ = some r) : Con G M_ac_other (d + 0) [.ref (gA G 110), .int x1] μ (some (.int r.1), r.2) := by
  refine Con.ofI ⟨rfl, rfl, Nat.le_of_ble_eq_true rfl⟩ rfl rfl (fun X hG hX hr dy => ?_)
  subst hG
  show AW X 0 [(0, .ref (gA (xG X) 110)), (1, .int x1)] [] μ dy
  unfold f_ac_other at hf
  refine r_aload_n hX dX0_other_0 0 rfl ?_
  refine r_get hX fl_X0_9 (w_110 _ _ _) rfl dX0_other_1 ?_
  refine r_getN hX fl_X0_60 (w_4 _ _ _) rfl dX0_other_4 ?_
  refine r_if_le hX 22 dX0_other_7 rfl (fun hc1 => ?_) (fun hc1 => ?_)
  · rw [if_pos hc1] at hf
    refine r_iconst hX (0 : Int32) dX0_other_22 rfl ?_
    exact fin_I hf hr _ _ _ dX0_other_23
  · rw [if_neg hc1] at hf
    refine r_iload_n hX dX0_other_10 1 rfl ?_
    refine r_aload_n hX dX0_other_11 0 rfl ?_
    refine r_get hX fl_X0_9 (w_110 _ _ _) rfl dX0_other_12 ?_
    refine r_getN hX fl_X0_60 (w_4 _ _ _) rfl dX0_other_15 ?_
    obtain ⟨b2, hf⟩ := chk_eq hf
    refine r_irem hX dX0_other_18 (of_decide_eq_true b2) ?_
    refine r_goto hX 23 dX0_other_19 rfl ?_
    exact fin_I hf hr _ _ _ dX0_other_23
theorem dX0_isInOrder_0 : decode cX0_isInOrder 0 = .ok (.aload_n 0, 1) := by decide +kernel
theorem dX0_isInOrder_1 : decode cX0_isInOrder 1 = .ok (.iload_n 1, 1) := by decide +kernel
theorem dX0_isInOrder_2 : decode cX0_isInOrder 2 = .ok (.invokevirtual 86, 3) := by decide +kernel
theorem dX0_isInOrder_5 : decode cX0_isInOrder 5 = .ok (.aload_n 0, 1) := by decide +kernel
theorem dX0_isInOrder_6 : decode cX0_isInOrder 6 = .ok (.iload_n 1, 1) := by decide +kernel
theorem dX0_isInOrder_7 : decode cX0_isInOrder 7 = .ok (.invokevirtual 89, 3) := by decide +kernel
theorem dX0_isInOrder_10 : decode cX0_isInOrder 10 = .ok (.if_icmp .ge 7, 3) := by decide +kernel
theorem dX0_isInOrder_13 : decode cX0_isInOrder 13 = .ok (.iconst 1, 1) := by decide +kernel
theorem dX0_isInOrder_14 : decode cX0_isInOrder 14 = .ok (.goto 4, 3) := by decide +kernel
theorem dX0_isInOrder_17 : decode cX0_isInOrder 17 = .ok (.iconst 0, 1) := by decide +kernel
theorem dX0_isInOrder_18 : decode cX0_isInOrder 18 = .ok (.ireturn, 1) := by decide +kernel
set_option maxHeartbeats 4000000 in
set_option maxRecDepth 20000 in
theorem c_ac_isInOrder {G : Gx} {d : Nat} {x1 : Int32} {μ : Mem} {r : Int32 × Mem} (hf : f_ac_isInOrder x1 μ = some r) : Con G M_ac_isInOrder (d + 1) [.ref (gA G 110), .int x1] μ (some (.int r.1), r.2) := by
  refine Con.ofZ ⟨rfl, rfl, Nat.le_of_ble_eq_true rfl⟩ rfl (fun X hG hX hr dy => ?_)
  subst hG
  show AW X 0 [(0, .ref (gA (xG X) 110)), (1, .int x1)] [] μ dy
  unfold f_ac_isInOrder at hf
  refine r_aload_n hX dX0_isInOrder_0 0 rfl ?_
  refine r_iload_n hX dX0_isInOrder_1 1 rfl ?_
  obtain ⟨v3, μ1, h2, hf⟩ := bd2_eq hf
  refine r_callVI (Ok.le hX (by omega)) (c_ac_one (d := d)  h2) cv_X0_86 (w_110 _ _ _) rfl rfl (st := []) rfl rfl rfl dX0_isInOrder_2 (fun dy => ?_)
  refine r_aload_n hX dX0_isInOrder_5 0 rfl ?_
  refine r_iload_n hX dX0_isInOrder_6 1 rfl ?_
  obtain ⟨v6, μ4, h5, hf⟩ := bd2_eq hf
  refine r_callVI (Ok.le hX (by omega)) (c_ac_other (d := d)  h5) cv_X0_89 (w_110 _ _ _) rfl rfl (st := [.int v3]) rfl rfl rfl dX0_isInOrder_7 (fun dy => ?_)
  obtain ⟨v7, e8, hf⟩ := bnd_eq hf
  have J9 : AW X 18 [(0, .ref (gA (xG X) 110)), (1, .int x1)] [.int v7] μ4 dy := by
    obtain ⟨b10, hf⟩ := chk_eq hf
    exact fin_Z hf hr _ _ _ (zb_nar b10) dX0_isInOrder_18
  refine r_icmp_ge hX 17 dX0_isInOrder_10 rfl (fun hc11 => ?_) (fun hc11 => ?_)
  · refine r_iconst hX (0 : Int32) dX0_isInOrder_17 rfl ?_
    exact r_topI (e8.trans (by rw [if_pos hc11])) J9
  · refine r_iconst hX (1 : Int32) dX0_isInOrder_13 rfl ?_
    refine r_goto hX 18 dX0_isInOrder_14 rfl ?_
    exact r_topI (e8.trans (by rw [if_neg hc11])) J9
theorem dX8_isPair_0 : decode cX8_isPair 0 = .ok (.aload_n 0, 1) := by decide +kernel
theorem dX8_isPair_1 : decode cX8_isPair 1 = .ok (.getfield 20, 3) := by decide +kernel
theorem dX8_isPair_4 : decode cX8_isPair 4 = .ok (.iload_n 1, 1) := by decide +kernel
theorem dX8_isPair_5 : decode cX8_isPair 5 = .ok (.aaload, 1) := by decide +kernel
theorem dX8_isPair_6 : decode cX8_isPair 6 = .ok (.iload_n 2, 1) := by decide +kernel
theorem dX8_isPair_7 : decode cX8_isPair 7 = .ok (.iaload, 1) := by decide +kernel
theorem dX8_isPair_8 : decode cX8_isPair 8 = .ok (.ifCond .gt 14, 3) := by decide +kernel
theorem dX8_isPair_11 : decode cX8_isPair 11 = .ok (.aload_n 0, 1) := by decide +kernel
theorem dX8_isPair_12 : decode cX8_isPair 12 = .ok (.getfield 20, 3) := by decide +kernel
theorem dX8_isPair_15 : decode cX8_isPair 15 = .ok (.iload_n 2, 1) := by decide +kernel
theorem dX8_isPair_16 : decode cX8_isPair 16 = .ok (.aaload, 1) := by decide +kernel
theorem dX8_isPair_17 : decode cX8_isPair 17 = .ok (.iload_n 1, 1) := by decide +kernel
theorem dX8_isPair_18 : decode cX8_isPair 18 = .ok (.iaload, 1) := by decide +kernel
theorem dX8_isPair_19 : decode cX8_isPair 19 = .ok (.ifCond .le 7, 3) := by decide +kernel
theorem dX8_isPair_22 : decode cX8_isPair 22 = .ok (.iconst 1, 1) := by decide +kernel
theorem dX8_isPair_23 : decode cX8_isPair 23 = .ok (.goto 4, 3) := by decide +kernel
theorem dX8_isPair_26 : decode cX8_isPair 26 = .ok (.iconst 0, 1) := by decide +kernel
theorem dX8_isPair_27 : decode cX8_isPair 27 = .ok (.ireturn, 1) := by decide +kernel
set_option maxHeartbeats 4000000 in
set_option maxRecDepth 20000 in
theorem b_st_isPair_b22 {X : Cx} {d : Nat} (hX : Ok M_st_isPair (d + 0) X) {r : Int32 × Mem} (hr : RetZ M_st_isPair X r.1 r.2)  (μ : Mem) (dy : Nat → Nat) (hf : f_st_isPair_b22  μ = some r) : AW X 22 [] [] μ dy := by
  unfold f_st_isPair_b22 at hf
  refine r_iconst hX (1 : Int32) dX8_isPair_22 rfl ?_
  refine r_goto hX 27 dX8_isPair_23 rfl ?_
  obtain ⟨b4, hf⟩ := chk_eq hf
  exact fin_Z hf hr _ _ _ (zb_nar b4) dX8_isPair_27
set_option maxHeartbeats 4000000 in
set_option maxRecDepth 20000 in
theorem c_st_isPair {G : Gx} {d : Nat} {x1 : Int32} {x2 : Int32} {μ : Mem} {r : Int32 × Mem} (hf : f_st_isPair x1 x2 μ = some r) : Con G M_st_isPair (d + 0) [.ref (gA G 4), .int x1, .int x2] μ (some (.int r.1), r.2) := by
  refine Con.ofZ ⟨rfl, rfl, Nat.le_of_ble_eq_true rfl⟩ rfl (fun X hG hX hr dy => ?_)
  subst hG
  show AW X 0 [(0, .ref (gA (xG X) 4)), (1, .int x1), (2, .int x2)] [] μ dy
  unfold f_st_isPair at hf
  refine r_aload_n hX dX8_isPair_0 0 rfl ?_
  refine r_get hX fl_X8_20 (w_4 _ _ _) rfl dX8_isPair_1 ?_
  refine r_iload_n hX dX8_isPair_4 1 rfl ?_
  obtain ⟨b1, hf⟩ := chk_eq hf
  refine r_aald hX (w_7 _ _ _) (b := gA (xG X) (8 + x1.toNatClampNeg)) rfl rfl (inb_in b1) (if_pos (inb_lt b1)) dX8_isPair_5 ?_
  refine r_iload_n hX dX8_isPair_6 2 rfl ?_
  obtain ⟨b2, hf⟩ := chk_eq hf
  refine r_iald hX (wLo (inb_lt b1)) (inb_in b2) dX8_isPair_7 ?_
  refine r_if_gt hX 22 dX8_isPair_8 rfl (fun hc3 => ?_) (fun hc3 => ?_)
  · rw [if_pos hc3] at hf
    refine r_weak [] rfl ?_
    exact b_st_isPair_b22 hX hr _ _ hf
  · rw [if_neg hc3] at hf
    refine r_aload_n hX dX8_isPair_11 0 rfl ?_
    refine r_get hX fl_X8_20 (w_4 _ _ _) rfl dX8_isPair_12 ?_
    refine r_iload_n hX dX8_isPair_15 2 rfl ?_
    obtain ⟨b5, hf⟩ := chk_eq hf
    refine r_aald hX (w_7 _ _ _) (b := gA (xG X) (8 + x2.toNatClampNeg)) rfl rfl (inb_in b5) (if_pos (inb_lt b5)) dX8_isPair_16 ?_
    refine r_iload_n hX dX8_isPair_17 1 rfl ?_
    obtain ⟨b6, hf⟩ := chk_eq hf
    refine r_iald hX (wLo (inb_lt b5)) (inb_in b6) dX8_isPair_18 ?_
    obtain ⟨v7, e8, hf⟩ := bnd_eq hf
    have J9 : AW X 27 [(0, .ref (gA (xG X) 4)), (1, .int x1), (2, .int x2)] [.int v7] μ dy := by
      obtain ⟨b10, hf⟩ := chk_eq hf
      exact fin_Z hf hr _ _ _ (zb_nar b10) dX8_isPair_27
    refine r_if_le hX 26 dX8_isPair_19 rfl (fun hc11 => ?_) (fun hc11 => ?_)
    · refine r_iconst hX (0 : Int32) dX8_isPair_26 rfl ?_
      exact r_topI (e8.trans (by rw [if_pos hc11])) J9
    · refine r_iconst hX (1 : Int32) dX8_isPair_22 rfl ?_
      refine r_goto hX 27 dX8_isPair_23 rfl ?_
      exact r_topI (e8.trans (by rw [if_neg hc11])) J9
theorem dX1_turnPair_0 : decode cX1_turnPair 0 = .ok (.aload_n 0, 1) := by decide +kernel
theorem dX1_turnPair_1 : decode cX1_turnPair 1 = .ok (.getfield 28, 3) := by decide +kernel
theorem dX1_turnPair_4 : decode cX1_turnPair 4 = .ok (.iload_n 1, 1) := by decide +kernel
theorem dX1_turnPair_5 : decode cX1_turnPair 5 = .ok (.iload_n 2, 1) := by decide +kernel
theorem dX1_turnPair_6 : decode cX1_turnPair 6 = .ok (.invokevirtual 65, 3) := by decide +kernel
theorem dX1_turnPair_9 : decode cX1_turnPair 9 = .ok (.ifCond .eq 7, 3) := by decide +kernel
theorem dX1_turnPair_12 : decode cX1_turnPair 12 = .ok (.iconst 0, 1) := by decide +kernel
theorem dX1_turnPair_13 : decode cX1_turnPair 13 = .ok (.goto 4, 3) := by decide +kernel
theorem dX1_turnPair_16 : decode cX1_turnPair 16 = .ok (.iconst 1, 1) := by decide +kernel
theorem dX1_turnPair_17 : decode cX1_turnPair 17 = .ok (.istore 4, 2) := by decide +kernel
theorem dX1_turnPair_19 : decode cX1_turnPair 19 = .ok (.aload_n 0, 1) := by decide +kernel
theorem dX1_turnPair_20 : decode cX1_turnPair 20 = .ok (.iload_n 1, 1) := by decide +kernel
theorem dX1_turnPair_21 : decode cX1_turnPair 21 = .ok (.iload_n 2, 1) := by decide +kernel
theorem dX1_turnPair_22 : decode cX1_turnPair 22 = .ok (.iload_n 3, 1) := by decide +kernel
theorem dX1_turnPair_23 : decode cX1_turnPair 23 = .ok (.iload 4, 2) := by decide +kernel
theorem dX1_turnPair_25 : decode cX1_turnPair 25 = .ok (.aload_n 0, 1) := by decide +kernel
theorem dX1_turnPair_26 : decode cX1_turnPair 26 = .ok (.getfield 28, 3) := by decide +kernel
theorem dX1_turnPair_29 : decode cX1_turnPair 29 = .ok (.getfield 49, 3) := by decide +kernel
theorem dX1_turnPair_32 : decode cX1_turnPair 32 = .ok (.iload_n 1, 1) := by decide +kernel
theorem dX1_turnPair_33 : decode cX1_turnPair 33 = .ok (.aaload, 1) := by decide +kernel
theorem dX1_turnPair_34 : decode cX1_turnPair 34 = .ok (.iload_n 2, 1) := by decide +kernel
theorem dX1_turnPair_35 : decode cX1_turnPair 35 = .ok (.iaload, 1) := by decide +kernel
theorem dX1_turnPair_36 : decode cX1_turnPair 36 = .ok (.isub, 1) := by decide +kernel
theorem dX1_turnPair_37 : decode cX1_turnPair 37 = .ok (.imul, 1) := by decide +kernel
theorem dX1_turnPair_38 : decode cX1_turnPair 38 = .ok (.invokevirtual 53, 3) := by decide +kernel
theorem dX1_turnPair_41 : decode cX1_turnPair 41 = .ok (.aload_n 0, 1) := by decide +kernel
theorem dX1_turnPair_42 : decode cX1_turnPair 42 = .ok (.iload_n 2, 1) := by decide +kernel
theorem dX1_turnPair_43 : decode cX1_turnPair 43 = .ok (.iload_n 1, 1) := by decide +kernel
theorem dX1_turnPair_44 : decode cX1_turnPair 44 = .ok (.iload_n 3, 1) := by decide +kernel
theorem dX1_turnPair_45 : decode cX1_turnPair 45 = .ok (.iload 4, 2) := by decide +kernel
theorem dX1_turnPair_47 : decode cX1_turnPair 47 = .ok (.aload_n 0, 1) := by decide +kernel
theorem dX1_turnPair_48 : decode cX1_turnPair 48 = .ok (.getfield 28, 3) := by decide +kernel
theorem dX1_turnPair_51 : decode cX1_turnPair 51 = .ok (.getfield 49, 3) := by decide +kernel
theorem dX1_turnPair_54 : decode cX1_turnPair 54 = .ok (.iload_n 2, 1) := by decide +kernel
theorem dX1_turnPair_55 : decode cX1_turnPair 55 = .ok (.aaload, 1) := by decide +kernel
theorem dX1_turnPair_56 : decode cX1_turnPair 56 = .ok (.iload_n 1, 1) := by decide +kernel
theorem dX1_turnPair_57 : decode cX1_turnPair 57 = .ok (.iaload, 1) := by decide +kernel
theorem dX1_turnPair_58 : decode cX1_turnPair 58 = .ok (.isub, 1) := by decide +kernel
theorem dX1_turnPair_59 : decode cX1_turnPair 59 = .ok (.imul, 1) := by decide +kernel
theorem dX1_turnPair_60 : decode cX1_turnPair 60 = .ok (.invokevirtual 53, 3) := by decide +kernel
theorem dX1_turnPair_63 : decode cX1_turnPair 63 = .ok (.aload_n 0, 1) := by decide +kernel
theorem dX1_turnPair_64 : decode cX1_turnPair 64 = .ok (.iload_n 1, 1) := by decide +kernel
theorem dX1_turnPair_65 : decode cX1_turnPair 65 = .ok (.invokevirtual 57, 3) := by decide +kernel
theorem dX1_turnPair_68 : decode cX1_turnPair 68 = .ok (.aload_n 0, 1) := by decide +kernel
theorem dX1_turnPair_69 : decode cX1_turnPair 69 = .ok (.iload_n 2, 1) := by decide +kernel
theorem dX1_turnPair_70 : decode cX1_turnPair 70 = .ok (.invokevirtual 57, 3) := by decide +kernel
theorem dX1_turnPair_73 : decode cX1_turnPair 73 = .ok (.return_, 1) := by decide +kernel
set_option maxHeartbeats 4000000 in
set_option maxRecDepth 20000 in
theorem c_he_turnPair {G : Gx} {d : Nat} {t : Nat} (ht : t < 2) {x1 : Int32} {x2 : Int32} {x3 : Int32} {μ : Mem} {r : Mem} (hf : f_he_turnPair t x1 x2 x3 μ = some r) : Con G M_he_turnPair (d + 1) [.ref (gA G (80 + 5 * t)), .int x1, .int x2, .int x3] μ (none, r) := by
  refine Con.ofV ⟨rfl, rfl, Nat.le_of_ble_eq_true rfl⟩ rfl (fun X hG hX hr dy => ?_)
  subst hG
  show AW X 0 [(0, .ref (gA (xG X) (80 + 5 * t))), (1, .int x1), (2, .int x2), (3, .int x3)] [] μ dy
  unfold f_he_turnPair at hf
  refine r_aload_n hX dX1_turnPair_0 0 rfl ?_
  refine r_get hX fl_X1_28 (wHe_o ht) rfl dX1_turnPair_1 ?_
  refine r_iload_n hX dX1_turnPair_4 1 rfl ?_
  refine r_iload_n hX dX1_turnPair_5 2 rfl ?_
  obtain ⟨v3, μ1, h2, hf⟩ := bd2_eq hf
  refine r_callVI (Ok.le hX (by omega)) (c_st_isPair (d := d)  h2) cv_X1_65 (w_4 _ _ _) rfl rfl (st := []) rfl rfl rfl dX1_turnPair_6 (fun dy => ?_)
  obtain ⟨v4, e5, hf⟩ := bnd_eq hf
  have J6 : AW X 17 [(0, .ref (gA (xG X) (80 + 5 * t))), (1, .int x1), (2, .int x2), (3, .int x3)] [.int v4] μ1 dy := by
    refine r_istore hX dX1_turnPair_17 rfl (ls' := [(4, .int v4), (0, .ref (gA (xG X) (80 + 5 * t))), (1, .int x1), (2, .int x2), (3, .int x3)]) rfl ?_
    refine r_aload_n hX dX1_turnPair_19 1 rfl ?_
    refine r_iload_n hX dX1_turnPair_20 2 rfl ?_
    refine r_iload_n hX dX1_turnPair_21 3 rfl ?_
    refine r_iload_n hX dX1_turnPair_22 4 rfl ?_
    refine r_iload hX dX1_turnPair_23 0 rfl ?_
    refine r_aload_n hX dX1_turnPair_25 1 rfl ?_
    refine r_get hX fl_X1_28 (wHe_o ht) rfl dX1_turnPair_26 ?_
    refine r_getN hX fl_X1_49 (w_4 _ _ _) rfl dX1_turnPair_29 ?_
    refine r_iload_n hX dX1_turnPair_32 2 rfl ?_
    obtain ⟨b7, hf⟩ := chk_eq hf
    refine r_aald hX (w_7 _ _ _) (b := gA (xG X) (8 + x1.toNatClampNeg)) rfl rfl (inb_in b7) (if_pos (inb_lt b7)) dX1_turnPair_33 ?_
    refine r_iload_n hX dX1_turnPair_34 3 rfl ?_
    obtain ⟨b8, hf⟩ := chk_eq hf
    refine r_iald hX (wLo (inb_lt b7)) (inb_in b8) dX1_turnPair_35 ?_
    refine r_isub hX dX1_turnPair_36 ?_
    refine r_imul hX dX1_turnPair_37 ?_
    obtain ⟨μ9, h10, hf⟩ := bd1_eq hf
    refine r_callVV (Ok.le hX (by omega)) (c_he_addLoud (d := d) ht h10) cv_X1_53 (wHe_o ht) rfl rfl (st := []) rfl rfl rfl dX1_turnPair_38 (fun dy => ?_)
    refine r_aload_n hX dX1_turnPair_41 1 rfl ?_
    refine r_iload_n hX dX1_turnPair_42 3 rfl ?_
    refine r_iload_n hX dX1_turnPair_43 2 rfl ?_
    refine r_iload_n hX dX1_turnPair_44 4 rfl ?_
    refine r_iload hX dX1_turnPair_45 0 rfl ?_
    refine r_aload_n hX dX1_turnPair_47 1 rfl ?_
    refine r_get hX fl_X1_28 (wHe_o ht) rfl dX1_turnPair_48 ?_
    refine r_getN hX fl_X1_49 (w_4 _ _ _) rfl dX1_turnPair_51 ?_
    refine r_iload_n hX dX1_turnPair_54 3 rfl ?_
    obtain ⟨b11, hf⟩ := chk_eq hf
    refine r_aald hX (w_7 _ _ _) (b := gA (xG X) (8 + x2.toNatClampNeg)) rfl rfl (inb_in b11) (if_pos (inb_lt b11)) dX1_turnPair_55 ?_
    refine r_iload_n hX dX1_turnPair_56 2 rfl ?_
    obtain ⟨b12, hf⟩ := chk_eq hf
    refine r_iald hX (wLo (inb_lt b11)) (inb_in b12) dX1_turnPair_57 ?_
    refine r_isub hX dX1_turnPair_58 ?_
    refine r_imul hX dX1_turnPair_59 ?_
    obtain ⟨μ13, h14, hf⟩ := bd1_eq hf
    refine r_callVV (Ok.le hX (by omega)) (c_he_addLoud (d := d) ht h14) cv_X1_53 (wHe_o ht) rfl rfl (st := []) rfl rfl rfl dX1_turnPair_60 (fun dy => ?_)
    refine r_aload_n hX dX1_turnPair_63 1 rfl ?_
    refine r_iload_n hX dX1_turnPair_64 2 rfl ?_
    obtain ⟨μ15, h16, hf⟩ := bd1_eq hf
    refine r_callVV (Ok.le hX (by omega)) (c_he_raiseBar (d := d) ht h16) cv_X1_57 (wHe_o ht) rfl rfl (st := []) rfl rfl rfl dX1_turnPair_65 (fun dy => ?_)
    refine r_aload_n hX dX1_turnPair_68 1 rfl ?_
    refine r_iload_n hX dX1_turnPair_69 3 rfl ?_
    obtain ⟨μ17, h18, hf⟩ := bd1_eq hf
    refine r_callVV (Ok.le hX (by omega)) (c_he_raiseBar (d := d) ht h18) cv_X1_57 (wHe_o ht) rfl rfl (st := []) rfl rfl rfl dX1_turnPair_70 (fun dy => ?_)
    exact fin_V hf hr _ _ _ dX1_turnPair_73
  refine r_if_eq hX 16 dX1_turnPair_9 rfl (fun hc19 => ?_) (fun hc19 => ?_)
  · refine r_iconst hX (1 : Int32) dX1_turnPair_16 rfl ?_
    exact r_topI (e5.trans (by rw [if_pos hc19])) J6
  · refine r_iconst hX (0 : Int32) dX1_turnPair_12 rfl ?_
    refine r_goto hX 17 dX1_turnPair_13 rfl ?_
    exact r_topI (e5.trans (by rw [if_neg hc19])) J6
theorem dX0_turn_0 : decode cX0_turn 0 = .ok (.aload_n 0, 1) := by decide +kernel
theorem dX0_turn_1 : decode cX0_turn 1 = .ok (.getfield 24, 3) := by decide +kernel
theorem dX0_turn_4 : decode cX0_turn 4 = .ok (.aload_n 0, 1) := by decide +kernel
theorem dX0_turn_5 : decode cX0_turn 5 = .ok (.iload_n 1, 1) := by decide +kernel
theorem dX0_turn_6 : decode cX0_turn 6 = .ok (.invokevirtual 86, 3) := by decide +kernel
theorem dX0_turn_9 : decode cX0_turn 9 = .ok (.aload_n 0, 1) := by decide +kernel
theorem dX0_turn_10 : decode cX0_turn 10 = .ok (.iload_n 1, 1) := by decide +kernel
theorem dX0_turn_11 : decode cX0_turn 11 = .ok (.invokevirtual 89, 3) := by decide +kernel
theorem dX0_turn_14 : decode cX0_turn 14 = .ok (.iload_n 2, 1) := by decide +kernel
theorem dX0_turn_15 : decode cX0_turn 15 = .ok (.invokevirtual 92, 3) := by decide +kernel
theorem dX0_turn_18 : decode cX0_turn 18 = .ok (.return_, 1) := by decide +kernel
set_option maxHeartbeats 4000000 in
set_option maxRecDepth 20000 in
theorem c_ac_turn {G : Gx} {d : Nat} {x1 : Int32} {x2 : Int32} {μ : Mem} {r : Mem} (hf : f_ac_turn x1 x2 μ = some r) : Con G M_ac_turn (d + 2) [.ref (gA G 110), .int x1, .int x2] μ (none, r) := by
  refine Con.ofV ⟨rfl, rfl, Nat.le_of_ble_eq_true rfl⟩ rfl (fun X hG hX hr dy => ?_)
  subst hG
  show AW X 0 [(0, .ref (gA (xG X) 110)), (1, .int x1), (2, .int x2)] [] μ dy
  unfold f_ac_turn at hf
  refine r_aload_n hX dX0_turn_0 0 rfl ?_
  refine r_get hX fl_X0_24 (w_110 _ _ _) rfl dX0_turn_1 ?_
  refine r_aload_n hX dX0_turn_4 0 rfl ?_
  refine r_iload_n hX dX0_turn_5 1 rfl ?_
  obtain ⟨v3, μ1, h2, hf⟩ := bd2_eq hf
  refine r_callVI (Ok.le hX (by omega)) (c_ac_one (d := d)  h2) cv_X0_86 (w_110 _ _ _) rfl rfl (st := [.ref (gA (xG X) 85)]) rfl rfl rfl dX0_turn_6 (fun dy => ?_)
  refine r_aload_n hX dX0_turn_9 0 rfl ?_
  refine r_iload_n hX dX0_turn_10 1 rfl ?_
  obtain ⟨v6, μ4, h5, hf⟩ := bd2_eq hf
  refine r_callVI (Ok.le hX (by omega)) (c_ac_other (d := d)  h5) cv_X0_89 (w_110 _ _ _) rfl rfl (st := [.int v3, .ref (gA (xG X) 85)]) rfl rfl rfl dX0_turn_11 (fun dy => ?_)
  refine r_iload_n hX dX0_turn_14 2 rfl ?_
  obtain ⟨μ7, h8, hf⟩ := bd1_eq hf
  refine r_callVV (Ok.le hX (by omega)) (c_he_turnPair (d := d) (by decide) h8) cv_X0_92 (w_85 _ _ _) rfl rfl (st := []) rfl rfl rfl dX0_turn_15 (fun dy => ?_)
  exact fin_V hf hr _ _ _ dX0_turn_18
theorem dX0_doesIt_0 : decode cX0_doesIt 0 = .ok (.aload_n 0, 1) := by decide +kernel
theorem dX0_doesIt_1 : decode cX0_doesIt 1 = .ok (.iload_n 1, 1) := by decide +kernel
theorem dX0_doesIt_2 : decode cX0_doesIt 2 = .ok (.iconst 1, 1) := by decide +kernel
theorem dX0_doesIt_3 : decode cX0_doesIt 3 = .ok (.invokevirtual 75, 3) := by decide +kernel
theorem dX0_doesIt_6 : decode cX0_doesIt 6 = .ok (.aload_n 0, 1) := by decide +kernel
theorem dX0_doesIt_7 : decode cX0_doesIt 7 = .ok (.iload_n 2, 1) := by decide +kernel
theorem dX0_doesIt_8 : decode cX0_doesIt 8 = .ok (.invokevirtual 48, 3) := by decide +kernel
theorem dX0_doesIt_11 : decode cX0_doesIt 11 = .ok (.iconst (-1), 1) := by decide +kernel
theorem dX0_doesIt_12 : decode cX0_doesIt 12 = .ok (.if_icmp .eq 7, 3) := by decide +kernel
theorem dX0_doesIt_15 : decode cX0_doesIt 15 = .ok (.iconst 1, 1) := by decide +kernel
theorem dX0_doesIt_16 : decode cX0_doesIt 16 = .ok (.goto 4, 3) := by decide +kernel
theorem dX0_doesIt_19 : decode cX0_doesIt 19 = .ok (.iconst 0, 1) := by decide +kernel
theorem dX0_doesIt_20 : decode cX0_doesIt 20 = .ok (.istore_n 3, 1) := by decide +kernel
theorem dX0_doesIt_21 : decode cX0_doesIt 21 = .ok (.aload_n 0, 1) := by decide +kernel
theorem dX0_doesIt_22 : decode cX0_doesIt 22 = .ok (.iload_n 1, 1) := by decide +kernel
theorem dX0_doesIt_23 : decode cX0_doesIt 23 = .ok (.iconst (-1), 1) := by decide +kernel
theorem dX0_doesIt_24 : decode cX0_doesIt 24 = .ok (.invokevirtual 75, 3) := by decide +kernel
theorem dX0_doesIt_27 : decode cX0_doesIt 27 = .ok (.iload_n 3, 1) := by decide +kernel
theorem dX0_doesIt_28 : decode cX0_doesIt 28 = .ok (.ireturn, 1) := by decide +kernel
set_option maxHeartbeats 4000000 in
set_option maxRecDepth 20000 in
theorem c_ac_doesIt {G : Gx} {d : Nat} {x1 : Int32} {x2 : Int32} {μ : Mem} {r : Int32 × Mem} (hf : f_ac_doesIt x1 x2 μ = some r) : Con G M_ac_doesIt (d + 3) [.ref (gA G 110), .int x1, .int x2] μ (some (.int r.1), r.2) := by
  refine Con.ofZ ⟨rfl, rfl, Nat.le_of_ble_eq_true rfl⟩ rfl (fun X hG hX hr dy => ?_)
  subst hG
  show AW X 0 [(0, .ref (gA (xG X) 110)), (1, .int x1), (2, .int x2)] [] μ dy
  unfold f_ac_doesIt at hf
  refine r_aload_n hX dX0_doesIt_0 0 rfl ?_
  refine r_iload_n hX dX0_doesIt_1 1 rfl ?_
  refine r_iconst hX (1 : Int32) dX0_doesIt_2 rfl ?_
  obtain ⟨μ1, h2, hf⟩ := bd1_eq hf
  refine r_callVV (Ok.le hX (by omega)) (c_ac_turn (d := d)  h2) cv_X0_75 (w_110 _ _ _) rfl rfl (st := []) rfl rfl rfl dX0_doesIt_3 (fun dy => ?_)
  refine r_aload_n hX dX0_doesIt_6 0 rfl ?_
  refine r_iload_n hX dX0_doesIt_7 2 rfl ?_
  obtain ⟨v5, μ3, h4, hf⟩ := bd2_eq hf
  refine r_callVI (Ok.le hX (by omega)) (c_ac_dayOfAll (d := d)  h4) cv_X0_48 (w_110 _ _ _) rfl rfl (st := []) rfl rfl rfl dX0_doesIt_8 (fun dy => ?_)
  refine r_iconst hX (-1 : Int32) dX0_doesIt_11 rfl ?_
  obtain ⟨v6, e7, hf⟩ := bnd_eq hf
  have J8 : AW X 20 [(0, .ref (gA (xG X) 110)), (1, .int x1), (2, .int x2)] [.int v6] μ3 dy := by
    refine r_istore_n hX dX0_doesIt_20 rfl (ls' := [(3, .int v6), (0, .ref (gA (xG X) 110)), (1, .int x1), (2, .int x2)]) rfl ?_
    refine r_aload_n hX dX0_doesIt_21 1 rfl ?_
    refine r_iload_n hX dX0_doesIt_22 2 rfl ?_
    refine r_iconst hX (-1 : Int32) dX0_doesIt_23 rfl ?_
    obtain ⟨μ9, h10, hf⟩ := bd1_eq hf
    refine r_callVV (Ok.le hX (by omega)) (c_ac_turn (d := d)  h10) cv_X0_75 (w_110 _ _ _) rfl rfl (st := []) rfl rfl rfl dX0_doesIt_24 (fun dy => ?_)
    refine r_iload_n hX dX0_doesIt_27 0 rfl ?_
    obtain ⟨b11, hf⟩ := chk_eq hf
    exact fin_Z hf hr _ _ _ (zb_nar b11) dX0_doesIt_28
  refine r_icmp_eq hX 19 dX0_doesIt_12 rfl (fun hc12 => ?_) (fun hc12 => ?_)
  · refine r_iconst hX (0 : Int32) dX0_doesIt_19 rfl ?_
    exact r_topI (e7.trans (by rw [if_pos hc12])) J8
  · refine r_iconst hX (1 : Int32) dX0_doesIt_15 rfl ?_
    refine r_goto hX 20 dX0_doesIt_16 rfl ?_
    exact r_topI (e7.trans (by rw [if_neg hc12])) J8
theorem dX0_nextPair_0 : decode cX0_nextPair 0 = .ok (.aload_n 0, 1) := by decide +kernel
theorem dX0_nextPair_1 : decode cX0_nextPair 1 = .ok (.getfield 9, 3) := by decide +kernel
theorem dX0_nextPair_4 : decode cX0_nextPair 4 = .ok (.getfield 60, 3) := by decide +kernel
theorem dX0_nextPair_7 : decode cX0_nextPair 7 = .ok (.aload_n 0, 1) := by decide +kernel
theorem dX0_nextPair_8 : decode cX0_nextPair 8 = .ok (.getfield 9, 3) := by decide +kernel
theorem dX0_nextPair_11 : decode cX0_nextPair 11 = .ok (.getfield 60, 3) := by decide +kernel
theorem dX0_nextPair_14 : decode cX0_nextPair 14 = .ok (.imul, 1) := by decide +kernel
theorem dX0_nextPair_15 : decode cX0_nextPair 15 = .ok (.istore_n 3, 1) := by decide +kernel
theorem dX0_nextPair_16 : decode cX0_nextPair 16 = .ok (.iload_n 1, 1) := by decide +kernel
theorem dX0_nextPair_17 : decode cX0_nextPair 17 = .ok (.istore 4, 2) := by decide +kernel
theorem dX0_nextPair_19 : decode cX0_nextPair 19 = .ok (.iload 4, 2) := by decide +kernel
theorem dX0_nextPair_21 : decode cX0_nextPair 21 = .ok (.iload_n 3, 1) := by decide +kernel
theorem dX0_nextPair_22 : decode cX0_nextPair 22 = .ok (.if_icmp .ge 31, 3) := by decide +kernel
theorem dX0_nextPair_25 : decode cX0_nextPair 25 = .ok (.aload_n 0, 1) := by decide +kernel
theorem dX0_nextPair_26 : decode cX0_nextPair 26 = .ok (.iload 4, 2) := by decide +kernel
theorem dX0_nextPair_28 : decode cX0_nextPair 28 = .ok (.invokevirtual 71, 3) := by decide +kernel
theorem dX0_nextPair_31 : decode cX0_nextPair 31 = .ok (.ifCond .eq 16, 3) := by decide +kernel
theorem dX0_nextPair_34 : decode cX0_nextPair 34 = .ok (.aload_n 0, 1) := by decide +kernel
theorem dX0_nextPair_35 : decode cX0_nextPair 35 = .ok (.iload 4, 2) := by decide +kernel
theorem dX0_nextPair_37 : decode cX0_nextPair 37 = .ok (.iload_n 2, 1) := by decide +kernel
theorem dX0_nextPair_38 : decode cX0_nextPair 38 = .ok (.invokevirtual 79, 3) := by decide +kernel
theorem dX0_nextPair_41 : decode cX0_nextPair 41 = .ok (.ifCond .eq 6, 3) := by decide +kernel
theorem dX0_nextPair_44 : decode cX0_nextPair 44 = .ok (.iload 4, 2) := by decide +kernel
theorem dX0_nextPair_46 : decode cX0_nextPair 46 = .ok (.ireturn, 1) := by decide +kernel
theorem dX0_nextPair_47 : decode cX0_nextPair 47 = .ok (.iinc 4 1, 3) := by decide +kernel
theorem dX0_nextPair_50 : decode cX0_nextPair 50 = .ok (.goto (-31), 3) := by decide +kernel
theorem dX0_nextPair_53 : decode cX0_nextPair 53 = .ok (.iload_n 3, 1) := by decide +kernel
theorem dX0_nextPair_54 : decode cX0_nextPair 54 = .ok (.ireturn, 1) := by decide +kernel
set_option maxHeartbeats 4000000 in
set_option maxRecDepth 20000 in
theorem b_ac_nextPair_b19 {X : Cx} {d : Nat} (hX : Ok M_ac_nextPair (d + 4) X) {r : Int32 × Mem} (hr : RetI M_ac_nextPair X r.1 r.2) : ∀ (n : Nat) (x2 : Int32) (x3 : Int32) (x4 : Int32) (μ : Mem) (dy : Nat → Nat), f_ac_nextPair_b19 n x2 x3 x4 μ = some r → AW X 19 [(0, .ref (gA (xG X) 110)), (2, .int x2), (3, .int x3), (4, .int x4)] [] μ dy := by
  intro n
  induction n with
  | zero => intro x2 x3 x4 μ dy hf; exact nomatch hf
  | succ n ih =>
    intro x2 x3 x4 μ dy hf
    rw [f_ac_nextPair_b19] at hf
    refine r_iload hX dX0_nextPair_19 3 rfl ?_
    refine r_iload_n hX dX0_nextPair_21 2 rfl ?_
    refine r_icmp_ge hX 53 dX0_nextPair_22 rfl (fun hc3 => ?_) (fun hc3 => ?_)
    · rw [if_pos hc3] at hf
      refine r_iload_n hX dX0_nextPair_53 2 rfl ?_
      exact fin_I hf hr _ _ _ dX0_nextPair_54
    · rw [if_neg hc3] at hf
      refine r_aload_n hX dX0_nextPair_25 0 rfl ?_
      refine r_iload hX dX0_nextPair_26 3 rfl ?_
      obtain ⟨v6, μ4, h5, hf⟩ := bd2_eq hf
      refine r_callVI (Ok.le hX (by omega)) (c_ac_isInOrder (d := d)  h5) cv_X0_71 (w_110 _ _ _) rfl rfl (st := []) rfl rfl rfl dX0_nextPair_28 (fun dy => ?_)
      refine r_if_eq hX 47 dX0_nextPair_31 rfl (fun hc7 => ?_) (fun hc7 => ?_)
      · rw [if_pos hc7] at hf
        refine r_iinc hX (x4 + (1 : Int32)) dX0_nextPair_47 3 rfl rfl rfl (ls' := [(4, .int (x4 + (1 : Int32))), (0, .ref (gA (xG X) 110)), (2, .int x2), (3, .int x3)]) rfl ?_
        refine r_goto hX 19 dX0_nextPair_50 rfl ?_
        refine r_weak [1, 2, 3, 0] rfl ?_
        exact ih _ _ _ _ _ hf
      · rw [if_neg hc7] at hf
        refine r_aload_n hX dX0_nextPair_34 0 rfl ?_
        refine r_iload hX dX0_nextPair_35 3 rfl ?_
        refine r_iload_n hX dX0_nextPair_37 1 rfl ?_
        obtain ⟨v10, μ8, h9, hf⟩ := bd2_eq hf
        refine r_callVI (Ok.le hX (by omega)) (c_ac_doesIt (d := d)  h9) cv_X0_79 (w_110 _ _ _) rfl rfl (st := []) rfl rfl rfl dX0_nextPair_38 (fun dy => ?_)
        refine r_if_eq hX 47 dX0_nextPair_41 rfl (fun hc11 => ?_) (fun hc11 => ?_)
        · rw [if_pos hc11] at hf
          refine r_iinc hX (x4 + (1 : Int32)) dX0_nextPair_47 3 rfl rfl rfl (ls' := [(4, .int (x4 + (1 : Int32))), (0, .ref (gA (xG X) 110)), (2, .int x2), (3, .int x3)]) rfl ?_
          refine r_goto hX 19 dX0_nextPair_50 rfl ?_
          refine r_weak [1, 2, 3, 0] rfl ?_
          exact ih _ _ _ _ _ hf
        · rw [if_neg hc11] at hf
          refine r_iload hX dX0_nextPair_44 3 rfl ?_
          exact fin_I hf hr _ _ _ dX0_nextPair_46
set_option maxHeartbeats 4000000 in
set_option maxRecDepth 20000 in
theorem c_ac_nextPair {G : Gx} {d : Nat} {x1 : Int32} {x2 : Int32} {μ : Mem} {r : Int32 × Mem} (hf : f_ac_nextPair x1 x2 μ = some r) : Con G M_ac_nextPair (d + 4) [.ref (gA G 110), .int x1, .int x2] μ (some (.int r.1), r.2) := by
  refine Con.ofI ⟨rfl, rfl, Nat.le_of_ble_eq_true rfl⟩ rfl rfl (fun X hG hX hr dy => ?_)
  subst hG
  show AW X 0 [(0, .ref (gA (xG X) 110)), (1, .int x1), (2, .int x2)] [] μ dy
  unfold f_ac_nextPair at hf
  refine r_aload_n hX dX0_nextPair_0 0 rfl ?_
  refine r_get hX fl_X0_9 (w_110 _ _ _) rfl dX0_nextPair_1 ?_
  refine r_getN hX fl_X0_60 (w_4 _ _ _) rfl dX0_nextPair_4 ?_
  refine r_aload_n hX dX0_nextPair_7 0 rfl ?_
  refine r_get hX fl_X0_9 (w_110 _ _ _) rfl dX0_nextPair_8 ?_
  refine r_getN hX fl_X0_60 (w_4 _ _ _) rfl dX0_nextPair_11 ?_
  refine r_imul hX dX0_nextPair_14 ?_
  obtain ⟨v1, e2, hf⟩ := bnd_eq hf
  refine r_topI e2 ?_
  refine r_istore_n hX dX0_nextPair_15 rfl (ls' := [(3, .int v1), (0, .ref (gA (xG X) 110)), (1, .int x1), (2, .int x2)]) rfl ?_
  refine r_iload_n hX dX0_nextPair_16 2 rfl ?_
  refine r_istore hX dX0_nextPair_17 rfl (ls' := [(4, .int x1), (3, .int v1), (0, .ref (gA (xG X) 110)), (1, .int x1), (2, .int x2)]) rfl ?_
  refine r_weak [2, 4, 1, 0] rfl ?_
  exact b_ac_nextPair_b19 hX hr FU _ _ _ _ _ hf
theorem dX0_tellPair_0 : decode cX0_tellPair 0 = .ok (.aload_n 0, 1) := by decide +kernel
theorem dX0_tellPair_1 : decode cX0_tellPair 1 = .ok (.getfield 15, 3) := by decide +kernel
theorem dX0_tellPair_4 : decode cX0_tellPair 4 = .ok (.aload_n 0, 1) := by decide +kernel
theorem dX0_tellPair_5 : decode cX0_tellPair 5 = .ok (.iload_n 1, 1) := by decide +kernel
theorem dX0_tellPair_6 : decode cX0_tellPair 6 = .ok (.invokevirtual 86, 3) := by decide +kernel
theorem dX0_tellPair_9 : decode cX0_tellPair 9 = .ok (.i2l, 1) := by decide +kernel
theorem dX0_tellPair_10 : decode cX0_tellPair 10 = .ok (.invokevirtual 96, 3) := by decide +kernel
theorem dX0_tellPair_13 : decode cX0_tellPair 13 = .ok (.aload_n 0, 1) := by decide +kernel
theorem dX0_tellPair_14 : decode cX0_tellPair 14 = .ok (.getfield 15, 3) := by decide +kernel
theorem dX0_tellPair_17 : decode cX0_tellPair 17 = .ok (.aload_n 0, 1) := by decide +kernel
theorem dX0_tellPair_18 : decode cX0_tellPair 18 = .ok (.iload_n 1, 1) := by decide +kernel
theorem dX0_tellPair_19 : decode cX0_tellPair 19 = .ok (.invokevirtual 89, 3) := by decide +kernel
theorem dX0_tellPair_22 : decode cX0_tellPair 22 = .ok (.i2l, 1) := by decide +kernel
theorem dX0_tellPair_23 : decode cX0_tellPair 23 = .ok (.invokevirtual 96, 3) := by decide +kernel
theorem dX0_tellPair_26 : decode cX0_tellPair 26 = .ok (.return_, 1) := by decide +kernel
set_option maxHeartbeats 4000000 in
set_option maxRecDepth 20000 in
theorem c_ac_tellPair {G : Gx} {d : Nat} {x1 : Int32} {μ : Mem} {r : Mem} (hf : f_ac_tellPair x1 μ = some r) : Con G M_ac_tellPair (d + 1) [.ref (gA G 110), .int x1] μ (none, r) := by
  refine Con.ofV ⟨rfl, rfl, Nat.le_of_ble_eq_true rfl⟩ rfl (fun X hG hX hr dy => ?_)
  subst hG
  show AW X 0 [(0, .ref (gA (xG X) 110)), (1, .int x1)] [] μ dy
  unfold f_ac_tellPair at hf
  refine r_aload_n hX dX0_tellPair_0 0 rfl ?_
  refine r_get hX fl_X0_15 (w_110 _ _ _) rfl dX0_tellPair_1 ?_
  refine r_aload_n hX dX0_tellPair_4 0 rfl ?_
  refine r_iload_n hX dX0_tellPair_5 1 rfl ?_
  obtain ⟨v3, μ1, h2, hf⟩ := bd2_eq hf
  refine r_callVI (Ok.le hX (by omega)) (c_ac_one (d := d)  h2) cv_X0_86 (w_110 _ _ _) rfl rfl (st := [.ref (gA (xG X) 2)]) rfl rfl rfl dX0_tellPair_6 (fun dy => ?_)
  refine r_i2l hX dX0_tellPair_9 ?_
  obtain ⟨μ4, h5, hf⟩ := bd1_eq hf
  refine r_callVV (Ok.le hX (by omega)) (c_rw_add (d := d)  h5) cv_X0_96 (w_2 _ _ _) rfl rfl (st := []) rfl rfl rfl dX0_tellPair_10 (fun dy => ?_)
  refine r_aload_n hX dX0_tellPair_13 0 rfl ?_
  refine r_get hX fl_X0_15 (w_110 _ _ _) rfl dX0_tellPair_14 ?_
  refine r_aload_n hX dX0_tellPair_17 0 rfl ?_
  refine r_iload_n hX dX0_tellPair_18 1 rfl ?_
  obtain ⟨v8, μ6, h7, hf⟩ := bd2_eq hf
  refine r_callVI (Ok.le hX (by omega)) (c_ac_other (d := d)  h7) cv_X0_89 (w_110 _ _ _) rfl rfl (st := [.ref (gA (xG X) 2)]) rfl rfl rfl dX0_tellPair_19 (fun dy => ?_)
  refine r_i2l hX dX0_tellPair_22 ?_
  obtain ⟨μ9, h10, hf⟩ := bd1_eq hf
  refine r_callVV (Ok.le hX (by omega)) (c_rw_add (d := d)  h10) cv_X0_96 (w_2 _ _ _) rfl rfl (st := []) rfl rfl rfl dX0_tellPair_23 (fun dy => ?_)
  exact fin_V hf hr _ _ _ dX0_tellPair_26
theorem dX0_fewestPairs_0 : decode cX0_fewestPairs 0 = .ok (.aload_n 0, 1) := by decide +kernel
theorem dX0_fewestPairs_1 : decode cX0_fewestPairs 1 = .ok (.getfield 24, 3) := by decide +kernel
theorem dX0_fewestPairs_4 : decode cX0_fewestPairs 4 = .ok (.invokevirtual 41, 3) := by decide +kernel
theorem dX0_fewestPairs_7 : decode cX0_fewestPairs 7 = .ok (.aload_n 0, 1) := by decide +kernel
theorem dX0_fewestPairs_8 : decode cX0_fewestPairs 8 = .ok (.iload_n 1, 1) := by decide +kernel
theorem dX0_fewestPairs_9 : decode cX0_fewestPairs 9 = .ok (.invokevirtual 48, 3) := by decide +kernel
theorem dX0_fewestPairs_12 : decode cX0_fewestPairs 12 = .ok (.iconst (-1), 1) := by decide +kernel
theorem dX0_fewestPairs_13 : decode cX0_fewestPairs 13 = .ok (.if_icmp .eq 12, 3) := by decide +kernel
theorem dX0_fewestPairs_16 : decode cX0_fewestPairs 16 = .ok (.aload_n 0, 1) := by decide +kernel
theorem dX0_fewestPairs_17 : decode cX0_fewestPairs 17 = .ok (.getfield 15, 3) := by decide +kernel
theorem dX0_fewestPairs_20 : decode cX0_fewestPairs 20 = .ok (.invokevirtual 57, 3) := by decide +kernel
theorem dX0_fewestPairs_23 : decode cX0_fewestPairs 23 = .ok (.iconst 0, 1) := by decide +kernel
theorem dX0_fewestPairs_24 : decode cX0_fewestPairs 24 = .ok (.ireturn, 1) := by decide +kernel
theorem dX0_fewestPairs_25 : decode cX0_fewestPairs 25 = .ok (.aload_n 0, 1) := by decide +kernel
theorem dX0_fewestPairs_26 : decode cX0_fewestPairs 26 = .ok (.getfield 9, 3) := by decide +kernel
theorem dX0_fewestPairs_29 : decode cX0_fewestPairs 29 = .ok (.getfield 60, 3) := by decide +kernel
theorem dX0_fewestPairs_32 : decode cX0_fewestPairs 32 = .ok (.aload_n 0, 1) := by decide +kernel
theorem dX0_fewestPairs_33 : decode cX0_fewestPairs 33 = .ok (.getfield 9, 3) := by decide +kernel
theorem dX0_fewestPairs_36 : decode cX0_fewestPairs 36 = .ok (.getfield 60, 3) := by decide +kernel
theorem dX0_fewestPairs_39 : decode cX0_fewestPairs 39 = .ok (.imul, 1) := by decide +kernel
theorem dX0_fewestPairs_40 : decode cX0_fewestPairs 40 = .ok (.istore_n 2, 1) := by decide +kernel
theorem dX0_fewestPairs_41 : decode cX0_fewestPairs 41 = .ok (.aload_n 0, 1) := by decide +kernel
theorem dX0_fewestPairs_42 : decode cX0_fewestPairs 42 = .ok (.iconst 0, 1) := by decide +kernel
theorem dX0_fewestPairs_43 : decode cX0_fewestPairs 43 = .ok (.iload_n 1, 1) := by decide +kernel
theorem dX0_fewestPairs_44 : decode cX0_fewestPairs 44 = .ok (.invokevirtual 64, 3) := by decide +kernel
theorem dX0_fewestPairs_47 : decode cX0_fewestPairs 47 = .ok (.istore_n 3, 1) := by decide +kernel
theorem dX0_fewestPairs_48 : decode cX0_fewestPairs 48 = .ok (.iload_n 3, 1) := by decide +kernel
theorem dX0_fewestPairs_49 : decode cX0_fewestPairs 49 = .ok (.iload_n 2, 1) := by decide +kernel
theorem dX0_fewestPairs_50 : decode cX0_fewestPairs 50 = .ok (.if_icmp .ge 17, 3) := by decide +kernel
theorem dX0_fewestPairs_53 : decode cX0_fewestPairs 53 = .ok (.aload_n 0, 1) := by decide +kernel
theorem dX0_fewestPairs_54 : decode cX0_fewestPairs 54 = .ok (.getfield 15, 3) := by decide +kernel
theorem dX0_fewestPairs_57 : decode cX0_fewestPairs 57 = .ok (.invokevirtual 57, 3) := by decide +kernel
theorem dX0_fewestPairs_60 : decode cX0_fewestPairs 60 = .ok (.aload_n 0, 1) := by decide +kernel
theorem dX0_fewestPairs_61 : decode cX0_fewestPairs 61 = .ok (.iload_n 3, 1) := by decide +kernel
theorem dX0_fewestPairs_62 : decode cX0_fewestPairs 62 = .ok (.invokevirtual 68, 3) := by decide +kernel
theorem dX0_fewestPairs_65 : decode cX0_fewestPairs 65 = .ok (.iconst 1, 1) := by decide +kernel
theorem dX0_fewestPairs_66 : decode cX0_fewestPairs 66 = .ok (.ireturn, 1) := by decide +kernel
theorem dX0_fewestPairs_67 : decode cX0_fewestPairs 67 = .ok (.iconst 0, 1) := by decide +kernel
theorem dX0_fewestPairs_68 : decode cX0_fewestPairs 68 = .ok (.istore 4, 2) := by decide +kernel
theorem dX0_fewestPairs_70 : decode cX0_fewestPairs 70 = .ok (.iload 4, 2) := by decide +kernel
theorem dX0_fewestPairs_72 : decode cX0_fewestPairs 72 = .ok (.iload_n 2, 1) := by decide +kernel
theorem dX0_fewestPairs_73 : decode cX0_fewestPairs 73 = .ok (.if_icmp .ge 70, 3) := by decide +kernel
theorem dX0_fewestPairs_76 : decode cX0_fewestPairs 76 = .ok (.aload_n 0, 1) := by decide +kernel
theorem dX0_fewestPairs_77 : decode cX0_fewestPairs 77 = .ok (.iload 4, 2) := by decide +kernel
theorem dX0_fewestPairs_79 : decode cX0_fewestPairs 79 = .ok (.invokevirtual 71, 3) := by decide +kernel
theorem dX0_fewestPairs_82 : decode cX0_fewestPairs 82 = .ok (.ifCond .eq 55, 3) := by decide +kernel
theorem dX0_fewestPairs_85 : decode cX0_fewestPairs 85 = .ok (.aload_n 0, 1) := by decide +kernel
theorem dX0_fewestPairs_86 : decode cX0_fewestPairs 86 = .ok (.iload 4, 2) := by decide +kernel
theorem dX0_fewestPairs_88 : decode cX0_fewestPairs 88 = .ok (.iconst 1, 1) := by decide +kernel
theorem dX0_fewestPairs_89 : decode cX0_fewestPairs 89 = .ok (.invokevirtual 75, 3) := by decide +kernel
theorem dX0_fewestPairs_92 : decode cX0_fewestPairs 92 = .ok (.aload_n 0, 1) := by decide +kernel
theorem dX0_fewestPairs_93 : decode cX0_fewestPairs 93 = .ok (.iload 4, 2) := by decide +kernel
theorem dX0_fewestPairs_95 : decode cX0_fewestPairs 95 = .ok (.iconst 1, 1) := by decide +kernel
theorem dX0_fewestPairs_96 : decode cX0_fewestPairs 96 = .ok (.iadd, 1) := by decide +kernel
theorem dX0_fewestPairs_97 : decode cX0_fewestPairs 97 = .ok (.iload_n 1, 1) := by decide +kernel
theorem dX0_fewestPairs_98 : decode cX0_fewestPairs 98 = .ok (.invokevirtual 64, 3) := by decide +kernel
theorem dX0_fewestPairs_101 : decode cX0_fewestPairs 101 = .ok (.istore 5, 2) := by decide +kernel
theorem dX0_fewestPairs_103 : decode cX0_fewestPairs 103 = .ok (.aload_n 0, 1) := by decide +kernel
theorem dX0_fewestPairs_104 : decode cX0_fewestPairs 104 = .ok (.iload 4, 2) := by decide +kernel
theorem dX0_fewestPairs_106 : decode cX0_fewestPairs 106 = .ok (.iconst (-1), 1) := by decide +kernel
theorem dX0_fewestPairs_107 : decode cX0_fewestPairs 107 = .ok (.invokevirtual 75, 3) := by decide +kernel
theorem dX0_fewestPairs_110 : decode cX0_fewestPairs 110 = .ok (.iload 5, 2) := by decide +kernel
theorem dX0_fewestPairs_112 : decode cX0_fewestPairs 112 = .ok (.iload_n 2, 1) := by decide +kernel
theorem dX0_fewestPairs_113 : decode cX0_fewestPairs 113 = .ok (.if_icmp .ge 24, 3) := by decide +kernel
theorem dX0_fewestPairs_116 : decode cX0_fewestPairs 116 = .ok (.aload_n 0, 1) := by decide +kernel
theorem dX0_fewestPairs_117 : decode cX0_fewestPairs 117 = .ok (.getfield 15, 3) := by decide +kernel
theorem dX0_fewestPairs_120 : decode cX0_fewestPairs 120 = .ok (.invokevirtual 57, 3) := by decide +kernel
theorem dX0_fewestPairs_123 : decode cX0_fewestPairs 123 = .ok (.aload_n 0, 1) := by decide +kernel
theorem dX0_fewestPairs_124 : decode cX0_fewestPairs 124 = .ok (.iload 4, 2) := by decide +kernel
theorem dX0_fewestPairs_126 : decode cX0_fewestPairs 126 = .ok (.invokevirtual 68, 3) := by decide +kernel
theorem dX0_fewestPairs_129 : decode cX0_fewestPairs 129 = .ok (.aload_n 0, 1) := by decide +kernel
theorem dX0_fewestPairs_130 : decode cX0_fewestPairs 130 = .ok (.iload 5, 2) := by decide +kernel
theorem dX0_fewestPairs_132 : decode cX0_fewestPairs 132 = .ok (.invokevirtual 68, 3) := by decide +kernel
theorem dX0_fewestPairs_135 : decode cX0_fewestPairs 135 = .ok (.iconst 2, 1) := by decide +kernel
theorem dX0_fewestPairs_136 : decode cX0_fewestPairs 136 = .ok (.ireturn, 1) := by decide +kernel
theorem dX0_fewestPairs_137 : decode cX0_fewestPairs 137 = .ok (.iinc 4 1, 3) := by decide +kernel
theorem dX0_fewestPairs_140 : decode cX0_fewestPairs 140 = .ok (.goto (-70), 3) := by decide +kernel
theorem dX0_fewestPairs_143 : decode cX0_fewestPairs 143 = .ok (.bipush (-2), 2) := by decide +kernel
theorem dX0_fewestPairs_145 : decode cX0_fewestPairs 145 = .ok (.ireturn, 1) := by decide +kernel
set_option maxHeartbeats 4000000 in
set_option maxRecDepth 20000 in
theorem b_ac_fewestPairs_b70 {X : Cx} {d : Nat} (hX : Ok M_ac_fewestPairs (d + 5) X) {r : Int32 × Mem} (hr : RetI M_ac_fewestPairs X r.1 r.2) : ∀ (n : Nat) (x1 : Int32) (x2 : Int32) (x4 : Int32) (μ : Mem) (dy : Nat → Nat), f_ac_fewestPairs_b70 n x1 x2 x4 μ = some r → AW X 70 [(0, .ref (gA (xG X) 110)), (1, .int x1), (2, .int x2), (4, .int x4)] [] μ dy := by
  intro n
  induction n with
  | zero => intro x1 x2 x4 μ dy hf; exact nomatch hf
  | succ n ih =>
    intro x1 x2 x4 μ dy hf
    rw [f_ac_fewestPairs_b70] at hf
    refine r_iload hX dX0_fewestPairs_70 3 rfl ?_
    refine r_iload_n hX dX0_fewestPairs_72 2 rfl ?_
    refine r_icmp_ge hX 143 dX0_fewestPairs_73 rfl (fun hc13 => ?_) (fun hc13 => ?_)
    · rw [if_pos hc13] at hf
      refine r_bipush hX (-2 : Int32) dX0_fewestPairs_143 rfl ?_
      exact fin_I hf hr _ _ _ dX0_fewestPairs_145
    · rw [if_neg hc13] at hf
      refine r_aload_n hX dX0_fewestPairs_76 0 rfl ?_
      refine r_iload hX dX0_fewestPairs_77 3 rfl ?_
      obtain ⟨v16, μ14, h15, hf⟩ := bd2_eq hf
      refine r_callVI (Ok.le hX (by omega)) (c_ac_isInOrder (d := d)  h15) cv_X0_71 (w_110 _ _ _) rfl rfl (st := []) rfl rfl rfl dX0_fewestPairs_79 (fun dy => ?_)
      refine r_if_eq hX 137 dX0_fewestPairs_82 rfl (fun hc17 => ?_) (fun hc17 => ?_)
      · rw [if_pos hc17] at hf
        refine r_iinc hX (x4 + (1 : Int32)) dX0_fewestPairs_137 3 rfl rfl rfl (ls' := [(4, .int (x4 + (1 : Int32))), (0, .ref (gA (xG X) 110)), (1, .int x1), (2, .int x2)]) rfl ?_
        refine r_goto hX 70 dX0_fewestPairs_140 rfl ?_
        refine r_weak [1, 2, 3, 0] rfl ?_
        exact ih _ _ _ _ _ hf
      · rw [if_neg hc17] at hf
        refine r_aload_n hX dX0_fewestPairs_85 0 rfl ?_
        refine r_iload hX dX0_fewestPairs_86 3 rfl ?_
        refine r_iconst hX (1 : Int32) dX0_fewestPairs_88 rfl ?_
        obtain ⟨μ18, h19, hf⟩ := bd1_eq hf
        refine r_callVV (Ok.le hX (by omega)) (c_ac_turn (d := d)  h19) cv_X0_75 (w_110 _ _ _) rfl rfl (st := []) rfl rfl rfl dX0_fewestPairs_89 (fun dy => ?_)
        refine r_aload_n hX dX0_fewestPairs_92 0 rfl ?_
        refine r_iload hX dX0_fewestPairs_93 3 rfl ?_
        refine r_iconst hX (1 : Int32) dX0_fewestPairs_95 rfl ?_
        refine r_iadd hX dX0_fewestPairs_96 ?_
        refine r_iload_n hX dX0_fewestPairs_97 1 rfl ?_
        obtain ⟨v22, μ20, h21, hf⟩ := bd2_eq hf
        refine r_callVI (Ok.le hX (by omega)) (c_ac_nextPair (d := d)  h21) cv_X0_64 (w_110 _ _ _) rfl rfl (st := []) rfl rfl rfl dX0_fewestPairs_98 (fun dy => ?_)
        refine r_istore hX dX0_fewestPairs_101 rfl (ls' := [(5, .int v22), (0, .ref (gA (xG X) 110)), (1, .int x1), (2, .int x2), (4, .int x4)]) rfl ?_
        refine r_aload_n hX dX0_fewestPairs_103 1 rfl ?_
        refine r_iload hX dX0_fewestPairs_104 4 rfl ?_
        refine r_iconst hX (-1 : Int32) dX0_fewestPairs_106 rfl ?_
        obtain ⟨μ23, h24, hf⟩ := bd1_eq hf
        refine r_callVV (Ok.le hX (by omega)) (c_ac_turn (d := d)  h24) cv_X0_75 (w_110 _ _ _) rfl rfl (st := []) rfl rfl rfl dX0_fewestPairs_107 (fun dy => ?_)
        refine r_iload hX dX0_fewestPairs_110 0 rfl ?_
        refine r_iload_n hX dX0_fewestPairs_112 3 rfl ?_
        refine r_icmp_ge hX 137 dX0_fewestPairs_113 rfl (fun hc25 => ?_) (fun hc25 => ?_)
        · rw [if_pos hc25] at hf
          refine r_iinc hX (x4 + (1 : Int32)) dX0_fewestPairs_137 4 rfl rfl rfl (ls' := [(4, .int (x4 + (1 : Int32))), (5, .int v22), (0, .ref (gA (xG X) 110)), (1, .int x1), (2, .int x2)]) rfl ?_
          refine r_goto hX 70 dX0_fewestPairs_140 rfl ?_
          refine r_weak [2, 3, 4, 0] rfl ?_
          exact ih _ _ _ _ _ hf
        · rw [if_neg hc25] at hf
          refine r_aload_n hX dX0_fewestPairs_116 1 rfl ?_
          refine r_get hX fl_X0_15 (w_110 _ _ _) rfl dX0_fewestPairs_117 ?_
          obtain ⟨μ26, h27, hf⟩ := bd1_eq hf
          refine r_callVV (Ok.le hX (by omega)) (c_rw_clear (d := d)  h27) cv_X0_57 (w_2 _ _ _) rfl rfl (st := []) rfl rfl rfl dX0_fewestPairs_120 (fun dy => ?_)
          refine r_aload_n hX dX0_fewestPairs_123 1 rfl ?_
          refine r_iload hX dX0_fewestPairs_124 4 rfl ?_
          obtain ⟨μ28, h29, hf⟩ := bd1_eq hf
          refine r_callVV (Ok.le hX (by omega)) (c_ac_tellPair (d := d)  h29) cv_X0_68 (w_110 _ _ _) rfl rfl (st := []) rfl rfl rfl dX0_fewestPairs_126 (fun dy => ?_)
          refine r_aload_n hX dX0_fewestPairs_129 1 rfl ?_
          refine r_iload hX dX0_fewestPairs_130 0 rfl ?_
          obtain ⟨μ30, h31, hf⟩ := bd1_eq hf
          refine r_callVV (Ok.le hX (by omega)) (c_ac_tellPair (d := d)  h31) cv_X0_68 (w_110 _ _ _) rfl rfl (st := []) rfl rfl rfl dX0_fewestPairs_132 (fun dy => ?_)
          refine r_iconst hX (2 : Int32) dX0_fewestPairs_135 rfl ?_
          exact fin_I hf hr _ _ _ dX0_fewestPairs_136
set_option maxHeartbeats 4000000 in
set_option maxRecDepth 20000 in
theorem c_ac_fewestPairs {G : Gx} {d : Nat} {x1 : Int32} {μ : Mem} {r : Int32 × Mem} (hf : f_ac_fewestPairs x1 μ = some r) : Con G M_ac_fewestPairs (d + 5) [.ref (gA G 110), .int x1] μ (some (.int r.1), r.2) := by
  refine Con.ofI ⟨rfl, rfl, Nat.le_of_ble_eq_true rfl⟩ rfl rfl (fun X hG hX hr dy => ?_)
  subst hG
  show AW X 0 [(0, .ref (gA (xG X) 110)), (1, .int x1)] [] μ dy
  unfold f_ac_fewestPairs at hf
  refine r_aload_n hX dX0_fewestPairs_0 0 rfl ?_
  refine r_get hX fl_X0_24 (w_110 _ _ _) rfl dX0_fewestPairs_1 ?_
  obtain ⟨μ1, h2, hf⟩ := bd1_eq hf
  refine r_callVV (Ok.le hX (by omega)) (c_he_learn (d := d) (by decide) h2) cv_X0_41 (w_85 _ _ _) rfl rfl (st := []) rfl rfl rfl dX0_fewestPairs_4 (fun dy => ?_)
  refine r_aload_n hX dX0_fewestPairs_7 0 rfl ?_
  refine r_iload_n hX dX0_fewestPairs_8 1 rfl ?_
  obtain ⟨v5, μ3, h4, hf⟩ := bd2_eq hf
  refine r_callVI (Ok.le hX (by omega)) (c_ac_dayOfAll (d := d)  h4) cv_X0_48 (w_110 _ _ _) rfl rfl (st := []) rfl rfl rfl dX0_fewestPairs_9 (fun dy => ?_)
  refine r_iconst hX (-1 : Int32) dX0_fewestPairs_12 rfl ?_
  refine r_icmp_eq hX 25 dX0_fewestPairs_13 rfl (fun hc6 => ?_) (fun hc6 => ?_)
  · rw [if_pos hc6] at hf
    refine r_aload_n hX dX0_fewestPairs_25 0 rfl ?_
    refine r_get hX fl_X0_9 (w_110 _ _ _) rfl dX0_fewestPairs_26 ?_
    refine r_getN hX fl_X0_60 (w_4 _ _ _) rfl dX0_fewestPairs_29 ?_
    refine r_aload_n hX dX0_fewestPairs_32 0 rfl ?_
    refine r_get hX fl_X0_9 (w_110 _ _ _) rfl dX0_fewestPairs_33 ?_
    refine r_getN hX fl_X0_60 (w_4 _ _ _) rfl dX0_fewestPairs_36 ?_
    refine r_imul hX dX0_fewestPairs_39 ?_
    obtain ⟨v7, e8, hf⟩ := bnd_eq hf
    refine r_topI e8 ?_
    refine r_istore_n hX dX0_fewestPairs_40 rfl (ls' := [(2, .int v7), (0, .ref (gA (xG X) 110)), (1, .int x1)]) rfl ?_
    refine r_aload_n hX dX0_fewestPairs_41 1 rfl ?_
    refine r_iconst hX (0 : Int32) dX0_fewestPairs_42 rfl ?_
    refine r_iload_n hX dX0_fewestPairs_43 2 rfl ?_
    obtain ⟨v11, μ9, h10, hf⟩ := bd2_eq hf
    refine r_callVI (Ok.le hX (by omega)) (c_ac_nextPair (d := d)  h10) cv_X0_64 (w_110 _ _ _) rfl rfl (st := []) rfl rfl rfl dX0_fewestPairs_44 (fun dy => ?_)
    refine r_istore_n hX dX0_fewestPairs_47 rfl (ls' := [(3, .int v11), (2, .int v7), (0, .ref (gA (xG X) 110)), (1, .int x1)]) rfl ?_
    refine r_iload_n hX dX0_fewestPairs_48 0 rfl ?_
    refine r_iload_n hX dX0_fewestPairs_49 1 rfl ?_
    refine r_icmp_ge hX 67 dX0_fewestPairs_50 rfl (fun hc12 => ?_) (fun hc12 => ?_)
    · rw [if_pos hc12] at hf
      refine r_iconst hX (0 : Int32) dX0_fewestPairs_67 rfl ?_
      refine r_istore hX dX0_fewestPairs_68 rfl (ls' := [(4, .int (0 : Int32)), (3, .int v11), (2, .int v7), (0, .ref (gA (xG X) 110)), (1, .int x1)]) rfl ?_
      refine r_weak [3, 4, 2, 0] rfl ?_
      exact b_ac_fewestPairs_b70 hX hr FU _ _ _ _ _ hf
    · rw [if_neg hc12] at hf
      refine r_aload_n hX dX0_fewestPairs_53 2 rfl ?_
      refine r_get hX fl_X0_15 (w_110 _ _ _) rfl dX0_fewestPairs_54 ?_
      obtain ⟨μ32, h33, hf⟩ := bd1_eq hf
      refine r_callVV (Ok.le hX (by omega)) (c_rw_clear (d := d)  h33) cv_X0_57 (w_2 _ _ _) rfl rfl (st := []) rfl rfl rfl dX0_fewestPairs_57 (fun dy => ?_)
      refine r_aload_n hX dX0_fewestPairs_60 2 rfl ?_
      refine r_iload_n hX dX0_fewestPairs_61 0 rfl ?_
      obtain ⟨μ34, h35, hf⟩ := bd1_eq hf
      refine r_callVV (Ok.le hX (by omega)) (c_ac_tellPair (d := d)  h35) cv_X0_68 (w_110 _ _ _) rfl rfl (st := []) rfl rfl rfl dX0_fewestPairs_62 (fun dy => ?_)
      refine r_iconst hX (1 : Int32) dX0_fewestPairs_65 rfl ?_
      exact fin_I hf hr _ _ _ dX0_fewestPairs_66
  · rw [if_neg hc6] at hf
    refine r_aload_n hX dX0_fewestPairs_16 0 rfl ?_
    refine r_get hX fl_X0_15 (w_110 _ _ _) rfl dX0_fewestPairs_17 ?_
    obtain ⟨μ36, h37, hf⟩ := bd1_eq hf
    refine r_callVV (Ok.le hX (by omega)) (c_rw_clear (d := d)  h37) cv_X0_57 (w_2 _ _ _) rfl rfl (st := []) rfl rfl rfl dX0_fewestPairs_20 (fun dy => ?_)
    refine r_iconst hX (0 : Int32) dX0_fewestPairs_23 rfl ?_
    exact fin_I hf hr _ _ _ dX0_fewestPairs_24
theorem dX0_pairsAlone_0 : decode cX0_pairsAlone 0 = .ok (.aload_n 0, 1) := by decide +kernel
theorem dX0_pairsAlone_1 : decode cX0_pairsAlone 1 = .ok (.getfield 24, 3) := by decide +kernel
theorem dX0_pairsAlone_4 : decode cX0_pairsAlone 4 = .ok (.invokevirtual 41, 3) := by decide +kernel
theorem dX0_pairsAlone_7 : decode cX0_pairsAlone 7 = .ok (.iconst 0, 1) := by decide +kernel
theorem dX0_pairsAlone_8 : decode cX0_pairsAlone 8 = .ok (.istore_n 2, 1) := by decide +kernel
theorem dX0_pairsAlone_9 : decode cX0_pairsAlone 9 = .ok (.iconst 0, 1) := by decide +kernel
theorem dX0_pairsAlone_10 : decode cX0_pairsAlone 10 = .ok (.istore_n 3, 1) := by decide +kernel
theorem dX0_pairsAlone_11 : decode cX0_pairsAlone 11 = .ok (.iconst 0, 1) := by decide +kernel
theorem dX0_pairsAlone_12 : decode cX0_pairsAlone 12 = .ok (.istore 4, 2) := by decide +kernel
theorem dX0_pairsAlone_14 : decode cX0_pairsAlone 14 = .ok (.iload 4, 2) := by decide +kernel
theorem dX0_pairsAlone_16 : decode cX0_pairsAlone 16 = .ok (.aload_n 0, 1) := by decide +kernel
theorem dX0_pairsAlone_17 : decode cX0_pairsAlone 17 = .ok (.getfield 9, 3) := by decide +kernel
theorem dX0_pairsAlone_20 : decode cX0_pairsAlone 20 = .ok (.getfield 60, 3) := by decide +kernel
theorem dX0_pairsAlone_23 : decode cX0_pairsAlone 23 = .ok (.if_icmp .ge 79, 3) := by decide +kernel
theorem dX0_pairsAlone_26 : decode cX0_pairsAlone 26 = .ok (.iload 4, 2) := by decide +kernel
theorem dX0_pairsAlone_28 : decode cX0_pairsAlone 28 = .ok (.iconst 1, 1) := by decide +kernel
theorem dX0_pairsAlone_29 : decode cX0_pairsAlone 29 = .ok (.iadd, 1) := by decide +kernel
theorem dX0_pairsAlone_30 : decode cX0_pairsAlone 30 = .ok (.istore 5, 2) := by decide +kernel
theorem dX0_pairsAlone_32 : decode cX0_pairsAlone 32 = .ok (.iload 5, 2) := by decide +kernel
theorem dX0_pairsAlone_34 : decode cX0_pairsAlone 34 = .ok (.aload_n 0, 1) := by decide +kernel
theorem dX0_pairsAlone_35 : decode cX0_pairsAlone 35 = .ok (.getfield 9, 3) := by decide +kernel
theorem dX0_pairsAlone_38 : decode cX0_pairsAlone 38 = .ok (.getfield 60, 3) := by decide +kernel
theorem dX0_pairsAlone_41 : decode cX0_pairsAlone 41 = .ok (.if_icmp .ge 55, 3) := by decide +kernel
theorem dX0_pairsAlone_44 : decode cX0_pairsAlone 44 = .ok (.aload_n 0, 1) := by decide +kernel
theorem dX0_pairsAlone_45 : decode cX0_pairsAlone 45 = .ok (.iload 4, 2) := by decide +kernel
theorem dX0_pairsAlone_47 : decode cX0_pairsAlone 47 = .ok (.aload_n 0, 1) := by decide +kernel
theorem dX0_pairsAlone_48 : decode cX0_pairsAlone 48 = .ok (.getfield 9, 3) := by decide +kernel
theorem dX0_pairsAlone_51 : decode cX0_pairsAlone 51 = .ok (.getfield 60, 3) := by decide +kernel
theorem dX0_pairsAlone_54 : decode cX0_pairsAlone 54 = .ok (.imul, 1) := by decide +kernel
theorem dX0_pairsAlone_55 : decode cX0_pairsAlone 55 = .ok (.iload 5, 2) := by decide +kernel
theorem dX0_pairsAlone_57 : decode cX0_pairsAlone 57 = .ok (.iadd, 1) := by decide +kernel
theorem dX0_pairsAlone_58 : decode cX0_pairsAlone 58 = .ok (.iload_n 1, 1) := by decide +kernel
theorem dX0_pairsAlone_59 : decode cX0_pairsAlone 59 = .ok (.invokevirtual 79, 3) := by decide +kernel
theorem dX0_pairsAlone_62 : decode cX0_pairsAlone 62 = .ok (.ifCond .eq 28, 3) := by decide +kernel
theorem dX0_pairsAlone_65 : decode cX0_pairsAlone 65 = .ok (.iinc 2 1, 3) := by decide +kernel
theorem dX0_pairsAlone_68 : decode cX0_pairsAlone 68 = .ok (.iload_n 3, 1) := by decide +kernel
theorem dX0_pairsAlone_69 : decode cX0_pairsAlone 69 = .ok (.aload_n 0, 1) := by decide +kernel
theorem dX0_pairsAlone_70 : decode cX0_pairsAlone 70 = .ok (.getfield 9, 3) := by decide +kernel
theorem dX0_pairsAlone_73 : decode cX0_pairsAlone 73 = .ok (.iload 4, 2) := by decide +kernel
theorem dX0_pairsAlone_75 : decode cX0_pairsAlone 75 = .ok (.iload 5, 2) := by decide +kernel
theorem dX0_pairsAlone_77 : decode cX0_pairsAlone 77 = .ok (.invokevirtual 83, 3) := by decide +kernel
theorem dX0_pairsAlone_80 : decode cX0_pairsAlone 80 = .ok (.ifCond .eq 7, 3) := by decide +kernel
theorem dX0_pairsAlone_83 : decode cX0_pairsAlone 83 = .ok (.iconst 0, 1) := by decide +kernel
theorem dX0_pairsAlone_84 : decode cX0_pairsAlone 84 = .ok (.goto 4, 3) := by decide +kernel
theorem dX0_pairsAlone_87 : decode cX0_pairsAlone 87 = .ok (.iconst 1, 1) := by decide +kernel
theorem dX0_pairsAlone_88 : decode cX0_pairsAlone 88 = .ok (.iadd, 1) := by decide +kernel
theorem dX0_pairsAlone_89 : decode cX0_pairsAlone 89 = .ok (.istore_n 3, 1) := by decide +kernel
theorem dX0_pairsAlone_90 : decode cX0_pairsAlone 90 = .ok (.iinc 5 1, 3) := by decide +kernel
theorem dX0_pairsAlone_93 : decode cX0_pairsAlone 93 = .ok (.goto (-61), 3) := by decide +kernel
theorem dX0_pairsAlone_96 : decode cX0_pairsAlone 96 = .ok (.iinc 4 1, 3) := by decide +kernel
theorem dX0_pairsAlone_99 : decode cX0_pairsAlone 99 = .ok (.goto (-85), 3) := by decide +kernel
theorem dX0_pairsAlone_102 : decode cX0_pairsAlone 102 = .ok (.aload_n 0, 1) := by decide +kernel
theorem dX0_pairsAlone_103 : decode cX0_pairsAlone 103 = .ok (.getfield 15, 3) := by decide +kernel
theorem dX0_pairsAlone_106 : decode cX0_pairsAlone 106 = .ok (.iload_n 3, 1) := by decide +kernel
theorem dX0_pairsAlone_107 : decode cX0_pairsAlone 107 = .ok (.i2l, 1) := by decide +kernel
theorem dX0_pairsAlone_108 : decode cX0_pairsAlone 108 = .ok (.invokevirtual 51, 3) := by decide +kernel
theorem dX0_pairsAlone_111 : decode cX0_pairsAlone 111 = .ok (.iload_n 2, 1) := by decide +kernel
theorem dX0_pairsAlone_112 : decode cX0_pairsAlone 112 = .ok (.ireturn, 1) := by decide +kernel
set_option maxHeartbeats 4000000 in
set_option maxRecDepth 20000 in
theorem b_ac_pairsAlone_b32 {X : Cx} {d : Nat} (hX : Ok M_ac_pairsAlone (d + 4) X) {r : Int32 × Mem} (hr : RetI M_ac_pairsAlone X r.1 r.2) {k14 : Int32 → Int32 → Int32 → Int32 → Mem → Option (Int32 × Mem)} (hk14 : ∀ (x1 : Int32) (x2 : Int32) (x3 : Int32) (x4 : Int32) (μ : Mem) (dy : Nat → Nat), k14 x1 x2 x3 x4 μ = some r → AW X 14 [(0, .ref (gA (xG X) 110)), (1, .int x1), (2, .int x2), (3, .int x3), (4, .int x4)] [] μ dy) : ∀ (n : Nat) (x1 : Int32) (x2 : Int32) (x3 : Int32) (x4 : Int32) (x5 : Int32) (μ : Mem) (dy : Nat → Nat), f_ac_pairsAlone_b32 k14 n x1 x2 x3 x4 x5 μ = some r → AW X 32 [(0, .ref (gA (xG X) 110)), (1, .int x1), (2, .int x2), (3, .int x3), (4, .int x4), (5, .int x5)] [] μ dy := by
  intro n
  induction n with
  | zero => intro x1 x2 x3 x4 x5 μ dy hf; exact nomatch hf
  | succ n ih =>
    intro x1 x2 x3 x4 x5 μ dy hf
    rw [f_ac_pairsAlone_b32] at hf
    refine r_iload hX dX0_pairsAlone_32 5 rfl ?_
    refine r_aload_n hX dX0_pairsAlone_34 0 rfl ?_
    refine r_get hX fl_X0_9 (w_110 _ _ _) rfl dX0_pairsAlone_35 ?_
    refine r_getN hX fl_X0_60 (w_4 _ _ _) rfl dX0_pairsAlone_38 ?_
    refine r_icmp_ge hX 96 dX0_pairsAlone_41 rfl (fun hc6 => ?_) (fun hc6 => ?_)
    · rw [if_pos hc6] at hf
      refine r_iinc hX (x4 + (1 : Int32)) dX0_pairsAlone_96 4 rfl rfl rfl (ls' := [(4, .int (x4 + (1 : Int32))), (0, .ref (gA (xG X) 110)), (1, .int x1), (2, .int x2), (3, .int x3), (5, .int x5)]) rfl ?_
      refine r_goto hX 14 dX0_pairsAlone_99 rfl ?_
      refine r_weak [1, 2, 3, 4, 0] rfl ?_
      exact hk14 _ _ _ _ _ _ hf
    · rw [if_neg hc6] at hf
      refine r_aload_n hX dX0_pairsAlone_44 0 rfl ?_
      refine r_iload hX dX0_pairsAlone_45 4 rfl ?_
      refine r_aload_n hX dX0_pairsAlone_47 0 rfl ?_
      refine r_get hX fl_X0_9 (w_110 _ _ _) rfl dX0_pairsAlone_48 ?_
      refine r_getN hX fl_X0_60 (w_4 _ _ _) rfl dX0_pairsAlone_51 ?_
      refine r_imul hX dX0_pairsAlone_54 ?_
      refine r_iload hX dX0_pairsAlone_55 5 rfl ?_
      refine r_iadd hX dX0_pairsAlone_57 ?_
      refine r_iload_n hX dX0_pairsAlone_58 1 rfl ?_
      obtain ⟨v9, μ7, h8, hf⟩ := bd2_eq hf
      refine r_callVI (Ok.le hX (by omega)) (c_ac_doesIt (d := d)  h8) cv_X0_79 (w_110 _ _ _) rfl rfl (st := []) rfl rfl rfl dX0_pairsAlone_59 (fun dy => ?_)
      refine r_if_eq hX 90 dX0_pairsAlone_62 rfl (fun hc10 => ?_) (fun hc10 => ?_)
      · rw [if_pos hc10] at hf
        refine r_iinc hX (x5 + (1 : Int32)) dX0_pairsAlone_90 5 rfl rfl rfl (ls' := [(5, .int (x5 + (1 : Int32))), (0, .ref (gA (xG X) 110)), (1, .int x1), (2, .int x2), (3, .int x3), (4, .int x4)]) rfl ?_
        refine r_goto hX 32 dX0_pairsAlone_93 rfl ?_
        refine r_weak [1, 2, 3, 4, 5, 0] rfl ?_
        exact ih _ _ _ _ _ _ _ hf
      · rw [if_neg hc10] at hf
        refine r_iinc hX (x2 + (1 : Int32)) dX0_pairsAlone_65 2 rfl rfl rfl (ls' := [(2, .int (x2 + (1 : Int32))), (0, .ref (gA (xG X) 110)), (1, .int x1), (3, .int x3), (4, .int x4), (5, .int x5)]) rfl ?_
        refine r_iload_n hX dX0_pairsAlone_68 3 rfl ?_
        refine r_aload_n hX dX0_pairsAlone_69 1 rfl ?_
        refine r_get hX fl_X0_9 (w_110 _ _ _) rfl dX0_pairsAlone_70 ?_
        refine r_iload hX dX0_pairsAlone_73 4 rfl ?_
        refine r_iload hX dX0_pairsAlone_75 5 rfl ?_
        obtain ⟨v13, μ11, h12, hf⟩ := bd2_eq hf
        refine r_callVI (Ok.le hX (by omega)) (c_st_isPair (d := d)  h12) cv_X0_83 (w_4 _ _ _) rfl rfl (st := [.int x3]) rfl rfl rfl dX0_pairsAlone_77 (fun dy => ?_)
        obtain ⟨v14, e15, hf⟩ := bnd_eq hf
        have J16 : AW X 88 [(2, .int (x2 + (1 : Int32))), (0, .ref (gA (xG X) 110)), (1, .int x1), (3, .int x3), (4, .int x4), (5, .int x5)] [.int v14, .int x3] μ11 dy := by
          refine r_iadd hX dX0_pairsAlone_88 ?_
          refine r_istore_n hX dX0_pairsAlone_89 rfl (ls' := [(3, .int (x3 + v14)), (2, .int (x2 + (1 : Int32))), (0, .ref (gA (xG X) 110)), (1, .int x1), (4, .int x4), (5, .int x5)]) rfl ?_
          refine r_iinc hX (x5 + (1 : Int32)) dX0_pairsAlone_90 5 rfl rfl rfl (ls' := [(5, .int (x5 + (1 : Int32))), (3, .int (x3 + v14)), (2, .int (x2 + (1 : Int32))), (0, .ref (gA (xG X) 110)), (1, .int x1), (4, .int x4)]) rfl ?_
          refine r_goto hX 32 dX0_pairsAlone_93 rfl ?_
          refine r_weak [3, 4, 2, 1, 5, 0] rfl ?_
          exact ih _ _ _ _ _ _ _ hf
        refine r_if_eq hX 87 dX0_pairsAlone_80 rfl (fun hc17 => ?_) (fun hc17 => ?_)
        · refine r_iconst hX (1 : Int32) dX0_pairsAlone_87 rfl ?_
          exact r_topI (e15.trans (by rw [if_pos hc17])) J16
        · refine r_iconst hX (0 : Int32) dX0_pairsAlone_83 rfl ?_
          refine r_goto hX 88 dX0_pairsAlone_84 rfl ?_
          exact r_topI (e15.trans (by rw [if_neg hc17])) J16
set_option maxHeartbeats 4000000 in
set_option maxRecDepth 20000 in
theorem b_ac_pairsAlone_b14 {X : Cx} {d : Nat} (hX : Ok M_ac_pairsAlone (d + 4) X) {r : Int32 × Mem} (hr : RetI M_ac_pairsAlone X r.1 r.2) : ∀ (n : Nat) (x1 : Int32) (x2 : Int32) (x3 : Int32) (x4 : Int32) (μ : Mem) (dy : Nat → Nat), f_ac_pairsAlone_b14 n x1 x2 x3 x4 μ = some r → AW X 14 [(0, .ref (gA (xG X) 110)), (1, .int x1), (2, .int x2), (3, .int x3), (4, .int x4)] [] μ dy := by
  intro n
  induction n with
  | zero => intro x1 x2 x3 x4 μ dy hf; exact nomatch hf
  | succ n ih =>
    intro x1 x2 x3 x4 μ dy hf
    rw [f_ac_pairsAlone_b14] at hf
    refine r_iload hX dX0_pairsAlone_14 4 rfl ?_
    refine r_aload_n hX dX0_pairsAlone_16 0 rfl ?_
    refine r_get hX fl_X0_9 (w_110 _ _ _) rfl dX0_pairsAlone_17 ?_
    refine r_getN hX fl_X0_60 (w_4 _ _ _) rfl dX0_pairsAlone_20 ?_
    refine r_icmp_ge hX 102 dX0_pairsAlone_23 rfl (fun hc3 => ?_) (fun hc3 => ?_)
    · rw [if_pos hc3] at hf
      refine r_aload_n hX dX0_pairsAlone_102 0 rfl ?_
      refine r_get hX fl_X0_15 (w_110 _ _ _) rfl dX0_pairsAlone_103 ?_
      refine r_iload_n hX dX0_pairsAlone_106 3 rfl ?_
      refine r_i2l hX dX0_pairsAlone_107 ?_
      obtain ⟨μ4, h5, hf⟩ := bd1_eq hf
      refine r_callVV (Ok.le hX (by omega)) (c_rw_only (d := d)  h5) cv_X0_51 (w_2 _ _ _) rfl rfl (st := []) rfl rfl rfl dX0_pairsAlone_108 (fun dy => ?_)
      refine r_iload_n hX dX0_pairsAlone_111 2 rfl ?_
      exact fin_I hf hr _ _ _ dX0_pairsAlone_112
    · rw [if_neg hc3] at hf
      refine r_iload hX dX0_pairsAlone_26 4 rfl ?_
      refine r_iconst hX (1 : Int32) dX0_pairsAlone_28 rfl ?_
      refine r_iadd hX dX0_pairsAlone_29 ?_
      refine r_istore hX dX0_pairsAlone_30 rfl (ls' := [(5, .int (x4 + (1 : Int32))), (0, .ref (gA (xG X) 110)), (1, .int x1), (2, .int x2), (3, .int x3), (4, .int x4)]) rfl ?_
      refine r_weak [1, 2, 3, 4, 5, 0] rfl ?_
      exact b_ac_pairsAlone_b32 hX hr ih FU _ _ _ _ _ _ _ hf
set_option maxHeartbeats 4000000 in
set_option maxRecDepth 20000 in
theorem c_ac_pairsAlone {G : Gx} {d : Nat} {x1 : Int32} {μ : Mem} {r : Int32 × Mem} (hf : f_ac_pairsAlone x1 μ = some r) : Con G M_ac_pairsAlone (d + 4) [.ref (gA G 110), .int x1] μ (some (.int r.1), r.2) := by
  refine Con.ofI ⟨rfl, rfl, Nat.le_of_ble_eq_true rfl⟩ rfl rfl (fun X hG hX hr dy => ?_)
  subst hG
  show AW X 0 [(0, .ref (gA (xG X) 110)), (1, .int x1)] [] μ dy
  unfold f_ac_pairsAlone at hf
  refine r_aload_n hX dX0_pairsAlone_0 0 rfl ?_
  refine r_get hX fl_X0_24 (w_110 _ _ _) rfl dX0_pairsAlone_1 ?_
  obtain ⟨μ1, h2, hf⟩ := bd1_eq hf
  refine r_callVV (Ok.le hX (by omega)) (c_he_learn (d := d) (by decide) h2) cv_X0_41 (w_85 _ _ _) rfl rfl (st := []) rfl rfl rfl dX0_pairsAlone_4 (fun dy => ?_)
  refine r_iconst hX (0 : Int32) dX0_pairsAlone_7 rfl ?_
  refine r_istore_n hX dX0_pairsAlone_8 rfl (ls' := [(2, .int (0 : Int32)), (0, .ref (gA (xG X) 110)), (1, .int x1)]) rfl ?_
  refine r_iconst hX (0 : Int32) dX0_pairsAlone_9 rfl ?_
  refine r_istore_n hX dX0_pairsAlone_10 rfl (ls' := [(3, .int (0 : Int32)), (2, .int (0 : Int32)), (0, .ref (gA (xG X) 110)), (1, .int x1)]) rfl ?_
  refine r_iconst hX (0 : Int32) dX0_pairsAlone_11 rfl ?_
  refine r_istore hX dX0_pairsAlone_12 rfl (ls' := [(4, .int (0 : Int32)), (3, .int (0 : Int32)), (2, .int (0 : Int32)), (0, .ref (gA (xG X) 110)), (1, .int x1)]) rfl ?_
  refine r_weak [3, 4, 2, 1, 0] rfl ?_
  exact b_ac_pairsAlone_b14 hX hr FU _ _ _ _ _ _ hf
theorem dX1_after_0 : decode cX1_after 0 = .ok (.aload_n 0, 1) := by decide +kernel
theorem dX1_after_1 : decode cX1_after 1 = .ok (.getfield 64, 3) := by decide +kernel
theorem dX1_after_4 : decode cX1_after 4 = .ok (.aload_n 0, 1) := by decide +kernel
theorem dX1_after_5 : decode cX1_after 5 = .ok (.getfield 28, 3) := by decide +kernel
theorem dX1_after_8 : decode cX1_after 8 = .ok (.getfield 61, 3) := by decide +kernel
theorem dX1_after_11 : decode cX1_after 11 = .ok (.if_icmp .eq 7, 3) := by decide +kernel
theorem dX1_after_14 : decode cX1_after 14 = .ok (.aload_n 0, 1) := by decide +kernel
theorem dX1_after_15 : decode cX1_after 15 = .ok (.invokevirtual 84, 3) := by decide +kernel
theorem dX1_after_18 : decode cX1_after 18 = .ok (.aload_n 0, 1) := by decide +kernel
theorem dX1_after_19 : decode cX1_after 19 = .ok (.getfield 25, 3) := by decide +kernel
theorem dX1_after_22 : decode cX1_after 22 = .ok (.arraylength, 1) := by decide +kernel
theorem dX1_after_23 : decode cX1_after 23 = .ok (.aload_n 0, 1) := by decide +kernel
theorem dX1_after_24 : decode cX1_after 24 = .ok (.getfield 28, 3) := by decide +kernel
theorem dX1_after_27 : decode cX1_after 27 = .ok (.invokevirtual 87, 3) := by decide +kernel
theorem dX1_after_30 : decode cX1_after 30 = .ok (.if_icmp .gt 18, 3) := by decide +kernel
theorem dX1_after_33 : decode cX1_after 33 = .ok (.aload_n 0, 1) := by decide +kernel
theorem dX1_after_34 : decode cX1_after 34 = .ok (.aload_n 0, 1) := by decide +kernel
theorem dX1_after_35 : decode cX1_after 35 = .ok (.getfield 28, 3) := by decide +kernel
theorem dX1_after_38 : decode cX1_after 38 = .ok (.invokevirtual 87, 3) := by decide +kernel
theorem dX1_after_41 : decode cX1_after 41 = .ok (.iconst 1, 1) := by decide +kernel
theorem dX1_after_42 : decode cX1_after 42 = .ok (.iadd, 1) := by decide +kernel
theorem dX1_after_43 : decode cX1_after 43 = .ok (.newarray .int, 2) := by decide +kernel
theorem dX1_after_45 : decode cX1_after 45 = .ok (.putfield 25, 3) := by decide +kernel
theorem dX1_after_48 : decode cX1_after 48 = .ok (.aload_n 0, 1) := by decide +kernel
theorem dX1_after_49 : decode cX1_after 49 = .ok (.getfield 25, 3) := by decide +kernel
theorem dX1_after_52 : decode cX1_after 52 = .ok (.iload_n 1, 1) := by decide +kernel
theorem dX1_after_53 : decode cX1_after 53 = .ok (.iaload, 1) := by decide +kernel
theorem dX1_after_54 : decode cX1_after 54 = .ok (.istore_n 2, 1) := by decide +kernel
theorem dX1_after_55 : decode cX1_after 55 = .ok (.iload_n 2, 1) := by decide +kernel
theorem dX1_after_56 : decode cX1_after 56 = .ok (.bipush 14, 2) := by decide +kernel
theorem dX1_after_58 : decode cX1_after 58 = .ok (.iushr, 1) := by decide +kernel
theorem dX1_after_59 : decode cX1_after 59 = .ok (.aload_n 0, 1) := by decide +kernel
theorem dX1_after_60 : decode cX1_after 60 = .ok (.getfield 64, 3) := by decide +kernel
theorem dX1_after_63 : decode cX1_after 63 = .ok (.if_icmp .ne 9, 3) := by decide +kernel
theorem dX1_after_66 : decode cX1_after 66 = .ok (.iload_n 2, 1) := by decide +kernel
theorem dX1_after_67 : decode cX1_after 67 = .ok (.sipush 16383, 3) := by decide +kernel
theorem dX1_after_70 : decode cX1_after 70 = .ok (.iand, 1) := by decide +kernel
theorem dX1_after_71 : decode cX1_after 71 = .ok (.ireturn, 1) := by decide +kernel
theorem dX1_after_72 : decode cX1_after 72 = .ok (.aload_n 0, 1) := by decide +kernel
theorem dX1_after_73 : decode cX1_after 73 = .ok (.iload_n 1, 1) := by decide +kernel
theorem dX1_after_74 : decode cX1_after 74 = .ok (.invokevirtual 91, 3) := by decide +kernel
theorem dX1_after_77 : decode cX1_after 77 = .ok (.istore_n 3, 1) := by decide +kernel
theorem dX1_after_78 : decode cX1_after 78 = .ok (.aload_n 0, 1) := by decide +kernel
theorem dX1_after_79 : decode cX1_after 79 = .ok (.getfield 25, 3) := by decide +kernel
theorem dX1_after_82 : decode cX1_after 82 = .ok (.iload_n 1, 1) := by decide +kernel
theorem dX1_after_83 : decode cX1_after 83 = .ok (.aload_n 0, 1) := by decide +kernel
theorem dX1_after_84 : decode cX1_after 84 = .ok (.getfield 64, 3) := by decide +kernel
theorem dX1_after_87 : decode cX1_after 87 = .ok (.bipush 14, 2) := by decide +kernel
theorem dX1_after_89 : decode cX1_after 89 = .ok (.ishl, 1) := by decide +kernel
theorem dX1_after_90 : decode cX1_after 90 = .ok (.iload_n 3, 1) := by decide +kernel
theorem dX1_after_91 : decode cX1_after 91 = .ok (.ior, 1) := by decide +kernel
theorem dX1_after_92 : decode cX1_after 92 = .ok (.iastore, 1) := by decide +kernel
theorem dX1_after_93 : decode cX1_after 93 = .ok (.iload_n 3, 1) := by decide +kernel
theorem dX1_after_94 : decode cX1_after 94 = .ok (.ireturn, 1) := by decide +kernel
set_option maxHeartbeats 4000000 in
set_option maxRecDepth 20000 in
theorem b_he_after_b48 {X : Cx} {d : Nat} {t : Nat} (ht : t < 2) (hX : Ok M_he_after (d + 2) X) {r : Int32 × Mem} (hr : RetI M_he_after X r.1 r.2) (x1 : Int32) (μ : Mem) (dy : Nat → Nat) (hf : f_he_after_b48 t x1 μ = some r) : AW X 48 [(0, .ref (gA (xG X) (80 + 5 * t))), (1, .int x1)] [] μ dy := by
  unfold f_he_after_b48 at hf
  refine r_aload_n hX dX1_after_48 0 rfl ?_
  refine r_get hX fl_X1_25 (wHe_o ht) rfl dX1_after_49 ?_
  refine r_iload_n hX dX1_after_52 1 rfl ?_
  obtain ⟨b6, hf⟩ := chk_eq hf
  refine r_iald hX (wHe_known ht) (inb_in b6) dX1_after_53 ?_
  obtain ⟨v7, e8, hf⟩ := bnd_eq hf
  refine r_topI e8 ?_
  refine r_istore_n hX dX1_after_54 rfl (ls' := [(2, .int v7), (0, .ref (gA (xG X) (80 + 5 * t))), (1, .int x1)]) rfl ?_
  refine r_iload_n hX dX1_after_55 0 rfl ?_
  refine r_bipush hX (14 : Int32) dX1_after_56 rfl ?_
  refine r_iushr hX dX1_after_58 ?_
  refine r_aload_n hX dX1_after_59 1 rfl ?_
  refine r_get hX fl_X1_64 (wHe_o ht) rfl dX1_after_60 ?_
  refine r_icmp_ne hX 72 dX1_after_63 rfl (fun hc9 => ?_) (fun hc9 => ?_)
  · rw [if_neg hc9] at hf
    refine r_aload_n hX dX1_after_72 1 rfl ?_
    refine r_iload_n hX dX1_after_73 2 rfl ?_
    obtain ⟨v12, μ10, h11, hf⟩ := bd2_eq hf
    refine r_callVI (Ok.le hX (by omega)) (c_he_next (d := d) ht h11) cv_X1_91 (wHe_o ht) rfl rfl (st := []) rfl rfl rfl dX1_after_74 (fun dy => ?_)
    refine r_istore_n hX dX1_after_77 rfl (ls' := [(3, .int v12), (2, .int v7), (0, .ref (gA (xG X) (80 + 5 * t))), (1, .int x1)]) rfl ?_
    refine r_aload_n hX dX1_after_78 2 rfl ?_
    refine r_get hX fl_X1_25 (wHe_o ht) rfl dX1_after_79 ?_
    refine r_iload_n hX dX1_after_82 3 rfl ?_
    refine r_aload_n hX dX1_after_83 2 rfl ?_
    refine r_get hX fl_X1_64 (wHe_o ht) rfl dX1_after_84 ?_
    refine r_bipush hX (14 : Int32) dX1_after_87 rfl ?_
    refine r_ishl hX dX1_after_89 ?_
    refine r_iload_n hX dX1_after_90 0 rfl ?_
    refine r_ior hX dX1_after_91 ?_
    obtain ⟨b13, hf⟩ := chk_eq hf
    obtain ⟨μ14, e15, hf⟩ := bnd_eq hf
    refine r_iast hX (wHe_known ht) (inb_in b13) (sHe_known ht _ _) e15 rfl dX1_after_92 ?_
    refine r_iload_n hX dX1_after_93 0 rfl ?_
    exact fin_I hf hr _ _ _ dX1_after_94
  · rw [if_pos hc9] at hf
    refine r_iload_n hX dX1_after_66 0 rfl ?_
    refine r_sipush hX (16383 : Int32) dX1_after_67 rfl ?_
    refine r_iand hX dX1_after_70 ?_
    exact fin_I hf hr _ _ _ dX1_after_71
set_option maxHeartbeats 4000000 in
set_option maxRecDepth 20000 in
theorem b_he_after_b18 {X : Cx} {d : Nat} {t : Nat} (ht : t < 2) (hX : Ok M_he_after (d + 2) X) {r : Int32 × Mem} (hr : RetI M_he_after X r.1 r.2) (x1 : Int32) (μ : Mem) (dy : Nat → Nat) (hf : f_he_after_b18 t x1 μ = some r) : AW X 18 [(0, .ref (gA (xG X) (80 + 5 * t))), (1, .int x1)] [] μ dy := by
  unfold f_he_after_b18 at hf
  refine r_aload_n hX dX1_after_18 0 rfl ?_
  refine r_get hX fl_X1_25 (wHe_o ht) rfl dX1_after_19 ?_
  refine r_alen hX (wHe_known ht) rfl dX1_after_22 ?_
  refine r_aload_n hX dX1_after_23 0 rfl ?_
  refine r_get hX fl_X1_28 (wHe_o ht) rfl dX1_after_24 ?_
  obtain ⟨v4, μ2, h3, hf⟩ := bd2_eq hf
  refine r_callVI (Ok.le hX (by omega)) (c_st_everybody (d := d)  h3) cv_X1_87 (w_4 _ _ _) rfl rfl (st := [.int (Int32.ofNat ((μ.1 (vHe t 2) 0).toNatClampNeg))]) rfl rfl rfl dX1_after_27 (fun dy => ?_)
  refine r_icmp_gt hX 48 dX1_after_30 rfl (fun hc5 => ?_) (fun hc5 => ?_)
  · rw [if_pos hc5] at hf
    refine r_weak [0, 1] rfl ?_
    exact b_he_after_b48 ht hX hr _ _ _ hf
  · rw [if_neg hc5] at hf
    refine r_aload_n hX dX1_after_33 0 rfl ?_
    refine r_aload_n hX dX1_after_34 0 rfl ?_
    refine r_get hX fl_X1_28 (wHe_o ht) rfl dX1_after_35 ?_
    obtain ⟨v18, μ16, h17, hf⟩ := bd2_eq hf
    refine r_callVI (Ok.le hX (by omega)) (c_st_everybody (d := d)  h17) cv_X1_87 (w_4 _ _ _) rfl rfl (st := [.ref (gA (xG X) (80 + 5 * t))]) rfl rfl rfl dX1_after_38 (fun dy => ?_)
    refine r_iconst hX (1 : Int32) dX1_after_41 rfl ?_
    refine r_iadd hX dX1_after_42 ?_
    obtain ⟨b21, hf⟩ := chk_eq hf
    obtain ⟨μ19, e20, hf⟩ := bnd_eq hf
    refine r_newHe ht hX fl_X1_25 ft_X1_8 b21 e20 dX1_after_43 dX1_after_45 (fun dy => ?_)
    refine r_weak [0, 1] rfl ?_
    exact b_he_after_b48 ht hX hr _ _ _ hf
set_option maxHeartbeats 4000000 in
set_option maxRecDepth 20000 in
theorem c_he_after {G : Gx} {d : Nat} {t : Nat} (ht : t < 2) {x1 : Int32} {μ : Mem} {r : Int32 × Mem} (hf : f_he_after t x1 μ = some r) : Con G M_he_after (d + 2) [.ref (gA G (80 + 5 * t)), .int x1] μ (some (.int r.1), r.2) := by
  refine Con.ofI ⟨rfl, rfl, Nat.le_of_ble_eq_true rfl⟩ rfl rfl (fun X hG hX hr dy => ?_)
  subst hG
  show AW X 0 [(0, .ref (gA (xG X) (80 + 5 * t))), (1, .int x1)] [] μ dy
  unfold f_he_after at hf
  refine r_aload_n hX dX1_after_0 0 rfl ?_
  refine r_get hX fl_X1_64 (wHe_o ht) rfl dX1_after_1 ?_
  refine r_aload_n hX dX1_after_4 0 rfl ?_
  refine r_get hX fl_X1_28 (wHe_o ht) rfl dX1_after_5 ?_
  refine r_getN hX fl_X1_61 (w_4 _ _ _) rfl dX1_after_8 ?_
  refine r_icmp_eq hX 18 dX1_after_11 rfl (fun hc1 => ?_) (fun hc1 => ?_)
  · rw [if_pos hc1] at hf
    refine r_weak [0, 1] rfl ?_
    exact b_he_after_b18 ht hX hr _ _ _ hf
  · rw [if_neg hc1] at hf
    refine r_aload_n hX dX1_after_14 0 rfl ?_
    obtain ⟨μ22, h23, hf⟩ := bd1_eq hf
    refine r_callVV (Ok.le hX (by omega)) (c_he_learn (d := d) ht h23) cv_X1_84 (wHe_o ht) rfl rfl (st := []) rfl rfl rfl dX1_after_15 (fun dy => ?_)
    refine r_weak [0, 1] rfl ?_
    exact b_he_after_b18 ht hX hr _ _ _ hf
theorem dX1_later_0 : decode cX1_later 0 = .ok (.iload_n 1, 1) := by decide +kernel
theorem dX1_later_1 : decode cX1_later 1 = .ok (.istore_n 3, 1) := by decide +kernel
theorem dX1_later_2 : decode cX1_later 2 = .ok (.iconst 0, 1) := by decide +kernel
theorem dX1_later_3 : decode cX1_later 3 = .ok (.istore 4, 2) := by decide +kernel
theorem dX1_later_5 : decode cX1_later 5 = .ok (.iload 4, 2) := by decide +kernel
theorem dX1_later_7 : decode cX1_later 7 = .ok (.iload_n 2, 1) := by decide +kernel
theorem dX1_later_8 : decode cX1_later 8 = .ok (.if_icmp .ge 27, 3) := by decide +kernel
theorem dX1_later_11 : decode cX1_later 11 = .ok (.aload_n 0, 1) := by decide +kernel
theorem dX1_later_12 : decode cX1_later 12 = .ok (.iload_n 3, 1) := by decide +kernel
theorem dX1_later_13 : decode cX1_later 13 = .ok (.invokevirtual 95, 3) := by decide +kernel
theorem dX1_later_16 : decode cX1_later 16 = .ok (.istore 5, 2) := by decide +kernel
theorem dX1_later_18 : decode cX1_later 18 = .ok (.iload 5, 2) := by decide +kernel
theorem dX1_later_20 : decode cX1_later 20 = .ok (.iload_n 3, 1) := by decide +kernel
theorem dX1_later_21 : decode cX1_later 21 = .ok (.if_icmp .ne 5, 3) := by decide +kernel
theorem dX1_later_24 : decode cX1_later 24 = .ok (.iload_n 3, 1) := by decide +kernel
theorem dX1_later_25 : decode cX1_later 25 = .ok (.ireturn, 1) := by decide +kernel
theorem dX1_later_26 : decode cX1_later 26 = .ok (.iload 5, 2) := by decide +kernel
theorem dX1_later_28 : decode cX1_later 28 = .ok (.istore_n 3, 1) := by decide +kernel
theorem dX1_later_29 : decode cX1_later 29 = .ok (.iinc 4 1, 3) := by decide +kernel
theorem dX1_later_32 : decode cX1_later 32 = .ok (.goto (-27), 3) := by decide +kernel
theorem dX1_later_35 : decode cX1_later 35 = .ok (.iload_n 3, 1) := by decide +kernel
theorem dX1_later_36 : decode cX1_later 36 = .ok (.ireturn, 1) := by decide +kernel
set_option maxHeartbeats 4000000 in
set_option maxRecDepth 20000 in
theorem b_he_later_b5 {X : Cx} {d : Nat} {t : Nat} (ht : t < 2) (hX : Ok M_he_later (d + 3) X) {r : Int32 × Mem} (hr : RetI M_he_later X r.1 r.2) : ∀ (n : Nat) (x2 : Int32) (x3 : Int32) (x4 : Int32) (μ : Mem) (dy : Nat → Nat), f_he_later_b5 t n x2 x3 x4 μ = some r → AW X 5 [(0, .ref (gA (xG X) (80 + 5 * t))), (2, .int x2), (3, .int x3), (4, .int x4)] [] μ dy := by
  intro n
  induction n with
  | zero => intro x2 x3 x4 μ dy hf; exact nomatch hf
  | succ n ih =>
    intro x2 x3 x4 μ dy hf
    rw [f_he_later_b5] at hf
    refine r_iload hX dX1_later_5 3 rfl ?_
    refine r_iload_n hX dX1_later_7 1 rfl ?_
    refine r_icmp_ge hX 35 dX1_later_8 rfl (fun hc1 => ?_) (fun hc1 => ?_)
    · rw [if_pos hc1] at hf
      refine r_iload_n hX dX1_later_35 2 rfl ?_
      exact fin_I hf hr _ _ _ dX1_later_36
    · rw [if_neg hc1] at hf
      refine r_aload_n hX dX1_later_11 0 rfl ?_
      refine r_iload_n hX dX1_later_12 2 rfl ?_
      obtain ⟨v4, μ2, h3, hf⟩ := bd2_eq hf
      refine r_callVI (Ok.le hX (by omega)) (c_he_after (d := d) ht h3) cv_X1_95 (wHe_o ht) rfl rfl (st := []) rfl rfl rfl dX1_later_13 (fun dy => ?_)
      refine r_istore hX dX1_later_16 rfl (ls' := [(5, .int v4), (0, .ref (gA (xG X) (80 + 5 * t))), (2, .int x2), (3, .int x3), (4, .int x4)]) rfl ?_
      refine r_iload hX dX1_later_18 0 rfl ?_
      refine r_iload_n hX dX1_later_20 3 rfl ?_
      refine r_icmp_ne hX 26 dX1_later_21 rfl (fun hc5 => ?_) (fun hc5 => ?_)
      · rw [if_neg hc5] at hf
        refine r_iload hX dX1_later_26 0 rfl ?_
        refine r_istore_n hX dX1_later_28 rfl (ls' := [(3, .int v4), (5, .int v4), (0, .ref (gA (xG X) (80 + 5 * t))), (2, .int x2), (4, .int x4)]) rfl ?_
        refine r_iinc hX (x4 + (1 : Int32)) dX1_later_29 4 rfl rfl rfl (ls' := [(4, .int (x4 + (1 : Int32))), (3, .int v4), (5, .int v4), (0, .ref (gA (xG X) (80 + 5 * t))), (2, .int x2)]) rfl ?_
        refine r_goto hX 5 dX1_later_32 rfl ?_
        refine r_weak [3, 4, 1, 0] rfl ?_
        exact ih _ _ _ _ _ hf
      · rw [if_pos hc5] at hf
        refine r_iload_n hX dX1_later_24 3 rfl ?_
        exact fin_I hf hr _ _ _ dX1_later_25
set_option maxHeartbeats 4000000 in
set_option maxRecDepth 20000 in
theorem c_he_later {G : Gx} {d : Nat} {t : Nat} (ht : t < 2) {x1 : Int32} {x2 : Int32} {μ : Mem} {r : Int32 × Mem} (hf : f_he_later t x1 x2 μ = some r) : Con G M_he_later (d + 3) [.ref (gA G (80 + 5 * t)), .int x1, .int x2] μ (some (.int r.1), r.2) := by
  refine Con.ofI ⟨rfl, rfl, Nat.le_of_ble_eq_true rfl⟩ rfl rfl (fun X hG hX hr dy => ?_)
  subst hG
  show AW X 0 [(0, .ref (gA (xG X) (80 + 5 * t))), (1, .int x1), (2, .int x2)] [] μ dy
  unfold f_he_later at hf
  refine r_iload_n hX dX1_later_0 1 rfl ?_
  refine r_istore_n hX dX1_later_1 rfl (ls' := [(3, .int x1), (0, .ref (gA (xG X) (80 + 5 * t))), (1, .int x1), (2, .int x2)]) rfl ?_
  refine r_iconst hX (0 : Int32) dX1_later_2 rfl ?_
  refine r_istore hX dX1_later_3 rfl (ls' := [(4, .int (0 : Int32)), (3, .int x1), (0, .ref (gA (xG X) (80 + 5 * t))), (1, .int x1), (2, .int x2)]) rfl ?_
  refine r_weak [2, 4, 1, 0] rfl ?_
  exact b_he_later_b5 ht hX hr FU _ _ _ _ _ hf
theorem dX1_dayOf_0 : decode cX1_dayOf 0 = .ok (.iload_n 1, 1) := by decide +kernel
theorem dX1_dayOf_1 : decode cX1_dayOf 1 = .ok (.istore 4, 2) := by decide +kernel
theorem dX1_dayOf_3 : decode cX1_dayOf 3 = .ok (.iconst 0, 1) := by decide +kernel
theorem dX1_dayOf_4 : decode cX1_dayOf 4 = .ok (.istore 5, 2) := by decide +kernel
theorem dX1_dayOf_6 : decode cX1_dayOf 6 = .ok (.iload 5, 2) := by decide +kernel
theorem dX1_dayOf_8 : decode cX1_dayOf 8 = .ok (.iload_n 3, 1) := by decide +kernel
theorem dX1_dayOf_9 : decode cX1_dayOf 9 = .ok (.if_icmp .gt 41, 3) := by decide +kernel
theorem dX1_dayOf_12 : decode cX1_dayOf 12 = .ok (.iload 4, 2) := by decide +kernel
theorem dX1_dayOf_14 : decode cX1_dayOf 14 = .ok (.iload_n 2, 1) := by decide +kernel
theorem dX1_dayOf_15 : decode cX1_dayOf 15 = .ok (.iand, 1) := by decide +kernel
theorem dX1_dayOf_16 : decode cX1_dayOf 16 = .ok (.iload_n 2, 1) := by decide +kernel
theorem dX1_dayOf_17 : decode cX1_dayOf 17 = .ok (.if_icmp .ne 6, 3) := by decide +kernel
theorem dX1_dayOf_20 : decode cX1_dayOf 20 = .ok (.iload 5, 2) := by decide +kernel
theorem dX1_dayOf_22 : decode cX1_dayOf 22 = .ok (.ireturn, 1) := by decide +kernel
theorem dX1_dayOf_23 : decode cX1_dayOf 23 = .ok (.aload_n 0, 1) := by decide +kernel
theorem dX1_dayOf_24 : decode cX1_dayOf 24 = .ok (.iload 4, 2) := by decide +kernel
theorem dX1_dayOf_26 : decode cX1_dayOf 26 = .ok (.invokevirtual 95, 3) := by decide +kernel
theorem dX1_dayOf_29 : decode cX1_dayOf 29 = .ok (.istore 6, 2) := by decide +kernel
theorem dX1_dayOf_31 : decode cX1_dayOf 31 = .ok (.iload 6, 2) := by decide +kernel
theorem dX1_dayOf_33 : decode cX1_dayOf 33 = .ok (.iload 4, 2) := by decide +kernel
theorem dX1_dayOf_35 : decode cX1_dayOf 35 = .ok (.if_icmp .ne 5, 3) := by decide +kernel
theorem dX1_dayOf_38 : decode cX1_dayOf 38 = .ok (.iconst (-1), 1) := by decide +kernel
theorem dX1_dayOf_39 : decode cX1_dayOf 39 = .ok (.ireturn, 1) := by decide +kernel
theorem dX1_dayOf_40 : decode cX1_dayOf 40 = .ok (.iload 6, 2) := by decide +kernel
theorem dX1_dayOf_42 : decode cX1_dayOf 42 = .ok (.istore 4, 2) := by decide +kernel
theorem dX1_dayOf_44 : decode cX1_dayOf 44 = .ok (.iinc 5 1, 3) := by decide +kernel
theorem dX1_dayOf_47 : decode cX1_dayOf 47 = .ok (.goto (-41), 3) := by decide +kernel
theorem dX1_dayOf_50 : decode cX1_dayOf 50 = .ok (.iconst (-1), 1) := by decide +kernel
theorem dX1_dayOf_51 : decode cX1_dayOf 51 = .ok (.ireturn, 1) := by decide +kernel
set_option maxHeartbeats 4000000 in
set_option maxRecDepth 20000 in
theorem b_he_dayOf_b6 {X : Cx} {d : Nat} {t : Nat} (ht : t < 2) (hX : Ok M_he_dayOf (d + 3) X) {r : Int32 × Mem} (hr : RetI M_he_dayOf X r.1 r.2) : ∀ (n : Nat) (x2 : Int32) (x3 : Int32) (x4 : Int32) (x5 : Int32) (μ : Mem) (dy : Nat → Nat), f_he_dayOf_b6 t n x2 x3 x4 x5 μ = some r → AW X 6 [(0, .ref (gA (xG X) (80 + 5 * t))), (2, .int x2), (3, .int x3), (4, .int x4), (5, .int x5)] [] μ dy := by
  intro n
  induction n with
  | zero => intro x2 x3 x4 x5 μ dy hf; exact nomatch hf
  | succ n ih =>
    intro x2 x3 x4 x5 μ dy hf
    rw [f_he_dayOf_b6] at hf
    refine r_iload hX dX1_dayOf_6 4 rfl ?_
    refine r_iload_n hX dX1_dayOf_8 2 rfl ?_
    refine r_icmp_gt hX 50 dX1_dayOf_9 rfl (fun hc1 => ?_) (fun hc1 => ?_)
    · rw [if_pos hc1] at hf
      refine r_iconst hX (-1 : Int32) dX1_dayOf_50 rfl ?_
      exact fin_I hf hr _ _ _ dX1_dayOf_51
    · rw [if_neg hc1] at hf
      refine r_iload hX dX1_dayOf_12 3 rfl ?_
      refine r_iload_n hX dX1_dayOf_14 1 rfl ?_
      refine r_iand hX dX1_dayOf_15 ?_
      refine r_iload_n hX dX1_dayOf_16 1 rfl ?_
      refine r_icmp_ne hX 23 dX1_dayOf_17 rfl (fun hc2 => ?_) (fun hc2 => ?_)
      · rw [if_neg hc2] at hf
        refine r_aload_n hX dX1_dayOf_23 0 rfl ?_
        refine r_iload hX dX1_dayOf_24 3 rfl ?_
        obtain ⟨v5, μ3, h4, hf⟩ := bd2_eq hf
        refine r_callVI (Ok.le hX (by omega)) (c_he_after (d := d) ht h4) cv_X1_95 (wHe_o ht) rfl rfl (st := []) rfl rfl rfl dX1_dayOf_26 (fun dy => ?_)
        refine r_istore hX dX1_dayOf_29 rfl (ls' := [(6, .int v5), (0, .ref (gA (xG X) (80 + 5 * t))), (2, .int x2), (3, .int x3), (4, .int x4), (5, .int x5)]) rfl ?_
        refine r_iload hX dX1_dayOf_31 0 rfl ?_
        refine r_iload hX dX1_dayOf_33 4 rfl ?_
        refine r_icmp_ne hX 40 dX1_dayOf_35 rfl (fun hc6 => ?_) (fun hc6 => ?_)
        · rw [if_neg hc6] at hf
          refine r_iload hX dX1_dayOf_40 0 rfl ?_
          refine r_istore hX dX1_dayOf_42 rfl (ls' := [(4, .int v5), (6, .int v5), (0, .ref (gA (xG X) (80 + 5 * t))), (2, .int x2), (3, .int x3), (5, .int x5)]) rfl ?_
          refine r_iinc hX (x5 + (1 : Int32)) dX1_dayOf_44 5 rfl rfl rfl (ls' := [(5, .int (x5 + (1 : Int32))), (4, .int v5), (6, .int v5), (0, .ref (gA (xG X) (80 + 5 * t))), (2, .int x2), (3, .int x3)]) rfl ?_
          refine r_goto hX 6 dX1_dayOf_47 rfl ?_
          refine r_weak [3, 4, 5, 1, 0] rfl ?_
          exact ih _ _ _ _ _ _ hf
        · rw [if_pos hc6] at hf
          refine r_iconst hX (-1 : Int32) dX1_dayOf_38 rfl ?_
          exact fin_I hf hr _ _ _ dX1_dayOf_39
      · rw [if_pos hc2] at hf
        refine r_iload hX dX1_dayOf_20 4 rfl ?_
        exact fin_I hf hr _ _ _ dX1_dayOf_22
set_option maxHeartbeats 4000000 in
set_option maxRecDepth 20000 in
theorem c_he_dayOf {G : Gx} {d : Nat} {t : Nat} (ht : t < 2) {x1 : Int32} {x2 : Int32} {x3 : Int32} {μ : Mem} {r : Int32 × Mem} (hf : f_he_dayOf t x1 x2 x3 μ = some r) : Con G M_he_dayOf (d + 3) [.ref (gA G (80 + 5 * t)), .int x1, .int x2, .int x3] μ (some (.int r.1), r.2) := by
  refine Con.ofI ⟨rfl, rfl, Nat.le_of_ble_eq_true rfl⟩ rfl rfl (fun X hG hX hr dy => ?_)
  subst hG
  show AW X 0 [(0, .ref (gA (xG X) (80 + 5 * t))), (1, .int x1), (2, .int x2), (3, .int x3)] [] μ dy
  unfold f_he_dayOf at hf
  refine r_iload_n hX dX1_dayOf_0 1 rfl ?_
  refine r_istore hX dX1_dayOf_1 rfl (ls' := [(4, .int x1), (0, .ref (gA (xG X) (80 + 5 * t))), (1, .int x1), (2, .int x2), (3, .int x3)]) rfl ?_
  refine r_iconst hX (0 : Int32) dX1_dayOf_3 rfl ?_
  refine r_istore hX dX1_dayOf_4 rfl (ls' := [(5, .int (0 : Int32)), (4, .int x1), (0, .ref (gA (xG X) (80 + 5 * t))), (1, .int x1), (2, .int x2), (3, .int x3)]) rfl ?_
  refine r_weak [2, 4, 5, 1, 0] rfl ?_
  exact b_he_dayOf_b6 ht hX hr FU _ _ _ _ _ _ hf
theorem dJ7_fill_53178_0 : decode cJ7_fill_53178 0 = .ok (.iconst 0, 1) := by decide +kernel
theorem dJ7_fill_53178_1 : decode cJ7_fill_53178 1 = .ok (.istore_n 2, 1) := by decide +kernel
theorem dJ7_fill_53178_2 : decode cJ7_fill_53178 2 = .ok (.aload_n 0, 1) := by decide +kernel
theorem dJ7_fill_53178_3 : decode cJ7_fill_53178 3 = .ok (.arraylength, 1) := by decide +kernel
theorem dJ7_fill_53178_4 : decode cJ7_fill_53178 4 = .ok (.istore_n 3, 1) := by decide +kernel
theorem dJ7_fill_53178_5 : decode cJ7_fill_53178 5 = .ok (.iload_n 2, 1) := by decide +kernel
theorem dJ7_fill_53178_6 : decode cJ7_fill_53178 6 = .ok (.iload_n 3, 1) := by decide +kernel
theorem dJ7_fill_53178_7 : decode cJ7_fill_53178 7 = .ok (.if_icmp .ge 13, 3) := by decide +kernel
theorem dJ7_fill_53178_10 : decode cJ7_fill_53178 10 = .ok (.aload_n 0, 1) := by decide +kernel
theorem dJ7_fill_53178_11 : decode cJ7_fill_53178 11 = .ok (.iload_n 2, 1) := by decide +kernel
theorem dJ7_fill_53178_12 : decode cJ7_fill_53178 12 = .ok (.iload_n 1, 1) := by decide +kernel
theorem dJ7_fill_53178_13 : decode cJ7_fill_53178 13 = .ok (.iastore, 1) := by decide +kernel
theorem dJ7_fill_53178_14 : decode cJ7_fill_53178 14 = .ok (.iinc 2 1, 3) := by decide +kernel
theorem dJ7_fill_53178_17 : decode cJ7_fill_53178 17 = .ok (.goto (-12), 3) := by decide +kernel
theorem dJ7_fill_53178_20 : decode cJ7_fill_53178 20 = .ok (.return_, 1) := by decide +kernel
set_option maxHeartbeats 4000000 in
set_option maxRecDepth 20000 in
theorem b_jd_fill_b5 {X : Cx} {d : Nat} (hX : Ok M_jd_fill (d + 0) X) {r : Mem} (hr : RetV M_jd_fill X r) : ∀ (n : Nat) (x1 : Int32) (x2 : Int32) (x3 : Int32) (μ : Mem) (dy : Nat → Nat), f_jd_fill_b5 n x1 x2 x3 μ = some r → AW X 5 [(0, .ref (gA (xG X) 109)), (1, .int x1), (2, .int x2), (3, .int x3)] [] μ dy := by
  intro n
  induction n with
  | zero => intro x1 x2 x3 μ dy hf; exact nomatch hf
  | succ n ih =>
    intro x1 x2 x3 μ dy hf
    rw [f_jd_fill_b5] at hf
    refine r_iload_n hX dJ7_fill_53178_5 2 rfl ?_
    refine r_iload_n hX dJ7_fill_53178_6 3 rfl ?_
    refine r_icmp_ge hX 20 dJ7_fill_53178_7 rfl (fun hc1 => ?_) (fun hc1 => ?_)
    · rw [if_pos hc1] at hf
      exact fin_V hf hr _ _ _ dJ7_fill_53178_20
    · rw [if_neg hc1] at hf
      refine r_aload_n hX dJ7_fill_53178_10 0 rfl ?_
      refine r_iload_n hX dJ7_fill_53178_11 2 rfl ?_
      refine r_iload_n hX dJ7_fill_53178_12 1 rfl ?_
      obtain ⟨b2, hf⟩ := chk_eq hf
      obtain ⟨μ3, e4, hf⟩ := bnd_eq hf
      refine r_iast hX (w_109 _ _ _) (inb_in b2) (s_109 _ _ _ _ _) e4 rfl dJ7_fill_53178_13 ?_
      refine r_iinc hX (x2 + (1 : Int32)) dJ7_fill_53178_14 2 rfl rfl rfl (ls' := [(2, .int (x2 + (1 : Int32))), (0, .ref (gA (xG X) 109)), (1, .int x1), (3, .int x3)]) rfl ?_
      refine r_goto hX 5 dJ7_fill_53178_17 rfl ?_
      refine r_weak [1, 2, 0, 3] rfl ?_
      exact ih _ _ _ _ _ hf
set_option maxHeartbeats 4000000 in
set_option maxRecDepth 20000 in
theorem c_jd_fill {G : Gx} {d : Nat} {x1 : Int32} {μ : Mem} {r : Mem} (hf : f_jd_fill x1 μ = some r) : Con G M_jd_fill (d + 0) [.ref (gA G 109), .int x1] μ (none, r) := by
  refine Con.ofV ⟨rfl, rfl, Nat.le_of_ble_eq_true rfl⟩ rfl (fun X hG hX hr dy => ?_)
  subst hG
  show AW X 0 [(0, .ref (gA (xG X) 109)), (1, .int x1)] [] μ dy
  unfold f_jd_fill at hf
  refine r_iconst hX (0 : Int32) dJ7_fill_53178_0 rfl ?_
  refine r_istore_n hX dJ7_fill_53178_1 rfl (ls' := [(2, .int (0 : Int32)), (0, .ref (gA (xG X) 109)), (1, .int x1)]) rfl ?_
  refine r_aload_n hX dJ7_fill_53178_2 1 rfl ?_
  refine r_alen hX (w_109 _ _ _) rfl dJ7_fill_53178_3 ?_
  refine r_istore_n hX dJ7_fill_53178_4 rfl (ls' := [(3, .int (Int32.ofNat 2)), (2, .int (0 : Int32)), (0, .ref (gA (xG X) 109)), (1, .int x1)]) rfl ?_
  refine r_weak [2, 3, 1, 0] rfl ?_
  exact b_jd_fill_b5 hX hr FU _ _ _ _ _ hf
theorem dX2_begin_0 : decode cX2_begin 0 = .ok (.aload_n 0, 1) := by decide +kernel
theorem dX2_begin_1 : decode cX2_begin 1 = .ok (.iconst 1, 1) := by decide +kernel
theorem dX2_begin_2 : decode cX2_begin 2 = .ok (.iload_n 1, 1) := by decide +kernel
theorem dX2_begin_3 : decode cX2_begin 3 = .ok (.ishl, 1) := by decide +kernel
theorem dX2_begin_4 : decode cX2_begin 4 = .ok (.putfield 15, 3) := by decide +kernel
theorem dX2_begin_7 : decode cX2_begin 7 = .ok (.aload_n 0, 1) := by decide +kernel
theorem dX2_begin_8 : decode cX2_begin 8 = .ok (.getfield 11, 3) := by decide +kernel
theorem dX2_begin_11 : decode cX2_begin 11 = .ok (.arraylength, 1) := by decide +kernel
theorem dX2_begin_12 : decode cX2_begin 12 = .ok (.bipush 7, 2) := by decide +kernel
theorem dX2_begin_14 : decode cX2_begin 14 = .ok (.aload_n 0, 1) := by decide +kernel
theorem dX2_begin_15 : decode cX2_begin 15 = .ok (.getfield 15, 3) := by decide +kernel
theorem dX2_begin_18 : decode cX2_begin 18 = .ok (.imul, 1) := by decide +kernel
theorem dX2_begin_19 : decode cX2_begin 19 = .ok (.if_icmp .ge 21, 3) := by decide +kernel
theorem dX2_begin_22 : decode cX2_begin 22 = .ok (.aload_n 0, 1) := by decide +kernel
theorem dX2_begin_23 : decode cX2_begin 23 = .ok (.bipush 7, 2) := by decide +kernel
theorem dX2_begin_25 : decode cX2_begin 25 = .ok (.aload_n 0, 1) := by decide +kernel
theorem dX2_begin_26 : decode cX2_begin 26 = .ok (.getfield 15, 3) := by decide +kernel
theorem dX2_begin_29 : decode cX2_begin 29 = .ok (.imul, 1) := by decide +kernel
theorem dX2_begin_30 : decode cX2_begin 30 = .ok (.newarray .int, 2) := by decide +kernel
theorem dX2_begin_32 : decode cX2_begin 32 = .ok (.putfield 11, 3) := by decide +kernel
theorem dX2_begin_35 : decode cX2_begin 35 = .ok (.aload_n 0, 1) := by decide +kernel
theorem dX2_begin_36 : decode cX2_begin 36 = .ok (.iconst 0, 1) := by decide +kernel
theorem dX2_begin_37 : decode cX2_begin 37 = .ok (.putfield 19, 3) := by decide +kernel
theorem dX2_begin_40 : decode cX2_begin 40 = .ok (.aload_n 0, 1) := by decide +kernel
theorem dX2_begin_41 : decode cX2_begin 41 = .ok (.getfield 19, 3) := by decide +kernel
theorem dX2_begin_44 : decode cX2_begin 44 = .ok (.ldc 22, 2) := by decide +kernel
theorem dX2_begin_46 : decode cX2_begin 46 = .ok (.if_icmp .ne 16, 3) := by decide +kernel
theorem dX2_begin_49 : decode cX2_begin 49 = .ok (.aload_n 0, 1) := by decide +kernel
theorem dX2_begin_50 : decode cX2_begin 50 = .ok (.getfield 11, 3) := by decide +kernel
theorem dX2_begin_53 : decode cX2_begin 53 = .ok (.iconst 0, 1) := by decide +kernel
theorem dX2_begin_54 : decode cX2_begin 54 = .ok (.invokestatic 23, 3) := by decide +kernel
theorem dX2_begin_57 : decode cX2_begin 57 = .ok (.aload_n 0, 1) := by decide +kernel
theorem dX2_begin_58 : decode cX2_begin 58 = .ok (.iconst 0, 1) := by decide +kernel
theorem dX2_begin_59 : decode cX2_begin 59 = .ok (.putfield 19, 3) := by decide +kernel
theorem dX2_begin_62 : decode cX2_begin 62 = .ok (.aload_n 0, 1) := by decide +kernel
theorem dX2_begin_63 : decode cX2_begin 63 = .ok (.dup, 1) := by decide +kernel
theorem dX2_begin_64 : decode cX2_begin 64 = .ok (.getfield 19, 3) := by decide +kernel
theorem dX2_begin_67 : decode cX2_begin 67 = .ok (.iconst 1, 1) := by decide +kernel
theorem dX2_begin_68 : decode cX2_begin 68 = .ok (.iadd, 1) := by decide +kernel
theorem dX2_begin_69 : decode cX2_begin 69 = .ok (.putfield 19, 3) := by decide +kernel
theorem dX2_begin_72 : decode cX2_begin 72 = .ok (.return_, 1) := by decide +kernel
set_option maxHeartbeats 4000000 in
set_option maxRecDepth 20000 in
theorem b_me_begin_b62 {X : Cx} {d : Nat} (hX : Ok M_me_begin (d + 1) X) {r : Mem} (hr : RetV M_me_begin X r)  (μ : Mem) (dy : Nat → Nat) (hf : f_me_begin_b62  μ = some r) : AW X 62 [(0, .ref (gA (xG X) 90))] [] μ dy := by
  unfold f_me_begin_b62 at hf
  refine r_aload_n hX dX2_begin_62 0 rfl ?_
  refine r_dup hX dX2_begin_63 rfl ?_
  refine r_get hX fl_X2_19 (w_90 _ _ _) rfl dX2_begin_64 ?_
  refine r_iconst hX (1 : Int32) dX2_begin_67 rfl ?_
  refine r_iadd hX dX2_begin_68 ?_
  obtain ⟨μ5, e6, hf⟩ := bnd_eq hf
  refine r_put hX fl_X2_19 ft_X2_2 (w_90 _ _ _) rfl rfl rfl (s_90_2 _ _ _ _) e6 rfl dX2_begin_69 ?_
  exact fin_V hf hr _ _ _ dX2_begin_72
set_option maxHeartbeats 4000000 in
set_option maxRecDepth 20000 in
theorem b_me_begin_b40 {X : Cx} {d : Nat} (hX : Ok M_me_begin (d + 1) X) {r : Mem} (hr : RetV M_me_begin X r)  (μ : Mem) (dy : Nat → Nat) (hf : f_me_begin_b40  μ = some r) : AW X 40 [(0, .ref (gA (xG X) 90))] [] μ dy := by
  unfold f_me_begin_b40 at hf
  refine r_aload_n hX dX2_begin_40 0 rfl ?_
  refine r_get hX fl_X2_19 (w_90 _ _ _) rfl dX2_begin_41 ?_
  refine r_ldc hX dX2_begin_44 kc_X2_22 ?_
  refine r_icmp_ne hX 62 dX2_begin_46 rfl (fun hc4 => ?_) (fun hc4 => ?_)
  · rw [if_neg hc4] at hf
    refine r_weak [0] rfl ?_
    exact b_me_begin_b62 hX hr _ _ hf
  · rw [if_pos hc4] at hf
    refine r_aload_n hX dX2_begin_49 0 rfl ?_
    refine r_get hX fl_X2_11 (w_90 _ _ _) rfl dX2_begin_50 ?_
    refine r_iconst hX (0 : Int32) dX2_begin_53 rfl ?_
    exact nomatch hf
set_option maxHeartbeats 4000000 in
set_option maxRecDepth 20000 in
theorem c_me_begin {G : Gx} {d : Nat} {x1 : Int32} {μ : Mem} {r : Mem} (hf : f_me_begin x1 μ = some r) : Con G M_me_begin (d + 1) [.ref (gA G 90), .int x1] μ (none, r) := by
  refine Con.ofV ⟨rfl, rfl, Nat.le_of_ble_eq_true rfl⟩ rfl (fun X hG hX hr dy => ?_)
  subst hG
  show AW X 0 [(0, .ref (gA (xG X) 90)), (1, .int x1)] [] μ dy
  unfold f_me_begin at hf
  refine r_aload_n hX dX2_begin_0 0 rfl ?_
  refine r_iconst hX (1 : Int32) dX2_begin_1 rfl ?_
  refine r_iload_n hX dX2_begin_2 1 rfl ?_
  refine r_ishl hX dX2_begin_3 ?_
  obtain ⟨μ1, e2, hf⟩ := bnd_eq hf
  refine r_put hX fl_X2_15 ft_X2_1 (w_90 _ _ _) rfl rfl rfl (s_90_1 _ _ _ _) e2 rfl dX2_begin_4 ?_
  refine r_aload_n hX dX2_begin_7 0 rfl ?_
  refine r_get hX fl_X2_11 (w_90 _ _ _) rfl dX2_begin_8 ?_
  refine r_alen hX (w_137 _ _ _) rfl dX2_begin_11 ?_
  refine r_bipush hX (7 : Int32) dX2_begin_12 rfl ?_
  refine r_aload_n hX dX2_begin_14 0 rfl ?_
  refine r_get hX fl_X2_15 (w_90 _ _ _) rfl dX2_begin_15 ?_
  refine r_imul hX dX2_begin_18 ?_
  refine r_icmp_ge hX 40 dX2_begin_19 rfl (fun hc3 => ?_) (fun hc3 => ?_)
  · rw [if_pos hc3] at hf
    refine r_weak [0] rfl ?_
    exact b_me_begin_b40 hX hr _ _ hf
  · rw [if_neg hc3] at hf
    refine r_aload_n hX dX2_begin_22 0 rfl ?_
    refine r_bipush hX (7 : Int32) dX2_begin_23 rfl ?_
    refine r_aload_n hX dX2_begin_25 0 rfl ?_
    refine r_get hX fl_X2_15 (w_90 _ _ _) rfl dX2_begin_26 ?_
    refine r_imul hX dX2_begin_29 ?_
    obtain ⟨b9, hf⟩ := chk_eq hf
    obtain ⟨μ7, e8, hf⟩ := bnd_eq hf
    refine r_newMe hX fl_X2_11 ft_X2_0 b9 e8 dX2_begin_30 dX2_begin_32 (fun dy => ?_)
    refine r_aload_n hX dX2_begin_35 0 rfl ?_
    refine r_iconst hX (0 : Int32) dX2_begin_36 rfl ?_
    obtain ⟨μ10, e11, hf⟩ := bnd_eq hf
    refine r_put hX fl_X2_19 ft_X2_2 (w_90 _ _ _) rfl rfl rfl (s_90_2 _ _ _ _) e11 rfl dX2_begin_37 ?_
    refine r_weak [0] rfl ?_
    exact b_me_begin_b40 hX hr _ _ hf
