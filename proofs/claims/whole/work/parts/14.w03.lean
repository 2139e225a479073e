theorem dX6_readSum_0 : decode cX6_readSum 0 = .ok (.aload_n 0, 1) := by decide +kernel
theorem dX6_readSum_1 : decode cX6_readSum 1 = .ok (.iload_n 1, 1) := by decide +kernel
theorem dX6_readSum_2 : decode cX6_readSum 2 = .ok (.invokevirtual 59, 3) := by decide +kernel
theorem dX6_readSum_5 : decode cX6_readSum 5 = .ok (.ifCond .ne 5, 3) := by decide +kernel
theorem dX6_readSum_8 : decode cX6_readSum 8 = .ok (.iconst 0, 1) := by decide +kernel
theorem dX6_readSum_9 : decode cX6_readSum 9 = .ok (.ireturn, 1) := by decide +kernel
theorem dX6_readSum_10 : decode cX6_readSum 10 = .ok (.aload_n 0, 1) := by decide +kernel
theorem dX6_readSum_11 : decode cX6_readSum 11 = .ok (.getfield 36, 3) := by decide +kernel
theorem dX6_readSum_14 : decode cX6_readSum 14 = .ok (.aload_n 0, 1) := by decide +kernel
theorem dX6_readSum_15 : decode cX6_readSum 15 = .ok (.getfield 32, 3) := by decide +kernel
theorem dX6_readSum_18 : decode cX6_readSum 18 = .ok (.if_icmp .ge 54, 3) := by decide +kernel
theorem dX6_readSum_21 : decode cX6_readSum 21 = .ok (.aload_n 0, 1) := by decide +kernel
theorem dX6_readSum_22 : decode cX6_readSum 22 = .ok (.ldc 62, 2) := by decide +kernel
theorem dX6_readSum_24 : decode cX6_readSum 24 = .ok (.invokevirtual 51, 3) := by decide +kernel
theorem dX6_readSum_27 : decode cX6_readSum 27 = .ok (.ifCond .eq 45, 3) := by decide +kernel
theorem dX6_readSum_30 : decode cX6_readSum 30 = .ok (.aload_n 0, 1) := by decide +kernel
theorem dX6_readSum_31 : decode cX6_readSum 31 = .ok (.getfield 22, 3) := by decide +kernel
theorem dX6_readSum_34 : decode cX6_readSum 34 = .ok (.aload_n 0, 1) := by decide +kernel
theorem dX6_readSum_35 : decode cX6_readSum 35 = .ok (.dup, 1) := by decide +kernel
theorem dX6_readSum_36 : decode cX6_readSum 36 = .ok (.getfield 36, 3) := by decide +kernel
theorem dX6_readSum_39 : decode cX6_readSum 39 = .ok (.dup_x1, 1) := by decide +kernel
theorem dX6_readSum_40 : decode cX6_readSum 40 = .ok (.iconst 1, 1) := by decide +kernel
theorem dX6_readSum_41 : decode cX6_readSum 41 = .ok (.iadd, 1) := by decide +kernel
theorem dX6_readSum_42 : decode cX6_readSum 42 = .ok (.putfield 36, 3) := by decide +kernel
theorem dX6_readSum_45 : decode cX6_readSum 45 = .ok (.iaload, 1) := by decide +kernel
theorem dX6_readSum_46 : decode cX6_readSum 46 = .ok (.istore_n 2, 1) := by decide +kernel
theorem dX6_readSum_47 : decode cX6_readSum 47 = .ok (.aload_n 0, 1) := by decide +kernel
theorem dX6_readSum_48 : decode cX6_readSum 48 = .ok (.iload_n 1, 1) := by decide +kernel
theorem dX6_readSum_49 : decode cX6_readSum 49 = .ok (.invokevirtual 59, 3) := by decide +kernel
theorem dX6_readSum_52 : decode cX6_readSum 52 = .ok (.ifCond .ne 5, 3) := by decide +kernel
theorem dX6_readSum_55 : decode cX6_readSum 55 = .ok (.iconst 0, 1) := by decide +kernel
theorem dX6_readSum_56 : decode cX6_readSum 56 = .ok (.ireturn, 1) := by decide +kernel
theorem dX6_readSum_57 : decode cX6_readSum 57 = .ok (.aload_n 0, 1) := by decide +kernel
theorem dX6_readSum_58 : decode cX6_readSum 58 = .ok (.getfield 12, 3) := by decide +kernel
theorem dX6_readSum_61 : decode cX6_readSum 61 = .ok (.sipush 2000, 3) := by decide +kernel
theorem dX6_readSum_64 : decode cX6_readSum 64 = .ok (.iload_n 2, 1) := by decide +kernel
theorem dX6_readSum_65 : decode cX6_readSum 65 = .ok (.iadd, 1) := by decide +kernel
theorem dX6_readSum_66 : decode cX6_readSum 66 = .ok (.invokevirtual 55, 3) := by decide +kernel
theorem dX6_readSum_69 : decode cX6_readSum 69 = .ok (.goto (-59), 3) := by decide +kernel
theorem dX6_readSum_72 : decode cX6_readSum 72 = .ok (.iconst 1, 1) := by decide +kernel
theorem dX6_readSum_73 : decode cX6_readSum 73 = .ok (.ireturn, 1) := by decide +kernel
set_option maxHeartbeats 4000000 in
set_option maxRecDepth 20000 in
theorem b_rr_readSum_b10 {X : Cx} {d : Nat} {R : Int32 → Mem → Option (Int32 × Mem)} (hR : ∀ (x1 : Int32) (μ : Mem) (r : Int32 × Mem), R x1 μ = some r → Con (xG X) M_rr_readThing (d + 9) [.ref (gA (xG X) 78), .int x1] μ (some (.int r.1), r.2)) (hX : Ok M_rr_readSum (d + 12) X) {r : Int32 × Mem} (hr : RetZ M_rr_readSum X r.1 r.2) : ∀ (n : Nat) (x1 : Int32) (μ : Mem) (dy : Nat → Nat), f_rr_readSum_b10 R n x1 μ = some r → AW X 10 [(0, .ref (gA (xG X) 78)), (1, .int x1)] [] μ dy := by
  intro n
  induction n with
  | zero => intro x1 μ dy hf; exact nomatch hf
  | succ n ih =>
    intro x1 μ dy hf
    rw [f_rr_readSum_b10] at hf
    refine r_aload_n hX dX6_readSum_10 0 rfl ?_
    refine r_get hX fl_X6_36 (w_78 _ _ _) rfl dX6_readSum_11 ?_
    refine r_aload_n hX dX6_readSum_14 0 rfl ?_
    refine r_get hX fl_X6_32 (w_78 _ _ _) rfl dX6_readSum_15 ?_
    refine r_icmp_ge hX 72 dX6_readSum_18 rfl (fun hc5 => ?_) (fun hc5 => ?_)
    · rw [if_pos hc5] at hf
      refine r_iconst hX (1 : Int32) dX6_readSum_72 rfl ?_
      obtain ⟨b6, hf⟩ := chk_eq hf
      exact fin_Z hf hr _ _ _ (zb_nar b6) dX6_readSum_73
    · rw [if_neg hc5] at hf
      refine r_aload_n hX dX6_readSum_21 0 rfl ?_
      refine r_ldcS hX 6 (by decide) rfl rfl dX6_readSum_22 ?_
      obtain ⟨v9, μ7, h8, hf⟩ := bd2_eq hf
      refine r_callVI (Ok.le hX (by omega)) (c_rr_isOneOf (d := d) (by decide : 6 < 8) h8) cv_X6_51 (w_78 _ _ _) rfl rfl (st := []) rfl rfl rfl dX6_readSum_24 (fun dy => ?_)
      refine r_if_eq hX 72 dX6_readSum_27 rfl (fun hc10 => ?_) (fun hc10 => ?_)
      · rw [if_pos hc10] at hf
        refine r_iconst hX (1 : Int32) dX6_readSum_72 rfl ?_
        obtain ⟨b11, hf⟩ := chk_eq hf
        exact fin_Z hf hr _ _ _ (zb_nar b11) dX6_readSum_73
      · rw [if_neg hc10] at hf
        refine r_aload_n hX dX6_readSum_30 0 rfl ?_
        by_cases hc12 : μ7.1 v_rr_text 0 = 1
        · rw [if_pos hc12] at hf
          refine r_get hX fl_X6_22 (w_78 _ _ _) (v := .ref (gA (xG X) 1)) (dynT hc12) dX6_readSum_31 ?_
          refine r_aload_n hX dX6_readSum_34 0 rfl ?_
          refine r_dup hX dX6_readSum_35 rfl ?_
          refine r_get hX fl_X6_36 (w_78 _ _ _) rfl dX6_readSum_36 ?_
          refine r_dup_x1 hX dX6_readSum_39 rfl rfl ?_
          refine r_iconst hX (1 : Int32) dX6_readSum_40 rfl ?_
          refine r_iadd hX dX6_readSum_41 ?_
          obtain ⟨μ13, e14, hf⟩ := bnd_eq hf
          refine r_put hX fl_X6_36 ft_X6_4 (w_78 _ _ _) rfl rfl rfl (s_78_4 _ _ _ _) e14 rfl dX6_readSum_42 ?_
          obtain ⟨b15, hf⟩ := chk_eq hf
          refine r_iald hX (w_1 _ _ _) (inb_in b15) dX6_readSum_45 ?_
          obtain ⟨v16, e17, hf⟩ := bnd_eq hf
          refine r_topI e17 ?_
          refine r_istore_n hX dX6_readSum_46 rfl (ls' := [(2, .int v16), (0, .ref (gA (xG X) 78)), (1, .int x1)]) rfl ?_
          refine r_aload_n hX dX6_readSum_47 1 rfl ?_
          refine r_iload_n hX dX6_readSum_48 2 rfl ?_
          obtain ⟨v20, μ18, h19, hf⟩ := bd2_eq hf
          refine r_callVI (Ok.le hX (by omega)) (c_rr_readProduct (d := d) hR h19) cv_X6_59 (w_78 _ _ _) rfl rfl (st := []) rfl rfl rfl dX6_readSum_49 (fun dy => ?_)
          refine r_if_ne hX 57 dX6_readSum_52 rfl (fun hc21 => ?_) (fun hc21 => ?_)
          · rw [if_neg hc21] at hf
            refine r_aload_n hX dX6_readSum_57 1 rfl ?_
            obtain ⟨b22, hf⟩ := chk_eq hf
            refine r_get hX fl_X6_12 (w_78 _ _ _) rfl dX6_readSum_58 ?_
            refine r_sipush hX (2000 : Int32) dX6_readSum_61 rfl ?_
            refine r_iload_n hX dX6_readSum_64 0 rfl ?_
            refine r_iadd hX dX6_readSum_65 ?_
            obtain ⟨μ23, h24, hf⟩ := bd1_eq hf
            refine r_callVV (Ok.le hX (by omega)) (c_ru_add (d := d) (of_decide_eq_true b22) h24) cv_X6_55 (wRu_o (of_decide_eq_true b22)) rfl rfl (st := []) rfl rfl rfl dX6_readSum_66 (fun dy => ?_)
            refine r_goto hX 10 dX6_readSum_69 rfl ?_
            refine r_weak [1, 2] rfl ?_
            exact ih _ _ _ hf
          · rw [if_pos hc21] at hf
            refine r_iconst hX (0 : Int32) dX6_readSum_55 rfl ?_
            obtain ⟨b25, hf⟩ := chk_eq hf
            exact fin_Z hf hr _ _ _ (zb_nar b25) dX6_readSum_56
        · rw [if_neg hc12] at hf
          exact nomatch hf
set_option maxHeartbeats 4000000 in
set_option maxRecDepth 20000 in
theorem c_rr_readSum {G : Gx} {d : Nat} {R : Int32 → Mem → Option (Int32 × Mem)} (hR : ∀ (x1 : Int32) (μ : Mem) (r : Int32 × Mem), R x1 μ = some r → Con G M_rr_readThing (d + 9) [.ref (gA G 78), .int x1] μ (some (.int r.1), r.2)) {x1 : Int32} {μ : Mem} {r : Int32 × Mem} (hf : f_rr_readSum R x1 μ = some r) : Con G M_rr_readSum (d + 12) [.ref (gA G 78), .int x1] μ (some (.int r.1), r.2) := by
  refine Con.ofZ ⟨rfl, rfl, Nat.le_of_ble_eq_true rfl⟩ rfl (fun X hG hX hr dy => ?_)
  subst hG
  show AW X 0 [(0, .ref (gA (xG X) 78)), (1, .int x1)] [] μ dy
  unfold f_rr_readSum at hf
  refine r_aload_n hX dX6_readSum_0 0 rfl ?_
  refine r_iload_n hX dX6_readSum_1 1 rfl ?_
  obtain ⟨v3, μ1, h2, hf⟩ := bd2_eq hf
  refine r_callVI (Ok.le hX (by omega)) (c_rr_readProduct (d := d) hR h2) cv_X6_59 (w_78 _ _ _) rfl rfl (st := []) rfl rfl rfl dX6_readSum_2 (fun dy => ?_)
  refine r_if_ne hX 10 dX6_readSum_5 rfl (fun hc4 => ?_) (fun hc4 => ?_)
  · rw [if_neg hc4] at hf
    refine r_weak [0, 1] rfl ?_
    exact b_rr_readSum_b10 hR hX hr FU _ _ _ hf
  · rw [if_pos hc4] at hf
    refine r_iconst hX (0 : Int32) dX6_readSum_8 rfl ?_
    obtain ⟨b26, hf⟩ := chk_eq hf
    exact fin_Z hf hr _ _ _ (zb_nar b26) dX6_readSum_9
theorem dX6_readExpression_0 : decode cX6_readExpression 0 = .ok (.aload_n 0, 1) := by decide +kernel
theorem dX6_readExpression_1 : decode cX6_readExpression 1 = .ok (.iload_n 1, 1) := by decide +kernel
theorem dX6_readExpression_2 : decode cX6_readExpression 2 = .ok (.invokevirtual 46, 3) := by decide +kernel
theorem dX6_readExpression_5 : decode cX6_readExpression 5 = .ok (.ifCond .ne 5, 3) := by decide +kernel
theorem dX6_readExpression_8 : decode cX6_readExpression 8 = .ok (.iconst 0, 1) := by decide +kernel
theorem dX6_readExpression_9 : decode cX6_readExpression 9 = .ok (.ireturn, 1) := by decide +kernel
theorem dX6_readExpression_10 : decode cX6_readExpression 10 = .ok (.aload_n 0, 1) := by decide +kernel
theorem dX6_readExpression_11 : decode cX6_readExpression 11 = .ok (.ldc 49, 2) := by decide +kernel
theorem dX6_readExpression_13 : decode cX6_readExpression 13 = .ok (.invokevirtual 51, 3) := by decide +kernel
theorem dX6_readExpression_16 : decode cX6_readExpression 16 = .ok (.ifCond .ne 5, 3) := by decide +kernel
theorem dX6_readExpression_19 : decode cX6_readExpression 19 = .ok (.iconst 1, 1) := by decide +kernel
theorem dX6_readExpression_20 : decode cX6_readExpression 20 = .ok (.ireturn, 1) := by decide +kernel
theorem dX6_readExpression_21 : decode cX6_readExpression 21 = .ok (.aload_n 0, 1) := by decide +kernel
theorem dX6_readExpression_22 : decode cX6_readExpression 22 = .ok (.getfield 22, 3) := by decide +kernel
theorem dX6_readExpression_25 : decode cX6_readExpression 25 = .ok (.aload_n 0, 1) := by decide +kernel
theorem dX6_readExpression_26 : decode cX6_readExpression 26 = .ok (.dup, 1) := by decide +kernel
theorem dX6_readExpression_27 : decode cX6_readExpression 27 = .ok (.getfield 36, 3) := by decide +kernel
theorem dX6_readExpression_30 : decode cX6_readExpression 30 = .ok (.dup_x1, 1) := by decide +kernel
theorem dX6_readExpression_31 : decode cX6_readExpression 31 = .ok (.iconst 1, 1) := by decide +kernel
theorem dX6_readExpression_32 : decode cX6_readExpression 32 = .ok (.iadd, 1) := by decide +kernel
theorem dX6_readExpression_33 : decode cX6_readExpression 33 = .ok (.putfield 36, 3) := by decide +kernel
theorem dX6_readExpression_36 : decode cX6_readExpression 36 = .ok (.iaload, 1) := by decide +kernel
theorem dX6_readExpression_37 : decode cX6_readExpression 37 = .ok (.istore_n 2, 1) := by decide +kernel
theorem dX6_readExpression_38 : decode cX6_readExpression 38 = .ok (.aload_n 0, 1) := by decide +kernel
theorem dX6_readExpression_39 : decode cX6_readExpression 39 = .ok (.iload_n 1, 1) := by decide +kernel
theorem dX6_readExpression_40 : decode cX6_readExpression 40 = .ok (.invokevirtual 46, 3) := by decide +kernel
theorem dX6_readExpression_43 : decode cX6_readExpression 43 = .ok (.ifCond .ne 5, 3) := by decide +kernel
theorem dX6_readExpression_46 : decode cX6_readExpression 46 = .ok (.iconst 0, 1) := by decide +kernel
theorem dX6_readExpression_47 : decode cX6_readExpression 47 = .ok (.ireturn, 1) := by decide +kernel
theorem dX6_readExpression_48 : decode cX6_readExpression 48 = .ok (.aload_n 0, 1) := by decide +kernel
theorem dX6_readExpression_49 : decode cX6_readExpression 49 = .ok (.getfield 12, 3) := by decide +kernel
theorem dX6_readExpression_52 : decode cX6_readExpression 52 = .ok (.sipush 2000, 3) := by decide +kernel
theorem dX6_readExpression_55 : decode cX6_readExpression 55 = .ok (.iload_n 2, 1) := by decide +kernel
theorem dX6_readExpression_56 : decode cX6_readExpression 56 = .ok (.iadd, 1) := by decide +kernel
theorem dX6_readExpression_57 : decode cX6_readExpression 57 = .ok (.invokevirtual 55, 3) := by decide +kernel
theorem dX6_readExpression_60 : decode cX6_readExpression 60 = .ok (.iconst 1, 1) := by decide +kernel
theorem dX6_readExpression_61 : decode cX6_readExpression 61 = .ok (.ireturn, 1) := by decide +kernel
set_option maxHeartbeats 4000000 in
set_option maxRecDepth 20000 in
theorem c_rr_readExpression {G : Gx} {d : Nat} {R : Int32 → Mem → Option (Int32 × Mem)} (hR : ∀ (x1 : Int32) (μ : Mem) (r : Int32 × Mem), R x1 μ = some r → Con G M_rr_readThing (d + 9) [.ref (gA G 78), .int x1] μ (some (.int r.1), r.2)) {x1 : Int32} {μ : Mem} {r : Int32 × Mem} (hf : f_rr_readExpression R x1 μ = some r) : Con G M_rr_readExpression (d + 13) [.ref (gA G 78), .int x1] μ (some (.int r.1), r.2) := by
  refine Con.ofZ ⟨rfl, rfl, Nat.le_of_ble_eq_true rfl⟩ rfl (fun X hG hX hr dy => ?_)
  subst hG
  show AW X 0 [(0, .ref (gA (xG X) 78)), (1, .int x1)] [] μ dy
  unfold f_rr_readExpression at hf
  refine r_aload_n hX dX6_readExpression_0 0 rfl ?_
  refine r_iload_n hX dX6_readExpression_1 1 rfl ?_
  obtain ⟨v3, μ1, h2, hf⟩ := bd2_eq hf
  refine r_callVI (Ok.le hX (by omega)) (c_rr_readSum (d := d) hR h2) cv_X6_46 (w_78 _ _ _) rfl rfl (st := []) rfl rfl rfl dX6_readExpression_2 (fun dy => ?_)
  refine r_if_ne hX 10 dX6_readExpression_5 rfl (fun hc4 => ?_) (fun hc4 => ?_)
  · rw [if_neg hc4] at hf
    refine r_aload_n hX dX6_readExpression_10 0 rfl ?_
    refine r_ldcS hX 7 (by decide) rfl rfl dX6_readExpression_11 ?_
    obtain ⟨v7, μ5, h6, hf⟩ := bd2_eq hf
    refine r_callVI (Ok.le hX (by omega)) (c_rr_isOneOf (d := d) (by decide : 7 < 8) h6) cv_X6_51 (w_78 _ _ _) rfl rfl (st := []) rfl rfl rfl dX6_readExpression_13 (fun dy => ?_)
    refine r_if_ne hX 21 dX6_readExpression_16 rfl (fun hc8 => ?_) (fun hc8 => ?_)
    · rw [if_neg hc8] at hf
      refine r_aload_n hX dX6_readExpression_21 0 rfl ?_
      by_cases hc9 : μ5.1 v_rr_text 0 = 1
      · rw [if_pos hc9] at hf
        refine r_get hX fl_X6_22 (w_78 _ _ _) (v := .ref (gA (xG X) 1)) (dynT hc9) dX6_readExpression_22 ?_
        refine r_aload_n hX dX6_readExpression_25 0 rfl ?_
        refine r_dup hX dX6_readExpression_26 rfl ?_
        refine r_get hX fl_X6_36 (w_78 _ _ _) rfl dX6_readExpression_27 ?_
        refine r_dup_x1 hX dX6_readExpression_30 rfl rfl ?_
        refine r_iconst hX (1 : Int32) dX6_readExpression_31 rfl ?_
        refine r_iadd hX dX6_readExpression_32 ?_
        obtain ⟨μ10, e11, hf⟩ := bnd_eq hf
        refine r_put hX fl_X6_36 ft_X6_4 (w_78 _ _ _) rfl rfl rfl (s_78_4 _ _ _ _) e11 rfl dX6_readExpression_33 ?_
        obtain ⟨b12, hf⟩ := chk_eq hf
        refine r_iald hX (w_1 _ _ _) (inb_in b12) dX6_readExpression_36 ?_
        obtain ⟨v13, e14, hf⟩ := bnd_eq hf
        refine r_topI e14 ?_
        refine r_istore_n hX dX6_readExpression_37 rfl (ls' := [(2, .int v13), (0, .ref (gA (xG X) 78)), (1, .int x1)]) rfl ?_
        refine r_aload_n hX dX6_readExpression_38 1 rfl ?_
        refine r_iload_n hX dX6_readExpression_39 2 rfl ?_
        obtain ⟨v17, μ15, h16, hf⟩ := bd2_eq hf
        refine r_callVI (Ok.le hX (by omega)) (c_rr_readSum (d := d) hR h16) cv_X6_46 (w_78 _ _ _) rfl rfl (st := []) rfl rfl rfl dX6_readExpression_40 (fun dy => ?_)
        refine r_if_ne hX 48 dX6_readExpression_43 rfl (fun hc18 => ?_) (fun hc18 => ?_)
        · rw [if_neg hc18] at hf
          refine r_aload_n hX dX6_readExpression_48 1 rfl ?_
          obtain ⟨b19, hf⟩ := chk_eq hf
          refine r_get hX fl_X6_12 (w_78 _ _ _) rfl dX6_readExpression_49 ?_
          refine r_sipush hX (2000 : Int32) dX6_readExpression_52 rfl ?_
          refine r_iload_n hX dX6_readExpression_55 0 rfl ?_
          refine r_iadd hX dX6_readExpression_56 ?_
          obtain ⟨μ20, h21, hf⟩ := bd1_eq hf
          refine r_callVV (Ok.le hX (by omega)) (c_ru_add (d := d) (of_decide_eq_true b19) h21) cv_X6_55 (wRu_o (of_decide_eq_true b19)) rfl rfl (st := []) rfl rfl rfl dX6_readExpression_57 (fun dy => ?_)
          refine r_iconst hX (1 : Int32) dX6_readExpression_60 rfl ?_
          obtain ⟨b22, hf⟩ := chk_eq hf
          exact fin_Z hf hr _ _ _ (zb_nar b22) dX6_readExpression_61
        · rw [if_pos hc18] at hf
          refine r_iconst hX (0 : Int32) dX6_readExpression_46 rfl ?_
          obtain ⟨b23, hf⟩ := chk_eq hf
          exact fin_Z hf hr _ _ _ (zb_nar b23) dX6_readExpression_47
      · rw [if_neg hc9] at hf
        exact nomatch hf
    · rw [if_pos hc8] at hf
      refine r_iconst hX (1 : Int32) dX6_readExpression_19 rfl ?_
      obtain ⟨b24, hf⟩ := chk_eq hf
      exact fin_Z hf hr _ _ _ (zb_nar b24) dX6_readExpression_20
  · rw [if_pos hc4] at hf
    refine r_iconst hX (0 : Int32) dX6_readExpression_8 rfl ?_
    obtain ⟨b25, hf⟩ := chk_eq hf
    exact fin_Z hf hr _ _ _ (zb_nar b25) dX6_readExpression_9
theorem dX6_readThing_0 : decode cX6_readThing 0 = .ok (.aload_n 0, 1) := by decide +kernel
theorem dX6_readThing_1 : decode cX6_readThing 1 = .ok (.ldc 74, 2) := by decide +kernel
theorem dX6_readThing_3 : decode cX6_readThing 3 = .ok (.invokevirtual 51, 3) := by decide +kernel
theorem dX6_readThing_6 : decode cX6_readThing 6 = .ok (.ifCond .eq 38, 3) := by decide +kernel
theorem dX6_readThing_9 : decode cX6_readThing 9 = .ok (.aload_n 0, 1) := by decide +kernel
theorem dX6_readThing_10 : decode cX6_readThing 10 = .ok (.getfield 12, 3) := by decide +kernel
theorem dX6_readThing_13 : decode cX6_readThing 13 = .ok (.sipush 1000, 3) := by decide +kernel
theorem dX6_readThing_16 : decode cX6_readThing 16 = .ok (.ldc 74, 2) := by decide +kernel
theorem dX6_readThing_18 : decode cX6_readThing 18 = .ok (.aload_n 0, 1) := by decide +kernel
theorem dX6_readThing_19 : decode cX6_readThing 19 = .ok (.getfield 22, 3) := by decide +kernel
theorem dX6_readThing_22 : decode cX6_readThing 22 = .ok (.aload_n 0, 1) := by decide +kernel
theorem dX6_readThing_23 : decode cX6_readThing 23 = .ok (.dup, 1) := by decide +kernel
theorem dX6_readThing_24 : decode cX6_readThing 24 = .ok (.getfield 36, 3) := by decide +kernel
theorem dX6_readThing_27 : decode cX6_readThing 27 = .ok (.dup_x1, 1) := by decide +kernel
theorem dX6_readThing_28 : decode cX6_readThing 28 = .ok (.iconst 1, 1) := by decide +kernel
theorem dX6_readThing_29 : decode cX6_readThing 29 = .ok (.iadd, 1) := by decide +kernel
theorem dX6_readThing_30 : decode cX6_readThing 30 = .ok (.putfield 36, 3) := by decide +kernel
theorem dX6_readThing_33 : decode cX6_readThing 33 = .ok (.iaload, 1) := by decide +kernel
theorem dX6_readThing_34 : decode cX6_readThing 34 = .ok (.i2c, 1) := by decide +kernel
theorem dX6_readThing_35 : decode cX6_readThing 35 = .ok (.invokevirtual 76, 3) := by decide +kernel
theorem dX6_readThing_38 : decode cX6_readThing 38 = .ok (.iadd, 1) := by decide +kernel
theorem dX6_readThing_39 : decode cX6_readThing 39 = .ok (.invokevirtual 55, 3) := by decide +kernel
theorem dX6_readThing_42 : decode cX6_readThing 42 = .ok (.iconst 1, 1) := by decide +kernel
theorem dX6_readThing_43 : decode cX6_readThing 43 = .ok (.ireturn, 1) := by decide +kernel
theorem dX6_readThing_44 : decode cX6_readThing 44 = .ok (.aload_n 0, 1) := by decide +kernel
theorem dX6_readThing_45 : decode cX6_readThing 45 = .ok (.ldc 82, 2) := by decide +kernel
theorem dX6_readThing_47 : decode cX6_readThing 47 = .ok (.invokevirtual 51, 3) := by decide +kernel
theorem dX6_readThing_50 : decode cX6_readThing 50 = .ok (.ifCond .eq 16, 3) := by decide +kernel
theorem dX6_readThing_53 : decode cX6_readThing 53 = .ok (.aload_n 0, 1) := by decide +kernel
theorem dX6_readThing_54 : decode cX6_readThing 54 = .ok (.getfield 12, 3) := by decide +kernel
theorem dX6_readThing_57 : decode cX6_readThing 57 = .ok (.aload_n 0, 1) := by decide +kernel
theorem dX6_readThing_58 : decode cX6_readThing 58 = .ok (.invokevirtual 84, 3) := by decide +kernel
theorem dX6_readThing_61 : decode cX6_readThing 61 = .ok (.invokevirtual 55, 3) := by decide +kernel
theorem dX6_readThing_64 : decode cX6_readThing 64 = .ok (.iconst 1, 1) := by decide +kernel
theorem dX6_readThing_65 : decode cX6_readThing 65 = .ok (.ireturn, 1) := by decide +kernel
theorem dX6_readThing_66 : decode cX6_readThing 66 = .ok (.aload_n 0, 1) := by decide +kernel
theorem dX6_readThing_67 : decode cX6_readThing 67 = .ok (.ldc 88, 2) := by decide +kernel
theorem dX6_readThing_69 : decode cX6_readThing 69 = .ok (.invokevirtual 51, 3) := by decide +kernel
theorem dX6_readThing_72 : decode cX6_readThing 72 = .ok (.ifCond .eq 8, 3) := by decide +kernel
theorem dX6_readThing_75 : decode cX6_readThing 75 = .ok (.iload_n 1, 1) := by decide +kernel
theorem dX6_readThing_76 : decode cX6_readThing 76 = .ok (.iconst 4, 1) := by decide +kernel
theorem dX6_readThing_77 : decode cX6_readThing 77 = .ok (.if_icmp .lt 5, 3) := by decide +kernel
theorem dX6_readThing_80 : decode cX6_readThing 80 = .ok (.iconst 0, 1) := by decide +kernel
theorem dX6_readThing_81 : decode cX6_readThing 81 = .ok (.ireturn, 1) := by decide +kernel
theorem dX6_readThing_82 : decode cX6_readThing 82 = .ok (.aload_n 0, 1) := by decide +kernel
theorem dX6_readThing_83 : decode cX6_readThing 83 = .ok (.dup, 1) := by decide +kernel
theorem dX6_readThing_84 : decode cX6_readThing 84 = .ok (.getfield 36, 3) := by decide +kernel
theorem dX6_readThing_87 : decode cX6_readThing 87 = .ok (.iconst 1, 1) := by decide +kernel
theorem dX6_readThing_88 : decode cX6_readThing 88 = .ok (.iadd, 1) := by decide +kernel
theorem dX6_readThing_89 : decode cX6_readThing 89 = .ok (.putfield 36, 3) := by decide +kernel
theorem dX6_readThing_92 : decode cX6_readThing 92 = .ok (.aload_n 0, 1) := by decide +kernel
theorem dX6_readThing_93 : decode cX6_readThing 93 = .ok (.iload_n 1, 1) := by decide +kernel
theorem dX6_readThing_94 : decode cX6_readThing 94 = .ok (.iconst 1, 1) := by decide +kernel
theorem dX6_readThing_95 : decode cX6_readThing 95 = .ok (.iadd, 1) := by decide +kernel
theorem dX6_readThing_96 : decode cX6_readThing 96 = .ok (.invokevirtual 42, 3) := by decide +kernel
theorem dX6_readThing_99 : decode cX6_readThing 99 = .ok (.ifCond .eq 12, 3) := by decide +kernel
theorem dX6_readThing_102 : decode cX6_readThing 102 = .ok (.aload_n 0, 1) := by decide +kernel
theorem dX6_readThing_103 : decode cX6_readThing 103 = .ok (.ldc 90, 2) := by decide +kernel
theorem dX6_readThing_105 : decode cX6_readThing 105 = .ok (.invokevirtual 51, 3) := by decide +kernel
theorem dX6_readThing_108 : decode cX6_readThing 108 = .ok (.ifCond .ne 5, 3) := by decide +kernel
theorem dX6_readThing_111 : decode cX6_readThing 111 = .ok (.iconst 0, 1) := by decide +kernel
theorem dX6_readThing_112 : decode cX6_readThing 112 = .ok (.ireturn, 1) := by decide +kernel
theorem dX6_readThing_113 : decode cX6_readThing 113 = .ok (.aload_n 0, 1) := by decide +kernel
theorem dX6_readThing_114 : decode cX6_readThing 114 = .ok (.dup, 1) := by decide +kernel
theorem dX6_readThing_115 : decode cX6_readThing 115 = .ok (.getfield 36, 3) := by decide +kernel
theorem dX6_readThing_118 : decode cX6_readThing 118 = .ok (.iconst 1, 1) := by decide +kernel
theorem dX6_readThing_119 : decode cX6_readThing 119 = .ok (.iadd, 1) := by decide +kernel
theorem dX6_readThing_120 : decode cX6_readThing 120 = .ok (.putfield 36, 3) := by decide +kernel
theorem dX6_readThing_123 : decode cX6_readThing 123 = .ok (.iconst 1, 1) := by decide +kernel
theorem dX6_readThing_124 : decode cX6_readThing 124 = .ok (.ireturn, 1) := by decide +kernel
set_option maxHeartbeats 4000000 in
set_option maxRecDepth 20000 in
theorem c_rr_readThing_body {G : Gx} {d : Nat} {R : Int32 → Mem → Option (Int32 × Mem)} (hR : ∀ (x1 : Int32) (μ : Mem) (r : Int32 × Mem), R x1 μ = some r → Con G M_rr_readThing (d + 9) [.ref (gA G 78), .int x1] μ (some (.int r.1), r.2)) {x1 : Int32} {μ : Mem} {r : Int32 × Mem} (hf : f_rr_readThing_body R x1 μ = some r) : Con G M_rr_readThing (d + 14) [.ref (gA G 78), .int x1] μ (some (.int r.1), r.2) := by
  refine Con.ofZ ⟨rfl, rfl, Nat.le_of_ble_eq_true rfl⟩ rfl (fun X hG hX hr dy => ?_)
  subst hG
  show AW X 0 [(0, .ref (gA (xG X) 78)), (1, .int x1)] [] μ dy
  unfold f_rr_readThing_body at hf
  refine r_aload_n hX dX6_readThing_0 0 rfl ?_
  refine r_ldcS hX 1 (by decide) rfl rfl dX6_readThing_1 ?_
  obtain ⟨v3, μ1, h2, hf⟩ := bd2_eq hf
  refine r_callVI (Ok.le hX (by omega)) (c_rr_isOneOf (d := d) (by decide : 1 < 8) h2) cv_X6_51 (w_78 _ _ _) rfl rfl (st := []) rfl rfl rfl dX6_readThing_3 (fun dy => ?_)
  refine r_if_eq hX 44 dX6_readThing_6 rfl (fun hc4 => ?_) (fun hc4 => ?_)
  · rw [if_pos hc4] at hf
    refine r_aload_n hX dX6_readThing_44 0 rfl ?_
    refine r_ldcS hX 4 (by decide) rfl rfl dX6_readThing_45 ?_
    obtain ⟨v7, μ5, h6, hf⟩ := bd2_eq hf
    refine r_callVI (Ok.le hX (by omega)) (c_rr_isOneOf (d := d) (by decide : 4 < 8) h6) cv_X6_51 (w_78 _ _ _) rfl rfl (st := []) rfl rfl rfl dX6_readThing_47 (fun dy => ?_)
    refine r_if_eq hX 66 dX6_readThing_50 rfl (fun hc8 => ?_) (fun hc8 => ?_)
    · rw [if_pos hc8] at hf
      refine r_aload_n hX dX6_readThing_66 0 rfl ?_
      refine r_ldcS hX 2 (by decide) rfl rfl dX6_readThing_67 ?_
      obtain ⟨v11, μ9, h10, hf⟩ := bd2_eq hf
      refine r_callVI (Ok.le hX (by omega)) (c_rr_isOneOf (d := d) (by decide : 2 < 8) h10) cv_X6_51 (w_78 _ _ _) rfl rfl (st := []) rfl rfl rfl dX6_readThing_69 (fun dy => ?_)
      refine r_if_eq hX 80 dX6_readThing_72 rfl (fun hc12 => ?_) (fun hc12 => ?_)
      · rw [if_pos hc12] at hf
        refine r_iconst hX (0 : Int32) dX6_readThing_80 rfl ?_
        obtain ⟨b13, hf⟩ := chk_eq hf
        exact fin_Z hf hr _ _ _ (zb_nar b13) dX6_readThing_81
      · rw [if_neg hc12] at hf
        refine r_iload_n hX dX6_readThing_75 1 rfl ?_
        refine r_iconst hX (4 : Int32) dX6_readThing_76 rfl ?_
        refine r_icmp_lt hX 82 dX6_readThing_77 rfl (fun hc14 => ?_) (fun hc14 => ?_)
        · rw [if_pos hc14] at hf
          refine r_aload_n hX dX6_readThing_82 0 rfl ?_
          refine r_dup hX dX6_readThing_83 rfl ?_
          refine r_get hX fl_X6_36 (w_78 _ _ _) rfl dX6_readThing_84 ?_
          refine r_iconst hX (1 : Int32) dX6_readThing_87 rfl ?_
          refine r_iadd hX dX6_readThing_88 ?_
          obtain ⟨μ15, e16, hf⟩ := bnd_eq hf
          refine r_put hX fl_X6_36 ft_X6_4 (w_78 _ _ _) rfl rfl rfl (s_78_4 _ _ _ _) e16 rfl dX6_readThing_89 ?_
          refine r_aload_n hX dX6_readThing_92 0 rfl ?_
          refine r_iload_n hX dX6_readThing_93 1 rfl ?_
          refine r_iconst hX (1 : Int32) dX6_readThing_94 rfl ?_
          refine r_iadd hX dX6_readThing_95 ?_
          obtain ⟨v19, μ17, h18, hf⟩ := bd2_eq hf
          refine r_callVI (Ok.le hX (by omega)) (c_rr_readExpression (d := d) hR h18) cv_X6_42 (w_78 _ _ _) rfl rfl (st := []) rfl rfl rfl dX6_readThing_96 (fun dy => ?_)
          refine r_if_eq hX 111 dX6_readThing_99 rfl (fun hc20 => ?_) (fun hc20 => ?_)
          · rw [if_pos hc20] at hf
            refine r_iconst hX (0 : Int32) dX6_readThing_111 rfl ?_
            obtain ⟨b21, hf⟩ := chk_eq hf
            exact fin_Z hf hr _ _ _ (zb_nar b21) dX6_readThing_112
          · rw [if_neg hc20] at hf
            refine r_aload_n hX dX6_readThing_102 0 rfl ?_
            refine r_ldcS hX 3 (by decide) rfl rfl dX6_readThing_103 ?_
            obtain ⟨v24, μ22, h23, hf⟩ := bd2_eq hf
            refine r_callVI (Ok.le hX (by omega)) (c_rr_isOneOf (d := d) (by decide : 3 < 8) h23) cv_X6_51 (w_78 _ _ _) rfl rfl (st := []) rfl rfl rfl dX6_readThing_105 (fun dy => ?_)
            refine r_if_ne hX 113 dX6_readThing_108 rfl (fun hc25 => ?_) (fun hc25 => ?_)
            · rw [if_neg hc25] at hf
              refine r_aload_n hX dX6_readThing_113 0 rfl ?_
              refine r_dup hX dX6_readThing_114 rfl ?_
              refine r_get hX fl_X6_36 (w_78 _ _ _) rfl dX6_readThing_115 ?_
              refine r_iconst hX (1 : Int32) dX6_readThing_118 rfl ?_
              refine r_iadd hX dX6_readThing_119 ?_
              obtain ⟨μ26, e27, hf⟩ := bnd_eq hf
              refine r_put hX fl_X6_36 ft_X6_4 (w_78 _ _ _) rfl rfl rfl (s_78_4 _ _ _ _) e27 rfl dX6_readThing_120 ?_
              refine r_iconst hX (1 : Int32) dX6_readThing_123 rfl ?_
              obtain ⟨b28, hf⟩ := chk_eq hf
              exact fin_Z hf hr _ _ _ (zb_nar b28) dX6_readThing_124
            · rw [if_pos hc25] at hf
              refine r_iconst hX (0 : Int32) dX6_readThing_111 rfl ?_
              obtain ⟨b29, hf⟩ := chk_eq hf
              exact fin_Z hf hr _ _ _ (zb_nar b29) dX6_readThing_112
        · rw [if_neg hc14] at hf
          refine r_iconst hX (0 : Int32) dX6_readThing_80 rfl ?_
          obtain ⟨b30, hf⟩ := chk_eq hf
          exact fin_Z hf hr _ _ _ (zb_nar b30) dX6_readThing_81
    · rw [if_neg hc8] at hf
      refine r_aload_n hX dX6_readThing_53 0 rfl ?_
      obtain ⟨b31, hf⟩ := chk_eq hf
      refine r_get hX fl_X6_12 (w_78 _ _ _) rfl dX6_readThing_54 ?_
      refine r_aload_n hX dX6_readThing_57 0 rfl ?_
      obtain ⟨v34, μ32, h33, hf⟩ := bd2_eq hf
      refine r_callVI (Ok.le hX (by omega)) (c_rr_number (d := d)  h33) cv_X6_84 (w_78 _ _ _) rfl rfl (st := [.ref (gA (xG X) (67 + 3 * ((μ5.1 v_rr_spare 0).toNatClampNeg)))]) rfl rfl rfl dX6_readThing_58 (fun dy => ?_)
      obtain ⟨μ35, h36, hf⟩ := bd1_eq hf
      refine r_callVV (Ok.le hX (by omega)) (c_ru_add (d := d) (of_decide_eq_true b31) h36) cv_X6_55 (wRu_o (of_decide_eq_true b31)) rfl rfl (st := []) rfl rfl rfl dX6_readThing_61 (fun dy => ?_)
      refine r_iconst hX (1 : Int32) dX6_readThing_64 rfl ?_
      obtain ⟨b37, hf⟩ := chk_eq hf
      exact fin_Z hf hr _ _ _ (zb_nar b37) dX6_readThing_65
  · rw [if_neg hc4] at hf
    refine r_aload_n hX dX6_readThing_9 0 rfl ?_
    obtain ⟨b38, hf⟩ := chk_eq hf
    refine r_get hX fl_X6_12 (w_78 _ _ _) rfl dX6_readThing_10 ?_
    refine r_sipush hX (1000 : Int32) dX6_readThing_13 rfl ?_
    refine r_ldcS hX 1 (by decide) rfl rfl dX6_readThing_16 ?_
    refine r_aload_n hX dX6_readThing_18 0 rfl ?_
    by_cases hc39 : μ1.1 v_rr_text 0 = 1
    · rw [if_pos hc39] at hf
      refine r_get hX fl_X6_22 (w_78 _ _ _) (v := .ref (gA (xG X) 1)) (dynT hc39) dX6_readThing_19 ?_
      refine r_aload_n hX dX6_readThing_22 0 rfl ?_
      refine r_dup hX dX6_readThing_23 rfl ?_
      refine r_get hX fl_X6_36 (w_78 _ _ _) rfl dX6_readThing_24 ?_
      refine r_dup_x1 hX dX6_readThing_27 rfl rfl ?_
      refine r_iconst hX (1 : Int32) dX6_readThing_28 rfl ?_
      refine r_iadd hX dX6_readThing_29 ?_
      obtain ⟨μ40, e41, hf⟩ := bnd_eq hf
      refine r_put hX fl_X6_36 ft_X6_4 (w_78 _ _ _) rfl rfl rfl (s_78_4 _ _ _ _) e41 rfl dX6_readThing_30 ?_
      obtain ⟨b42, hf⟩ := chk_eq hf
      refine r_iald hX (w_1 _ _ _) (inb_in b42) dX6_readThing_33 ?_
      refine r_i2c hX dX6_readThing_34 ?_
      obtain ⟨b45, hf⟩ := chk_eq hf
      obtain ⟨v43, e44, hf⟩ := bnd_eq hf
      refine r_indexOf (d := d + 6) (Ok.le hX (by omega)) (by decide) cv_X6_76 b45 e44 rfl dX6_readThing_35 (fun dy => ?_)
      refine r_iadd hX dX6_readThing_38 ?_
      obtain ⟨μ46, h47, hf⟩ := bd1_eq hf
      refine r_callVV (Ok.le hX (by omega)) (c_ru_add (d := d) (of_decide_eq_true b38) h47) cv_X6_55 (wRu_o (of_decide_eq_true b38)) rfl rfl (st := []) rfl rfl rfl dX6_readThing_39 (fun dy => ?_)
      refine r_iconst hX (1 : Int32) dX6_readThing_42 rfl ?_
      obtain ⟨b48, hf⟩ := chk_eq hf
      exact fin_Z hf hr _ _ _ (zb_nar b48) dX6_readThing_43
    · rw [if_neg hc39] at hf
      exact nomatch hf
theorem c_rr_readThing {G : Gx} {d : Nat} (k : Nat) : ∀ {x1 : Int32} {μ : Mem} {r : Int32 × Mem}, f_rr_readThing k x1 μ = some r → Con G M_rr_readThing (d + 5 * k + 9) [.ref (gA G 78), .int x1] μ (some (.int r.1), r.2) := by
  induction k with
  | zero => intro x1 μ r hf; exact nomatch hf
  | succ k ih =>
    intro x1 μ r hf
    rw [f_rr_readThing] at hf
    have h := c_rr_readThing_body (d := d + 5 * k) (fun x1 μ r h => ih h) hf
    have e : d + 5 * k + 14 = d + 5 * (k + 1) + 9 := by omega
    rw [← e]
    exact h
theorem dX6_read_0 : decode cX6_read 0 = .ok (.aload_n 0, 1) := by decide +kernel
theorem dX6_read_1 : decode cX6_read 1 = .ok (.aload_n 1, 1) := by decide +kernel
theorem dX6_read_2 : decode cX6_read 2 = .ok (.putfield 22, 3) := by decide +kernel
theorem dX6_read_5 : decode cX6_read 5 = .ok (.aload_n 0, 1) := by decide +kernel
theorem dX6_read_6 : decode cX6_read 6 = .ok (.iload_n 2, 1) := by decide +kernel
theorem dX6_read_7 : decode cX6_read 7 = .ok (.bipush 40, 2) := by decide +kernel
theorem dX6_read_9 : decode cX6_read 9 = .ok (.invokestatic 26, 3) := by decide +kernel
theorem dX6_read_12 : decode cX6_read 12 = .ok (.putfield 32, 3) := by decide +kernel
theorem dX6_read_15 : decode cX6_read 15 = .ok (.aload_n 0, 1) := by decide +kernel
theorem dX6_read_16 : decode cX6_read 16 = .ok (.iconst 0, 1) := by decide +kernel
theorem dX6_read_17 : decode cX6_read 17 = .ok (.putfield 36, 3) := by decide +kernel
theorem dX6_read_20 : decode cX6_read 20 = .ok (.aload_n 0, 1) := by decide +kernel
theorem dX6_read_21 : decode cX6_read 21 = .ok (.getfield 12, 3) := by decide +kernel
theorem dX6_read_24 : decode cX6_read 24 = .ok (.invokevirtual 39, 3) := by decide +kernel
theorem dX6_read_27 : decode cX6_read 27 = .ok (.iload_n 2, 1) := by decide +kernel
theorem dX6_read_28 : decode cX6_read 28 = .ok (.ifCond .le 29, 3) := by decide +kernel
theorem dX6_read_31 : decode cX6_read 31 = .ok (.aload_n 0, 1) := by decide +kernel
theorem dX6_read_32 : decode cX6_read 32 = .ok (.iconst 0, 1) := by decide +kernel
theorem dX6_read_33 : decode cX6_read 33 = .ok (.invokevirtual 42, 3) := by decide +kernel
theorem dX6_read_36 : decode cX6_read 36 = .ok (.ifCond .eq 14, 3) := by decide +kernel
theorem dX6_read_39 : decode cX6_read 39 = .ok (.aload_n 0, 1) := by decide +kernel
theorem dX6_read_40 : decode cX6_read 40 = .ok (.getfield 36, 3) := by decide +kernel
theorem dX6_read_43 : decode cX6_read 43 = .ok (.aload_n 0, 1) := by decide +kernel
theorem dX6_read_44 : decode cX6_read 44 = .ok (.getfield 32, 3) := by decide +kernel
theorem dX6_read_47 : decode cX6_read 47 = .ok (.if_icmp .ge 10, 3) := by decide +kernel
theorem dX6_read_50 : decode cX6_read 50 = .ok (.iconst (-1), 1) := by decide +kernel
theorem dX6_read_51 : decode cX6_read 51 = .ok (.aload_n 0, 1) := by decide +kernel
theorem dX6_read_52 : decode cX6_read 52 = .ok (.getfield 36, 3) := by decide +kernel
theorem dX6_read_55 : decode cX6_read 55 = .ok (.isub, 1) := by decide +kernel
theorem dX6_read_56 : decode cX6_read 56 = .ok (.ireturn, 1) := by decide +kernel
theorem dX6_read_57 : decode cX6_read 57 = .ok (.iload_n 2, 1) := by decide +kernel
theorem dX6_read_58 : decode cX6_read 58 = .ok (.aload_n 0, 1) := by decide +kernel
theorem dX6_read_59 : decode cX6_read 59 = .ok (.getfield 32, 3) := by decide +kernel
theorem dX6_read_62 : decode cX6_read 62 = .ok (.if_icmp .le 10, 3) := by decide +kernel
theorem dX6_read_65 : decode cX6_read 65 = .ok (.iconst (-1), 1) := by decide +kernel
theorem dX6_read_66 : decode cX6_read 66 = .ok (.aload_n 0, 1) := by decide +kernel
theorem dX6_read_67 : decode cX6_read 67 = .ok (.getfield 32, 3) := by decide +kernel
theorem dX6_read_70 : decode cX6_read 70 = .ok (.isub, 1) := by decide +kernel
theorem dX6_read_71 : decode cX6_read 71 = .ok (.ireturn, 1) := by decide +kernel
theorem dX6_read_72 : decode cX6_read 72 = .ok (.aload_n 0, 1) := by decide +kernel
theorem dX6_read_73 : decode cX6_read 73 = .ok (.getfield 18, 3) := by decide +kernel
theorem dX6_read_76 : decode cX6_read 76 = .ok (.iload_n 3, 1) := by decide +kernel
theorem dX6_read_77 : decode cX6_read 77 = .ok (.aaload, 1) := by decide +kernel
theorem dX6_read_78 : decode cX6_read 78 = .ok (.astore 4, 2) := by decide +kernel
theorem dX6_read_80 : decode cX6_read 80 = .ok (.aload_n 0, 1) := by decide +kernel
theorem dX6_read_81 : decode cX6_read 81 = .ok (.getfield 18, 3) := by decide +kernel
theorem dX6_read_84 : decode cX6_read 84 = .ok (.iload_n 3, 1) := by decide +kernel
theorem dX6_read_85 : decode cX6_read 85 = .ok (.aload_n 0, 1) := by decide +kernel
theorem dX6_read_86 : decode cX6_read 86 = .ok (.getfield 12, 3) := by decide +kernel
theorem dX6_read_89 : decode cX6_read 89 = .ok (.aastore, 1) := by decide +kernel
theorem dX6_read_90 : decode cX6_read 90 = .ok (.aload_n 0, 1) := by decide +kernel
theorem dX6_read_91 : decode cX6_read 91 = .ok (.aload 4, 2) := by decide +kernel
theorem dX6_read_93 : decode cX6_read 93 = .ok (.putfield 12, 3) := by decide +kernel
theorem dX6_read_96 : decode cX6_read 96 = .ok (.iconst 0, 1) := by decide +kernel
theorem dX6_read_97 : decode cX6_read 97 = .ok (.ireturn, 1) := by decide +kernel
set_option maxHeartbeats 4000000 in
set_option maxRecDepth 20000 in
theorem b_rr_read_b57 {X : Cx} {d : Nat} (hX : Ok M_rr_read (d + 44) X) {r : Int32 × Mem} (hr : RetI M_rr_read X r.1 r.2) (x2 : Int32) (x3 : Int32) (μ : Mem) (dy : Nat → Nat) (hf : f_rr_read_b57 x2 x3 μ = some r) : AW X 57 [(0, .ref (gA (xG X) 78)), (2, .int x2), (3, .int x3)] [] μ dy := by
  unfold f_rr_read_b57 at hf
  refine r_iload_n hX dX6_read_57 1 rfl ?_
  refine r_aload_n hX dX6_read_58 0 rfl ?_
  refine r_get hX fl_X6_32 (w_78 _ _ _) rfl dX6_read_59 ?_
  refine r_icmp_le hX 72 dX6_read_62 rfl (fun hc11 => ?_) (fun hc11 => ?_)
  · rw [if_pos hc11] at hf
    refine r_aload_n hX dX6_read_72 0 rfl ?_
    refine r_get hX fl_X6_18 (w_78 _ _ _) rfl dX6_read_73 ?_
    refine r_iload_n hX dX6_read_76 2 rfl ?_
    obtain ⟨b12, hf⟩ := chk_eq hf
    obtain ⟨b13, hf⟩ := chk_eq hf
    refine r_aald hX (w_66 _ _ _) (b := gA (xG X) (67 + 3 * ((μ.1 v_x_rules x3.toNatClampNeg).toNatClampNeg))) rfl rfl (inb_in b12) (if_pos (inb_lt b12)) dX6_read_77 ?_
    refine r_astore hX dX6_read_78 rfl (ls' := [(4, .ref (gA (xG X) (67 + 3 * ((μ.1 v_x_rules x3.toNatClampNeg).toNatClampNeg)))), (0, .ref (gA (xG X) 78)), (2, .int x2), (3, .int x3)]) rfl ?_
    refine r_aload_n hX dX6_read_80 1 rfl ?_
    refine r_get hX fl_X6_18 (w_78 _ _ _) rfl dX6_read_81 ?_
    refine r_iload_n hX dX6_read_84 3 rfl ?_
    refine r_aload_n hX dX6_read_85 1 rfl ?_
    obtain ⟨b14, hf⟩ := chk_eq hf
    refine r_get hX fl_X6_12 (w_78 _ _ _) rfl dX6_read_86 ?_
    obtain ⟨b15, hf⟩ := chk_eq hf
    obtain ⟨μ16, e17, hf⟩ := bnd_eq hf
    refine r_astRule hX (of_decide_eq_true b14) b15 e17 dX6_read_89 ?_
    refine r_aload_n hX dX6_read_90 1 rfl ?_
    refine r_aload hX dX6_read_91 0 rfl ?_
    obtain ⟨μ18, e19, hf⟩ := bnd_eq hf
    refine r_put hX fl_X6_12 ft_X6_1 (w_78 _ _ _) rfl rfl rfl (sD_spare _ _ _ _) e19 rfl dX6_read_93 ?_
    refine r_iconst hX (0 : Int32) dX6_read_96 rfl ?_
    exact fin_I hf hr _ _ _ dX6_read_97
  · rw [if_neg hc11] at hf
    refine r_iconst hX (-1 : Int32) dX6_read_65 rfl ?_
    refine r_aload_n hX dX6_read_66 0 rfl ?_
    refine r_get hX fl_X6_32 (w_78 _ _ _) rfl dX6_read_67 ?_
    refine r_isub hX dX6_read_70 ?_
    exact fin_I hf hr _ _ _ dX6_read_71
set_option maxHeartbeats 4000000 in
set_option maxRecDepth 20000 in
theorem c_rr_read {G : Gx} {d : Nat} {x2 : Int32} {x3 : Int32} {μ : Mem} {r : Int32 × Mem} (hf : f_rr_read x2 x3 μ = some r) : Con G M_rr_read (d + 44) [.ref (gA G 78), .ref (gA G 1), .int x2, .int x3] μ (some (.int r.1), r.2) := by
  refine Con.ofI ⟨rfl, rfl, Nat.le_of_ble_eq_true rfl⟩ rfl rfl (fun X hG hX hr dy => ?_)
  subst hG
  show AW X 0 [(0, .ref (gA (xG X) 78)), (1, .ref (gA (xG X) 1)), (2, .int x2), (3, .int x3)] [] μ dy
  unfold f_rr_read at hf
  refine r_aload_n hX dX6_read_0 0 rfl ?_
  refine r_aload_n hX dX6_read_1 1 rfl ?_
  obtain ⟨μ1, e2, hf⟩ := bnd_eq hf
  refine r_put hX fl_X6_22 ft_X6_2 (w_78 _ _ _) rfl rfl rfl (sD_78 _ _ _) e2 rfl dX6_read_2 ?_
  refine r_aload_n hX dX6_read_5 0 rfl ?_
  refine r_iload_n hX dX6_read_6 2 rfl ?_
  refine r_bipush hX (40 : Int32) dX6_read_7 rfl ?_
  refine r_min (d := d + 43) (Ok.le hX (by omega)) cs_X6_26 rfl dX6_read_9 ?_
  obtain ⟨μ3, e4, hf⟩ := bnd_eq hf
  refine r_put hX fl_X6_32 ft_X6_3 (w_78 _ _ _) rfl rfl rfl (s_78_3 _ _ _ _) e4 rfl dX6_read_12 ?_
  refine r_aload_n hX dX6_read_15 0 rfl ?_
  refine r_iconst hX (0 : Int32) dX6_read_16 rfl ?_
  obtain ⟨μ5, e6, hf⟩ := bnd_eq hf
  refine r_put hX fl_X6_36 ft_X6_4 (w_78 _ _ _) rfl rfl rfl (s_78_4 _ _ _ _) e6 rfl dX6_read_17 ?_
  refine r_aload_n hX dX6_read_20 0 rfl ?_
  obtain ⟨b7, hf⟩ := chk_eq hf
  refine r_get hX fl_X6_12 (w_78 _ _ _) rfl dX6_read_21 ?_
  obtain ⟨μ8, h9, hf⟩ := bd1_eq hf
  refine r_callVV (Ok.le hX (by omega)) (c_ru_clear (d := d) (of_decide_eq_true b7) h9) cv_X6_39 (wRu_o (of_decide_eq_true b7)) rfl rfl (st := []) rfl rfl rfl dX6_read_24 (fun dy => ?_)
  refine r_iload_n hX dX6_read_27 2 rfl ?_
  refine r_if_le hX 57 dX6_read_28 rfl (fun hc10 => ?_) (fun hc10 => ?_)
  · rw [if_pos hc10] at hf
    refine r_weak [0, 2, 3] rfl ?_
    exact b_rr_read_b57 hX hr _ _ _ _ hf
  · rw [if_neg hc10] at hf
    refine r_aload_n hX dX6_read_31 0 rfl ?_
    refine r_iconst hX (0 : Int32) dX6_read_32 rfl ?_
    obtain ⟨v22, μ20, h21, hf⟩ := bd2_eq hf
    refine r_callVI (Ok.le hX (by omega)) (c_rr_readExpression (d := d + 5 * 6) (fun _ _ _ h9 => c_rr_readThing (d := d) 6 h9) h21) cv_X6_42 (w_78 _ _ _) rfl rfl (st := []) rfl rfl rfl dX6_read_33 (fun dy => ?_)
    refine r_if_eq hX 50 dX6_read_36 rfl (fun hc23 => ?_) (fun hc23 => ?_)
    · rw [if_pos hc23] at hf
      refine r_iconst hX (-1 : Int32) dX6_read_50 rfl ?_
      refine r_aload_n hX dX6_read_51 0 rfl ?_
      refine r_get hX fl_X6_36 (w_78 _ _ _) rfl dX6_read_52 ?_
      refine r_isub hX dX6_read_55 ?_
      exact fin_I hf hr _ _ _ dX6_read_56
    · rw [if_neg hc23] at hf
      refine r_aload_n hX dX6_read_39 0 rfl ?_
      refine r_get hX fl_X6_36 (w_78 _ _ _) rfl dX6_read_40 ?_
      refine r_aload_n hX dX6_read_43 0 rfl ?_
      refine r_get hX fl_X6_32 (w_78 _ _ _) rfl dX6_read_44 ?_
      refine r_icmp_ge hX 57 dX6_read_47 rfl (fun hc24 => ?_) (fun hc24 => ?_)
      · rw [if_pos hc24] at hf
        refine r_weak [0, 2, 3] rfl ?_
        exact b_rr_read_b57 hX hr _ _ _ _ hf
      · rw [if_neg hc24] at hf
        refine r_iconst hX (-1 : Int32) dX6_read_50 rfl ?_
        refine r_aload_n hX dX6_read_51 0 rfl ?_
        refine r_get hX fl_X6_36 (w_78 _ _ _) rfl dX6_read_52 ?_
        refine r_isub hX dX6_read_55 ?_
        exact fin_I hf hr _ _ _ dX6_read_56
theorem dX8_sumHeard_0 : decode cX8_sumHeard 0 = .ok (.iconst 0, 1) := by decide +kernel
theorem dX8_sumHeard_1 : decode cX8_sumHeard 1 = .ok (.istore_n 3, 1) := by decide +kernel
theorem dX8_sumHeard_2 : decode cX8_sumHeard 2 = .ok (.iconst 0, 1) := by decide +kernel
theorem dX8_sumHeard_3 : decode cX8_sumHeard 3 = .ok (.istore 4, 2) := by decide +kernel
theorem dX8_sumHeard_5 : decode cX8_sumHeard 5 = .ok (.iload 4, 2) := by decide +kernel
theorem dX8_sumHeard_7 : decode cX8_sumHeard 7 = .ok (.aload_n 0, 1) := by decide +kernel
theorem dX8_sumHeard_8 : decode cX8_sumHeard 8 = .ok (.getfield 36, 3) := by decide +kernel
theorem dX8_sumHeard_11 : decode cX8_sumHeard 11 = .ok (.if_icmp .ge 28, 3) := by decide +kernel
theorem dX8_sumHeard_14 : decode cX8_sumHeard 14 = .ok (.iload_n 3, 1) := by decide +kernel
theorem dX8_sumHeard_15 : decode cX8_sumHeard 15 = .ok (.iload_n 2, 1) := by decide +kernel
theorem dX8_sumHeard_16 : decode cX8_sumHeard 16 = .ok (.iload 4, 2) := by decide +kernel
theorem dX8_sumHeard_18 : decode cX8_sumHeard 18 = .ok (.ishr, 1) := by decide +kernel
theorem dX8_sumHeard_19 : decode cX8_sumHeard 19 = .ok (.iconst 1, 1) := by decide +kernel
theorem dX8_sumHeard_20 : decode cX8_sumHeard 20 = .ok (.iand, 1) := by decide +kernel
theorem dX8_sumHeard_21 : decode cX8_sumHeard 21 = .ok (.aload_n 0, 1) := by decide +kernel
theorem dX8_sumHeard_22 : decode cX8_sumHeard 22 = .ok (.getfield 20, 3) := by decide +kernel
theorem dX8_sumHeard_25 : decode cX8_sumHeard 25 = .ok (.iload_n 1, 1) := by decide +kernel
theorem dX8_sumHeard_26 : decode cX8_sumHeard 26 = .ok (.aaload, 1) := by decide +kernel
theorem dX8_sumHeard_27 : decode cX8_sumHeard 27 = .ok (.iload 4, 2) := by decide +kernel
theorem dX8_sumHeard_29 : decode cX8_sumHeard 29 = .ok (.iaload, 1) := by decide +kernel
theorem dX8_sumHeard_30 : decode cX8_sumHeard 30 = .ok (.imul, 1) := by decide +kernel
theorem dX8_sumHeard_31 : decode cX8_sumHeard 31 = .ok (.iadd, 1) := by decide +kernel
theorem dX8_sumHeard_32 : decode cX8_sumHeard 32 = .ok (.istore_n 3, 1) := by decide +kernel
theorem dX8_sumHeard_33 : decode cX8_sumHeard 33 = .ok (.iinc 4 1, 3) := by decide +kernel
theorem dX8_sumHeard_36 : decode cX8_sumHeard 36 = .ok (.goto (-31), 3) := by decide +kernel
theorem dX8_sumHeard_39 : decode cX8_sumHeard 39 = .ok (.iload_n 3, 1) := by decide +kernel
theorem dX8_sumHeard_40 : decode cX8_sumHeard 40 = .ok (.ireturn, 1) := by decide +kernel
set_option maxHeartbeats 4000000 in
set_option maxRecDepth 20000 in
theorem b_st_sumHeard_b5 {X : Cx} {d : Nat} (hX : Ok M_st_sumHeard (d + 0) X) {r : Int32 × Mem} (hr : RetI M_st_sumHeard X r.1 r.2) : ∀ (n : Nat) (x1 : Int32) (x2 : Int32) (x3 : Int32) (x4 : Int32) (μ : Mem) (dy : Nat → Nat), f_st_sumHeard_b5 n x1 x2 x3 x4 μ = some r → AW X 5 [(0, .ref (gA (xG X) 4)), (1, .int x1), (2, .int x2), (3, .int x3), (4, .int x4)] [] μ dy := by
  intro n
  induction n with
  | zero => intro x1 x2 x3 x4 μ dy hf; exact nomatch hf
  | succ n ih =>
    intro x1 x2 x3 x4 μ dy hf
    rw [f_st_sumHeard_b5] at hf
    refine r_iload hX dX8_sumHeard_5 4 rfl ?_
    refine r_aload_n hX dX8_sumHeard_7 0 rfl ?_
    refine r_get hX fl_X8_36 (w_4 _ _ _) rfl dX8_sumHeard_8 ?_
    refine r_icmp_ge hX 39 dX8_sumHeard_11 rfl (fun hc1 => ?_) (fun hc1 => ?_)
    · rw [if_pos hc1] at hf
      refine r_iload_n hX dX8_sumHeard_39 3 rfl ?_
      exact fin_I hf hr _ _ _ dX8_sumHeard_40
    · rw [if_neg hc1] at hf
      refine r_iload_n hX dX8_sumHeard_14 3 rfl ?_
      refine r_iload_n hX dX8_sumHeard_15 2 rfl ?_
      refine r_iload hX dX8_sumHeard_16 4 rfl ?_
      refine r_ishr hX dX8_sumHeard_18 ?_
      refine r_iconst hX (1 : Int32) dX8_sumHeard_19 rfl ?_
      refine r_iand hX dX8_sumHeard_20 ?_
      refine r_aload_n hX dX8_sumHeard_21 0 rfl ?_
      refine r_get hX fl_X8_20 (w_4 _ _ _) rfl dX8_sumHeard_22 ?_
      refine r_iload_n hX dX8_sumHeard_25 1 rfl ?_
      obtain ⟨b2, hf⟩ := chk_eq hf
      refine r_aald hX (w_7 _ _ _) (b := gA (xG X) (8 + x1.toNatClampNeg)) rfl rfl (inb_in b2) (if_pos (inb_lt b2)) dX8_sumHeard_26 ?_
      refine r_iload hX dX8_sumHeard_27 4 rfl ?_
      obtain ⟨b3, hf⟩ := chk_eq hf
      refine r_iald hX (wLo (inb_lt b2)) (inb_in b3) dX8_sumHeard_29 ?_
      refine r_imul hX dX8_sumHeard_30 ?_
      refine r_iadd hX dX8_sumHeard_31 ?_
      obtain ⟨v4, e5, hf⟩ := bnd_eq hf
      refine r_topI e5 ?_
      refine r_istore_n hX dX8_sumHeard_32 rfl (ls' := [(3, .int v4), (0, .ref (gA (xG X) 4)), (1, .int x1), (2, .int x2), (4, .int x4)]) rfl ?_
      refine r_iinc hX (x4 + (1 : Int32)) dX8_sumHeard_33 4 rfl rfl rfl (ls' := [(4, .int (x4 + (1 : Int32))), (3, .int v4), (0, .ref (gA (xG X) 4)), (1, .int x1), (2, .int x2)]) rfl ?_
      refine r_goto hX 5 dX8_sumHeard_36 rfl ?_
      refine r_weak [2, 3, 4, 1, 0] rfl ?_
      exact ih _ _ _ _ _ _ hf
set_option maxHeartbeats 4000000 in
set_option maxRecDepth 20000 in
theorem c_st_sumHeard {G : Gx} {d : Nat} {x1 : Int32} {x2 : Int32} {μ : Mem} {r : Int32 × Mem} (hf : f_st_sumHeard x1 x2 μ = some r) : Con G M_st_sumHeard (d + 0) [.ref (gA G 4), .int x1, .int x2] μ (some (.int r.1), r.2) := by
  refine Con.ofI ⟨rfl, rfl, Nat.le_of_ble_eq_true rfl⟩ rfl rfl (fun X hG hX hr dy => ?_)
  subst hG
  show AW X 0 [(0, .ref (gA (xG X) 4)), (1, .int x1), (2, .int x2)] [] μ dy
  unfold f_st_sumHeard at hf
  refine r_iconst hX (0 : Int32) dX8_sumHeard_0 rfl ?_
  refine r_istore_n hX dX8_sumHeard_1 rfl (ls' := [(3, .int (0 : Int32)), (0, .ref (gA (xG X) 4)), (1, .int x1), (2, .int x2)]) rfl ?_
  refine r_iconst hX (0 : Int32) dX8_sumHeard_2 rfl ?_
  refine r_istore hX dX8_sumHeard_3 rfl (ls' := [(4, .int (0 : Int32)), (3, .int (0 : Int32)), (0, .ref (gA (xG X) 4)), (1, .int x1), (2, .int x2)]) rfl ?_
  refine r_weak [2, 3, 4, 1, 0] rfl ?_
  exact b_st_sumHeard_b5 hX hr FU _ _ _ _ _ _ hf
theorem dX8_allOf_0 : decode cX8_allOf 0 = .ok (.aload_n 0, 1) := by decide +kernel
theorem dX8_allOf_1 : decode cX8_allOf 1 = .ok (.iload_n 1, 1) := by decide +kernel
theorem dX8_allOf_2 : decode cX8_allOf 2 = .ok (.aload_n 0, 1) := by decide +kernel
theorem dX8_allOf_3 : decode cX8_allOf 3 = .ok (.invokevirtual 39, 3) := by decide +kernel
theorem dX8_allOf_6 : decode cX8_allOf 6 = .ok (.invokevirtual 49, 3) := by decide +kernel
theorem dX8_allOf_9 : decode cX8_allOf 9 = .ok (.ireturn, 1) := by decide +kernel
set_option maxHeartbeats 4000000 in
set_option maxRecDepth 20000 in
theorem c_st_allOf {G : Gx} {d : Nat} {x1 : Int32} {μ : Mem} {r : Int32 × Mem} (hf : f_st_allOf x1 μ = some r) : Con G M_st_allOf (d + 1) [.ref (gA G 4), .int x1] μ (some (.int r.1), r.2) := by
  refine Con.ofI ⟨rfl, rfl, Nat.le_of_ble_eq_true rfl⟩ rfl rfl (fun X hG hX hr dy => ?_)
  subst hG
  show AW X 0 [(0, .ref (gA (xG X) 4)), (1, .int x1)] [] μ dy
  unfold f_st_allOf at hf
  refine r_aload_n hX dX8_allOf_0 0 rfl ?_
  refine r_iload_n hX dX8_allOf_1 1 rfl ?_
  refine r_aload_n hX dX8_allOf_2 0 rfl ?_
  obtain ⟨v3, μ1, h2, hf⟩ := bd2_eq hf
  refine r_callVI (Ok.le hX (by omega)) (c_st_everybody (d := d)  h2) cv_X8_39 (w_4 _ _ _) rfl rfl (st := [.int x1, .ref (gA (xG X) 4)]) rfl rfl rfl dX8_allOf_3 (fun dy => ?_)
  obtain ⟨v6, μ4, h5, hf⟩ := bd2_eq hf
  refine r_callVI (Ok.le hX (by omega)) (c_st_sumHeard (d := d)  h5) cv_X8_49 (w_4 _ _ _) rfl rfl (st := []) rfl rfl rfl dX8_allOf_6 (fun dy => ?_)
  exact fin_I hf hr _ _ _ dX8_allOf_9
theorem dX8_loudnessOf_0 : decode cX8_loudnessOf 0 = .ok (.iconst 0, 1) := by decide +kernel
theorem dX8_loudnessOf_1 : decode cX8_loudnessOf 1 = .ok (.istore_n 2, 1) := by decide +kernel
theorem dX8_loudnessOf_2 : decode cX8_loudnessOf 2 = .ok (.iconst 0, 1) := by decide +kernel
theorem dX8_loudnessOf_3 : decode cX8_loudnessOf 3 = .ok (.istore_n 3, 1) := by decide +kernel
theorem dX8_loudnessOf_4 : decode cX8_loudnessOf 4 = .ok (.iload_n 3, 1) := by decide +kernel
theorem dX8_loudnessOf_5 : decode cX8_loudnessOf 5 = .ok (.aload_n 0, 1) := by decide +kernel
theorem dX8_loudnessOf_6 : decode cX8_loudnessOf 6 = .ok (.getfield 36, 3) := by decide +kernel
theorem dX8_loudnessOf_9 : decode cX8_loudnessOf 9 = .ok (.if_icmp .ge 20, 3) := by decide +kernel
theorem dX8_loudnessOf_12 : decode cX8_loudnessOf 12 = .ok (.iload_n 2, 1) := by decide +kernel
theorem dX8_loudnessOf_13 : decode cX8_loudnessOf 13 = .ok (.aload_n 0, 1) := by decide +kernel
theorem dX8_loudnessOf_14 : decode cX8_loudnessOf 14 = .ok (.getfield 20, 3) := by decide +kernel
theorem dX8_loudnessOf_17 : decode cX8_loudnessOf 17 = .ok (.iload_n 3, 1) := by decide +kernel
theorem dX8_loudnessOf_18 : decode cX8_loudnessOf 18 = .ok (.aaload, 1) := by decide +kernel
theorem dX8_loudnessOf_19 : decode cX8_loudnessOf 19 = .ok (.iload_n 1, 1) := by decide +kernel
theorem dX8_loudnessOf_20 : decode cX8_loudnessOf 20 = .ok (.iaload, 1) := by decide +kernel
theorem dX8_loudnessOf_21 : decode cX8_loudnessOf 21 = .ok (.iadd, 1) := by decide +kernel
theorem dX8_loudnessOf_22 : decode cX8_loudnessOf 22 = .ok (.istore_n 2, 1) := by decide +kernel
theorem dX8_loudnessOf_23 : decode cX8_loudnessOf 23 = .ok (.iinc 3 1, 3) := by decide +kernel
theorem dX8_loudnessOf_26 : decode cX8_loudnessOf 26 = .ok (.goto (-22), 3) := by decide +kernel
theorem dX8_loudnessOf_29 : decode cX8_loudnessOf 29 = .ok (.iload_n 2, 1) := by decide +kernel
theorem dX8_loudnessOf_30 : decode cX8_loudnessOf 30 = .ok (.ireturn, 1) := by decide +kernel
set_option maxHeartbeats 4000000 in
set_option maxRecDepth 20000 in
theorem b_st_loudnessOf_b4 {X : Cx} {d : Nat} (hX : Ok M_st_loudnessOf (d + 0) X) {r : Int32 × Mem} (hr : RetI M_st_loudnessOf X r.1 r.2) : ∀ (n : Nat) (x1 : Int32) (x2 : Int32) (x3 : Int32) (μ : Mem) (dy : Nat → Nat), f_st_loudnessOf_b4 n x1 x2 x3 μ = some r → AW X 4 [(0, .ref (gA (xG X) 4)), (1, .int x1), (2, .int x2), (3, .int x3)] [] μ dy := by
  intro n
  induction n with
  | zero => intro x1 x2 x3 μ dy hf; exact nomatch hf
  | succ n ih =>
    intro x1 x2 x3 μ dy hf
    rw [f_st_loudnessOf_b4] at hf
    refine r_iload_n hX dX8_loudnessOf_4 3 rfl ?_
    refine r_aload_n hX dX8_loudnessOf_5 0 rfl ?_
    refine r_get hX fl_X8_36 (w_4 _ _ _) rfl dX8_loudnessOf_6 ?_
    refine r_icmp_ge hX 29 dX8_loudnessOf_9 rfl (fun hc1 => ?_) (fun hc1 => ?_)
    · rw [if_pos hc1] at hf
      refine r_iload_n hX dX8_loudnessOf_29 2 rfl ?_
      exact fin_I hf hr _ _ _ dX8_loudnessOf_30
    · rw [if_neg hc1] at hf
      refine r_iload_n hX dX8_loudnessOf_12 2 rfl ?_
      refine r_aload_n hX dX8_loudnessOf_13 0 rfl ?_
      refine r_get hX fl_X8_20 (w_4 _ _ _) rfl dX8_loudnessOf_14 ?_
      refine r_iload_n hX dX8_loudnessOf_17 3 rfl ?_
      obtain ⟨b2, hf⟩ := chk_eq hf
      refine r_aald hX (w_7 _ _ _) (b := gA (xG X) (8 + x3.toNatClampNeg)) rfl rfl (inb_in b2) (if_pos (inb_lt b2)) dX8_loudnessOf_18 ?_
      refine r_iload_n hX dX8_loudnessOf_19 1 rfl ?_
      obtain ⟨b3, hf⟩ := chk_eq hf
      refine r_iald hX (wLo (inb_lt b2)) (inb_in b3) dX8_loudnessOf_20 ?_
      refine r_iadd hX dX8_loudnessOf_21 ?_
      obtain ⟨v4, e5, hf⟩ := bnd_eq hf
      refine r_topI e5 ?_
      refine r_istore_n hX dX8_loudnessOf_22 rfl (ls' := [(2, .int v4), (0, .ref (gA (xG X) 4)), (1, .int x1), (3, .int x3)]) rfl ?_
      refine r_iinc hX (x3 + (1 : Int32)) dX8_loudnessOf_23 3 rfl rfl rfl (ls' := [(3, .int (x3 + (1 : Int32))), (2, .int v4), (0, .ref (gA (xG X) 4)), (1, .int x1)]) rfl ?_
      refine r_goto hX 4 dX8_loudnessOf_26 rfl ?_
      refine r_weak [2, 3, 1, 0] rfl ?_
      exact ih _ _ _ _ _ hf
set_option maxHeartbeats 4000000 in
set_option maxRecDepth 20000 in
theorem c_st_loudnessOf {G : Gx} {d : Nat} {x1 : Int32} {μ : Mem} {r : Int32 × Mem} (hf : f_st_loudnessOf x1 μ = some r) : Con G M_st_loudnessOf (d + 0) [.ref (gA G 4), .int x1] μ (some (.int r.1), r.2) := by
  refine Con.ofI ⟨rfl, rfl, Nat.le_of_ble_eq_true rfl⟩ rfl rfl (fun X hG hX hr dy => ?_)
  subst hG
  show AW X 0 [(0, .ref (gA (xG X) 4)), (1, .int x1)] [] μ dy
  unfold f_st_loudnessOf at hf
  refine r_iconst hX (0 : Int32) dX8_loudnessOf_0 rfl ?_
  refine r_istore_n hX dX8_loudnessOf_1 rfl (ls' := [(2, .int (0 : Int32)), (0, .ref (gA (xG X) 4)), (1, .int x1)]) rfl ?_
  refine r_iconst hX (0 : Int32) dX8_loudnessOf_2 rfl ?_
  refine r_istore_n hX dX8_loudnessOf_3 rfl (ls' := [(3, .int (0 : Int32)), (2, .int (0 : Int32)), (0, .ref (gA (xG X) 4)), (1, .int x1)]) rfl ?_
  refine r_weak [2, 3, 1, 0] rfl ?_
  exact b_st_loudnessOf_b4 hX hr FU _ _ _ _ _ hf
theorem dX8_heardByOne_0 : decode cX8_heardByOne 0 = .ok (.iconst 0, 1) := by decide +kernel
theorem dX8_heardByOne_1 : decode cX8_heardByOne 1 = .ok (.istore_n 2, 1) := by decide +kernel
theorem dX8_heardByOne_2 : decode cX8_heardByOne 2 = .ok (.iconst 0, 1) := by decide +kernel
theorem dX8_heardByOne_3 : decode cX8_heardByOne 3 = .ok (.istore_n 3, 1) := by decide +kernel
theorem dX8_heardByOne_4 : decode cX8_heardByOne 4 = .ok (.iload_n 3, 1) := by decide +kernel
theorem dX8_heardByOne_5 : decode cX8_heardByOne 5 = .ok (.aload_n 0, 1) := by decide +kernel
theorem dX8_heardByOne_6 : decode cX8_heardByOne 6 = .ok (.getfield 36, 3) := by decide +kernel
theorem dX8_heardByOne_9 : decode cX8_heardByOne 9 = .ok (.if_icmp .ge 30, 3) := by decide +kernel
theorem dX8_heardByOne_12 : decode cX8_heardByOne 12 = .ok (.iload_n 2, 1) := by decide +kernel
theorem dX8_heardByOne_13 : decode cX8_heardByOne 13 = .ok (.aload_n 0, 1) := by decide +kernel
theorem dX8_heardByOne_14 : decode cX8_heardByOne 14 = .ok (.getfield 20, 3) := by decide +kernel
theorem dX8_heardByOne_17 : decode cX8_heardByOne 17 = .ok (.iload_n 1, 1) := by decide +kernel
theorem dX8_heardByOne_18 : decode cX8_heardByOne 18 = .ok (.aaload, 1) := by decide +kernel
theorem dX8_heardByOne_19 : decode cX8_heardByOne 19 = .ok (.iload_n 3, 1) := by decide +kernel
theorem dX8_heardByOne_20 : decode cX8_heardByOne 20 = .ok (.iaload, 1) := by decide +kernel
theorem dX8_heardByOne_21 : decode cX8_heardByOne 21 = .ok (.ifCond .le 9, 3) := by decide +kernel
theorem dX8_heardByOne_24 : decode cX8_heardByOne 24 = .ok (.iconst 1, 1) := by decide +kernel
theorem dX8_heardByOne_25 : decode cX8_heardByOne 25 = .ok (.iload_n 3, 1) := by decide +kernel
theorem dX8_heardByOne_26 : decode cX8_heardByOne 26 = .ok (.ishl, 1) := by decide +kernel
theorem dX8_heardByOne_27 : decode cX8_heardByOne 27 = .ok (.goto 4, 3) := by decide +kernel
theorem dX8_heardByOne_30 : decode cX8_heardByOne 30 = .ok (.iconst 0, 1) := by decide +kernel
theorem dX8_heardByOne_31 : decode cX8_heardByOne 31 = .ok (.ior, 1) := by decide +kernel
theorem dX8_heardByOne_32 : decode cX8_heardByOne 32 = .ok (.istore_n 2, 1) := by decide +kernel
theorem dX8_heardByOne_33 : decode cX8_heardByOne 33 = .ok (.iinc 3 1, 3) := by decide +kernel
theorem dX8_heardByOne_36 : decode cX8_heardByOne 36 = .ok (.goto (-32), 3) := by decide +kernel
theorem dX8_heardByOne_39 : decode cX8_heardByOne 39 = .ok (.iload_n 2, 1) := by decide +kernel
theorem dX8_heardByOne_40 : decode cX8_heardByOne 40 = .ok (.ireturn, 1) := by decide +kernel
set_option maxHeartbeats 4000000 in
set_option maxRecDepth 20000 in
theorem b_st_heardByOne_b4 {X : Cx} {d : Nat} (hX : Ok M_st_heardByOne (d + 0) X) {r : Int32 × Mem} (hr : RetI M_st_heardByOne X r.1 r.2) : ∀ (n : Nat) (x1 : Int32) (x2 : Int32) (x3 : Int32) (μ : Mem) (dy : Nat → Nat), f_st_heardByOne_b4 n x1 x2 x3 μ = some r → AW X 4 [(0, .ref (gA (xG X) 4)), (1, .int x1), (2, .int x2), (3, .int x3)] [] μ dy := by
  intro n
  induction n with
  | zero => intro x1 x2 x3 μ dy hf; exact nomatch hf
  | succ n ih =>
    intro x1 x2 x3 μ dy hf
    rw [f_st_heardByOne_b4] at hf
    refine r_iload_n hX dX8_heardByOne_4 3 rfl ?_
    refine r_aload_n hX dX8_heardByOne_5 0 rfl ?_
    refine r_get hX fl_X8_36 (w_4 _ _ _) rfl dX8_heardByOne_6 ?_
    refine r_icmp_ge hX 39 dX8_heardByOne_9 rfl (fun hc1 => ?_) (fun hc1 => ?_)
    · rw [if_pos hc1] at hf
      refine r_iload_n hX dX8_heardByOne_39 2 rfl ?_
      exact fin_I hf hr _ _ _ dX8_heardByOne_40
    · rw [if_neg hc1] at hf
      refine r_iload_n hX dX8_heardByOne_12 2 rfl ?_
      refine r_aload_n hX dX8_heardByOne_13 0 rfl ?_
      refine r_get hX fl_X8_20 (w_4 _ _ _) rfl dX8_heardByOne_14 ?_
      refine r_iload_n hX dX8_heardByOne_17 1 rfl ?_
      obtain ⟨b2, hf⟩ := chk_eq hf
      refine r_aald hX (w_7 _ _ _) (b := gA (xG X) (8 + x1.toNatClampNeg)) rfl rfl (inb_in b2) (if_pos (inb_lt b2)) dX8_heardByOne_18 ?_
      refine r_iload_n hX dX8_heardByOne_19 3 rfl ?_
      obtain ⟨b3, hf⟩ := chk_eq hf
      refine r_iald hX (wLo (inb_lt b2)) (inb_in b3) dX8_heardByOne_20 ?_
      obtain ⟨v4, e5, hf⟩ := bnd_eq hf
      have J6 : AW X 31 [(0, .ref (gA (xG X) 4)), (1, .int x1), (2, .int x2), (3, .int x3)] [.int v4, .int x2] μ dy := by
        refine r_ior hX dX8_heardByOne_31 ?_
        refine r_istore_n hX dX8_heardByOne_32 rfl (ls' := [(2, .int (x2 ||| v4)), (0, .ref (gA (xG X) 4)), (1, .int x1), (3, .int x3)]) rfl ?_
        refine r_iinc hX (x3 + (1 : Int32)) dX8_heardByOne_33 3 rfl rfl rfl (ls' := [(3, .int (x3 + (1 : Int32))), (2, .int (x2 ||| v4)), (0, .ref (gA (xG X) 4)), (1, .int x1)]) rfl ?_
        refine r_goto hX 4 dX8_heardByOne_36 rfl ?_
        refine r_weak [2, 3, 1, 0] rfl ?_
        exact ih _ _ _ _ _ hf
      refine r_if_le hX 30 dX8_heardByOne_21 rfl (fun hc7 => ?_) (fun hc7 => ?_)
      · refine r_iconst hX (0 : Int32) dX8_heardByOne_30 rfl ?_
        exact r_topI (e5.trans (by rw [if_pos hc7])) J6
      · refine r_iconst hX (1 : Int32) dX8_heardByOne_24 rfl ?_
        refine r_iload_n hX dX8_heardByOne_25 3 rfl ?_
        refine r_ishl hX dX8_heardByOne_26 ?_
        refine r_goto hX 31 dX8_heardByOne_27 rfl ?_
        exact r_topI (e5.trans (by rw [if_neg hc7])) J6
set_option maxHeartbeats 4000000 in
set_option maxRecDepth 20000 in
theorem c_st_heardByOne {G : Gx} {d : Nat} {x1 : Int32} {μ : Mem} {r : Int32 × Mem} (hf : f_st_heardByOne x1 μ = some r) : Con G M_st_heardByOne (d + 0) [.ref (gA G 4), .int x1] μ (some (.int r.1), r.2) := by
  refine Con.ofI ⟨rfl, rfl, Nat.le_of_ble_eq_true rfl⟩ rfl rfl (fun X hG hX hr dy => ?_)
  subst hG
  show AW X 0 [(0, .ref (gA (xG X) 4)), (1, .int x1)] [] μ dy
  unfold f_st_heardByOne at hf
  refine r_iconst hX (0 : Int32) dX8_heardByOne_0 rfl ?_
  refine r_istore_n hX dX8_heardByOne_1 rfl (ls' := [(2, .int (0 : Int32)), (0, .ref (gA (xG X) 4)), (1, .int x1)]) rfl ?_
  refine r_iconst hX (0 : Int32) dX8_heardByOne_2 rfl ?_
  refine r_istore_n hX dX8_heardByOne_3 rfl (ls' := [(3, .int (0 : Int32)), (2, .int (0 : Int32)), (0, .ref (gA (xG X) 4)), (1, .int x1)]) rfl ?_
  refine r_weak [2, 3, 1, 0] rfl ?_
  exact b_st_heardByOne_b4 hX hr FU _ _ _ _ _ hf
theorem dX8_hearersOfAny_0 : decode cX8_hearersOfAny 0 = .ok (.iconst 0, 1) := by decide +kernel
theorem dX8_hearersOfAny_1 : decode cX8_hearersOfAny 1 = .ok (.istore_n 2, 1) := by decide +kernel
theorem dX8_hearersOfAny_2 : decode cX8_hearersOfAny 2 = .ok (.iconst 0, 1) := by decide +kernel
theorem dX8_hearersOfAny_3 : decode cX8_hearersOfAny 3 = .ok (.istore_n 3, 1) := by decide +kernel
theorem dX8_hearersOfAny_4 : decode cX8_hearersOfAny 4 = .ok (.iload_n 3, 1) := by decide +kernel
theorem dX8_hearersOfAny_5 : decode cX8_hearersOfAny 5 = .ok (.aload_n 0, 1) := by decide +kernel
theorem dX8_hearersOfAny_6 : decode cX8_hearersOfAny 6 = .ok (.getfield 36, 3) := by decide +kernel
theorem dX8_hearersOfAny_9 : decode cX8_hearersOfAny 9 = .ok (.if_icmp .ge 29, 3) := by decide +kernel
theorem dX8_hearersOfAny_12 : decode cX8_hearersOfAny 12 = .ok (.iload_n 2, 1) := by decide +kernel
theorem dX8_hearersOfAny_13 : decode cX8_hearersOfAny 13 = .ok (.aload_n 0, 1) := by decide +kernel
theorem dX8_hearersOfAny_14 : decode cX8_hearersOfAny 14 = .ok (.iload_n 3, 1) := by decide +kernel
theorem dX8_hearersOfAny_15 : decode cX8_hearersOfAny 15 = .ok (.invokevirtual 53, 3) := by decide +kernel
theorem dX8_hearersOfAny_18 : decode cX8_hearersOfAny 18 = .ok (.iload_n 1, 1) := by decide +kernel
theorem dX8_hearersOfAny_19 : decode cX8_hearersOfAny 19 = .ok (.iand, 1) := by decide +kernel
theorem dX8_hearersOfAny_20 : decode cX8_hearersOfAny 20 = .ok (.ifCond .eq 9, 3) := by decide +kernel
theorem dX8_hearersOfAny_23 : decode cX8_hearersOfAny 23 = .ok (.iconst 1, 1) := by decide +kernel
theorem dX8_hearersOfAny_24 : decode cX8_hearersOfAny 24 = .ok (.iload_n 3, 1) := by decide +kernel
theorem dX8_hearersOfAny_25 : decode cX8_hearersOfAny 25 = .ok (.ishl, 1) := by decide +kernel
theorem dX8_hearersOfAny_26 : decode cX8_hearersOfAny 26 = .ok (.goto 4, 3) := by decide +kernel
theorem dX8_hearersOfAny_29 : decode cX8_hearersOfAny 29 = .ok (.iconst 0, 1) := by decide +kernel
theorem dX8_hearersOfAny_30 : decode cX8_hearersOfAny 30 = .ok (.ior, 1) := by decide +kernel
theorem dX8_hearersOfAny_31 : decode cX8_hearersOfAny 31 = .ok (.istore_n 2, 1) := by decide +kernel
theorem dX8_hearersOfAny_32 : decode cX8_hearersOfAny 32 = .ok (.iinc 3 1, 3) := by decide +kernel
theorem dX8_hearersOfAny_35 : decode cX8_hearersOfAny 35 = .ok (.goto (-31), 3) := by decide +kernel
theorem dX8_hearersOfAny_38 : decode cX8_hearersOfAny 38 = .ok (.iload_n 2, 1) := by decide +kernel
theorem dX8_hearersOfAny_39 : decode cX8_hearersOfAny 39 = .ok (.ireturn, 1) := by decide +kernel
set_option maxHeartbeats 4000000 in
set_option maxRecDepth 20000 in
theorem b_st_hearersOfAny_b4 {X : Cx} {d : Nat} (hX : Ok M_st_hearersOfAny (d + 1) X) {r : Int32 × Mem} (hr : RetI M_st_hearersOfAny X r.1 r.2) : ∀ (n : Nat) (x1 : Int32) (x2 : Int32) (x3 : Int32) (μ : Mem) (dy : Nat → Nat), f_st_hearersOfAny_b4 n x1 x2 x3 μ = some r → AW X 4 [(0, .ref (gA (xG X) 4)), (1, .int x1), (2, .int x2), (3, .int x3)] [] μ dy := by
  intro n
  induction n with
  | zero => intro x1 x2 x3 μ dy hf; exact nomatch hf
  | succ n ih =>
    intro x1 x2 x3 μ dy hf
    rw [f_st_hearersOfAny_b4] at hf
    refine r_iload_n hX dX8_hearersOfAny_4 3 rfl ?_
    refine r_aload_n hX dX8_hearersOfAny_5 0 rfl ?_
    refine r_get hX fl_X8_36 (w_4 _ _ _) rfl dX8_hearersOfAny_6 ?_
    refine r_icmp_ge hX 38 dX8_hearersOfAny_9 rfl (fun hc1 => ?_) (fun hc1 => ?_)
    · rw [if_pos hc1] at hf
      refine r_iload_n hX dX8_hearersOfAny_38 2 rfl ?_
      exact fin_I hf hr _ _ _ dX8_hearersOfAny_39
    · rw [if_neg hc1] at hf
      refine r_iload_n hX dX8_hearersOfAny_12 2 rfl ?_
      refine r_aload_n hX dX8_hearersOfAny_13 0 rfl ?_
      refine r_iload_n hX dX8_hearersOfAny_14 3 rfl ?_
      obtain ⟨v4, μ2, h3, hf⟩ := bd2_eq hf
      refine r_callVI (Ok.le hX (by omega)) (c_st_heardByOne (d := d)  h3) cv_X8_53 (w_4 _ _ _) rfl rfl (st := [.int x2]) rfl rfl rfl dX8_hearersOfAny_15 (fun dy => ?_)
      refine r_iload_n hX dX8_hearersOfAny_18 1 rfl ?_
      refine r_iand hX dX8_hearersOfAny_19 ?_
      obtain ⟨v5, e6, hf⟩ := bnd_eq hf
      have J7 : AW X 30 [(0, .ref (gA (xG X) 4)), (1, .int x1), (2, .int x2), (3, .int x3)] [.int v5, .int x2] μ2 dy := by
        refine r_ior hX dX8_hearersOfAny_30 ?_
        refine r_istore_n hX dX8_hearersOfAny_31 rfl (ls' := [(2, .int (x2 ||| v5)), (0, .ref (gA (xG X) 4)), (1, .int x1), (3, .int x3)]) rfl ?_
        refine r_iinc hX (x3 + (1 : Int32)) dX8_hearersOfAny_32 3 rfl rfl rfl (ls' := [(3, .int (x3 + (1 : Int32))), (2, .int (x2 ||| v5)), (0, .ref (gA (xG X) 4)), (1, .int x1)]) rfl ?_
        refine r_goto hX 4 dX8_hearersOfAny_35 rfl ?_
        refine r_weak [2, 3, 1, 0] rfl ?_
        exact ih _ _ _ _ _ hf
      refine r_if_eq hX 29 dX8_hearersOfAny_20 rfl (fun hc8 => ?_) (fun hc8 => ?_)
      · refine r_iconst hX (0 : Int32) dX8_hearersOfAny_29 rfl ?_
        exact r_topI (e6.trans (by rw [if_pos hc8])) J7
      · refine r_iconst hX (1 : Int32) dX8_hearersOfAny_23 rfl ?_
        refine r_iload_n hX dX8_hearersOfAny_24 3 rfl ?_
        refine r_ishl hX dX8_hearersOfAny_25 ?_
        refine r_goto hX 30 dX8_hearersOfAny_26 rfl ?_
        exact r_topI (e6.trans (by rw [if_neg hc8])) J7
set_option maxHeartbeats 4000000 in
set_option maxRecDepth 20000 in
theorem c_st_hearersOfAny {G : Gx} {d : Nat} {x1 : Int32} {μ : Mem} {r : Int32 × Mem} (hf : f_st_hearersOfAny x1 μ = some r) : Con G M_st_hearersOfAny (d + 1) [.ref (gA G 4), .int x1] μ (some (.int r.1), r.2) := by
  refine Con.ofI ⟨rfl, rfl, Nat.le_of_ble_eq_true rfl⟩ rfl rfl (fun X hG hX hr dy => ?_)
  subst hG
  show AW X 0 [(0, .ref (gA (xG X) 4)), (1, .int x1)] [] μ dy
  unfold f_st_hearersOfAny at hf
  refine r_iconst hX (0 : Int32) dX8_hearersOfAny_0 rfl ?_
  refine r_istore_n hX dX8_hearersOfAny_1 rfl (ls' := [(2, .int (0 : Int32)), (0, .ref (gA (xG X) 4)), (1, .int x1)]) rfl ?_
  refine r_iconst hX (0 : Int32) dX8_hearersOfAny_2 rfl ?_
  refine r_istore_n hX dX8_hearersOfAny_3 rfl (ls' := [(3, .int (0 : Int32)), (2, .int (0 : Int32)), (0, .ref (gA (xG X) 4)), (1, .int x1)]) rfl ?_
  refine r_weak [2, 3, 1, 0] rfl ?_
  exact b_st_hearersOfAny_b4 hX hr FU _ _ _ _ _ hf
theorem dX7_learn_0 : decode cX7_learn 0 = .ok (.iconst 0, 1) := by decide +kernel
theorem dX7_learn_1 : decode cX7_learn 1 = .ok (.istore_n 1, 1) := by decide +kernel
theorem dX7_learn_2 : decode cX7_learn 2 = .ok (.iload_n 1, 1) := by decide +kernel
theorem dX7_learn_3 : decode cX7_learn 3 = .ok (.aload_n 0, 1) := by decide +kernel
theorem dX7_learn_4 : decode cX7_learn 4 = .ok (.getfield 20, 3) := by decide +kernel
theorem dX7_learn_7 : decode cX7_learn 7 = .ok (.getfield 40, 3) := by decide +kernel
theorem dX7_learn_10 : decode cX7_learn 10 = .ok (.if_icmp .ge 106, 3) := by decide +kernel
theorem dX7_learn_13 : decode cX7_learn 13 = .ok (.aload_n 0, 1) := by decide +kernel
theorem dX7_learn_14 : decode cX7_learn 14 = .ok (.getfield 11, 3) := by decide +kernel
theorem dX7_learn_17 : decode cX7_learn 17 = .ok (.iload_n 1, 1) := by decide +kernel
theorem dX7_learn_18 : decode cX7_learn 18 = .ok (.aaload, 1) := by decide +kernel
theorem dX7_learn_19 : decode cX7_learn 19 = .ok (.iconst 0, 1) := by decide +kernel
theorem dX7_learn_20 : decode cX7_learn 20 = .ok (.iload_n 1, 1) := by decide +kernel
theorem dX7_learn_21 : decode cX7_learn 21 = .ok (.iastore, 1) := by decide +kernel
theorem dX7_learn_22 : decode cX7_learn 22 = .ok (.aload_n 0, 1) := by decide +kernel
theorem dX7_learn_23 : decode cX7_learn 23 = .ok (.getfield 11, 3) := by decide +kernel
theorem dX7_learn_26 : decode cX7_learn 26 = .ok (.iload_n 1, 1) := by decide +kernel
theorem dX7_learn_27 : decode cX7_learn 27 = .ok (.aaload, 1) := by decide +kernel
theorem dX7_learn_28 : decode cX7_learn 28 = .ok (.iconst 1, 1) := by decide +kernel
theorem dX7_learn_29 : decode cX7_learn 29 = .ok (.aload_n 0, 1) := by decide +kernel
theorem dX7_learn_30 : decode cX7_learn 30 = .ok (.getfield 20, 3) := by decide +kernel
theorem dX7_learn_33 : decode cX7_learn 33 = .ok (.getfield 46, 3) := by decide +kernel
theorem dX7_learn_36 : decode cX7_learn 36 = .ok (.iload_n 1, 1) := by decide +kernel
theorem dX7_learn_37 : decode cX7_learn 37 = .ok (.iaload, 1) := by decide +kernel
theorem dX7_learn_38 : decode cX7_learn 38 = .ok (.iastore, 1) := by decide +kernel
theorem dX7_learn_39 : decode cX7_learn 39 = .ok (.aload_n 0, 1) := by decide +kernel
theorem dX7_learn_40 : decode cX7_learn 40 = .ok (.getfield 11, 3) := by decide +kernel
theorem dX7_learn_43 : decode cX7_learn 43 = .ok (.iload_n 1, 1) := by decide +kernel
theorem dX7_learn_44 : decode cX7_learn 44 = .ok (.aaload, 1) := by decide +kernel
theorem dX7_learn_45 : decode cX7_learn 45 = .ok (.iconst 2, 1) := by decide +kernel
theorem dX7_learn_46 : decode cX7_learn 46 = .ok (.aload_n 0, 1) := by decide +kernel
theorem dX7_learn_47 : decode cX7_learn 47 = .ok (.getfield 20, 3) := by decide +kernel
theorem dX7_learn_50 : decode cX7_learn 50 = .ok (.getfield 49, 3) := by decide +kernel
theorem dX7_learn_53 : decode cX7_learn 53 = .ok (.iload_n 1, 1) := by decide +kernel
theorem dX7_learn_54 : decode cX7_learn 54 = .ok (.iaload, 1) := by decide +kernel
theorem dX7_learn_55 : decode cX7_learn 55 = .ok (.iastore, 1) := by decide +kernel
theorem dX7_learn_56 : decode cX7_learn 56 = .ok (.aload_n 0, 1) := by decide +kernel
theorem dX7_learn_57 : decode cX7_learn 57 = .ok (.getfield 11, 3) := by decide +kernel
theorem dX7_learn_60 : decode cX7_learn 60 = .ok (.iload_n 1, 1) := by decide +kernel
theorem dX7_learn_61 : decode cX7_learn 61 = .ok (.aaload, 1) := by decide +kernel
theorem dX7_learn_62 : decode cX7_learn 62 = .ok (.iconst 3, 1) := by decide +kernel
theorem dX7_learn_63 : decode cX7_learn 63 = .ok (.aload_n 0, 1) := by decide +kernel
theorem dX7_learn_64 : decode cX7_learn 64 = .ok (.getfield 20, 3) := by decide +kernel
theorem dX7_learn_67 : decode cX7_learn 67 = .ok (.iload_n 1, 1) := by decide +kernel
theorem dX7_learn_68 : decode cX7_learn 68 = .ok (.invokevirtual 52, 3) := by decide +kernel
theorem dX7_learn_71 : decode cX7_learn 71 = .ok (.iastore, 1) := by decide +kernel
theorem dX7_learn_72 : decode cX7_learn 72 = .ok (.aload_n 0, 1) := by decide +kernel
theorem dX7_learn_73 : decode cX7_learn 73 = .ok (.getfield 11, 3) := by decide +kernel
theorem dX7_learn_76 : decode cX7_learn 76 = .ok (.iload_n 1, 1) := by decide +kernel
theorem dX7_learn_77 : decode cX7_learn 77 = .ok (.aaload, 1) := by decide +kernel
theorem dX7_learn_78 : decode cX7_learn 78 = .ok (.iconst 5, 1) := by decide +kernel
theorem dX7_learn_79 : decode cX7_learn 79 = .ok (.aload_n 0, 1) := by decide +kernel
theorem dX7_learn_80 : decode cX7_learn 80 = .ok (.getfield 20, 3) := by decide +kernel
theorem dX7_learn_83 : decode cX7_learn 83 = .ok (.iload_n 1, 1) := by decide +kernel
theorem dX7_learn_84 : decode cX7_learn 84 = .ok (.invokevirtual 56, 3) := by decide +kernel
theorem dX7_learn_87 : decode cX7_learn 87 = .ok (.iastore, 1) := by decide +kernel
theorem dX7_learn_88 : decode cX7_learn 88 = .ok (.aload_n 0, 1) := by decide +kernel
theorem dX7_learn_89 : decode cX7_learn 89 = .ok (.getfield 11, 3) := by decide +kernel
theorem dX7_learn_92 : decode cX7_learn 92 = .ok (.iload_n 1, 1) := by decide +kernel
theorem dX7_learn_93 : decode cX7_learn 93 = .ok (.aaload, 1) := by decide +kernel
theorem dX7_learn_94 : decode cX7_learn 94 = .ok (.bipush 6, 2) := by decide +kernel
theorem dX7_learn_96 : decode cX7_learn 96 = .ok (.aload_n 0, 1) := by decide +kernel
theorem dX7_learn_97 : decode cX7_learn 97 = .ok (.getfield 20, 3) := by decide +kernel
theorem dX7_learn_100 : decode cX7_learn 100 = .ok (.iconst 1, 1) := by decide +kernel
theorem dX7_learn_101 : decode cX7_learn 101 = .ok (.iload_n 1, 1) := by decide +kernel
theorem dX7_learn_102 : decode cX7_learn 102 = .ok (.ishl, 1) := by decide +kernel
theorem dX7_learn_103 : decode cX7_learn 103 = .ok (.invokevirtual 59, 3) := by decide +kernel
theorem dX7_learn_106 : decode cX7_learn 106 = .ok (.invokestatic 62, 3) := by decide +kernel
theorem dX7_learn_109 : decode cX7_learn 109 = .ok (.iastore, 1) := by decide +kernel
theorem dX7_learn_110 : decode cX7_learn 110 = .ok (.iinc 1 1, 3) := by decide +kernel
theorem dX7_learn_113 : decode cX7_learn 113 = .ok (.goto (-111), 3) := by decide +kernel
theorem dX7_learn_116 : decode cX7_learn 116 = .ok (.return_, 1) := by decide +kernel
set_option maxHeartbeats 4000000 in
set_option maxRecDepth 20000 in
theorem b_sh_learn_b2 {X : Cx} {d : Nat} (hX : Ok M_sh_learn (d + 2) X) {r : Mem} (hr : RetV M_sh_learn X r) : ∀ (n : Nat) (x1 : Int32) (μ : Mem) (dy : Nat → Nat), f_sh_learn_b2 n x1 μ = some r → AW X 2 [(0, .ref (gA (xG X) 93)), (1, .int x1)] [] μ dy := by
  intro n
  induction n with
  | zero => intro x1 μ dy hf; exact nomatch hf
  | succ n ih =>
    intro x1 μ dy hf
    rw [f_sh_learn_b2] at hf
    refine r_iload_n hX dX7_learn_2 1 rfl ?_
    refine r_aload_n hX dX7_learn_3 0 rfl ?_
    refine r_get hX fl_X7_20 (w_93 _ _ _) rfl dX7_learn_4 ?_
    refine r_getN hX fl_X7_40 (w_4 _ _ _) rfl dX7_learn_7 ?_
    refine r_icmp_ge hX 116 dX7_learn_10 rfl (fun hc1 => ?_) (fun hc1 => ?_)
    · rw [if_pos hc1] at hf
      exact fin_V hf hr _ _ _ dX7_learn_116
    · rw [if_neg hc1] at hf
      refine r_aload_n hX dX7_learn_13 0 rfl ?_
      refine r_get hX fl_X7_11 (w_93 _ _ _) rfl dX7_learn_14 ?_
      refine r_iload_n hX dX7_learn_17 1 rfl ?_
      obtain ⟨b2, hf⟩ := chk_eq hf
      refine r_aald hX (w_94 _ _ _) (b := gA (xG X) (95 + x1.toNatClampNeg)) rfl rfl (inb_in b2) (if_pos (inb_lt b2)) dX7_learn_18 ?_
      refine r_iconst hX (0 : Int32) dX7_learn_19 rfl ?_
      refine r_iload_n hX dX7_learn_20 1 rfl ?_
      obtain ⟨b3, hf⟩ := chk_eq hf
      obtain ⟨μ4, e5, hf⟩ := bnd_eq hf
      refine r_iast hX (wFa (inb_lt b2)) (inb_in b3) (sFa (inb_lt b2) _ _) e5 rfl dX7_learn_21 ?_
      refine r_aload_n hX dX7_learn_22 0 rfl ?_
      refine r_get hX fl_X7_11 (w_93 _ _ _) rfl dX7_learn_23 ?_
      refine r_iload_n hX dX7_learn_26 1 rfl ?_
      obtain ⟨b6, hf⟩ := chk_eq hf
      refine r_aald hX (w_94 _ _ _) (b := gA (xG X) (95 + x1.toNatClampNeg)) rfl rfl (inb_in b6) (if_pos (inb_lt b6)) dX7_learn_27 ?_
      refine r_iconst hX (1 : Int32) dX7_learn_28 rfl ?_
      refine r_aload_n hX dX7_learn_29 0 rfl ?_
      refine r_get hX fl_X7_20 (w_93 _ _ _) rfl dX7_learn_30 ?_
      refine r_getN hX fl_X7_46 (w_4 _ _ _) rfl dX7_learn_33 ?_
      refine r_iload_n hX dX7_learn_36 1 rfl ?_
      obtain ⟨b7, hf⟩ := chk_eq hf
      refine r_iald hX (w_5 _ _ _) (inb_in b7) dX7_learn_37 ?_
      obtain ⟨b8, hf⟩ := chk_eq hf
      obtain ⟨μ9, e10, hf⟩ := bnd_eq hf
      refine r_iast hX (wFa (inb_lt b6)) (inb_in b8) (sFa (inb_lt b6) _ _) e10 rfl dX7_learn_38 ?_
      refine r_aload_n hX dX7_learn_39 0 rfl ?_
      refine r_get hX fl_X7_11 (w_93 _ _ _) rfl dX7_learn_40 ?_
      refine r_iload_n hX dX7_learn_43 1 rfl ?_
      obtain ⟨b11, hf⟩ := chk_eq hf
      refine r_aald hX (w_94 _ _ _) (b := gA (xG X) (95 + x1.toNatClampNeg)) rfl rfl (inb_in b11) (if_pos (inb_lt b11)) dX7_learn_44 ?_
      refine r_iconst hX (2 : Int32) dX7_learn_45 rfl ?_
      refine r_aload_n hX dX7_learn_46 0 rfl ?_
      refine r_get hX fl_X7_20 (w_93 _ _ _) rfl dX7_learn_47 ?_
      refine r_getN hX fl_X7_49 (w_4 _ _ _) rfl dX7_learn_50 ?_
      refine r_iload_n hX dX7_learn_53 1 rfl ?_
      obtain ⟨b12, hf⟩ := chk_eq hf
      refine r_iald hX (w_6 _ _ _) (inb_in b12) dX7_learn_54 ?_
      obtain ⟨b13, hf⟩ := chk_eq hf
      obtain ⟨μ14, e15, hf⟩ := bnd_eq hf
      refine r_iast hX (wFa (inb_lt b11)) (inb_in b13) (sFa (inb_lt b11) _ _) e15 rfl dX7_learn_55 ?_
      refine r_aload_n hX dX7_learn_56 0 rfl ?_
      refine r_get hX fl_X7_11 (w_93 _ _ _) rfl dX7_learn_57 ?_
      refine r_iload_n hX dX7_learn_60 1 rfl ?_
      obtain ⟨b16, hf⟩ := chk_eq hf
      refine r_aald hX (w_94 _ _ _) (b := gA (xG X) (95 + x1.toNatClampNeg)) rfl rfl (inb_in b16) (if_pos (inb_lt b16)) dX7_learn_61 ?_
      refine r_iconst hX (3 : Int32) dX7_learn_62 rfl ?_
      refine r_aload_n hX dX7_learn_63 0 rfl ?_
      refine r_get hX fl_X7_20 (w_93 _ _ _) rfl dX7_learn_64 ?_
      refine r_iload_n hX dX7_learn_67 1 rfl ?_
      obtain ⟨v19, μ17, h18, hf⟩ := bd2_eq hf
      refine r_callVI (Ok.le hX (by omega)) (c_st_allOf (d := d)  h18) cv_X7_52 (w_4 _ _ _) rfl rfl (st := [.int (3 : Int32), .ref (gA (xG X) (95 + x1.toNatClampNeg))]) rfl rfl rfl dX7_learn_68 (fun dy => ?_)
      obtain ⟨b20, hf⟩ := chk_eq hf
      obtain ⟨μ21, e22, hf⟩ := bnd_eq hf
      refine r_iast hX (wFa (inb_lt b16)) (inb_in b20) (sFa (inb_lt b16) _ _) e22 rfl dX7_learn_71 ?_
      refine r_aload_n hX dX7_learn_72 0 rfl ?_
      refine r_get hX fl_X7_11 (w_93 _ _ _) rfl dX7_learn_73 ?_
      refine r_iload_n hX dX7_learn_76 1 rfl ?_
      obtain ⟨b23, hf⟩ := chk_eq hf
      refine r_aald hX (w_94 _ _ _) (b := gA (xG X) (95 + x1.toNatClampNeg)) rfl rfl (inb_in b23) (if_pos (inb_lt b23)) dX7_learn_77 ?_
      refine r_iconst hX (5 : Int32) dX7_learn_78 rfl ?_
      refine r_aload_n hX dX7_learn_79 0 rfl ?_
      refine r_get hX fl_X7_20 (w_93 _ _ _) rfl dX7_learn_80 ?_
      refine r_iload_n hX dX7_learn_83 1 rfl ?_
      obtain ⟨v26, μ24, h25, hf⟩ := bd2_eq hf
      refine r_callVI (Ok.le hX (by omega)) (c_st_loudnessOf (d := d)  h25) cv_X7_56 (w_4 _ _ _) rfl rfl (st := [.int (5 : Int32), .ref (gA (xG X) (95 + x1.toNatClampNeg))]) rfl rfl rfl dX7_learn_84 (fun dy => ?_)
      obtain ⟨b27, hf⟩ := chk_eq hf
      obtain ⟨μ28, e29, hf⟩ := bnd_eq hf
      refine r_iast hX (wFa (inb_lt b23)) (inb_in b27) (sFa (inb_lt b23) _ _) e29 rfl dX7_learn_87 ?_
      refine r_aload_n hX dX7_learn_88 0 rfl ?_
      refine r_get hX fl_X7_11 (w_93 _ _ _) rfl dX7_learn_89 ?_
      refine r_iload_n hX dX7_learn_92 1 rfl ?_
      obtain ⟨b30, hf⟩ := chk_eq hf
      refine r_aald hX (w_94 _ _ _) (b := gA (xG X) (95 + x1.toNatClampNeg)) rfl rfl (inb_in b30) (if_pos (inb_lt b30)) dX7_learn_93 ?_
      refine r_bipush hX (6 : Int32) dX7_learn_94 rfl ?_
      refine r_aload_n hX dX7_learn_96 0 rfl ?_
      refine r_get hX fl_X7_20 (w_93 _ _ _) rfl dX7_learn_97 ?_
      refine r_iconst hX (1 : Int32) dX7_learn_100 rfl ?_
      refine r_iload_n hX dX7_learn_101 1 rfl ?_
      refine r_ishl hX dX7_learn_102 ?_
      obtain ⟨v33, μ31, h32, hf⟩ := bd2_eq hf
      refine r_callVI (Ok.le hX (by omega)) (c_st_hearersOfAny (d := d)  h32) cv_X7_59 (w_4 _ _ _) rfl rfl (st := [.int (6 : Int32), .ref (gA (xG X) (95 + x1.toNatClampNeg))]) rfl rfl rfl dX7_learn_103 (fun dy => ?_)
      obtain ⟨v36, μ34, h35, hf⟩ := bd2_eq hf
      refine r_callSI (Ok.le hX (by omega)) (c_jd_bitCount (d := d)  h35) cs_X7_62 (st := [.int (6 : Int32), .ref (gA (xG X) (95 + x1.toNatClampNeg))]) rfl rfl rfl dX7_learn_106 (fun dy => ?_)
      obtain ⟨b37, hf⟩ := chk_eq hf
      obtain ⟨μ38, e39, hf⟩ := bnd_eq hf
      refine r_iast hX (wFa (inb_lt b30)) (inb_in b37) (sFa (inb_lt b30) _ _) e39 rfl dX7_learn_109 ?_
      refine r_iinc hX (x1 + (1 : Int32)) dX7_learn_110 1 rfl rfl rfl (ls' := [(1, .int (x1 + (1 : Int32))), (0, .ref (gA (xG X) 93))]) rfl ?_
      refine r_goto hX 2 dX7_learn_113 rfl ?_
      refine r_weak [1, 0] rfl ?_
      exact ih _ _ _ hf
set_option maxHeartbeats 4000000 in
set_option maxRecDepth 20000 in
theorem c_sh_learn {G : Gx} {d : Nat}  {μ : Mem} {r : Mem} (hf : f_sh_learn  μ = some r) : Con G M_sh_learn (d + 2) [.ref (gA G 93)] μ (none, r) := by
  refine Con.ofV ⟨rfl, rfl, Nat.le_of_ble_eq_true rfl⟩ rfl (fun X hG hX hr dy => ?_)
  subst hG
  show AW X 0 [(0, .ref (gA (xG X) 93))] [] μ dy
  unfold f_sh_learn at hf
  refine r_iconst hX (0 : Int32) dX7_learn_0 rfl ?_
  refine r_istore_n hX dX7_learn_1 rfl (ls' := [(1, .int (0 : Int32)), (0, .ref (gA (xG X) 93))]) rfl ?_
  refine r_weak [1, 0] rfl ?_
  exact b_sh_learn_b2 hX hr FU _ _ _ hf
theorem dX7_rate_0 : decode cX7_rate 0 = .ok (.aload_n 0, 1) := by decide +kernel
theorem dX7_rate_1 : decode cX7_rate 1 = .ok (.getfield 11, 3) := by decide +kernel
theorem dX7_rate_4 : decode cX7_rate 4 = .ok (.iload_n 2, 1) := by decide +kernel
theorem dX7_rate_5 : decode cX7_rate 5 = .ok (.aaload, 1) := by decide +kernel
theorem dX7_rate_6 : decode cX7_rate 6 = .ok (.iconst 4, 1) := by decide +kernel
theorem dX7_rate_7 : decode cX7_rate 7 = .ok (.aload_n 0, 1) := by decide +kernel
theorem dX7_rate_8 : decode cX7_rate 8 = .ok (.getfield 20, 3) := by decide +kernel
theorem dX7_rate_11 : decode cX7_rate 11 = .ok (.iload_n 2, 1) := by decide +kernel
theorem dX7_rate_12 : decode cX7_rate 12 = .ok (.iload_n 1, 1) := by decide +kernel
theorem dX7_rate_13 : decode cX7_rate 13 = .ok (.iconst 1, 1) := by decide +kernel
theorem dX7_rate_14 : decode cX7_rate 14 = .ok (.if_icmp .ne 7, 3) := by decide +kernel
theorem dX7_rate_17 : decode cX7_rate 17 = .ok (.iload_n 3, 1) := by decide +kernel
theorem dX7_rate_18 : decode cX7_rate 18 = .ok (.goto 6, 3) := by decide +kernel
theorem dX7_rate_21 : decode cX7_rate 21 = .ok (.iload_n 3, 1) := by decide +kernel
theorem dX7_rate_22 : decode cX7_rate 22 = .ok (.iconst (-1), 1) := by decide +kernel
theorem dX7_rate_23 : decode cX7_rate 23 = .ok (.ixor, 1) := by decide +kernel
theorem dX7_rate_24 : decode cX7_rate 24 = .ok (.invokevirtual 69, 3) := by decide +kernel
theorem dX7_rate_27 : decode cX7_rate 27 = .ok (.iastore, 1) := by decide +kernel
theorem dX7_rate_28 : decode cX7_rate 28 = .ok (.aload_n 0, 1) := by decide +kernel
theorem dX7_rate_29 : decode cX7_rate 29 = .ok (.getfield 32, 3) := by decide +kernel
theorem dX7_rate_32 : decode cX7_rate 32 = .ok (.iload_n 1, 1) := by decide +kernel
theorem dX7_rate_33 : decode cX7_rate 33 = .ok (.aaload, 1) := by decide +kernel
theorem dX7_rate_34 : decode cX7_rate 34 = .ok (.aload_n 0, 1) := by decide +kernel
theorem dX7_rate_35 : decode cX7_rate 35 = .ok (.getfield 11, 3) := by decide +kernel
theorem dX7_rate_38 : decode cX7_rate 38 = .ok (.iload_n 2, 1) := by decide +kernel
theorem dX7_rate_39 : decode cX7_rate 39 = .ok (.aaload, 1) := by decide +kernel
theorem dX7_rate_40 : decode cX7_rate 40 = .ok (.invokevirtual 73, 3) := by decide +kernel
theorem dX7_rate_43 : decode cX7_rate 43 = .ok (.ireturn, 1) := by decide +kernel
set_option maxHeartbeats 4000000 in
set_option maxRecDepth 20000 in
theorem c_sh_rate {G : Gx} {d : Nat} {x1 : Int32} {x2 : Int32} {x3 : Int32} {μ : Mem} {r : Int32 × Mem} (hf : f_sh_rate x1 x2 x3 μ = some r) : Con G M_sh_rate (d + 2) [.ref (gA G 93), .int x1, .int x2, .int x3] μ (some (.int r.1), r.2) := by
  refine Con.ofI ⟨rfl, rfl, Nat.le_of_ble_eq_true rfl⟩ rfl rfl (fun X hG hX hr dy => ?_)
  subst hG
  show AW X 0 [(0, .ref (gA (xG X) 93)), (1, .int x1), (2, .int x2), (3, .int x3)] [] μ dy
  unfold f_sh_rate at hf
  refine r_aload_n hX dX7_rate_0 0 rfl ?_
  refine r_get hX fl_X7_11 (w_93 _ _ _) rfl dX7_rate_1 ?_
  refine r_iload_n hX dX7_rate_4 2 rfl ?_
  obtain ⟨b1, hf⟩ := chk_eq hf
  refine r_aald hX (w_94 _ _ _) (b := gA (xG X) (95 + x2.toNatClampNeg)) rfl rfl (inb_in b1) (if_pos (inb_lt b1)) dX7_rate_5 ?_
  refine r_iconst hX (4 : Int32) dX7_rate_6 rfl ?_
  refine r_aload_n hX dX7_rate_7 0 rfl ?_
  refine r_get hX fl_X7_20 (w_93 _ _ _) rfl dX7_rate_8 ?_
  refine r_iload_n hX dX7_rate_11 2 rfl ?_
  refine r_iload_n hX dX7_rate_12 1 rfl ?_
  refine r_iconst hX (1 : Int32) dX7_rate_13 rfl ?_
  obtain ⟨v2, e3, hf⟩ := bnd_eq hf
  have J4 : AW X 24 [(0, .ref (gA (xG X) 93)), (1, .int x1), (2, .int x2), (3, .int x3)] [.int v2, .int x2, .ref (gA (xG X) 4), .int (4 : Int32), .ref (gA (xG X) (95 + x2.toNatClampNeg))] μ dy := by
    obtain ⟨v7, μ5, h6, hf⟩ := bd2_eq hf
    refine r_callVI (Ok.le hX (by omega)) (c_st_sumHeard (d := d)  h6) cv_X7_69 (w_4 _ _ _) rfl rfl (st := [.int (4 : Int32), .ref (gA (xG X) (95 + x2.toNatClampNeg))]) rfl rfl rfl dX7_rate_24 (fun dy => ?_)
    obtain ⟨b8, hf⟩ := chk_eq hf
    obtain ⟨μ9, e10, hf⟩ := bnd_eq hf
    refine r_iast hX (wFa (inb_lt b1)) (inb_in b8) (sFa (inb_lt b1) _ _) e10 rfl dX7_rate_27 ?_
    refine r_aload_n hX dX7_rate_28 0 rfl ?_
    refine r_get hX fl_X7_32 (w_93 _ _ _) rfl dX7_rate_29 ?_
    refine r_iload_n hX dX7_rate_32 1 rfl ?_
    obtain ⟨b11, hf⟩ := chk_eq hf
    obtain ⟨b12, hf⟩ := chk_eq hf
    refine r_aald hX (w_66 _ _ _) (b := gA (xG X) (67 + 3 * ((μ9.1 v_x_rules x1.toNatClampNeg).toNatClampNeg))) rfl rfl (inb_in b11) (if_pos (inb_lt b11)) dX7_rate_33 ?_
    refine r_aload_n hX dX7_rate_34 0 rfl ?_
    refine r_get hX fl_X7_11 (w_93 _ _ _) rfl dX7_rate_35 ?_
    refine r_iload_n hX dX7_rate_38 2 rfl ?_
    obtain ⟨b13, hf⟩ := chk_eq hf
    refine r_aald hX (w_94 _ _ _) (b := gA (xG X) (95 + x2.toNatClampNeg)) rfl rfl (inb_in b13) (if_pos (inb_lt b13)) dX7_rate_39 ?_
    obtain ⟨v16, μ14, h15, hf⟩ := bd2_eq hf
    refine r_callVI (Ok.le hX (by omega)) (c_ru_value (d := d) (of_decide_eq_true b12) (inb_lt b13) h15) cv_X7_73 (wRu_o (of_decide_eq_true b12)) rfl rfl (st := []) rfl rfl rfl dX7_rate_40 (fun dy => ?_)
    exact fin_I hf hr _ _ _ dX7_rate_43
  refine r_icmp_ne hX 21 dX7_rate_14 rfl (fun hc17 => ?_) (fun hc17 => ?_)
  · refine r_iload_n hX dX7_rate_21 3 rfl ?_
    refine r_iconst hX (-1 : Int32) dX7_rate_22 rfl ?_
    refine r_ixor hX dX7_rate_23 ?_
    exact r_topI (e3.trans (by rw [if_neg hc17])) J4
  · refine r_iload_n hX dX7_rate_17 3 rfl ?_
    refine r_goto hX 24 dX7_rate_18 rfl ?_
    exact r_topI (e3.trans (by rw [if_pos hc17])) J4
theorem dX7_open_0 : decode cX7_open 0 = .ok (.iload_n 1, 1) := by decide +kernel
theorem dX7_open_1 : decode cX7_open 1 = .ok (.iconst 1, 1) := by decide +kernel
theorem dX7_open_2 : decode cX7_open 2 = .ok (.if_icmp .ne 9, 3) := by decide +kernel
theorem dX7_open_5 : decode cX7_open 5 = .ok (.iload_n 2, 1) := by decide +kernel
theorem dX7_open_6 : decode cX7_open 6 = .ok (.iconst (-1), 1) := by decide +kernel
theorem dX7_open_7 : decode cX7_open 7 = .ok (.ixor, 1) := by decide +kernel
theorem dX7_open_8 : decode cX7_open 8 = .ok (.goto 4, 3) := by decide +kernel
theorem dX7_open_11 : decode cX7_open 11 = .ok (.iload_n 2, 1) := by decide +kernel
theorem dX7_open_12 : decode cX7_open 12 = .ok (.aload_n 0, 1) := by decide +kernel
theorem dX7_open_13 : decode cX7_open 13 = .ok (.getfield 20, 3) := by decide +kernel
theorem dX7_open_16 : decode cX7_open 16 = .ok (.invokevirtual 77, 3) := by decide +kernel
theorem dX7_open_19 : decode cX7_open 19 = .ok (.iand, 1) := by decide +kernel
theorem dX7_open_20 : decode cX7_open 20 = .ok (.aload_n 0, 1) := by decide +kernel
theorem dX7_open_21 : decode cX7_open 21 = .ok (.getfield 20, 3) := by decide +kernel
theorem dX7_open_24 : decode cX7_open 24 = .ok (.getfield 81, 3) := by decide +kernel
theorem dX7_open_27 : decode cX7_open 27 = .ok (.iconst (-1), 1) := by decide +kernel
theorem dX7_open_28 : decode cX7_open 28 = .ok (.ixor, 1) := by decide +kernel
theorem dX7_open_29 : decode cX7_open 29 = .ok (.iand, 1) := by decide +kernel
theorem dX7_open_30 : decode cX7_open 30 = .ok (.ireturn, 1) := by decide +kernel
set_option maxHeartbeats 4000000 in
set_option maxRecDepth 20000 in
theorem c_sh_open {G : Gx} {d : Nat} {x1 : Int32} {x2 : Int32} {μ : Mem} {r : Int32 × Mem} (hf : f_sh_open x1 x2 μ = some r) : Con G M_sh_open (d + 1) [.ref (gA G 93), .int x1, .int x2] μ (some (.int r.1), r.2) := by
  refine Con.ofI ⟨rfl, rfl, Nat.le_of_ble_eq_true rfl⟩ rfl rfl (fun X hG hX hr dy => ?_)
  subst hG
  show AW X 0 [(0, .ref (gA (xG X) 93)), (1, .int x1), (2, .int x2)] [] μ dy
  unfold f_sh_open at hf
  refine r_iload_n hX dX7_open_0 1 rfl ?_
  refine r_iconst hX (1 : Int32) dX7_open_1 rfl ?_
  obtain ⟨v1, e2, hf⟩ := bnd_eq hf
  have J3 : AW X 12 [(0, .ref (gA (xG X) 93)), (1, .int x1), (2, .int x2)] [.int v1] μ dy := by
    refine r_aload_n hX dX7_open_12 0 rfl ?_
    refine r_get hX fl_X7_20 (w_93 _ _ _) rfl dX7_open_13 ?_
    obtain ⟨v6, μ4, h5, hf⟩ := bd2_eq hf
    refine r_callVI (Ok.le hX (by omega)) (c_st_everybody (d := d)  h5) cv_X7_77 (w_4 _ _ _) rfl rfl (st := [.int v1]) rfl rfl rfl dX7_open_16 (fun dy => ?_)
    refine r_iand hX dX7_open_19 ?_
    refine r_aload_n hX dX7_open_20 0 rfl ?_
    refine r_get hX fl_X7_20 (w_93 _ _ _) rfl dX7_open_21 ?_
    refine r_getN hX fl_X7_81 (w_4 _ _ _) rfl dX7_open_24 ?_
    refine r_iconst hX (-1 : Int32) dX7_open_27 rfl ?_
    refine r_ixor hX dX7_open_28 ?_
    refine r_iand hX dX7_open_29 ?_
    exact fin_I hf hr _ _ _ dX7_open_30
  refine r_icmp_ne hX 11 dX7_open_2 rfl (fun hc7 => ?_) (fun hc7 => ?_)
  · refine r_iload_n hX dX7_open_11 2 rfl ?_
    exact r_topI (e2.trans (by rw [if_neg hc7])) J3
  · refine r_iload_n hX dX7_open_5 2 rfl ?_
    refine r_iconst hX (-1 : Int32) dX7_open_6 rfl ?_
    refine r_ixor hX dX7_open_7 ?_
    refine r_goto hX 12 dX7_open_8 rfl ?_
    exact r_topI (e2.trans (by rw [if_pos hc7])) J3
theorem dX7_pick_0 : decode cX7_pick 0 = .ok (.aload_n 0, 1) := by decide +kernel
theorem dX7_pick_1 : decode cX7_pick 1 = .ok (.iload_n 1, 1) := by decide +kernel
theorem dX7_pick_2 : decode cX7_pick 2 = .ok (.iload_n 2, 1) := by decide +kernel
theorem dX7_pick_3 : decode cX7_pick 3 = .ok (.invokevirtual 84, 3) := by decide +kernel
theorem dX7_pick_6 : decode cX7_pick 6 = .ok (.istore_n 3, 1) := by decide +kernel
theorem dX7_pick_7 : decode cX7_pick 7 = .ok (.bipush (-2), 2) := by decide +kernel
theorem dX7_pick_9 : decode cX7_pick 9 = .ok (.istore 4, 2) := by decide +kernel
theorem dX7_pick_11 : decode cX7_pick 11 = .ok (.iconst 0, 1) := by decide +kernel
theorem dX7_pick_12 : decode cX7_pick 12 = .ok (.istore 5, 2) := by decide +kernel
theorem dX7_pick_14 : decode cX7_pick 14 = .ok (.iconst 0, 1) := by decide +kernel
theorem dX7_pick_15 : decode cX7_pick 15 = .ok (.istore 6, 2) := by decide +kernel
theorem dX7_pick_17 : decode cX7_pick 17 = .ok (.iload 6, 2) := by decide +kernel
theorem dX7_pick_19 : decode cX7_pick 19 = .ok (.aload_n 0, 1) := by decide +kernel
theorem dX7_pick_20 : decode cX7_pick 20 = .ok (.getfield 20, 3) := by decide +kernel
theorem dX7_pick_23 : decode cX7_pick 23 = .ok (.getfield 40, 3) := by decide +kernel
theorem dX7_pick_26 : decode cX7_pick 26 = .ok (.if_icmp .ge 50, 3) := by decide +kernel
theorem dX7_pick_29 : decode cX7_pick 29 = .ok (.iload_n 3, 1) := by decide +kernel
theorem dX7_pick_30 : decode cX7_pick 30 = .ok (.iload 6, 2) := by decide +kernel
theorem dX7_pick_32 : decode cX7_pick 32 = .ok (.ishr, 1) := by decide +kernel
theorem dX7_pick_33 : decode cX7_pick 33 = .ok (.iconst 1, 1) := by decide +kernel
theorem dX7_pick_34 : decode cX7_pick 34 = .ok (.iand, 1) := by decide +kernel
theorem dX7_pick_35 : decode cX7_pick 35 = .ok (.ifCond .eq 35, 3) := by decide +kernel
theorem dX7_pick_38 : decode cX7_pick 38 = .ok (.aload_n 0, 1) := by decide +kernel
theorem dX7_pick_39 : decode cX7_pick 39 = .ok (.iload_n 1, 1) := by decide +kernel
theorem dX7_pick_40 : decode cX7_pick 40 = .ok (.iload 6, 2) := by decide +kernel
theorem dX7_pick_42 : decode cX7_pick 42 = .ok (.iload_n 2, 1) := by decide +kernel
theorem dX7_pick_43 : decode cX7_pick 43 = .ok (.invokevirtual 87, 3) := by decide +kernel
theorem dX7_pick_46 : decode cX7_pick 46 = .ok (.istore 7, 2) := by decide +kernel
theorem dX7_pick_48 : decode cX7_pick 48 = .ok (.iload 4, 2) := by decide +kernel
theorem dX7_pick_50 : decode cX7_pick 50 = .ok (.bipush (-2), 2) := by decide +kernel
theorem dX7_pick_52 : decode cX7_pick 52 = .ok (.if_icmp .eq 10, 3) := by decide +kernel
theorem dX7_pick_55 : decode cX7_pick 55 = .ok (.iload 7, 2) := by decide +kernel
theorem dX7_pick_57 : decode cX7_pick 57 = .ok (.iload 5, 2) := by decide +kernel
theorem dX7_pick_59 : decode cX7_pick 59 = .ok (.if_icmp .le 11, 3) := by decide +kernel
theorem dX7_pick_62 : decode cX7_pick 62 = .ok (.iload 6, 2) := by decide +kernel
theorem dX7_pick_64 : decode cX7_pick 64 = .ok (.istore 4, 2) := by decide +kernel
theorem dX7_pick_66 : decode cX7_pick 66 = .ok (.iload 7, 2) := by decide +kernel
theorem dX7_pick_68 : decode cX7_pick 68 = .ok (.istore 5, 2) := by decide +kernel
theorem dX7_pick_70 : decode cX7_pick 70 = .ok (.iinc 6 1, 3) := by decide +kernel
theorem dX7_pick_73 : decode cX7_pick 73 = .ok (.goto (-56), 3) := by decide +kernel
theorem dX7_pick_76 : decode cX7_pick 76 = .ok (.iload 4, 2) := by decide +kernel
theorem dX7_pick_78 : decode cX7_pick 78 = .ok (.ireturn, 1) := by decide +kernel
set_option maxHeartbeats 4000000 in
set_option maxRecDepth 20000 in
theorem b_sh_pick_b62 {X : Cx} {d : Nat} (hX : Ok M_sh_pick (d + 3) X) {r : Int32 × Mem} (hr : RetI M_sh_pick X r.1 r.2) {k17 : Int32 → Int32 → Int32 → Int32 → Int32 → Int32 → Mem → Option (Int32 × Mem)} (hk17 : ∀ (x1 : Int32) (x2 : Int32) (x3 : Int32) (x4 : Int32) (x5 : Int32) (x6 : Int32) (μ : Mem) (dy : Nat → Nat), k17 x1 x2 x3 x4 x5 x6 μ = some r → AW X 17 [(0, .ref (gA (xG X) 93)), (1, .int x1), (2, .int x2), (3, .int x3), (4, .int x4), (5, .int x5), (6, .int x6)] [] μ dy) (x1 : Int32) (x2 : Int32) (x3 : Int32) (x6 : Int32) (x7 : Int32) (μ : Mem) (dy : Nat → Nat) (hf : f_sh_pick_b62 k17 x1 x2 x3 x6 x7 μ = some r) : AW X 62 [(0, .ref (gA (xG X) 93)), (1, .int x1), (2, .int x2), (3, .int x3), (6, .int x6), (7, .int x7)] [] μ dy := by
  unfold f_sh_pick_b62 at hf
  refine r_iload hX dX7_pick_62 4 rfl ?_
  refine r_istore hX dX7_pick_64 rfl (ls' := [(4, .int x6), (0, .ref (gA (xG X) 93)), (1, .int x1), (2, .int x2), (3, .int x3), (6, .int x6), (7, .int x7)]) rfl ?_
  refine r_iload hX dX7_pick_66 6 rfl ?_
  refine r_istore hX dX7_pick_68 rfl (ls' := [(5, .int x7), (4, .int x6), (0, .ref (gA (xG X) 93)), (1, .int x1), (2, .int x2), (3, .int x3), (6, .int x6), (7, .int x7)]) rfl ?_
  refine r_iinc hX (x6 + (1 : Int32)) dX7_pick_70 6 rfl rfl rfl (ls' := [(6, .int (x6 + (1 : Int32))), (5, .int x7), (4, .int x6), (0, .ref (gA (xG X) 93)), (1, .int x1), (2, .int x2), (3, .int x3), (7, .int x7)]) rfl ?_
  refine r_goto hX 17 dX7_pick_73 rfl ?_
  refine r_weak [3, 4, 5, 6, 2, 1, 0] rfl ?_
  exact hk17 _ _ _ _ _ _ _ _ hf
set_option maxHeartbeats 4000000 in
set_option maxRecDepth 20000 in
theorem b_sh_pick_b17 {X : Cx} {d : Nat} (hX : Ok M_sh_pick (d + 3) X) {r : Int32 × Mem} (hr : RetI M_sh_pick X r.1 r.2) : ∀ (n : Nat) (x1 : Int32) (x2 : Int32) (x3 : Int32) (x4 : Int32) (x5 : Int32) (x6 : Int32) (μ : Mem) (dy : Nat → Nat), f_sh_pick_b17 n x1 x2 x3 x4 x5 x6 μ = some r → AW X 17 [(0, .ref (gA (xG X) 93)), (1, .int x1), (2, .int x2), (3, .int x3), (4, .int x4), (5, .int x5), (6, .int x6)] [] μ dy := by
  intro n
  induction n with
  | zero => intro x1 x2 x3 x4 x5 x6 μ dy hf; exact nomatch hf
  | succ n ih =>
    intro x1 x2 x3 x4 x5 x6 μ dy hf
    rw [f_sh_pick_b17] at hf
    refine r_iload hX dX7_pick_17 6 rfl ?_
    refine r_aload_n hX dX7_pick_19 0 rfl ?_
    refine r_get hX fl_X7_20 (w_93 _ _ _) rfl dX7_pick_20 ?_
    refine r_getN hX fl_X7_40 (w_4 _ _ _) rfl dX7_pick_23 ?_
    refine r_icmp_ge hX 76 dX7_pick_26 rfl (fun hc4 => ?_) (fun hc4 => ?_)
    · rw [if_pos hc4] at hf
      refine r_iload hX dX7_pick_76 4 rfl ?_
      exact fin_I hf hr _ _ _ dX7_pick_78
    · rw [if_neg hc4] at hf
      refine r_iload_n hX dX7_pick_29 3 rfl ?_
      refine r_iload hX dX7_pick_30 6 rfl ?_
      refine r_ishr hX dX7_pick_32 ?_
      refine r_iconst hX (1 : Int32) dX7_pick_33 rfl ?_
      refine r_iand hX dX7_pick_34 ?_
      refine r_if_eq hX 70 dX7_pick_35 rfl (fun hc5 => ?_) (fun hc5 => ?_)
      · rw [if_pos hc5] at hf
        refine r_iinc hX (x6 + (1 : Int32)) dX7_pick_70 6 rfl rfl rfl (ls' := [(6, .int (x6 + (1 : Int32))), (0, .ref (gA (xG X) 93)), (1, .int x1), (2, .int x2), (3, .int x3), (4, .int x4), (5, .int x5)]) rfl ?_
        refine r_goto hX 17 dX7_pick_73 rfl ?_
        refine r_weak [1, 2, 3, 4, 5, 6, 0] rfl ?_
        exact ih _ _ _ _ _ _ _ _ hf
      · rw [if_neg hc5] at hf
        refine r_aload_n hX dX7_pick_38 0 rfl ?_
        refine r_iload_n hX dX7_pick_39 1 rfl ?_
        refine r_iload hX dX7_pick_40 6 rfl ?_
        refine r_iload_n hX dX7_pick_42 2 rfl ?_
        obtain ⟨v8, μ6, h7, hf⟩ := bd2_eq hf
        refine r_callVI (Ok.le hX (by omega)) (c_sh_rate (d := d)  h7) cv_X7_87 (w_93 _ _ _) rfl rfl (st := []) rfl rfl rfl dX7_pick_43 (fun dy => ?_)
        refine r_istore hX dX7_pick_46 rfl (ls' := [(7, .int v8), (0, .ref (gA (xG X) 93)), (1, .int x1), (2, .int x2), (3, .int x3), (4, .int x4), (5, .int x5), (6, .int x6)]) rfl ?_
        refine r_iload hX dX7_pick_48 5 rfl ?_
        refine r_bipush hX (-2 : Int32) dX7_pick_50 rfl ?_
        refine r_icmp_eq hX 62 dX7_pick_52 rfl (fun hc9 => ?_) (fun hc9 => ?_)
        · rw [if_pos hc9] at hf
          refine r_weak [1, 2, 3, 4, 7, 0] rfl ?_
          exact b_sh_pick_b62 hX hr ih _ _ _ _ _ _ _ hf
        · rw [if_neg hc9] at hf
          refine r_iload hX dX7_pick_55 0 rfl ?_
          refine r_iload hX dX7_pick_57 6 rfl ?_
          refine r_icmp_le hX 70 dX7_pick_59 rfl (fun hc10 => ?_) (fun hc10 => ?_)
          · rw [if_pos hc10] at hf
            refine r_iinc hX (x6 + (1 : Int32)) dX7_pick_70 7 rfl rfl rfl (ls' := [(6, .int (x6 + (1 : Int32))), (7, .int v8), (0, .ref (gA (xG X) 93)), (1, .int x1), (2, .int x2), (3, .int x3), (4, .int x4), (5, .int x5)]) rfl ?_
            refine r_goto hX 17 dX7_pick_73 rfl ?_
            refine r_weak [2, 3, 4, 5, 6, 7, 0] rfl ?_
            exact ih _ _ _ _ _ _ _ _ hf
          · rw [if_neg hc10] at hf
            refine r_weak [1, 2, 3, 4, 7, 0] rfl ?_
            exact b_sh_pick_b62 hX hr ih _ _ _ _ _ _ _ hf
set_option maxHeartbeats 4000000 in
set_option maxRecDepth 20000 in
theorem c_sh_pick {G : Gx} {d : Nat} {x1 : Int32} {x2 : Int32} {μ : Mem} {r : Int32 × Mem} (hf : f_sh_pick x1 x2 μ = some r) : Con G M_sh_pick (d + 3) [.ref (gA G 93), .int x1, .int x2] μ (some (.int r.1), r.2) := by
  refine Con.ofI ⟨rfl, rfl, Nat.le_of_ble_eq_true rfl⟩ rfl rfl (fun X hG hX hr dy => ?_)
  subst hG
  show AW X 0 [(0, .ref (gA (xG X) 93)), (1, .int x1), (2, .int x2)] [] μ dy
  unfold f_sh_pick at hf
  refine r_aload_n hX dX7_pick_0 0 rfl ?_
  refine r_iload_n hX dX7_pick_1 1 rfl ?_
  refine r_iload_n hX dX7_pick_2 2 rfl ?_
  obtain ⟨v3, μ1, h2, hf⟩ := bd2_eq hf
  refine r_callVI (Ok.le hX (by omega)) (c_sh_open (d := d)  h2) cv_X7_84 (w_93 _ _ _) rfl rfl (st := []) rfl rfl rfl dX7_pick_3 (fun dy => ?_)
  refine r_istore_n hX dX7_pick_6 rfl (ls' := [(3, .int v3), (0, .ref (gA (xG X) 93)), (1, .int x1), (2, .int x2)]) rfl ?_
  refine r_bipush hX (-2 : Int32) dX7_pick_7 rfl ?_
  refine r_istore hX dX7_pick_9 rfl (ls' := [(4, .int (-2 : Int32)), (3, .int v3), (0, .ref (gA (xG X) 93)), (1, .int x1), (2, .int x2)]) rfl ?_
  refine r_iconst hX (0 : Int32) dX7_pick_11 rfl ?_
  refine r_istore hX dX7_pick_12 rfl (ls' := [(5, .int (0 : Int32)), (4, .int (-2 : Int32)), (3, .int v3), (0, .ref (gA (xG X) 93)), (1, .int x1), (2, .int x2)]) rfl ?_
  refine r_iconst hX (0 : Int32) dX7_pick_14 rfl ?_
  refine r_istore hX dX7_pick_15 rfl (ls' := [(6, .int (0 : Int32)), (5, .int (0 : Int32)), (4, .int (-2 : Int32)), (3, .int v3), (0, .ref (gA (xG X) 93)), (1, .int x1), (2, .int x2)]) rfl ?_
  refine r_weak [4, 5, 6, 3, 2, 1, 0] rfl ?_
  exact b_sh_pick_b17 hX hr FU _ _ _ _ _ _ _ _ hf
theorem dX7_serve_0 : decode cX7_serve 0 = .ok (.aload_n 0, 1) := by decide +kernel
theorem dX7_serve_1 : decode cX7_serve 1 = .ok (.iload_n 1, 1) := by decide +kernel
theorem dX7_serve_2 : decode cX7_serve 2 = .ok (.iload_n 2, 1) := by decide +kernel
theorem dX7_serve_3 : decode cX7_serve 3 = .ok (.invokevirtual 120, 3) := by decide +kernel
theorem dX7_serve_6 : decode cX7_serve 6 = .ok (.istore_n 3, 1) := by decide +kernel
theorem dX7_serve_7 : decode cX7_serve 7 = .ok (.iload_n 3, 1) := by decide +kernel
theorem dX7_serve_8 : decode cX7_serve 8 = .ok (.ifCond .ge 5, 3) := by decide +kernel
theorem dX7_serve_11 : decode cX7_serve 11 = .ok (.iload_n 2, 1) := by decide +kernel
theorem dX7_serve_12 : decode cX7_serve 12 = .ok (.ireturn, 1) := by decide +kernel
theorem dX7_serve_13 : decode cX7_serve 13 = .ok (.aload_n 0, 1) := by decide +kernel
theorem dX7_serve_14 : decode cX7_serve 14 = .ok (.getfield 16, 3) := by decide +kernel
theorem dX7_serve_17 : decode cX7_serve 17 = .ok (.iload_n 1, 1) := by decide +kernel
theorem dX7_serve_18 : decode cX7_serve 18 = .ok (.dup2, 1) := by decide +kernel
theorem dX7_serve_19 : decode cX7_serve 19 = .ok (.iaload, 1) := by decide +kernel
theorem dX7_serve_20 : decode cX7_serve 20 = .ok (.aload_n 0, 1) := by decide +kernel
theorem dX7_serve_21 : decode cX7_serve 21 = .ok (.getfield 20, 3) := by decide +kernel
theorem dX7_serve_24 : decode cX7_serve 24 = .ok (.getfield 49, 3) := by decide +kernel
theorem dX7_serve_27 : decode cX7_serve 27 = .ok (.iload_n 3, 1) := by decide +kernel
theorem dX7_serve_28 : decode cX7_serve 28 = .ok (.iaload, 1) := by decide +kernel
theorem dX7_serve_29 : decode cX7_serve 29 = .ok (.iadd, 1) := by decide +kernel
theorem dX7_serve_30 : decode cX7_serve 30 = .ok (.iastore, 1) := by decide +kernel
theorem dX7_serve_31 : decode cX7_serve 31 = .ok (.iload_n 2, 1) := by decide +kernel
theorem dX7_serve_32 : decode cX7_serve 32 = .ok (.iconst 1, 1) := by decide +kernel
theorem dX7_serve_33 : decode cX7_serve 33 = .ok (.iload_n 3, 1) := by decide +kernel
theorem dX7_serve_34 : decode cX7_serve 34 = .ok (.ishl, 1) := by decide +kernel
theorem dX7_serve_35 : decode cX7_serve 35 = .ok (.ixor, 1) := by decide +kernel
theorem dX7_serve_36 : decode cX7_serve 36 = .ok (.ireturn, 1) := by decide +kernel
set_option maxHeartbeats 4000000 in
set_option maxRecDepth 20000 in
theorem c_sh_serve {G : Gx} {d : Nat} {x1 : Int32} {x2 : Int32} {μ : Mem} {r : Int32 × Mem} (hf : f_sh_serve x1 x2 μ = some r) : Con G M_sh_serve (d + 4) [.ref (gA G 93), .int x1, .int x2] μ (some (.int r.1), r.2) := by
  refine Con.ofI ⟨rfl, rfl, Nat.le_of_ble_eq_true rfl⟩ rfl rfl (fun X hG hX hr dy => ?_)
  subst hG
  show AW X 0 [(0, .ref (gA (xG X) 93)), (1, .int x1), (2, .int x2)] [] μ dy
  unfold f_sh_serve at hf
  refine r_aload_n hX dX7_serve_0 0 rfl ?_
  refine r_iload_n hX dX7_serve_1 1 rfl ?_
  refine r_iload_n hX dX7_serve_2 2 rfl ?_
  obtain ⟨v3, μ1, h2, hf⟩ := bd2_eq hf
  refine r_callVI (Ok.le hX (by omega)) (c_sh_pick (d := d)  h2) cv_X7_120 (w_93 _ _ _) rfl rfl (st := []) rfl rfl rfl dX7_serve_3 (fun dy => ?_)
  refine r_istore_n hX dX7_serve_6 rfl (ls' := [(3, .int v3), (0, .ref (gA (xG X) 93)), (1, .int x1), (2, .int x2)]) rfl ?_
  refine r_iload_n hX dX7_serve_7 0 rfl ?_
  refine r_if_ge hX 13 dX7_serve_8 rfl (fun hc4 => ?_) (fun hc4 => ?_)
  · rw [if_pos hc4] at hf
    refine r_aload_n hX dX7_serve_13 1 rfl ?_
    refine r_get hX fl_X7_16 (w_93 _ _ _) rfl dX7_serve_14 ?_
    refine r_iload_n hX dX7_serve_17 2 rfl ?_
    refine r_dup2 hX dX7_serve_18 rfl rfl ?_
    obtain ⟨b5, hf⟩ := chk_eq hf
    refine r_iald hX (w_109 _ _ _) (inb_in b5) dX7_serve_19 ?_
    refine r_aload_n hX dX7_serve_20 1 rfl ?_
    refine r_get hX fl_X7_20 (w_93 _ _ _) rfl dX7_serve_21 ?_
    refine r_getN hX fl_X7_49 (w_4 _ _ _) rfl dX7_serve_24 ?_
    refine r_iload_n hX dX7_serve_27 0 rfl ?_
    obtain ⟨b6, hf⟩ := chk_eq hf
    refine r_iald hX (w_6 _ _ _) (inb_in b6) dX7_serve_28 ?_
    refine r_iadd hX dX7_serve_29 ?_
    obtain ⟨b7, hf⟩ := chk_eq hf
    obtain ⟨μ8, e9, hf⟩ := bnd_eq hf
    refine r_iast hX (w_109 _ _ _) (inb_in b7) (s_109 _ _ _ _ _) e9 rfl dX7_serve_30 ?_
    refine r_iload_n hX dX7_serve_31 3 rfl ?_
    refine r_iconst hX (1 : Int32) dX7_serve_32 rfl ?_
    refine r_iload_n hX dX7_serve_33 0 rfl ?_
    refine r_ishl hX dX7_serve_34 ?_
    refine r_ixor hX dX7_serve_35 ?_
    exact fin_I hf hr _ _ _ dX7_serve_36
  · rw [if_neg hc4] at hf
    refine r_iload_n hX dX7_serve_11 3 rfl ?_
    exact fin_I hf hr _ _ _ dX7_serve_12
theorem dX7_trade_0 : decode cX7_trade 0 = .ok (.aload_n 0, 1) := by decide +kernel
theorem dX7_trade_1 : decode cX7_trade 1 = .ok (.invokevirtual 91, 3) := by decide +kernel
theorem dX7_trade_4 : decode cX7_trade 4 = .ok (.aload_n 0, 1) := by decide +kernel
theorem dX7_trade_5 : decode cX7_trade 5 = .ok (.getfield 16, 3) := by decide +kernel
theorem dX7_trade_8 : decode cX7_trade 8 = .ok (.iconst 0, 1) := by decide +kernel
theorem dX7_trade_9 : decode cX7_trade 9 = .ok (.invokestatic 94, 3) := by decide +kernel
theorem dX7_trade_12 : decode cX7_trade 12 = .ok (.aload_n 0, 1) := by decide +kernel
theorem dX7_trade_13 : decode cX7_trade 13 = .ok (.getfield 20, 3) := by decide +kernel
theorem dX7_trade_16 : decode cX7_trade 16 = .ok (.invokevirtual 100, 3) := by decide +kernel
theorem dX7_trade_19 : decode cX7_trade 19 = .ok (.istore_n 2, 1) := by decide +kernel
theorem dX7_trade_20 : decode cX7_trade 20 = .ok (.iconst 0, 1) := by decide +kernel
theorem dX7_trade_21 : decode cX7_trade 21 = .ok (.istore_n 3, 1) := by decide +kernel
theorem dX7_trade_22 : decode cX7_trade 22 = .ok (.iload_n 3, 1) := by decide +kernel
theorem dX7_trade_23 : decode cX7_trade 23 = .ok (.iload_n 1, 1) := by decide +kernel
theorem dX7_trade_24 : decode cX7_trade 24 = .ok (.if_icmp .ge 28, 3) := by decide +kernel
theorem dX7_trade_27 : decode cX7_trade 27 = .ok (.aload_n 0, 1) := by decide +kernel
theorem dX7_trade_28 : decode cX7_trade 28 = .ok (.getfield 24, 3) := by decide +kernel
theorem dX7_trade_31 : decode cX7_trade 31 = .ok (.aload_n 0, 1) := by decide +kernel
theorem dX7_trade_32 : decode cX7_trade 32 = .ok (.iconst 0, 1) := by decide +kernel
theorem dX7_trade_33 : decode cX7_trade 33 = .ok (.aload_n 0, 1) := by decide +kernel
theorem dX7_trade_34 : decode cX7_trade 34 = .ok (.iconst 1, 1) := by decide +kernel
theorem dX7_trade_35 : decode cX7_trade 35 = .ok (.iload_n 2, 1) := by decide +kernel
theorem dX7_trade_36 : decode cX7_trade 36 = .ok (.invokevirtual 103, 3) := by decide +kernel
theorem dX7_trade_39 : decode cX7_trade 39 = .ok (.invokevirtual 103, 3) := by decide +kernel
theorem dX7_trade_42 : decode cX7_trade 42 = .ok (.invokevirtual 106, 3) := by decide +kernel
theorem dX7_trade_45 : decode cX7_trade 45 = .ok (.istore_n 2, 1) := by decide +kernel
theorem dX7_trade_46 : decode cX7_trade 46 = .ok (.iinc 3 1, 3) := by decide +kernel
theorem dX7_trade_49 : decode cX7_trade 49 = .ok (.goto (-27), 3) := by decide +kernel
theorem dX7_trade_52 : decode cX7_trade 52 = .ok (.aload_n 0, 1) := by decide +kernel
theorem dX7_trade_53 : decode cX7_trade 53 = .ok (.getfield 36, 3) := by decide +kernel
theorem dX7_trade_56 : decode cX7_trade 56 = .ok (.iload_n 2, 1) := by decide +kernel
theorem dX7_trade_57 : decode cX7_trade 57 = .ok (.i2l, 1) := by decide +kernel
theorem dX7_trade_58 : decode cX7_trade 58 = .ok (.invokevirtual 111, 3) := by decide +kernel
theorem dX7_trade_61 : decode cX7_trade 61 = .ok (.aload_n 0, 1) := by decide +kernel
theorem dX7_trade_62 : decode cX7_trade 62 = .ok (.getfield 36, 3) := by decide +kernel
theorem dX7_trade_65 : decode cX7_trade 65 = .ok (.aload_n 0, 1) := by decide +kernel
theorem dX7_trade_66 : decode cX7_trade 66 = .ok (.getfield 16, 3) := by decide +kernel
theorem dX7_trade_69 : decode cX7_trade 69 = .ok (.iconst 0, 1) := by decide +kernel
theorem dX7_trade_70 : decode cX7_trade 70 = .ok (.iaload, 1) := by decide +kernel
theorem dX7_trade_71 : decode cX7_trade 71 = .ok (.i2l, 1) := by decide +kernel
theorem dX7_trade_72 : decode cX7_trade 72 = .ok (.invokevirtual 117, 3) := by decide +kernel
theorem dX7_trade_75 : decode cX7_trade 75 = .ok (.aload_n 0, 1) := by decide +kernel
theorem dX7_trade_76 : decode cX7_trade 76 = .ok (.getfield 36, 3) := by decide +kernel
theorem dX7_trade_79 : decode cX7_trade 79 = .ok (.aload_n 0, 1) := by decide +kernel
theorem dX7_trade_80 : decode cX7_trade 80 = .ok (.getfield 16, 3) := by decide +kernel
theorem dX7_trade_83 : decode cX7_trade 83 = .ok (.iconst 1, 1) := by decide +kernel
theorem dX7_trade_84 : decode cX7_trade 84 = .ok (.iaload, 1) := by decide +kernel
theorem dX7_trade_85 : decode cX7_trade 85 = .ok (.i2l, 1) := by decide +kernel
theorem dX7_trade_86 : decode cX7_trade 86 = .ok (.invokevirtual 117, 3) := by decide +kernel
theorem dX7_trade_89 : decode cX7_trade 89 = .ok (.iload_n 2, 1) := by decide +kernel
theorem dX7_trade_90 : decode cX7_trade 90 = .ok (.invokestatic 62, 3) := by decide +kernel
theorem dX7_trade_93 : decode cX7_trade 93 = .ok (.ireturn, 1) := by decide +kernel
set_option maxHeartbeats 4000000 in
set_option maxRecDepth 20000 in
theorem b_sh_trade_b22 {X : Cx} {d : Nat} (hX : Ok M_sh_trade (d + 5) X) {r : Int32 × Mem} (hr : RetI M_sh_trade X r.1 r.2) : ∀ (n : Nat) (x1 : Int32) (x2 : Int32) (x3 : Int32) (μ : Mem) (dy : Nat → Nat), f_sh_trade_b22 n x1 x2 x3 μ = some r → AW X 22 [(0, .ref (gA (xG X) 93)), (1, .int x1), (2, .int x2), (3, .int x3)] [] μ dy := by
  intro n
  induction n with
  | zero => intro x1 x2 x3 μ dy hf; exact nomatch hf
  | succ n ih =>
    intro x1 x2 x3 μ dy hf
    rw [f_sh_trade_b22] at hf
    refine r_iload_n hX dX7_trade_22 3 rfl ?_
    refine r_iload_n hX dX7_trade_23 1 rfl ?_
    refine r_icmp_ge hX 52 dX7_trade_24 rfl (fun hc8 => ?_) (fun hc8 => ?_)
    · rw [if_pos hc8] at hf
      refine r_aload_n hX dX7_trade_52 0 rfl ?_
      refine r_get hX fl_X7_36 (w_93 _ _ _) rfl dX7_trade_53 ?_
      refine r_iload_n hX dX7_trade_56 2 rfl ?_
      refine r_i2l hX dX7_trade_57 ?_
      obtain ⟨μ9, h10, hf⟩ := bd1_eq hf
      refine r_callVV (Ok.le hX (by omega)) (c_rw_only (d := d)  h10) cv_X7_111 (w_2 _ _ _) rfl rfl (st := []) rfl rfl rfl dX7_trade_58 (fun dy => ?_)
      refine r_aload_n hX dX7_trade_61 0 rfl ?_
      refine r_get hX fl_X7_36 (w_93 _ _ _) rfl dX7_trade_62 ?_
      refine r_aload_n hX dX7_trade_65 0 rfl ?_
      refine r_get hX fl_X7_16 (w_93 _ _ _) rfl dX7_trade_66 ?_
      refine r_iconst hX (0 : Int32) dX7_trade_69 rfl ?_
      obtain ⟨b11, hf⟩ := chk_eq hf
      refine r_iald hX (w_109 _ _ _) (inb_in b11) dX7_trade_70 ?_
      refine r_i2l hX dX7_trade_71 ?_
      obtain ⟨μ12, h13, hf⟩ := bd1_eq hf
      refine r_callVV (Ok.le hX (by omega)) (c_rw_add (d := d)  h13) cv_X7_117 (w_2 _ _ _) rfl rfl (st := []) rfl rfl rfl dX7_trade_72 (fun dy => ?_)
      refine r_aload_n hX dX7_trade_75 0 rfl ?_
      refine r_get hX fl_X7_36 (w_93 _ _ _) rfl dX7_trade_76 ?_
      refine r_aload_n hX dX7_trade_79 0 rfl ?_
      refine r_get hX fl_X7_16 (w_93 _ _ _) rfl dX7_trade_80 ?_
      refine r_iconst hX (1 : Int32) dX7_trade_83 rfl ?_
      obtain ⟨b14, hf⟩ := chk_eq hf
      refine r_iald hX (w_109 _ _ _) (inb_in b14) dX7_trade_84 ?_
      refine r_i2l hX dX7_trade_85 ?_
      obtain ⟨μ15, h16, hf⟩ := bd1_eq hf
      refine r_callVV (Ok.le hX (by omega)) (c_rw_add (d := d)  h16) cv_X7_117 (w_2 _ _ _) rfl rfl (st := []) rfl rfl rfl dX7_trade_86 (fun dy => ?_)
      refine r_iload_n hX dX7_trade_89 2 rfl ?_
      obtain ⟨v19, μ17, h18, hf⟩ := bd2_eq hf
      refine r_callSI (Ok.le hX (by omega)) (c_jd_bitCount (d := d)  h18) cs_X7_62 (st := []) rfl rfl rfl dX7_trade_90 (fun dy => ?_)
      exact fin_I hf hr _ _ _ dX7_trade_93
    · rw [if_neg hc8] at hf
      refine r_aload_n hX dX7_trade_27 0 rfl ?_
      refine r_get hX fl_X7_24 (w_93 _ _ _) rfl dX7_trade_28 ?_
      refine r_aload_n hX dX7_trade_31 0 rfl ?_
      refine r_iconst hX (0 : Int32) dX7_trade_32 rfl ?_
      refine r_aload_n hX dX7_trade_33 0 rfl ?_
      refine r_iconst hX (1 : Int32) dX7_trade_34 rfl ?_
      refine r_iload_n hX dX7_trade_35 2 rfl ?_
      obtain ⟨v22, μ20, h21, hf⟩ := bd2_eq hf
      refine r_callVI (Ok.le hX (by omega)) (c_sh_serve (d := d)  h21) cv_X7_103 (w_93 _ _ _) rfl rfl (st := [.int (0 : Int32), .ref (gA (xG X) 93), .ref (gA (xG X) 80)]) rfl rfl rfl dX7_trade_36 (fun dy => ?_)
      obtain ⟨v25, μ23, h24, hf⟩ := bd2_eq hf
      refine r_callVI (Ok.le hX (by omega)) (c_sh_serve (d := d)  h24) cv_X7_103 (w_93 _ _ _) rfl rfl (st := [.ref (gA (xG X) 80)]) rfl rfl rfl dX7_trade_39 (fun dy => ?_)
      obtain ⟨v28, μ26, h27, hf⟩ := bd2_eq hf
      refine r_callVI (Ok.le hX (by omega)) (c_he_after (d := d) (by decide) h27) cv_X7_106 (w_80 _ _ _) rfl rfl (st := []) rfl rfl rfl dX7_trade_42 (fun dy => ?_)
      refine r_istore_n hX dX7_trade_45 rfl (ls' := [(2, .int v28), (0, .ref (gA (xG X) 93)), (1, .int x1), (3, .int x3)]) rfl ?_
      refine r_iinc hX (x3 + (1 : Int32)) dX7_trade_46 3 rfl rfl rfl (ls' := [(3, .int (x3 + (1 : Int32))), (2, .int v28), (0, .ref (gA (xG X) 93)), (1, .int x1)]) rfl ?_
      refine r_goto hX 22 dX7_trade_49 rfl ?_
      refine r_weak [2, 3, 1, 0] rfl ?_
      exact ih _ _ _ _ _ hf
set_option maxHeartbeats 4000000 in
set_option maxRecDepth 20000 in
theorem c_sh_trade {G : Gx} {d : Nat} {x1 : Int32} {μ : Mem} {r : Int32 × Mem} (hf : f_sh_trade x1 μ = some r) : Con G M_sh_trade (d + 5) [.ref (gA G 93), .int x1] μ (some (.int r.1), r.2) := by
  refine Con.ofI ⟨rfl, rfl, Nat.le_of_ble_eq_true rfl⟩ rfl rfl (fun X hG hX hr dy => ?_)
  subst hG
  show AW X 0 [(0, .ref (gA (xG X) 93)), (1, .int x1)] [] μ dy
  unfold f_sh_trade at hf
  refine r_aload_n hX dX7_trade_0 0 rfl ?_
  obtain ⟨μ1, h2, hf⟩ := bd1_eq hf
  refine r_callVV (Ok.le hX (by omega)) (c_sh_learn (d := d)  h2) cv_X7_91 (w_93 _ _ _) rfl rfl (st := []) rfl rfl rfl dX7_trade_1 (fun dy => ?_)
  refine r_aload_n hX dX7_trade_4 0 rfl ?_
  refine r_get hX fl_X7_16 (w_93 _ _ _) rfl dX7_trade_5 ?_
  refine r_iconst hX (0 : Int32) dX7_trade_8 rfl ?_
  obtain ⟨μ3, h4, hf⟩ := bd1_eq hf
  refine r_callSV (Ok.le hX (by omega)) (c_jd_fill (d := d)  h4) cs_X7_94 (st := []) rfl rfl rfl dX7_trade_9 (fun dy => ?_)
  refine r_aload_n hX dX7_trade_12 0 rfl ?_
  refine r_get hX fl_X7_20 (w_93 _ _ _) rfl dX7_trade_13 ?_
  obtain ⟨v7, μ5, h6, hf⟩ := bd2_eq hf
  refine r_callVI (Ok.le hX (by omega)) (c_st_now (d := d)  h6) cv_X7_100 (w_4 _ _ _) rfl rfl (st := []) rfl rfl rfl dX7_trade_16 (fun dy => ?_)
  refine r_istore_n hX dX7_trade_19 rfl (ls' := [(2, .int v7), (0, .ref (gA (xG X) 93)), (1, .int x1)]) rfl ?_
  refine r_iconst hX (0 : Int32) dX7_trade_20 rfl ?_
  refine r_istore_n hX dX7_trade_21 rfl (ls' := [(3, .int (0 : Int32)), (2, .int v7), (0, .ref (gA (xG X) 93)), (1, .int x1)]) rfl ?_
  refine r_weak [2, 3, 1, 0] rfl ?_
  exact b_sh_trade_b22 hX hr FU _ _ _ _ _ hf
theorem dX7_bestForZero_0 : decode cX7_bestForZero 0 = .ok (.iconst 3, 1) := by decide +kernel
theorem dX7_bestForZero_1 : decode cX7_bestForZero 1 = .ok (.iload_n 2, 1) := by decide +kernel
theorem dX7_bestForZero_2 : decode cX7_bestForZero 2 = .ok (.iadd, 1) := by decide +kernel
theorem dX7_bestForZero_3 : decode cX7_bestForZero 3 = .ok (.istore_n 3, 1) := by decide +kernel
theorem dX7_bestForZero_4 : decode cX7_bestForZero 4 = .ok (.aload_n 0, 1) := by decide +kernel
theorem dX7_bestForZero_5 : decode cX7_bestForZero 5 = .ok (.getfield 28, 3) := by decide +kernel
theorem dX7_bestForZero_8 : decode cX7_bestForZero 8 = .ok (.iload_n 3, 1) := by decide +kernel
theorem dX7_bestForZero_9 : decode cX7_bestForZero 9 = .ok (.iload_n 1, 1) := by decide +kernel
theorem dX7_bestForZero_10 : decode cX7_bestForZero 10 = .ok (.invokevirtual 135, 3) := by decide +kernel
theorem dX7_bestForZero_13 : decode cX7_bestForZero 13 = .ok (.istore 4, 2) := by decide +kernel
theorem dX7_bestForZero_15 : decode cX7_bestForZero 15 = .ok (.iload 4, 2) := by decide +kernel
theorem dX7_bestForZero_17 : decode cX7_bestForZero 17 = .ok (.iconst (-1), 1) := by decide +kernel
theorem dX7_bestForZero_18 : decode cX7_bestForZero 18 = .ok (.if_icmp .eq 6, 3) := by decide +kernel
theorem dX7_bestForZero_21 : decode cX7_bestForZero 21 = .ok (.iload 4, 2) := by decide +kernel
theorem dX7_bestForZero_23 : decode cX7_bestForZero 23 = .ok (.ireturn, 1) := by decide +kernel
theorem dX7_bestForZero_24 : decode cX7_bestForZero 24 = .ok (.aload_n 0, 1) := by decide +kernel
theorem dX7_bestForZero_25 : decode cX7_bestForZero 25 = .ok (.aload_n 0, 1) := by decide +kernel
theorem dX7_bestForZero_26 : decode cX7_bestForZero 26 = .ok (.getfield 24, 3) := by decide +kernel
theorem dX7_bestForZero_29 : decode cX7_bestForZero 29 = .ok (.iload_n 1, 1) := by decide +kernel
theorem dX7_bestForZero_30 : decode cX7_bestForZero 30 = .ok (.invokevirtual 106, 3) := by decide +kernel
theorem dX7_bestForZero_33 : decode cX7_bestForZero 33 = .ok (.iload_n 2, 1) := by decide +kernel
theorem dX7_bestForZero_34 : decode cX7_bestForZero 34 = .ok (.iconst 1, 1) := by decide +kernel
theorem dX7_bestForZero_35 : decode cX7_bestForZero 35 = .ok (.isub, 1) := by decide +kernel
theorem dX7_bestForZero_36 : decode cX7_bestForZero 36 = .ok (.invokevirtual 129, 3) := by decide +kernel
theorem dX7_bestForZero_39 : decode cX7_bestForZero 39 = .ok (.istore 5, 2) := by decide +kernel
theorem dX7_bestForZero_41 : decode cX7_bestForZero 41 = .ok (.aload_n 0, 1) := by decide +kernel
theorem dX7_bestForZero_42 : decode cX7_bestForZero 42 = .ok (.iconst 0, 1) := by decide +kernel
theorem dX7_bestForZero_43 : decode cX7_bestForZero 43 = .ok (.iload_n 1, 1) := by decide +kernel
theorem dX7_bestForZero_44 : decode cX7_bestForZero 44 = .ok (.invokevirtual 84, 3) := by decide +kernel
theorem dX7_bestForZero_47 : decode cX7_bestForZero 47 = .ok (.istore 6, 2) := by decide +kernel
theorem dX7_bestForZero_49 : decode cX7_bestForZero 49 = .ok (.iconst 0, 1) := by decide +kernel
theorem dX7_bestForZero_50 : decode cX7_bestForZero 50 = .ok (.istore 7, 2) := by decide +kernel
theorem dX7_bestForZero_52 : decode cX7_bestForZero 52 = .ok (.iload 7, 2) := by decide +kernel
theorem dX7_bestForZero_54 : decode cX7_bestForZero 54 = .ok (.aload_n 0, 1) := by decide +kernel
theorem dX7_bestForZero_55 : decode cX7_bestForZero 55 = .ok (.getfield 20, 3) := by decide +kernel
theorem dX7_bestForZero_58 : decode cX7_bestForZero 58 = .ok (.getfield 40, 3) := by decide +kernel
theorem dX7_bestForZero_61 : decode cX7_bestForZero 61 = .ok (.if_icmp .ge 46, 3) := by decide +kernel
theorem dX7_bestForZero_64 : decode cX7_bestForZero 64 = .ok (.iload 6, 2) := by decide +kernel
theorem dX7_bestForZero_66 : decode cX7_bestForZero 66 = .ok (.iload 7, 2) := by decide +kernel
theorem dX7_bestForZero_68 : decode cX7_bestForZero 68 = .ok (.ishr, 1) := by decide +kernel
theorem dX7_bestForZero_69 : decode cX7_bestForZero 69 = .ok (.iconst 1, 1) := by decide +kernel
theorem dX7_bestForZero_70 : decode cX7_bestForZero 70 = .ok (.iand, 1) := by decide +kernel
theorem dX7_bestForZero_71 : decode cX7_bestForZero 71 = .ok (.ifCond .eq 30, 3) := by decide +kernel
theorem dX7_bestForZero_74 : decode cX7_bestForZero 74 = .ok (.iload 5, 2) := by decide +kernel
theorem dX7_bestForZero_76 : decode cX7_bestForZero 76 = .ok (.aload_n 0, 1) := by decide +kernel
theorem dX7_bestForZero_77 : decode cX7_bestForZero 77 = .ok (.aload_n 0, 1) := by decide +kernel
theorem dX7_bestForZero_78 : decode cX7_bestForZero 78 = .ok (.getfield 24, 3) := by decide +kernel
theorem dX7_bestForZero_81 : decode cX7_bestForZero 81 = .ok (.iload_n 1, 1) := by decide +kernel
theorem dX7_bestForZero_82 : decode cX7_bestForZero 82 = .ok (.iconst 1, 1) := by decide +kernel
theorem dX7_bestForZero_83 : decode cX7_bestForZero 83 = .ok (.iload 7, 2) := by decide +kernel
theorem dX7_bestForZero_85 : decode cX7_bestForZero 85 = .ok (.ishl, 1) := by decide +kernel
theorem dX7_bestForZero_86 : decode cX7_bestForZero 86 = .ok (.ixor, 1) := by decide +kernel
theorem dX7_bestForZero_87 : decode cX7_bestForZero 87 = .ok (.invokevirtual 106, 3) := by decide +kernel
theorem dX7_bestForZero_90 : decode cX7_bestForZero 90 = .ok (.iload_n 2, 1) := by decide +kernel
theorem dX7_bestForZero_91 : decode cX7_bestForZero 91 = .ok (.iconst 1, 1) := by decide +kernel
theorem dX7_bestForZero_92 : decode cX7_bestForZero 92 = .ok (.isub, 1) := by decide +kernel
theorem dX7_bestForZero_93 : decode cX7_bestForZero 93 = .ok (.invokevirtual 129, 3) := by decide +kernel
theorem dX7_bestForZero_96 : decode cX7_bestForZero 96 = .ok (.invokestatic 147, 3) := by decide +kernel
theorem dX7_bestForZero_99 : decode cX7_bestForZero 99 = .ok (.istore 5, 2) := by decide +kernel
theorem dX7_bestForZero_101 : decode cX7_bestForZero 101 = .ok (.iinc 7 1, 3) := by decide +kernel
theorem dX7_bestForZero_104 : decode cX7_bestForZero 104 = .ok (.goto (-52), 3) := by decide +kernel
theorem dX7_bestForZero_107 : decode cX7_bestForZero 107 = .ok (.aload_n 0, 1) := by decide +kernel
theorem dX7_bestForZero_108 : decode cX7_bestForZero 108 = .ok (.getfield 28, 3) := by decide +kernel
theorem dX7_bestForZero_111 : decode cX7_bestForZero 111 = .ok (.iload_n 3, 1) := by decide +kernel
theorem dX7_bestForZero_112 : decode cX7_bestForZero 112 = .ok (.iload_n 1, 1) := by decide +kernel
theorem dX7_bestForZero_113 : decode cX7_bestForZero 113 = .ok (.iload 5, 2) := by decide +kernel
theorem dX7_bestForZero_115 : decode cX7_bestForZero 115 = .ok (.invokevirtual 143, 3) := by decide +kernel
theorem dX7_bestForZero_118 : decode cX7_bestForZero 118 = .ok (.iload 5, 2) := by decide +kernel
theorem dX7_bestForZero_120 : decode cX7_bestForZero 120 = .ok (.ireturn, 1) := by decide +kernel
set_option maxHeartbeats 4000000 in
set_option maxRecDepth 20000 in
theorem b_sh_bestForZero_b52 {X : Cx} {d : Nat} {R : Int32 → Int32 → Mem → Option (Int32 × Mem)} (hR : ∀ (x1 : Int32) (x2 : Int32) (μ : Mem) (r : Int32 × Mem), R x1 x2 μ = some r → Con (xG X) M_sh_bestForOne (d + 8) [.ref (gA (xG X) 93), .int x1, .int x2] μ (some (.int r.1), r.2)) (hX : Ok M_sh_bestForZero (d + 9) X) {r : Int32 × Mem} (hr : RetI M_sh_bestForZero X r.1 r.2) : ∀ (n : Nat) (x1 : Int32) (x2 : Int32) (x3 : Int32) (x5 : Int32) (x6 : Int32) (x7 : Int32) (μ : Mem) (dy : Nat → Nat), f_sh_bestForZero_b52 R n x1 x2 x3 x5 x6 x7 μ = some r → AW X 52 [(0, .ref (gA (xG X) 93)), (1, .int x1), (2, .int x2), (3, .int x3), (5, .int x5), (6, .int x6), (7, .int x7)] [] μ dy := by
  intro n
  induction n with
  | zero => intro x1 x2 x3 x5 x6 x7 μ dy hf; exact nomatch hf
  | succ n ih =>
    intro x1 x2 x3 x5 x6 x7 μ dy hf
    rw [f_sh_bestForZero_b52] at hf
    refine r_iload hX dX7_bestForZero_52 6 rfl ?_
    refine r_aload_n hX dX7_bestForZero_54 0 rfl ?_
    refine r_get hX fl_X7_20 (w_93 _ _ _) rfl dX7_bestForZero_55 ?_
    refine r_getN hX fl_X7_40 (w_4 _ _ _) rfl dX7_bestForZero_58 ?_
    refine r_icmp_ge hX 107 dX7_bestForZero_61 rfl (fun hc14 => ?_) (fun hc14 => ?_)
    · rw [if_pos hc14] at hf
      refine r_aload_n hX dX7_bestForZero_107 0 rfl ?_
      refine r_get hX fl_X7_28 (w_93 _ _ _) rfl dX7_bestForZero_108 ?_
      refine r_iload_n hX dX7_bestForZero_111 3 rfl ?_
      refine r_iload_n hX dX7_bestForZero_112 1 rfl ?_
      refine r_iload hX dX7_bestForZero_113 4 rfl ?_
      obtain ⟨μ15, h16, hf⟩ := bd1_eq hf
      refine r_callVV (Ok.le hX (by omega)) (c_me_note (d := d)  h16) cv_X7_143 (w_90 _ _ _) rfl rfl (st := []) rfl rfl rfl dX7_bestForZero_115 (fun dy => ?_)
      refine r_iload hX dX7_bestForZero_118 4 rfl ?_
      exact fin_I hf hr _ _ _ dX7_bestForZero_120
    · rw [if_neg hc14] at hf
      refine r_iload hX dX7_bestForZero_64 5 rfl ?_
      refine r_iload hX dX7_bestForZero_66 6 rfl ?_
      refine r_ishr hX dX7_bestForZero_68 ?_
      refine r_iconst hX (1 : Int32) dX7_bestForZero_69 rfl ?_
      refine r_iand hX dX7_bestForZero_70 ?_
      refine r_if_eq hX 101 dX7_bestForZero_71 rfl (fun hc17 => ?_) (fun hc17 => ?_)
      · rw [if_pos hc17] at hf
        refine r_iinc hX (x7 + (1 : Int32)) dX7_bestForZero_101 6 rfl rfl rfl (ls' := [(7, .int (x7 + (1 : Int32))), (0, .ref (gA (xG X) 93)), (1, .int x1), (2, .int x2), (3, .int x3), (5, .int x5), (6, .int x6)]) rfl ?_
        refine r_goto hX 52 dX7_bestForZero_104 rfl ?_
        refine r_weak [1, 2, 3, 4, 5, 6, 0] rfl ?_
        exact ih _ _ _ _ _ _ _ _ hf
      · rw [if_neg hc17] at hf
        refine r_iload hX dX7_bestForZero_74 4 rfl ?_
        refine r_aload_n hX dX7_bestForZero_76 0 rfl ?_
        refine r_aload_n hX dX7_bestForZero_77 0 rfl ?_
        refine r_get hX fl_X7_24 (w_93 _ _ _) rfl dX7_bestForZero_78 ?_
        refine r_iload_n hX dX7_bestForZero_81 1 rfl ?_
        refine r_iconst hX (1 : Int32) dX7_bestForZero_82 rfl ?_
        refine r_iload hX dX7_bestForZero_83 6 rfl ?_
        refine r_ishl hX dX7_bestForZero_85 ?_
        refine r_ixor hX dX7_bestForZero_86 ?_
        obtain ⟨v20, μ18, h19, hf⟩ := bd2_eq hf
        refine r_callVI (Ok.le hX (by omega)) (c_he_after (d := d) (by decide) h19) cv_X7_106 (w_80 _ _ _) rfl rfl (st := [.ref (gA (xG X) 93), .int x5]) rfl rfl rfl dX7_bestForZero_87 (fun dy => ?_)
        refine r_iload_n hX dX7_bestForZero_90 2 rfl ?_
        refine r_iconst hX (1 : Int32) dX7_bestForZero_91 rfl ?_
        refine r_isub hX dX7_bestForZero_92 ?_
        obtain ⟨v23, μ21, h22, hf⟩ := bd2_eq hf
        refine r_callVI (Ok.le hX (by omega)) (hR _ _ _ _ h22) cv_X7_129 (w_93 _ _ _) rfl rfl (st := [.int x5]) rfl rfl rfl dX7_bestForZero_93 (fun dy => ?_)
        refine r_min (d := d + 8) (Ok.le hX (by omega)) cs_X7_147 rfl dX7_bestForZero_96 ?_
        refine r_istore hX dX7_bestForZero_99 rfl (ls' := [(5, .int (imin x5 v23)), (0, .ref (gA (xG X) 93)), (1, .int x1), (2, .int x2), (3, .int x3), (6, .int x6), (7, .int x7)]) rfl ?_
        refine r_iinc hX (x7 + (1 : Int32)) dX7_bestForZero_101 6 rfl rfl rfl (ls' := [(7, .int (x7 + (1 : Int32))), (5, .int (imin x5 v23)), (0, .ref (gA (xG X) 93)), (1, .int x1), (2, .int x2), (3, .int x3), (6, .int x6)]) rfl ?_
        refine r_goto hX 52 dX7_bestForZero_104 rfl ?_
        refine r_weak [2, 3, 4, 5, 1, 6, 0] rfl ?_
        exact ih _ _ _ _ _ _ _ _ hf
set_option maxHeartbeats 4000000 in
set_option maxRecDepth 20000 in
theorem c_sh_bestForZero {G : Gx} {d : Nat} {R : Int32 → Int32 → Mem → Option (Int32 × Mem)} (hR : ∀ (x1 : Int32) (x2 : Int32) (μ : Mem) (r : Int32 × Mem), R x1 x2 μ = some r → Con G M_sh_bestForOne (d + 8) [.ref (gA G 93), .int x1, .int x2] μ (some (.int r.1), r.2)) {x1 : Int32} {x2 : Int32} {μ : Mem} {r : Int32 × Mem} (hf : f_sh_bestForZero R x1 x2 μ = some r) : Con G M_sh_bestForZero (d + 9) [.ref (gA G 93), .int x1, .int x2] μ (some (.int r.1), r.2) := by
  refine Con.ofI ⟨rfl, rfl, Nat.le_of_ble_eq_true rfl⟩ rfl rfl (fun X hG hX hr dy => ?_)
  subst hG
  show AW X 0 [(0, .ref (gA (xG X) 93)), (1, .int x1), (2, .int x2)] [] μ dy
  unfold f_sh_bestForZero at hf
  refine r_iconst hX (3 : Int32) dX7_bestForZero_0 rfl ?_
  refine r_iload_n hX dX7_bestForZero_1 2 rfl ?_
  refine r_iadd hX dX7_bestForZero_2 ?_
  refine r_istore_n hX dX7_bestForZero_3 rfl (ls' := [(3, .int ((3 : Int32) + x2)), (0, .ref (gA (xG X) 93)), (1, .int x1), (2, .int x2)]) rfl ?_
  refine r_aload_n hX dX7_bestForZero_4 1 rfl ?_
  refine r_get hX fl_X7_28 (w_93 _ _ _) rfl dX7_bestForZero_5 ?_
  refine r_iload_n hX dX7_bestForZero_8 0 rfl ?_
  refine r_iload_n hX dX7_bestForZero_9 2 rfl ?_
  obtain ⟨v3, μ1, h2, hf⟩ := bd2_eq hf
  refine r_callVI (Ok.le hX (by omega)) (c_me_recall (d := d)  h2) cv_X7_135 (w_90 _ _ _) rfl rfl (st := []) rfl rfl rfl dX7_bestForZero_10 (fun dy => ?_)
  refine r_istore hX dX7_bestForZero_13 rfl (ls' := [(4, .int v3), (3, .int ((3 : Int32) + x2)), (0, .ref (gA (xG X) 93)), (1, .int x1), (2, .int x2)]) rfl ?_
  refine r_iload hX dX7_bestForZero_15 0 rfl ?_
  refine r_iconst hX (-1 : Int32) dX7_bestForZero_17 rfl ?_
  refine r_icmp_eq hX 24 dX7_bestForZero_18 rfl (fun hc4 => ?_) (fun hc4 => ?_)
  · rw [if_pos hc4] at hf
    refine r_aload_n hX dX7_bestForZero_24 2 rfl ?_
    refine r_aload_n hX dX7_bestForZero_25 2 rfl ?_
    refine r_get hX fl_X7_24 (w_93 _ _ _) rfl dX7_bestForZero_26 ?_
    refine r_iload_n hX dX7_bestForZero_29 3 rfl ?_
    obtain ⟨v7, μ5, h6, hf⟩ := bd2_eq hf
    refine r_callVI (Ok.le hX (by omega)) (c_he_after (d := d) (by decide) h6) cv_X7_106 (w_80 _ _ _) rfl rfl (st := [.ref (gA (xG X) 93)]) rfl rfl rfl dX7_bestForZero_30 (fun dy => ?_)
    refine r_iload_n hX dX7_bestForZero_33 4 rfl ?_
    refine r_iconst hX (1 : Int32) dX7_bestForZero_34 rfl ?_
    refine r_isub hX dX7_bestForZero_35 ?_
    obtain ⟨v10, μ8, h9, hf⟩ := bd2_eq hf
    refine r_callVI (Ok.le hX (by omega)) (hR _ _ _ _ h9) cv_X7_129 (w_93 _ _ _) rfl rfl (st := []) rfl rfl rfl dX7_bestForZero_36 (fun dy => ?_)
    refine r_istore hX dX7_bestForZero_39 rfl (ls' := [(5, .int v10), (4, .int v3), (3, .int ((3 : Int32) + x2)), (0, .ref (gA (xG X) 93)), (1, .int x1), (2, .int x2)]) rfl ?_
    refine r_aload_n hX dX7_bestForZero_41 3 rfl ?_
    refine r_iconst hX (0 : Int32) dX7_bestForZero_42 rfl ?_
    refine r_iload_n hX dX7_bestForZero_43 4 rfl ?_
    obtain ⟨v13, μ11, h12, hf⟩ := bd2_eq hf
    refine r_callVI (Ok.le hX (by omega)) (c_sh_open (d := d)  h12) cv_X7_84 (w_93 _ _ _) rfl rfl (st := []) rfl rfl rfl dX7_bestForZero_44 (fun dy => ?_)
    refine r_istore hX dX7_bestForZero_47 rfl (ls' := [(6, .int v13), (5, .int v10), (4, .int v3), (3, .int ((3 : Int32) + x2)), (0, .ref (gA (xG X) 93)), (1, .int x1), (2, .int x2)]) rfl ?_
    refine r_iconst hX (0 : Int32) dX7_bestForZero_49 rfl ?_
    refine r_istore hX dX7_bestForZero_50 rfl (ls' := [(7, .int (0 : Int32)), (6, .int v13), (5, .int v10), (4, .int v3), (3, .int ((3 : Int32) + x2)), (0, .ref (gA (xG X) 93)), (1, .int x1), (2, .int x2)]) rfl ?_
    refine r_weak [5, 6, 7, 4, 2, 1, 0] rfl ?_
    exact b_sh_bestForZero_b52 hR hX hr FU _ _ _ _ _ _ _ _ hf
  · rw [if_neg hc4] at hf
    refine r_iload hX dX7_bestForZero_21 0 rfl ?_
    exact fin_I hf hr _ _ _ dX7_bestForZero_23
theorem dX7_bestForOne_0 : decode cX7_bestForOne 0 = .ok (.iload_n 2, 1) := by decide +kernel
theorem dX7_bestForOne_1 : decode cX7_bestForOne 1 = .ok (.ifCond .gt 8, 3) := by decide +kernel
theorem dX7_bestForOne_4 : decode cX7_bestForOne 4 = .ok (.iload_n 1, 1) := by decide +kernel
theorem dX7_bestForOne_5 : decode cX7_bestForOne 5 = .ok (.invokestatic 62, 3) := by decide +kernel
theorem dX7_bestForOne_8 : decode cX7_bestForOne 8 = .ok (.ireturn, 1) := by decide +kernel
theorem dX7_bestForOne_9 : decode cX7_bestForOne 9 = .ok (.aload_n 0, 1) := by decide +kernel
theorem dX7_bestForOne_10 : decode cX7_bestForOne 10 = .ok (.getfield 28, 3) := by decide +kernel
theorem dX7_bestForOne_13 : decode cX7_bestForOne 13 = .ok (.iload_n 2, 1) := by decide +kernel
theorem dX7_bestForOne_14 : decode cX7_bestForOne 14 = .ok (.iload_n 1, 1) := by decide +kernel
theorem dX7_bestForOne_15 : decode cX7_bestForOne 15 = .ok (.invokevirtual 135, 3) := by decide +kernel
theorem dX7_bestForOne_18 : decode cX7_bestForOne 18 = .ok (.istore_n 3, 1) := by decide +kernel
theorem dX7_bestForOne_19 : decode cX7_bestForOne 19 = .ok (.iload_n 3, 1) := by decide +kernel
theorem dX7_bestForOne_20 : decode cX7_bestForOne 20 = .ok (.iconst (-1), 1) := by decide +kernel
theorem dX7_bestForOne_21 : decode cX7_bestForOne 21 = .ok (.if_icmp .eq 5, 3) := by decide +kernel
theorem dX7_bestForOne_24 : decode cX7_bestForOne 24 = .ok (.iload_n 3, 1) := by decide +kernel
theorem dX7_bestForOne_25 : decode cX7_bestForOne 25 = .ok (.ireturn, 1) := by decide +kernel
theorem dX7_bestForOne_26 : decode cX7_bestForOne 26 = .ok (.aload_n 0, 1) := by decide +kernel
theorem dX7_bestForOne_27 : decode cX7_bestForOne 27 = .ok (.iload_n 1, 1) := by decide +kernel
theorem dX7_bestForOne_28 : decode cX7_bestForOne 28 = .ok (.iload_n 2, 1) := by decide +kernel
theorem dX7_bestForOne_29 : decode cX7_bestForOne 29 = .ok (.invokevirtual 132, 3) := by decide +kernel
theorem dX7_bestForOne_32 : decode cX7_bestForOne 32 = .ok (.istore 4, 2) := by decide +kernel
theorem dX7_bestForOne_34 : decode cX7_bestForOne 34 = .ok (.aload_n 0, 1) := by decide +kernel
theorem dX7_bestForOne_35 : decode cX7_bestForOne 35 = .ok (.iconst 1, 1) := by decide +kernel
theorem dX7_bestForOne_36 : decode cX7_bestForOne 36 = .ok (.iload_n 1, 1) := by decide +kernel
theorem dX7_bestForOne_37 : decode cX7_bestForOne 37 = .ok (.invokevirtual 84, 3) := by decide +kernel
theorem dX7_bestForOne_40 : decode cX7_bestForOne 40 = .ok (.istore 5, 2) := by decide +kernel
theorem dX7_bestForOne_42 : decode cX7_bestForOne 42 = .ok (.iconst 0, 1) := by decide +kernel
theorem dX7_bestForOne_43 : decode cX7_bestForOne 43 = .ok (.istore 6, 2) := by decide +kernel
theorem dX7_bestForOne_45 : decode cX7_bestForOne 45 = .ok (.iload 6, 2) := by decide +kernel
theorem dX7_bestForOne_47 : decode cX7_bestForOne 47 = .ok (.aload_n 0, 1) := by decide +kernel
theorem dX7_bestForOne_48 : decode cX7_bestForOne 48 = .ok (.getfield 20, 3) := by decide +kernel
theorem dX7_bestForOne_51 : decode cX7_bestForOne 51 = .ok (.getfield 40, 3) := by decide +kernel
theorem dX7_bestForOne_54 : decode cX7_bestForOne 54 = .ok (.if_icmp .ge 37, 3) := by decide +kernel
theorem dX7_bestForOne_57 : decode cX7_bestForOne 57 = .ok (.iload 5, 2) := by decide +kernel
theorem dX7_bestForOne_59 : decode cX7_bestForOne 59 = .ok (.iload 6, 2) := by decide +kernel
theorem dX7_bestForOne_61 : decode cX7_bestForOne 61 = .ok (.ishr, 1) := by decide +kernel
theorem dX7_bestForOne_62 : decode cX7_bestForOne 62 = .ok (.iconst 1, 1) := by decide +kernel
theorem dX7_bestForOne_63 : decode cX7_bestForOne 63 = .ok (.iand, 1) := by decide +kernel
theorem dX7_bestForOne_64 : decode cX7_bestForOne 64 = .ok (.ifCond .eq 21, 3) := by decide +kernel
theorem dX7_bestForOne_67 : decode cX7_bestForOne 67 = .ok (.iload 4, 2) := by decide +kernel
theorem dX7_bestForOne_69 : decode cX7_bestForOne 69 = .ok (.aload_n 0, 1) := by decide +kernel
theorem dX7_bestForOne_70 : decode cX7_bestForOne 70 = .ok (.iload_n 1, 1) := by decide +kernel
theorem dX7_bestForOne_71 : decode cX7_bestForOne 71 = .ok (.iconst 1, 1) := by decide +kernel
theorem dX7_bestForOne_72 : decode cX7_bestForOne 72 = .ok (.iload 6, 2) := by decide +kernel
theorem dX7_bestForOne_74 : decode cX7_bestForOne 74 = .ok (.ishl, 1) := by decide +kernel
theorem dX7_bestForOne_75 : decode cX7_bestForOne 75 = .ok (.ior, 1) := by decide +kernel
theorem dX7_bestForOne_76 : decode cX7_bestForOne 76 = .ok (.iload_n 2, 1) := by decide +kernel
theorem dX7_bestForOne_77 : decode cX7_bestForOne 77 = .ok (.invokevirtual 132, 3) := by decide +kernel
theorem dX7_bestForOne_80 : decode cX7_bestForOne 80 = .ok (.invokestatic 138, 3) := by decide +kernel
theorem dX7_bestForOne_83 : decode cX7_bestForOne 83 = .ok (.istore 4, 2) := by decide +kernel
theorem dX7_bestForOne_85 : decode cX7_bestForOne 85 = .ok (.iinc 6 1, 3) := by decide +kernel
theorem dX7_bestForOne_88 : decode cX7_bestForOne 88 = .ok (.goto (-43), 3) := by decide +kernel
theorem dX7_bestForOne_91 : decode cX7_bestForOne 91 = .ok (.aload_n 0, 1) := by decide +kernel
theorem dX7_bestForOne_92 : decode cX7_bestForOne 92 = .ok (.getfield 28, 3) := by decide +kernel
theorem dX7_bestForOne_95 : decode cX7_bestForOne 95 = .ok (.iload_n 2, 1) := by decide +kernel
theorem dX7_bestForOne_96 : decode cX7_bestForOne 96 = .ok (.iload_n 1, 1) := by decide +kernel
theorem dX7_bestForOne_97 : decode cX7_bestForOne 97 = .ok (.iload 4, 2) := by decide +kernel
theorem dX7_bestForOne_99 : decode cX7_bestForOne 99 = .ok (.invokevirtual 143, 3) := by decide +kernel
theorem dX7_bestForOne_102 : decode cX7_bestForOne 102 = .ok (.iload 4, 2) := by decide +kernel
theorem dX7_bestForOne_104 : decode cX7_bestForOne 104 = .ok (.ireturn, 1) := by decide +kernel
set_option maxHeartbeats 4000000 in
set_option maxRecDepth 20000 in
theorem b_sh_bestForOne_b45 {X : Cx} {d : Nat} {R : Int32 → Int32 → Mem → Option (Int32 × Mem)} (hR : ∀ (x1 : Int32) (x2 : Int32) (μ : Mem) (r : Int32 × Mem), R x1 x2 μ = some r → Con (xG X) M_sh_bestForOne (d + 8) [.ref (gA (xG X) 93), .int x1, .int x2] μ (some (.int r.1), r.2)) (hX : Ok M_sh_bestForOne (d + 10) X) {r : Int32 × Mem} (hr : RetI M_sh_bestForOne X r.1 r.2) : ∀ (n : Nat) (x1 : Int32) (x2 : Int32) (x4 : Int32) (x5 : Int32) (x6 : Int32) (μ : Mem) (dy : Nat → Nat), f_sh_bestForOne_b45 R n x1 x2 x4 x5 x6 μ = some r → AW X 45 [(0, .ref (gA (xG X) 93)), (1, .int x1), (2, .int x2), (4, .int x4), (5, .int x5), (6, .int x6)] [] μ dy := by
  intro n
  induction n with
  | zero => intro x1 x2 x4 x5 x6 μ dy hf; exact nomatch hf
  | succ n ih =>
    intro x1 x2 x4 x5 x6 μ dy hf
    rw [f_sh_bestForOne_b45] at hf
    refine r_iload hX dX7_bestForOne_45 5 rfl ?_
    refine r_aload_n hX dX7_bestForOne_47 0 rfl ?_
    refine r_get hX fl_X7_20 (w_93 _ _ _) rfl dX7_bestForOne_48 ?_
    refine r_getN hX fl_X7_40 (w_4 _ _ _) rfl dX7_bestForOne_51 ?_
    refine r_icmp_ge hX 91 dX7_bestForOne_54 rfl (fun hc12 => ?_) (fun hc12 => ?_)
    · rw [if_pos hc12] at hf
      refine r_aload_n hX dX7_bestForOne_91 0 rfl ?_
      refine r_get hX fl_X7_28 (w_93 _ _ _) rfl dX7_bestForOne_92 ?_
      refine r_iload_n hX dX7_bestForOne_95 2 rfl ?_
      refine r_iload_n hX dX7_bestForOne_96 1 rfl ?_
      refine r_iload hX dX7_bestForOne_97 3 rfl ?_
      obtain ⟨μ13, h14, hf⟩ := bd1_eq hf
      refine r_callVV (Ok.le hX (by omega)) (c_me_note (d := d)  h14) cv_X7_143 (w_90 _ _ _) rfl rfl (st := []) rfl rfl rfl dX7_bestForOne_99 (fun dy => ?_)
      refine r_iload hX dX7_bestForOne_102 3 rfl ?_
      exact fin_I hf hr _ _ _ dX7_bestForOne_104
    · rw [if_neg hc12] at hf
      refine r_iload hX dX7_bestForOne_57 4 rfl ?_
      refine r_iload hX dX7_bestForOne_59 5 rfl ?_
      refine r_ishr hX dX7_bestForOne_61 ?_
      refine r_iconst hX (1 : Int32) dX7_bestForOne_62 rfl ?_
      refine r_iand hX dX7_bestForOne_63 ?_
      refine r_if_eq hX 85 dX7_bestForOne_64 rfl (fun hc15 => ?_) (fun hc15 => ?_)
      · rw [if_pos hc15] at hf
        refine r_iinc hX (x6 + (1 : Int32)) dX7_bestForOne_85 5 rfl rfl rfl (ls' := [(6, .int (x6 + (1 : Int32))), (0, .ref (gA (xG X) 93)), (1, .int x1), (2, .int x2), (4, .int x4), (5, .int x5)]) rfl ?_
        refine r_goto hX 45 dX7_bestForOne_88 rfl ?_
        refine r_weak [1, 2, 3, 4, 5, 0] rfl ?_
        exact ih _ _ _ _ _ _ _ hf
      · rw [if_neg hc15] at hf
        refine r_iload hX dX7_bestForOne_67 3 rfl ?_
        refine r_aload_n hX dX7_bestForOne_69 0 rfl ?_
        refine r_iload_n hX dX7_bestForOne_70 1 rfl ?_
        refine r_iconst hX (1 : Int32) dX7_bestForOne_71 rfl ?_
        refine r_iload hX dX7_bestForOne_72 5 rfl ?_
        refine r_ishl hX dX7_bestForOne_74 ?_
        refine r_ior hX dX7_bestForOne_75 ?_
        refine r_iload_n hX dX7_bestForOne_76 2 rfl ?_
        obtain ⟨v18, μ16, h17, hf⟩ := bd2_eq hf
        refine r_callVI (Ok.le hX (by omega)) (c_sh_bestForZero (d := d) hR h17) cv_X7_132 (w_93 _ _ _) rfl rfl (st := [.int x4]) rfl rfl rfl dX7_bestForOne_77 (fun dy => ?_)
        refine r_max (d := d + 9) (Ok.le hX (by omega)) cs_X7_138 rfl dX7_bestForOne_80 ?_
        refine r_istore hX dX7_bestForOne_83 rfl (ls' := [(4, .int (imax x4 v18)), (0, .ref (gA (xG X) 93)), (1, .int x1), (2, .int x2), (5, .int x5), (6, .int x6)]) rfl ?_
        refine r_iinc hX (x6 + (1 : Int32)) dX7_bestForOne_85 5 rfl rfl rfl (ls' := [(6, .int (x6 + (1 : Int32))), (4, .int (imax x4 v18)), (0, .ref (gA (xG X) 93)), (1, .int x1), (2, .int x2), (5, .int x5)]) rfl ?_
        refine r_goto hX 45 dX7_bestForOne_88 rfl ?_
        refine r_weak [2, 3, 4, 1, 5, 0] rfl ?_
        exact ih _ _ _ _ _ _ _ hf
set_option maxHeartbeats 4000000 in
set_option maxRecDepth 20000 in
theorem c_sh_bestForOne_body {G : Gx} {d : Nat} {R : Int32 → Int32 → Mem → Option (Int32 × Mem)} (hR : ∀ (x1 : Int32) (x2 : Int32) (μ : Mem) (r : Int32 × Mem), R x1 x2 μ = some r → Con G M_sh_bestForOne (d + 8) [.ref (gA G 93), .int x1, .int x2] μ (some (.int r.1), r.2)) {x1 : Int32} {x2 : Int32} {μ : Mem} {r : Int32 × Mem} (hf : f_sh_bestForOne_body R x1 x2 μ = some r) : Con G M_sh_bestForOne (d + 10) [.ref (gA G 93), .int x1, .int x2] μ (some (.int r.1), r.2) := by
  refine Con.ofI ⟨rfl, rfl, Nat.le_of_ble_eq_true rfl⟩ rfl rfl (fun X hG hX hr dy => ?_)
  subst hG
  show AW X 0 [(0, .ref (gA (xG X) 93)), (1, .int x1), (2, .int x2)] [] μ dy
  unfold f_sh_bestForOne_body at hf
  refine r_iload_n hX dX7_bestForOne_0 2 rfl ?_
  refine r_if_gt hX 9 dX7_bestForOne_1 rfl (fun hc1 => ?_) (fun hc1 => ?_)
  · rw [if_pos hc1] at hf
    refine r_aload_n hX dX7_bestForOne_9 0 rfl ?_
    refine r_get hX fl_X7_28 (w_93 _ _ _) rfl dX7_bestForOne_10 ?_
    refine r_iload_n hX dX7_bestForOne_13 2 rfl ?_
    refine r_iload_n hX dX7_bestForOne_14 1 rfl ?_
    obtain ⟨v4, μ2, h3, hf⟩ := bd2_eq hf
    refine r_callVI (Ok.le hX (by omega)) (c_me_recall (d := d)  h3) cv_X7_135 (w_90 _ _ _) rfl rfl (st := []) rfl rfl rfl dX7_bestForOne_15 (fun dy => ?_)
    refine r_istore_n hX dX7_bestForOne_18 rfl (ls' := [(3, .int v4), (0, .ref (gA (xG X) 93)), (1, .int x1), (2, .int x2)]) rfl ?_
    refine r_iload_n hX dX7_bestForOne_19 0 rfl ?_
    refine r_iconst hX (-1 : Int32) dX7_bestForOne_20 rfl ?_
    refine r_icmp_eq hX 26 dX7_bestForOne_21 rfl (fun hc5 => ?_) (fun hc5 => ?_)
    · rw [if_pos hc5] at hf
      refine r_aload_n hX dX7_bestForOne_26 1 rfl ?_
      refine r_iload_n hX dX7_bestForOne_27 2 rfl ?_
      refine r_iload_n hX dX7_bestForOne_28 3 rfl ?_
      obtain ⟨v8, μ6, h7, hf⟩ := bd2_eq hf
      refine r_callVI (Ok.le hX (by omega)) (c_sh_bestForZero (d := d) hR h7) cv_X7_132 (w_93 _ _ _) rfl rfl (st := []) rfl rfl rfl dX7_bestForOne_29 (fun dy => ?_)
      refine r_istore hX dX7_bestForOne_32 rfl (ls' := [(4, .int v8), (3, .int v4), (0, .ref (gA (xG X) 93)), (1, .int x1), (2, .int x2)]) rfl ?_
      refine r_aload_n hX dX7_bestForOne_34 2 rfl ?_
      refine r_iconst hX (1 : Int32) dX7_bestForOne_35 rfl ?_
      refine r_iload_n hX dX7_bestForOne_36 3 rfl ?_
      obtain ⟨v11, μ9, h10, hf⟩ := bd2_eq hf
      refine r_callVI (Ok.le hX (by omega)) (c_sh_open (d := d)  h10) cv_X7_84 (w_93 _ _ _) rfl rfl (st := []) rfl rfl rfl dX7_bestForOne_37 (fun dy => ?_)
      refine r_istore hX dX7_bestForOne_40 rfl (ls' := [(5, .int v11), (4, .int v8), (3, .int v4), (0, .ref (gA (xG X) 93)), (1, .int x1), (2, .int x2)]) rfl ?_
      refine r_iconst hX (0 : Int32) dX7_bestForOne_42 rfl ?_
      refine r_istore hX dX7_bestForOne_43 rfl (ls' := [(6, .int (0 : Int32)), (5, .int v11), (4, .int v8), (3, .int v4), (0, .ref (gA (xG X) 93)), (1, .int x1), (2, .int x2)]) rfl ?_
      refine r_weak [4, 5, 6, 2, 1, 0] rfl ?_
      exact b_sh_bestForOne_b45 hR hX hr FU _ _ _ _ _ _ _ hf
    · rw [if_neg hc5] at hf
      refine r_iload_n hX dX7_bestForOne_24 0 rfl ?_
      exact fin_I hf hr _ _ _ dX7_bestForOne_25
  · rw [if_neg hc1] at hf
    refine r_iload_n hX dX7_bestForOne_4 1 rfl ?_
    obtain ⟨v21, μ19, h20, hf⟩ := bd2_eq hf
    refine r_callSI (Ok.le hX (by omega)) (c_jd_bitCount (d := d)  h20) cs_X7_62 (st := []) rfl rfl rfl dX7_bestForOne_5 (fun dy => ?_)
    exact fin_I hf hr _ _ _ dX7_bestForOne_8
theorem c_sh_bestForOne {G : Gx} {d : Nat} (k : Nat) : ∀ {x1 : Int32} {x2 : Int32} {μ : Mem} {r : Int32 × Mem}, f_sh_bestForOne k x1 x2 μ = some r → Con G M_sh_bestForOne (d + 2 * k + 8) [.ref (gA G 93), .int x1, .int x2] μ (some (.int r.1), r.2) := by
  induction k with
  | zero => intro x1 x2 μ r hf; exact nomatch hf
  | succ k ih =>
    intro x1 x2 μ r hf
    rw [f_sh_bestForOne] at hf
    have h := c_sh_bestForOne_body (d := d + 2 * k) (fun x1 x2 μ r h => ih h) hf
    have e : d + 2 * k + 10 = d + 2 * (k + 1) + 8 := by omega
    rw [← e]
    exact h
theorem dX7_playBoth_0 : decode cX7_playBoth 0 = .ok (.aload_n 0, 1) := by decide +kernel
theorem dX7_playBoth_1 : decode cX7_playBoth 1 = .ok (.getfield 28, 3) := by decide +kernel
theorem dX7_playBoth_4 : decode cX7_playBoth 4 = .ok (.aload_n 0, 1) := by decide +kernel
theorem dX7_playBoth_5 : decode cX7_playBoth 5 = .ok (.getfield 20, 3) := by decide +kernel
theorem dX7_playBoth_8 : decode cX7_playBoth 8 = .ok (.getfield 40, 3) := by decide +kernel
theorem dX7_playBoth_11 : decode cX7_playBoth 11 = .ok (.invokevirtual 123, 3) := by decide +kernel
theorem dX7_playBoth_14 : decode cX7_playBoth 14 = .ok (.aload_n 0, 1) := by decide +kernel
theorem dX7_playBoth_15 : decode cX7_playBoth 15 = .ok (.getfield 20, 3) := by decide +kernel
theorem dX7_playBoth_18 : decode cX7_playBoth 18 = .ok (.invokevirtual 100, 3) := by decide +kernel
theorem dX7_playBoth_21 : decode cX7_playBoth 21 = .ok (.istore_n 2, 1) := by decide +kernel
theorem dX7_playBoth_22 : decode cX7_playBoth 22 = .ok (.aload_n 0, 1) := by decide +kernel
theorem dX7_playBoth_23 : decode cX7_playBoth 23 = .ok (.iload_n 2, 1) := by decide +kernel
theorem dX7_playBoth_24 : decode cX7_playBoth 24 = .ok (.iload_n 1, 1) := by decide +kernel
theorem dX7_playBoth_25 : decode cX7_playBoth 25 = .ok (.invokevirtual 129, 3) := by decide +kernel
theorem dX7_playBoth_28 : decode cX7_playBoth 28 = .ok (.istore_n 3, 1) := by decide +kernel
theorem dX7_playBoth_29 : decode cX7_playBoth 29 = .ok (.iconst (-1), 1) := by decide +kernel
theorem dX7_playBoth_30 : decode cX7_playBoth 30 = .ok (.istore 4, 2) := by decide +kernel
theorem dX7_playBoth_32 : decode cX7_playBoth 32 = .ok (.iload_n 1, 1) := by decide +kernel
theorem dX7_playBoth_33 : decode cX7_playBoth 33 = .ok (.ifCond .le 77, 3) := by decide +kernel
theorem dX7_playBoth_36 : decode cX7_playBoth 36 = .ok (.aload_n 0, 1) := by decide +kernel
theorem dX7_playBoth_37 : decode cX7_playBoth 37 = .ok (.iload_n 2, 1) := by decide +kernel
theorem dX7_playBoth_38 : decode cX7_playBoth 38 = .ok (.iload_n 1, 1) := by decide +kernel
theorem dX7_playBoth_39 : decode cX7_playBoth 39 = .ok (.invokevirtual 132, 3) := by decide +kernel
theorem dX7_playBoth_42 : decode cX7_playBoth 42 = .ok (.iload_n 3, 1) := by decide +kernel
theorem dX7_playBoth_43 : decode cX7_playBoth 43 = .ok (.if_icmp .eq 67, 3) := by decide +kernel
theorem dX7_playBoth_46 : decode cX7_playBoth 46 = .ok (.aload_n 0, 1) := by decide +kernel
theorem dX7_playBoth_47 : decode cX7_playBoth 47 = .ok (.iconst 1, 1) := by decide +kernel
theorem dX7_playBoth_48 : decode cX7_playBoth 48 = .ok (.iload_n 2, 1) := by decide +kernel
theorem dX7_playBoth_49 : decode cX7_playBoth 49 = .ok (.invokevirtual 84, 3) := by decide +kernel
theorem dX7_playBoth_52 : decode cX7_playBoth 52 = .ok (.istore 5, 2) := by decide +kernel
theorem dX7_playBoth_54 : decode cX7_playBoth 54 = .ok (.aload_n 0, 1) := by decide +kernel
theorem dX7_playBoth_55 : decode cX7_playBoth 55 = .ok (.getfield 20, 3) := by decide +kernel
theorem dX7_playBoth_58 : decode cX7_playBoth 58 = .ok (.getfield 40, 3) := by decide +kernel
theorem dX7_playBoth_61 : decode cX7_playBoth 61 = .ok (.iconst 1, 1) := by decide +kernel
theorem dX7_playBoth_62 : decode cX7_playBoth 62 = .ok (.isub, 1) := by decide +kernel
theorem dX7_playBoth_63 : decode cX7_playBoth 63 = .ok (.istore 6, 2) := by decide +kernel
theorem dX7_playBoth_65 : decode cX7_playBoth 65 = .ok (.iload 6, 2) := by decide +kernel
theorem dX7_playBoth_67 : decode cX7_playBoth 67 = .ok (.ifCond .lt 43, 3) := by decide +kernel
theorem dX7_playBoth_70 : decode cX7_playBoth 70 = .ok (.iload 5, 2) := by decide +kernel
theorem dX7_playBoth_72 : decode cX7_playBoth 72 = .ok (.iload 6, 2) := by decide +kernel
theorem dX7_playBoth_74 : decode cX7_playBoth 74 = .ok (.ishr, 1) := by decide +kernel
theorem dX7_playBoth_75 : decode cX7_playBoth 75 = .ok (.iconst 1, 1) := by decide +kernel
theorem dX7_playBoth_76 : decode cX7_playBoth 76 = .ok (.iand, 1) := by decide +kernel
theorem dX7_playBoth_77 : decode cX7_playBoth 77 = .ok (.ifCond .eq 23, 3) := by decide +kernel
theorem dX7_playBoth_80 : decode cX7_playBoth 80 = .ok (.aload_n 0, 1) := by decide +kernel
theorem dX7_playBoth_81 : decode cX7_playBoth 81 = .ok (.iload_n 2, 1) := by decide +kernel
theorem dX7_playBoth_82 : decode cX7_playBoth 82 = .ok (.iconst 1, 1) := by decide +kernel
theorem dX7_playBoth_83 : decode cX7_playBoth 83 = .ok (.iload 6, 2) := by decide +kernel
theorem dX7_playBoth_85 : decode cX7_playBoth 85 = .ok (.ishl, 1) := by decide +kernel
theorem dX7_playBoth_86 : decode cX7_playBoth 86 = .ok (.ior, 1) := by decide +kernel
theorem dX7_playBoth_87 : decode cX7_playBoth 87 = .ok (.iload_n 1, 1) := by decide +kernel
theorem dX7_playBoth_88 : decode cX7_playBoth 88 = .ok (.invokevirtual 132, 3) := by decide +kernel
theorem dX7_playBoth_91 : decode cX7_playBoth 91 = .ok (.iload_n 3, 1) := by decide +kernel
theorem dX7_playBoth_92 : decode cX7_playBoth 92 = .ok (.if_icmp .ne 8, 3) := by decide +kernel
theorem dX7_playBoth_95 : decode cX7_playBoth 95 = .ok (.iload 6, 2) := by decide +kernel
theorem dX7_playBoth_97 : decode cX7_playBoth 97 = .ok (.goto 5, 3) := by decide +kernel
theorem dX7_playBoth_100 : decode cX7_playBoth 100 = .ok (.iload 4, 2) := by decide +kernel
theorem dX7_playBoth_102 : decode cX7_playBoth 102 = .ok (.istore 4, 2) := by decide +kernel
theorem dX7_playBoth_104 : decode cX7_playBoth 104 = .ok (.iinc 6 (-1), 3) := by decide +kernel
theorem dX7_playBoth_107 : decode cX7_playBoth 107 = .ok (.goto (-42), 3) := by decide +kernel
theorem dX7_playBoth_110 : decode cX7_playBoth 110 = .ok (.aload_n 0, 1) := by decide +kernel
theorem dX7_playBoth_111 : decode cX7_playBoth 111 = .ok (.getfield 36, 3) := by decide +kernel
theorem dX7_playBoth_114 : decode cX7_playBoth 114 = .ok (.iload 4, 2) := by decide +kernel
theorem dX7_playBoth_116 : decode cX7_playBoth 116 = .ok (.i2l, 1) := by decide +kernel
theorem dX7_playBoth_117 : decode cX7_playBoth 117 = .ok (.invokevirtual 111, 3) := by decide +kernel
theorem dX7_playBoth_120 : decode cX7_playBoth 120 = .ok (.iload_n 3, 1) := by decide +kernel
theorem dX7_playBoth_121 : decode cX7_playBoth 121 = .ok (.ireturn, 1) := by decide +kernel
set_option maxHeartbeats 4000000 in
set_option maxRecDepth 20000 in
theorem b_sh_playBoth_b110 {X : Cx} {d : Nat} (hX : Ok M_sh_playBoth (d + 20) X) {r : Int32 × Mem} (hr : RetI M_sh_playBoth X r.1 r.2) (x3 : Int32) (x4 : Int32) (μ : Mem) (dy : Nat → Nat) (hf : f_sh_playBoth_b110 x3 x4 μ = some r) : AW X 110 [(0, .ref (gA (xG X) 93)), (3, .int x3), (4, .int x4)] [] μ dy := by
  unfold f_sh_playBoth_b110 at hf
  refine r_aload_n hX dX7_playBoth_110 0 rfl ?_
  refine r_get hX fl_X7_36 (w_93 _ _ _) rfl dX7_playBoth_111 ?_
  refine r_iload hX dX7_playBoth_114 2 rfl ?_
  refine r_i2l hX dX7_playBoth_116 ?_
  obtain ⟨μ10, h11, hf⟩ := bd1_eq hf
  refine r_callVV (Ok.le hX (by omega)) (c_rw_only (d := d)  h11) cv_X7_111 (w_2 _ _ _) rfl rfl (st := []) rfl rfl rfl dX7_playBoth_117 (fun dy => ?_)
  refine r_iload_n hX dX7_playBoth_120 1 rfl ?_
  exact fin_I hf hr _ _ _ dX7_playBoth_121
set_option maxHeartbeats 4000000 in
set_option maxRecDepth 20000 in
theorem b_sh_playBoth_b102 {X : Cx} {d : Nat} (hX : Ok M_sh_playBoth (d + 20) X) {r : Int32 × Mem} (hr : RetI M_sh_playBoth X r.1 r.2) {k65 : Int32 → Int32 → Int32 → Int32 → Int32 → Int32 → Mem → Option (Int32 × Mem)} (hk65 : ∀ (x1 : Int32) (x2 : Int32) (x3 : Int32) (x4 : Int32) (x5 : Int32) (x6 : Int32) (μ : Mem) (dy : Nat → Nat), k65 x1 x2 x3 x4 x5 x6 μ = some r → AW X 65 [(0, .ref (gA (xG X) 93)), (1, .int x1), (2, .int x2), (3, .int x3), (4, .int x4), (5, .int x5), (6, .int x6)] [] μ dy) (x1 : Int32) (x2 : Int32) (x3 : Int32) (x5 : Int32) (x6 : Int32) (s0 : Int32) (μ : Mem) (dy : Nat → Nat) (hf : f_sh_playBoth_b102 k65 x1 x2 x3 x5 x6 s0 μ = some r) : AW X 102 [(0, .ref (gA (xG X) 93)), (1, .int x1), (2, .int x2), (3, .int x3), (5, .int x5), (6, .int x6)] [.int s0] μ dy := by
  unfold f_sh_playBoth_b102 at hf
  refine r_istore hX dX7_playBoth_102 rfl (ls' := [(4, .int s0), (0, .ref (gA (xG X) 93)), (1, .int x1), (2, .int x2), (3, .int x3), (5, .int x5), (6, .int x6)]) rfl ?_
  refine r_iinc hX (x6 + (-1 : Int32)) dX7_playBoth_104 6 rfl rfl rfl (ls' := [(6, .int (x6 + (-1 : Int32))), (4, .int s0), (0, .ref (gA (xG X) 93)), (1, .int x1), (2, .int x2), (3, .int x3), (5, .int x5)]) rfl ?_
  refine r_goto hX 65 dX7_playBoth_107 rfl ?_
  refine r_weak [2, 3, 4, 5, 1, 6, 0] rfl ?_
  exact hk65 _ _ _ _ _ _ _ _ hf
set_option maxHeartbeats 4000000 in
set_option maxRecDepth 20000 in
theorem b_sh_playBoth_b100 {X : Cx} {d : Nat} (hX : Ok M_sh_playBoth (d + 20) X) {r : Int32 × Mem} (hr : RetI M_sh_playBoth X r.1 r.2) {k65 : Int32 → Int32 → Int32 → Int32 → Int32 → Int32 → Mem → Option (Int32 × Mem)} (hk65 : ∀ (x1 : Int32) (x2 : Int32) (x3 : Int32) (x4 : Int32) (x5 : Int32) (x6 : Int32) (μ : Mem) (dy : Nat → Nat), k65 x1 x2 x3 x4 x5 x6 μ = some r → AW X 65 [(0, .ref (gA (xG X) 93)), (1, .int x1), (2, .int x2), (3, .int x3), (4, .int x4), (5, .int x5), (6, .int x6)] [] μ dy) (x1 : Int32) (x2 : Int32) (x3 : Int32) (x4 : Int32) (x5 : Int32) (x6 : Int32) (μ : Mem) (dy : Nat → Nat) (hf : f_sh_playBoth_b100 k65 x1 x2 x3 x4 x5 x6 μ = some r) : AW X 100 [(0, .ref (gA (xG X) 93)), (1, .int x1), (2, .int x2), (3, .int x3), (4, .int x4), (5, .int x5), (6, .int x6)] [] μ dy := by
  unfold f_sh_playBoth_b100 at hf
  refine r_iload hX dX7_playBoth_100 4 rfl ?_
  refine r_weak [0, 1, 2, 3, 5, 6] rfl ?_
  exact b_sh_playBoth_b102 hX hr hk65 _ _ _ _ _ _ _ _ hf
set_option maxHeartbeats 4000000 in
set_option maxRecDepth 20000 in
theorem b_sh_playBoth_b65 {X : Cx} {d : Nat} (hX : Ok M_sh_playBoth (d + 20) X) {r : Int32 × Mem} (hr : RetI M_sh_playBoth X r.1 r.2) : ∀ (n : Nat) (x1 : Int32) (x2 : Int32) (x3 : Int32) (x4 : Int32) (x5 : Int32) (x6 : Int32) (μ : Mem) (dy : Nat → Nat), f_sh_playBoth_b65 n x1 x2 x3 x4 x5 x6 μ = some r → AW X 65 [(0, .ref (gA (xG X) 93)), (1, .int x1), (2, .int x2), (3, .int x3), (4, .int x4), (5, .int x5), (6, .int x6)] [] μ dy := by
  intro n
  induction n with
  | zero => intro x1 x2 x3 x4 x5 x6 μ dy hf; exact nomatch hf
  | succ n ih =>
    intro x1 x2 x3 x4 x5 x6 μ dy hf
    rw [f_sh_playBoth_b65] at hf
    refine r_iload hX dX7_playBoth_65 6 rfl ?_
    refine r_if_lt hX 110 dX7_playBoth_67 rfl (fun hc21 => ?_) (fun hc21 => ?_)
    · rw [if_pos hc21] at hf
      refine r_weak [0, 3, 4] rfl ?_
      exact b_sh_playBoth_b110 hX hr _ _ _ _ hf
    · rw [if_neg hc21] at hf
      refine r_iload hX dX7_playBoth_70 5 rfl ?_
      refine r_iload hX dX7_playBoth_72 6 rfl ?_
      refine r_ishr hX dX7_playBoth_74 ?_
      refine r_iconst hX (1 : Int32) dX7_playBoth_75 rfl ?_
      refine r_iand hX dX7_playBoth_76 ?_
      refine r_if_eq hX 100 dX7_playBoth_77 rfl (fun hc22 => ?_) (fun hc22 => ?_)
      · rw [if_pos hc22] at hf
        refine r_weak [0, 1, 2, 3, 4, 5, 6] rfl ?_
        exact b_sh_playBoth_b100 hX hr ih _ _ _ _ _ _ _ _ hf
      · rw [if_neg hc22] at hf
        refine r_aload_n hX dX7_playBoth_80 0 rfl ?_
        refine r_iload_n hX dX7_playBoth_81 2 rfl ?_
        refine r_iconst hX (1 : Int32) dX7_playBoth_82 rfl ?_
        refine r_iload hX dX7_playBoth_83 6 rfl ?_
        refine r_ishl hX dX7_playBoth_85 ?_
        refine r_ior hX dX7_playBoth_86 ?_
        refine r_iload_n hX dX7_playBoth_87 1 rfl ?_
        obtain ⟨v25, μ23, h24, hf⟩ := bd2_eq hf
        refine r_callVI (Ok.le hX (by omega)) (c_sh_bestForZero (d := d + 2 * 5) (fun _ _ _ _ h9 => c_sh_bestForOne (d := d) 5 h9) h24) cv_X7_132 (w_93 _ _ _) rfl rfl (st := []) rfl rfl rfl dX7_playBoth_88 (fun dy => ?_)
        refine r_iload_n hX dX7_playBoth_91 3 rfl ?_
        obtain ⟨v26, e27, hf⟩ := bnd_eq hf
        have J28 : AW X 102 [(0, .ref (gA (xG X) 93)), (1, .int x1), (2, .int x2), (3, .int x3), (4, .int x4), (5, .int x5), (6, .int x6)] [.int v26] μ23 dy := by
          refine r_istore hX dX7_playBoth_102 rfl (ls' := [(4, .int v26), (0, .ref (gA (xG X) 93)), (1, .int x1), (2, .int x2), (3, .int x3), (5, .int x5), (6, .int x6)]) rfl ?_
          refine r_iinc hX (x6 + (-1 : Int32)) dX7_playBoth_104 6 rfl rfl rfl (ls' := [(6, .int (x6 + (-1 : Int32))), (4, .int v26), (0, .ref (gA (xG X) 93)), (1, .int x1), (2, .int x2), (3, .int x3), (5, .int x5)]) rfl ?_
          refine r_goto hX 65 dX7_playBoth_107 rfl ?_
          refine r_weak [2, 3, 4, 5, 1, 6, 0] rfl ?_
          exact ih _ _ _ _ _ _ _ _ hf
        refine r_icmp_ne hX 100 dX7_playBoth_92 rfl (fun hc29 => ?_) (fun hc29 => ?_)
        · refine r_iload hX dX7_playBoth_100 4 rfl ?_
          exact r_topI (e27.trans (by rw [if_neg hc29])) J28
        · refine r_iload hX dX7_playBoth_95 6 rfl ?_
          refine r_goto hX 102 dX7_playBoth_97 rfl ?_
          exact r_topI (e27.trans (by rw [if_pos hc29])) J28
set_option maxHeartbeats 4000000 in
set_option maxRecDepth 20000 in
theorem c_sh_playBoth {G : Gx} {d : Nat} {x1 : Int32} {μ : Mem} {r : Int32 × Mem} (hf : f_sh_playBoth x1 μ = some r) : Con G M_sh_playBoth (d + 20) [.ref (gA G 93), .int x1] μ (some (.int r.1), r.2) := by
  refine Con.ofI ⟨rfl, rfl, Nat.le_of_ble_eq_true rfl⟩ rfl rfl (fun X hG hX hr dy => ?_)
  subst hG
  show AW X 0 [(0, .ref (gA (xG X) 93)), (1, .int x1)] [] μ dy
  unfold f_sh_playBoth at hf
  refine r_aload_n hX dX7_playBoth_0 0 rfl ?_
  refine r_get hX fl_X7_28 (w_93 _ _ _) rfl dX7_playBoth_1 ?_
  refine r_aload_n hX dX7_playBoth_4 0 rfl ?_
  refine r_get hX fl_X7_20 (w_93 _ _ _) rfl dX7_playBoth_5 ?_
  refine r_getN hX fl_X7_40 (w_4 _ _ _) rfl dX7_playBoth_8 ?_
  obtain ⟨μ1, h2, hf⟩ := bd1_eq hf
  refine r_callVV (Ok.le hX (by omega)) (c_me_begin (d := d)  h2) cv_X7_123 (w_90 _ _ _) rfl rfl (st := []) rfl rfl rfl dX7_playBoth_11 (fun dy => ?_)
  refine r_aload_n hX dX7_playBoth_14 0 rfl ?_
  refine r_get hX fl_X7_20 (w_93 _ _ _) rfl dX7_playBoth_15 ?_
  obtain ⟨v5, μ3, h4, hf⟩ := bd2_eq hf
  refine r_callVI (Ok.le hX (by omega)) (c_st_now (d := d)  h4) cv_X7_100 (w_4 _ _ _) rfl rfl (st := []) rfl rfl rfl dX7_playBoth_18 (fun dy => ?_)
  refine r_istore_n hX dX7_playBoth_21 rfl (ls' := [(2, .int v5), (0, .ref (gA (xG X) 93)), (1, .int x1)]) rfl ?_
  refine r_aload_n hX dX7_playBoth_22 1 rfl ?_
  refine r_iload_n hX dX7_playBoth_23 0 rfl ?_
  refine r_iload_n hX dX7_playBoth_24 2 rfl ?_
  obtain ⟨v8, μ6, h7, hf⟩ := bd2_eq hf
  refine r_callVI (Ok.le hX (by omega)) (c_sh_bestForOne (d := d) 5 h7) cv_X7_129 (w_93 _ _ _) rfl rfl (st := []) rfl rfl rfl dX7_playBoth_25 (fun dy => ?_)
  refine r_istore_n hX dX7_playBoth_28 rfl (ls' := [(3, .int v8), (2, .int v5), (0, .ref (gA (xG X) 93)), (1, .int x1)]) rfl ?_
  refine r_iconst hX (-1 : Int32) dX7_playBoth_29 rfl ?_
  refine r_istore hX dX7_playBoth_30 rfl (ls' := [(4, .int (-1 : Int32)), (3, .int v8), (2, .int v5), (0, .ref (gA (xG X) 93)), (1, .int x1)]) rfl ?_
  refine r_iload_n hX dX7_playBoth_32 4 rfl ?_
  refine r_if_le hX 110 dX7_playBoth_33 rfl (fun hc9 => ?_) (fun hc9 => ?_)
  · rw [if_pos hc9] at hf
    refine r_weak [3, 1, 0] rfl ?_
    exact b_sh_playBoth_b110 hX hr _ _ _ _ hf
  · rw [if_neg hc9] at hf
    refine r_aload_n hX dX7_playBoth_36 3 rfl ?_
    refine r_iload_n hX dX7_playBoth_37 2 rfl ?_
    refine r_iload_n hX dX7_playBoth_38 4 rfl ?_
    obtain ⟨v14, μ12, h13, hf⟩ := bd2_eq hf
    refine r_callVI (Ok.le hX (by omega)) (c_sh_bestForZero (d := d + 2 * 5) (fun _ _ _ _ h9 => c_sh_bestForOne (d := d) 5 h9) h13) cv_X7_132 (w_93 _ _ _) rfl rfl (st := []) rfl rfl rfl dX7_playBoth_39 (fun dy => ?_)
    refine r_iload_n hX dX7_playBoth_42 1 rfl ?_
    refine r_icmp_eq hX 110 dX7_playBoth_43 rfl (fun hc15 => ?_) (fun hc15 => ?_)
    · rw [if_pos hc15] at hf
      refine r_weak [3, 1, 0] rfl ?_
      exact b_sh_playBoth_b110 hX hr _ _ _ _ hf
    · rw [if_neg hc15] at hf
      refine r_aload_n hX dX7_playBoth_46 3 rfl ?_
      refine r_iconst hX (1 : Int32) dX7_playBoth_47 rfl ?_
      refine r_iload_n hX dX7_playBoth_48 2 rfl ?_
      obtain ⟨v18, μ16, h17, hf⟩ := bd2_eq hf
      refine r_callVI (Ok.le hX (by omega)) (c_sh_open (d := d)  h17) cv_X7_84 (w_93 _ _ _) rfl rfl (st := []) rfl rfl rfl dX7_playBoth_49 (fun dy => ?_)
      refine r_istore hX dX7_playBoth_52 rfl (ls' := [(5, .int v18), (4, .int (-1 : Int32)), (3, .int v8), (2, .int v5), (0, .ref (gA (xG X) 93)), (1, .int x1)]) rfl ?_
      refine r_aload_n hX dX7_playBoth_54 4 rfl ?_
      refine r_get hX fl_X7_20 (w_93 _ _ _) rfl dX7_playBoth_55 ?_
      refine r_getN hX fl_X7_40 (w_4 _ _ _) rfl dX7_playBoth_58 ?_
      refine r_iconst hX (1 : Int32) dX7_playBoth_61 rfl ?_
      refine r_isub hX dX7_playBoth_62 ?_
      obtain ⟨v19, e20, hf⟩ := bnd_eq hf
      refine r_topI e20 ?_
      refine r_istore hX dX7_playBoth_63 rfl (ls' := [(6, .int v19), (5, .int v18), (4, .int (-1 : Int32)), (3, .int v8), (2, .int v5), (0, .ref (gA (xG X) 93)), (1, .int x1)]) rfl ?_
      refine r_weak [5, 6, 4, 3, 2, 1, 0] rfl ?_
      exact b_sh_playBoth_b65 hX hr FU _ _ _ _ _ _ _ _ hf
theorem dX7_behindReply_0 : decode cX7_behindReply 0 = .ok (.aload_n 0, 1) := by decide +kernel
theorem dX7_behindReply_1 : decode cX7_behindReply 1 = .ok (.getfield 28, 3) := by decide +kernel
theorem dX7_behindReply_4 : decode cX7_behindReply 4 = .ok (.iconst 0, 1) := by decide +kernel
theorem dX7_behindReply_5 : decode cX7_behindReply 5 = .ok (.iload_n 1, 1) := by decide +kernel
theorem dX7_behindReply_6 : decode cX7_behindReply 6 = .ok (.invokevirtual 135, 3) := by decide +kernel
theorem dX7_behindReply_9 : decode cX7_behindReply 9 = .ok (.istore_n 2, 1) := by decide +kernel
theorem dX7_behindReply_10 : decode cX7_behindReply 10 = .ok (.iload_n 2, 1) := by decide +kernel
theorem dX7_behindReply_11 : decode cX7_behindReply 11 = .ok (.iconst (-1), 1) := by decide +kernel
theorem dX7_behindReply_12 : decode cX7_behindReply 12 = .ok (.if_icmp .eq 5, 3) := by decide +kernel
theorem dX7_behindReply_15 : decode cX7_behindReply 15 = .ok (.iload_n 2, 1) := by decide +kernel
theorem dX7_behindReply_16 : decode cX7_behindReply 16 = .ok (.ireturn, 1) := by decide +kernel
theorem dX7_behindReply_17 : decode cX7_behindReply 17 = .ok (.aload_n 0, 1) := by decide +kernel
theorem dX7_behindReply_18 : decode cX7_behindReply 18 = .ok (.iconst 0, 1) := by decide +kernel
theorem dX7_behindReply_19 : decode cX7_behindReply 19 = .ok (.iload_n 1, 1) := by decide +kernel
theorem dX7_behindReply_20 : decode cX7_behindReply 20 = .ok (.invokevirtual 120, 3) := by decide +kernel
theorem dX7_behindReply_23 : decode cX7_behindReply 23 = .ok (.istore_n 3, 1) := by decide +kernel
theorem dX7_behindReply_24 : decode cX7_behindReply 24 = .ok (.aload_n 0, 1) := by decide +kernel
theorem dX7_behindReply_25 : decode cX7_behindReply 25 = .ok (.getfield 24, 3) := by decide +kernel
theorem dX7_behindReply_28 : decode cX7_behindReply 28 = .ok (.iload_n 3, 1) := by decide +kernel
theorem dX7_behindReply_29 : decode cX7_behindReply 29 = .ok (.ifCond .ge 7, 3) := by decide +kernel
theorem dX7_behindReply_32 : decode cX7_behindReply 32 = .ok (.iload_n 1, 1) := by decide +kernel
theorem dX7_behindReply_33 : decode cX7_behindReply 33 = .ok (.goto 8, 3) := by decide +kernel
theorem dX7_behindReply_36 : decode cX7_behindReply 36 = .ok (.iload_n 1, 1) := by decide +kernel
theorem dX7_behindReply_37 : decode cX7_behindReply 37 = .ok (.iconst 1, 1) := by decide +kernel
theorem dX7_behindReply_38 : decode cX7_behindReply 38 = .ok (.iload_n 3, 1) := by decide +kernel
theorem dX7_behindReply_39 : decode cX7_behindReply 39 = .ok (.ishl, 1) := by decide +kernel
theorem dX7_behindReply_40 : decode cX7_behindReply 40 = .ok (.ixor, 1) := by decide +kernel
theorem dX7_behindReply_41 : decode cX7_behindReply 41 = .ok (.invokevirtual 106, 3) := by decide +kernel
theorem dX7_behindReply_44 : decode cX7_behindReply 44 = .ok (.istore 4, 2) := by decide +kernel
theorem dX7_behindReply_46 : decode cX7_behindReply 46 = .ok (.aload_n 0, 1) := by decide +kernel
theorem dX7_behindReply_47 : decode cX7_behindReply 47 = .ok (.getfield 28, 3) := by decide +kernel
theorem dX7_behindReply_50 : decode cX7_behindReply 50 = .ok (.iconst 0, 1) := by decide +kernel
theorem dX7_behindReply_51 : decode cX7_behindReply 51 = .ok (.iload_n 1, 1) := by decide +kernel
theorem dX7_behindReply_52 : decode cX7_behindReply 52 = .ok (.iload 4, 2) := by decide +kernel
theorem dX7_behindReply_54 : decode cX7_behindReply 54 = .ok (.invokevirtual 143, 3) := by decide +kernel
theorem dX7_behindReply_57 : decode cX7_behindReply 57 = .ok (.iload 4, 2) := by decide +kernel
theorem dX7_behindReply_59 : decode cX7_behindReply 59 = .ok (.ireturn, 1) := by decide +kernel
set_option maxHeartbeats 4000000 in
set_option maxRecDepth 20000 in
theorem c_sh_behindReply {G : Gx} {d : Nat} {x1 : Int32} {μ : Mem} {r : Int32 × Mem} (hf : f_sh_behindReply x1 μ = some r) : Con G M_sh_behindReply (d + 4) [.ref (gA G 93), .int x1] μ (some (.int r.1), r.2) := by
  refine Con.ofI ⟨rfl, rfl, Nat.le_of_ble_eq_true rfl⟩ rfl rfl (fun X hG hX hr dy => ?_)
  subst hG
  show AW X 0 [(0, .ref (gA (xG X) 93)), (1, .int x1)] [] μ dy
  unfold f_sh_behindReply at hf
  refine r_aload_n hX dX7_behindReply_0 0 rfl ?_
  refine r_get hX fl_X7_28 (w_93 _ _ _) rfl dX7_behindReply_1 ?_
  refine r_iconst hX (0 : Int32) dX7_behindReply_4 rfl ?_
  refine r_iload_n hX dX7_behindReply_5 1 rfl ?_
  obtain ⟨v3, μ1, h2, hf⟩ := bd2_eq hf
  refine r_callVI (Ok.le hX (by omega)) (c_me_recall (d := d)  h2) cv_X7_135 (w_90 _ _ _) rfl rfl (st := []) rfl rfl rfl dX7_behindReply_6 (fun dy => ?_)
  refine r_istore_n hX dX7_behindReply_9 rfl (ls' := [(2, .int v3), (0, .ref (gA (xG X) 93)), (1, .int x1)]) rfl ?_
  refine r_iload_n hX dX7_behindReply_10 0 rfl ?_
  refine r_iconst hX (-1 : Int32) dX7_behindReply_11 rfl ?_
  refine r_icmp_eq hX 17 dX7_behindReply_12 rfl (fun hc4 => ?_) (fun hc4 => ?_)
  · rw [if_pos hc4] at hf
    refine r_aload_n hX dX7_behindReply_17 1 rfl ?_
    refine r_iconst hX (0 : Int32) dX7_behindReply_18 rfl ?_
    refine r_iload_n hX dX7_behindReply_19 2 rfl ?_
    obtain ⟨v7, μ5, h6, hf⟩ := bd2_eq hf
    refine r_callVI (Ok.le hX (by omega)) (c_sh_pick (d := d)  h6) cv_X7_120 (w_93 _ _ _) rfl rfl (st := []) rfl rfl rfl dX7_behindReply_20 (fun dy => ?_)
    refine r_istore_n hX dX7_behindReply_23 rfl (ls' := [(3, .int v7), (2, .int v3), (0, .ref (gA (xG X) 93)), (1, .int x1)]) rfl ?_
    refine r_aload_n hX dX7_behindReply_24 2 rfl ?_
    refine r_get hX fl_X7_24 (w_93 _ _ _) rfl dX7_behindReply_25 ?_
    refine r_iload_n hX dX7_behindReply_28 0 rfl ?_
    obtain ⟨v8, e9, hf⟩ := bnd_eq hf
    have J10 : AW X 41 [(3, .int v7), (2, .int v3), (0, .ref (gA (xG X) 93)), (1, .int x1)] [.int v8, .ref (gA (xG X) 80)] μ5 dy := by
      obtain ⟨v13, μ11, h12, hf⟩ := bd2_eq hf
      refine r_callVI (Ok.le hX (by omega)) (c_he_after (d := d) (by decide) h12) cv_X7_106 (w_80 _ _ _) rfl rfl (st := []) rfl rfl rfl dX7_behindReply_41 (fun dy => ?_)
      refine r_istore hX dX7_behindReply_44 rfl (ls' := [(4, .int v13), (3, .int v7), (2, .int v3), (0, .ref (gA (xG X) 93)), (1, .int x1)]) rfl ?_
      refine r_aload_n hX dX7_behindReply_46 3 rfl ?_
      refine r_get hX fl_X7_28 (w_93 _ _ _) rfl dX7_behindReply_47 ?_
      refine r_iconst hX (0 : Int32) dX7_behindReply_50 rfl ?_
      refine r_iload_n hX dX7_behindReply_51 4 rfl ?_
      refine r_iload hX dX7_behindReply_52 0 rfl ?_
      obtain ⟨μ14, h15, hf⟩ := bd1_eq hf
      refine r_callVV (Ok.le hX (by omega)) (c_me_note (d := d)  h15) cv_X7_143 (w_90 _ _ _) rfl rfl (st := []) rfl rfl rfl dX7_behindReply_54 (fun dy => ?_)
      refine r_iload hX dX7_behindReply_57 0 rfl ?_
      exact fin_I hf hr _ _ _ dX7_behindReply_59
    refine r_if_ge hX 36 dX7_behindReply_29 rfl (fun hc16 => ?_) (fun hc16 => ?_)
    · refine r_iload_n hX dX7_behindReply_36 3 rfl ?_
      refine r_iconst hX (1 : Int32) dX7_behindReply_37 rfl ?_
      refine r_iload_n hX dX7_behindReply_38 0 rfl ?_
      refine r_ishl hX dX7_behindReply_39 ?_
      refine r_ixor hX dX7_behindReply_40 ?_
      exact r_topI (e9.trans (by rw [if_pos hc16])) J10
    · refine r_iload_n hX dX7_behindReply_32 3 rfl ?_
      refine r_goto hX 41 dX7_behindReply_33 rfl ?_
      exact r_topI (e9.trans (by rw [if_neg hc16])) J10
  · rw [if_neg hc4] at hf
    refine r_iload_n hX dX7_behindReply_15 0 rfl ?_
    exact fin_I hf hr _ _ _ dX7_behindReply_16
theorem dX7_bestAgainstRule_0 : decode cX7_bestAgainstRule 0 = .ok (.iload_n 2, 1) := by decide +kernel
theorem dX7_bestAgainstRule_1 : decode cX7_bestAgainstRule 1 = .ok (.ifCond .gt 8, 3) := by decide +kernel
theorem dX7_bestAgainstRule_4 : decode cX7_bestAgainstRule 4 = .ok (.iload_n 1, 1) := by decide +kernel
theorem dX7_bestAgainstRule_5 : decode cX7_bestAgainstRule 5 = .ok (.invokestatic 62, 3) := by decide +kernel
theorem dX7_bestAgainstRule_8 : decode cX7_bestAgainstRule 8 = .ok (.ireturn, 1) := by decide +kernel
theorem dX7_bestAgainstRule_9 : decode cX7_bestAgainstRule 9 = .ok (.aload_n 0, 1) := by decide +kernel
theorem dX7_bestAgainstRule_10 : decode cX7_bestAgainstRule 10 = .ok (.getfield 28, 3) := by decide +kernel
theorem dX7_bestAgainstRule_13 : decode cX7_bestAgainstRule 13 = .ok (.iload_n 2, 1) := by decide +kernel
theorem dX7_bestAgainstRule_14 : decode cX7_bestAgainstRule 14 = .ok (.iload_n 1, 1) := by decide +kernel
theorem dX7_bestAgainstRule_15 : decode cX7_bestAgainstRule 15 = .ok (.invokevirtual 135, 3) := by decide +kernel
theorem dX7_bestAgainstRule_18 : decode cX7_bestAgainstRule 18 = .ok (.istore_n 3, 1) := by decide +kernel
theorem dX7_bestAgainstRule_19 : decode cX7_bestAgainstRule 19 = .ok (.iload_n 3, 1) := by decide +kernel
theorem dX7_bestAgainstRule_20 : decode cX7_bestAgainstRule 20 = .ok (.iconst (-1), 1) := by decide +kernel
theorem dX7_bestAgainstRule_21 : decode cX7_bestAgainstRule 21 = .ok (.if_icmp .eq 5, 3) := by decide +kernel
theorem dX7_bestAgainstRule_24 : decode cX7_bestAgainstRule 24 = .ok (.iload_n 3, 1) := by decide +kernel
theorem dX7_bestAgainstRule_25 : decode cX7_bestAgainstRule 25 = .ok (.ireturn, 1) := by decide +kernel
theorem dX7_bestAgainstRule_26 : decode cX7_bestAgainstRule 26 = .ok (.aload_n 0, 1) := by decide +kernel
theorem dX7_bestAgainstRule_27 : decode cX7_bestAgainstRule 27 = .ok (.aload_n 0, 1) := by decide +kernel
theorem dX7_bestAgainstRule_28 : decode cX7_bestAgainstRule 28 = .ok (.iload_n 1, 1) := by decide +kernel
theorem dX7_bestAgainstRule_29 : decode cX7_bestAgainstRule 29 = .ok (.invokevirtual 153, 3) := by decide +kernel
theorem dX7_bestAgainstRule_32 : decode cX7_bestAgainstRule 32 = .ok (.iload_n 2, 1) := by decide +kernel
theorem dX7_bestAgainstRule_33 : decode cX7_bestAgainstRule 33 = .ok (.iconst 1, 1) := by decide +kernel
theorem dX7_bestAgainstRule_34 : decode cX7_bestAgainstRule 34 = .ok (.isub, 1) := by decide +kernel
theorem dX7_bestAgainstRule_35 : decode cX7_bestAgainstRule 35 = .ok (.invokevirtual 150, 3) := by decide +kernel
theorem dX7_bestAgainstRule_38 : decode cX7_bestAgainstRule 38 = .ok (.istore 4, 2) := by decide +kernel
theorem dX7_bestAgainstRule_40 : decode cX7_bestAgainstRule 40 = .ok (.aload_n 0, 1) := by decide +kernel
theorem dX7_bestAgainstRule_41 : decode cX7_bestAgainstRule 41 = .ok (.iconst 1, 1) := by decide +kernel
theorem dX7_bestAgainstRule_42 : decode cX7_bestAgainstRule 42 = .ok (.iload_n 1, 1) := by decide +kernel
theorem dX7_bestAgainstRule_43 : decode cX7_bestAgainstRule 43 = .ok (.invokevirtual 84, 3) := by decide +kernel
theorem dX7_bestAgainstRule_46 : decode cX7_bestAgainstRule 46 = .ok (.istore 5, 2) := by decide +kernel
theorem dX7_bestAgainstRule_48 : decode cX7_bestAgainstRule 48 = .ok (.iconst 0, 1) := by decide +kernel
theorem dX7_bestAgainstRule_49 : decode cX7_bestAgainstRule 49 = .ok (.istore 6, 2) := by decide +kernel
theorem dX7_bestAgainstRule_51 : decode cX7_bestAgainstRule 51 = .ok (.iload 6, 2) := by decide +kernel
theorem dX7_bestAgainstRule_53 : decode cX7_bestAgainstRule 53 = .ok (.aload_n 0, 1) := by decide +kernel
theorem dX7_bestAgainstRule_54 : decode cX7_bestAgainstRule 54 = .ok (.getfield 20, 3) := by decide +kernel
theorem dX7_bestAgainstRule_57 : decode cX7_bestAgainstRule 57 = .ok (.getfield 40, 3) := by decide +kernel
theorem dX7_bestAgainstRule_60 : decode cX7_bestAgainstRule 60 = .ok (.if_icmp .ge 43, 3) := by decide +kernel
theorem dX7_bestAgainstRule_63 : decode cX7_bestAgainstRule 63 = .ok (.iload 5, 2) := by decide +kernel
theorem dX7_bestAgainstRule_65 : decode cX7_bestAgainstRule 65 = .ok (.iload 6, 2) := by decide +kernel
theorem dX7_bestAgainstRule_67 : decode cX7_bestAgainstRule 67 = .ok (.ishr, 1) := by decide +kernel
theorem dX7_bestAgainstRule_68 : decode cX7_bestAgainstRule 68 = .ok (.iconst 1, 1) := by decide +kernel
theorem dX7_bestAgainstRule_69 : decode cX7_bestAgainstRule 69 = .ok (.iand, 1) := by decide +kernel
theorem dX7_bestAgainstRule_70 : decode cX7_bestAgainstRule 70 = .ok (.ifCond .eq 27, 3) := by decide +kernel
theorem dX7_bestAgainstRule_73 : decode cX7_bestAgainstRule 73 = .ok (.iload 4, 2) := by decide +kernel
theorem dX7_bestAgainstRule_75 : decode cX7_bestAgainstRule 75 = .ok (.aload_n 0, 1) := by decide +kernel
theorem dX7_bestAgainstRule_76 : decode cX7_bestAgainstRule 76 = .ok (.aload_n 0, 1) := by decide +kernel
theorem dX7_bestAgainstRule_77 : decode cX7_bestAgainstRule 77 = .ok (.iload_n 1, 1) := by decide +kernel
theorem dX7_bestAgainstRule_78 : decode cX7_bestAgainstRule 78 = .ok (.iconst 1, 1) := by decide +kernel
theorem dX7_bestAgainstRule_79 : decode cX7_bestAgainstRule 79 = .ok (.iload 6, 2) := by decide +kernel
theorem dX7_bestAgainstRule_81 : decode cX7_bestAgainstRule 81 = .ok (.ishl, 1) := by decide +kernel
theorem dX7_bestAgainstRule_82 : decode cX7_bestAgainstRule 82 = .ok (.ior, 1) := by decide +kernel
theorem dX7_bestAgainstRule_83 : decode cX7_bestAgainstRule 83 = .ok (.invokevirtual 153, 3) := by decide +kernel
theorem dX7_bestAgainstRule_86 : decode cX7_bestAgainstRule 86 = .ok (.iload_n 2, 1) := by decide +kernel
theorem dX7_bestAgainstRule_87 : decode cX7_bestAgainstRule 87 = .ok (.iconst 1, 1) := by decide +kernel
theorem dX7_bestAgainstRule_88 : decode cX7_bestAgainstRule 88 = .ok (.isub, 1) := by decide +kernel
theorem dX7_bestAgainstRule_89 : decode cX7_bestAgainstRule 89 = .ok (.invokevirtual 150, 3) := by decide +kernel
theorem dX7_bestAgainstRule_92 : decode cX7_bestAgainstRule 92 = .ok (.invokestatic 138, 3) := by decide +kernel
theorem dX7_bestAgainstRule_95 : decode cX7_bestAgainstRule 95 = .ok (.istore 4, 2) := by decide +kernel
theorem dX7_bestAgainstRule_97 : decode cX7_bestAgainstRule 97 = .ok (.iinc 6 1, 3) := by decide +kernel
theorem dX7_bestAgainstRule_100 : decode cX7_bestAgainstRule 100 = .ok (.goto (-49), 3) := by decide +kernel
theorem dX7_bestAgainstRule_103 : decode cX7_bestAgainstRule 103 = .ok (.aload_n 0, 1) := by decide +kernel
theorem dX7_bestAgainstRule_104 : decode cX7_bestAgainstRule 104 = .ok (.getfield 28, 3) := by decide +kernel
theorem dX7_bestAgainstRule_107 : decode cX7_bestAgainstRule 107 = .ok (.iload_n 2, 1) := by decide +kernel
theorem dX7_bestAgainstRule_108 : decode cX7_bestAgainstRule 108 = .ok (.iload_n 1, 1) := by decide +kernel
theorem dX7_bestAgainstRule_109 : decode cX7_bestAgainstRule 109 = .ok (.iload 4, 2) := by decide +kernel
theorem dX7_bestAgainstRule_111 : decode cX7_bestAgainstRule 111 = .ok (.invokevirtual 143, 3) := by decide +kernel
theorem dX7_bestAgainstRule_114 : decode cX7_bestAgainstRule 114 = .ok (.iload 4, 2) := by decide +kernel
theorem dX7_bestAgainstRule_116 : decode cX7_bestAgainstRule 116 = .ok (.ireturn, 1) := by decide +kernel
set_option maxHeartbeats 4000000 in
set_option maxRecDepth 20000 in
theorem b_sh_bestAgainstRule_b51 {X : Cx} {d : Nat} {R : Int32 → Int32 → Mem → Option (Int32 × Mem)} (hR : ∀ (x1 : Int32) (x2 : Int32) (μ : Mem) (r : Int32 × Mem), R x1 x2 μ = some r → Con (xG X) M_sh_bestAgainstRule (d + 8) [.ref (gA (xG X) 93), .int x1, .int x2] μ (some (.int r.1), r.2)) (hX : Ok M_sh_bestAgainstRule (d + 9) X) {r : Int32 × Mem} (hr : RetI M_sh_bestAgainstRule X r.1 r.2) : ∀ (n : Nat) (x1 : Int32) (x2 : Int32) (x4 : Int32) (x5 : Int32) (x6 : Int32) (μ : Mem) (dy : Nat → Nat), f_sh_bestAgainstRule_b51 R n x1 x2 x4 x5 x6 μ = some r → AW X 51 [(0, .ref (gA (xG X) 93)), (1, .int x1), (2, .int x2), (4, .int x4), (5, .int x5), (6, .int x6)] [] μ dy := by
  intro n
  induction n with
  | zero => intro x1 x2 x4 x5 x6 μ dy hf; exact nomatch hf
  | succ n ih =>
    intro x1 x2 x4 x5 x6 μ dy hf
    rw [f_sh_bestAgainstRule_b51] at hf
    refine r_iload hX dX7_bestAgainstRule_51 5 rfl ?_
    refine r_aload_n hX dX7_bestAgainstRule_53 0 rfl ?_
    refine r_get hX fl_X7_20 (w_93 _ _ _) rfl dX7_bestAgainstRule_54 ?_
    refine r_getN hX fl_X7_40 (w_4 _ _ _) rfl dX7_bestAgainstRule_57 ?_
    refine r_icmp_ge hX 103 dX7_bestAgainstRule_60 rfl (fun hc15 => ?_) (fun hc15 => ?_)
    · rw [if_pos hc15] at hf
      refine r_aload_n hX dX7_bestAgainstRule_103 0 rfl ?_
      refine r_get hX fl_X7_28 (w_93 _ _ _) rfl dX7_bestAgainstRule_104 ?_
      refine r_iload_n hX dX7_bestAgainstRule_107 2 rfl ?_
      refine r_iload_n hX dX7_bestAgainstRule_108 1 rfl ?_
      refine r_iload hX dX7_bestAgainstRule_109 3 rfl ?_
      obtain ⟨μ16, h17, hf⟩ := bd1_eq hf
      refine r_callVV (Ok.le hX (by omega)) (c_me_note (d := d)  h17) cv_X7_143 (w_90 _ _ _) rfl rfl (st := []) rfl rfl rfl dX7_bestAgainstRule_111 (fun dy => ?_)
      refine r_iload hX dX7_bestAgainstRule_114 3 rfl ?_
      exact fin_I hf hr _ _ _ dX7_bestAgainstRule_116
    · rw [if_neg hc15] at hf
      refine r_iload hX dX7_bestAgainstRule_63 4 rfl ?_
      refine r_iload hX dX7_bestAgainstRule_65 5 rfl ?_
      refine r_ishr hX dX7_bestAgainstRule_67 ?_
      refine r_iconst hX (1 : Int32) dX7_bestAgainstRule_68 rfl ?_
      refine r_iand hX dX7_bestAgainstRule_69 ?_
      refine r_if_eq hX 97 dX7_bestAgainstRule_70 rfl (fun hc18 => ?_) (fun hc18 => ?_)
      · rw [if_pos hc18] at hf
        refine r_iinc hX (x6 + (1 : Int32)) dX7_bestAgainstRule_97 5 rfl rfl rfl (ls' := [(6, .int (x6 + (1 : Int32))), (0, .ref (gA (xG X) 93)), (1, .int x1), (2, .int x2), (4, .int x4), (5, .int x5)]) rfl ?_
        refine r_goto hX 51 dX7_bestAgainstRule_100 rfl ?_
        refine r_weak [1, 2, 3, 4, 5, 0] rfl ?_
        exact ih _ _ _ _ _ _ _ hf
      · rw [if_neg hc18] at hf
        refine r_iload hX dX7_bestAgainstRule_73 3 rfl ?_
        refine r_aload_n hX dX7_bestAgainstRule_75 0 rfl ?_
        refine r_aload_n hX dX7_bestAgainstRule_76 0 rfl ?_
        refine r_iload_n hX dX7_bestAgainstRule_77 1 rfl ?_
        refine r_iconst hX (1 : Int32) dX7_bestAgainstRule_78 rfl ?_
        refine r_iload hX dX7_bestAgainstRule_79 5 rfl ?_
        refine r_ishl hX dX7_bestAgainstRule_81 ?_
        refine r_ior hX dX7_bestAgainstRule_82 ?_
        obtain ⟨v21, μ19, h20, hf⟩ := bd2_eq hf
        refine r_callVI (Ok.le hX (by omega)) (c_sh_behindReply (d := d)  h20) cv_X7_153 (w_93 _ _ _) rfl rfl (st := [.ref (gA (xG X) 93), .int x4]) rfl rfl rfl dX7_bestAgainstRule_83 (fun dy => ?_)
        refine r_iload_n hX dX7_bestAgainstRule_86 2 rfl ?_
        refine r_iconst hX (1 : Int32) dX7_bestAgainstRule_87 rfl ?_
        refine r_isub hX dX7_bestAgainstRule_88 ?_
        obtain ⟨v24, μ22, h23, hf⟩ := bd2_eq hf
        refine r_callVI (Ok.le hX (by omega)) (hR _ _ _ _ h23) cv_X7_150 (w_93 _ _ _) rfl rfl (st := [.int x4]) rfl rfl rfl dX7_bestAgainstRule_89 (fun dy => ?_)
        refine r_max (d := d + 8) (Ok.le hX (by omega)) cs_X7_138 rfl dX7_bestAgainstRule_92 ?_
        refine r_istore hX dX7_bestAgainstRule_95 rfl (ls' := [(4, .int (imax x4 v24)), (0, .ref (gA (xG X) 93)), (1, .int x1), (2, .int x2), (5, .int x5), (6, .int x6)]) rfl ?_
        refine r_iinc hX (x6 + (1 : Int32)) dX7_bestAgainstRule_97 5 rfl rfl rfl (ls' := [(6, .int (x6 + (1 : Int32))), (4, .int (imax x4 v24)), (0, .ref (gA (xG X) 93)), (1, .int x1), (2, .int x2), (5, .int x5)]) rfl ?_
        refine r_goto hX 51 dX7_bestAgainstRule_100 rfl ?_
        refine r_weak [2, 3, 4, 1, 5, 0] rfl ?_
        exact ih _ _ _ _ _ _ _ hf
set_option maxHeartbeats 4000000 in
set_option maxRecDepth 20000 in
theorem c_sh_bestAgainstRule_body {G : Gx} {d : Nat} {R : Int32 → Int32 → Mem → Option (Int32 × Mem)} (hR : ∀ (x1 : Int32) (x2 : Int32) (μ : Mem) (r : Int32 × Mem), R x1 x2 μ = some r → Con G M_sh_bestAgainstRule (d + 8) [.ref (gA G 93), .int x1, .int x2] μ (some (.int r.1), r.2)) {x1 : Int32} {x2 : Int32} {μ : Mem} {r : Int32 × Mem} (hf : f_sh_bestAgainstRule_body R x1 x2 μ = some r) : Con G M_sh_bestAgainstRule (d + 9) [.ref (gA G 93), .int x1, .int x2] μ (some (.int r.1), r.2) := by
  refine Con.ofI ⟨rfl, rfl, Nat.le_of_ble_eq_true rfl⟩ rfl rfl (fun X hG hX hr dy => ?_)
  subst hG
  show AW X 0 [(0, .ref (gA (xG X) 93)), (1, .int x1), (2, .int x2)] [] μ dy
  unfold f_sh_bestAgainstRule_body at hf
  refine r_iload_n hX dX7_bestAgainstRule_0 2 rfl ?_
  refine r_if_gt hX 9 dX7_bestAgainstRule_1 rfl (fun hc1 => ?_) (fun hc1 => ?_)
  · rw [if_pos hc1] at hf
    refine r_aload_n hX dX7_bestAgainstRule_9 0 rfl ?_
    refine r_get hX fl_X7_28 (w_93 _ _ _) rfl dX7_bestAgainstRule_10 ?_
    refine r_iload_n hX dX7_bestAgainstRule_13 2 rfl ?_
    refine r_iload_n hX dX7_bestAgainstRule_14 1 rfl ?_
    obtain ⟨v4, μ2, h3, hf⟩ := bd2_eq hf
    refine r_callVI (Ok.le hX (by omega)) (c_me_recall (d := d)  h3) cv_X7_135 (w_90 _ _ _) rfl rfl (st := []) rfl rfl rfl dX7_bestAgainstRule_15 (fun dy => ?_)
    refine r_istore_n hX dX7_bestAgainstRule_18 rfl (ls' := [(3, .int v4), (0, .ref (gA (xG X) 93)), (1, .int x1), (2, .int x2)]) rfl ?_
    refine r_iload_n hX dX7_bestAgainstRule_19 0 rfl ?_
    refine r_iconst hX (-1 : Int32) dX7_bestAgainstRule_20 rfl ?_
    refine r_icmp_eq hX 26 dX7_bestAgainstRule_21 rfl (fun hc5 => ?_) (fun hc5 => ?_)
    · rw [if_pos hc5] at hf
      refine r_aload_n hX dX7_bestAgainstRule_26 1 rfl ?_
      refine r_aload_n hX dX7_bestAgainstRule_27 1 rfl ?_
      refine r_iload_n hX dX7_bestAgainstRule_28 2 rfl ?_
      obtain ⟨v8, μ6, h7, hf⟩ := bd2_eq hf
      refine r_callVI (Ok.le hX (by omega)) (c_sh_behindReply (d := d)  h7) cv_X7_153 (w_93 _ _ _) rfl rfl (st := [.ref (gA (xG X) 93)]) rfl rfl rfl dX7_bestAgainstRule_29 (fun dy => ?_)
      refine r_iload_n hX dX7_bestAgainstRule_32 3 rfl ?_
      refine r_iconst hX (1 : Int32) dX7_bestAgainstRule_33 rfl ?_
      refine r_isub hX dX7_bestAgainstRule_34 ?_
      obtain ⟨v11, μ9, h10, hf⟩ := bd2_eq hf
      refine r_callVI (Ok.le hX (by omega)) (hR _ _ _ _ h10) cv_X7_150 (w_93 _ _ _) rfl rfl (st := []) rfl rfl rfl dX7_bestAgainstRule_35 (fun dy => ?_)
      refine r_istore hX dX7_bestAgainstRule_38 rfl (ls' := [(4, .int v11), (3, .int v4), (0, .ref (gA (xG X) 93)), (1, .int x1), (2, .int x2)]) rfl ?_
      refine r_aload_n hX dX7_bestAgainstRule_40 2 rfl ?_
      refine r_iconst hX (1 : Int32) dX7_bestAgainstRule_41 rfl ?_
      refine r_iload_n hX dX7_bestAgainstRule_42 3 rfl ?_
      obtain ⟨v14, μ12, h13, hf⟩ := bd2_eq hf
      refine r_callVI (Ok.le hX (by omega)) (c_sh_open (d := d)  h13) cv_X7_84 (w_93 _ _ _) rfl rfl (st := []) rfl rfl rfl dX7_bestAgainstRule_43 (fun dy => ?_)
      refine r_istore hX dX7_bestAgainstRule_46 rfl (ls' := [(5, .int v14), (4, .int v11), (3, .int v4), (0, .ref (gA (xG X) 93)), (1, .int x1), (2, .int x2)]) rfl ?_
      refine r_iconst hX (0 : Int32) dX7_bestAgainstRule_48 rfl ?_
      refine r_istore hX dX7_bestAgainstRule_49 rfl (ls' := [(6, .int (0 : Int32)), (5, .int v14), (4, .int v11), (3, .int v4), (0, .ref (gA (xG X) 93)), (1, .int x1), (2, .int x2)]) rfl ?_
      refine r_weak [4, 5, 6, 2, 1, 0] rfl ?_
      exact b_sh_bestAgainstRule_b51 hR hX hr FU _ _ _ _ _ _ _ hf
    · rw [if_neg hc5] at hf
      refine r_iload_n hX dX7_bestAgainstRule_24 0 rfl ?_
      exact fin_I hf hr _ _ _ dX7_bestAgainstRule_25
  · rw [if_neg hc1] at hf
    refine r_iload_n hX dX7_bestAgainstRule_4 1 rfl ?_
    obtain ⟨v27, μ25, h26, hf⟩ := bd2_eq hf
    refine r_callSI (Ok.le hX (by omega)) (c_jd_bitCount (d := d)  h26) cs_X7_62 (st := []) rfl rfl rfl dX7_bestAgainstRule_5 (fun dy => ?_)
    exact fin_I hf hr _ _ _ dX7_bestAgainstRule_8
theorem c_sh_bestAgainstRule {G : Gx} {d : Nat} (k : Nat) : ∀ {x1 : Int32} {x2 : Int32} {μ : Mem} {r : Int32 × Mem}, f_sh_bestAgainstRule k x1 x2 μ = some r → Con G M_sh_bestAgainstRule (d + 1 * k + 8) [.ref (gA G 93), .int x1, .int x2] μ (some (.int r.1), r.2) := by
  induction k with
  | zero => intro x1 x2 μ r hf; exact nomatch hf
  | succ k ih =>
    intro x1 x2 μ r hf
    rw [f_sh_bestAgainstRule] at hf
    have h := c_sh_bestAgainstRule_body (d := d + 1 * k) (fun x1 x2 μ r h => ih h) hf
    have e : d + 1 * k + 9 = d + 1 * (k + 1) + 8 := by omega
    rw [← e]
    exact h
