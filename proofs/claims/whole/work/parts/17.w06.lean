theorem dX11_go_0 : decode cX11_go 0 = .ok (.iload_n 1, 1) := by decide +kernel
theorem dX11_go_1 : decode cX11_go 1 = .ok (.ifCond .lt 10, 3) := by decide +kernel
theorem dX11_go_4 : decode cX11_go 4 = .ok (.iload_n 1, 1) := by decide +kernel
theorem dX11_go_5 : decode cX11_go 5 = .ok (.sipush 200, 3) := by decide +kernel
theorem dX11_go_8 : decode cX11_go 8 = .ok (.if_icmp .le 5, 3) := by decide +kernel
theorem dX11_go_11 : decode cX11_go 11 = .ok (.iconst (-1), 1) := by decide +kernel
theorem dX11_go_12 : decode cX11_go 12 = .ok (.ireturn, 1) := by decide +kernel
theorem dX11_go_13 : decode cX11_go 13 = .ok (.iconst 0, 1) := by decide +kernel
theorem dX11_go_14 : decode cX11_go 14 = .ok (.istore_n 2, 1) := by decide +kernel
theorem dX11_go_15 : decode cX11_go 15 = .ok (.iload_n 2, 1) := by decide +kernel
theorem dX11_go_16 : decode cX11_go 16 = .ok (.iload_n 1, 1) := by decide +kernel
theorem dX11_go_17 : decode cX11_go 17 = .ok (.if_icmp .ge 43, 3) := by decide +kernel
theorem dX11_go_20 : decode cX11_go 20 = .ok (.aload_n 0, 1) := by decide +kernel
theorem dX11_go_21 : decode cX11_go 21 = .ok (.getfield 23, 3) := by decide +kernel
theorem dX11_go_24 : decode cX11_go 24 = .ok (.getfield 170, 3) := by decide +kernel
theorem dX11_go_27 : decode cX11_go 27 = .ok (.sipush 200, 3) := by decide +kernel
theorem dX11_go_30 : decode cX11_go 30 = .ok (.if_icmp .ge 30, 3) := by decide +kernel
theorem dX11_go_33 : decode cX11_go 33 = .ok (.aload_n 0, 1) := by decide +kernel
theorem dX11_go_34 : decode cX11_go 34 = .ok (.getfield 23, 3) := by decide +kernel
theorem dX11_go_37 : decode cX11_go 37 = .ok (.aload_n 0, 1) := by decide +kernel
theorem dX11_go_38 : decode cX11_go 38 = .ok (.getfield 63, 3) := by decide +kernel
theorem dX11_go_41 : decode cX11_go 41 = .ok (.aload_n 0, 1) := by decide +kernel
theorem dX11_go_42 : decode cX11_go 42 = .ok (.getfield 23, 3) := by decide +kernel
theorem dX11_go_45 : decode cX11_go 45 = .ok (.invokevirtual 123, 3) := by decide +kernel
theorem dX11_go_48 : decode cX11_go 48 = .ok (.invokevirtual 176, 3) := by decide +kernel
theorem dX11_go_51 : decode cX11_go 51 = .ok (.invokevirtual 179, 3) := by decide +kernel
theorem dX11_go_54 : decode cX11_go 54 = .ok (.iinc 2 1, 3) := by decide +kernel
theorem dX11_go_57 : decode cX11_go 57 = .ok (.goto (-42), 3) := by decide +kernel
theorem dX11_go_60 : decode cX11_go 60 = .ok (.aload_n 0, 1) := by decide +kernel
theorem dX11_go_61 : decode cX11_go 61 = .ok (.getfield 23, 3) := by decide +kernel
theorem dX11_go_64 : decode cX11_go 64 = .ok (.invokevirtual 123, 3) := by decide +kernel
theorem dX11_go_67 : decode cX11_go 67 = .ok (.ireturn, 1) := by decide +kernel
set_option maxHeartbeats 4000000 in
set_option maxRecDepth 20000 in
theorem b_x_go_b60 {X : Cx} {d : Nat} (hX : Ok M_x_go (d + 3) X) {r : Int32 × Mem} (hr : RetI M_x_go X r.1 r.2)  (μ : Mem) (dy : Nat → Nat) (hf : f_x_go_b60  μ = some r) : AW X 60 [(0, .ref (gA (xG X) 0))] [] μ dy := by
  unfold f_x_go_b60 at hf
  refine r_aload_n hX dX11_go_60 0 rfl ?_
  refine r_get hX fl_X11_23 (w_0 _ _ _) rfl dX11_go_61 ?_
  obtain ⟨v6, μ4, h5, hf⟩ := bd2_eq hf
  refine r_callVI (Ok.le hX (by omega)) (c_st_now (d := d)  h5) cv_X11_123 (w_4 _ _ _) rfl rfl (st := []) rfl rfl rfl dX11_go_64 (fun dy => ?_)
  exact fin_I hf hr _ _ _ dX11_go_67
set_option maxHeartbeats 4000000 in
set_option maxRecDepth 20000 in
theorem b_x_go_b15 {X : Cx} {d : Nat} (hX : Ok M_x_go (d + 3) X) {r : Int32 × Mem} (hr : RetI M_x_go X r.1 r.2) : ∀ (n : Nat) (x1 : Int32) (x2 : Int32) (μ : Mem) (dy : Nat → Nat), f_x_go_b15 n x1 x2 μ = some r → AW X 15 [(0, .ref (gA (xG X) 0)), (1, .int x1), (2, .int x2)] [] μ dy := by
  intro n
  induction n with
  | zero => intro x1 x2 μ dy hf; exact nomatch hf
  | succ n ih =>
    intro x1 x2 μ dy hf
    rw [f_x_go_b15] at hf
    refine r_iload_n hX dX11_go_15 2 rfl ?_
    refine r_iload_n hX dX11_go_16 1 rfl ?_
    refine r_icmp_ge hX 60 dX11_go_17 rfl (fun hc3 => ?_) (fun hc3 => ?_)
    · rw [if_pos hc3] at hf
      refine r_weak [0] rfl ?_
      exact b_x_go_b60 hX hr _ _ hf
    · rw [if_neg hc3] at hf
      refine r_aload_n hX dX11_go_20 0 rfl ?_
      refine r_get hX fl_X11_23 (w_0 _ _ _) rfl dX11_go_21 ?_
      refine r_getN hX fl_X11_170 (w_4 _ _ _) rfl dX11_go_24 ?_
      refine r_sipush hX (200 : Int32) dX11_go_27 rfl ?_
      refine r_icmp_ge hX 60 dX11_go_30 rfl (fun hc7 => ?_) (fun hc7 => ?_)
      · rw [if_pos hc7] at hf
        refine r_weak [0] rfl ?_
        exact b_x_go_b60 hX hr _ _ hf
      · rw [if_neg hc7] at hf
        refine r_aload_n hX dX11_go_33 0 rfl ?_
        refine r_get hX fl_X11_23 (w_0 _ _ _) rfl dX11_go_34 ?_
        refine r_aload_n hX dX11_go_37 0 rfl ?_
        refine r_get hX fl_X11_63 (w_0 _ _ _) rfl dX11_go_38 ?_
        refine r_aload_n hX dX11_go_41 0 rfl ?_
        refine r_get hX fl_X11_23 (w_0 _ _ _) rfl dX11_go_42 ?_
        obtain ⟨v10, μ8, h9, hf⟩ := bd2_eq hf
        refine r_callVI (Ok.le hX (by omega)) (c_st_now (d := d)  h9) cv_X11_123 (w_4 _ _ _) rfl rfl (st := [.ref (gA (xG X) 80), .ref (gA (xG X) 4)]) rfl rfl rfl dX11_go_45 (fun dy => ?_)
        obtain ⟨v13, μ11, h12, hf⟩ := bd2_eq hf
        refine r_callVI (Ok.le hX (by omega)) (c_he_after (d := d) (by decide) h12) cv_X11_176 (w_80 _ _ _) rfl rfl (st := [.ref (gA (xG X) 4)]) rfl rfl rfl dX11_go_48 (fun dy => ?_)
        obtain ⟨μ14, h15, hf⟩ := bd1_eq hf
        refine r_callVV (Ok.le hX (by omega)) (c_st_passDay (d := d)  h15) cv_X11_179 (w_4 _ _ _) rfl rfl (st := []) rfl rfl rfl dX11_go_51 (fun dy => ?_)
        refine r_iinc hX (x2 + (1 : Int32)) dX11_go_54 2 rfl rfl rfl (ls' := [(2, .int (x2 + (1 : Int32))), (0, .ref (gA (xG X) 0)), (1, .int x1)]) rfl ?_
        refine r_goto hX 15 dX11_go_57 rfl ?_
        refine r_weak [1, 2, 0] rfl ?_
        exact ih _ _ _ _ hf
set_option maxHeartbeats 4000000 in
set_option maxRecDepth 20000 in
theorem c_x_go {G : Gx} {d : Nat} {x1 : Int32} {μ : Mem} {r : Int32 × Mem} (hf : f_x_go x1 μ = some r) : Con G M_x_go (d + 3) [.ref (gA G 0), .int x1] μ (some (.int r.1), r.2) := by
  refine Con.ofI ⟨rfl, rfl, Nat.le_of_ble_eq_true rfl⟩ rfl rfl (fun X hG hX hr dy => ?_)
  subst hG
  show AW X 0 [(0, .ref (gA (xG X) 0)), (1, .int x1)] [] μ dy
  unfold f_x_go at hf
  refine r_iload_n hX dX11_go_0 1 rfl ?_
  refine r_if_lt hX 11 dX11_go_1 rfl (fun hc1 => ?_) (fun hc1 => ?_)
  · rw [if_pos hc1] at hf
    refine r_iconst hX (-1 : Int32) dX11_go_11 rfl ?_
    exact fin_I hf hr _ _ _ dX11_go_12
  · rw [if_neg hc1] at hf
    refine r_iload_n hX dX11_go_4 1 rfl ?_
    refine r_sipush hX (200 : Int32) dX11_go_5 rfl ?_
    refine r_icmp_le hX 13 dX11_go_8 rfl (fun hc2 => ?_) (fun hc2 => ?_)
    · rw [if_pos hc2] at hf
      refine r_iconst hX (0 : Int32) dX11_go_13 rfl ?_
      refine r_istore_n hX dX11_go_14 rfl (ls' := [(2, .int (0 : Int32)), (0, .ref (gA (xG X) 0)), (1, .int x1)]) rfl ?_
      refine r_weak [1, 2, 0] rfl ?_
      exact b_x_go_b15 hX hr FU _ _ _ _ hf
    · rw [if_neg hc2] at hf
      refine r_iconst hX (-1 : Int32) dX11_go_11 rfl ?_
      exact fin_I hf hr _ _ _ dX11_go_12
theorem dX11_talk_0 : decode cX11_talk 0 = .ok (.aload_n 0, 1) := by decide +kernel
theorem dX11_talk_1 : decode cX11_talk 1 = .ok (.getfield 23, 3) := by decide +kernel
theorem dX11_talk_4 : decode cX11_talk 4 = .ok (.iload_n 1, 1) := by decide +kernel
theorem dX11_talk_5 : decode cX11_talk 5 = .ok (.invokevirtual 183, 3) := by decide +kernel
theorem dX11_talk_8 : decode cX11_talk 8 = .ok (.ifCond .eq 17, 3) := by decide +kernel
theorem dX11_talk_11 : decode cX11_talk 11 = .ok (.iload_n 1, 1) := by decide +kernel
theorem dX11_talk_12 : decode cX11_talk 12 = .ok (.aload_n 0, 1) := by decide +kernel
theorem dX11_talk_13 : decode cX11_talk 13 = .ok (.getfield 23, 3) := by decide +kernel
theorem dX11_talk_16 : decode cX11_talk 16 = .ok (.invokevirtual 186, 3) := by decide +kernel
theorem dX11_talk_19 : decode cX11_talk 19 = .ok (.iconst (-1), 1) := by decide +kernel
theorem dX11_talk_20 : decode cX11_talk 20 = .ok (.ixor, 1) := by decide +kernel
theorem dX11_talk_21 : decode cX11_talk 21 = .ok (.iand, 1) := by decide +kernel
theorem dX11_talk_22 : decode cX11_talk 22 = .ok (.ifCond .eq 5, 3) := by decide +kernel
theorem dX11_talk_25 : decode cX11_talk 25 = .ok (.iconst (-1), 1) := by decide +kernel
theorem dX11_talk_26 : decode cX11_talk 26 = .ok (.ireturn, 1) := by decide +kernel
theorem dX11_talk_27 : decode cX11_talk 27 = .ok (.aload_n 0, 1) := by decide +kernel
theorem dX11_talk_28 : decode cX11_talk 28 = .ok (.getfield 23, 3) := by decide +kernel
theorem dX11_talk_31 : decode cX11_talk 31 = .ok (.getfield 173, 3) := by decide +kernel
theorem dX11_talk_34 : decode cX11_talk 34 = .ok (.aload_n 0, 1) := by decide +kernel
theorem dX11_talk_35 : decode cX11_talk 35 = .ok (.getfield 23, 3) := by decide +kernel
theorem dX11_talk_38 : decode cX11_talk 38 = .ok (.getfield 170, 3) := by decide +kernel
theorem dX11_talk_41 : decode cX11_talk 41 = .ok (.dup2, 1) := by decide +kernel
theorem dX11_talk_42 : decode cX11_talk 42 = .ok (.iaload, 1) := by decide +kernel
theorem dX11_talk_43 : decode cX11_talk 43 = .ok (.iload_n 1, 1) := by decide +kernel
theorem dX11_talk_44 : decode cX11_talk 44 = .ok (.ior, 1) := by decide +kernel
theorem dX11_talk_45 : decode cX11_talk 45 = .ok (.iastore, 1) := by decide +kernel
theorem dX11_talk_46 : decode cX11_talk 46 = .ok (.aload_n 0, 1) := by decide +kernel
theorem dX11_talk_47 : decode cX11_talk 47 = .ok (.getfield 23, 3) := by decide +kernel
theorem dX11_talk_50 : decode cX11_talk 50 = .ok (.iload_n 1, 1) := by decide +kernel
theorem dX11_talk_51 : decode cX11_talk 51 = .ok (.invokevirtual 189, 3) := by decide +kernel
theorem dX11_talk_54 : decode cX11_talk 54 = .ok (.ireturn, 1) := by decide +kernel
set_option maxHeartbeats 4000000 in
set_option maxRecDepth 20000 in
theorem c_x_talk {G : Gx} {d : Nat} {x1 : Int32} {μ : Mem} {r : Int32 × Mem} (hf : f_x_talk x1 μ = some r) : Con G M_x_talk (d + 2) [.ref (gA G 0), .int x1] μ (some (.int r.1), r.2) := by
  refine Con.ofI ⟨rfl, rfl, Nat.le_of_ble_eq_true rfl⟩ rfl rfl (fun X hG hX hr dy => ?_)
  subst hG
  show AW X 0 [(0, .ref (gA (xG X) 0)), (1, .int x1)] [] μ dy
  unfold f_x_talk at hf
  refine r_aload_n hX dX11_talk_0 0 rfl ?_
  refine r_get hX fl_X11_23 (w_0 _ _ _) rfl dX11_talk_1 ?_
  refine r_iload_n hX dX11_talk_4 1 rfl ?_
  obtain ⟨v3, μ1, h2, hf⟩ := bd2_eq hf
  refine r_callVI (Ok.le hX (by omega)) (c_st_hasAll (d := d)  h2) cv_X11_183 (w_4 _ _ _) rfl rfl (st := []) rfl rfl rfl dX11_talk_5 (fun dy => ?_)
  refine r_if_eq hX 25 dX11_talk_8 rfl (fun hc4 => ?_) (fun hc4 => ?_)
  · rw [if_pos hc4] at hf
    refine r_iconst hX (-1 : Int32) dX11_talk_25 rfl ?_
    exact fin_I hf hr _ _ _ dX11_talk_26
  · rw [if_neg hc4] at hf
    refine r_iload_n hX dX11_talk_11 1 rfl ?_
    refine r_aload_n hX dX11_talk_12 0 rfl ?_
    refine r_get hX fl_X11_23 (w_0 _ _ _) rfl dX11_talk_13 ?_
    obtain ⟨v7, μ5, h6, hf⟩ := bd2_eq hf
    refine r_callVI (Ok.le hX (by omega)) (c_st_openToTalk (d := d)  h6) cv_X11_186 (w_4 _ _ _) rfl rfl (st := [.int x1]) rfl rfl rfl dX11_talk_16 (fun dy => ?_)
    refine r_iconst hX (-1 : Int32) dX11_talk_19 rfl ?_
    refine r_ixor hX dX11_talk_20 ?_
    refine r_iand hX dX11_talk_21 ?_
    refine r_if_eq hX 27 dX11_talk_22 rfl (fun hc8 => ?_) (fun hc8 => ?_)
    · rw [if_pos hc8] at hf
      refine r_aload_n hX dX11_talk_27 0 rfl ?_
      refine r_get hX fl_X11_23 (w_0 _ _ _) rfl dX11_talk_28 ?_
      refine r_getN hX fl_X11_173 (w_4 _ _ _) rfl dX11_talk_31 ?_
      refine r_aload_n hX dX11_talk_34 0 rfl ?_
      refine r_get hX fl_X11_23 (w_0 _ _ _) rfl dX11_talk_35 ?_
      refine r_getN hX fl_X11_170 (w_4 _ _ _) rfl dX11_talk_38 ?_
      refine r_dup2 hX dX11_talk_41 rfl rfl ?_
      obtain ⟨b9, hf⟩ := chk_eq hf
      refine r_iald hX (w_22 _ _ _) (inb_in b9) dX11_talk_42 ?_
      refine r_iload_n hX dX11_talk_43 1 rfl ?_
      refine r_ior hX dX11_talk_44 ?_
      obtain ⟨b10, hf⟩ := chk_eq hf
      obtain ⟨μ11, e12, hf⟩ := bnd_eq hf
      refine r_iast hX (w_22 _ _ _) (inb_in b10) (s_22 _ _ _ _ _) e12 rfl dX11_talk_45 ?_
      refine r_aload_n hX dX11_talk_46 0 rfl ?_
      refine r_get hX fl_X11_23 (w_0 _ _ _) rfl dX11_talk_47 ?_
      refine r_iload_n hX dX11_talk_50 1 rfl ?_
      obtain ⟨v15, μ13, h14, hf⟩ := bd2_eq hf
      refine r_callVI (Ok.le hX (by omega)) (c_st_priceOf (d := d)  h14) cv_X11_189 (w_4 _ _ _) rfl rfl (st := []) rfl rfl rfl dX11_talk_51 (fun dy => ?_)
      exact fin_I hf hr _ _ _ dX11_talk_54
    · rw [if_neg hc8] at hf
      refine r_iconst hX (-1 : Int32) dX11_talk_25 rfl ?_
      exact fin_I hf hr _ _ _ dX11_talk_26
theorem dX11_behind_0 : decode cX11_behind 0 = .ok (.aload_n 0, 1) := by decide +kernel
theorem dX11_behind_1 : decode cX11_behind 1 = .ok (.getfield 23, 3) := by decide +kernel
theorem dX11_behind_4 : decode cX11_behind 4 = .ok (.iload_n 1, 1) := by decide +kernel
theorem dX11_behind_5 : decode cX11_behind 5 = .ok (.invokevirtual 183, 3) := by decide +kernel
theorem dX11_behind_8 : decode cX11_behind 8 = .ok (.ifCond .eq 14, 3) := by decide +kernel
theorem dX11_behind_11 : decode cX11_behind 11 = .ok (.aload_n 0, 1) := by decide +kernel
theorem dX11_behind_12 : decode cX11_behind 12 = .ok (.getfield 63, 3) := by decide +kernel
theorem dX11_behind_15 : decode cX11_behind 15 = .ok (.iload_n 1, 1) := by decide +kernel
theorem dX11_behind_16 : decode cX11_behind 16 = .ok (.invokevirtual 176, 3) := by decide +kernel
theorem dX11_behind_19 : decode cX11_behind 19 = .ok (.goto 4, 3) := by decide +kernel
theorem dX11_behind_22 : decode cX11_behind 22 = .ok (.iconst (-1), 1) := by decide +kernel
theorem dX11_behind_23 : decode cX11_behind 23 = .ok (.ireturn, 1) := by decide +kernel
set_option maxHeartbeats 4000000 in
set_option maxRecDepth 20000 in
theorem c_x_behind {G : Gx} {d : Nat} {x1 : Int32} {μ : Mem} {r : Int32 × Mem} (hf : f_x_behind x1 μ = some r) : Con G M_x_behind (d + 3) [.ref (gA G 0), .int x1] μ (some (.int r.1), r.2) := by
  refine Con.ofI ⟨rfl, rfl, Nat.le_of_ble_eq_true rfl⟩ rfl rfl (fun X hG hX hr dy => ?_)
  subst hG
  show AW X 0 [(0, .ref (gA (xG X) 0)), (1, .int x1)] [] μ dy
  unfold f_x_behind at hf
  refine r_aload_n hX dX11_behind_0 0 rfl ?_
  refine r_get hX fl_X11_23 (w_0 _ _ _) rfl dX11_behind_1 ?_
  refine r_iload_n hX dX11_behind_4 1 rfl ?_
  obtain ⟨v3, μ1, h2, hf⟩ := bd2_eq hf
  refine r_callVI (Ok.le hX (by omega)) (c_st_hasAll (d := d)  h2) cv_X11_183 (w_4 _ _ _) rfl rfl (st := []) rfl rfl rfl dX11_behind_5 (fun dy => ?_)
  refine r_if_eq hX 22 dX11_behind_8 rfl (fun hc4 => ?_) (fun hc4 => ?_)
  · rw [if_pos hc4] at hf
    refine r_iconst hX (-1 : Int32) dX11_behind_22 rfl ?_
    exact fin_I hf hr _ _ _ dX11_behind_23
  · rw [if_neg hc4] at hf
    refine r_aload_n hX dX11_behind_11 0 rfl ?_
    refine r_get hX fl_X11_63 (w_0 _ _ _) rfl dX11_behind_12 ?_
    refine r_iload_n hX dX11_behind_15 1 rfl ?_
    obtain ⟨v7, μ5, h6, hf⟩ := bd2_eq hf
    refine r_callVI (Ok.le hX (by omega)) (c_he_after (d := d) (by decide) h6) cv_X11_176 (w_80 _ _ _) rfl rfl (st := []) rfl rfl rfl dX11_behind_16 (fun dy => ?_)
    refine r_goto hX 23 dX11_behind_19 rfl ?_
    exact fin_I hf hr _ _ _ dX11_behind_23
theorem dX11_rest_0 : decode cX11_rest 0 = .ok (.aload_n 0, 1) := by decide +kernel
theorem dX11_rest_1 : decode cX11_rest 1 = .ok (.getfield 79, 3) := by decide +kernel
theorem dX11_rest_4 : decode cX11_rest 4 = .ok (.aload_n 0, 1) := by decide +kernel
theorem dX11_rest_5 : decode cX11_rest 5 = .ok (.getfield 23, 3) := by decide +kernel
theorem dX11_rest_8 : decode cX11_rest 8 = .ok (.invokevirtual 123, 3) := by decide +kernel
theorem dX11_rest_11 : decode cX11_rest 11 = .ok (.invokevirtual 192, 3) := by decide +kernel
theorem dX11_rest_14 : decode cX11_rest 14 = .ok (.aload_n 0, 1) := by decide +kernel
theorem dX11_rest_15 : decode cX11_rest 15 = .ok (.getfield 16, 3) := by decide +kernel
theorem dX11_rest_18 : decode cX11_rest 18 = .ok (.aload_n 0, 1) := by decide +kernel
theorem dX11_rest_19 : decode cX11_rest 19 = .ok (.getfield 79, 3) := by decide +kernel
theorem dX11_rest_22 : decode cX11_rest 22 = .ok (.getfield 195, 3) := by decide +kernel
theorem dX11_rest_25 : decode cX11_rest 25 = .ok (.i2l, 1) := by decide +kernel
theorem dX11_rest_26 : decode cX11_rest 26 = .ok (.invokevirtual 198, 3) := by decide +kernel
theorem dX11_rest_29 : decode cX11_rest 29 = .ok (.aload_n 0, 1) := by decide +kernel
theorem dX11_rest_30 : decode cX11_rest 30 = .ok (.getfield 16, 3) := by decide +kernel
theorem dX11_rest_33 : decode cX11_rest 33 = .ok (.aload_n 0, 1) := by decide +kernel
theorem dX11_rest_34 : decode cX11_rest 34 = .ok (.getfield 79, 3) := by decide +kernel
theorem dX11_rest_37 : decode cX11_rest 37 = .ok (.getfield 202, 3) := by decide +kernel
theorem dX11_rest_40 : decode cX11_rest 40 = .ok (.i2l, 1) := by decide +kernel
theorem dX11_rest_41 : decode cX11_rest 41 = .ok (.invokevirtual 204, 3) := by decide +kernel
theorem dX11_rest_44 : decode cX11_rest 44 = .ok (.aload_n 0, 1) := by decide +kernel
theorem dX11_rest_45 : decode cX11_rest 45 = .ok (.getfield 16, 3) := by decide +kernel
theorem dX11_rest_48 : decode cX11_rest 48 = .ok (.aload_n 0, 1) := by decide +kernel
theorem dX11_rest_49 : decode cX11_rest 49 = .ok (.getfield 79, 3) := by decide +kernel
theorem dX11_rest_52 : decode cX11_rest 52 = .ok (.getfield 207, 3) := by decide +kernel
theorem dX11_rest_55 : decode cX11_rest 55 = .ok (.i2l, 1) := by decide +kernel
theorem dX11_rest_56 : decode cX11_rest 56 = .ok (.invokevirtual 204, 3) := by decide +kernel
theorem dX11_rest_59 : decode cX11_rest 59 = .ok (.aload_n 0, 1) := by decide +kernel
theorem dX11_rest_60 : decode cX11_rest 60 = .ok (.getfield 79, 3) := by decide +kernel
theorem dX11_rest_63 : decode cX11_rest 63 = .ok (.getfield 210, 3) := by decide +kernel
theorem dX11_rest_66 : decode cX11_rest 66 = .ok (.ireturn, 1) := by decide +kernel
set_option maxHeartbeats 4000000 in
set_option maxRecDepth 20000 in
theorem c_x_rest {G : Gx} {d : Nat}  {μ : Mem} {r : Int32 × Mem} (hf : f_x_rest  μ = some r) : Con G M_x_rest (d + 5) [.ref (gA G 0)] μ (some (.int r.1), r.2) := by
  refine Con.ofI ⟨rfl, rfl, Nat.le_of_ble_eq_true rfl⟩ rfl rfl (fun X hG hX hr dy => ?_)
  subst hG
  show AW X 0 [(0, .ref (gA (xG X) 0))] [] μ dy
  unfold f_x_rest at hf
  refine r_aload_n hX dX11_rest_0 0 rfl ?_
  refine r_get hX fl_X11_79 (w_0 _ _ _) rfl dX11_rest_1 ?_
  refine r_aload_n hX dX11_rest_4 0 rfl ?_
  refine r_get hX fl_X11_23 (w_0 _ _ _) rfl dX11_rest_5 ?_
  obtain ⟨v3, μ1, h2, hf⟩ := bd2_eq hf
  refine r_callVI (Ok.le hX (by omega)) (c_st_now (d := d)  h2) cv_X11_123 (w_4 _ _ _) rfl rfl (st := [.ref (gA (xG X) 91)]) rfl rfl rfl dX11_rest_8 (fun dy => ?_)
  obtain ⟨μ4, h5, hf⟩ := bd1_eq hf
  refine r_callVV (Ok.le hX (by omega)) (c_ob_follow (d := d)  h5) cv_X11_192 (w_91 _ _ _) rfl rfl (st := []) rfl rfl rfl dX11_rest_11 (fun dy => ?_)
  refine r_aload_n hX dX11_rest_14 0 rfl ?_
  refine r_get hX fl_X11_16 (w_0 _ _ _) rfl dX11_rest_15 ?_
  refine r_aload_n hX dX11_rest_18 0 rfl ?_
  refine r_get hX fl_X11_79 (w_0 _ _ _) rfl dX11_rest_19 ?_
  refine r_getN hX fl_X11_195 (w_91 _ _ _) rfl dX11_rest_22 ?_
  refine r_i2l hX dX11_rest_25 ?_
  obtain ⟨μ6, h7, hf⟩ := bd1_eq hf
  refine r_callVV (Ok.le hX (by omega)) (c_rw_only (d := d)  h7) cv_X11_198 (w_2 _ _ _) rfl rfl (st := []) rfl rfl rfl dX11_rest_26 (fun dy => ?_)
  refine r_aload_n hX dX11_rest_29 0 rfl ?_
  refine r_get hX fl_X11_16 (w_0 _ _ _) rfl dX11_rest_30 ?_
  refine r_aload_n hX dX11_rest_33 0 rfl ?_
  refine r_get hX fl_X11_79 (w_0 _ _ _) rfl dX11_rest_34 ?_
  refine r_getN hX fl_X11_202 (w_91 _ _ _) rfl dX11_rest_37 ?_
  refine r_i2l hX dX11_rest_40 ?_
  obtain ⟨μ8, h9, hf⟩ := bd1_eq hf
  refine r_callVV (Ok.le hX (by omega)) (c_rw_add (d := d)  h9) cv_X11_204 (w_2 _ _ _) rfl rfl (st := []) rfl rfl rfl dX11_rest_41 (fun dy => ?_)
  refine r_aload_n hX dX11_rest_44 0 rfl ?_
  refine r_get hX fl_X11_16 (w_0 _ _ _) rfl dX11_rest_45 ?_
  refine r_aload_n hX dX11_rest_48 0 rfl ?_
  refine r_get hX fl_X11_79 (w_0 _ _ _) rfl dX11_rest_49 ?_
  refine r_getN hX fl_X11_207 (w_91 _ _ _) rfl dX11_rest_52 ?_
  refine r_i2l hX dX11_rest_55 ?_
  obtain ⟨μ10, h11, hf⟩ := bd1_eq hf
  refine r_callVV (Ok.le hX (by omega)) (c_rw_add (d := d)  h11) cv_X11_204 (w_2 _ _ _) rfl rfl (st := []) rfl rfl rfl dX11_rest_56 (fun dy => ?_)
  refine r_aload_n hX dX11_rest_59 0 rfl ?_
  refine r_get hX fl_X11_79 (w_0 _ _ _) rfl dX11_rest_60 ?_
  refine r_getN hX fl_X11_210 (w_91 _ _ _) rfl dX11_rest_63 ?_
  exact fin_I hf hr _ _ _ dX11_rest_66
theorem dX11_fall_0 : decode cX11_fall 0 = .ok (.iload_n 1, 1) := by decide +kernel
theorem dX11_fall_1 : decode cX11_fall 1 = .ok (.iconst 1, 1) := by decide +kernel
theorem dX11_fall_2 : decode cX11_fall 2 = .ok (.if_icmp .lt 14, 3) := by decide +kernel
theorem dX11_fall_5 : decode cX11_fall 5 = .ok (.iload_n 1, 1) := by decide +kernel
theorem dX11_fall_6 : decode cX11_fall 6 = .ok (.aload_n 0, 1) := by decide +kernel
theorem dX11_fall_7 : decode cX11_fall 7 = .ok (.getfield 23, 3) := by decide +kernel
theorem dX11_fall_10 : decode cX11_fall 10 = .ok (.getfield 170, 3) := by decide +kernel
theorem dX11_fall_13 : decode cX11_fall 13 = .ok (.if_icmp .le 9, 3) := by decide +kernel
theorem dX11_fall_16 : decode cX11_fall 16 = .ok (.ldc2_w 213, 3) := by decide +kernel
theorem dX11_fall_19 : decode cX11_fall 19 = .ok (.goto 11, 3) := by decide +kernel
theorem dX11_fall_22 : decode cX11_fall 22 = .ok (.aload_n 0, 1) := by decide +kernel
theorem dX11_fall_23 : decode cX11_fall 23 = .ok (.getfield 23, 3) := by decide +kernel
theorem dX11_fall_26 : decode cX11_fall 26 = .ok (.iload_n 1, 1) := by decide +kernel
theorem dX11_fall_27 : decode cX11_fall 27 = .ok (.invokevirtual 215, 3) := by decide +kernel
theorem dX11_fall_30 : decode cX11_fall 30 = .ok (.lreturn, 1) := by decide +kernel
set_option maxHeartbeats 4000000 in
set_option maxRecDepth 20000 in
theorem b_x_fall_b16 {X : Cx} {d : Nat} (hX : Ok M_x_fall (d + 3) X) {r : Int64 × Mem} (hr : RetL M_x_fall X r.1 r.2)  (μ : Mem) (dy : Nat → Nat) (hf : f_x_fall_b16  μ = some r) : AW X 16 [] [] μ dy := by
  unfold f_x_fall_b16 at hf
  refine r_ldc2 hX dX11_fall_16 kc_X11_213 ?_
  refine r_goto hX 30 dX11_fall_19 rfl ?_
  exact fin_L hf hr _ _ _ dX11_fall_30
set_option maxHeartbeats 4000000 in
set_option maxRecDepth 20000 in
theorem c_x_fall {G : Gx} {d : Nat} {x1 : Int32} {μ : Mem} {r : Int64 × Mem} (hf : f_x_fall x1 μ = some r) : Con G M_x_fall (d + 3) [.ref (gA G 0), .int x1] μ (some (.long r.1), r.2) := by
  refine Con.ofL ⟨rfl, rfl, Nat.le_of_ble_eq_true rfl⟩ rfl (fun X hG hX hr dy => ?_)
  subst hG
  show AW X 0 [(0, .ref (gA (xG X) 0)), (1, .int x1)] [] μ dy
  unfold f_x_fall at hf
  refine r_iload_n hX dX11_fall_0 1 rfl ?_
  refine r_iconst hX (1 : Int32) dX11_fall_1 rfl ?_
  refine r_icmp_lt hX 16 dX11_fall_2 rfl (fun hc1 => ?_) (fun hc1 => ?_)
  · rw [if_pos hc1] at hf
    refine r_weak [] rfl ?_
    exact b_x_fall_b16 hX hr _ _ hf
  · rw [if_neg hc1] at hf
    refine r_iload_n hX dX11_fall_5 1 rfl ?_
    refine r_aload_n hX dX11_fall_6 0 rfl ?_
    refine r_get hX fl_X11_23 (w_0 _ _ _) rfl dX11_fall_7 ?_
    refine r_getN hX fl_X11_170 (w_4 _ _ _) rfl dX11_fall_10 ?_
    refine r_icmp_le hX 22 dX11_fall_13 rfl (fun hc2 => ?_) (fun hc2 => ?_)
    · rw [if_pos hc2] at hf
      refine r_aload_n hX dX11_fall_22 0 rfl ?_
      refine r_get hX fl_X11_23 (w_0 _ _ _) rfl dX11_fall_23 ?_
      refine r_iload_n hX dX11_fall_26 1 rfl ?_
      obtain ⟨v5, μ3, h4, hf⟩ := bd2_eq hf
      refine r_callVL (Ok.le hX (by omega)) (c_st_fallOf (d := d)  h4) cv_X11_215 (w_4 _ _ _) rfl rfl (st := []) rfl rfl rfl dX11_fall_27 (fun dy => ?_)
      exact fin_L hf hr _ _ _ dX11_fall_30
    · rw [if_neg hc2] at hf
      refine r_weak [] rfl ?_
      exact b_x_fall_b16 hX hr _ _ hf
theorem dX11_falls_0 : decode cX11_falls 0 = .ok (.iconst (-1), 1) := by decide +kernel
theorem dX11_falls_1 : decode cX11_falls 1 = .ok (.istore_n 1, 1) := by decide +kernel
theorem dX11_falls_2 : decode cX11_falls 2 = .ok (.iconst (-1), 1) := by decide +kernel
theorem dX11_falls_3 : decode cX11_falls 3 = .ok (.istore_n 2, 1) := by decide +kernel
theorem dX11_falls_4 : decode cX11_falls 4 = .ok (.aload_n 0, 1) := by decide +kernel
theorem dX11_falls_5 : decode cX11_falls 5 = .ok (.getfield 23, 3) := by decide +kernel
theorem dX11_falls_8 : decode cX11_falls 8 = .ok (.getfield 170, 3) := by decide +kernel
theorem dX11_falls_11 : decode cX11_falls 11 = .ok (.istore_n 3, 1) := by decide +kernel
theorem dX11_falls_12 : decode cX11_falls 12 = .ok (.iload_n 3, 1) := by decide +kernel
theorem dX11_falls_13 : decode cX11_falls 13 = .ok (.iconst 2, 1) := by decide +kernel
theorem dX11_falls_14 : decode cX11_falls 14 = .ok (.if_icmp .lt 56, 3) := by decide +kernel
theorem dX11_falls_17 : decode cX11_falls 17 = .ok (.aload_n 0, 1) := by decide +kernel
theorem dX11_falls_18 : decode cX11_falls 18 = .ok (.getfield 23, 3) := by decide +kernel
theorem dX11_falls_21 : decode cX11_falls 21 = .ok (.iload_n 3, 1) := by decide +kernel
theorem dX11_falls_22 : decode cX11_falls 22 = .ok (.invokevirtual 215, 3) := by decide +kernel
theorem dX11_falls_25 : decode cX11_falls 25 = .ok (.aload_n 0, 1) := by decide +kernel
theorem dX11_falls_26 : decode cX11_falls 26 = .ok (.getfield 23, 3) := by decide +kernel
theorem dX11_falls_29 : decode cX11_falls 29 = .ok (.iload_n 3, 1) := by decide +kernel
theorem dX11_falls_30 : decode cX11_falls 30 = .ok (.iconst 1, 1) := by decide +kernel
theorem dX11_falls_31 : decode cX11_falls 31 = .ok (.isub, 1) := by decide +kernel
theorem dX11_falls_32 : decode cX11_falls 32 = .ok (.invokevirtual 215, 3) := by decide +kernel
theorem dX11_falls_35 : decode cX11_falls 35 = .ok (.lsub, 1) := by decide +kernel
theorem dX11_falls_36 : decode cX11_falls 36 = .ok (.lstore 4, 2) := by decide +kernel
theorem dX11_falls_38 : decode cX11_falls 38 = .ok (.lload 4, 2) := by decide +kernel
theorem dX11_falls_40 : decode cX11_falls 40 = .ok (.lconst 0, 1) := by decide +kernel
theorem dX11_falls_41 : decode cX11_falls 41 = .ok (.lcmp, 1) := by decide +kernel
theorem dX11_falls_42 : decode cX11_falls 42 = .ok (.ifCond .lt 7, 3) := by decide +kernel
theorem dX11_falls_45 : decode cX11_falls 45 = .ok (.iload_n 3, 1) := by decide +kernel
theorem dX11_falls_46 : decode cX11_falls 46 = .ok (.goto 4, 3) := by decide +kernel
theorem dX11_falls_49 : decode cX11_falls 49 = .ok (.iload_n 1, 1) := by decide +kernel
theorem dX11_falls_50 : decode cX11_falls 50 = .ok (.istore_n 1, 1) := by decide +kernel
theorem dX11_falls_51 : decode cX11_falls 51 = .ok (.lload 4, 2) := by decide +kernel
theorem dX11_falls_53 : decode cX11_falls 53 = .ok (.lconst 0, 1) := by decide +kernel
theorem dX11_falls_54 : decode cX11_falls 54 = .ok (.lcmp, 1) := by decide +kernel
theorem dX11_falls_55 : decode cX11_falls 55 = .ok (.ifCond .le 7, 3) := by decide +kernel
theorem dX11_falls_58 : decode cX11_falls 58 = .ok (.iload_n 3, 1) := by decide +kernel
theorem dX11_falls_59 : decode cX11_falls 59 = .ok (.goto 4, 3) := by decide +kernel
theorem dX11_falls_62 : decode cX11_falls 62 = .ok (.iload_n 2, 1) := by decide +kernel
theorem dX11_falls_63 : decode cX11_falls 63 = .ok (.istore_n 2, 1) := by decide +kernel
theorem dX11_falls_64 : decode cX11_falls 64 = .ok (.iinc 3 (-1), 3) := by decide +kernel
theorem dX11_falls_67 : decode cX11_falls 67 = .ok (.goto (-55), 3) := by decide +kernel
theorem dX11_falls_70 : decode cX11_falls 70 = .ok (.aload_n 0, 1) := by decide +kernel
theorem dX11_falls_71 : decode cX11_falls 71 = .ok (.getfield 16, 3) := by decide +kernel
theorem dX11_falls_74 : decode cX11_falls 74 = .ok (.iload_n 1, 1) := by decide +kernel
theorem dX11_falls_75 : decode cX11_falls 75 = .ok (.i2l, 1) := by decide +kernel
theorem dX11_falls_76 : decode cX11_falls 76 = .ok (.invokevirtual 198, 3) := by decide +kernel
theorem dX11_falls_79 : decode cX11_falls 79 = .ok (.aload_n 0, 1) := by decide +kernel
theorem dX11_falls_80 : decode cX11_falls 80 = .ok (.getfield 16, 3) := by decide +kernel
theorem dX11_falls_83 : decode cX11_falls 83 = .ok (.iload_n 2, 1) := by decide +kernel
theorem dX11_falls_84 : decode cX11_falls 84 = .ok (.i2l, 1) := by decide +kernel
theorem dX11_falls_85 : decode cX11_falls 85 = .ok (.invokevirtual 204, 3) := by decide +kernel
theorem dX11_falls_88 : decode cX11_falls 88 = .ok (.aload_n 0, 1) := by decide +kernel
theorem dX11_falls_89 : decode cX11_falls 89 = .ok (.getfield 23, 3) := by decide +kernel
theorem dX11_falls_92 : decode cX11_falls 92 = .ok (.getfield 170, 3) := by decide +kernel
theorem dX11_falls_95 : decode cX11_falls 95 = .ok (.iconst 2, 1) := by decide +kernel
theorem dX11_falls_96 : decode cX11_falls 96 = .ok (.if_icmp .ge 7, 3) := by decide +kernel
theorem dX11_falls_99 : decode cX11_falls 99 = .ok (.lconst 0, 1) := by decide +kernel
theorem dX11_falls_100 : decode cX11_falls 100 = .ok (.goto 26, 3) := by decide +kernel
theorem dX11_falls_103 : decode cX11_falls 103 = .ok (.aload_n 0, 1) := by decide +kernel
theorem dX11_falls_104 : decode cX11_falls 104 = .ok (.getfield 23, 3) := by decide +kernel
theorem dX11_falls_107 : decode cX11_falls 107 = .ok (.iconst 1, 1) := by decide +kernel
theorem dX11_falls_108 : decode cX11_falls 108 = .ok (.invokevirtual 215, 3) := by decide +kernel
theorem dX11_falls_111 : decode cX11_falls 111 = .ok (.aload_n 0, 1) := by decide +kernel
theorem dX11_falls_112 : decode cX11_falls 112 = .ok (.getfield 23, 3) := by decide +kernel
theorem dX11_falls_115 : decode cX11_falls 115 = .ok (.aload_n 0, 1) := by decide +kernel
theorem dX11_falls_116 : decode cX11_falls 116 = .ok (.getfield 23, 3) := by decide +kernel
theorem dX11_falls_119 : decode cX11_falls 119 = .ok (.getfield 170, 3) := by decide +kernel
theorem dX11_falls_122 : decode cX11_falls 122 = .ok (.invokevirtual 215, 3) := by decide +kernel
theorem dX11_falls_125 : decode cX11_falls 125 = .ok (.lsub, 1) := by decide +kernel
theorem dX11_falls_126 : decode cX11_falls 126 = .ok (.lreturn, 1) := by decide +kernel
set_option maxHeartbeats 4000000 in
set_option maxRecDepth 20000 in
theorem b_x_falls_b12 {X : Cx} {d : Nat} (hX : Ok M_x_falls (d + 3) X) {r : Int64 × Mem} (hr : RetL M_x_falls X r.1 r.2) : ∀ (n : Nat) (x1 : Int32) (x2 : Int32) (x3 : Int32) (μ : Mem) (dy : Nat → Nat), f_x_falls_b12 n x1 x2 x3 μ = some r → AW X 12 [(0, .ref (gA (xG X) 0)), (1, .int x1), (2, .int x2), (3, .int x3)] [] μ dy := by
  intro n
  induction n with
  | zero => intro x1 x2 x3 μ dy hf; exact nomatch hf
  | succ n ih =>
    intro x1 x2 x3 μ dy hf
    rw [f_x_falls_b12] at hf
    refine r_iload_n hX dX11_falls_12 3 rfl ?_
    refine r_iconst hX (2 : Int32) dX11_falls_13 rfl ?_
    refine r_icmp_lt hX 70 dX11_falls_14 rfl (fun hc1 => ?_) (fun hc1 => ?_)
    · rw [if_pos hc1] at hf
      refine r_aload_n hX dX11_falls_70 0 rfl ?_
      refine r_get hX fl_X11_16 (w_0 _ _ _) rfl dX11_falls_71 ?_
      refine r_iload_n hX dX11_falls_74 1 rfl ?_
      refine r_i2l hX dX11_falls_75 ?_
      obtain ⟨μ2, h3, hf⟩ := bd1_eq hf
      refine r_callVV (Ok.le hX (by omega)) (c_rw_only (d := d)  h3) cv_X11_198 (w_2 _ _ _) rfl rfl (st := []) rfl rfl rfl dX11_falls_76 (fun dy => ?_)
      refine r_aload_n hX dX11_falls_79 0 rfl ?_
      refine r_get hX fl_X11_16 (w_0 _ _ _) rfl dX11_falls_80 ?_
      refine r_iload_n hX dX11_falls_83 2 rfl ?_
      refine r_i2l hX dX11_falls_84 ?_
      obtain ⟨μ4, h5, hf⟩ := bd1_eq hf
      refine r_callVV (Ok.le hX (by omega)) (c_rw_add (d := d)  h5) cv_X11_204 (w_2 _ _ _) rfl rfl (st := []) rfl rfl rfl dX11_falls_85 (fun dy => ?_)
      refine r_aload_n hX dX11_falls_88 0 rfl ?_
      refine r_get hX fl_X11_23 (w_0 _ _ _) rfl dX11_falls_89 ?_
      refine r_getN hX fl_X11_170 (w_4 _ _ _) rfl dX11_falls_92 ?_
      refine r_iconst hX (2 : Int32) dX11_falls_95 rfl ?_
      refine r_icmp_ge hX 103 dX11_falls_96 rfl (fun hc6 => ?_) (fun hc6 => ?_)
      · rw [if_pos hc6] at hf
        refine r_aload_n hX dX11_falls_103 0 rfl ?_
        refine r_get hX fl_X11_23 (w_0 _ _ _) rfl dX11_falls_104 ?_
        refine r_iconst hX (1 : Int32) dX11_falls_107 rfl ?_
        obtain ⟨v9, μ7, h8, hf⟩ := bd2_eq hf
        refine r_callVL (Ok.le hX (by omega)) (c_st_fallOf (d := d)  h8) cv_X11_215 (w_4 _ _ _) rfl rfl (st := []) rfl rfl rfl dX11_falls_108 (fun dy => ?_)
        refine r_aload_n hX dX11_falls_111 0 rfl ?_
        refine r_get hX fl_X11_23 (w_0 _ _ _) rfl dX11_falls_112 ?_
        refine r_aload_n hX dX11_falls_115 0 rfl ?_
        refine r_get hX fl_X11_23 (w_0 _ _ _) rfl dX11_falls_116 ?_
        refine r_getN hX fl_X11_170 (w_4 _ _ _) rfl dX11_falls_119 ?_
        obtain ⟨v12, μ10, h11, hf⟩ := bd2_eq hf
        refine r_callVL (Ok.le hX (by omega)) (c_st_fallOf (d := d)  h11) cv_X11_215 (w_4 _ _ _) rfl rfl (st := [.long v9]) rfl rfl rfl dX11_falls_122 (fun dy => ?_)
        refine r_lsub hX dX11_falls_125 ?_
        exact fin_L hf hr _ _ _ dX11_falls_126
      · rw [if_neg hc6] at hf
        refine r_lconst hX (0 : Int64) dX11_falls_99 rfl ?_
        refine r_goto hX 126 dX11_falls_100 rfl ?_
        exact fin_L hf hr _ _ _ dX11_falls_126
    · rw [if_neg hc1] at hf
      refine r_aload_n hX dX11_falls_17 0 rfl ?_
      refine r_get hX fl_X11_23 (w_0 _ _ _) rfl dX11_falls_18 ?_
      refine r_iload_n hX dX11_falls_21 3 rfl ?_
      obtain ⟨v15, μ13, h14, hf⟩ := bd2_eq hf
      refine r_callVL (Ok.le hX (by omega)) (c_st_fallOf (d := d)  h14) cv_X11_215 (w_4 _ _ _) rfl rfl (st := []) rfl rfl rfl dX11_falls_22 (fun dy => ?_)
      refine r_aload_n hX dX11_falls_25 0 rfl ?_
      refine r_get hX fl_X11_23 (w_0 _ _ _) rfl dX11_falls_26 ?_
      refine r_iload_n hX dX11_falls_29 3 rfl ?_
      refine r_iconst hX (1 : Int32) dX11_falls_30 rfl ?_
      refine r_isub hX dX11_falls_31 ?_
      obtain ⟨v18, μ16, h17, hf⟩ := bd2_eq hf
      refine r_callVL (Ok.le hX (by omega)) (c_st_fallOf (d := d)  h17) cv_X11_215 (w_4 _ _ _) rfl rfl (st := [.long v15]) rfl rfl rfl dX11_falls_32 (fun dy => ?_)
      refine r_lsub hX dX11_falls_35 ?_
      refine r_lstore hX dX11_falls_36 rfl (ls' := [(4, .long (v15 - v18)), (0, .ref (gA (xG X) 0)), (1, .int x1), (2, .int x2), (3, .int x3)]) rfl ?_
      refine r_lload hX dX11_falls_38 0 rfl ?_
      refine r_lconst hX (0 : Int64) dX11_falls_40 rfl ?_
      refine r_lcmp hX dX11_falls_41 ?_
      obtain ⟨v19, e20, hf⟩ := bnd_eq hf
      have J21 : AW X 50 [(4, .long (v15 - v18)), (0, .ref (gA (xG X) 0)), (1, .int x1), (2, .int x2), (3, .int x3)] [.int v19] μ16 dy := by
        refine r_istore_n hX dX11_falls_50 rfl (ls' := [(1, .int v19), (4, .long (v15 - v18)), (0, .ref (gA (xG X) 0)), (2, .int x2), (3, .int x3)]) rfl ?_
        refine r_lload hX dX11_falls_51 1 rfl ?_
        refine r_lconst hX (0 : Int64) dX11_falls_53 rfl ?_
        refine r_lcmp hX dX11_falls_54 ?_
        obtain ⟨v22, e23, hf⟩ := bnd_eq hf
        have J24 : AW X 63 [(1, .int v19), (4, .long (v15 - v18)), (0, .ref (gA (xG X) 0)), (2, .int x2), (3, .int x3)] [.int v22] μ16 dy := by
          refine r_istore_n hX dX11_falls_63 rfl (ls' := [(2, .int v22), (1, .int v19), (4, .long (v15 - v18)), (0, .ref (gA (xG X) 0)), (3, .int x3)]) rfl ?_
          refine r_iinc hX (x3 + (-1 : Int32)) dX11_falls_64 4 rfl rfl rfl (ls' := [(3, .int (x3 + (-1 : Int32))), (2, .int v22), (1, .int v19), (4, .long (v15 - v18)), (0, .ref (gA (xG X) 0))]) rfl ?_
          refine r_goto hX 12 dX11_falls_67 rfl ?_
          refine r_weak [4, 2, 1, 0] rfl ?_
          exact ih _ _ _ _ _ hf
        refine r_if_le hX 62 dX11_falls_55 rfl (fun hc25 => ?_) (fun hc25 => ?_)
        · refine r_iload_n hX dX11_falls_62 3 rfl ?_
          exact r_topI (e23.trans (by rw [if_pos hc25])) J24
        · refine r_iload_n hX dX11_falls_58 4 rfl ?_
          refine r_goto hX 63 dX11_falls_59 rfl ?_
          exact r_topI (e23.trans (by rw [if_neg hc25])) J24
      refine r_if_lt hX 49 dX11_falls_42 rfl (fun hc26 => ?_) (fun hc26 => ?_)
      · refine r_iload_n hX dX11_falls_49 2 rfl ?_
        exact r_topI (e20.trans (by rw [if_pos hc26])) J21
      · refine r_iload_n hX dX11_falls_45 4 rfl ?_
        refine r_goto hX 50 dX11_falls_46 rfl ?_
        exact r_topI (e20.trans (by rw [if_neg hc26])) J21
set_option maxHeartbeats 4000000 in
set_option maxRecDepth 20000 in
theorem c_x_falls {G : Gx} {d : Nat}  {μ : Mem} {r : Int64 × Mem} (hf : f_x_falls  μ = some r) : Con G M_x_falls (d + 3) [.ref (gA G 0)] μ (some (.long r.1), r.2) := by
  refine Con.ofL ⟨rfl, rfl, Nat.le_of_ble_eq_true rfl⟩ rfl (fun X hG hX hr dy => ?_)
  subst hG
  show AW X 0 [(0, .ref (gA (xG X) 0))] [] μ dy
  unfold f_x_falls at hf
  refine r_iconst hX (-1 : Int32) dX11_falls_0 rfl ?_
  refine r_istore_n hX dX11_falls_1 rfl (ls' := [(1, .int (-1 : Int32)), (0, .ref (gA (xG X) 0))]) rfl ?_
  refine r_iconst hX (-1 : Int32) dX11_falls_2 rfl ?_
  refine r_istore_n hX dX11_falls_3 rfl (ls' := [(2, .int (-1 : Int32)), (1, .int (-1 : Int32)), (0, .ref (gA (xG X) 0))]) rfl ?_
  refine r_aload_n hX dX11_falls_4 2 rfl ?_
  refine r_get hX fl_X11_23 (w_0 _ _ _) rfl dX11_falls_5 ?_
  refine r_getN hX fl_X11_170 (w_4 _ _ _) rfl dX11_falls_8 ?_
  refine r_istore_n hX dX11_falls_11 rfl (ls' := [(3, .int (μ.1 (vSt 0 2) 0)), (2, .int (-1 : Int32)), (1, .int (-1 : Int32)), (0, .ref (gA (xG X) 0))]) rfl ?_
  refine r_weak [3, 2, 1, 0] rfl ?_
  exact b_x_falls_b12 hX hr FU _ _ _ _ _ hf
theorem dX11_swings_0 : decode cX11_swings 0 = .ok (.aload_n 0, 1) := by decide +kernel
theorem dX11_swings_1 : decode cX11_swings 1 = .ok (.getfield 79, 3) := by decide +kernel
theorem dX11_swings_4 : decode cX11_swings 4 = .ok (.aload_n 0, 1) := by decide +kernel
theorem dX11_swings_5 : decode cX11_swings 5 = .ok (.getfield 23, 3) := by decide +kernel
theorem dX11_swings_8 : decode cX11_swings 8 = .ok (.invokevirtual 123, 3) := by decide +kernel
theorem dX11_swings_11 : decode cX11_swings 11 = .ok (.invokevirtual 192, 3) := by decide +kernel
theorem dX11_swings_14 : decode cX11_swings 14 = .ok (.aload_n 0, 1) := by decide +kernel
theorem dX11_swings_15 : decode cX11_swings 15 = .ok (.getfield 16, 3) := by decide +kernel
theorem dX11_swings_18 : decode cX11_swings 18 = .ok (.aload_n 0, 1) := by decide +kernel
theorem dX11_swings_19 : decode cX11_swings 19 = .ok (.getfield 79, 3) := by decide +kernel
theorem dX11_swings_22 : decode cX11_swings 22 = .ok (.getfield 219, 3) := by decide +kernel
theorem dX11_swings_25 : decode cX11_swings 25 = .ok (.i2l, 1) := by decide +kernel
theorem dX11_swings_26 : decode cX11_swings 26 = .ok (.invokevirtual 198, 3) := by decide +kernel
theorem dX11_swings_29 : decode cX11_swings 29 = .ok (.aload_n 0, 1) := by decide +kernel
theorem dX11_swings_30 : decode cX11_swings 30 = .ok (.getfield 79, 3) := by decide +kernel
theorem dX11_swings_33 : decode cX11_swings 33 = .ok (.getfield 222, 3) := by decide +kernel
theorem dX11_swings_36 : decode cX11_swings 36 = .ok (.aload_n 0, 1) := by decide +kernel
theorem dX11_swings_37 : decode cX11_swings 37 = .ok (.getfield 79, 3) := by decide +kernel
theorem dX11_swings_40 : decode cX11_swings 40 = .ok (.getfield 219, 3) := by decide +kernel
theorem dX11_swings_43 : decode cX11_swings 43 = .ok (.iconst (-1), 1) := by decide +kernel
theorem dX11_swings_44 : decode cX11_swings 44 = .ok (.ixor, 1) := by decide +kernel
theorem dX11_swings_45 : decode cX11_swings 45 = .ok (.iand, 1) := by decide +kernel
theorem dX11_swings_46 : decode cX11_swings 46 = .ok (.ireturn, 1) := by decide +kernel
set_option maxHeartbeats 4000000 in
set_option maxRecDepth 20000 in
theorem c_x_swings {G : Gx} {d : Nat}  {μ : Mem} {r : Int32 × Mem} (hf : f_x_swings  μ = some r) : Con G M_x_swings (d + 5) [.ref (gA G 0)] μ (some (.int r.1), r.2) := by
  refine Con.ofI ⟨rfl, rfl, Nat.le_of_ble_eq_true rfl⟩ rfl rfl (fun X hG hX hr dy => ?_)
  subst hG
  show AW X 0 [(0, .ref (gA (xG X) 0))] [] μ dy
  unfold f_x_swings at hf
  refine r_aload_n hX dX11_swings_0 0 rfl ?_
  refine r_get hX fl_X11_79 (w_0 _ _ _) rfl dX11_swings_1 ?_
  refine r_aload_n hX dX11_swings_4 0 rfl ?_
  refine r_get hX fl_X11_23 (w_0 _ _ _) rfl dX11_swings_5 ?_
  obtain ⟨v3, μ1, h2, hf⟩ := bd2_eq hf
  refine r_callVI (Ok.le hX (by omega)) (c_st_now (d := d)  h2) cv_X11_123 (w_4 _ _ _) rfl rfl (st := [.ref (gA (xG X) 91)]) rfl rfl rfl dX11_swings_8 (fun dy => ?_)
  obtain ⟨μ4, h5, hf⟩ := bd1_eq hf
  refine r_callVV (Ok.le hX (by omega)) (c_ob_follow (d := d)  h5) cv_X11_192 (w_91 _ _ _) rfl rfl (st := []) rfl rfl rfl dX11_swings_11 (fun dy => ?_)
  refine r_aload_n hX dX11_swings_14 0 rfl ?_
  refine r_get hX fl_X11_16 (w_0 _ _ _) rfl dX11_swings_15 ?_
  refine r_aload_n hX dX11_swings_18 0 rfl ?_
  refine r_get hX fl_X11_79 (w_0 _ _ _) rfl dX11_swings_19 ?_
  refine r_getN hX fl_X11_219 (w_91 _ _ _) rfl dX11_swings_22 ?_
  refine r_i2l hX dX11_swings_25 ?_
  obtain ⟨μ6, h7, hf⟩ := bd1_eq hf
  refine r_callVV (Ok.le hX (by omega)) (c_rw_only (d := d)  h7) cv_X11_198 (w_2 _ _ _) rfl rfl (st := []) rfl rfl rfl dX11_swings_26 (fun dy => ?_)
  refine r_aload_n hX dX11_swings_29 0 rfl ?_
  refine r_get hX fl_X11_79 (w_0 _ _ _) rfl dX11_swings_30 ?_
  refine r_getN hX fl_X11_222 (w_91 _ _ _) rfl dX11_swings_33 ?_
  refine r_aload_n hX dX11_swings_36 0 rfl ?_
  refine r_get hX fl_X11_79 (w_0 _ _ _) rfl dX11_swings_37 ?_
  refine r_getN hX fl_X11_219 (w_91 _ _ _) rfl dX11_swings_40 ?_
  refine r_iconst hX (-1 : Int32) dX11_swings_43 rfl ?_
  refine r_ixor hX dX11_swings_44 ?_
  refine r_iand hX dX11_swings_45 ?_
  exact fin_I hf hr _ _ _ dX11_swings_46
theorem dX11_otherwise_0 : decode cX11_otherwise 0 = .ok (.aload_n 0, 1) := by decide +kernel
theorem dX11_otherwise_1 : decode cX11_otherwise 1 = .ok (.getfield 23, 3) := by decide +kernel
theorem dX11_otherwise_4 : decode cX11_otherwise 4 = .ok (.iload_n 1, 1) := by decide +kernel
theorem dX11_otherwise_5 : decode cX11_otherwise 5 = .ok (.invokevirtual 116, 3) := by decide +kernel
theorem dX11_otherwise_8 : decode cX11_otherwise 8 = .ok (.ifCond .eq 25, 3) := by decide +kernel
theorem dX11_otherwise_11 : decode cX11_otherwise 11 = .ok (.aload_n 0, 1) := by decide +kernel
theorem dX11_otherwise_12 : decode cX11_otherwise 12 = .ok (.getfield 23, 3) := by decide +kernel
theorem dX11_otherwise_15 : decode cX11_otherwise 15 = .ok (.iload_n 1, 1) := by decide +kernel
theorem dX11_otherwise_16 : decode cX11_otherwise 16 = .ok (.invokevirtual 225, 3) := by decide +kernel
theorem dX11_otherwise_19 : decode cX11_otherwise 19 = .ok (.ifCond .ne 14, 3) := by decide +kernel
theorem dX11_otherwise_22 : decode cX11_otherwise 22 = .ok (.iload_n 2, 1) := by decide +kernel
theorem dX11_otherwise_23 : decode cX11_otherwise 23 = .ok (.ifCond .lt 10, 3) := by decide +kernel
theorem dX11_otherwise_26 : decode cX11_otherwise 26 = .ok (.iload_n 2, 1) := by decide +kernel
theorem dX11_otherwise_27 : decode cX11_otherwise 27 = .ok (.sipush 200, 3) := by decide +kernel
theorem dX11_otherwise_30 : decode cX11_otherwise 30 = .ok (.if_icmp .le 5, 3) := by decide +kernel
theorem dX11_otherwise_33 : decode cX11_otherwise 33 = .ok (.iconst (-1), 1) := by decide +kernel
theorem dX11_otherwise_34 : decode cX11_otherwise 34 = .ok (.ireturn, 1) := by decide +kernel
theorem dX11_otherwise_35 : decode cX11_otherwise 35 = .ok (.aload_n 0, 1) := by decide +kernel
theorem dX11_otherwise_36 : decode cX11_otherwise 36 = .ok (.getfield 23, 3) := by decide +kernel
theorem dX11_otherwise_39 : decode cX11_otherwise 39 = .ok (.invokevirtual 123, 3) := by decide +kernel
theorem dX11_otherwise_42 : decode cX11_otherwise 42 = .ok (.istore_n 3, 1) := by decide +kernel
theorem dX11_otherwise_43 : decode cX11_otherwise 43 = .ok (.aload_n 0, 1) := by decide +kernel
theorem dX11_otherwise_44 : decode cX11_otherwise 44 = .ok (.getfield 63, 3) := by decide +kernel
theorem dX11_otherwise_47 : decode cX11_otherwise 47 = .ok (.iload_n 3, 1) := by decide +kernel
theorem dX11_otherwise_48 : decode cX11_otherwise 48 = .ok (.iload_n 2, 1) := by decide +kernel
theorem dX11_otherwise_49 : decode cX11_otherwise 49 = .ok (.invokevirtual 228, 3) := by decide +kernel
theorem dX11_otherwise_52 : decode cX11_otherwise 52 = .ok (.aload_n 0, 1) := by decide +kernel
theorem dX11_otherwise_53 : decode cX11_otherwise 53 = .ok (.getfield 63, 3) := by decide +kernel
theorem dX11_otherwise_56 : decode cX11_otherwise 56 = .ok (.iload_n 3, 1) := by decide +kernel
theorem dX11_otherwise_57 : decode cX11_otherwise 57 = .ok (.iconst 1, 1) := by decide +kernel
theorem dX11_otherwise_58 : decode cX11_otherwise 58 = .ok (.iload_n 1, 1) := by decide +kernel
theorem dX11_otherwise_59 : decode cX11_otherwise 59 = .ok (.ishl, 1) := by decide +kernel
theorem dX11_otherwise_60 : decode cX11_otherwise 60 = .ok (.ixor, 1) := by decide +kernel
theorem dX11_otherwise_61 : decode cX11_otherwise 61 = .ok (.iload_n 2, 1) := by decide +kernel
theorem dX11_otherwise_62 : decode cX11_otherwise 62 = .ok (.invokevirtual 228, 3) := by decide +kernel
theorem dX11_otherwise_65 : decode cX11_otherwise 65 = .ok (.ixor, 1) := by decide +kernel
theorem dX11_otherwise_66 : decode cX11_otherwise 66 = .ok (.ireturn, 1) := by decide +kernel
set_option maxHeartbeats 4000000 in
set_option maxRecDepth 20000 in
theorem c_x_otherwise {G : Gx} {d : Nat} {x1 : Int32} {x2 : Int32} {μ : Mem} {r : Int32 × Mem} (hf : f_x_otherwise x1 x2 μ = some r) : Con G M_x_otherwise (d + 4) [.ref (gA G 0), .int x1, .int x2] μ (some (.int r.1), r.2) := by
  refine Con.ofI ⟨rfl, rfl, Nat.le_of_ble_eq_true rfl⟩ rfl rfl (fun X hG hX hr dy => ?_)
  subst hG
  show AW X 0 [(0, .ref (gA (xG X) 0)), (1, .int x1), (2, .int x2)] [] μ dy
  unfold f_x_otherwise at hf
  refine r_aload_n hX dX11_otherwise_0 0 rfl ?_
  refine r_get hX fl_X11_23 (w_0 _ _ _) rfl dX11_otherwise_1 ?_
  refine r_iload_n hX dX11_otherwise_4 1 rfl ?_
  obtain ⟨v3, μ1, h2, hf⟩ := bd2_eq hf
  refine r_callVI (Ok.le hX (by omega)) (c_st_has (d := d)  h2) cv_X11_116 (w_4 _ _ _) rfl rfl (st := []) rfl rfl rfl dX11_otherwise_5 (fun dy => ?_)
  refine r_if_eq hX 33 dX11_otherwise_8 rfl (fun hc4 => ?_) (fun hc4 => ?_)
  · rw [if_pos hc4] at hf
    refine r_iconst hX (-1 : Int32) dX11_otherwise_33 rfl ?_
    exact fin_I hf hr _ _ _ dX11_otherwise_34
  · rw [if_neg hc4] at hf
    refine r_aload_n hX dX11_otherwise_11 0 rfl ?_
    refine r_get hX fl_X11_23 (w_0 _ _ _) rfl dX11_otherwise_12 ?_
    refine r_iload_n hX dX11_otherwise_15 1 rfl ?_
    obtain ⟨v7, μ5, h6, hf⟩ := bd2_eq hf
    refine r_callVI (Ok.le hX (by omega)) (c_st_isFirm (d := d)  h6) cv_X11_225 (w_4 _ _ _) rfl rfl (st := []) rfl rfl rfl dX11_otherwise_16 (fun dy => ?_)
    refine r_if_ne hX 33 dX11_otherwise_19 rfl (fun hc8 => ?_) (fun hc8 => ?_)
    · rw [if_neg hc8] at hf
      refine r_iconst hX (-1 : Int32) dX11_otherwise_33 rfl ?_
      exact fin_I hf hr _ _ _ dX11_otherwise_34
    · rw [if_pos hc8] at hf
      refine r_iload_n hX dX11_otherwise_22 2 rfl ?_
      refine r_if_lt hX 33 dX11_otherwise_23 rfl (fun hc9 => ?_) (fun hc9 => ?_)
      · rw [if_pos hc9] at hf
        refine r_iconst hX (-1 : Int32) dX11_otherwise_33 rfl ?_
        exact fin_I hf hr _ _ _ dX11_otherwise_34
      · rw [if_neg hc9] at hf
        refine r_iload_n hX dX11_otherwise_26 2 rfl ?_
        refine r_sipush hX (200 : Int32) dX11_otherwise_27 rfl ?_
        refine r_icmp_le hX 35 dX11_otherwise_30 rfl (fun hc10 => ?_) (fun hc10 => ?_)
        · rw [if_pos hc10] at hf
          refine r_aload_n hX dX11_otherwise_35 0 rfl ?_
          refine r_get hX fl_X11_23 (w_0 _ _ _) rfl dX11_otherwise_36 ?_
          obtain ⟨v13, μ11, h12, hf⟩ := bd2_eq hf
          refine r_callVI (Ok.le hX (by omega)) (c_st_now (d := d)  h12) cv_X11_123 (w_4 _ _ _) rfl rfl (st := []) rfl rfl rfl dX11_otherwise_39 (fun dy => ?_)
          refine r_istore_n hX dX11_otherwise_42 rfl (ls' := [(3, .int v13), (0, .ref (gA (xG X) 0)), (1, .int x1), (2, .int x2)]) rfl ?_
          refine r_aload_n hX dX11_otherwise_43 1 rfl ?_
          refine r_get hX fl_X11_63 (w_0 _ _ _) rfl dX11_otherwise_44 ?_
          refine r_iload_n hX dX11_otherwise_47 0 rfl ?_
          refine r_iload_n hX dX11_otherwise_48 3 rfl ?_
          obtain ⟨v16, μ14, h15, hf⟩ := bd2_eq hf
          refine r_callVI (Ok.le hX (by omega)) (c_he_later (d := d) (by decide) h15) cv_X11_228 (w_80 _ _ _) rfl rfl (st := []) rfl rfl rfl dX11_otherwise_49 (fun dy => ?_)
          refine r_aload_n hX dX11_otherwise_52 1 rfl ?_
          refine r_get hX fl_X11_63 (w_0 _ _ _) rfl dX11_otherwise_53 ?_
          refine r_iload_n hX dX11_otherwise_56 0 rfl ?_
          refine r_iconst hX (1 : Int32) dX11_otherwise_57 rfl ?_
          refine r_iload_n hX dX11_otherwise_58 2 rfl ?_
          refine r_ishl hX dX11_otherwise_59 ?_
          refine r_ixor hX dX11_otherwise_60 ?_
          refine r_iload_n hX dX11_otherwise_61 3 rfl ?_
          obtain ⟨v19, μ17, h18, hf⟩ := bd2_eq hf
          refine r_callVI (Ok.le hX (by omega)) (c_he_later (d := d) (by decide) h18) cv_X11_228 (w_80 _ _ _) rfl rfl (st := [.int v16]) rfl rfl rfl dX11_otherwise_62 (fun dy => ?_)
          refine r_ixor hX dX11_otherwise_65 ?_
          exact fin_I hf hr _ _ _ dX11_otherwise_66
        · rw [if_neg hc10] at hf
          refine r_iconst hX (-1 : Int32) dX11_otherwise_33 rfl ?_
          exact fin_I hf hr _ _ _ dX11_otherwise_34
theorem dX11_onebyone_0 : decode cX11_onebyone 0 = .ok (.aload_n 0, 1) := by decide +kernel
theorem dX11_onebyone_1 : decode cX11_onebyone 1 = .ok (.getfield 23, 3) := by decide +kernel
theorem dX11_onebyone_4 : decode cX11_onebyone 4 = .ok (.invokevirtual 123, 3) := by decide +kernel
theorem dX11_onebyone_7 : decode cX11_onebyone 7 = .ok (.istore_n 1, 1) := by decide +kernel
theorem dX11_onebyone_8 : decode cX11_onebyone 8 = .ok (.iconst 0, 1) := by decide +kernel
theorem dX11_onebyone_9 : decode cX11_onebyone 9 = .ok (.istore_n 2, 1) := by decide +kernel
theorem dX11_onebyone_10 : decode cX11_onebyone 10 = .ok (.iconst 0, 1) := by decide +kernel
theorem dX11_onebyone_11 : decode cX11_onebyone 11 = .ok (.istore_n 3, 1) := by decide +kernel
theorem dX11_onebyone_12 : decode cX11_onebyone 12 = .ok (.iload_n 3, 1) := by decide +kernel
theorem dX11_onebyone_13 : decode cX11_onebyone 13 = .ok (.bipush 100, 2) := by decide +kernel
theorem dX11_onebyone_15 : decode cX11_onebyone 15 = .ok (.if_icmp .gt 89, 3) := by decide +kernel
theorem dX11_onebyone_18 : decode cX11_onebyone 18 = .ok (.iload_n 2, 1) := by decide +kernel
theorem dX11_onebyone_19 : decode cX11_onebyone 19 = .ok (.istore 4, 2) := by decide +kernel
theorem dX11_onebyone_21 : decode cX11_onebyone 21 = .ok (.iconst 0, 1) := by decide +kernel
theorem dX11_onebyone_22 : decode cX11_onebyone 22 = .ok (.istore 5, 2) := by decide +kernel
theorem dX11_onebyone_24 : decode cX11_onebyone 24 = .ok (.iload 5, 2) := by decide +kernel
theorem dX11_onebyone_26 : decode cX11_onebyone 26 = .ok (.aload_n 0, 1) := by decide +kernel
theorem dX11_onebyone_27 : decode cX11_onebyone 27 = .ok (.getfield 23, 3) := by decide +kernel
theorem dX11_onebyone_30 : decode cX11_onebyone 30 = .ok (.getfield 155, 3) := by decide +kernel
theorem dX11_onebyone_33 : decode cX11_onebyone 33 = .ok (.if_icmp .ge 39, 3) := by decide +kernel
theorem dX11_onebyone_36 : decode cX11_onebyone 36 = .ok (.aload_n 0, 1) := by decide +kernel
theorem dX11_onebyone_37 : decode cX11_onebyone 37 = .ok (.getfield 63, 3) := by decide +kernel
theorem dX11_onebyone_40 : decode cX11_onebyone 40 = .ok (.iload_n 1, 1) := by decide +kernel
theorem dX11_onebyone_41 : decode cX11_onebyone 41 = .ok (.invokevirtual 176, 3) := by decide +kernel
theorem dX11_onebyone_44 : decode cX11_onebyone 44 = .ok (.iload_n 1, 1) := by decide +kernel
theorem dX11_onebyone_45 : decode cX11_onebyone 45 = .ok (.ixor, 1) := by decide +kernel
theorem dX11_onebyone_46 : decode cX11_onebyone 46 = .ok (.iconst 1, 1) := by decide +kernel
theorem dX11_onebyone_47 : decode cX11_onebyone 47 = .ok (.iload 5, 2) := by decide +kernel
theorem dX11_onebyone_49 : decode cX11_onebyone 49 = .ok (.ishl, 1) := by decide +kernel
theorem dX11_onebyone_50 : decode cX11_onebyone 50 = .ok (.iand, 1) := by decide +kernel
theorem dX11_onebyone_51 : decode cX11_onebyone 51 = .ok (.istore 6, 2) := by decide +kernel
theorem dX11_onebyone_53 : decode cX11_onebyone 53 = .ok (.iload_n 1, 1) := by decide +kernel
theorem dX11_onebyone_54 : decode cX11_onebyone 54 = .ok (.iload 6, 2) := by decide +kernel
theorem dX11_onebyone_56 : decode cX11_onebyone 56 = .ok (.ixor, 1) := by decide +kernel
theorem dX11_onebyone_57 : decode cX11_onebyone 57 = .ok (.istore_n 1, 1) := by decide +kernel
theorem dX11_onebyone_58 : decode cX11_onebyone 58 = .ok (.iload_n 2, 1) := by decide +kernel
theorem dX11_onebyone_59 : decode cX11_onebyone 59 = .ok (.iload 6, 2) := by decide +kernel
theorem dX11_onebyone_61 : decode cX11_onebyone 61 = .ok (.iload 5, 2) := by decide +kernel
theorem dX11_onebyone_63 : decode cX11_onebyone 63 = .ok (.ishr, 1) := by decide +kernel
theorem dX11_onebyone_64 : decode cX11_onebyone 64 = .ok (.iadd, 1) := by decide +kernel
theorem dX11_onebyone_65 : decode cX11_onebyone 65 = .ok (.istore_n 2, 1) := by decide +kernel
theorem dX11_onebyone_66 : decode cX11_onebyone 66 = .ok (.iinc 5 1, 3) := by decide +kernel
theorem dX11_onebyone_69 : decode cX11_onebyone 69 = .ok (.goto (-45), 3) := by decide +kernel
theorem dX11_onebyone_72 : decode cX11_onebyone 72 = .ok (.iload_n 2, 1) := by decide +kernel
theorem dX11_onebyone_73 : decode cX11_onebyone 73 = .ok (.iload 4, 2) := by decide +kernel
theorem dX11_onebyone_75 : decode cX11_onebyone 75 = .ok (.if_icmp .ne 23, 3) := by decide +kernel
theorem dX11_onebyone_78 : decode cX11_onebyone 78 = .ok (.aload_n 0, 1) := by decide +kernel
theorem dX11_onebyone_79 : decode cX11_onebyone 79 = .ok (.getfield 16, 3) := by decide +kernel
theorem dX11_onebyone_82 : decode cX11_onebyone 82 = .ok (.iload_n 1, 1) := by decide +kernel
theorem dX11_onebyone_83 : decode cX11_onebyone 83 = .ok (.i2l, 1) := by decide +kernel
theorem dX11_onebyone_84 : decode cX11_onebyone 84 = .ok (.invokevirtual 198, 3) := by decide +kernel
theorem dX11_onebyone_87 : decode cX11_onebyone 87 = .ok (.aload_n 0, 1) := by decide +kernel
theorem dX11_onebyone_88 : decode cX11_onebyone 88 = .ok (.getfield 16, 3) := by decide +kernel
theorem dX11_onebyone_91 : decode cX11_onebyone 91 = .ok (.iload_n 2, 1) := by decide +kernel
theorem dX11_onebyone_92 : decode cX11_onebyone 92 = .ok (.i2l, 1) := by decide +kernel
theorem dX11_onebyone_93 : decode cX11_onebyone 93 = .ok (.invokevirtual 204, 3) := by decide +kernel
theorem dX11_onebyone_96 : decode cX11_onebyone 96 = .ok (.iload_n 3, 1) := by decide +kernel
theorem dX11_onebyone_97 : decode cX11_onebyone 97 = .ok (.ireturn, 1) := by decide +kernel
theorem dX11_onebyone_98 : decode cX11_onebyone 98 = .ok (.iinc 3 1, 3) := by decide +kernel
theorem dX11_onebyone_101 : decode cX11_onebyone 101 = .ok (.goto (-89), 3) := by decide +kernel
theorem dX11_onebyone_104 : decode cX11_onebyone 104 = .ok (.bipush (-2), 2) := by decide +kernel
theorem dX11_onebyone_106 : decode cX11_onebyone 106 = .ok (.ireturn, 1) := by decide +kernel
set_option maxHeartbeats 4000000 in
set_option maxRecDepth 20000 in
theorem b_x_onebyone_b24 {X : Cx} {d : Nat} (hX : Ok M_x_onebyone (d + 3) X) {r : Int32 × Mem} (hr : RetI M_x_onebyone X r.1 r.2) {k12 : Int32 → Int32 → Int32 → Mem → Option (Int32 × Mem)} (hk12 : ∀ (x1 : Int32) (x2 : Int32) (x3 : Int32) (μ : Mem) (dy : Nat → Nat), k12 x1 x2 x3 μ = some r → AW X 12 [(0, .ref (gA (xG X) 0)), (1, .int x1), (2, .int x2), (3, .int x3)] [] μ dy) : ∀ (n : Nat) (x1 : Int32) (x2 : Int32) (x3 : Int32) (x4 : Int32) (x5 : Int32) (μ : Mem) (dy : Nat → Nat), f_x_onebyone_b24 k12 n x1 x2 x3 x4 x5 μ = some r → AW X 24 [(0, .ref (gA (xG X) 0)), (1, .int x1), (2, .int x2), (3, .int x3), (4, .int x4), (5, .int x5)] [] μ dy := by
  intro n
  induction n with
  | zero => intro x1 x2 x3 x4 x5 μ dy hf; exact nomatch hf
  | succ n ih =>
    intro x1 x2 x3 x4 x5 μ dy hf
    rw [f_x_onebyone_b24] at hf
    refine r_iload hX dX11_onebyone_24 5 rfl ?_
    refine r_aload_n hX dX11_onebyone_26 0 rfl ?_
    refine r_get hX fl_X11_23 (w_0 _ _ _) rfl dX11_onebyone_27 ?_
    refine r_getN hX fl_X11_155 (w_4 _ _ _) rfl dX11_onebyone_30 ?_
    refine r_icmp_ge hX 72 dX11_onebyone_33 rfl (fun hc5 => ?_) (fun hc5 => ?_)
    · rw [if_pos hc5] at hf
      refine r_iload_n hX dX11_onebyone_72 2 rfl ?_
      refine r_iload hX dX11_onebyone_73 4 rfl ?_
      refine r_icmp_ne hX 98 dX11_onebyone_75 rfl (fun hc6 => ?_) (fun hc6 => ?_)
      · rw [if_neg hc6] at hf
        refine r_iinc hX (x3 + (1 : Int32)) dX11_onebyone_98 3 rfl rfl rfl (ls' := [(3, .int (x3 + (1 : Int32))), (0, .ref (gA (xG X) 0)), (1, .int x1), (2, .int x2), (4, .int x4), (5, .int x5)]) rfl ?_
        refine r_goto hX 12 dX11_onebyone_101 rfl ?_
        refine r_weak [1, 2, 3, 0] rfl ?_
        exact hk12 _ _ _ _ _ hf
      · rw [if_pos hc6] at hf
        refine r_aload_n hX dX11_onebyone_78 0 rfl ?_
        refine r_get hX fl_X11_16 (w_0 _ _ _) rfl dX11_onebyone_79 ?_
        refine r_iload_n hX dX11_onebyone_82 1 rfl ?_
        refine r_i2l hX dX11_onebyone_83 ?_
        obtain ⟨μ7, h8, hf⟩ := bd1_eq hf
        refine r_callVV (Ok.le hX (by omega)) (c_rw_only (d := d)  h8) cv_X11_198 (w_2 _ _ _) rfl rfl (st := []) rfl rfl rfl dX11_onebyone_84 (fun dy => ?_)
        refine r_aload_n hX dX11_onebyone_87 0 rfl ?_
        refine r_get hX fl_X11_16 (w_0 _ _ _) rfl dX11_onebyone_88 ?_
        refine r_iload_n hX dX11_onebyone_91 2 rfl ?_
        refine r_i2l hX dX11_onebyone_92 ?_
        obtain ⟨μ9, h10, hf⟩ := bd1_eq hf
        refine r_callVV (Ok.le hX (by omega)) (c_rw_add (d := d)  h10) cv_X11_204 (w_2 _ _ _) rfl rfl (st := []) rfl rfl rfl dX11_onebyone_93 (fun dy => ?_)
        refine r_iload_n hX dX11_onebyone_96 3 rfl ?_
        exact fin_I hf hr _ _ _ dX11_onebyone_97
    · rw [if_neg hc5] at hf
      refine r_aload_n hX dX11_onebyone_36 0 rfl ?_
      refine r_get hX fl_X11_63 (w_0 _ _ _) rfl dX11_onebyone_37 ?_
      refine r_iload_n hX dX11_onebyone_40 1 rfl ?_
      obtain ⟨v13, μ11, h12, hf⟩ := bd2_eq hf
      refine r_callVI (Ok.le hX (by omega)) (c_he_after (d := d) (by decide) h12) cv_X11_176 (w_80 _ _ _) rfl rfl (st := []) rfl rfl rfl dX11_onebyone_41 (fun dy => ?_)
      refine r_iload_n hX dX11_onebyone_44 1 rfl ?_
      refine r_ixor hX dX11_onebyone_45 ?_
      refine r_iconst hX (1 : Int32) dX11_onebyone_46 rfl ?_
      refine r_iload hX dX11_onebyone_47 5 rfl ?_
      refine r_ishl hX dX11_onebyone_49 ?_
      refine r_iand hX dX11_onebyone_50 ?_
      obtain ⟨v14, e15, hf⟩ := bnd_eq hf
      refine r_topI e15 ?_
      refine r_istore hX dX11_onebyone_51 rfl (ls' := [(6, .int v14), (0, .ref (gA (xG X) 0)), (1, .int x1), (2, .int x2), (3, .int x3), (4, .int x4), (5, .int x5)]) rfl ?_
      refine r_iload_n hX dX11_onebyone_53 2 rfl ?_
      refine r_iload hX dX11_onebyone_54 0 rfl ?_
      refine r_ixor hX dX11_onebyone_56 ?_
      refine r_istore_n hX dX11_onebyone_57 rfl (ls' := [(1, .int (x1 ^^^ v14)), (6, .int v14), (0, .ref (gA (xG X) 0)), (2, .int x2), (3, .int x3), (4, .int x4), (5, .int x5)]) rfl ?_
      refine r_iload_n hX dX11_onebyone_58 3 rfl ?_
      refine r_iload hX dX11_onebyone_59 1 rfl ?_
      refine r_iload hX dX11_onebyone_61 6 rfl ?_
      refine r_ishr hX dX11_onebyone_63 ?_
      refine r_iadd hX dX11_onebyone_64 ?_
      refine r_istore_n hX dX11_onebyone_65 rfl (ls' := [(2, .int (x2 + (v14 >>> (x5 &&& 31)))), (1, .int (x1 ^^^ v14)), (6, .int v14), (0, .ref (gA (xG X) 0)), (3, .int x3), (4, .int x4), (5, .int x5)]) rfl ?_
      refine r_iinc hX (x5 + (1 : Int32)) dX11_onebyone_66 6 rfl rfl rfl (ls' := [(5, .int (x5 + (1 : Int32))), (2, .int (x2 + (v14 >>> (x5 &&& 31)))), (1, .int (x1 ^^^ v14)), (6, .int v14), (0, .ref (gA (xG X) 0)), (3, .int x3), (4, .int x4)]) rfl ?_
      refine r_goto hX 24 dX11_onebyone_69 rfl ?_
      refine r_weak [4, 2, 1, 5, 6, 0] rfl ?_
      exact ih _ _ _ _ _ _ _ hf
set_option maxHeartbeats 4000000 in
set_option maxRecDepth 20000 in
theorem b_x_onebyone_b12 {X : Cx} {d : Nat} (hX : Ok M_x_onebyone (d + 3) X) {r : Int32 × Mem} (hr : RetI M_x_onebyone X r.1 r.2) : ∀ (n : Nat) (x1 : Int32) (x2 : Int32) (x3 : Int32) (μ : Mem) (dy : Nat → Nat), f_x_onebyone_b12 n x1 x2 x3 μ = some r → AW X 12 [(0, .ref (gA (xG X) 0)), (1, .int x1), (2, .int x2), (3, .int x3)] [] μ dy := by
  intro n
  induction n with
  | zero => intro x1 x2 x3 μ dy hf; exact nomatch hf
  | succ n ih =>
    intro x1 x2 x3 μ dy hf
    rw [f_x_onebyone_b12] at hf
    refine r_iload_n hX dX11_onebyone_12 3 rfl ?_
    refine r_bipush hX (100 : Int32) dX11_onebyone_13 rfl ?_
    refine r_icmp_gt hX 104 dX11_onebyone_15 rfl (fun hc4 => ?_) (fun hc4 => ?_)
    · rw [if_pos hc4] at hf
      refine r_bipush hX (-2 : Int32) dX11_onebyone_104 rfl ?_
      exact fin_I hf hr _ _ _ dX11_onebyone_106
    · rw [if_neg hc4] at hf
      refine r_iload_n hX dX11_onebyone_18 2 rfl ?_
      refine r_istore hX dX11_onebyone_19 rfl (ls' := [(4, .int x2), (0, .ref (gA (xG X) 0)), (1, .int x1), (2, .int x2), (3, .int x3)]) rfl ?_
      refine r_iconst hX (0 : Int32) dX11_onebyone_21 rfl ?_
      refine r_istore hX dX11_onebyone_22 rfl (ls' := [(5, .int (0 : Int32)), (4, .int x2), (0, .ref (gA (xG X) 0)), (1, .int x1), (2, .int x2), (3, .int x3)]) rfl ?_
      refine r_weak [2, 3, 4, 5, 1, 0] rfl ?_
      exact b_x_onebyone_b24 hX hr ih FU _ _ _ _ _ _ _ hf
set_option maxHeartbeats 4000000 in
set_option maxRecDepth 20000 in
theorem c_x_onebyone {G : Gx} {d : Nat}  {μ : Mem} {r : Int32 × Mem} (hf : f_x_onebyone  μ = some r) : Con G M_x_onebyone (d + 3) [.ref (gA G 0)] μ (some (.int r.1), r.2) := by
  refine Con.ofI ⟨rfl, rfl, Nat.le_of_ble_eq_true rfl⟩ rfl rfl (fun X hG hX hr dy => ?_)
  subst hG
  show AW X 0 [(0, .ref (gA (xG X) 0))] [] μ dy
  unfold f_x_onebyone at hf
  refine r_aload_n hX dX11_onebyone_0 0 rfl ?_
  refine r_get hX fl_X11_23 (w_0 _ _ _) rfl dX11_onebyone_1 ?_
  obtain ⟨v3, μ1, h2, hf⟩ := bd2_eq hf
  refine r_callVI (Ok.le hX (by omega)) (c_st_now (d := d)  h2) cv_X11_123 (w_4 _ _ _) rfl rfl (st := []) rfl rfl rfl dX11_onebyone_4 (fun dy => ?_)
  refine r_istore_n hX dX11_onebyone_7 rfl (ls' := [(1, .int v3), (0, .ref (gA (xG X) 0))]) rfl ?_
  refine r_iconst hX (0 : Int32) dX11_onebyone_8 rfl ?_
  refine r_istore_n hX dX11_onebyone_9 rfl (ls' := [(2, .int (0 : Int32)), (1, .int v3), (0, .ref (gA (xG X) 0))]) rfl ?_
  refine r_iconst hX (0 : Int32) dX11_onebyone_10 rfl ?_
  refine r_istore_n hX dX11_onebyone_11 rfl (ls' := [(3, .int (0 : Int32)), (2, .int (0 : Int32)), (1, .int v3), (0, .ref (gA (xG X) 0))]) rfl ?_
  refine r_weak [3, 2, 1, 0] rfl ?_
  exact b_x_onebyone_b12 hX hr FU _ _ _ _ _ hf
theorem dX11_isTalkDay_0 : decode cX11_isTalkDay 0 = .ok (.iload_n 0, 1) := by decide +kernel
theorem dX11_isTalkDay_1 : decode cX11_isTalkDay 1 = .ok (.ifCond .lt 13, 3) := by decide +kernel
theorem dX11_isTalkDay_4 : decode cX11_isTalkDay 4 = .ok (.iload_n 0, 1) := by decide +kernel
theorem dX11_isTalkDay_5 : decode cX11_isTalkDay 5 = .ok (.bipush 20, 2) := by decide +kernel
theorem dX11_isTalkDay_7 : decode cX11_isTalkDay 7 = .ok (.if_icmp .gt 7, 3) := by decide +kernel
theorem dX11_isTalkDay_10 : decode cX11_isTalkDay 10 = .ok (.iconst 1, 1) := by decide +kernel
theorem dX11_isTalkDay_11 : decode cX11_isTalkDay 11 = .ok (.goto 4, 3) := by decide +kernel
theorem dX11_isTalkDay_14 : decode cX11_isTalkDay 14 = .ok (.iconst 0, 1) := by decide +kernel
theorem dX11_isTalkDay_15 : decode cX11_isTalkDay 15 = .ok (.ireturn, 1) := by decide +kernel
set_option maxHeartbeats 4000000 in
set_option maxRecDepth 20000 in
theorem c_x_isTalkDay {G : Gx} {d : Nat} {x0 : Int32} {μ : Mem} {r : Int32 × Mem} (hf : f_x_isTalkDay x0 μ = some r) : Con G M_x_isTalkDay (d + 0) [.int x0] μ (some (.int r.1), r.2) := by
  refine Con.ofZ ⟨rfl, rfl, Nat.le_of_ble_eq_true rfl⟩ rfl (fun X hG hX hr dy => ?_)
  subst hG
  show AW X 0 [(0, .int x0)] [] μ dy
  unfold f_x_isTalkDay at hf
  refine r_iload_n hX dX11_isTalkDay_0 0 rfl ?_
  obtain ⟨v1, e2, hf⟩ := bnd_eq hf
  have J3 : AW X 15 [(0, .int x0)] [.int v1] μ dy := by
    obtain ⟨b4, hf⟩ := chk_eq hf
    exact fin_Z hf hr _ _ _ (zb_nar b4) dX11_isTalkDay_15
  refine r_if_lt hX 14 dX11_isTalkDay_1 rfl (fun hc5 => ?_) (fun hc5 => ?_)
  · refine r_iconst hX (0 : Int32) dX11_isTalkDay_14 rfl ?_
    exact r_topI (e2.trans (by rw [if_pos hc5])) J3
  · refine r_iload_n hX dX11_isTalkDay_4 0 rfl ?_
    refine r_bipush hX (20 : Int32) dX11_isTalkDay_5 rfl ?_
    refine r_icmp_gt hX 14 dX11_isTalkDay_7 rfl (fun hc6 => ?_) (fun hc6 => ?_)
    · refine r_iconst hX (0 : Int32) dX11_isTalkDay_14 rfl ?_
      exact r_topI (e2.trans (by rw [if_neg hc5, if_pos hc6])) J3
    · refine r_iconst hX (1 : Int32) dX11_isTalkDay_10 rfl ?_
      refine r_goto hX 15 dX11_isTalkDay_11 rfl ?_
      exact r_topI (e2.trans (by rw [if_neg hc5, if_neg hc6])) J3
theorem dX11_level_0 : decode cX11_level 0 = .ok (.iload_n 1, 1) := by decide +kernel
theorem dX11_level_1 : decode cX11_level 1 = .ok (.invokestatic 231, 3) := by decide +kernel
theorem dX11_level_4 : decode cX11_level 4 = .ok (.ifCond .eq 14, 3) := by decide +kernel
theorem dX11_level_7 : decode cX11_level 7 = .ok (.aload_n 0, 1) := by decide +kernel
theorem dX11_level_8 : decode cX11_level 8 = .ok (.getfield 104, 3) := by decide +kernel
theorem dX11_level_11 : decode cX11_level 11 = .ok (.iload_n 1, 1) := by decide +kernel
theorem dX11_level_12 : decode cX11_level 12 = .ok (.invokevirtual 234, 3) := by decide +kernel
theorem dX11_level_15 : decode cX11_level 15 = .ok (.goto 4, 3) := by decide +kernel
theorem dX11_level_18 : decode cX11_level 18 = .ok (.iconst (-1), 1) := by decide +kernel
theorem dX11_level_19 : decode cX11_level 19 = .ok (.ireturn, 1) := by decide +kernel
set_option maxHeartbeats 4000000 in
set_option maxRecDepth 20000 in
theorem c_x_level {G : Gx} {d : Nat} {x1 : Int32} {μ : Mem} {r : Int32 × Mem} (hf : f_x_level x1 μ = some r) : Con G M_x_level (d + 4) [.ref (gA G 0), .int x1] μ (some (.int r.1), r.2) := by
  refine Con.ofI ⟨rfl, rfl, Nat.le_of_ble_eq_true rfl⟩ rfl rfl (fun X hG hX hr dy => ?_)
  subst hG
  show AW X 0 [(0, .ref (gA (xG X) 0)), (1, .int x1)] [] μ dy
  unfold f_x_level at hf
  refine r_iload_n hX dX11_level_0 1 rfl ?_
  obtain ⟨v3, μ1, h2, hf⟩ := bd2_eq hf
  refine r_callSI (Ok.le hX (by omega)) (c_x_isTalkDay (d := d)  h2) cs_X11_231 (st := []) rfl rfl rfl dX11_level_1 (fun dy => ?_)
  refine r_if_eq hX 18 dX11_level_4 rfl (fun hc4 => ?_) (fun hc4 => ?_)
  · rw [if_pos hc4] at hf
    refine r_iconst hX (-1 : Int32) dX11_level_18 rfl ?_
    exact fin_I hf hr _ _ _ dX11_level_19
  · rw [if_neg hc4] at hf
    refine r_aload_n hX dX11_level_7 0 rfl ?_
    refine r_get hX fl_X11_104 (w_0 _ _ _) rfl dX11_level_8 ?_
    refine r_iload_n hX dX11_level_11 1 rfl ?_
    obtain ⟨v7, μ5, h6, hf⟩ := bd2_eq hf
    refine r_callVI (Ok.le hX (by omega)) (c_ac_highestNeed (d := d)  h6) cv_X11_234 (w_110 _ _ _) rfl rfl (st := []) rfl rfl rfl dX11_level_12 (fun dy => ?_)
    refine r_goto hX 19 dX11_level_15 rfl ?_
    exact fin_I hf hr _ _ _ dX11_level_19
theorem dX11_hops_0 : decode cX11_hops 0 = .ok (.aload_n 0, 1) := by decide +kernel
theorem dX11_hops_1 : decode cX11_hops 1 = .ok (.getfield 23, 3) := by decide +kernel
theorem dX11_hops_4 : decode cX11_hops 4 = .ok (.iload_n 1, 1) := by decide +kernel
theorem dX11_hops_5 : decode cX11_hops 5 = .ok (.invokevirtual 116, 3) := by decide +kernel
theorem dX11_hops_8 : decode cX11_hops 8 = .ok (.ifCond .eq 14, 3) := by decide +kernel
theorem dX11_hops_11 : decode cX11_hops 11 = .ok (.aload_n 0, 1) := by decide +kernel
theorem dX11_hops_12 : decode cX11_hops 12 = .ok (.getfield 23, 3) := by decide +kernel
theorem dX11_hops_15 : decode cX11_hops 15 = .ok (.iload_n 2, 1) := by decide +kernel
theorem dX11_hops_16 : decode cX11_hops 16 = .ok (.invokevirtual 116, 3) := by decide +kernel
theorem dX11_hops_19 : decode cX11_hops 19 = .ok (.ifCond .ne 5, 3) := by decide +kernel
theorem dX11_hops_22 : decode cX11_hops 22 = .ok (.iconst (-1), 1) := by decide +kernel
theorem dX11_hops_23 : decode cX11_hops 23 = .ok (.ireturn, 1) := by decide +kernel
theorem dX11_hops_24 : decode cX11_hops 24 = .ok (.aload_n 0, 1) := by decide +kernel
theorem dX11_hops_25 : decode cX11_hops 25 = .ok (.getfield 23, 3) := by decide +kernel
theorem dX11_hops_28 : decode cX11_hops 28 = .ok (.iload_n 1, 1) := by decide +kernel
theorem dX11_hops_29 : decode cX11_hops 29 = .ok (.iload_n 2, 1) := by decide +kernel
theorem dX11_hops_30 : decode cX11_hops 30 = .ok (.aload_n 0, 1) := by decide +kernel
theorem dX11_hops_31 : decode cX11_hops 31 = .ok (.getfield 16, 3) := by decide +kernel
theorem dX11_hops_34 : decode cX11_hops 34 = .ok (.invokevirtual 237, 3) := by decide +kernel
theorem dX11_hops_37 : decode cX11_hops 37 = .ok (.ireturn, 1) := by decide +kernel
set_option maxHeartbeats 4000000 in
set_option maxRecDepth 20000 in
theorem c_x_hops {G : Gx} {d : Nat} {x1 : Int32} {x2 : Int32} {μ : Mem} {r : Int32 × Mem} (hf : f_x_hops x1 x2 μ = some r) : Con G M_x_hops (d + 3) [.ref (gA G 0), .int x1, .int x2] μ (some (.int r.1), r.2) := by
  refine Con.ofI ⟨rfl, rfl, Nat.le_of_ble_eq_true rfl⟩ rfl rfl (fun X hG hX hr dy => ?_)
  subst hG
  show AW X 0 [(0, .ref (gA (xG X) 0)), (1, .int x1), (2, .int x2)] [] μ dy
  unfold f_x_hops at hf
  refine r_aload_n hX dX11_hops_0 0 rfl ?_
  refine r_get hX fl_X11_23 (w_0 _ _ _) rfl dX11_hops_1 ?_
  refine r_iload_n hX dX11_hops_4 1 rfl ?_
  obtain ⟨v3, μ1, h2, hf⟩ := bd2_eq hf
  refine r_callVI (Ok.le hX (by omega)) (c_st_has (d := d)  h2) cv_X11_116 (w_4 _ _ _) rfl rfl (st := []) rfl rfl rfl dX11_hops_5 (fun dy => ?_)
  refine r_if_eq hX 22 dX11_hops_8 rfl (fun hc4 => ?_) (fun hc4 => ?_)
  · rw [if_pos hc4] at hf
    refine r_iconst hX (-1 : Int32) dX11_hops_22 rfl ?_
    exact fin_I hf hr _ _ _ dX11_hops_23
  · rw [if_neg hc4] at hf
    refine r_aload_n hX dX11_hops_11 0 rfl ?_
    refine r_get hX fl_X11_23 (w_0 _ _ _) rfl dX11_hops_12 ?_
    refine r_iload_n hX dX11_hops_15 2 rfl ?_
    obtain ⟨v7, μ5, h6, hf⟩ := bd2_eq hf
    refine r_callVI (Ok.le hX (by omega)) (c_st_has (d := d)  h6) cv_X11_116 (w_4 _ _ _) rfl rfl (st := []) rfl rfl rfl dX11_hops_16 (fun dy => ?_)
    refine r_if_ne hX 24 dX11_hops_19 rfl (fun hc8 => ?_) (fun hc8 => ?_)
    · rw [if_neg hc8] at hf
      refine r_aload_n hX dX11_hops_24 0 rfl ?_
      refine r_get hX fl_X11_23 (w_0 _ _ _) rfl dX11_hops_25 ?_
      refine r_iload_n hX dX11_hops_28 1 rfl ?_
      refine r_iload_n hX dX11_hops_29 2 rfl ?_
      refine r_aload_n hX dX11_hops_30 0 rfl ?_
      refine r_get hX fl_X11_16 (w_0 _ _ _) rfl dX11_hops_31 ?_
      obtain ⟨v11, μ9, h10, hf⟩ := bd2_eq hf
      refine r_callVI (Ok.le hX (by omega)) (c_st_passOn (d := d)  h10) cv_X11_237 (w_4 _ _ _) rfl rfl (st := []) rfl rfl rfl dX11_hops_34 (fun dy => ?_)
      exact fin_I hf hr _ _ _ dX11_hops_37
    · rw [if_pos hc8] at hf
      refine r_iconst hX (-1 : Int32) dX11_hops_22 rfl ?_
      exact fin_I hf hr _ _ _ dX11_hops_23
theorem dX11_part_0 : decode cX11_part 0 = .ok (.aload_n 0, 1) := by decide +kernel
theorem dX11_part_1 : decode cX11_part 1 = .ok (.getfield 23, 3) := by decide +kernel
theorem dX11_part_4 : decode cX11_part 4 = .ok (.iload_n 1, 1) := by decide +kernel
theorem dX11_part_5 : decode cX11_part 5 = .ok (.invokevirtual 116, 3) := by decide +kernel
theorem dX11_part_8 : decode cX11_part 8 = .ok (.ifCond .ne 5, 3) := by decide +kernel
theorem dX11_part_11 : decode cX11_part 11 = .ok (.iconst (-1), 1) := by decide +kernel
theorem dX11_part_12 : decode cX11_part 12 = .ok (.ireturn, 1) := by decide +kernel
theorem dX11_part_13 : decode cX11_part 13 = .ok (.iconst 0, 1) := by decide +kernel
theorem dX11_part_14 : decode cX11_part 14 = .ok (.istore_n 2, 1) := by decide +kernel
theorem dX11_part_15 : decode cX11_part 15 = .ok (.iconst 0, 1) := by decide +kernel
theorem dX11_part_16 : decode cX11_part 16 = .ok (.istore_n 3, 1) := by decide +kernel
theorem dX11_part_17 : decode cX11_part 17 = .ok (.iconst 0, 1) := by decide +kernel
theorem dX11_part_18 : decode cX11_part 18 = .ok (.istore 4, 2) := by decide +kernel
theorem dX11_part_20 : decode cX11_part 20 = .ok (.iload 4, 2) := by decide +kernel
theorem dX11_part_22 : decode cX11_part 22 = .ok (.aload_n 0, 1) := by decide +kernel
theorem dX11_part_23 : decode cX11_part 23 = .ok (.getfield 23, 3) := by decide +kernel
theorem dX11_part_26 : decode cX11_part 26 = .ok (.getfield 155, 3) := by decide +kernel
theorem dX11_part_29 : decode cX11_part 29 = .ok (.if_icmp .ge 33, 3) := by decide +kernel
theorem dX11_part_32 : decode cX11_part 32 = .ok (.iload_n 3, 1) := by decide +kernel
theorem dX11_part_33 : decode cX11_part 33 = .ok (.iload 4, 2) := by decide +kernel
theorem dX11_part_35 : decode cX11_part 35 = .ok (.ishr, 1) := by decide +kernel
theorem dX11_part_36 : decode cX11_part 36 = .ok (.iconst 1, 1) := by decide +kernel
theorem dX11_part_37 : decode cX11_part 37 = .ok (.iand, 1) := by decide +kernel
theorem dX11_part_38 : decode cX11_part 38 = .ok (.ifCond .ne 18, 3) := by decide +kernel
theorem dX11_part_41 : decode cX11_part 41 = .ok (.iinc 2 1, 3) := by decide +kernel
theorem dX11_part_44 : decode cX11_part 44 = .ok (.iload_n 3, 1) := by decide +kernel
theorem dX11_part_45 : decode cX11_part 45 = .ok (.aload_n 0, 1) := by decide +kernel
theorem dX11_part_46 : decode cX11_part 46 = .ok (.getfield 23, 3) := by decide +kernel
theorem dX11_part_49 : decode cX11_part 49 = .ok (.iload 4, 2) := by decide +kernel
theorem dX11_part_51 : decode cX11_part 51 = .ok (.invokevirtual 241, 3) := by decide +kernel
theorem dX11_part_54 : decode cX11_part 54 = .ok (.ior, 1) := by decide +kernel
theorem dX11_part_55 : decode cX11_part 55 = .ok (.istore_n 3, 1) := by decide +kernel
theorem dX11_part_56 : decode cX11_part 56 = .ok (.iinc 4 1, 3) := by decide +kernel
theorem dX11_part_59 : decode cX11_part 59 = .ok (.goto (-39), 3) := by decide +kernel
theorem dX11_part_62 : decode cX11_part 62 = .ok (.aload_n 0, 1) := by decide +kernel
theorem dX11_part_63 : decode cX11_part 63 = .ok (.getfield 16, 3) := by decide +kernel
theorem dX11_part_66 : decode cX11_part 66 = .ok (.iload_n 2, 1) := by decide +kernel
theorem dX11_part_67 : decode cX11_part 67 = .ok (.i2l, 1) := by decide +kernel
theorem dX11_part_68 : decode cX11_part 68 = .ok (.invokevirtual 198, 3) := by decide +kernel
theorem dX11_part_71 : decode cX11_part 71 = .ok (.aload_n 0, 1) := by decide +kernel
theorem dX11_part_72 : decode cX11_part 72 = .ok (.getfield 23, 3) := by decide +kernel
theorem dX11_part_75 : decode cX11_part 75 = .ok (.iload_n 1, 1) := by decide +kernel
theorem dX11_part_76 : decode cX11_part 76 = .ok (.invokevirtual 241, 3) := by decide +kernel
theorem dX11_part_79 : decode cX11_part 79 = .ok (.ireturn, 1) := by decide +kernel
set_option maxHeartbeats 4000000 in
set_option maxRecDepth 20000 in
theorem b_x_part_b20 {X : Cx} {d : Nat} (hX : Ok M_x_part (d + 3) X) {r : Int32 × Mem} (hr : RetI M_x_part X r.1 r.2) : ∀ (n : Nat) (x1 : Int32) (x2 : Int32) (x3 : Int32) (x4 : Int32) (μ : Mem) (dy : Nat → Nat), f_x_part_b20 n x1 x2 x3 x4 μ = some r → AW X 20 [(0, .ref (gA (xG X) 0)), (1, .int x1), (2, .int x2), (3, .int x3), (4, .int x4)] [] μ dy := by
  intro n
  induction n with
  | zero => intro x1 x2 x3 x4 μ dy hf; exact nomatch hf
  | succ n ih =>
    intro x1 x2 x3 x4 μ dy hf
    rw [f_x_part_b20] at hf
    refine r_iload hX dX11_part_20 4 rfl ?_
    refine r_aload_n hX dX11_part_22 0 rfl ?_
    refine r_get hX fl_X11_23 (w_0 _ _ _) rfl dX11_part_23 ?_
    refine r_getN hX fl_X11_155 (w_4 _ _ _) rfl dX11_part_26 ?_
    refine r_icmp_ge hX 62 dX11_part_29 rfl (fun hc5 => ?_) (fun hc5 => ?_)
    · rw [if_pos hc5] at hf
      refine r_aload_n hX dX11_part_62 0 rfl ?_
      refine r_get hX fl_X11_16 (w_0 _ _ _) rfl dX11_part_63 ?_
      refine r_iload_n hX dX11_part_66 2 rfl ?_
      refine r_i2l hX dX11_part_67 ?_
      obtain ⟨μ6, h7, hf⟩ := bd1_eq hf
      refine r_callVV (Ok.le hX (by omega)) (c_rw_only (d := d)  h7) cv_X11_198 (w_2 _ _ _) rfl rfl (st := []) rfl rfl rfl dX11_part_68 (fun dy => ?_)
      refine r_aload_n hX dX11_part_71 0 rfl ?_
      refine r_get hX fl_X11_23 (w_0 _ _ _) rfl dX11_part_72 ?_
      refine r_iload_n hX dX11_part_75 1 rfl ?_
      obtain ⟨v10, μ8, h9, hf⟩ := bd2_eq hf
      refine r_callVI (Ok.le hX (by omega)) (c_st_partOf (d := d)  h9) cv_X11_241 (w_4 _ _ _) rfl rfl (st := []) rfl rfl rfl dX11_part_76 (fun dy => ?_)
      exact fin_I hf hr _ _ _ dX11_part_79
    · rw [if_neg hc5] at hf
      refine r_iload_n hX dX11_part_32 3 rfl ?_
      refine r_iload hX dX11_part_33 4 rfl ?_
      refine r_ishr hX dX11_part_35 ?_
      refine r_iconst hX (1 : Int32) dX11_part_36 rfl ?_
      refine r_iand hX dX11_part_37 ?_
      refine r_if_ne hX 56 dX11_part_38 rfl (fun hc11 => ?_) (fun hc11 => ?_)
      · rw [if_neg hc11] at hf
        refine r_iinc hX (x4 + (1 : Int32)) dX11_part_56 4 rfl rfl rfl (ls' := [(4, .int (x4 + (1 : Int32))), (0, .ref (gA (xG X) 0)), (1, .int x1), (2, .int x2), (3, .int x3)]) rfl ?_
        refine r_goto hX 20 dX11_part_59 rfl ?_
        refine r_weak [1, 2, 3, 4, 0] rfl ?_
        exact ih _ _ _ _ _ _ hf
      · rw [if_pos hc11] at hf
        refine r_iinc hX (x2 + (1 : Int32)) dX11_part_41 2 rfl rfl rfl (ls' := [(2, .int (x2 + (1 : Int32))), (0, .ref (gA (xG X) 0)), (1, .int x1), (3, .int x3), (4, .int x4)]) rfl ?_
        refine r_iload_n hX dX11_part_44 3 rfl ?_
        refine r_aload_n hX dX11_part_45 1 rfl ?_
        refine r_get hX fl_X11_23 (w_0 _ _ _) rfl dX11_part_46 ?_
        refine r_iload hX dX11_part_49 4 rfl ?_
        obtain ⟨v14, μ12, h13, hf⟩ := bd2_eq hf
        refine r_callVI (Ok.le hX (by omega)) (c_st_partOf (d := d)  h13) cv_X11_241 (w_4 _ _ _) rfl rfl (st := [.int x3]) rfl rfl rfl dX11_part_51 (fun dy => ?_)
        refine r_ior hX dX11_part_54 ?_
        refine r_istore_n hX dX11_part_55 rfl (ls' := [(3, .int (x3 ||| v14)), (2, .int (x2 + (1 : Int32))), (0, .ref (gA (xG X) 0)), (1, .int x1), (4, .int x4)]) rfl ?_
        refine r_iinc hX (x4 + (1 : Int32)) dX11_part_56 4 rfl rfl rfl (ls' := [(4, .int (x4 + (1 : Int32))), (3, .int (x3 ||| v14)), (2, .int (x2 + (1 : Int32))), (0, .ref (gA (xG X) 0)), (1, .int x1)]) rfl ?_
        refine r_goto hX 20 dX11_part_59 rfl ?_
        refine r_weak [3, 4, 2, 1, 0] rfl ?_
        exact ih _ _ _ _ _ _ hf
set_option maxHeartbeats 4000000 in
set_option maxRecDepth 20000 in
theorem c_x_part {G : Gx} {d : Nat} {x1 : Int32} {μ : Mem} {r : Int32 × Mem} (hf : f_x_part x1 μ = some r) : Con G M_x_part (d + 3) [.ref (gA G 0), .int x1] μ (some (.int r.1), r.2) := by
  refine Con.ofI ⟨rfl, rfl, Nat.le_of_ble_eq_true rfl⟩ rfl rfl (fun X hG hX hr dy => ?_)
  subst hG
  show AW X 0 [(0, .ref (gA (xG X) 0)), (1, .int x1)] [] μ dy
  unfold f_x_part at hf
  refine r_aload_n hX dX11_part_0 0 rfl ?_
  refine r_get hX fl_X11_23 (w_0 _ _ _) rfl dX11_part_1 ?_
  refine r_iload_n hX dX11_part_4 1 rfl ?_
  obtain ⟨v3, μ1, h2, hf⟩ := bd2_eq hf
  refine r_callVI (Ok.le hX (by omega)) (c_st_has (d := d)  h2) cv_X11_116 (w_4 _ _ _) rfl rfl (st := []) rfl rfl rfl dX11_part_5 (fun dy => ?_)
  refine r_if_ne hX 13 dX11_part_8 rfl (fun hc4 => ?_) (fun hc4 => ?_)
  · rw [if_neg hc4] at hf
    refine r_iconst hX (0 : Int32) dX11_part_13 rfl ?_
    refine r_istore_n hX dX11_part_14 rfl (ls' := [(2, .int (0 : Int32)), (0, .ref (gA (xG X) 0)), (1, .int x1)]) rfl ?_
    refine r_iconst hX (0 : Int32) dX11_part_15 rfl ?_
    refine r_istore_n hX dX11_part_16 rfl (ls' := [(3, .int (0 : Int32)), (2, .int (0 : Int32)), (0, .ref (gA (xG X) 0)), (1, .int x1)]) rfl ?_
    refine r_iconst hX (0 : Int32) dX11_part_17 rfl ?_
    refine r_istore hX dX11_part_18 rfl (ls' := [(4, .int (0 : Int32)), (3, .int (0 : Int32)), (2, .int (0 : Int32)), (0, .ref (gA (xG X) 0)), (1, .int x1)]) rfl ?_
    refine r_weak [3, 4, 2, 1, 0] rfl ?_
    exact b_x_part_b20 hX hr FU _ _ _ _ _ _ hf
  · rw [if_pos hc4] at hf
    refine r_iconst hX (-1 : Int32) dX11_part_11 rfl ?_
    exact fin_I hf hr _ _ _ dX11_part_12
theorem dX11_ahead_0 : decode cX11_ahead 0 = .ok (.iload_n 1, 1) := by decide +kernel
theorem dX11_ahead_1 : decode cX11_ahead 1 = .ok (.iconst 1, 1) := by decide +kernel
theorem dX11_ahead_2 : decode cX11_ahead 2 = .ok (.if_icmp .lt 8, 3) := by decide +kernel
theorem dX11_ahead_5 : decode cX11_ahead 5 = .ok (.iload_n 1, 1) := by decide +kernel
theorem dX11_ahead_6 : decode cX11_ahead 6 = .ok (.iconst 3, 1) := by decide +kernel
theorem dX11_ahead_7 : decode cX11_ahead 7 = .ok (.if_icmp .le 7, 3) := by decide +kernel
theorem dX11_ahead_10 : decode cX11_ahead 10 = .ok (.iconst (-1), 1) := by decide +kernel
theorem dX11_ahead_11 : decode cX11_ahead 11 = .ok (.goto 11, 3) := by decide +kernel
theorem dX11_ahead_14 : decode cX11_ahead 14 = .ok (.aload_n 0, 1) := by decide +kernel
theorem dX11_ahead_15 : decode cX11_ahead 15 = .ok (.getfield 79, 3) := by decide +kernel
theorem dX11_ahead_18 : decode cX11_ahead 18 = .ok (.iload_n 1, 1) := by decide +kernel
theorem dX11_ahead_19 : decode cX11_ahead 19 = .ok (.invokevirtual 244, 3) := by decide +kernel
theorem dX11_ahead_22 : decode cX11_ahead 22 = .ok (.ireturn, 1) := by decide +kernel
set_option maxHeartbeats 4000000 in
set_option maxRecDepth 20000 in
theorem b_x_ahead_b10 {X : Cx} {d : Nat} (hX : Ok M_x_ahead (d + 5) X) {r : Int32 × Mem} (hr : RetI M_x_ahead X r.1 r.2)  (μ : Mem) (dy : Nat → Nat) (hf : f_x_ahead_b10  μ = some r) : AW X 10 [] [] μ dy := by
  unfold f_x_ahead_b10 at hf
  refine r_iconst hX (-1 : Int32) dX11_ahead_10 rfl ?_
  refine r_goto hX 22 dX11_ahead_11 rfl ?_
  exact fin_I hf hr _ _ _ dX11_ahead_22
set_option maxHeartbeats 4000000 in
set_option maxRecDepth 20000 in
theorem c_x_ahead {G : Gx} {d : Nat} {x1 : Int32} {μ : Mem} {r : Int32 × Mem} (hf : f_x_ahead x1 μ = some r) : Con G M_x_ahead (d + 5) [.ref (gA G 0), .int x1] μ (some (.int r.1), r.2) := by
  refine Con.ofI ⟨rfl, rfl, Nat.le_of_ble_eq_true rfl⟩ rfl rfl (fun X hG hX hr dy => ?_)
  subst hG
  show AW X 0 [(0, .ref (gA (xG X) 0)), (1, .int x1)] [] μ dy
  unfold f_x_ahead at hf
  refine r_iload_n hX dX11_ahead_0 1 rfl ?_
  refine r_iconst hX (1 : Int32) dX11_ahead_1 rfl ?_
  refine r_icmp_lt hX 10 dX11_ahead_2 rfl (fun hc1 => ?_) (fun hc1 => ?_)
  · rw [if_pos hc1] at hf
    refine r_weak [] rfl ?_
    exact b_x_ahead_b10 hX hr _ _ hf
  · rw [if_neg hc1] at hf
    refine r_iload_n hX dX11_ahead_5 1 rfl ?_
    refine r_iconst hX (3 : Int32) dX11_ahead_6 rfl ?_
    refine r_icmp_le hX 14 dX11_ahead_7 rfl (fun hc2 => ?_) (fun hc2 => ?_)
    · rw [if_pos hc2] at hf
      refine r_aload_n hX dX11_ahead_14 0 rfl ?_
      refine r_get hX fl_X11_79 (w_0 _ _ _) rfl dX11_ahead_15 ?_
      refine r_iload_n hX dX11_ahead_18 1 rfl ?_
      obtain ⟨v5, μ3, h4, hf⟩ := bd2_eq hf
      refine r_callVI (Ok.le hX (by omega)) (c_ob_leadHere (d := d)  h4) cv_X11_244 (w_91 _ _ _) rfl rfl (st := []) rfl rfl rfl dX11_ahead_19 (fun dy => ?_)
      exact fin_I hf hr _ _ _ dX11_ahead_22
    · rw [if_neg hc2] at hf
      refine r_weak [] rfl ?_
      exact b_x_ahead_b10 hX hr _ _ hf
theorem dX11_twins_0 : decode cX11_twins 0 = .ok (.aload_n 0, 1) := by decide +kernel
theorem dX11_twins_1 : decode cX11_twins 1 = .ok (.getfield 23, 3) := by decide +kernel
theorem dX11_twins_4 : decode cX11_twins 4 = .ok (.iload_n 1, 1) := by decide +kernel
theorem dX11_twins_5 : decode cX11_twins 5 = .ok (.invokevirtual 183, 3) := by decide +kernel
theorem dX11_twins_8 : decode cX11_twins 8 = .ok (.ifCond .eq 14, 3) := by decide +kernel
theorem dX11_twins_11 : decode cX11_twins 11 = .ok (.aload_n 0, 1) := by decide +kernel
theorem dX11_twins_12 : decode cX11_twins 12 = .ok (.getfield 79, 3) := by decide +kernel
theorem dX11_twins_15 : decode cX11_twins 15 = .ok (.iload_n 1, 1) := by decide +kernel
theorem dX11_twins_16 : decode cX11_twins 16 = .ok (.invokevirtual 247, 3) := by decide +kernel
theorem dX11_twins_19 : decode cX11_twins 19 = .ok (.goto 4, 3) := by decide +kernel
theorem dX11_twins_22 : decode cX11_twins 22 = .ok (.iconst (-1), 1) := by decide +kernel
theorem dX11_twins_23 : decode cX11_twins 23 = .ok (.ireturn, 1) := by decide +kernel
set_option maxHeartbeats 4000000 in
set_option maxRecDepth 20000 in
theorem c_x_twins {G : Gx} {d : Nat} {x1 : Int32} {μ : Mem} {r : Int32 × Mem} (hf : f_x_twins x1 μ = some r) : Con G M_x_twins (d + 4) [.ref (gA G 0), .int x1] μ (some (.int r.1), r.2) := by
  refine Con.ofI ⟨rfl, rfl, Nat.le_of_ble_eq_true rfl⟩ rfl rfl (fun X hG hX hr dy => ?_)
  subst hG
  show AW X 0 [(0, .ref (gA (xG X) 0)), (1, .int x1)] [] μ dy
  unfold f_x_twins at hf
  refine r_aload_n hX dX11_twins_0 0 rfl ?_
  refine r_get hX fl_X11_23 (w_0 _ _ _) rfl dX11_twins_1 ?_
  refine r_iload_n hX dX11_twins_4 1 rfl ?_
  obtain ⟨v3, μ1, h2, hf⟩ := bd2_eq hf
  refine r_callVI (Ok.le hX (by omega)) (c_st_hasAll (d := d)  h2) cv_X11_183 (w_4 _ _ _) rfl rfl (st := []) rfl rfl rfl dX11_twins_5 (fun dy => ?_)
  refine r_if_eq hX 22 dX11_twins_8 rfl (fun hc4 => ?_) (fun hc4 => ?_)
  · rw [if_pos hc4] at hf
    refine r_iconst hX (-1 : Int32) dX11_twins_22 rfl ?_
    exact fin_I hf hr _ _ _ dX11_twins_23
  · rw [if_neg hc4] at hf
    refine r_aload_n hX dX11_twins_11 0 rfl ?_
    refine r_get hX fl_X11_79 (w_0 _ _ _) rfl dX11_twins_12 ?_
    refine r_iload_n hX dX11_twins_15 1 rfl ?_
    obtain ⟨v7, μ5, h6, hf⟩ := bd2_eq hf
    refine r_callVI (Ok.le hX (by omega)) (c_ob_meetWith (d := d)  h6) cv_X11_247 (w_91 _ _ _) rfl rfl (st := []) rfl rfl rfl dX11_twins_16 (fun dy => ?_)
    refine r_goto hX 23 dX11_twins_19 rfl ?_
    exact fin_I hf hr _ _ _ dX11_twins_23
theorem dX11_first_0 : decode cX11_first 0 = .ok (.aload_n 0, 1) := by decide +kernel
theorem dX11_first_1 : decode cX11_first 1 = .ok (.getfield 79, 3) := by decide +kernel
theorem dX11_first_4 : decode cX11_first 4 = .ok (.invokevirtual 250, 3) := by decide +kernel
theorem dX11_first_7 : decode cX11_first 7 = .ok (.ireturn, 1) := by decide +kernel
set_option maxHeartbeats 4000000 in
set_option maxRecDepth 20000 in
theorem c_x_first {G : Gx} {d : Nat}  {μ : Mem} {r : Int32 × Mem} (hf : f_x_first  μ = some r) : Con G M_x_first (d + 4) [.ref (gA G 0)] μ (some (.int r.1), r.2) := by
  refine Con.ofI ⟨rfl, rfl, Nat.le_of_ble_eq_true rfl⟩ rfl rfl (fun X hG hX hr dy => ?_)
  subst hG
  show AW X 0 [(0, .ref (gA (xG X) 0))] [] μ dy
  unfold f_x_first at hf
  refine r_aload_n hX dX11_first_0 0 rfl ?_
  refine r_get hX fl_X11_79 (w_0 _ _ _) rfl dX11_first_1 ?_
  obtain ⟨v3, μ1, h2, hf⟩ := bd2_eq hf
  refine r_callVI (Ok.le hX (by omega)) (c_ob_withoutPast (d := d)  h2) cv_X11_250 (w_91 _ _ _) rfl rfl (st := []) rfl rfl rfl dX11_first_4 (fun dy => ?_)
  exact fin_I hf hr _ _ _ dX11_first_7
theorem dX11_last_0 : decode cX11_last 0 = .ok (.aload_n 0, 1) := by decide +kernel
theorem dX11_last_1 : decode cX11_last 1 = .ok (.getfield 79, 3) := by decide +kernel
theorem dX11_last_4 : decode cX11_last 4 = .ok (.invokevirtual 253, 3) := by decide +kernel
theorem dX11_last_7 : decode cX11_last 7 = .ok (.ireturn, 1) := by decide +kernel
set_option maxHeartbeats 4000000 in
set_option maxRecDepth 20000 in
theorem c_x_last {G : Gx} {d : Nat}  {μ : Mem} {r : Int32 × Mem} (hf : f_x_last  μ = some r) : Con G M_x_last (d + 5) [.ref (gA G 0)] μ (some (.int r.1), r.2) := by
  refine Con.ofI ⟨rfl, rfl, Nat.le_of_ble_eq_true rfl⟩ rfl rfl (fun X hG hX hr dy => ?_)
  subst hG
  show AW X 0 [(0, .ref (gA (xG X) 0))] [] μ dy
  unfold f_x_last at hf
  refine r_aload_n hX dX11_last_0 0 rfl ?_
  refine r_get hX fl_X11_79 (w_0 _ _ _) rfl dX11_last_1 ?_
  obtain ⟨v3, μ1, h2, hf⟩ := bd2_eq hf
  refine r_callVI (Ok.le hX (by omega)) (c_ob_comeAgain (d := d)  h2) cv_X11_253 (w_91 _ _ _) rfl rfl (st := []) rfl rfl rfl dX11_last_4 (fun dy => ?_)
  exact fin_I hf hr _ _ _ dX11_last_7
theorem dX11_fates_0 : decode cX11_fates 0 = .ok (.aload_n 0, 1) := by decide +kernel
theorem dX11_fates_1 : decode cX11_fates 1 = .ok (.getfield 79, 3) := by decide +kernel
theorem dX11_fates_4 : decode cX11_fates 4 = .ok (.aload_n 0, 1) := by decide +kernel
theorem dX11_fates_5 : decode cX11_fates 5 = .ok (.getfield 23, 3) := by decide +kernel
theorem dX11_fates_8 : decode cX11_fates 8 = .ok (.invokevirtual 256, 3) := by decide +kernel
theorem dX11_fates_11 : decode cX11_fates 11 = .ok (.invokevirtual 259, 3) := by decide +kernel
theorem dX11_fates_14 : decode cX11_fates 14 = .ok (.istore_n 1, 1) := by decide +kernel
theorem dX11_fates_15 : decode cX11_fates 15 = .ok (.aload_n 0, 1) := by decide +kernel
theorem dX11_fates_16 : decode cX11_fates 16 = .ok (.getfield 16, 3) := by decide +kernel
theorem dX11_fates_19 : decode cX11_fates 19 = .ok (.aload_n 0, 1) := by decide +kernel
theorem dX11_fates_20 : decode cX11_fates 20 = .ok (.getfield 79, 3) := by decide +kernel
theorem dX11_fates_23 : decode cX11_fates 23 = .ok (.iconst 0, 1) := by decide +kernel
theorem dX11_fates_24 : decode cX11_fates 24 = .ok (.invokevirtual 259, 3) := by decide +kernel
theorem dX11_fates_27 : decode cX11_fates 27 = .ok (.i2l, 1) := by decide +kernel
theorem dX11_fates_28 : decode cX11_fates 28 = .ok (.invokevirtual 198, 3) := by decide +kernel
theorem dX11_fates_31 : decode cX11_fates 31 = .ok (.iload_n 1, 1) := by decide +kernel
theorem dX11_fates_32 : decode cX11_fates 32 = .ok (.ireturn, 1) := by decide +kernel
set_option maxHeartbeats 4000000 in
set_option maxRecDepth 20000 in
theorem c_x_fates {G : Gx} {d : Nat}  {μ : Mem} {r : Int32 × Mem} (hf : f_x_fates  μ = some r) : Con G M_x_fates (d + 5) [.ref (gA G 0)] μ (some (.int r.1), r.2) := by
  refine Con.ofI ⟨rfl, rfl, Nat.le_of_ble_eq_true rfl⟩ rfl rfl (fun X hG hX hr dy => ?_)
  subst hG
  show AW X 0 [(0, .ref (gA (xG X) 0))] [] μ dy
  unfold f_x_fates at hf
  refine r_aload_n hX dX11_fates_0 0 rfl ?_
  refine r_get hX fl_X11_79 (w_0 _ _ _) rfl dX11_fates_1 ?_
  refine r_aload_n hX dX11_fates_4 0 rfl ?_
  refine r_get hX fl_X11_23 (w_0 _ _ _) rfl dX11_fates_5 ?_
  obtain ⟨v3, μ1, h2, hf⟩ := bd2_eq hf
  refine r_callVI (Ok.le hX (by omega)) (c_st_everybody (d := d)  h2) cv_X11_256 (w_4 _ _ _) rfl rfl (st := [.ref (gA (xG X) 91)]) rfl rfl rfl dX11_fates_8 (fun dy => ?_)
  obtain ⟨v6, μ4, h5, hf⟩ := bd2_eq hf
  refine r_callVI (Ok.le hX (by omega)) (c_ob_leadTo (d := d)  h5) cv_X11_259 (w_91 _ _ _) rfl rfl (st := []) rfl rfl rfl dX11_fates_11 (fun dy => ?_)
  refine r_istore_n hX dX11_fates_14 rfl (ls' := [(1, .int v6), (0, .ref (gA (xG X) 0))]) rfl ?_
  refine r_aload_n hX dX11_fates_15 1 rfl ?_
  refine r_get hX fl_X11_16 (w_0 _ _ _) rfl dX11_fates_16 ?_
  refine r_aload_n hX dX11_fates_19 1 rfl ?_
  refine r_get hX fl_X11_79 (w_0 _ _ _) rfl dX11_fates_20 ?_
  refine r_iconst hX (0 : Int32) dX11_fates_23 rfl ?_
  obtain ⟨v9, μ7, h8, hf⟩ := bd2_eq hf
  refine r_callVI (Ok.le hX (by omega)) (c_ob_leadTo (d := d)  h8) cv_X11_259 (w_91 _ _ _) rfl rfl (st := [.ref (gA (xG X) 2)]) rfl rfl rfl dX11_fates_24 (fun dy => ?_)
  refine r_i2l hX dX11_fates_27 ?_
  obtain ⟨μ10, h11, hf⟩ := bd1_eq hf
  refine r_callVV (Ok.le hX (by omega)) (c_rw_only (d := d)  h11) cv_X11_198 (w_2 _ _ _) rfl rfl (st := []) rfl rfl rfl dX11_fates_28 (fun dy => ?_)
  refine r_iload_n hX dX11_fates_31 0 rfl ?_
  exact fin_I hf hr _ _ _ dX11_fates_32
theorem dX11_fewest_0 : decode cX11_fewest 0 = .ok (.aload_n 0, 1) := by decide +kernel
theorem dX11_fewest_1 : decode cX11_fewest 1 = .ok (.getfield 23, 3) := by decide +kernel
theorem dX11_fewest_4 : decode cX11_fewest 4 = .ok (.iload_n 1, 1) := by decide +kernel
theorem dX11_fewest_5 : decode cX11_fewest 5 = .ok (.invokevirtual 183, 3) := by decide +kernel
theorem dX11_fewest_8 : decode cX11_fewest 8 = .ok (.ifCond .eq 23, 3) := by decide +kernel
theorem dX11_fewest_11 : decode cX11_fewest 11 = .ok (.iload_n 2, 1) := by decide +kernel
theorem dX11_fewest_12 : decode cX11_fewest 12 = .ok (.invokestatic 231, 3) := by decide +kernel
theorem dX11_fewest_15 : decode cX11_fewest 15 = .ok (.ifCond .eq 16, 3) := by decide +kernel
theorem dX11_fewest_18 : decode cX11_fewest 18 = .ok (.aload_n 0, 1) := by decide +kernel
theorem dX11_fewest_19 : decode cX11_fewest 19 = .ok (.getfield 86, 3) := by decide +kernel
theorem dX11_fewest_22 : decode cX11_fewest 22 = .ok (.iload_n 1, 1) := by decide +kernel
theorem dX11_fewest_23 : decode cX11_fewest 23 = .ok (.iload_n 2, 1) := by decide +kernel
theorem dX11_fewest_24 : decode cX11_fewest 24 = .ok (.iconst 0, 1) := by decide +kernel
theorem dX11_fewest_25 : decode cX11_fewest 25 = .ok (.invokevirtual 262, 3) := by decide +kernel
theorem dX11_fewest_28 : decode cX11_fewest 28 = .ok (.goto 4, 3) := by decide +kernel
theorem dX11_fewest_31 : decode cX11_fewest 31 = .ok (.iconst (-1), 1) := by decide +kernel
theorem dX11_fewest_32 : decode cX11_fewest 32 = .ok (.ireturn, 1) := by decide +kernel
set_option maxHeartbeats 4000000 in
set_option maxRecDepth 20000 in
theorem c_x_fewest {G : Gx} {d : Nat} {x1 : Int32} {x2 : Int32} {μ : Mem} {r : Int32 × Mem} (hf : f_x_fewest x1 x2 μ = some r) : Con G M_x_fewest (d + 5) [.ref (gA G 0), .int x1, .int x2] μ (some (.int r.1), r.2) := by
  refine Con.ofI ⟨rfl, rfl, Nat.le_of_ble_eq_true rfl⟩ rfl rfl (fun X hG hX hr dy => ?_)
  subst hG
  show AW X 0 [(0, .ref (gA (xG X) 0)), (1, .int x1), (2, .int x2)] [] μ dy
  unfold f_x_fewest at hf
  refine r_aload_n hX dX11_fewest_0 0 rfl ?_
  refine r_get hX fl_X11_23 (w_0 _ _ _) rfl dX11_fewest_1 ?_
  refine r_iload_n hX dX11_fewest_4 1 rfl ?_
  obtain ⟨v3, μ1, h2, hf⟩ := bd2_eq hf
  refine r_callVI (Ok.le hX (by omega)) (c_st_hasAll (d := d)  h2) cv_X11_183 (w_4 _ _ _) rfl rfl (st := []) rfl rfl rfl dX11_fewest_5 (fun dy => ?_)
  refine r_if_eq hX 31 dX11_fewest_8 rfl (fun hc4 => ?_) (fun hc4 => ?_)
  · rw [if_pos hc4] at hf
    refine r_iconst hX (-1 : Int32) dX11_fewest_31 rfl ?_
    exact fin_I hf hr _ _ _ dX11_fewest_32
  · rw [if_neg hc4] at hf
    refine r_iload_n hX dX11_fewest_11 2 rfl ?_
    obtain ⟨v7, μ5, h6, hf⟩ := bd2_eq hf
    refine r_callSI (Ok.le hX (by omega)) (c_x_isTalkDay (d := d)  h6) cs_X11_231 (st := []) rfl rfl rfl dX11_fewest_12 (fun dy => ?_)
    refine r_if_eq hX 31 dX11_fewest_15 rfl (fun hc8 => ?_) (fun hc8 => ?_)
    · rw [if_pos hc8] at hf
      refine r_iconst hX (-1 : Int32) dX11_fewest_31 rfl ?_
      exact fin_I hf hr _ _ _ dX11_fewest_32
    · rw [if_neg hc8] at hf
      refine r_aload_n hX dX11_fewest_18 0 rfl ?_
      refine r_get hX fl_X11_86 (w_0 _ _ _) rfl dX11_fewest_19 ?_
      refine r_iload_n hX dX11_fewest_22 1 rfl ?_
      refine r_iload_n hX dX11_fewest_23 2 rfl ?_
      refine r_iconst hX (0 : Int32) dX11_fewest_24 rfl ?_
      obtain ⟨v11, μ9, h10, hf⟩ := bd2_eq hf
      refine r_callVI (Ok.le hX (by omega)) (c_ta_atOnce (d := d)  h10) cv_X11_262 (w_92 _ _ _) rfl rfl (st := []) rfl rfl rfl dX11_fewest_25 (fun dy => ?_)
      refine r_goto hX 32 dX11_fewest_28 rfl ?_
      exact fin_I hf hr _ _ _ dX11_fewest_32
theorem dX11_cheapest_0 : decode cX11_cheapest 0 = .ok (.aload_n 0, 1) := by decide +kernel
theorem dX11_cheapest_1 : decode cX11_cheapest 1 = .ok (.getfield 23, 3) := by decide +kernel
theorem dX11_cheapest_4 : decode cX11_cheapest 4 = .ok (.iload_n 1, 1) := by decide +kernel
theorem dX11_cheapest_5 : decode cX11_cheapest 5 = .ok (.invokevirtual 183, 3) := by decide +kernel
theorem dX11_cheapest_8 : decode cX11_cheapest 8 = .ok (.ifCond .eq 23, 3) := by decide +kernel
theorem dX11_cheapest_11 : decode cX11_cheapest 11 = .ok (.iload_n 2, 1) := by decide +kernel
theorem dX11_cheapest_12 : decode cX11_cheapest 12 = .ok (.invokestatic 231, 3) := by decide +kernel
theorem dX11_cheapest_15 : decode cX11_cheapest 15 = .ok (.ifCond .eq 16, 3) := by decide +kernel
theorem dX11_cheapest_18 : decode cX11_cheapest 18 = .ok (.aload_n 0, 1) := by decide +kernel
theorem dX11_cheapest_19 : decode cX11_cheapest 19 = .ok (.getfield 86, 3) := by decide +kernel
theorem dX11_cheapest_22 : decode cX11_cheapest 22 = .ok (.iload_n 1, 1) := by decide +kernel
theorem dX11_cheapest_23 : decode cX11_cheapest 23 = .ok (.iload_n 2, 1) := by decide +kernel
theorem dX11_cheapest_24 : decode cX11_cheapest 24 = .ok (.iconst 1, 1) := by decide +kernel
theorem dX11_cheapest_25 : decode cX11_cheapest 25 = .ok (.invokevirtual 262, 3) := by decide +kernel
theorem dX11_cheapest_28 : decode cX11_cheapest 28 = .ok (.goto 4, 3) := by decide +kernel
theorem dX11_cheapest_31 : decode cX11_cheapest 31 = .ok (.iconst (-1), 1) := by decide +kernel
theorem dX11_cheapest_32 : decode cX11_cheapest 32 = .ok (.ireturn, 1) := by decide +kernel
set_option maxHeartbeats 4000000 in
set_option maxRecDepth 20000 in
theorem c_x_cheapest {G : Gx} {d : Nat} {x1 : Int32} {x2 : Int32} {μ : Mem} {r : Int32 × Mem} (hf : f_x_cheapest x1 x2 μ = some r) : Con G M_x_cheapest (d + 5) [.ref (gA G 0), .int x1, .int x2] μ (some (.int r.1), r.2) := by
  refine Con.ofI ⟨rfl, rfl, Nat.le_of_ble_eq_true rfl⟩ rfl rfl (fun X hG hX hr dy => ?_)
  subst hG
  show AW X 0 [(0, .ref (gA (xG X) 0)), (1, .int x1), (2, .int x2)] [] μ dy
  unfold f_x_cheapest at hf
  refine r_aload_n hX dX11_cheapest_0 0 rfl ?_
  refine r_get hX fl_X11_23 (w_0 _ _ _) rfl dX11_cheapest_1 ?_
  refine r_iload_n hX dX11_cheapest_4 1 rfl ?_
  obtain ⟨v3, μ1, h2, hf⟩ := bd2_eq hf
  refine r_callVI (Ok.le hX (by omega)) (c_st_hasAll (d := d)  h2) cv_X11_183 (w_4 _ _ _) rfl rfl (st := []) rfl rfl rfl dX11_cheapest_5 (fun dy => ?_)
  refine r_if_eq hX 31 dX11_cheapest_8 rfl (fun hc4 => ?_) (fun hc4 => ?_)
  · rw [if_pos hc4] at hf
    refine r_iconst hX (-1 : Int32) dX11_cheapest_31 rfl ?_
    exact fin_I hf hr _ _ _ dX11_cheapest_32
  · rw [if_neg hc4] at hf
    refine r_iload_n hX dX11_cheapest_11 2 rfl ?_
    obtain ⟨v7, μ5, h6, hf⟩ := bd2_eq hf
    refine r_callSI (Ok.le hX (by omega)) (c_x_isTalkDay (d := d)  h6) cs_X11_231 (st := []) rfl rfl rfl dX11_cheapest_12 (fun dy => ?_)
    refine r_if_eq hX 31 dX11_cheapest_15 rfl (fun hc8 => ?_) (fun hc8 => ?_)
    · rw [if_pos hc8] at hf
      refine r_iconst hX (-1 : Int32) dX11_cheapest_31 rfl ?_
      exact fin_I hf hr _ _ _ dX11_cheapest_32
    · rw [if_neg hc8] at hf
      refine r_aload_n hX dX11_cheapest_18 0 rfl ?_
      refine r_get hX fl_X11_86 (w_0 _ _ _) rfl dX11_cheapest_19 ?_
      refine r_iload_n hX dX11_cheapest_22 1 rfl ?_
      refine r_iload_n hX dX11_cheapest_23 2 rfl ?_
      refine r_iconst hX (1 : Int32) dX11_cheapest_24 rfl ?_
      obtain ⟨v11, μ9, h10, hf⟩ := bd2_eq hf
      refine r_callVI (Ok.le hX (by omega)) (c_ta_atOnce (d := d)  h10) cv_X11_262 (w_92 _ _ _) rfl rfl (st := []) rfl rfl rfl dX11_cheapest_25 (fun dy => ?_)
      refine r_goto hX 32 dX11_cheapest_28 rfl ?_
      exact fin_I hf hr _ _ _ dX11_cheapest_32
theorem dX11_isDaily_0 : decode cX11_isDaily 0 = .ok (.aload_n 0, 1) := by decide +kernel
theorem dX11_isDaily_1 : decode cX11_isDaily 1 = .ok (.getfield 23, 3) := by decide +kernel
theorem dX11_isDaily_4 : decode cX11_isDaily 4 = .ok (.iload_n 1, 1) := by decide +kernel
theorem dX11_isDaily_5 : decode cX11_isDaily 5 = .ok (.invokevirtual 183, 3) := by decide +kernel
theorem dX11_isDaily_8 : decode cX11_isDaily 8 = .ok (.ifCond .eq 17, 3) := by decide +kernel
theorem dX11_isDaily_11 : decode cX11_isDaily 11 = .ok (.iload_n 2, 1) := by decide +kernel
theorem dX11_isDaily_12 : decode cX11_isDaily 12 = .ok (.ifCond .lt 13, 3) := by decide +kernel
theorem dX11_isDaily_15 : decode cX11_isDaily 15 = .ok (.iload_n 2, 1) := by decide +kernel
theorem dX11_isDaily_16 : decode cX11_isDaily 16 = .ok (.bipush 6, 2) := by decide +kernel
theorem dX11_isDaily_18 : decode cX11_isDaily 18 = .ok (.if_icmp .gt 7, 3) := by decide +kernel
theorem dX11_isDaily_21 : decode cX11_isDaily 21 = .ok (.iconst 1, 1) := by decide +kernel
theorem dX11_isDaily_22 : decode cX11_isDaily 22 = .ok (.goto 4, 3) := by decide +kernel
theorem dX11_isDaily_25 : decode cX11_isDaily 25 = .ok (.iconst 0, 1) := by decide +kernel
theorem dX11_isDaily_26 : decode cX11_isDaily 26 = .ok (.ireturn, 1) := by decide +kernel
set_option maxHeartbeats 4000000 in
set_option maxRecDepth 20000 in
theorem c_x_isDaily {G : Gx} {d : Nat} {x1 : Int32} {x2 : Int32} {μ : Mem} {r : Int32 × Mem} (hf : f_x_isDaily x1 x2 μ = some r) : Con G M_x_isDaily (d + 2) [.ref (gA G 0), .int x1, .int x2] μ (some (.int r.1), r.2) := by
  refine Con.ofZ ⟨rfl, rfl, Nat.le_of_ble_eq_true rfl⟩ rfl (fun X hG hX hr dy => ?_)
  subst hG
  show AW X 0 [(0, .ref (gA (xG X) 0)), (1, .int x1), (2, .int x2)] [] μ dy
  unfold f_x_isDaily at hf
  refine r_aload_n hX dX11_isDaily_0 0 rfl ?_
  refine r_get hX fl_X11_23 (w_0 _ _ _) rfl dX11_isDaily_1 ?_
  refine r_iload_n hX dX11_isDaily_4 1 rfl ?_
  obtain ⟨v3, μ1, h2, hf⟩ := bd2_eq hf
  refine r_callVI (Ok.le hX (by omega)) (c_st_hasAll (d := d)  h2) cv_X11_183 (w_4 _ _ _) rfl rfl (st := []) rfl rfl rfl dX11_isDaily_5 (fun dy => ?_)
  obtain ⟨v4, e5, hf⟩ := bnd_eq hf
  have J6 : AW X 26 [(0, .ref (gA (xG X) 0)), (1, .int x1), (2, .int x2)] [.int v4] μ1 dy := by
    obtain ⟨b7, hf⟩ := chk_eq hf
    exact fin_Z hf hr _ _ _ (zb_nar b7) dX11_isDaily_26
  refine r_if_eq hX 25 dX11_isDaily_8 rfl (fun hc8 => ?_) (fun hc8 => ?_)
  · refine r_iconst hX (0 : Int32) dX11_isDaily_25 rfl ?_
    exact r_topI (e5.trans (by rw [if_pos hc8])) J6
  · refine r_iload_n hX dX11_isDaily_11 2 rfl ?_
    refine r_if_lt hX 25 dX11_isDaily_12 rfl (fun hc9 => ?_) (fun hc9 => ?_)
    · refine r_iconst hX (0 : Int32) dX11_isDaily_25 rfl ?_
      exact r_topI (e5.trans (by rw [if_neg hc8, if_pos hc9])) J6
    · refine r_iload_n hX dX11_isDaily_15 2 rfl ?_
      refine r_bipush hX (6 : Int32) dX11_isDaily_16 rfl ?_
      refine r_icmp_gt hX 25 dX11_isDaily_18 rfl (fun hc10 => ?_) (fun hc10 => ?_)
      · refine r_iconst hX (0 : Int32) dX11_isDaily_25 rfl ?_
        exact r_topI (e5.trans (by rw [if_neg hc8, if_neg hc9, if_pos hc10])) J6
      · refine r_iconst hX (1 : Int32) dX11_isDaily_21 rfl ?_
        refine r_goto hX 26 dX11_isDaily_22 rfl ?_
        exact r_topI (e5.trans (by rw [if_neg hc8, if_neg hc9, if_neg hc10])) J6
theorem dX11_daily_0 : decode cX11_daily 0 = .ok (.aload_n 0, 1) := by decide +kernel
theorem dX11_daily_1 : decode cX11_daily 1 = .ok (.iload_n 1, 1) := by decide +kernel
theorem dX11_daily_2 : decode cX11_daily 2 = .ok (.iload_n 2, 1) := by decide +kernel
theorem dX11_daily_3 : decode cX11_daily 3 = .ok (.invokevirtual 266, 3) := by decide +kernel
theorem dX11_daily_6 : decode cX11_daily 6 = .ok (.ifCond .eq 15, 3) := by decide +kernel
theorem dX11_daily_9 : decode cX11_daily 9 = .ok (.aload_n 0, 1) := by decide +kernel
theorem dX11_daily_10 : decode cX11_daily 10 = .ok (.getfield 86, 3) := by decide +kernel
theorem dX11_daily_13 : decode cX11_daily 13 = .ok (.iload_n 1, 1) := by decide +kernel
theorem dX11_daily_14 : decode cX11_daily 14 = .ok (.iload_n 2, 1) := by decide +kernel
theorem dX11_daily_15 : decode cX11_daily 15 = .ok (.invokevirtual 269, 3) := by decide +kernel
theorem dX11_daily_18 : decode cX11_daily 18 = .ok (.goto 4, 3) := by decide +kernel
theorem dX11_daily_21 : decode cX11_daily 21 = .ok (.iconst (-1), 1) := by decide +kernel
theorem dX11_daily_22 : decode cX11_daily 22 = .ok (.ireturn, 1) := by decide +kernel
set_option maxHeartbeats 4000000 in
set_option maxRecDepth 20000 in
theorem c_x_daily {G : Gx} {d : Nat} {x1 : Int32} {x2 : Int32} {μ : Mem} {r : Int32 × Mem} (hf : f_x_daily x1 x2 μ = some r) : Con G M_x_daily (d + 28) [.ref (gA G 0), .int x1, .int x2] μ (some (.int r.1), r.2) := by
  refine Con.ofI ⟨rfl, rfl, Nat.le_of_ble_eq_true rfl⟩ rfl rfl (fun X hG hX hr dy => ?_)
  subst hG
  show AW X 0 [(0, .ref (gA (xG X) 0)), (1, .int x1), (2, .int x2)] [] μ dy
  unfold f_x_daily at hf
  refine r_aload_n hX dX11_daily_0 0 rfl ?_
  refine r_iload_n hX dX11_daily_1 1 rfl ?_
  refine r_iload_n hX dX11_daily_2 2 rfl ?_
  obtain ⟨v3, μ1, h2, hf⟩ := bd2_eq hf
  refine r_callVI (Ok.le hX (by omega)) (c_x_isDaily (d := d)  h2) cv_X11_266 (w_0 _ _ _) rfl rfl (st := []) rfl rfl rfl dX11_daily_3 (fun dy => ?_)
  refine r_if_eq hX 21 dX11_daily_6 rfl (fun hc4 => ?_) (fun hc4 => ?_)
  · rw [if_pos hc4] at hf
    refine r_iconst hX (-1 : Int32) dX11_daily_21 rfl ?_
    exact fin_I hf hr _ _ _ dX11_daily_22
  · rw [if_neg hc4] at hf
    refine r_aload_n hX dX11_daily_9 0 rfl ?_
    refine r_get hX fl_X11_86 (w_0 _ _ _) rfl dX11_daily_10 ?_
    refine r_iload_n hX dX11_daily_13 1 rfl ?_
    refine r_iload_n hX dX11_daily_14 2 rfl ?_
    obtain ⟨v7, μ5, h6, hf⟩ := bd2_eq hf
    refine r_callVI (Ok.le hX (by omega)) (c_ta_dayByDay (d := d)  h6) cv_X11_269 (w_92 _ _ _) rfl rfl (st := []) rfl rfl rfl dX11_daily_15 (fun dy => ?_)
    refine r_goto hX 22 dX11_daily_18 rfl ?_
    exact fin_I hf hr _ _ _ dX11_daily_22
theorem dX11_plan_0 : decode cX11_plan 0 = .ok (.aload_n 0, 1) := by decide +kernel
theorem dX11_plan_1 : decode cX11_plan 1 = .ok (.iload_n 1, 1) := by decide +kernel
theorem dX11_plan_2 : decode cX11_plan 2 = .ok (.iload_n 2, 1) := by decide +kernel
theorem dX11_plan_3 : decode cX11_plan 3 = .ok (.invokevirtual 266, 3) := by decide +kernel
theorem dX11_plan_6 : decode cX11_plan 6 = .ok (.ifCond .eq 15, 3) := by decide +kernel
theorem dX11_plan_9 : decode cX11_plan 9 = .ok (.aload_n 0, 1) := by decide +kernel
theorem dX11_plan_10 : decode cX11_plan 10 = .ok (.getfield 86, 3) := by decide +kernel
theorem dX11_plan_13 : decode cX11_plan 13 = .ok (.iload_n 1, 1) := by decide +kernel
theorem dX11_plan_14 : decode cX11_plan 14 = .ok (.iload_n 2, 1) := by decide +kernel
theorem dX11_plan_15 : decode cX11_plan 15 = .ok (.invokevirtual 272, 3) := by decide +kernel
theorem dX11_plan_18 : decode cX11_plan 18 = .ok (.goto 4, 3) := by decide +kernel
theorem dX11_plan_21 : decode cX11_plan 21 = .ok (.iconst (-1), 1) := by decide +kernel
theorem dX11_plan_22 : decode cX11_plan 22 = .ok (.ireturn, 1) := by decide +kernel
set_option maxHeartbeats 4000000 in
set_option maxRecDepth 20000 in
theorem c_x_plan {G : Gx} {d : Nat} {x1 : Int32} {x2 : Int32} {μ : Mem} {r : Int32 × Mem} (hf : f_x_plan x1 x2 μ = some r) : Con G M_x_plan (d + 28) [.ref (gA G 0), .int x1, .int x2] μ (some (.int r.1), r.2) := by
  refine Con.ofI ⟨rfl, rfl, Nat.le_of_ble_eq_true rfl⟩ rfl rfl (fun X hG hX hr dy => ?_)
  subst hG
  show AW X 0 [(0, .ref (gA (xG X) 0)), (1, .int x1), (2, .int x2)] [] μ dy
  unfold f_x_plan at hf
  refine r_aload_n hX dX11_plan_0 0 rfl ?_
  refine r_iload_n hX dX11_plan_1 1 rfl ?_
  refine r_iload_n hX dX11_plan_2 2 rfl ?_
  obtain ⟨v3, μ1, h2, hf⟩ := bd2_eq hf
  refine r_callVI (Ok.le hX (by omega)) (c_x_isDaily (d := d)  h2) cv_X11_266 (w_0 _ _ _) rfl rfl (st := []) rfl rfl rfl dX11_plan_3 (fun dy => ?_)
  refine r_if_eq hX 21 dX11_plan_6 rfl (fun hc4 => ?_) (fun hc4 => ?_)
  · rw [if_pos hc4] at hf
    refine r_iconst hX (-1 : Int32) dX11_plan_21 rfl ?_
    exact fin_I hf hr _ _ _ dX11_plan_22
  · rw [if_neg hc4] at hf
    refine r_aload_n hX dX11_plan_9 0 rfl ?_
    refine r_get hX fl_X11_86 (w_0 _ _ _) rfl dX11_plan_10 ?_
    refine r_iload_n hX dX11_plan_13 1 rfl ?_
    refine r_iload_n hX dX11_plan_14 2 rfl ?_
    obtain ⟨v7, μ5, h6, hf⟩ := bd2_eq hf
    refine r_callVI (Ok.le hX (by omega)) (c_ta_wholePlan (d := d)  h6) cv_X11_272 (w_92 _ _ _) rfl rfl (st := []) rfl rfl rfl dX11_plan_15 (fun dy => ?_)
    refine r_goto hX 22 dX11_plan_18 rfl ?_
    exact fin_I hf hr _ _ _ dX11_plan_22
theorem dX11_guard_0 : decode cX11_guard 0 = .ok (.aload_n 0, 1) := by decide +kernel
theorem dX11_guard_1 : decode cX11_guard 1 = .ok (.getfield 23, 3) := by decide +kernel
theorem dX11_guard_4 : decode cX11_guard 4 = .ok (.iload_n 1, 1) := by decide +kernel
theorem dX11_guard_5 : decode cX11_guard 5 = .ok (.invokevirtual 183, 3) := by decide +kernel
theorem dX11_guard_8 : decode cX11_guard 8 = .ok (.ifCond .eq 14, 3) := by decide +kernel
theorem dX11_guard_11 : decode cX11_guard 11 = .ok (.aload_n 0, 1) := by decide +kernel
theorem dX11_guard_12 : decode cX11_guard 12 = .ok (.getfield 86, 3) := by decide +kernel
theorem dX11_guard_15 : decode cX11_guard 15 = .ok (.iload_n 1, 1) := by decide +kernel
theorem dX11_guard_16 : decode cX11_guard 16 = .ok (.invokevirtual 275, 3) := by decide +kernel
theorem dX11_guard_19 : decode cX11_guard 19 = .ok (.goto 4, 3) := by decide +kernel
theorem dX11_guard_22 : decode cX11_guard 22 = .ok (.iconst (-1), 1) := by decide +kernel
theorem dX11_guard_23 : decode cX11_guard 23 = .ok (.ireturn, 1) := by decide +kernel
set_option maxHeartbeats 4000000 in
set_option maxRecDepth 20000 in
theorem c_x_guard {G : Gx} {d : Nat} {x1 : Int32} {μ : Mem} {r : Int32 × Mem} (hf : f_x_guard x1 μ = some r) : Con G M_x_guard (d + 3) [.ref (gA G 0), .int x1] μ (some (.int r.1), r.2) := by
  refine Con.ofI ⟨rfl, rfl, Nat.le_of_ble_eq_true rfl⟩ rfl rfl (fun X hG hX hr dy => ?_)
  subst hG
  show AW X 0 [(0, .ref (gA (xG X) 0)), (1, .int x1)] [] μ dy
  unfold f_x_guard at hf
  refine r_aload_n hX dX11_guard_0 0 rfl ?_
  refine r_get hX fl_X11_23 (w_0 _ _ _) rfl dX11_guard_1 ?_
  refine r_iload_n hX dX11_guard_4 1 rfl ?_
  obtain ⟨v3, μ1, h2, hf⟩ := bd2_eq hf
  refine r_callVI (Ok.le hX (by omega)) (c_st_hasAll (d := d)  h2) cv_X11_183 (w_4 _ _ _) rfl rfl (st := []) rfl rfl rfl dX11_guard_5 (fun dy => ?_)
  refine r_if_eq hX 22 dX11_guard_8 rfl (fun hc4 => ?_) (fun hc4 => ?_)
  · rw [if_pos hc4] at hf
    refine r_iconst hX (-1 : Int32) dX11_guard_22 rfl ?_
    exact fin_I hf hr _ _ _ dX11_guard_23
  · rw [if_neg hc4] at hf
    refine r_aload_n hX dX11_guard_11 0 rfl ?_
    refine r_get hX fl_X11_86 (w_0 _ _ _) rfl dX11_guard_12 ?_
    refine r_iload_n hX dX11_guard_15 1 rfl ?_
    obtain ⟨v7, μ5, h6, hf⟩ := bd2_eq hf
    refine r_callVI (Ok.le hX (by omega)) (c_ta_keepFrom (d := d)  h6) cv_X11_275 (w_92 _ _ _) rfl rfl (st := []) rfl rfl rfl dX11_guard_16 (fun dy => ?_)
    refine r_goto hX 23 dX11_guard_19 rfl ?_
    exact fin_I hf hr _ _ _ dX11_guard_23
theorem dX11_holds_0 : decode cX11_holds 0 = .ok (.aload_n 0, 1) := by decide +kernel
theorem dX11_holds_1 : decode cX11_holds 1 = .ok (.getfield 86, 3) := by decide +kernel
theorem dX11_holds_4 : decode cX11_holds 4 = .ok (.invokevirtual 278, 3) := by decide +kernel
theorem dX11_holds_7 : decode cX11_holds 7 = .ok (.istore_n 1, 1) := by decide +kernel
theorem dX11_holds_8 : decode cX11_holds 8 = .ok (.aload_n 0, 1) := by decide +kernel
theorem dX11_holds_9 : decode cX11_holds 9 = .ok (.getfield 16, 3) := by decide +kernel
theorem dX11_holds_12 : decode cX11_holds 12 = .ok (.iload_n 1, 1) := by decide +kernel
theorem dX11_holds_13 : decode cX11_holds 13 = .ok (.i2l, 1) := by decide +kernel
theorem dX11_holds_14 : decode cX11_holds 14 = .ok (.invokevirtual 198, 3) := by decide +kernel
theorem dX11_holds_17 : decode cX11_holds 17 = .ok (.iload_n 1, 1) := by decide +kernel
theorem dX11_holds_18 : decode cX11_holds 18 = .ok (.invokestatic 281, 3) := by decide +kernel
theorem dX11_holds_21 : decode cX11_holds 21 = .ok (.ireturn, 1) := by decide +kernel
set_option maxHeartbeats 4000000 in
set_option maxRecDepth 20000 in
theorem c_x_holds {G : Gx} {d : Nat}  {μ : Mem} {r : Int32 × Mem} (hf : f_x_holds  μ = some r) : Con G M_x_holds (d + 5) [.ref (gA G 0)] μ (some (.int r.1), r.2) := by
  refine Con.ofI ⟨rfl, rfl, Nat.le_of_ble_eq_true rfl⟩ rfl rfl (fun X hG hX hr dy => ?_)
  subst hG
  show AW X 0 [(0, .ref (gA (xG X) 0))] [] μ dy
  unfold f_x_holds at hf
  refine r_aload_n hX dX11_holds_0 0 rfl ?_
  refine r_get hX fl_X11_86 (w_0 _ _ _) rfl dX11_holds_1 ?_
  obtain ⟨v3, μ1, h2, hf⟩ := bd2_eq hf
  refine r_callVI (Ok.le hX (by omega)) (c_ta_greatestHolding (d := d)  h2) cv_X11_278 (w_92 _ _ _) rfl rfl (st := []) rfl rfl rfl dX11_holds_4 (fun dy => ?_)
  refine r_istore_n hX dX11_holds_7 rfl (ls' := [(1, .int v3), (0, .ref (gA (xG X) 0))]) rfl ?_
  refine r_aload_n hX dX11_holds_8 1 rfl ?_
  refine r_get hX fl_X11_16 (w_0 _ _ _) rfl dX11_holds_9 ?_
  refine r_iload_n hX dX11_holds_12 0 rfl ?_
  refine r_i2l hX dX11_holds_13 ?_
  obtain ⟨μ4, h5, hf⟩ := bd1_eq hf
  refine r_callVV (Ok.le hX (by omega)) (c_rw_only (d := d)  h5) cv_X11_198 (w_2 _ _ _) rfl rfl (st := []) rfl rfl rfl dX11_holds_14 (fun dy => ?_)
  refine r_iload_n hX dX11_holds_17 0 rfl ?_
  obtain ⟨v8, μ6, h7, hf⟩ := bd2_eq hf
  refine r_callSI (Ok.le hX (by omega)) (c_jd_bitCount (d := d)  h7) cs_X11_281 (st := []) rfl rfl rfl dX11_holds_18 (fun dy => ?_)
  exact fin_I hf hr _ _ _ dX11_holds_21
theorem dX11_shield_0 : decode cX11_shield 0 = .ok (.aload_n 0, 1) := by decide +kernel
theorem dX11_shield_1 : decode cX11_shield 1 = .ok (.getfield 23, 3) := by decide +kernel
theorem dX11_shield_4 : decode cX11_shield 4 = .ok (.iload_n 1, 1) := by decide +kernel
theorem dX11_shield_5 : decode cX11_shield 5 = .ok (.invokevirtual 116, 3) := by decide +kernel
theorem dX11_shield_8 : decode cX11_shield 8 = .ok (.ifCond .ne 5, 3) := by decide +kernel
theorem dX11_shield_11 : decode cX11_shield 11 = .ok (.iconst (-1), 1) := by decide +kernel
theorem dX11_shield_12 : decode cX11_shield 12 = .ok (.ireturn, 1) := by decide +kernel
theorem dX11_shield_13 : decode cX11_shield 13 = .ok (.aload_n 0, 1) := by decide +kernel
theorem dX11_shield_14 : decode cX11_shield 14 = .ok (.getfield 86, 3) := by decide +kernel
theorem dX11_shield_17 : decode cX11_shield 17 = .ok (.aload_n 0, 1) := by decide +kernel
theorem dX11_shield_18 : decode cX11_shield 18 = .ok (.getfield 86, 3) := by decide +kernel
theorem dX11_shield_21 : decode cX11_shield 21 = .ok (.invokevirtual 278, 3) := by decide +kernel
theorem dX11_shield_24 : decode cX11_shield 24 = .ok (.iconst 1, 1) := by decide +kernel
theorem dX11_shield_25 : decode cX11_shield 25 = .ok (.iload_n 1, 1) := by decide +kernel
theorem dX11_shield_26 : decode cX11_shield 26 = .ok (.ishl, 1) := by decide +kernel
theorem dX11_shield_27 : decode cX11_shield 27 = .ok (.invokevirtual 286, 3) := by decide +kernel
theorem dX11_shield_30 : decode cX11_shield 30 = .ok (.istore_n 2, 1) := by decide +kernel
theorem dX11_shield_31 : decode cX11_shield 31 = .ok (.iload_n 2, 1) := by decide +kernel
theorem dX11_shield_32 : decode cX11_shield 32 = .ok (.ifCond .ne 6, 3) := by decide +kernel
theorem dX11_shield_35 : decode cX11_shield 35 = .ok (.bipush (-2), 2) := by decide +kernel
theorem dX11_shield_37 : decode cX11_shield 37 = .ok (.ireturn, 1) := by decide +kernel
theorem dX11_shield_38 : decode cX11_shield 38 = .ok (.aload_n 0, 1) := by decide +kernel
theorem dX11_shield_39 : decode cX11_shield 39 = .ok (.getfield 16, 3) := by decide +kernel
theorem dX11_shield_42 : decode cX11_shield 42 = .ok (.iload_n 2, 1) := by decide +kernel
theorem dX11_shield_43 : decode cX11_shield 43 = .ok (.i2l, 1) := by decide +kernel
theorem dX11_shield_44 : decode cX11_shield 44 = .ok (.invokevirtual 198, 3) := by decide +kernel
theorem dX11_shield_47 : decode cX11_shield 47 = .ok (.iload_n 2, 1) := by decide +kernel
theorem dX11_shield_48 : decode cX11_shield 48 = .ok (.invokestatic 281, 3) := by decide +kernel
theorem dX11_shield_51 : decode cX11_shield 51 = .ok (.ireturn, 1) := by decide +kernel
set_option maxHeartbeats 4000000 in
set_option maxRecDepth 20000 in
theorem c_x_shield {G : Gx} {d : Nat} {x1 : Int32} {μ : Mem} {r : Int32 × Mem} (hf : f_x_shield x1 μ = some r) : Con G M_x_shield (d + 5) [.ref (gA G 0), .int x1] μ (some (.int r.1), r.2) := by
  refine Con.ofI ⟨rfl, rfl, Nat.le_of_ble_eq_true rfl⟩ rfl rfl (fun X hG hX hr dy => ?_)
  subst hG
  show AW X 0 [(0, .ref (gA (xG X) 0)), (1, .int x1)] [] μ dy
  unfold f_x_shield at hf
  refine r_aload_n hX dX11_shield_0 0 rfl ?_
  refine r_get hX fl_X11_23 (w_0 _ _ _) rfl dX11_shield_1 ?_
  refine r_iload_n hX dX11_shield_4 1 rfl ?_
  obtain ⟨v3, μ1, h2, hf⟩ := bd2_eq hf
  refine r_callVI (Ok.le hX (by omega)) (c_st_has (d := d)  h2) cv_X11_116 (w_4 _ _ _) rfl rfl (st := []) rfl rfl rfl dX11_shield_5 (fun dy => ?_)
  refine r_if_ne hX 13 dX11_shield_8 rfl (fun hc4 => ?_) (fun hc4 => ?_)
  · rw [if_neg hc4] at hf
    refine r_aload_n hX dX11_shield_13 0 rfl ?_
    refine r_get hX fl_X11_86 (w_0 _ _ _) rfl dX11_shield_14 ?_
    refine r_aload_n hX dX11_shield_17 0 rfl ?_
    refine r_get hX fl_X11_86 (w_0 _ _ _) rfl dX11_shield_18 ?_
    obtain ⟨v7, μ5, h6, hf⟩ := bd2_eq hf
    refine r_callVI (Ok.le hX (by omega)) (c_ta_greatestHolding (d := d)  h6) cv_X11_278 (w_92 _ _ _) rfl rfl (st := [.ref (gA (xG X) 92)]) rfl rfl rfl dX11_shield_21 (fun dy => ?_)
    refine r_iconst hX (1 : Int32) dX11_shield_24 rfl ?_
    refine r_iload_n hX dX11_shield_25 1 rfl ?_
    refine r_ishl hX dX11_shield_26 ?_
    obtain ⟨v10, μ8, h9, hf⟩ := bd2_eq hf
    refine r_callVI (Ok.le hX (by omega)) (c_ta_smallestHolding (d := d)  h9) cv_X11_286 (w_92 _ _ _) rfl rfl (st := []) rfl rfl rfl dX11_shield_27 (fun dy => ?_)
    refine r_istore_n hX dX11_shield_30 rfl (ls' := [(2, .int v10), (0, .ref (gA (xG X) 0)), (1, .int x1)]) rfl ?_
    refine r_iload_n hX dX11_shield_31 0 rfl ?_
    refine r_if_ne hX 38 dX11_shield_32 rfl (fun hc11 => ?_) (fun hc11 => ?_)
    · rw [if_neg hc11] at hf
      refine r_aload_n hX dX11_shield_38 1 rfl ?_
      refine r_get hX fl_X11_16 (w_0 _ _ _) rfl dX11_shield_39 ?_
      refine r_iload_n hX dX11_shield_42 0 rfl ?_
      refine r_i2l hX dX11_shield_43 ?_
      obtain ⟨μ12, h13, hf⟩ := bd1_eq hf
      refine r_callVV (Ok.le hX (by omega)) (c_rw_only (d := d)  h13) cv_X11_198 (w_2 _ _ _) rfl rfl (st := []) rfl rfl rfl dX11_shield_44 (fun dy => ?_)
      refine r_iload_n hX dX11_shield_47 0 rfl ?_
      obtain ⟨v16, μ14, h15, hf⟩ := bd2_eq hf
      refine r_callSI (Ok.le hX (by omega)) (c_jd_bitCount (d := d)  h15) cs_X11_281 (st := []) rfl rfl rfl dX11_shield_48 (fun dy => ?_)
      exact fin_I hf hr _ _ _ dX11_shield_51
    · rw [if_pos hc11] at hf
      refine r_bipush hX (-2 : Int32) dX11_shield_35 rfl ?_
      exact fin_I hf hr _ _ _ dX11_shield_37
  · rw [if_pos hc4] at hf
    refine r_iconst hX (-1 : Int32) dX11_shield_11 rfl ?_
    exact fin_I hf hr _ _ _ dX11_shield_12
theorem dX11_bound_0 : decode cX11_bound 0 = .ok (.aload_n 0, 1) := by decide +kernel
theorem dX11_bound_1 : decode cX11_bound 1 = .ok (.getfield 86, 3) := by decide +kernel
theorem dX11_bound_4 : decode cX11_bound 4 = .ok (.invokevirtual 289, 3) := by decide +kernel
theorem dX11_bound_7 : decode cX11_bound 7 = .ok (.ireturn, 1) := by decide +kernel
set_option maxHeartbeats 4000000 in
set_option maxRecDepth 20000 in
theorem c_x_bound {G : Gx} {d : Nat}  {μ : Mem} {r : Int32 × Mem} (hf : f_x_bound  μ = some r) : Con G M_x_bound (d + 6) [.ref (gA G 0)] μ (some (.int r.1), r.2) := by
  refine Con.ofI ⟨rfl, rfl, Nat.le_of_ble_eq_true rfl⟩ rfl rfl (fun X hG hX hr dy => ?_)
  subst hG
  show AW X 0 [(0, .ref (gA (xG X) 0))] [] μ dy
  unfold f_x_bound at hf
  refine r_aload_n hX dX11_bound_0 0 rfl ?_
  refine r_get hX fl_X11_86 (w_0 _ _ _) rfl dX11_bound_1 ?_
  obtain ⟨v3, μ1, h2, hf⟩ := bd2_eq hf
  refine r_callVI (Ok.le hX (by omega)) (c_ta_holdApart (d := d)  h2) cv_X11_289 (w_92 _ _ _) rfl rfl (st := []) rfl rfl rfl dX11_bound_4 (fun dy => ?_)
  exact fin_I hf hr _ _ _ dX11_bound_7
theorem dX11_isShop_0 : decode cX11_isShop 0 = .ok (.iload_n 0, 1) := by decide +kernel
theorem dX11_isShop_1 : decode cX11_isShop 1 = .ok (.ifCond .lt 12, 3) := by decide +kernel
theorem dX11_isShop_4 : decode cX11_isShop 4 = .ok (.iload_n 0, 1) := by decide +kernel
theorem dX11_isShop_5 : decode cX11_isShop 5 = .ok (.iconst 2, 1) := by decide +kernel
theorem dX11_isShop_6 : decode cX11_isShop 6 = .ok (.if_icmp .ge 7, 3) := by decide +kernel
theorem dX11_isShop_9 : decode cX11_isShop 9 = .ok (.iconst 1, 1) := by decide +kernel
theorem dX11_isShop_10 : decode cX11_isShop 10 = .ok (.goto 4, 3) := by decide +kernel
theorem dX11_isShop_13 : decode cX11_isShop 13 = .ok (.iconst 0, 1) := by decide +kernel
theorem dX11_isShop_14 : decode cX11_isShop 14 = .ok (.ireturn, 1) := by decide +kernel
set_option maxHeartbeats 4000000 in
set_option maxRecDepth 20000 in
theorem c_x_isShop {G : Gx} {d : Nat} {x0 : Int32} {μ : Mem} {r : Int32 × Mem} (hf : f_x_isShop x0 μ = some r) : Con G M_x_isShop (d + 0) [.int x0] μ (some (.int r.1), r.2) := by
  refine Con.ofZ ⟨rfl, rfl, Nat.le_of_ble_eq_true rfl⟩ rfl (fun X hG hX hr dy => ?_)
  subst hG
  show AW X 0 [(0, .int x0)] [] μ dy
  unfold f_x_isShop at hf
  refine r_iload_n hX dX11_isShop_0 0 rfl ?_
  obtain ⟨v1, e2, hf⟩ := bnd_eq hf
  have J3 : AW X 14 [(0, .int x0)] [.int v1] μ dy := by
    obtain ⟨b4, hf⟩ := chk_eq hf
    exact fin_Z hf hr _ _ _ (zb_nar b4) dX11_isShop_14
  refine r_if_lt hX 13 dX11_isShop_1 rfl (fun hc5 => ?_) (fun hc5 => ?_)
  · refine r_iconst hX (0 : Int32) dX11_isShop_13 rfl ?_
    exact r_topI (e2.trans (by rw [if_pos hc5])) J3
  · refine r_iload_n hX dX11_isShop_4 0 rfl ?_
    refine r_iconst hX (2 : Int32) dX11_isShop_5 rfl ?_
    refine r_icmp_ge hX 13 dX11_isShop_6 rfl (fun hc6 => ?_) (fun hc6 => ?_)
    · refine r_iconst hX (0 : Int32) dX11_isShop_13 rfl ?_
      exact r_topI (e2.trans (by rw [if_neg hc5, if_pos hc6])) J3
    · refine r_iconst hX (1 : Int32) dX11_isShop_9 rfl ?_
      refine r_goto hX 14 dX11_isShop_10 rfl ?_
      exact r_topI (e2.trans (by rw [if_neg hc5, if_neg hc6])) J3
theorem dX11_rule_0 : decode cX11_rule 0 = .ok (.aload_n 0, 1) := by decide +kernel
theorem dX11_rule_1 : decode cX11_rule 1 = .ok (.getfield 108, 3) := by decide +kernel
theorem dX11_rule_4 : decode cX11_rule 4 = .ok (.istore_n 2, 1) := by decide +kernel
theorem dX11_rule_5 : decode cX11_rule 5 = .ok (.aload_n 0, 1) := by decide +kernel
theorem dX11_rule_6 : decode cX11_rule 6 = .ok (.iconst 0, 1) := by decide +kernel
theorem dX11_rule_7 : decode cX11_rule 7 = .ok (.putfield 108, 3) := by decide +kernel
theorem dX11_rule_10 : decode cX11_rule 10 = .ok (.iload_n 1, 1) := by decide +kernel
theorem dX11_rule_11 : decode cX11_rule 11 = .ok (.invokestatic 292, 3) := by decide +kernel
theorem dX11_rule_14 : decode cX11_rule 14 = .ok (.ifCond .eq 19, 3) := by decide +kernel
theorem dX11_rule_17 : decode cX11_rule 17 = .ok (.aload_n 0, 1) := by decide +kernel
theorem dX11_rule_18 : decode cX11_rule 18 = .ok (.getfield 56, 3) := by decide +kernel
theorem dX11_rule_21 : decode cX11_rule 21 = .ok (.aload_n 0, 1) := by decide +kernel
theorem dX11_rule_22 : decode cX11_rule 22 = .ok (.getfield 9, 3) := by decide +kernel
theorem dX11_rule_25 : decode cX11_rule 25 = .ok (.iload_n 2, 1) := by decide +kernel
theorem dX11_rule_26 : decode cX11_rule 26 = .ok (.iload_n 1, 1) := by decide +kernel
theorem dX11_rule_27 : decode cX11_rule 27 = .ok (.invokevirtual 295, 3) := by decide +kernel
theorem dX11_rule_30 : decode cX11_rule 30 = .ok (.goto 5, 3) := by decide +kernel
theorem dX11_rule_33 : decode cX11_rule 33 = .ok (.bipush (-100), 2) := by decide +kernel
theorem dX11_rule_35 : decode cX11_rule 35 = .ok (.ireturn, 1) := by decide +kernel
set_option maxHeartbeats 4000000 in
set_option maxRecDepth 20000 in
theorem c_x_rule {G : Gx} {d : Nat} {x1 : Int32} {μ : Mem} {r : Int32 × Mem} (hf : f_x_rule x1 μ = some r) : Con G M_x_rule (d + 45) [.ref (gA G 0), .int x1] μ (some (.int r.1), r.2) := by
  refine Con.ofI ⟨rfl, rfl, Nat.le_of_ble_eq_true rfl⟩ rfl rfl (fun X hG hX hr dy => ?_)
  subst hG
  show AW X 0 [(0, .ref (gA (xG X) 0)), (1, .int x1)] [] μ dy
  unfold f_x_rule at hf
  refine r_aload_n hX dX11_rule_0 0 rfl ?_
  refine r_get hX fl_X11_108 (w_0 _ _ _) rfl dX11_rule_1 ?_
  refine r_istore_n hX dX11_rule_4 rfl (ls' := [(2, .int (μ.1 v_x_signs 0)), (0, .ref (gA (xG X) 0)), (1, .int x1)]) rfl ?_
  refine r_aload_n hX dX11_rule_5 1 rfl ?_
  refine r_iconst hX (0 : Int32) dX11_rule_6 rfl ?_
  obtain ⟨μ1, e2, hf⟩ := bnd_eq hf
  refine r_put hX fl_X11_108 ft_X11_1 (w_0 _ _ _) rfl rfl rfl (s_0_1 _ _ _ _) e2 rfl dX11_rule_7 ?_
  refine r_iload_n hX dX11_rule_10 2 rfl ?_
  obtain ⟨v5, μ3, h4, hf⟩ := bd2_eq hf
  refine r_callSI (Ok.le hX (by omega)) (c_x_isShop (d := d)  h4) cs_X11_292 (st := []) rfl rfl rfl dX11_rule_11 (fun dy => ?_)
  refine r_if_eq hX 33 dX11_rule_14 rfl (fun hc6 => ?_) (fun hc6 => ?_)
  · rw [if_pos hc6] at hf
    refine r_bipush hX (-100 : Int32) dX11_rule_33 rfl ?_
    exact fin_I hf hr _ _ _ dX11_rule_35
  · rw [if_neg hc6] at hf
    refine r_aload_n hX dX11_rule_17 1 rfl ?_
    refine r_get hX fl_X11_56 (w_0 _ _ _) rfl dX11_rule_18 ?_
    refine r_aload_n hX dX11_rule_21 1 rfl ?_
    refine r_get hX fl_X11_9 (w_0 _ _ _) rfl dX11_rule_22 ?_
    refine r_iload_n hX dX11_rule_25 0 rfl ?_
    refine r_iload_n hX dX11_rule_26 2 rfl ?_
    obtain ⟨v9, μ7, h8, hf⟩ := bd2_eq hf
    refine r_callVI (Ok.le hX (by omega)) (c_rr_read (d := d)  h8) cv_X11_295 (w_78 _ _ _) rfl rfl (st := []) rfl rfl rfl dX11_rule_27 (fun dy => ?_)
    refine r_goto hX 35 dX11_rule_30 rfl ?_
    exact fin_I hf hr _ _ _ dX11_rule_35
theorem dX11_rates_0 : decode cX11_rates 0 = .ok (.iload_n 1, 1) := by decide +kernel
theorem dX11_rates_1 : decode cX11_rates 1 = .ok (.invokestatic 292, 3) := by decide +kernel
theorem dX11_rates_4 : decode cX11_rates 4 = .ok (.ifCond .eq 14, 3) := by decide +kernel
theorem dX11_rates_7 : decode cX11_rates 7 = .ok (.aload_n 0, 1) := by decide +kernel
theorem dX11_rates_8 : decode cX11_rates 8 = .ok (.getfield 23, 3) := by decide +kernel
theorem dX11_rates_11 : decode cX11_rates 11 = .ok (.iload_n 2, 1) := by decide +kernel
theorem dX11_rates_12 : decode cX11_rates 12 = .ok (.invokevirtual 116, 3) := by decide +kernel
theorem dX11_rates_15 : decode cX11_rates 15 = .ok (.ifCond .ne 11, 3) := by decide +kernel
theorem dX11_rates_18 : decode cX11_rates 18 = .ok (.new 120, 3) := by decide +kernel
theorem dX11_rates_21 : decode cX11_rates 21 = .ok (.dup, 1) := by decide +kernel
theorem dX11_rates_22 : decode cX11_rates 22 = .ok (.invokespecial 122, 3) := by decide +kernel
theorem dX11_rates_25 : decode cX11_rates 25 = .ok (.athrow, 1) := by decide +kernel
theorem dX11_rates_26 : decode cX11_rates 26 = .ok (.aload_n 0, 1) := by decide +kernel
theorem dX11_rates_27 : decode cX11_rates 27 = .ok (.getfield 95, 3) := by decide +kernel
theorem dX11_rates_30 : decode cX11_rates 30 = .ok (.invokevirtual 298, 3) := by decide +kernel
theorem dX11_rates_33 : decode cX11_rates 33 = .ok (.aload_n 0, 1) := by decide +kernel
theorem dX11_rates_34 : decode cX11_rates 34 = .ok (.getfield 95, 3) := by decide +kernel
theorem dX11_rates_37 : decode cX11_rates 37 = .ok (.iload_n 1, 1) := by decide +kernel
theorem dX11_rates_38 : decode cX11_rates 38 = .ok (.iload_n 2, 1) := by decide +kernel
theorem dX11_rates_39 : decode cX11_rates 39 = .ok (.aload_n 0, 1) := by decide +kernel
theorem dX11_rates_40 : decode cX11_rates 40 = .ok (.getfield 23, 3) := by decide +kernel
theorem dX11_rates_43 : decode cX11_rates 43 = .ok (.invokevirtual 123, 3) := by decide +kernel
theorem dX11_rates_46 : decode cX11_rates 46 = .ok (.invokevirtual 301, 3) := by decide +kernel
theorem dX11_rates_49 : decode cX11_rates 49 = .ok (.ireturn, 1) := by decide +kernel
set_option maxHeartbeats 4000000 in
set_option maxRecDepth 20000 in
theorem b_x_rates_b18 {X : Cx} {d : Nat} (hX : Ok M_x_rates (d + 3) X) {r : Int32 × Mem} (hr : RetI M_x_rates X r.1 r.2)  (μ : Mem) (dy : Nat → Nat) (hf : f_x_rates_b18  μ = some r) : AW X 18 [] [] μ dy := by
  unfold f_x_rates_b18 at hf
  exact nomatch hf
set_option maxHeartbeats 4000000 in
set_option maxRecDepth 20000 in
theorem c_x_rates {G : Gx} {d : Nat} {x1 : Int32} {x2 : Int32} {μ : Mem} {r : Int32 × Mem} (hf : f_x_rates x1 x2 μ = some r) : Con G M_x_rates (d + 3) [.ref (gA G 0), .int x1, .int x2] μ (some (.int r.1), r.2) := by
  refine Con.ofI ⟨rfl, rfl, Nat.le_of_ble_eq_true rfl⟩ rfl rfl (fun X hG hX hr dy => ?_)
  subst hG
  show AW X 0 [(0, .ref (gA (xG X) 0)), (1, .int x1), (2, .int x2)] [] μ dy
  unfold f_x_rates at hf
  refine r_iload_n hX dX11_rates_0 1 rfl ?_
  obtain ⟨v3, μ1, h2, hf⟩ := bd2_eq hf
  refine r_callSI (Ok.le hX (by omega)) (c_x_isShop (d := d)  h2) cs_X11_292 (st := []) rfl rfl rfl dX11_rates_1 (fun dy => ?_)
  refine r_if_eq hX 18 dX11_rates_4 rfl (fun hc4 => ?_) (fun hc4 => ?_)
  · rw [if_pos hc4] at hf
    refine r_weak [] rfl ?_
    exact b_x_rates_b18 hX hr _ _ hf
  · rw [if_neg hc4] at hf
    refine r_aload_n hX dX11_rates_7 0 rfl ?_
    refine r_get hX fl_X11_23 (w_0 _ _ _) rfl dX11_rates_8 ?_
    refine r_iload_n hX dX11_rates_11 2 rfl ?_
    obtain ⟨v7, μ5, h6, hf⟩ := bd2_eq hf
    refine r_callVI (Ok.le hX (by omega)) (c_st_has (d := d)  h6) cv_X11_116 (w_4 _ _ _) rfl rfl (st := []) rfl rfl rfl dX11_rates_12 (fun dy => ?_)
    refine r_if_ne hX 26 dX11_rates_15 rfl (fun hc8 => ?_) (fun hc8 => ?_)
    · rw [if_neg hc8] at hf
      refine r_aload_n hX dX11_rates_26 0 rfl ?_
      refine r_get hX fl_X11_95 (w_0 _ _ _) rfl dX11_rates_27 ?_
      obtain ⟨μ9, h10, hf⟩ := bd1_eq hf
      refine r_callVV (Ok.le hX (by omega)) (c_sh_learn (d := d)  h10) cv_X11_298 (w_93 _ _ _) rfl rfl (st := []) rfl rfl rfl dX11_rates_30 (fun dy => ?_)
      refine r_aload_n hX dX11_rates_33 0 rfl ?_
      refine r_get hX fl_X11_95 (w_0 _ _ _) rfl dX11_rates_34 ?_
      refine r_iload_n hX dX11_rates_37 1 rfl ?_
      refine r_iload_n hX dX11_rates_38 2 rfl ?_
      refine r_aload_n hX dX11_rates_39 0 rfl ?_
      refine r_get hX fl_X11_23 (w_0 _ _ _) rfl dX11_rates_40 ?_
      obtain ⟨v13, μ11, h12, hf⟩ := bd2_eq hf
      refine r_callVI (Ok.le hX (by omega)) (c_st_now (d := d)  h12) cv_X11_123 (w_4 _ _ _) rfl rfl (st := [.int x2, .int x1, .ref (gA (xG X) 93)]) rfl rfl rfl dX11_rates_43 (fun dy => ?_)
      obtain ⟨v16, μ14, h15, hf⟩ := bd2_eq hf
      refine r_callVI (Ok.le hX (by omega)) (c_sh_rate (d := d)  h15) cv_X11_301 (w_93 _ _ _) rfl rfl (st := []) rfl rfl rfl dX11_rates_46 (fun dy => ?_)
      exact fin_I hf hr _ _ _ dX11_rates_49
    · rw [if_pos hc8] at hf
      refine r_weak [] rfl ?_
      exact b_x_rates_b18 hX hr _ _ hf
theorem dX11_picks_0 : decode cX11_picks 0 = .ok (.iload_n 1, 1) := by decide +kernel
theorem dX11_picks_1 : decode cX11_picks 1 = .ok (.invokestatic 292, 3) := by decide +kernel
theorem dX11_picks_4 : decode cX11_picks 4 = .ok (.ifCond .ne 5, 3) := by decide +kernel
theorem dX11_picks_7 : decode cX11_picks 7 = .ok (.iconst (-1), 1) := by decide +kernel
theorem dX11_picks_8 : decode cX11_picks 8 = .ok (.ireturn, 1) := by decide +kernel
theorem dX11_picks_9 : decode cX11_picks 9 = .ok (.aload_n 0, 1) := by decide +kernel
theorem dX11_picks_10 : decode cX11_picks 10 = .ok (.getfield 95, 3) := by decide +kernel
theorem dX11_picks_13 : decode cX11_picks 13 = .ok (.invokevirtual 298, 3) := by decide +kernel
theorem dX11_picks_16 : decode cX11_picks 16 = .ok (.aload_n 0, 1) := by decide +kernel
theorem dX11_picks_17 : decode cX11_picks 17 = .ok (.getfield 95, 3) := by decide +kernel
theorem dX11_picks_20 : decode cX11_picks 20 = .ok (.iload_n 1, 1) := by decide +kernel
theorem dX11_picks_21 : decode cX11_picks 21 = .ok (.aload_n 0, 1) := by decide +kernel
theorem dX11_picks_22 : decode cX11_picks 22 = .ok (.getfield 23, 3) := by decide +kernel
theorem dX11_picks_25 : decode cX11_picks 25 = .ok (.invokevirtual 123, 3) := by decide +kernel
theorem dX11_picks_28 : decode cX11_picks 28 = .ok (.invokevirtual 305, 3) := by decide +kernel
theorem dX11_picks_31 : decode cX11_picks 31 = .ok (.ireturn, 1) := by decide +kernel
set_option maxHeartbeats 4000000 in
set_option maxRecDepth 20000 in
theorem c_x_picks {G : Gx} {d : Nat} {x1 : Int32} {μ : Mem} {r : Int32 × Mem} (hf : f_x_picks x1 μ = some r) : Con G M_x_picks (d + 4) [.ref (gA G 0), .int x1] μ (some (.int r.1), r.2) := by
  refine Con.ofI ⟨rfl, rfl, Nat.le_of_ble_eq_true rfl⟩ rfl rfl (fun X hG hX hr dy => ?_)
  subst hG
  show AW X 0 [(0, .ref (gA (xG X) 0)), (1, .int x1)] [] μ dy
  unfold f_x_picks at hf
  refine r_iload_n hX dX11_picks_0 1 rfl ?_
  obtain ⟨v3, μ1, h2, hf⟩ := bd2_eq hf
  refine r_callSI (Ok.le hX (by omega)) (c_x_isShop (d := d)  h2) cs_X11_292 (st := []) rfl rfl rfl dX11_picks_1 (fun dy => ?_)
  refine r_if_ne hX 9 dX11_picks_4 rfl (fun hc4 => ?_) (fun hc4 => ?_)
  · rw [if_neg hc4] at hf
    refine r_aload_n hX dX11_picks_9 0 rfl ?_
    refine r_get hX fl_X11_95 (w_0 _ _ _) rfl dX11_picks_10 ?_
    obtain ⟨μ5, h6, hf⟩ := bd1_eq hf
    refine r_callVV (Ok.le hX (by omega)) (c_sh_learn (d := d)  h6) cv_X11_298 (w_93 _ _ _) rfl rfl (st := []) rfl rfl rfl dX11_picks_13 (fun dy => ?_)
    refine r_aload_n hX dX11_picks_16 0 rfl ?_
    refine r_get hX fl_X11_95 (w_0 _ _ _) rfl dX11_picks_17 ?_
    refine r_iload_n hX dX11_picks_20 1 rfl ?_
    refine r_aload_n hX dX11_picks_21 0 rfl ?_
    refine r_get hX fl_X11_23 (w_0 _ _ _) rfl dX11_picks_22 ?_
    obtain ⟨v9, μ7, h8, hf⟩ := bd2_eq hf
    refine r_callVI (Ok.le hX (by omega)) (c_st_now (d := d)  h8) cv_X11_123 (w_4 _ _ _) rfl rfl (st := [.int x1, .ref (gA (xG X) 93)]) rfl rfl rfl dX11_picks_25 (fun dy => ?_)
    obtain ⟨v12, μ10, h11, hf⟩ := bd2_eq hf
    refine r_callVI (Ok.le hX (by omega)) (c_sh_pick (d := d)  h11) cv_X11_305 (w_93 _ _ _) rfl rfl (st := []) rfl rfl rfl dX11_picks_28 (fun dy => ?_)
    exact fin_I hf hr _ _ _ dX11_picks_31
  · rw [if_pos hc4] at hf
    refine r_iconst hX (-1 : Int32) dX11_picks_7 rfl ?_
    exact fin_I hf hr _ _ _ dX11_picks_8
theorem dX11_market_0 : decode cX11_market 0 = .ok (.iload_n 1, 1) := by decide +kernel
theorem dX11_market_1 : decode cX11_market 1 = .ok (.ifCond .lt 9, 3) := by decide +kernel
theorem dX11_market_4 : decode cX11_market 4 = .ok (.iload_n 1, 1) := by decide +kernel
theorem dX11_market_5 : decode cX11_market 5 = .ok (.bipush 60, 2) := by decide +kernel
theorem dX11_market_7 : decode cX11_market 7 = .ok (.if_icmp .le 7, 3) := by decide +kernel
theorem dX11_market_10 : decode cX11_market 10 = .ok (.iconst (-1), 1) := by decide +kernel
theorem dX11_market_11 : decode cX11_market 11 = .ok (.goto 11, 3) := by decide +kernel
theorem dX11_market_14 : decode cX11_market 14 = .ok (.aload_n 0, 1) := by decide +kernel
theorem dX11_market_15 : decode cX11_market 15 = .ok (.getfield 95, 3) := by decide +kernel
theorem dX11_market_18 : decode cX11_market 18 = .ok (.iload_n 1, 1) := by decide +kernel
theorem dX11_market_19 : decode cX11_market 19 = .ok (.invokevirtual 308, 3) := by decide +kernel
theorem dX11_market_22 : decode cX11_market 22 = .ok (.ireturn, 1) := by decide +kernel
set_option maxHeartbeats 4000000 in
set_option maxRecDepth 20000 in
theorem b_x_market_b10 {X : Cx} {d : Nat} (hX : Ok M_x_market (d + 6) X) {r : Int32 × Mem} (hr : RetI M_x_market X r.1 r.2)  (μ : Mem) (dy : Nat → Nat) (hf : f_x_market_b10  μ = some r) : AW X 10 [] [] μ dy := by
  unfold f_x_market_b10 at hf
  refine r_iconst hX (-1 : Int32) dX11_market_10 rfl ?_
  refine r_goto hX 22 dX11_market_11 rfl ?_
  exact fin_I hf hr _ _ _ dX11_market_22
set_option maxHeartbeats 4000000 in
set_option maxRecDepth 20000 in
theorem c_x_market {G : Gx} {d : Nat} {x1 : Int32} {μ : Mem} {r : Int32 × Mem} (hf : f_x_market x1 μ = some r) : Con G M_x_market (d + 6) [.ref (gA G 0), .int x1] μ (some (.int r.1), r.2) := by
  refine Con.ofI ⟨rfl, rfl, Nat.le_of_ble_eq_true rfl⟩ rfl rfl (fun X hG hX hr dy => ?_)
  subst hG
  show AW X 0 [(0, .ref (gA (xG X) 0)), (1, .int x1)] [] μ dy
  unfold f_x_market at hf
  refine r_iload_n hX dX11_market_0 1 rfl ?_
  refine r_if_lt hX 10 dX11_market_1 rfl (fun hc1 => ?_) (fun hc1 => ?_)
  · rw [if_pos hc1] at hf
    refine r_weak [] rfl ?_
    exact b_x_market_b10 hX hr _ _ hf
  · rw [if_neg hc1] at hf
    refine r_iload_n hX dX11_market_4 1 rfl ?_
    refine r_bipush hX (60 : Int32) dX11_market_5 rfl ?_
    refine r_icmp_le hX 14 dX11_market_7 rfl (fun hc2 => ?_) (fun hc2 => ?_)
    · rw [if_pos hc2] at hf
      refine r_aload_n hX dX11_market_14 0 rfl ?_
      refine r_get hX fl_X11_95 (w_0 _ _ _) rfl dX11_market_15 ?_
      refine r_iload_n hX dX11_market_18 1 rfl ?_
      obtain ⟨v5, μ3, h4, hf⟩ := bd2_eq hf
      refine r_callVI (Ok.le hX (by omega)) (c_sh_trade (d := d)  h4) cv_X11_308 (w_93 _ _ _) rfl rfl (st := []) rfl rfl rfl dX11_market_19 (fun dy => ?_)
      exact fin_I hf hr _ _ _ dX11_market_22
    · rw [if_neg hc2] at hf
      refine r_weak [] rfl ?_
      exact b_x_market_b10 hX hr _ _ hf
theorem dX11_game_0 : decode cX11_game 0 = .ok (.iload_n 1, 1) := by decide +kernel
theorem dX11_game_1 : decode cX11_game 1 = .ok (.ifCond .lt 8, 3) := by decide +kernel
theorem dX11_game_4 : decode cX11_game 4 = .ok (.iload_n 1, 1) := by decide +kernel
theorem dX11_game_5 : decode cX11_game 5 = .ok (.iconst 3, 1) := by decide +kernel
theorem dX11_game_6 : decode cX11_game 6 = .ok (.if_icmp .le 7, 3) := by decide +kernel
theorem dX11_game_9 : decode cX11_game 9 = .ok (.iconst (-1), 1) := by decide +kernel
theorem dX11_game_10 : decode cX11_game 10 = .ok (.goto 11, 3) := by decide +kernel
theorem dX11_game_13 : decode cX11_game 13 = .ok (.aload_n 0, 1) := by decide +kernel
theorem dX11_game_14 : decode cX11_game 14 = .ok (.getfield 95, 3) := by decide +kernel
theorem dX11_game_17 : decode cX11_game 17 = .ok (.iload_n 1, 1) := by decide +kernel
theorem dX11_game_18 : decode cX11_game 18 = .ok (.invokevirtual 311, 3) := by decide +kernel
theorem dX11_game_21 : decode cX11_game 21 = .ok (.ireturn, 1) := by decide +kernel
set_option maxHeartbeats 4000000 in
set_option maxRecDepth 20000 in
theorem b_x_game_b9 {X : Cx} {d : Nat} (hX : Ok M_x_game (d + 21) X) {r : Int32 × Mem} (hr : RetI M_x_game X r.1 r.2)  (μ : Mem) (dy : Nat → Nat) (hf : f_x_game_b9  μ = some r) : AW X 9 [] [] μ dy := by
  unfold f_x_game_b9 at hf
  refine r_iconst hX (-1 : Int32) dX11_game_9 rfl ?_
  refine r_goto hX 21 dX11_game_10 rfl ?_
  exact fin_I hf hr _ _ _ dX11_game_21
set_option maxHeartbeats 4000000 in
set_option maxRecDepth 20000 in
theorem c_x_game {G : Gx} {d : Nat} {x1 : Int32} {μ : Mem} {r : Int32 × Mem} (hf : f_x_game x1 μ = some r) : Con G M_x_game (d + 21) [.ref (gA G 0), .int x1] μ (some (.int r.1), r.2) := by
  refine Con.ofI ⟨rfl, rfl, Nat.le_of_ble_eq_true rfl⟩ rfl rfl (fun X hG hX hr dy => ?_)
  subst hG
  show AW X 0 [(0, .ref (gA (xG X) 0)), (1, .int x1)] [] μ dy
  unfold f_x_game at hf
  refine r_iload_n hX dX11_game_0 1 rfl ?_
  refine r_if_lt hX 9 dX11_game_1 rfl (fun hc1 => ?_) (fun hc1 => ?_)
  · rw [if_pos hc1] at hf
    refine r_weak [] rfl ?_
    exact b_x_game_b9 hX hr _ _ hf
  · rw [if_neg hc1] at hf
    refine r_iload_n hX dX11_game_4 1 rfl ?_
    refine r_iconst hX (3 : Int32) dX11_game_5 rfl ?_
    refine r_icmp_le hX 13 dX11_game_6 rfl (fun hc2 => ?_) (fun hc2 => ?_)
    · rw [if_pos hc2] at hf
      refine r_aload_n hX dX11_game_13 0 rfl ?_
      refine r_get hX fl_X11_95 (w_0 _ _ _) rfl dX11_game_14 ?_
      refine r_iload_n hX dX11_game_17 1 rfl ?_
      obtain ⟨v5, μ3, h4, hf⟩ := bd2_eq hf
      refine r_callVI (Ok.le hX (by omega)) (c_sh_playBoth (d := d)  h4) cv_X11_311 (w_93 _ _ _) rfl rfl (st := []) rfl rfl rfl dX11_game_18 (fun dy => ?_)
      exact fin_I hf hr _ _ _ dX11_game_21
    · rw [if_neg hc2] at hf
      refine r_weak [] rfl ?_
      exact b_x_game_b9 hX hr _ _ hf
theorem dX11_against_0 : decode cX11_against 0 = .ok (.iload_n 1, 1) := by decide +kernel
theorem dX11_against_1 : decode cX11_against 1 = .ok (.ifCond .lt 9, 3) := by decide +kernel
theorem dX11_against_4 : decode cX11_against 4 = .ok (.iload_n 1, 1) := by decide +kernel
theorem dX11_against_5 : decode cX11_against 5 = .ok (.bipush 6, 2) := by decide +kernel
theorem dX11_against_7 : decode cX11_against 7 = .ok (.if_icmp .le 7, 3) := by decide +kernel
theorem dX11_against_10 : decode cX11_against 10 = .ok (.iconst (-1), 1) := by decide +kernel
theorem dX11_against_11 : decode cX11_against 11 = .ok (.goto 11, 3) := by decide +kernel
theorem dX11_against_14 : decode cX11_against 14 = .ok (.aload_n 0, 1) := by decide +kernel
theorem dX11_against_15 : decode cX11_against 15 = .ok (.getfield 95, 3) := by decide +kernel
theorem dX11_against_18 : decode cX11_against 18 = .ok (.iload_n 1, 1) := by decide +kernel
theorem dX11_against_19 : decode cX11_against 19 = .ok (.invokevirtual 314, 3) := by decide +kernel
theorem dX11_against_22 : decode cX11_against 22 = .ok (.ireturn, 1) := by decide +kernel
set_option maxHeartbeats 4000000 in
set_option maxRecDepth 20000 in
theorem b_x_against_b10 {X : Cx} {d : Nat} (hX : Ok M_x_against (d + 18) X) {r : Int32 × Mem} (hr : RetI M_x_against X r.1 r.2)  (μ : Mem) (dy : Nat → Nat) (hf : f_x_against_b10  μ = some r) : AW X 10 [] [] μ dy := by
  unfold f_x_against_b10 at hf
  refine r_iconst hX (-1 : Int32) dX11_against_10 rfl ?_
  refine r_goto hX 22 dX11_against_11 rfl ?_
  exact fin_I hf hr _ _ _ dX11_against_22
set_option maxHeartbeats 4000000 in
set_option maxRecDepth 20000 in
theorem c_x_against {G : Gx} {d : Nat} {x1 : Int32} {μ : Mem} {r : Int32 × Mem} (hf : f_x_against x1 μ = some r) : Con G M_x_against (d + 18) [.ref (gA G 0), .int x1] μ (some (.int r.1), r.2) := by
  refine Con.ofI ⟨rfl, rfl, Nat.le_of_ble_eq_true rfl⟩ rfl rfl (fun X hG hX hr dy => ?_)
  subst hG
  show AW X 0 [(0, .ref (gA (xG X) 0)), (1, .int x1)] [] μ dy
  unfold f_x_against at hf
  refine r_iload_n hX dX11_against_0 1 rfl ?_
  refine r_if_lt hX 10 dX11_against_1 rfl (fun hc1 => ?_) (fun hc1 => ?_)
  · rw [if_pos hc1] at hf
    refine r_weak [] rfl ?_
    exact b_x_against_b10 hX hr _ _ hf
  · rw [if_neg hc1] at hf
    refine r_iload_n hX dX11_against_4 1 rfl ?_
    refine r_bipush hX (6 : Int32) dX11_against_5 rfl ?_
    refine r_icmp_le hX 14 dX11_against_7 rfl (fun hc2 => ?_) (fun hc2 => ?_)
    · rw [if_pos hc2] at hf
      refine r_aload_n hX dX11_against_14 0 rfl ?_
      refine r_get hX fl_X11_95 (w_0 _ _ _) rfl dX11_against_15 ?_
      refine r_iload_n hX dX11_against_18 1 rfl ?_
      obtain ⟨v5, μ3, h4, hf⟩ := bd2_eq hf
      refine r_callVI (Ok.le hX (by omega)) (c_sh_playRule (d := d)  h4) cv_X11_314 (w_93 _ _ _) rfl rfl (st := []) rfl rfl rfl dX11_against_19 (fun dy => ?_)
      exact fin_I hf hr _ _ _ dX11_against_22
    · rw [if_neg hc2] at hf
      refine r_weak [] rfl ?_
      exact b_x_against_b10 hX hr _ _ hf
theorem dX11_change_0 : decode cX11_change 0 = .ok (.iload_n 1, 1) := by decide +kernel
theorem dX11_change_1 : decode cX11_change 1 = .ok (.invokestatic 231, 3) := by decide +kernel
theorem dX11_change_4 : decode cX11_change 4 = .ok (.ifCond .eq 14, 3) := by decide +kernel
theorem dX11_change_7 : decode cX11_change 7 = .ok (.aload_n 0, 1) := by decide +kernel
theorem dX11_change_8 : decode cX11_change 8 = .ok (.getfield 104, 3) := by decide +kernel
theorem dX11_change_11 : decode cX11_change 11 = .ok (.iload_n 1, 1) := by decide +kernel
theorem dX11_change_12 : decode cX11_change 12 = .ok (.invokevirtual 317, 3) := by decide +kernel
theorem dX11_change_15 : decode cX11_change 15 = .ok (.goto 4, 3) := by decide +kernel
theorem dX11_change_18 : decode cX11_change 18 = .ok (.iconst (-1), 1) := by decide +kernel
theorem dX11_change_19 : decode cX11_change 19 = .ok (.ireturn, 1) := by decide +kernel
set_option maxHeartbeats 4000000 in
set_option maxRecDepth 20000 in
theorem c_x_change {G : Gx} {d : Nat} {x1 : Int32} {μ : Mem} {r : Int32 × Mem} (hf : f_x_change x1 μ = some r) : Con G M_x_change (d + 6) [.ref (gA G 0), .int x1] μ (some (.int r.1), r.2) := by
  refine Con.ofI ⟨rfl, rfl, Nat.le_of_ble_eq_true rfl⟩ rfl rfl (fun X hG hX hr dy => ?_)
  subst hG
  show AW X 0 [(0, .ref (gA (xG X) 0)), (1, .int x1)] [] μ dy
  unfold f_x_change at hf
  refine r_iload_n hX dX11_change_0 1 rfl ?_
  obtain ⟨v3, μ1, h2, hf⟩ := bd2_eq hf
  refine r_callSI (Ok.le hX (by omega)) (c_x_isTalkDay (d := d)  h2) cs_X11_231 (st := []) rfl rfl rfl dX11_change_1 (fun dy => ?_)
  refine r_if_eq hX 18 dX11_change_4 rfl (fun hc4 => ?_) (fun hc4 => ?_)
  · rw [if_pos hc4] at hf
    refine r_iconst hX (-1 : Int32) dX11_change_18 rfl ?_
    exact fin_I hf hr _ _ _ dX11_change_19
  · rw [if_neg hc4] at hf
    refine r_aload_n hX dX11_change_7 0 rfl ?_
    refine r_get hX fl_X11_104 (w_0 _ _ _) rfl dX11_change_8 ?_
    refine r_iload_n hX dX11_change_11 1 rfl ?_
    obtain ⟨v7, μ5, h6, hf⟩ := bd2_eq hf
    refine r_callVI (Ok.le hX (by omega)) (c_ac_fewestPairs (d := d)  h6) cv_X11_317 (w_110 _ _ _) rfl rfl (st := []) rfl rfl rfl dX11_change_12 (fun dy => ?_)
    refine r_goto hX 19 dX11_change_15 rfl ?_
    exact fin_I hf hr _ _ _ dX11_change_19
theorem dX11_single_0 : decode cX11_single 0 = .ok (.iload_n 1, 1) := by decide +kernel
theorem dX11_single_1 : decode cX11_single 1 = .ok (.invokestatic 231, 3) := by decide +kernel
theorem dX11_single_4 : decode cX11_single 4 = .ok (.ifCond .eq 14, 3) := by decide +kernel
theorem dX11_single_7 : decode cX11_single 7 = .ok (.aload_n 0, 1) := by decide +kernel
theorem dX11_single_8 : decode cX11_single 8 = .ok (.getfield 104, 3) := by decide +kernel
theorem dX11_single_11 : decode cX11_single 11 = .ok (.iload_n 1, 1) := by decide +kernel
theorem dX11_single_12 : decode cX11_single 12 = .ok (.invokevirtual 320, 3) := by decide +kernel
theorem dX11_single_15 : decode cX11_single 15 = .ok (.goto 4, 3) := by decide +kernel
theorem dX11_single_18 : decode cX11_single 18 = .ok (.iconst (-1), 1) := by decide +kernel
theorem dX11_single_19 : decode cX11_single 19 = .ok (.ireturn, 1) := by decide +kernel
set_option maxHeartbeats 4000000 in
set_option maxRecDepth 20000 in
theorem c_x_single {G : Gx} {d : Nat} {x1 : Int32} {μ : Mem} {r : Int32 × Mem} (hf : f_x_single x1 μ = some r) : Con G M_x_single (d + 5) [.ref (gA G 0), .int x1] μ (some (.int r.1), r.2) := by
  refine Con.ofI ⟨rfl, rfl, Nat.le_of_ble_eq_true rfl⟩ rfl rfl (fun X hG hX hr dy => ?_)
  subst hG
  show AW X 0 [(0, .ref (gA (xG X) 0)), (1, .int x1)] [] μ dy
  unfold f_x_single at hf
  refine r_iload_n hX dX11_single_0 1 rfl ?_
  obtain ⟨v3, μ1, h2, hf⟩ := bd2_eq hf
  refine r_callSI (Ok.le hX (by omega)) (c_x_isTalkDay (d := d)  h2) cs_X11_231 (st := []) rfl rfl rfl dX11_single_1 (fun dy => ?_)
  refine r_if_eq hX 18 dX11_single_4 rfl (fun hc4 => ?_) (fun hc4 => ?_)
  · rw [if_pos hc4] at hf
    refine r_iconst hX (-1 : Int32) dX11_single_18 rfl ?_
    exact fin_I hf hr _ _ _ dX11_single_19
  · rw [if_neg hc4] at hf
    refine r_aload_n hX dX11_single_7 0 rfl ?_
    refine r_get hX fl_X11_104 (w_0 _ _ _) rfl dX11_single_8 ?_
    refine r_iload_n hX dX11_single_11 1 rfl ?_
    obtain ⟨v7, μ5, h6, hf⟩ := bd2_eq hf
    refine r_callVI (Ok.le hX (by omega)) (c_ac_pairsAlone (d := d)  h6) cv_X11_320 (w_110 _ _ _) rfl rfl (st := []) rfl rfl rfl dX11_single_12 (fun dy => ?_)
    refine r_goto hX 19 dX11_single_15 rfl ?_
    exact fin_I hf hr _ _ _ dX11_single_19
theorem dX11_meet_0 : decode cX11_meet 0 = .ok (.aload_n 0, 1) := by decide +kernel
theorem dX11_meet_1 : decode cX11_meet 1 = .ok (.iload_n 1, 1) := by decide +kernel
theorem dX11_meet_2 : decode cX11_meet 2 = .ok (.iload_n 2, 1) := by decide +kernel
theorem dX11_meet_3 : decode cX11_meet 3 = .ok (.invokevirtual 147, 3) := by decide +kernel
theorem dX11_meet_6 : decode cX11_meet 6 = .ok (.ifCond .eq 13, 3) := by decide +kernel
theorem dX11_meet_9 : decode cX11_meet 9 = .ok (.iload_n 3, 1) := by decide +kernel
theorem dX11_meet_10 : decode cX11_meet 10 = .ok (.ifCond .lt 9, 3) := by decide +kernel
theorem dX11_meet_13 : decode cX11_meet 13 = .ok (.iload_n 3, 1) := by decide +kernel
theorem dX11_meet_14 : decode cX11_meet 14 = .ok (.bipush 9, 2) := by decide +kernel
theorem dX11_meet_16 : decode cX11_meet 16 = .ok (.if_icmp .le 5, 3) := by decide +kernel
theorem dX11_meet_19 : decode cX11_meet 19 = .ok (.iconst (-1), 1) := by decide +kernel
theorem dX11_meet_20 : decode cX11_meet 20 = .ok (.ireturn, 1) := by decide +kernel
theorem dX11_meet_21 : decode cX11_meet 21 = .ok (.aload_n 0, 1) := by decide +kernel
theorem dX11_meet_22 : decode cX11_meet 22 = .ok (.getfield 23, 3) := by decide +kernel
theorem dX11_meet_25 : decode cX11_meet 25 = .ok (.getfield 151, 3) := by decide +kernel
theorem dX11_meet_28 : decode cX11_meet 28 = .ok (.iload_n 1, 1) := by decide +kernel
theorem dX11_meet_29 : decode cX11_meet 29 = .ok (.aaload, 1) := by decide +kernel
theorem dX11_meet_30 : decode cX11_meet 30 = .ok (.iload_n 2, 1) := by decide +kernel
theorem dX11_meet_31 : decode cX11_meet 31 = .ok (.iaload, 1) := by decide +kernel
theorem dX11_meet_32 : decode cX11_meet 32 = .ok (.istore 4, 2) := by decide +kernel
theorem dX11_meet_34 : decode cX11_meet 34 = .ok (.aload_n 0, 1) := by decide +kernel
theorem dX11_meet_35 : decode cX11_meet 35 = .ok (.getfield 23, 3) := by decide +kernel
theorem dX11_meet_38 : decode cX11_meet 38 = .ok (.iload_n 1, 1) := by decide +kernel
theorem dX11_meet_39 : decode cX11_meet 39 = .ok (.iload_n 2, 1) := by decide +kernel
theorem dX11_meet_40 : decode cX11_meet 40 = .ok (.iload_n 3, 1) := by decide +kernel
theorem dX11_meet_41 : decode cX11_meet 41 = .ok (.invokevirtual 323, 3) := by decide +kernel
theorem dX11_meet_44 : decode cX11_meet 44 = .ok (.aload_n 0, 1) := by decide +kernel
theorem dX11_meet_45 : decode cX11_meet 45 = .ok (.getfield 23, 3) := by decide +kernel
theorem dX11_meet_48 : decode cX11_meet 48 = .ok (.iload_n 2, 1) := by decide +kernel
theorem dX11_meet_49 : decode cX11_meet 49 = .ok (.iload_n 1, 1) := by decide +kernel
theorem dX11_meet_50 : decode cX11_meet 50 = .ok (.iload_n 3, 1) := by decide +kernel
theorem dX11_meet_51 : decode cX11_meet 51 = .ok (.invokevirtual 323, 3) := by decide +kernel
theorem dX11_meet_54 : decode cX11_meet 54 = .ok (.iload 4, 2) := by decide +kernel
theorem dX11_meet_56 : decode cX11_meet 56 = .ok (.ireturn, 1) := by decide +kernel
set_option maxHeartbeats 4000000 in
set_option maxRecDepth 20000 in
theorem c_x_meet {G : Gx} {d : Nat} {x1 : Int32} {x2 : Int32} {x3 : Int32} {μ : Mem} {r : Int32 × Mem} (hf : f_x_meet x1 x2 x3 μ = some r) : Con G M_x_meet (d + 2) [.ref (gA G 0), .int x1, .int x2, .int x3] μ (some (.int r.1), r.2) := by
  refine Con.ofI ⟨rfl, rfl, Nat.le_of_ble_eq_true rfl⟩ rfl rfl (fun X hG hX hr dy => ?_)
  subst hG
  show AW X 0 [(0, .ref (gA (xG X) 0)), (1, .int x1), (2, .int x2), (3, .int x3)] [] μ dy
  unfold f_x_meet at hf
  refine r_aload_n hX dX11_meet_0 0 rfl ?_
  refine r_iload_n hX dX11_meet_1 1 rfl ?_
  refine r_iload_n hX dX11_meet_2 2 rfl ?_
  obtain ⟨v3, μ1, h2, hf⟩ := bd2_eq hf
  refine r_callVI (Ok.le hX (by omega)) (c_x_areTwo (d := d)  h2) cv_X11_147 (w_0 _ _ _) rfl rfl (st := []) rfl rfl rfl dX11_meet_3 (fun dy => ?_)
  refine r_if_eq hX 19 dX11_meet_6 rfl (fun hc4 => ?_) (fun hc4 => ?_)
  · rw [if_pos hc4] at hf
    refine r_iconst hX (-1 : Int32) dX11_meet_19 rfl ?_
    exact fin_I hf hr _ _ _ dX11_meet_20
  · rw [if_neg hc4] at hf
    refine r_iload_n hX dX11_meet_9 3 rfl ?_
    refine r_if_lt hX 19 dX11_meet_10 rfl (fun hc5 => ?_) (fun hc5 => ?_)
    · rw [if_pos hc5] at hf
      refine r_iconst hX (-1 : Int32) dX11_meet_19 rfl ?_
      exact fin_I hf hr _ _ _ dX11_meet_20
    · rw [if_neg hc5] at hf
      refine r_iload_n hX dX11_meet_13 3 rfl ?_
      refine r_bipush hX (9 : Int32) dX11_meet_14 rfl ?_
      refine r_icmp_le hX 21 dX11_meet_16 rfl (fun hc6 => ?_) (fun hc6 => ?_)
      · rw [if_pos hc6] at hf
        refine r_aload_n hX dX11_meet_21 0 rfl ?_
        refine r_get hX fl_X11_23 (w_0 _ _ _) rfl dX11_meet_22 ?_
        refine r_getN hX fl_X11_151 (w_4 _ _ _) rfl dX11_meet_25 ?_
        refine r_iload_n hX dX11_meet_28 1 rfl ?_
        obtain ⟨b7, hf⟩ := chk_eq hf
        refine r_aald hX (w_7 _ _ _) (b := gA (xG X) (8 + x1.toNatClampNeg)) rfl rfl (inb_in b7) (if_pos (inb_lt b7)) dX11_meet_29 ?_
        refine r_iload_n hX dX11_meet_30 2 rfl ?_
        obtain ⟨b8, hf⟩ := chk_eq hf
        refine r_iald hX (wLo (inb_lt b7)) (inb_in b8) dX11_meet_31 ?_
        obtain ⟨v9, e10, hf⟩ := bnd_eq hf
        refine r_topI e10 ?_
        refine r_istore hX dX11_meet_32 rfl (ls' := [(4, .int v9), (0, .ref (gA (xG X) 0)), (1, .int x1), (2, .int x2), (3, .int x3)]) rfl ?_
        refine r_aload_n hX dX11_meet_34 1 rfl ?_
        refine r_get hX fl_X11_23 (w_0 _ _ _) rfl dX11_meet_35 ?_
        refine r_iload_n hX dX11_meet_38 2 rfl ?_
        refine r_iload_n hX dX11_meet_39 3 rfl ?_
        refine r_iload_n hX dX11_meet_40 4 rfl ?_
        obtain ⟨μ11, h12, hf⟩ := bd1_eq hf
        refine r_callVV (Ok.le hX (by omega)) (c_st_putLoud (d := d)  h12) cv_X11_323 (w_4 _ _ _) rfl rfl (st := []) rfl rfl rfl dX11_meet_41 (fun dy => ?_)
        refine r_aload_n hX dX11_meet_44 1 rfl ?_
        refine r_get hX fl_X11_23 (w_0 _ _ _) rfl dX11_meet_45 ?_
        refine r_iload_n hX dX11_meet_48 3 rfl ?_
        refine r_iload_n hX dX11_meet_49 2 rfl ?_
        refine r_iload_n hX dX11_meet_50 4 rfl ?_
        obtain ⟨μ13, h14, hf⟩ := bd1_eq hf
        refine r_callVV (Ok.le hX (by omega)) (c_st_putLoud (d := d)  h14) cv_X11_323 (w_4 _ _ _) rfl rfl (st := []) rfl rfl rfl dX11_meet_51 (fun dy => ?_)
        refine r_iload hX dX11_meet_54 0 rfl ?_
        exact fin_I hf hr _ _ _ dX11_meet_56
      · rw [if_neg hc6] at hf
        refine r_iconst hX (-1 : Int32) dX11_meet_19 rfl ?_
        exact fin_I hf hr _ _ _ dX11_meet_20
theorem dX11_keep_0 : decode cX11_keep 0 = .ok (.iload_n 1, 1) := by decide +kernel
theorem dX11_keep_1 : decode cX11_keep 1 = .ok (.ifCond .lt 8, 3) := by decide +kernel
theorem dX11_keep_4 : decode cX11_keep 4 = .ok (.iload_n 1, 1) := by decide +kernel
theorem dX11_keep_5 : decode cX11_keep 5 = .ok (.iconst 2, 1) := by decide +kernel
theorem dX11_keep_6 : decode cX11_keep 6 = .ok (.if_icmp .lt 5, 3) := by decide +kernel
theorem dX11_keep_9 : decode cX11_keep 9 = .ok (.iconst 0, 1) := by decide +kernel
theorem dX11_keep_10 : decode cX11_keep 10 = .ok (.ireturn, 1) := by decide +kernel
theorem dX11_keep_11 : decode cX11_keep 11 = .ok (.aload_n 0, 1) := by decide +kernel
theorem dX11_keep_12 : decode cX11_keep 12 = .ok (.getfield 27, 3) := by decide +kernel
theorem dX11_keep_15 : decode cX11_keep 15 = .ok (.iload_n 1, 1) := by decide +kernel
theorem dX11_keep_16 : decode cX11_keep 16 = .ok (.aaload, 1) := by decide +kernel
theorem dX11_keep_17 : decode cX11_keep 17 = .ok (.aload_n 0, 1) := by decide +kernel
theorem dX11_keep_18 : decode cX11_keep 18 = .ok (.getfield 23, 3) := by decide +kernel
theorem dX11_keep_21 : decode cX11_keep 21 = .ok (.getfield 155, 3) := by decide +kernel
theorem dX11_keep_24 : decode cX11_keep 24 = .ok (.putfield 155, 3) := by decide +kernel
theorem dX11_keep_27 : decode cX11_keep 27 = .ok (.aload_n 0, 1) := by decide +kernel
theorem dX11_keep_28 : decode cX11_keep 28 = .ok (.getfield 27, 3) := by decide +kernel
theorem dX11_keep_31 : decode cX11_keep 31 = .ok (.iload_n 1, 1) := by decide +kernel
theorem dX11_keep_32 : decode cX11_keep 32 = .ok (.aaload, 1) := by decide +kernel
theorem dX11_keep_33 : decode cX11_keep 33 = .ok (.aload_n 0, 1) := by decide +kernel
theorem dX11_keep_34 : decode cX11_keep 34 = .ok (.getfield 23, 3) := by decide +kernel
theorem dX11_keep_37 : decode cX11_keep 37 = .ok (.invokevirtual 327, 3) := by decide +kernel
theorem dX11_keep_40 : decode cX11_keep 40 = .ok (.aload_n 0, 1) := by decide +kernel
theorem dX11_keep_41 : decode cX11_keep 41 = .ok (.getfield 31, 3) := by decide +kernel
theorem dX11_keep_44 : decode cX11_keep 44 = .ok (.iload_n 1, 1) := by decide +kernel
theorem dX11_keep_45 : decode cX11_keep 45 = .ok (.iconst 1, 1) := by decide +kernel
theorem dX11_keep_46 : decode cX11_keep 46 = .ok (.bastore, 1) := by decide +kernel
theorem dX11_keep_47 : decode cX11_keep 47 = .ok (.iconst 1, 1) := by decide +kernel
theorem dX11_keep_48 : decode cX11_keep 48 = .ok (.ireturn, 1) := by decide +kernel
set_option maxHeartbeats 4000000 in
set_option maxRecDepth 20000 in
theorem c_x_keep {G : Gx} {d : Nat} {x1 : Int32} {μ : Mem} {r : Int32 × Mem} (hf : f_x_keep x1 μ = some r) : Con G M_x_keep (d + 2) [.ref (gA G 0), .int x1] μ (some (.int r.1), r.2) := by
  refine Con.ofZ ⟨rfl, rfl, Nat.le_of_ble_eq_true rfl⟩ rfl (fun X hG hX hr dy => ?_)
  subst hG
  show AW X 0 [(0, .ref (gA (xG X) 0)), (1, .int x1)] [] μ dy
  unfold f_x_keep at hf
  refine r_iload_n hX dX11_keep_0 1 rfl ?_
  refine r_if_lt hX 9 dX11_keep_1 rfl (fun hc1 => ?_) (fun hc1 => ?_)
  · rw [if_pos hc1] at hf
    refine r_iconst hX (0 : Int32) dX11_keep_9 rfl ?_
    obtain ⟨b2, hf⟩ := chk_eq hf
    exact fin_Z hf hr _ _ _ (zb_nar b2) dX11_keep_10
  · rw [if_neg hc1] at hf
    refine r_iload_n hX dX11_keep_4 1 rfl ?_
    refine r_iconst hX (2 : Int32) dX11_keep_5 rfl ?_
    refine r_icmp_lt hX 11 dX11_keep_6 rfl (fun hc3 => ?_) (fun hc3 => ?_)
    · rw [if_pos hc3] at hf
      refine r_aload_n hX dX11_keep_11 0 rfl ?_
      refine r_get hX fl_X11_27 (w_0 _ _ _) rfl dX11_keep_12 ?_
      refine r_iload_n hX dX11_keep_15 1 rfl ?_
      by_cases hc4 : x1 = 0
      · rw [if_pos hc4] at hf
        refine r_aald hX (w_64 _ _ _) (b := gA (xG X) 24) rfl rfl (by rw [hc4]; exact inb_in rfl) (by rw [hc4]; rfl) dX11_keep_16 ?_
        refine r_aload_n hX dX11_keep_17 0 rfl ?_
        refine r_get hX fl_X11_23 (w_0 _ _ _) rfl dX11_keep_18 ?_
        refine r_getN hX fl_X11_155 (w_4 _ _ _) rfl dX11_keep_21 ?_
        obtain ⟨μ5, e6, hf⟩ := bnd_eq hf
        refine r_putN hX fl_X11_155 ft_X8_5 (w_24 _ _ _) rfl rfl rfl (s_24_5 _ _ _ _) e6 rfl dX11_keep_24 ?_
        refine r_aload_n hX dX11_keep_27 0 rfl ?_
        refine r_get hX fl_X11_27 (w_0 _ _ _) rfl dX11_keep_28 ?_
        refine r_iload_n hX dX11_keep_31 1 rfl ?_
        by_cases hc7 : x1 = 0
        · rw [if_pos hc7] at hf
          refine r_aald hX (w_64 _ _ _) (b := gA (xG X) 24) rfl rfl (by rw [hc7]; exact inb_in rfl) (by rw [hc7]; rfl) dX11_keep_32 ?_
          refine r_aload_n hX dX11_keep_33 0 rfl ?_
          refine r_get hX fl_X11_23 (w_0 _ _ _) rfl dX11_keep_34 ?_
          obtain ⟨μ8, h9, hf⟩ := bd1_eq hf
          refine r_callVV (Ok.le hX (by omega)) (c_st_takeDays (d := d) (by decide) (by decide) h9) cv_X11_327 (w_24 _ _ _) rfl rfl (st := []) rfl rfl rfl dX11_keep_37 (fun dy => ?_)
          refine r_aload_n hX dX11_keep_40 0 rfl ?_
          refine r_get hX fl_X11_31 (w_0 _ _ _) rfl dX11_keep_41 ?_
          refine r_iload_n hX dX11_keep_44 1 rfl ?_
          refine r_iconst hX (1 : Int32) dX11_keep_45 rfl ?_
          obtain ⟨b10, hf⟩ := chk_eq hf
          obtain ⟨μ11, e12, hf⟩ := bnd_eq hf
          refine r_zast hX (w_65 _ _ _) (inb_in b10) (s_65 _ _ _ _ _) e12 rfl dX11_keep_46 ?_
          refine r_iconst hX (1 : Int32) dX11_keep_47 rfl ?_
          obtain ⟨b13, hf⟩ := chk_eq hf
          exact fin_Z hf hr _ _ _ (zb_nar b13) dX11_keep_48
        · rw [if_neg hc7] at hf
          by_cases hc14 : x1 = 1
          · rw [if_pos hc14] at hf
            refine r_aald hX (w_64 _ _ _) (b := gA (xG X) 44) rfl rfl (by rw [hc14]; exact inb_in rfl) (by rw [hc14]; rfl) dX11_keep_32 ?_
            refine r_aload_n hX dX11_keep_33 0 rfl ?_
            refine r_get hX fl_X11_23 (w_0 _ _ _) rfl dX11_keep_34 ?_
            obtain ⟨μ15, h16, hf⟩ := bd1_eq hf
            refine r_callVV (Ok.le hX (by omega)) (c_st_takeDays (d := d) (by decide) (by decide) h16) cv_X11_327 (w_44 _ _ _) rfl rfl (st := []) rfl rfl rfl dX11_keep_37 (fun dy => ?_)
            refine r_aload_n hX dX11_keep_40 0 rfl ?_
            refine r_get hX fl_X11_31 (w_0 _ _ _) rfl dX11_keep_41 ?_
            refine r_iload_n hX dX11_keep_44 1 rfl ?_
            refine r_iconst hX (1 : Int32) dX11_keep_45 rfl ?_
            obtain ⟨b17, hf⟩ := chk_eq hf
            obtain ⟨μ18, e19, hf⟩ := bnd_eq hf
            refine r_zast hX (w_65 _ _ _) (inb_in b17) (s_65 _ _ _ _ _) e19 rfl dX11_keep_46 ?_
            refine r_iconst hX (1 : Int32) dX11_keep_47 rfl ?_
            obtain ⟨b20, hf⟩ := chk_eq hf
            exact fin_Z hf hr _ _ _ (zb_nar b20) dX11_keep_48
          · rw [if_neg hc14] at hf
            exact nomatch hf
      · rw [if_neg hc4] at hf
        by_cases hc21 : x1 = 1
        · rw [if_pos hc21] at hf
          refine r_aald hX (w_64 _ _ _) (b := gA (xG X) 44) rfl rfl (by rw [hc21]; exact inb_in rfl) (by rw [hc21]; rfl) dX11_keep_16 ?_
          refine r_aload_n hX dX11_keep_17 0 rfl ?_
          refine r_get hX fl_X11_23 (w_0 _ _ _) rfl dX11_keep_18 ?_
          refine r_getN hX fl_X11_155 (w_4 _ _ _) rfl dX11_keep_21 ?_
          obtain ⟨μ22, e23, hf⟩ := bnd_eq hf
          refine r_putN hX fl_X11_155 ft_X8_5 (w_44 _ _ _) rfl rfl rfl (s_44_5 _ _ _ _) e23 rfl dX11_keep_24 ?_
          refine r_aload_n hX dX11_keep_27 0 rfl ?_
          refine r_get hX fl_X11_27 (w_0 _ _ _) rfl dX11_keep_28 ?_
          refine r_iload_n hX dX11_keep_31 1 rfl ?_
          by_cases hc24 : x1 = 0
          · rw [if_pos hc24] at hf
            refine r_aald hX (w_64 _ _ _) (b := gA (xG X) 24) rfl rfl (by rw [hc24]; exact inb_in rfl) (by rw [hc24]; rfl) dX11_keep_32 ?_
            refine r_aload_n hX dX11_keep_33 0 rfl ?_
            refine r_get hX fl_X11_23 (w_0 _ _ _) rfl dX11_keep_34 ?_
            obtain ⟨μ25, h26, hf⟩ := bd1_eq hf
            refine r_callVV (Ok.le hX (by omega)) (c_st_takeDays (d := d) (by decide) (by decide) h26) cv_X11_327 (w_24 _ _ _) rfl rfl (st := []) rfl rfl rfl dX11_keep_37 (fun dy => ?_)
            refine r_aload_n hX dX11_keep_40 0 rfl ?_
            refine r_get hX fl_X11_31 (w_0 _ _ _) rfl dX11_keep_41 ?_
            refine r_iload_n hX dX11_keep_44 1 rfl ?_
            refine r_iconst hX (1 : Int32) dX11_keep_45 rfl ?_
            obtain ⟨b27, hf⟩ := chk_eq hf
            obtain ⟨μ28, e29, hf⟩ := bnd_eq hf
            refine r_zast hX (w_65 _ _ _) (inb_in b27) (s_65 _ _ _ _ _) e29 rfl dX11_keep_46 ?_
            refine r_iconst hX (1 : Int32) dX11_keep_47 rfl ?_
            obtain ⟨b30, hf⟩ := chk_eq hf
            exact fin_Z hf hr _ _ _ (zb_nar b30) dX11_keep_48
          · rw [if_neg hc24] at hf
            by_cases hc31 : x1 = 1
            · rw [if_pos hc31] at hf
              refine r_aald hX (w_64 _ _ _) (b := gA (xG X) 44) rfl rfl (by rw [hc31]; exact inb_in rfl) (by rw [hc31]; rfl) dX11_keep_32 ?_
              refine r_aload_n hX dX11_keep_33 0 rfl ?_
              refine r_get hX fl_X11_23 (w_0 _ _ _) rfl dX11_keep_34 ?_
              obtain ⟨μ32, h33, hf⟩ := bd1_eq hf
              refine r_callVV (Ok.le hX (by omega)) (c_st_takeDays (d := d) (by decide) (by decide) h33) cv_X11_327 (w_44 _ _ _) rfl rfl (st := []) rfl rfl rfl dX11_keep_37 (fun dy => ?_)
              refine r_aload_n hX dX11_keep_40 0 rfl ?_
              refine r_get hX fl_X11_31 (w_0 _ _ _) rfl dX11_keep_41 ?_
              refine r_iload_n hX dX11_keep_44 1 rfl ?_
              refine r_iconst hX (1 : Int32) dX11_keep_45 rfl ?_
              obtain ⟨b34, hf⟩ := chk_eq hf
              obtain ⟨μ35, e36, hf⟩ := bnd_eq hf
              refine r_zast hX (w_65 _ _ _) (inb_in b34) (s_65 _ _ _ _ _) e36 rfl dX11_keep_46 ?_
              refine r_iconst hX (1 : Int32) dX11_keep_47 rfl ?_
              obtain ⟨b37, hf⟩ := chk_eq hf
              exact fin_Z hf hr _ _ _ (zb_nar b37) dX11_keep_48
            · rw [if_neg hc31] at hf
              exact nomatch hf
        · rw [if_neg hc21] at hf
          exact nomatch hf
    · rw [if_neg hc3] at hf
      refine r_iconst hX (0 : Int32) dX11_keep_9 rfl ?_
      obtain ⟨b38, hf⟩ := chk_eq hf
      exact fin_Z hf hr _ _ _ (zb_nar b38) dX11_keep_10
theorem dX11_again_0 : decode cX11_again 0 = .ok (.iload_n 1, 1) := by decide +kernel
theorem dX11_again_1 : decode cX11_again 1 = .ok (.ifCond .lt 36, 3) := by decide +kernel
theorem dX11_again_4 : decode cX11_again 4 = .ok (.iload_n 1, 1) := by decide +kernel
theorem dX11_again_5 : decode cX11_again 5 = .ok (.iconst 2, 1) := by decide +kernel
theorem dX11_again_6 : decode cX11_again 6 = .ok (.if_icmp .ge 31, 3) := by decide +kernel
theorem dX11_again_9 : decode cX11_again 9 = .ok (.aload_n 0, 1) := by decide +kernel
theorem dX11_again_10 : decode cX11_again 10 = .ok (.getfield 31, 3) := by decide +kernel
theorem dX11_again_13 : decode cX11_again 13 = .ok (.iload_n 1, 1) := by decide +kernel
theorem dX11_again_14 : decode cX11_again 14 = .ok (.baload, 1) := by decide +kernel
theorem dX11_again_15 : decode cX11_again 15 = .ok (.ifCond .eq 22, 3) := by decide +kernel
theorem dX11_again_18 : decode cX11_again 18 = .ok (.aload_n 0, 1) := by decide +kernel
theorem dX11_again_19 : decode cX11_again 19 = .ok (.getfield 27, 3) := by decide +kernel
theorem dX11_again_22 : decode cX11_again 22 = .ok (.iload_n 1, 1) := by decide +kernel
theorem dX11_again_23 : decode cX11_again 23 = .ok (.aaload, 1) := by decide +kernel
theorem dX11_again_24 : decode cX11_again 24 = .ok (.getfield 155, 3) := by decide +kernel
theorem dX11_again_27 : decode cX11_again 27 = .ok (.aload_n 0, 1) := by decide +kernel
theorem dX11_again_28 : decode cX11_again 28 = .ok (.getfield 23, 3) := by decide +kernel
theorem dX11_again_31 : decode cX11_again 31 = .ok (.getfield 155, 3) := by decide +kernel
theorem dX11_again_34 : decode cX11_again 34 = .ok (.if_icmp .eq 5, 3) := by decide +kernel
theorem dX11_again_37 : decode cX11_again 37 = .ok (.iconst 0, 1) := by decide +kernel
theorem dX11_again_38 : decode cX11_again 38 = .ok (.ireturn, 1) := by decide +kernel
theorem dX11_again_39 : decode cX11_again 39 = .ok (.aload_n 0, 1) := by decide +kernel
theorem dX11_again_40 : decode cX11_again 40 = .ok (.getfield 23, 3) := by decide +kernel
theorem dX11_again_43 : decode cX11_again 43 = .ok (.aload_n 0, 1) := by decide +kernel
theorem dX11_again_44 : decode cX11_again 44 = .ok (.getfield 27, 3) := by decide +kernel
theorem dX11_again_47 : decode cX11_again 47 = .ok (.iload_n 1, 1) := by decide +kernel
theorem dX11_again_48 : decode cX11_again 48 = .ok (.aaload, 1) := by decide +kernel
theorem dX11_again_49 : decode cX11_again 49 = .ok (.invokevirtual 327, 3) := by decide +kernel
theorem dX11_again_52 : decode cX11_again 52 = .ok (.iconst 1, 1) := by decide +kernel
theorem dX11_again_53 : decode cX11_again 53 = .ok (.ireturn, 1) := by decide +kernel
set_option maxHeartbeats 4000000 in
set_option maxRecDepth 20000 in
theorem c_x_again {G : Gx} {d : Nat} {x1 : Int32} {μ : Mem} {r : Int32 × Mem} (hf : f_x_again x1 μ = some r) : Con G M_x_again (d + 2) [.ref (gA G 0), .int x1] μ (some (.int r.1), r.2) := by
  refine Con.ofZ ⟨rfl, rfl, Nat.le_of_ble_eq_true rfl⟩ rfl (fun X hG hX hr dy => ?_)
  subst hG
  show AW X 0 [(0, .ref (gA (xG X) 0)), (1, .int x1)] [] μ dy
  unfold f_x_again at hf
  refine r_iload_n hX dX11_again_0 1 rfl ?_
  refine r_if_lt hX 37 dX11_again_1 rfl (fun hc1 => ?_) (fun hc1 => ?_)
  · rw [if_pos hc1] at hf
    refine r_iconst hX (0 : Int32) dX11_again_37 rfl ?_
    obtain ⟨b2, hf⟩ := chk_eq hf
    exact fin_Z hf hr _ _ _ (zb_nar b2) dX11_again_38
  · rw [if_neg hc1] at hf
    refine r_iload_n hX dX11_again_4 1 rfl ?_
    refine r_iconst hX (2 : Int32) dX11_again_5 rfl ?_
    refine r_icmp_ge hX 37 dX11_again_6 rfl (fun hc3 => ?_) (fun hc3 => ?_)
    · rw [if_pos hc3] at hf
      refine r_iconst hX (0 : Int32) dX11_again_37 rfl ?_
      obtain ⟨b4, hf⟩ := chk_eq hf
      exact fin_Z hf hr _ _ _ (zb_nar b4) dX11_again_38
    · rw [if_neg hc3] at hf
      refine r_aload_n hX dX11_again_9 0 rfl ?_
      refine r_get hX fl_X11_31 (w_0 _ _ _) rfl dX11_again_10 ?_
      refine r_iload_n hX dX11_again_13 1 rfl ?_
      obtain ⟨b5, hf⟩ := chk_eq hf
      refine r_zald hX (w_65 _ _ _) (inb_in b5) dX11_again_14 ?_
      refine r_if_eq hX 37 dX11_again_15 rfl (fun hc6 => ?_) (fun hc6 => ?_)
      · rw [if_pos hc6] at hf
        refine r_iconst hX (0 : Int32) dX11_again_37 rfl ?_
        obtain ⟨b7, hf⟩ := chk_eq hf
        exact fin_Z hf hr _ _ _ (zb_nar b7) dX11_again_38
      · rw [if_neg hc6] at hf
        refine r_aload_n hX dX11_again_18 0 rfl ?_
        refine r_get hX fl_X11_27 (w_0 _ _ _) rfl dX11_again_19 ?_
        refine r_iload_n hX dX11_again_22 1 rfl ?_
        by_cases hc8 : x1 = 0
        · rw [if_pos hc8] at hf
          refine r_aald hX (w_64 _ _ _) (b := gA (xG X) 24) rfl rfl (by rw [hc8]; exact inb_in rfl) (by rw [hc8]; rfl) dX11_again_23 ?_
          refine r_getN hX fl_X11_155 (w_24 _ _ _) rfl dX11_again_24 ?_
          refine r_aload_n hX dX11_again_27 0 rfl ?_
          refine r_get hX fl_X11_23 (w_0 _ _ _) rfl dX11_again_28 ?_
          refine r_getN hX fl_X11_155 (w_4 _ _ _) rfl dX11_again_31 ?_
          refine r_icmp_eq hX 39 dX11_again_34 rfl (fun hc9 => ?_) (fun hc9 => ?_)
          · rw [if_pos hc9] at hf
            refine r_aload_n hX dX11_again_39 0 rfl ?_
            refine r_get hX fl_X11_23 (w_0 _ _ _) rfl dX11_again_40 ?_
            refine r_aload_n hX dX11_again_43 0 rfl ?_
            refine r_get hX fl_X11_27 (w_0 _ _ _) rfl dX11_again_44 ?_
            refine r_iload_n hX dX11_again_47 1 rfl ?_
            by_cases hc10 : x1 = 0
            · rw [if_pos hc10] at hf
              refine r_aald hX (w_64 _ _ _) (b := gA (xG X) 24) rfl rfl (by rw [hc10]; exact inb_in rfl) (by rw [hc10]; rfl) dX11_again_48 ?_
              obtain ⟨μ11, h12, hf⟩ := bd1_eq hf
              refine r_callVV (Ok.le hX (by omega)) (c_st_takeDays (d := d) (by decide) (by decide) h12) cv_X11_327 (w_4 _ _ _) rfl rfl (st := []) rfl rfl rfl dX11_again_49 (fun dy => ?_)
              refine r_iconst hX (1 : Int32) dX11_again_52 rfl ?_
              obtain ⟨b13, hf⟩ := chk_eq hf
              exact fin_Z hf hr _ _ _ (zb_nar b13) dX11_again_53
            · rw [if_neg hc10] at hf
              by_cases hc14 : x1 = 1
              · rw [if_pos hc14] at hf
                refine r_aald hX (w_64 _ _ _) (b := gA (xG X) 44) rfl rfl (by rw [hc14]; exact inb_in rfl) (by rw [hc14]; rfl) dX11_again_48 ?_
                obtain ⟨μ15, h16, hf⟩ := bd1_eq hf
                refine r_callVV (Ok.le hX (by omega)) (c_st_takeDays (d := d) (by decide) (by decide) h16) cv_X11_327 (w_4 _ _ _) rfl rfl (st := []) rfl rfl rfl dX11_again_49 (fun dy => ?_)
                refine r_iconst hX (1 : Int32) dX11_again_52 rfl ?_
                obtain ⟨b17, hf⟩ := chk_eq hf
                exact fin_Z hf hr _ _ _ (zb_nar b17) dX11_again_53
              · rw [if_neg hc14] at hf
                exact nomatch hf
          · rw [if_neg hc9] at hf
            refine r_iconst hX (0 : Int32) dX11_again_37 rfl ?_
            obtain ⟨b18, hf⟩ := chk_eq hf
            exact fin_Z hf hr _ _ _ (zb_nar b18) dX11_again_38
        · rw [if_neg hc8] at hf
          by_cases hc19 : x1 = 1
          · rw [if_pos hc19] at hf
            refine r_aald hX (w_64 _ _ _) (b := gA (xG X) 44) rfl rfl (by rw [hc19]; exact inb_in rfl) (by rw [hc19]; rfl) dX11_again_23 ?_
            refine r_getN hX fl_X11_155 (w_44 _ _ _) rfl dX11_again_24 ?_
            refine r_aload_n hX dX11_again_27 0 rfl ?_
            refine r_get hX fl_X11_23 (w_0 _ _ _) rfl dX11_again_28 ?_
            refine r_getN hX fl_X11_155 (w_4 _ _ _) rfl dX11_again_31 ?_
            refine r_icmp_eq hX 39 dX11_again_34 rfl (fun hc20 => ?_) (fun hc20 => ?_)
            · rw [if_pos hc20] at hf
              refine r_aload_n hX dX11_again_39 0 rfl ?_
              refine r_get hX fl_X11_23 (w_0 _ _ _) rfl dX11_again_40 ?_
              refine r_aload_n hX dX11_again_43 0 rfl ?_
              refine r_get hX fl_X11_27 (w_0 _ _ _) rfl dX11_again_44 ?_
              refine r_iload_n hX dX11_again_47 1 rfl ?_
              by_cases hc21 : x1 = 0
              · rw [if_pos hc21] at hf
                refine r_aald hX (w_64 _ _ _) (b := gA (xG X) 24) rfl rfl (by rw [hc21]; exact inb_in rfl) (by rw [hc21]; rfl) dX11_again_48 ?_
                obtain ⟨μ22, h23, hf⟩ := bd1_eq hf
                refine r_callVV (Ok.le hX (by omega)) (c_st_takeDays (d := d) (by decide) (by decide) h23) cv_X11_327 (w_4 _ _ _) rfl rfl (st := []) rfl rfl rfl dX11_again_49 (fun dy => ?_)
                refine r_iconst hX (1 : Int32) dX11_again_52 rfl ?_
                obtain ⟨b24, hf⟩ := chk_eq hf
                exact fin_Z hf hr _ _ _ (zb_nar b24) dX11_again_53
              · rw [if_neg hc21] at hf
                by_cases hc25 : x1 = 1
                · rw [if_pos hc25] at hf
                  refine r_aald hX (w_64 _ _ _) (b := gA (xG X) 44) rfl rfl (by rw [hc25]; exact inb_in rfl) (by rw [hc25]; rfl) dX11_again_48 ?_
                  obtain ⟨μ26, h27, hf⟩ := bd1_eq hf
                  refine r_callVV (Ok.le hX (by omega)) (c_st_takeDays (d := d) (by decide) (by decide) h27) cv_X11_327 (w_4 _ _ _) rfl rfl (st := []) rfl rfl rfl dX11_again_49 (fun dy => ?_)
                  refine r_iconst hX (1 : Int32) dX11_again_52 rfl ?_
                  obtain ⟨b28, hf⟩ := chk_eq hf
                  exact fin_Z hf hr _ _ _ (zb_nar b28) dX11_again_53
                · rw [if_neg hc25] at hf
                  exact nomatch hf
            · rw [if_neg hc20] at hf
              refine r_iconst hX (0 : Int32) dX11_again_37 rfl ?_
              obtain ⟨b29, hf⟩ := chk_eq hf
              exact fin_Z hf hr _ _ _ (zb_nar b29) dX11_again_38
          · rw [if_neg hc19] at hf
            exact nomatch hf
theorem dX11_count_0 : decode cX11_count 0 = .ok (.iload_n 1, 1) := by decide +kernel
theorem dX11_count_1 : decode cX11_count 1 = .ok (.tableswitch 139 0 7 #[47, 55, 63, 74, 82, 118, 126, 131], 47) := by decide +kernel
theorem dX11_count_48 : decode cX11_count 48 = .ok (.aload_n 0, 1) := by decide +kernel
theorem dX11_count_49 : decode cX11_count 49 = .ok (.getfield 23, 3) := by decide +kernel
theorem dX11_count_52 : decode cX11_count 52 = .ok (.getfield 155, 3) := by decide +kernel
theorem dX11_count_55 : decode cX11_count 55 = .ok (.ireturn, 1) := by decide +kernel
theorem dX11_count_56 : decode cX11_count 56 = .ok (.aload_n 0, 1) := by decide +kernel
theorem dX11_count_57 : decode cX11_count 57 = .ok (.getfield 23, 3) := by decide +kernel
theorem dX11_count_60 : decode cX11_count 60 = .ok (.getfield 170, 3) := by decide +kernel
theorem dX11_count_63 : decode cX11_count 63 = .ok (.ireturn, 1) := by decide +kernel
theorem dX11_count_64 : decode cX11_count 64 = .ok (.aload_n 0, 1) := by decide +kernel
theorem dX11_count_65 : decode cX11_count 65 = .ok (.getfield 23, 3) := by decide +kernel
theorem dX11_count_68 : decode cX11_count 68 = .ok (.invokevirtual 123, 3) := by decide +kernel
theorem dX11_count_71 : decode cX11_count 71 = .ok (.invokestatic 281, 3) := by decide +kernel
theorem dX11_count_74 : decode cX11_count 74 = .ok (.ireturn, 1) := by decide +kernel
theorem dX11_count_75 : decode cX11_count 75 = .ok (.aload_n 0, 1) := by decide +kernel
theorem dX11_count_76 : decode cX11_count 76 = .ok (.getfield 23, 3) := by decide +kernel
theorem dX11_count_79 : decode cX11_count 79 = .ok (.getfield 133, 3) := by decide +kernel
theorem dX11_count_82 : decode cX11_count 82 = .ok (.ireturn, 1) := by decide +kernel
theorem dX11_count_83 : decode cX11_count 83 = .ok (.aload_n 0, 1) := by decide +kernel
theorem dX11_count_84 : decode cX11_count 84 = .ok (.getfield 38, 3) := by decide +kernel
theorem dX11_count_87 : decode cX11_count 87 = .ok (.iconst 0, 1) := by decide +kernel
theorem dX11_count_88 : decode cX11_count 88 = .ok (.aaload, 1) := by decide +kernel
theorem dX11_count_89 : decode cX11_count 89 = .ok (.invokevirtual 330, 3) := by decide +kernel
theorem dX11_count_92 : decode cX11_count 92 = .ok (.ifCond .eq 7, 3) := by decide +kernel
theorem dX11_count_95 : decode cX11_count 95 = .ok (.iconst 1, 1) := by decide +kernel
theorem dX11_count_96 : decode cX11_count 96 = .ok (.goto 4, 3) := by decide +kernel
theorem dX11_count_99 : decode cX11_count 99 = .ok (.iconst 0, 1) := by decide +kernel
theorem dX11_count_100 : decode cX11_count 100 = .ok (.aload_n 0, 1) := by decide +kernel
theorem dX11_count_101 : decode cX11_count 101 = .ok (.getfield 38, 3) := by decide +kernel
theorem dX11_count_104 : decode cX11_count 104 = .ok (.iconst 1, 1) := by decide +kernel
theorem dX11_count_105 : decode cX11_count 105 = .ok (.aaload, 1) := by decide +kernel
theorem dX11_count_106 : decode cX11_count 106 = .ok (.invokevirtual 330, 3) := by decide +kernel
theorem dX11_count_109 : decode cX11_count 109 = .ok (.ifCond .eq 7, 3) := by decide +kernel
theorem dX11_count_112 : decode cX11_count 112 = .ok (.iconst 2, 1) := by decide +kernel
theorem dX11_count_113 : decode cX11_count 113 = .ok (.goto 4, 3) := by decide +kernel
theorem dX11_count_116 : decode cX11_count 116 = .ok (.iconst 0, 1) := by decide +kernel
theorem dX11_count_117 : decode cX11_count 117 = .ok (.ior, 1) := by decide +kernel
theorem dX11_count_118 : decode cX11_count 118 = .ok (.ireturn, 1) := by decide +kernel
theorem dX11_count_119 : decode cX11_count 119 = .ok (.aload_n 0, 1) := by decide +kernel
theorem dX11_count_120 : decode cX11_count 120 = .ok (.getfield 16, 3) := by decide +kernel
theorem dX11_count_123 : decode cX11_count 123 = .ok (.getfield 334, 3) := by decide +kernel
theorem dX11_count_126 : decode cX11_count 126 = .ok (.ireturn, 1) := by decide +kernel
theorem dX11_count_127 : decode cX11_count 127 = .ok (.aload_n 0, 1) := by decide +kernel
theorem dX11_count_128 : decode cX11_count 128 = .ok (.getfield 108, 3) := by decide +kernel
theorem dX11_count_131 : decode cX11_count 131 = .ok (.ireturn, 1) := by decide +kernel
theorem dX11_count_132 : decode cX11_count 132 = .ok (.aload_n 0, 1) := by decide +kernel
theorem dX11_count_133 : decode cX11_count 133 = .ok (.getfield 23, 3) := by decide +kernel
theorem dX11_count_136 : decode cX11_count 136 = .ok (.invokevirtual 337, 3) := by decide +kernel
theorem dX11_count_139 : decode cX11_count 139 = .ok (.ireturn, 1) := by decide +kernel
theorem dX11_count_140 : decode cX11_count 140 = .ok (.iconst (-1), 1) := by decide +kernel
theorem dX11_count_141 : decode cX11_count 141 = .ok (.ireturn, 1) := by decide +kernel
set_option maxHeartbeats 4000000 in
set_option maxRecDepth 20000 in
theorem c_x_count {G : Gx} {d : Nat} {x1 : Int32} {μ : Mem} {r : Int32 × Mem} (hf : f_x_count x1 μ = some r) : Con G M_x_count (d + 2) [.ref (gA G 0), .int x1] μ (some (.int r.1), r.2) := by
  refine Con.ofI ⟨rfl, rfl, Nat.le_of_ble_eq_true rfl⟩ rfl rfl (fun X hG hX hr dy => ?_)
  subst hG
  show AW X 0 [(0, .ref (gA (xG X) 0)), (1, .int x1)] [] μ dy
  unfold f_x_count at hf
  refine r_iload_n hX dX11_count_0 1 rfl ?_
  by_cases hc1 : x1 = 0
  · rw [if_pos hc1] at hf
    refine r_tabIn hX (off := 47) 48 dX11_count_1 (by rw [hc1]; decide) (by rw [hc1]; decide) (by rw [hc1]; rfl) rfl ?_
    refine r_aload_n hX dX11_count_48 0 rfl ?_
    refine r_get hX fl_X11_23 (w_0 _ _ _) rfl dX11_count_49 ?_
    refine r_getN hX fl_X11_155 (w_4 _ _ _) rfl dX11_count_52 ?_
    exact fin_I hf hr _ _ _ dX11_count_55
  · rw [if_neg hc1] at hf
    by_cases hc2 : x1 = 1
    · rw [if_pos hc2] at hf
      refine r_tabIn hX (off := 55) 56 dX11_count_1 (by rw [hc2]; decide) (by rw [hc2]; decide) (by rw [hc2]; rfl) rfl ?_
      refine r_aload_n hX dX11_count_56 0 rfl ?_
      refine r_get hX fl_X11_23 (w_0 _ _ _) rfl dX11_count_57 ?_
      refine r_getN hX fl_X11_170 (w_4 _ _ _) rfl dX11_count_60 ?_
      exact fin_I hf hr _ _ _ dX11_count_63
    · rw [if_neg hc2] at hf
      by_cases hc3 : x1 = 2
      · rw [if_pos hc3] at hf
        refine r_tabIn hX (off := 63) 64 dX11_count_1 (by rw [hc3]; decide) (by rw [hc3]; decide) (by rw [hc3]; rfl) rfl ?_
        refine r_aload_n hX dX11_count_64 0 rfl ?_
        refine r_get hX fl_X11_23 (w_0 _ _ _) rfl dX11_count_65 ?_
        obtain ⟨v6, μ4, h5, hf⟩ := bd2_eq hf
        refine r_callVI (Ok.le hX (by omega)) (c_st_now (d := d)  h5) cv_X11_123 (w_4 _ _ _) rfl rfl (st := []) rfl rfl rfl dX11_count_68 (fun dy => ?_)
        obtain ⟨v9, μ7, h8, hf⟩ := bd2_eq hf
        refine r_callSI (Ok.le hX (by omega)) (c_jd_bitCount (d := d)  h8) cs_X11_281 (st := []) rfl rfl rfl dX11_count_71 (fun dy => ?_)
        exact fin_I hf hr _ _ _ dX11_count_74
      · rw [if_neg hc3] at hf
        by_cases hc10 : x1 = 3
        · rw [if_pos hc10] at hf
          refine r_tabIn hX (off := 74) 75 dX11_count_1 (by rw [hc10]; decide) (by rw [hc10]; decide) (by rw [hc10]; rfl) rfl ?_
          refine r_aload_n hX dX11_count_75 0 rfl ?_
          refine r_get hX fl_X11_23 (w_0 _ _ _) rfl dX11_count_76 ?_
          refine r_getN hX fl_X11_133 (w_4 _ _ _) rfl dX11_count_79 ?_
          exact fin_I hf hr _ _ _ dX11_count_82
        · rw [if_neg hc10] at hf
          by_cases hc11 : x1 = 4
          · rw [if_pos hc11] at hf
            refine r_tabIn hX (off := 82) 83 dX11_count_1 (by rw [hc11]; decide) (by rw [hc11]; decide) (by rw [hc11]; rfl) rfl ?_
            refine r_aload_n hX dX11_count_83 0 rfl ?_
            refine r_get hX fl_X11_38 (w_0 _ _ _) rfl dX11_count_84 ?_
            refine r_iconst hX (0 : Int32) dX11_count_87 rfl ?_
            obtain ⟨b12, hf⟩ := chk_eq hf
            obtain ⟨b13, hf⟩ := chk_eq hf
            refine r_aald hX (w_66 _ _ _) (b := gA (xG X) (67 + 3 * ((μ.1 v_x_rules (0 : Int32).toNatClampNeg).toNatClampNeg))) rfl rfl (inb_in b12) (if_pos (inb_lt b12)) dX11_count_88 ?_
            obtain ⟨v16, μ14, h15, hf⟩ := bd2_eq hf
            refine r_callVI (Ok.le hX (by omega)) (c_ru_isTold (d := d) (of_decide_eq_true b13) h15) cv_X11_330 (wRu_o (of_decide_eq_true b13)) rfl rfl (st := []) rfl rfl rfl dX11_count_89 (fun dy => ?_)
            obtain ⟨v17, e18, hf⟩ := bnd_eq hf
            have J19 : AW X 100 [(0, .ref (gA (xG X) 0)), (1, .int x1)] [.int v17] μ14 dy := by
              refine r_aload_n hX dX11_count_100 0 rfl ?_
              refine r_get hX fl_X11_38 (w_0 _ _ _) rfl dX11_count_101 ?_
              refine r_iconst hX (1 : Int32) dX11_count_104 rfl ?_
              obtain ⟨b20, hf⟩ := chk_eq hf
              obtain ⟨b21, hf⟩ := chk_eq hf
              refine r_aald hX (w_66 _ _ _) (b := gA (xG X) (67 + 3 * ((μ14.1 v_x_rules (1 : Int32).toNatClampNeg).toNatClampNeg))) rfl rfl (inb_in b20) (if_pos (inb_lt b20)) dX11_count_105 ?_
              obtain ⟨v24, μ22, h23, hf⟩ := bd2_eq hf
              refine r_callVI (Ok.le hX (by omega)) (c_ru_isTold (d := d) (of_decide_eq_true b21) h23) cv_X11_330 (wRu_o (of_decide_eq_true b21)) rfl rfl (st := [.int v17]) rfl rfl rfl dX11_count_106 (fun dy => ?_)
              obtain ⟨v25, e26, hf⟩ := bnd_eq hf
              have J27 : AW X 117 [(0, .ref (gA (xG X) 0)), (1, .int x1)] [.int v25, .int v17] μ22 dy := by
                refine r_ior hX dX11_count_117 ?_
                exact fin_I hf hr _ _ _ dX11_count_118
              refine r_if_eq hX 116 dX11_count_109 rfl (fun hc28 => ?_) (fun hc28 => ?_)
              · refine r_iconst hX (0 : Int32) dX11_count_116 rfl ?_
                exact r_topI (e26.trans (by rw [if_pos hc28])) J27
              · refine r_iconst hX (2 : Int32) dX11_count_112 rfl ?_
                refine r_goto hX 117 dX11_count_113 rfl ?_
                exact r_topI (e26.trans (by rw [if_neg hc28])) J27
            refine r_if_eq hX 99 dX11_count_92 rfl (fun hc29 => ?_) (fun hc29 => ?_)
            · refine r_iconst hX (0 : Int32) dX11_count_99 rfl ?_
              exact r_topI (e18.trans (by rw [if_pos hc29])) J19
            · refine r_iconst hX (1 : Int32) dX11_count_95 rfl ?_
              refine r_goto hX 100 dX11_count_96 rfl ?_
              exact r_topI (e18.trans (by rw [if_neg hc29])) J19
          · rw [if_neg hc11] at hf
            by_cases hc30 : x1 = 5
            · rw [if_pos hc30] at hf
              refine r_tabIn hX (off := 118) 119 dX11_count_1 (by rw [hc30]; decide) (by rw [hc30]; decide) (by rw [hc30]; rfl) rfl ?_
              refine r_aload_n hX dX11_count_119 0 rfl ?_
              refine r_get hX fl_X11_16 (w_0 _ _ _) rfl dX11_count_120 ?_
              refine r_getN hX fl_X11_334 (w_2 _ _ _) rfl dX11_count_123 ?_
              exact fin_I hf hr _ _ _ dX11_count_126
            · rw [if_neg hc30] at hf
              by_cases hc31 : x1 = 6
              · rw [if_pos hc31] at hf
                refine r_tabIn hX (off := 126) 127 dX11_count_1 (by rw [hc31]; decide) (by rw [hc31]; decide) (by rw [hc31]; rfl) rfl ?_
                refine r_aload_n hX dX11_count_127 0 rfl ?_
                refine r_get hX fl_X11_108 (w_0 _ _ _) rfl dX11_count_128 ?_
                exact fin_I hf hr _ _ _ dX11_count_131
              · rw [if_neg hc31] at hf
                by_cases hc32 : x1 = 7
                · rw [if_pos hc32] at hf
                  refine r_tabIn hX (off := 131) 132 dX11_count_1 (by rw [hc32]; decide) (by rw [hc32]; decide) (by rw [hc32]; rfl) rfl ?_
                  refine r_aload_n hX dX11_count_132 0 rfl ?_
                  refine r_get hX fl_X11_23 (w_0 _ _ _) rfl dX11_count_133 ?_
                  obtain ⟨v35, μ33, h34, hf⟩ := bd2_eq hf
                  refine r_callVI (Ok.le hX (by omega)) (c_st_pairs (d := d)  h34) cv_X11_337 (w_4 _ _ _) rfl rfl (st := []) rfl rfl rfl dX11_count_136 (fun dy => ?_)
                  exact fin_I hf hr _ _ _ dX11_count_139
                · rw [if_neg hc32] at hf
                  have J36 : AW X 140 [(0, .ref (gA (xG X) 0)), (1, .int x1)] [] μ dy := by
                    refine r_iconst hX (-1 : Int32) dX11_count_140 rfl ?_
                    exact fin_I hf hr _ _ _ dX11_count_141
                  by_cases hc37 : x1.toInt < 0
                  · exact r_tabOut hX 140 dX11_count_1 (Or.inl hc37) rfl J36
                  by_cases hc38 : 7 < x1.toInt
                  · exact r_tabOut hX 140 dX11_count_1 (Or.inr hc38) rfl J36
                  have q39 : x1.toInt = 0 ∨ x1.toInt = 1 ∨ x1.toInt = 2 ∨ x1.toInt = 3 ∨ x1.toInt = 4 ∨ x1.toInt = 5 ∨ x1.toInt = 6 ∨ x1.toInt = 7 := by omega
                  rcases q39 with q39 | q39 | q39 | q39 | q39 | q39 | q39 | q39
                  · exact absurd (i32_eq (y := 0) q39 rfl) hc1
                  · exact absurd (i32_eq (y := 1) q39 rfl) hc2
                  · exact absurd (i32_eq (y := 2) q39 rfl) hc3
                  · exact absurd (i32_eq (y := 3) q39 rfl) hc10
                  · exact absurd (i32_eq (y := 4) q39 rfl) hc11
                  · exact absurd (i32_eq (y := 5) q39 rfl) hc30
                  · exact absurd (i32_eq (y := 6) q39 rfl) hc31
                  · exact absurd (i32_eq (y := 7) q39 rfl) hc32
theorem dX11_row_0 : decode cX11_row 0 = .ok (.iload_n 1, 1) := by decide +kernel
theorem dX11_row_1 : decode cX11_row 1 = .ok (.ifCond .lt 14, 3) := by decide +kernel
theorem dX11_row_4 : decode cX11_row 4 = .ok (.iload_n 1, 1) := by decide +kernel
theorem dX11_row_5 : decode cX11_row 5 = .ok (.aload_n 0, 1) := by decide +kernel
theorem dX11_row_6 : decode cX11_row 6 = .ok (.getfield 16, 3) := by decide +kernel
theorem dX11_row_9 : decode cX11_row 9 = .ok (.getfield 334, 3) := by decide +kernel
theorem dX11_row_12 : decode cX11_row 12 = .ok (.if_icmp .lt 11, 3) := by decide +kernel
theorem dX11_row_15 : decode cX11_row 15 = .ok (.new 120, 3) := by decide +kernel
theorem dX11_row_18 : decode cX11_row 18 = .ok (.dup, 1) := by decide +kernel
theorem dX11_row_19 : decode cX11_row 19 = .ok (.invokespecial 122, 3) := by decide +kernel
theorem dX11_row_22 : decode cX11_row 22 = .ok (.athrow, 1) := by decide +kernel
theorem dX11_row_23 : decode cX11_row 23 = .ok (.aload_n 0, 1) := by decide +kernel
theorem dX11_row_24 : decode cX11_row 24 = .ok (.getfield 16, 3) := by decide +kernel
theorem dX11_row_27 : decode cX11_row 27 = .ok (.getfield 340, 3) := by decide +kernel
theorem dX11_row_30 : decode cX11_row 30 = .ok (.iload_n 1, 1) := by decide +kernel
theorem dX11_row_31 : decode cX11_row 31 = .ok (.laload, 1) := by decide +kernel
theorem dX11_row_32 : decode cX11_row 32 = .ok (.lreturn, 1) := by decide +kernel
set_option maxHeartbeats 4000000 in
set_option maxRecDepth 20000 in
theorem b_x_row_b15 {X : Cx} {d : Nat} (hX : Ok M_x_row (d + 0) X) {r : Int64 × Mem} (hr : RetL M_x_row X r.1 r.2)  (μ : Mem) (dy : Nat → Nat) (hf : f_x_row_b15  μ = some r) : AW X 15 [] [] μ dy := by
  unfold f_x_row_b15 at hf
  exact nomatch hf
set_option maxHeartbeats 4000000 in
set_option maxRecDepth 20000 in
theorem c_x_row {G : Gx} {d : Nat} {x1 : Int32} {μ : Mem} {r : Int64 × Mem} (hf : f_x_row x1 μ = some r) : Con G M_x_row (d + 0) [.ref (gA G 0), .int x1] μ (some (.long r.1), r.2) := by
  refine Con.ofL ⟨rfl, rfl, Nat.le_of_ble_eq_true rfl⟩ rfl (fun X hG hX hr dy => ?_)
  subst hG
  show AW X 0 [(0, .ref (gA (xG X) 0)), (1, .int x1)] [] μ dy
  unfold f_x_row at hf
  refine r_iload_n hX dX11_row_0 1 rfl ?_
  refine r_if_lt hX 15 dX11_row_1 rfl (fun hc1 => ?_) (fun hc1 => ?_)
  · rw [if_pos hc1] at hf
    refine r_weak [] rfl ?_
    exact b_x_row_b15 hX hr _ _ hf
  · rw [if_neg hc1] at hf
    refine r_iload_n hX dX11_row_4 1 rfl ?_
    refine r_aload_n hX dX11_row_5 0 rfl ?_
    refine r_get hX fl_X11_16 (w_0 _ _ _) rfl dX11_row_6 ?_
    refine r_getN hX fl_X11_334 (w_2 _ _ _) rfl dX11_row_9 ?_
    refine r_icmp_lt hX 23 dX11_row_12 rfl (fun hc2 => ?_) (fun hc2 => ?_)
    · rw [if_pos hc2] at hf
      refine r_aload_n hX dX11_row_23 0 rfl ?_
      refine r_get hX fl_X11_16 (w_0 _ _ _) rfl dX11_row_24 ?_
      refine r_getN hX fl_X11_340 (w_2 _ _ _) rfl dX11_row_27 ?_
      refine r_iload_n hX dX11_row_30 1 rfl ?_
      obtain ⟨b3, hf⟩ := chk_eq hf
      refine r_lald hX (w_3 _ _ _) (inb_in b3) dX11_row_31 ?_
      exact fin_L hf hr _ _ _ dX11_row_32
    · rw [if_neg hc2] at hf
      refine r_weak [] rfl ?_
      exact b_x_row_b15 hX hr _ _ hf
theorem dX12_thrown_0 : decode cX12_thrown 0 = .ok (.aload_n 0, 1) := by decide +kernel
theorem dX12_thrown_1 : decode cX12_thrown 1 = .ok (.getfield 80, 3) := by decide +kernel
theorem dX12_thrown_4 : decode cX12_thrown 4 = .ok (.ireturn, 1) := by decide +kernel
set_option maxHeartbeats 4000000 in
set_option maxRecDepth 20000 in
theorem c_m_thrown {G : Gx} {d : Nat}  {μ : Mem} {r : Int32 × Mem} (hf : f_m_thrown  μ = some r) : Con G M_m_thrown (d + 0) [.ref (gA G 111)] μ (some (.int r.1), r.2) := by
  refine Con.ofI ⟨rfl, rfl, Nat.le_of_ble_eq_true rfl⟩ rfl rfl (fun X hG hX hr dy => ?_)
  subst hG
  show AW X 0 [(0, .ref (gA (xG X) 111))] [] μ dy
  unfold f_m_thrown at hf
  refine r_aload_n hX dX12_thrown_0 0 rfl ?_
  refine r_get hX fl_X12_80 (w_111 _ _ _) rfl dX12_thrown_1 ?_
  exact fin_I hf hr _ _ _ dX12_thrown_4
theorem dX12_in_0 : decode cX12_in 0 = .ok (.iload_n 0, 1) := by decide +kernel
theorem dX12_in_1 : decode cX12_in 1 = .ok (.iload_n 1, 1) := by decide +kernel
theorem dX12_in_2 : decode cX12_in 2 = .ok (.if_icmp .lt 12, 3) := by decide +kernel
theorem dX12_in_5 : decode cX12_in 5 = .ok (.iload_n 0, 1) := by decide +kernel
theorem dX12_in_6 : decode cX12_in 6 = .ok (.iload_n 2, 1) := by decide +kernel
theorem dX12_in_7 : decode cX12_in 7 = .ok (.if_icmp .gt 7, 3) := by decide +kernel
theorem dX12_in_10 : decode cX12_in 10 = .ok (.iconst 1, 1) := by decide +kernel
theorem dX12_in_11 : decode cX12_in 11 = .ok (.goto 4, 3) := by decide +kernel
theorem dX12_in_14 : decode cX12_in 14 = .ok (.iconst 0, 1) := by decide +kernel
theorem dX12_in_15 : decode cX12_in 15 = .ok (.ireturn, 1) := by decide +kernel
set_option maxHeartbeats 4000000 in
set_option maxRecDepth 20000 in
theorem c_m_in {G : Gx} {d : Nat} {x0 : Int32} {x1 : Int32} {x2 : Int32} {μ : Mem} {r : Int32 × Mem} (hf : f_m_in x0 x1 x2 μ = some r) : Con G M_m_in (d + 0) [.int x0, .int x1, .int x2] μ (some (.int r.1), r.2) := by
  refine Con.ofZ ⟨rfl, rfl, Nat.le_of_ble_eq_true rfl⟩ rfl (fun X hG hX hr dy => ?_)
  subst hG
  show AW X 0 [(0, .int x0), (1, .int x1), (2, .int x2)] [] μ dy
  unfold f_m_in at hf
  refine r_iload_n hX dX12_in_0 0 rfl ?_
  refine r_iload_n hX dX12_in_1 1 rfl ?_
  obtain ⟨v1, e2, hf⟩ := bnd_eq hf
  have J3 : AW X 15 [(0, .int x0), (1, .int x1), (2, .int x2)] [.int v1] μ dy := by
    obtain ⟨b4, hf⟩ := chk_eq hf
    exact fin_Z hf hr _ _ _ (zb_nar b4) dX12_in_15
  refine r_icmp_lt hX 14 dX12_in_2 rfl (fun hc5 => ?_) (fun hc5 => ?_)
  · refine r_iconst hX (0 : Int32) dX12_in_14 rfl ?_
    exact r_topI (e2.trans (by rw [if_pos hc5])) J3
  · refine r_iload_n hX dX12_in_5 0 rfl ?_
    refine r_iload_n hX dX12_in_6 2 rfl ?_
    refine r_icmp_gt hX 14 dX12_in_7 rfl (fun hc6 => ?_) (fun hc6 => ?_)
    · refine r_iconst hX (0 : Int32) dX12_in_14 rfl ?_
      exact r_topI (e2.trans (by rw [if_neg hc5, if_pos hc6])) J3
    · refine r_iconst hX (1 : Int32) dX12_in_10 rfl ?_
      refine r_goto hX 15 dX12_in_11 rfl ?_
      exact r_topI (e2.trans (by rw [if_neg hc5, if_neg hc6])) J3
theorem dX12_has_0 : decode cX12_has 0 = .ok (.iload_n 0, 1) := by decide +kernel
theorem dX12_has_1 : decode cX12_has 1 = .ok (.iload_n 1, 1) := by decide +kernel
theorem dX12_has_2 : decode cX12_has 2 = .ok (.ishr, 1) := by decide +kernel
theorem dX12_has_3 : decode cX12_has 3 = .ok (.iconst 1, 1) := by decide +kernel
theorem dX12_has_4 : decode cX12_has 4 = .ok (.iand, 1) := by decide +kernel
theorem dX12_has_5 : decode cX12_has 5 = .ok (.iconst 1, 1) := by decide +kernel
theorem dX12_has_6 : decode cX12_has 6 = .ok (.if_icmp .ne 7, 3) := by decide +kernel
theorem dX12_has_9 : decode cX12_has 9 = .ok (.iconst 1, 1) := by decide +kernel
theorem dX12_has_10 : decode cX12_has 10 = .ok (.goto 4, 3) := by decide +kernel
theorem dX12_has_13 : decode cX12_has 13 = .ok (.iconst 0, 1) := by decide +kernel
theorem dX12_has_14 : decode cX12_has 14 = .ok (.ireturn, 1) := by decide +kernel
set_option maxHeartbeats 4000000 in
set_option maxRecDepth 20000 in
theorem c_m_has {G : Gx} {d : Nat} {x0 : Int32} {x1 : Int32} {μ : Mem} {r : Int32 × Mem} (hf : f_m_has x0 x1 μ = some r) : Con G M_m_has (d + 0) [.int x0, .int x1] μ (some (.int r.1), r.2) := by
  refine Con.ofZ ⟨rfl, rfl, Nat.le_of_ble_eq_true rfl⟩ rfl (fun X hG hX hr dy => ?_)
  subst hG
  show AW X 0 [(0, .int x0), (1, .int x1)] [] μ dy
  unfold f_m_has at hf
  refine r_iload_n hX dX12_has_0 0 rfl ?_
  refine r_iload_n hX dX12_has_1 1 rfl ?_
  refine r_ishr hX dX12_has_2 ?_
  refine r_iconst hX (1 : Int32) dX12_has_3 rfl ?_
  refine r_iand hX dX12_has_4 ?_
  refine r_iconst hX (1 : Int32) dX12_has_5 rfl ?_
  obtain ⟨v1, e2, hf⟩ := bnd_eq hf
  have J3 : AW X 14 [(0, .int x0), (1, .int x1)] [.int v1] μ dy := by
    obtain ⟨b4, hf⟩ := chk_eq hf
    exact fin_Z hf hr _ _ _ (zb_nar b4) dX12_has_14
  refine r_icmp_ne hX 13 dX12_has_6 rfl (fun hc5 => ?_) (fun hc5 => ?_)
  · refine r_iconst hX (0 : Int32) dX12_has_13 rfl ?_
    exact r_topI (e2.trans (by rw [if_neg hc5])) J3
  · refine r_iconst hX (1 : Int32) dX12_has_9 rfl ?_
    refine r_goto hX 14 dX12_has_10 rfl ?_
    exact r_topI (e2.trans (by rw [if_pos hc5])) J3
theorem dX12_lost_0 : decode cX12_lost 0 = .ok (.aload_n 0, 1) := by decide +kernel
theorem dX12_lost_1 : decode cX12_lost 1 = .ok (.iconst 1, 1) := by decide +kernel
theorem dX12_lost_2 : decode cX12_lost 2 = .ok (.putfield 80, 3) := by decide +kernel
theorem dX12_lost_5 : decode cX12_lost 5 = .ok (.iconst 0, 1) := by decide +kernel
theorem dX12_lost_6 : decode cX12_lost 6 = .ok (.ireturn, 1) := by decide +kernel
set_option maxHeartbeats 4000000 in
set_option maxRecDepth 20000 in
theorem c_m_lost {G : Gx} {d : Nat}  {μ : Mem} {r : Int32 × Mem} (hf : f_m_lost  μ = some r) : Con G M_m_lost (d + 0) [.ref (gA G 111)] μ (some (.int r.1), r.2) := by
  refine Con.ofI ⟨rfl, rfl, Nat.le_of_ble_eq_true rfl⟩ rfl rfl (fun X hG hX hr dy => ?_)
  subst hG
  show AW X 0 [(0, .ref (gA (xG X) 111))] [] μ dy
  unfold f_m_lost at hf
  refine r_aload_n hX dX12_lost_0 0 rfl ?_
  refine r_iconst hX (1 : Int32) dX12_lost_1 rfl ?_
  obtain ⟨μ1, e2, hf⟩ := bnd_eq hf
  refine r_put hX fl_X12_80 ft_X12_11 (w_111 _ _ _) rfl rfl rfl (s_111_11 _ _ _ _) e2 rfl dX12_lost_2 ?_
  refine r_iconst hX (0 : Int32) dX12_lost_5 rfl ?_
  exact fin_I hf hr _ _ _ dX12_lost_6
