theorem dJ0_coder_7d493_0 : decode cJ0_coder_7d493 0 = .ok (.getstatic 38, 3) := by decide +kernel
theorem dJ0_coder_7d493_3 : decode cJ0_coder_7d493 3 = .ok (.ifCond .eq 10, 3) := by decide +kernel
theorem dJ0_coder_7d493_6 : decode cJ0_coder_7d493 6 = .ok (.aload_n 0, 1) := by decide +kernel
theorem dJ0_coder_7d493_7 : decode cJ0_coder_7d493 7 = .ok (.getfield 15, 3) := by decide +kernel
theorem dJ0_coder_7d493_10 : decode cJ0_coder_7d493 10 = .ok (.goto 4, 3) := by decide +kernel
theorem dJ0_coder_7d493_13 : decode cJ0_coder_7d493 13 = .ok (.iconst 1, 1) := by decide +kernel
theorem dJ0_coder_7d493_14 : decode cJ0_coder_7d493 14 = .ok (.ireturn, 1) := by decide +kernel
set_option maxHeartbeats 4000000 in
set_option maxRecDepth 20000 in
theorem c_jd_coder {G : Gx} {d : Nat} {s : Nat} (hs : s < 8)  {μ : Mem} {r : Int32 × Mem} (hf : f_jd_coder s  μ = some r) : Con G M_jd_coder (d + 0) [.ref (gK G s)] μ (some (.int r.1), r.2) := by
  refine Con.ofY ⟨rfl, rfl, Nat.le_of_ble_eq_true rfl⟩ rfl (fun X hG hX hr dy => ?_)
  subst hG
  show AW X 0 [(0, .ref (gK (xG X) s))] [] μ dy
  unfold f_jd_coder at hf
  refine r_gets hX kf_J0_38 dJ0_coder_7d493_0 ?_
  obtain ⟨v1, e2, hf⟩ := bnd_eq hf
  have J3 : AW X 14 [(0, .ref (gK (xG X) s))] [.int v1] μ dy := by
    obtain ⟨b4, hf⟩ := chk_eq hf
    exact fin_Y hf hr _ _ _ (zb_narB b4) dJ0_coder_7d493_14
  refine r_if_eq hX 13 dJ0_coder_7d493_3 rfl (fun hc5 => ?_) (fun hc5 => ?_)
  · refine r_iconst hX (1 : Int32) dJ0_coder_7d493_13 rfl ?_
    exact r_topI (e2.trans (by rw [if_pos hc5])) J3
  · refine r_aload_n hX dJ0_coder_7d493_6 0 rfl ?_
    refine r_strC hX hs kf_J0_15 dJ0_coder_7d493_7 ?_
    refine r_goto hX 14 dJ0_coder_7d493_10 rfl ?_
    exact r_topI (e2.trans (by rw [if_neg hc5])) J3
theorem dJ0_length_8abf5_0 : decode cJ0_length_8abf5 0 = .ok (.aload_n 0, 1) := by decide +kernel
theorem dJ0_length_8abf5_1 : decode cJ0_length_8abf5 1 = .ok (.getfield 9, 3) := by decide +kernel
theorem dJ0_length_8abf5_4 : decode cJ0_length_8abf5 4 = .ok (.arraylength, 1) := by decide +kernel
theorem dJ0_length_8abf5_5 : decode cJ0_length_8abf5 5 = .ok (.aload_n 0, 1) := by decide +kernel
theorem dJ0_length_8abf5_6 : decode cJ0_length_8abf5 6 = .ok (.invokevirtual 335, 3) := by decide +kernel
theorem dJ0_length_8abf5_9 : decode cJ0_length_8abf5 9 = .ok (.ishr, 1) := by decide +kernel
theorem dJ0_length_8abf5_10 : decode cJ0_length_8abf5 10 = .ok (.ireturn, 1) := by decide +kernel
set_option maxHeartbeats 4000000 in
set_option maxRecDepth 20000 in
theorem c_jd_length_J0_8abf5 {G : Gx} {d : Nat} {s : Nat} (hs : s < 8)  {μ : Mem} {r : Int32 × Mem} (hf : f_jd_length_J0_8abf5 s  μ = some r) : Con G M_jd_length_J0_8abf5 (d + 1) [.ref (gK G s)] μ (some (.int r.1), r.2) := by
  refine Con.ofI ⟨rfl, rfl, Nat.le_of_ble_eq_true rfl⟩ rfl rfl (fun X hG hX hr dy => ?_)
  subst hG
  show AW X 0 [(0, .ref (gK (xG X) s))] [] μ dy
  unfold f_jd_length_J0_8abf5 at hf
  refine r_aload_n hX dJ0_length_8abf5_0 0 rfl ?_
  refine r_strV hX hs kf_J0_9 dJ0_length_8abf5_1 ?_
  refine r_tl hX hs dJ0_length_8abf5_4 ?_
  refine r_aload_n hX dJ0_length_8abf5_5 0 rfl ?_
  obtain ⟨v3, μ1, h2, hf⟩ := bd2_eq hf
  refine r_callVSI (Ok.le hX (by omega)) hs (c_jd_coder (d := d) hs h2) cv_J0_335 rfl (st := [.int (Int32.ofNat (sLn.getD s 0))]) rfl rfl rfl dJ0_length_8abf5_6 (fun dy => ?_)
  refine r_ishr hX dJ0_length_8abf5_9 ?_
  exact fin_I hf hr _ _ _ dJ0_length_8abf5_10
theorem dJ0_isLatin1_aae02_0 : decode cJ0_isLatin1_aae02 0 = .ok (.getstatic 38, 3) := by decide +kernel
theorem dJ0_isLatin1_aae02_3 : decode cJ0_isLatin1_aae02 3 = .ok (.ifCond .eq 14, 3) := by decide +kernel
theorem dJ0_isLatin1_aae02_6 : decode cJ0_isLatin1_aae02 6 = .ok (.aload_n 0, 1) := by decide +kernel
theorem dJ0_isLatin1_aae02_7 : decode cJ0_isLatin1_aae02 7 = .ok (.getfield 15, 3) := by decide +kernel
theorem dJ0_isLatin1_aae02_10 : decode cJ0_isLatin1_aae02 10 = .ok (.ifCond .ne 7, 3) := by decide +kernel
theorem dJ0_isLatin1_aae02_13 : decode cJ0_isLatin1_aae02 13 = .ok (.iconst 1, 1) := by decide +kernel
theorem dJ0_isLatin1_aae02_14 : decode cJ0_isLatin1_aae02 14 = .ok (.goto 4, 3) := by decide +kernel
theorem dJ0_isLatin1_aae02_17 : decode cJ0_isLatin1_aae02 17 = .ok (.iconst 0, 1) := by decide +kernel
theorem dJ0_isLatin1_aae02_18 : decode cJ0_isLatin1_aae02 18 = .ok (.ireturn, 1) := by decide +kernel
set_option maxHeartbeats 4000000 in
set_option maxRecDepth 20000 in
theorem c_jd_isLatin1_J0_aae02 {G : Gx} {d : Nat} {s : Nat} (hs : s < 8)  {μ : Mem} {r : Int32 × Mem} (hf : f_jd_isLatin1_J0_aae02 s  μ = some r) : Con G M_jd_isLatin1_J0_aae02 (d + 0) [.ref (gK G s)] μ (some (.int r.1), r.2) := by
  refine Con.ofZ ⟨rfl, rfl, Nat.le_of_ble_eq_true rfl⟩ rfl (fun X hG hX hr dy => ?_)
  subst hG
  show AW X 0 [(0, .ref (gK (xG X) s))] [] μ dy
  unfold f_jd_isLatin1_J0_aae02 at hf
  refine r_gets hX kf_J0_38 dJ0_isLatin1_aae02_0 ?_
  obtain ⟨v1, e2, hf⟩ := bnd_eq hf
  have J3 : AW X 18 [(0, .ref (gK (xG X) s))] [.int v1] μ dy := by
    obtain ⟨b4, hf⟩ := chk_eq hf
    exact fin_Z hf hr _ _ _ (zb_nar b4) dJ0_isLatin1_aae02_18
  refine r_if_eq hX 17 dJ0_isLatin1_aae02_3 rfl (fun hc5 => ?_) (fun hc5 => ?_)
  · refine r_iconst hX (0 : Int32) dJ0_isLatin1_aae02_17 rfl ?_
    exact r_topI (e2.trans (by rw [if_pos hc5])) J3
  · refine r_aload_n hX dJ0_isLatin1_aae02_6 0 rfl ?_
    refine r_strC hX hs kf_J0_15 dJ0_isLatin1_aae02_7 ?_
    refine r_if_ne hX 17 dJ0_isLatin1_aae02_10 rfl (fun hc6 => ?_) (fun hc6 => ?_)
    · refine r_iconst hX (0 : Int32) dJ0_isLatin1_aae02_17 rfl ?_
      exact r_topI (e2.trans (by rw [if_neg hc5, if_neg hc6])) J3
    · refine r_iconst hX (1 : Int32) dJ0_isLatin1_aae02_13 rfl ?_
      refine r_goto hX 18 dJ0_isLatin1_aae02_14 rfl ?_
      exact r_topI (e2.trans (by rw [if_neg hc5, if_pos hc6])) J3
theorem dJ1_canEncode_9a6ad_0 : decode cJ1_canEncode_9a6ad 0 = .ok (.iload_n 0, 1) := by decide +kernel
theorem dJ1_canEncode_9a6ad_1 : decode cJ1_canEncode_9a6ad 1 = .ok (.ifCond .lt 14, 3) := by decide +kernel
theorem dJ1_canEncode_9a6ad_4 : decode cJ1_canEncode_9a6ad 4 = .ok (.iload_n 0, 1) := by decide +kernel
theorem dJ1_canEncode_9a6ad_5 : decode cJ1_canEncode_9a6ad 5 = .ok (.sipush 255, 3) := by decide +kernel
theorem dJ1_canEncode_9a6ad_8 : decode cJ1_canEncode_9a6ad 8 = .ok (.if_icmp .gt 7, 3) := by decide +kernel
theorem dJ1_canEncode_9a6ad_11 : decode cJ1_canEncode_9a6ad 11 = .ok (.iconst 1, 1) := by decide +kernel
theorem dJ1_canEncode_9a6ad_12 : decode cJ1_canEncode_9a6ad 12 = .ok (.goto 4, 3) := by decide +kernel
theorem dJ1_canEncode_9a6ad_15 : decode cJ1_canEncode_9a6ad 15 = .ok (.iconst 0, 1) := by decide +kernel
theorem dJ1_canEncode_9a6ad_16 : decode cJ1_canEncode_9a6ad 16 = .ok (.ireturn, 1) := by decide +kernel
set_option maxHeartbeats 4000000 in
set_option maxRecDepth 20000 in
theorem c_jd_canEncode_J1_9a6ad {G : Gx} {d : Nat} {x0 : Int32} {μ : Mem} {r : Int32 × Mem} (hf : f_jd_canEncode_J1_9a6ad x0 μ = some r) : Con G M_jd_canEncode_J1_9a6ad (d + 0) [.int x0] μ (some (.int r.1), r.2) := by
  refine Con.ofZ ⟨rfl, rfl, Nat.le_of_ble_eq_true rfl⟩ rfl (fun X hG hX hr dy => ?_)
  subst hG
  show AW X 0 [(0, .int x0)] [] μ dy
  unfold f_jd_canEncode_J1_9a6ad at hf
  refine r_iload_n hX dJ1_canEncode_9a6ad_0 0 rfl ?_
  obtain ⟨v1, e2, hf⟩ := bnd_eq hf
  have J3 : AW X 16 [(0, .int x0)] [.int v1] μ dy := by
    obtain ⟨b4, hf⟩ := chk_eq hf
    exact fin_Z hf hr _ _ _ (zb_nar b4) dJ1_canEncode_9a6ad_16
  refine r_if_lt hX 15 dJ1_canEncode_9a6ad_1 rfl (fun hc5 => ?_) (fun hc5 => ?_)
  · refine r_iconst hX (0 : Int32) dJ1_canEncode_9a6ad_15 rfl ?_
    exact r_topI (e2.trans (by rw [if_pos hc5])) J3
  · refine r_iload_n hX dJ1_canEncode_9a6ad_4 0 rfl ?_
    refine r_sipush hX (255 : Int32) dJ1_canEncode_9a6ad_5 rfl ?_
    refine r_icmp_gt hX 15 dJ1_canEncode_9a6ad_8 rfl (fun hc6 => ?_) (fun hc6 => ?_)
    · refine r_iconst hX (0 : Int32) dJ1_canEncode_9a6ad_15 rfl ?_
      exact r_topI (e2.trans (by rw [if_neg hc5, if_pos hc6])) J3
    · refine r_iconst hX (1 : Int32) dJ1_canEncode_9a6ad_11 rfl ?_
      refine r_goto hX 16 dJ1_canEncode_9a6ad_12 rfl ?_
      exact r_topI (e2.trans (by rw [if_neg hc5, if_neg hc6])) J3
theorem dJ1_indexOfChar_4cfef_0 : decode cJ1_indexOfChar_4cfef 0 = .ok (.iload_n 1, 1) := by decide +kernel
theorem dJ1_indexOfChar_4cfef_1 : decode cJ1_indexOfChar_4cfef 1 = .ok (.i2b, 1) := by decide +kernel
theorem dJ1_indexOfChar_4cfef_2 : decode cJ1_indexOfChar_4cfef 2 = .ok (.istore 4, 2) := by decide +kernel
theorem dJ1_indexOfChar_4cfef_4 : decode cJ1_indexOfChar_4cfef 4 = .ok (.iload_n 2, 1) := by decide +kernel
theorem dJ1_indexOfChar_4cfef_5 : decode cJ1_indexOfChar_4cfef 5 = .ok (.istore 5, 2) := by decide +kernel
theorem dJ1_indexOfChar_4cfef_7 : decode cJ1_indexOfChar_4cfef 7 = .ok (.iload 5, 2) := by decide +kernel
theorem dJ1_indexOfChar_4cfef_9 : decode cJ1_indexOfChar_4cfef 9 = .ok (.iload_n 3, 1) := by decide +kernel
theorem dJ1_indexOfChar_4cfef_10 : decode cJ1_indexOfChar_4cfef 10 = .ok (.if_icmp .ge 21, 3) := by decide +kernel
theorem dJ1_indexOfChar_4cfef_13 : decode cJ1_indexOfChar_4cfef 13 = .ok (.aload_n 0, 1) := by decide +kernel
theorem dJ1_indexOfChar_4cfef_14 : decode cJ1_indexOfChar_4cfef 14 = .ok (.iload 5, 2) := by decide +kernel
theorem dJ1_indexOfChar_4cfef_16 : decode cJ1_indexOfChar_4cfef 16 = .ok (.baload, 1) := by decide +kernel
theorem dJ1_indexOfChar_4cfef_17 : decode cJ1_indexOfChar_4cfef 17 = .ok (.iload 4, 2) := by decide +kernel
theorem dJ1_indexOfChar_4cfef_19 : decode cJ1_indexOfChar_4cfef 19 = .ok (.if_icmp .ne 6, 3) := by decide +kernel
theorem dJ1_indexOfChar_4cfef_22 : decode cJ1_indexOfChar_4cfef 22 = .ok (.iload 5, 2) := by decide +kernel
theorem dJ1_indexOfChar_4cfef_24 : decode cJ1_indexOfChar_4cfef 24 = .ok (.ireturn, 1) := by decide +kernel
theorem dJ1_indexOfChar_4cfef_25 : decode cJ1_indexOfChar_4cfef 25 = .ok (.iinc 5 1, 3) := by decide +kernel
theorem dJ1_indexOfChar_4cfef_28 : decode cJ1_indexOfChar_4cfef 28 = .ok (.goto (-21), 3) := by decide +kernel
theorem dJ1_indexOfChar_4cfef_31 : decode cJ1_indexOfChar_4cfef 31 = .ok (.iconst (-1), 1) := by decide +kernel
theorem dJ1_indexOfChar_4cfef_32 : decode cJ1_indexOfChar_4cfef 32 = .ok (.ireturn, 1) := by decide +kernel
set_option maxHeartbeats 4000000 in
set_option maxRecDepth 20000 in
theorem b_jd_indexOfChar_J1_4cfef_b7 {X : Cx} {d : Nat} {s : Nat} (hs : s < 8) (hX : Ok M_jd_indexOfChar_J1_4cfef (d + 0) X) {r : Int32 × Mem} (hr : RetI M_jd_indexOfChar_J1_4cfef X r.1 r.2) : ∀ (n : Nat) (x3 : Int32) (x4 : Int32) (x5 : Int32) (μ : Mem) (dy : Nat → Nat), f_jd_indexOfChar_J1_4cfef_b7 s n x3 x4 x5 μ = some r → AW X 7 [(0, .ref (gV (xG X) s)), (3, .int x3), (4, .int x4), (5, .int x5)] [] μ dy := by
  intro n
  induction n with
  | zero => intro x3 x4 x5 μ dy hf; exact nomatch hf
  | succ n ih =>
    intro x3 x4 x5 μ dy hf
    rw [f_jd_indexOfChar_J1_4cfef_b7] at hf
    refine r_iload hX dJ1_indexOfChar_4cfef_7 3 rfl ?_
    refine r_iload_n hX dJ1_indexOfChar_4cfef_9 1 rfl ?_
    refine r_icmp_ge hX 31 dJ1_indexOfChar_4cfef_10 rfl (fun hc1 => ?_) (fun hc1 => ?_)
    · rw [if_pos hc1] at hf
      refine r_iconst hX (-1 : Int32) dJ1_indexOfChar_4cfef_31 rfl ?_
      exact fin_I hf hr _ _ _ dJ1_indexOfChar_4cfef_32
    · rw [if_neg hc1] at hf
      refine r_aload_n hX dJ1_indexOfChar_4cfef_13 0 rfl ?_
      refine r_iload hX dJ1_indexOfChar_4cfef_14 3 rfl ?_
      obtain ⟨b2, hf⟩ := chk_eq hf
      refine r_tb hX hs (inb_in b2) dJ1_indexOfChar_4cfef_16 ?_
      refine r_iload hX dJ1_indexOfChar_4cfef_17 2 rfl ?_
      refine r_icmp_ne hX 25 dJ1_indexOfChar_4cfef_19 rfl (fun hc3 => ?_) (fun hc3 => ?_)
      · rw [if_neg hc3] at hf
        refine r_iinc hX (x5 + (1 : Int32)) dJ1_indexOfChar_4cfef_25 3 rfl rfl rfl (ls' := [(5, .int (x5 + (1 : Int32))), (0, .ref (gV (xG X) s)), (3, .int x3), (4, .int x4)]) rfl ?_
        refine r_goto hX 7 dJ1_indexOfChar_4cfef_28 rfl ?_
        refine r_weak [1, 2, 3, 0] rfl ?_
        exact ih _ _ _ _ _ hf
      · rw [if_pos hc3] at hf
        refine r_iload hX dJ1_indexOfChar_4cfef_22 3 rfl ?_
        exact fin_I hf hr _ _ _ dJ1_indexOfChar_4cfef_24
set_option maxHeartbeats 4000000 in
set_option maxRecDepth 20000 in
theorem c_jd_indexOfChar_J1_4cfef {G : Gx} {d : Nat} {s : Nat} (hs : s < 8) {x1 : Int32} {x2 : Int32} {x3 : Int32} {μ : Mem} {r : Int32 × Mem} (hf : f_jd_indexOfChar_J1_4cfef s x1 x2 x3 μ = some r) : Con G M_jd_indexOfChar_J1_4cfef (d + 0) [.ref (gV G s), .int x1, .int x2, .int x3] μ (some (.int r.1), r.2) := by
  refine Con.ofI ⟨rfl, rfl, Nat.le_of_ble_eq_true rfl⟩ rfl rfl (fun X hG hX hr dy => ?_)
  subst hG
  show AW X 0 [(0, .ref (gV (xG X) s)), (1, .int x1), (2, .int x2), (3, .int x3)] [] μ dy
  unfold f_jd_indexOfChar_J1_4cfef at hf
  refine r_iload_n hX dJ1_indexOfChar_4cfef_0 1 rfl ?_
  refine r_i2b hX dJ1_indexOfChar_4cfef_1 ?_
  refine r_istore hX dJ1_indexOfChar_4cfef_2 rfl (ls' := [(4, .int x1.toInt8.toInt32), (0, .ref (gV (xG X) s)), (1, .int x1), (2, .int x2), (3, .int x3)]) rfl ?_
  refine r_iload_n hX dJ1_indexOfChar_4cfef_4 3 rfl ?_
  refine r_istore hX dJ1_indexOfChar_4cfef_5 rfl (ls' := [(5, .int x2), (4, .int x1.toInt8.toInt32), (0, .ref (gV (xG X) s)), (1, .int x1), (2, .int x2), (3, .int x3)]) rfl ?_
  refine r_weak [2, 5, 1, 0] rfl ?_
  exact b_jd_indexOfChar_J1_4cfef_b7 hs hX hr FU _ _ _ _ _ hf
theorem dJ1_indexOf_4cfef_0 : decode cJ1_indexOf_4cfef 0 = .ok (.iload_n 1, 1) := by decide +kernel
theorem dJ1_indexOf_4cfef_1 : decode cJ1_indexOf_4cfef 1 = .ok (.invokestatic 88, 3) := by decide +kernel
theorem dJ1_indexOf_4cfef_4 : decode cJ1_indexOf_4cfef 4 = .ok (.ifCond .ne 5, 3) := by decide +kernel
theorem dJ1_indexOf_4cfef_7 : decode cJ1_indexOf_4cfef 7 = .ok (.iconst (-1), 1) := by decide +kernel
theorem dJ1_indexOf_4cfef_8 : decode cJ1_indexOf_4cfef 8 = .ok (.ireturn, 1) := by decide +kernel
theorem dJ1_indexOf_4cfef_9 : decode cJ1_indexOf_4cfef 9 = .ok (.iload_n 2, 1) := by decide +kernel
theorem dJ1_indexOf_4cfef_10 : decode cJ1_indexOf_4cfef 10 = .ok (.iconst 0, 1) := by decide +kernel
theorem dJ1_indexOf_4cfef_11 : decode cJ1_indexOf_4cfef 11 = .ok (.invokestatic 92, 3) := by decide +kernel
theorem dJ1_indexOf_4cfef_14 : decode cJ1_indexOf_4cfef 14 = .ok (.istore_n 2, 1) := by decide +kernel
theorem dJ1_indexOf_4cfef_15 : decode cJ1_indexOf_4cfef 15 = .ok (.iload_n 3, 1) := by decide +kernel
theorem dJ1_indexOf_4cfef_16 : decode cJ1_indexOf_4cfef 16 = .ok (.aload_n 0, 1) := by decide +kernel
theorem dJ1_indexOf_4cfef_17 : decode cJ1_indexOf_4cfef 17 = .ok (.arraylength, 1) := by decide +kernel
theorem dJ1_indexOf_4cfef_18 : decode cJ1_indexOf_4cfef 18 = .ok (.invokestatic 38, 3) := by decide +kernel
theorem dJ1_indexOf_4cfef_21 : decode cJ1_indexOf_4cfef 21 = .ok (.istore_n 3, 1) := by decide +kernel
theorem dJ1_indexOf_4cfef_22 : decode cJ1_indexOf_4cfef 22 = .ok (.iload_n 2, 1) := by decide +kernel
theorem dJ1_indexOf_4cfef_23 : decode cJ1_indexOf_4cfef 23 = .ok (.iload_n 3, 1) := by decide +kernel
theorem dJ1_indexOf_4cfef_24 : decode cJ1_indexOf_4cfef 24 = .ok (.if_icmp .lt 5, 3) := by decide +kernel
theorem dJ1_indexOf_4cfef_27 : decode cJ1_indexOf_4cfef 27 = .ok (.iconst (-1), 1) := by decide +kernel
theorem dJ1_indexOf_4cfef_28 : decode cJ1_indexOf_4cfef 28 = .ok (.ireturn, 1) := by decide +kernel
theorem dJ1_indexOf_4cfef_29 : decode cJ1_indexOf_4cfef 29 = .ok (.aload_n 0, 1) := by decide +kernel
theorem dJ1_indexOf_4cfef_30 : decode cJ1_indexOf_4cfef 30 = .ok (.iload_n 1, 1) := by decide +kernel
theorem dJ1_indexOf_4cfef_31 : decode cJ1_indexOf_4cfef 31 = .ok (.iload_n 2, 1) := by decide +kernel
theorem dJ1_indexOf_4cfef_32 : decode cJ1_indexOf_4cfef 32 = .ok (.iload_n 3, 1) := by decide +kernel
theorem dJ1_indexOf_4cfef_33 : decode cJ1_indexOf_4cfef 33 = .ok (.invokestatic 95, 3) := by decide +kernel
theorem dJ1_indexOf_4cfef_36 : decode cJ1_indexOf_4cfef 36 = .ok (.ireturn, 1) := by decide +kernel
set_option maxHeartbeats 4000000 in
set_option maxRecDepth 20000 in
theorem c_jd_indexOf_J1_4cfef {G : Gx} {d : Nat} {s : Nat} (hs : s < 8) {x1 : Int32} {x2 : Int32} {x3 : Int32} {μ : Mem} {r : Int32 × Mem} (hf : f_jd_indexOf_J1_4cfef s x1 x2 x3 μ = some r) : Con G M_jd_indexOf_J1_4cfef (d + 1) [.ref (gV G s), .int x1, .int x2, .int x3] μ (some (.int r.1), r.2) := by
  refine Con.ofI ⟨rfl, rfl, Nat.le_of_ble_eq_true rfl⟩ rfl rfl (fun X hG hX hr dy => ?_)
  subst hG
  show AW X 0 [(0, .ref (gV (xG X) s)), (1, .int x1), (2, .int x2), (3, .int x3)] [] μ dy
  unfold f_jd_indexOf_J1_4cfef at hf
  refine r_iload_n hX dJ1_indexOf_4cfef_0 1 rfl ?_
  obtain ⟨v3, μ1, h2, hf⟩ := bd2_eq hf
  refine r_callSI (Ok.le hX (by omega)) (c_jd_canEncode_J1_9a6ad (d := d)  h2) cs_J1_88 (st := []) rfl rfl rfl dJ1_indexOf_4cfef_1 (fun dy => ?_)
  refine r_if_ne hX 9 dJ1_indexOf_4cfef_4 rfl (fun hc4 => ?_) (fun hc4 => ?_)
  · rw [if_neg hc4] at hf
    refine r_iload_n hX dJ1_indexOf_4cfef_9 2 rfl ?_
    refine r_iconst hX (0 : Int32) dJ1_indexOf_4cfef_10 rfl ?_
    refine r_max (d := d + 0) (Ok.le hX (by omega)) cs_J1_92 rfl dJ1_indexOf_4cfef_11 ?_
    refine r_istore_n hX dJ1_indexOf_4cfef_14 rfl (ls' := [(2, .int (imax x2 (0 : Int32))), (0, .ref (gV (xG X) s)), (1, .int x1), (3, .int x3)]) rfl ?_
    refine r_iload_n hX dJ1_indexOf_4cfef_15 3 rfl ?_
    refine r_aload_n hX dJ1_indexOf_4cfef_16 1 rfl ?_
    refine r_tl hX hs dJ1_indexOf_4cfef_17 ?_
    refine r_min (d := d + 0) (Ok.le hX (by omega)) cs_J1_38 rfl dJ1_indexOf_4cfef_18 ?_
    obtain ⟨v5, e6, hf⟩ := bnd_eq hf
    refine r_topI e6 ?_
    refine r_istore_n hX dJ1_indexOf_4cfef_21 rfl (ls' := [(3, .int v5), (2, .int (imax x2 (0 : Int32))), (0, .ref (gV (xG X) s)), (1, .int x1)]) rfl ?_
    refine r_iload_n hX dJ1_indexOf_4cfef_22 1 rfl ?_
    refine r_iload_n hX dJ1_indexOf_4cfef_23 0 rfl ?_
    refine r_icmp_lt hX 29 dJ1_indexOf_4cfef_24 rfl (fun hc7 => ?_) (fun hc7 => ?_)
    · rw [if_pos hc7] at hf
      refine r_aload_n hX dJ1_indexOf_4cfef_29 2 rfl ?_
      refine r_iload_n hX dJ1_indexOf_4cfef_30 3 rfl ?_
      refine r_iload_n hX dJ1_indexOf_4cfef_31 1 rfl ?_
      refine r_iload_n hX dJ1_indexOf_4cfef_32 0 rfl ?_
      obtain ⟨v10, μ8, h9, hf⟩ := bd2_eq hf
      refine r_callSI (Ok.le hX (by omega)) (c_jd_indexOfChar_J1_4cfef (d := d) hs h9) cs_J1_95 (st := []) rfl rfl rfl dJ1_indexOf_4cfef_33 (fun dy => ?_)
      exact fin_I hf hr _ _ _ dJ1_indexOf_4cfef_36
    · rw [if_neg hc7] at hf
      refine r_iconst hX (-1 : Int32) dJ1_indexOf_4cfef_27 rfl ?_
      exact fin_I hf hr _ _ _ dJ1_indexOf_4cfef_28
  · rw [if_pos hc4] at hf
    refine r_iconst hX (-1 : Int32) dJ1_indexOf_4cfef_7 rfl ?_
    exact fin_I hf hr _ _ _ dJ1_indexOf_4cfef_8
theorem dJ0_indexOf_7cf53_0 : decode cJ0_indexOf_7cf53 0 = .ok (.aload_n 0, 1) := by decide +kernel
theorem dJ0_indexOf_7cf53_1 : decode cJ0_indexOf_7cf53 1 = .ok (.invokevirtual 492, 3) := by decide +kernel
theorem dJ0_indexOf_7cf53_4 : decode cJ0_indexOf_7cf53 4 = .ok (.ifCond .eq 19, 3) := by decide +kernel
theorem dJ0_indexOf_7cf53_7 : decode cJ0_indexOf_7cf53 7 = .ok (.aload_n 0, 1) := by decide +kernel
theorem dJ0_indexOf_7cf53_8 : decode cJ0_indexOf_7cf53 8 = .ok (.getfield 9, 3) := by decide +kernel
theorem dJ0_indexOf_7cf53_11 : decode cJ0_indexOf_7cf53 11 = .ok (.iload_n 1, 1) := by decide +kernel
theorem dJ0_indexOf_7cf53_12 : decode cJ0_indexOf_7cf53 12 = .ok (.iload_n 2, 1) := by decide +kernel
theorem dJ0_indexOf_7cf53_13 : decode cJ0_indexOf_7cf53 13 = .ok (.aload_n 0, 1) := by decide +kernel
theorem dJ0_indexOf_7cf53_14 : decode cJ0_indexOf_7cf53 14 = .ok (.invokevirtual 505, 3) := by decide +kernel
theorem dJ0_indexOf_7cf53_17 : decode cJ0_indexOf_7cf53 17 = .ok (.invokestatic 637, 3) := by decide +kernel
theorem dJ0_indexOf_7cf53_20 : decode cJ0_indexOf_7cf53 20 = .ok (.goto 16, 3) := by decide +kernel
theorem dJ0_indexOf_7cf53_23 : decode cJ0_indexOf_7cf53 23 = .ok (.aload_n 0, 1) := by decide +kernel
theorem dJ0_indexOf_7cf53_24 : decode cJ0_indexOf_7cf53 24 = .ok (.getfield 9, 3) := by decide +kernel
theorem dJ0_indexOf_7cf53_27 : decode cJ0_indexOf_7cf53 27 = .ok (.iload_n 1, 1) := by decide +kernel
theorem dJ0_indexOf_7cf53_28 : decode cJ0_indexOf_7cf53 28 = .ok (.iload_n 2, 1) := by decide +kernel
theorem dJ0_indexOf_7cf53_29 : decode cJ0_indexOf_7cf53 29 = .ok (.aload_n 0, 1) := by decide +kernel
theorem dJ0_indexOf_7cf53_30 : decode cJ0_indexOf_7cf53 30 = .ok (.invokevirtual 505, 3) := by decide +kernel
theorem dJ0_indexOf_7cf53_33 : decode cJ0_indexOf_7cf53 33 = .ok (.invokestatic 640, 3) := by decide +kernel
theorem dJ0_indexOf_7cf53_36 : decode cJ0_indexOf_7cf53 36 = .ok (.ireturn, 1) := by decide +kernel
set_option maxHeartbeats 4000000 in
set_option maxRecDepth 20000 in
theorem c_jd_indexOf_J0_7cf53 {G : Gx} {d : Nat} {s : Nat} (hs : s < 8) {x1 : Int32} {x2 : Int32} {μ : Mem} {r : Int32 × Mem} (hf : f_jd_indexOf_J0_7cf53 s x1 x2 μ = some r) : Con G M_jd_indexOf_J0_7cf53 (d + 2) [.ref (gK G s), .int x1, .int x2] μ (some (.int r.1), r.2) := by
  refine Con.ofI ⟨rfl, rfl, Nat.le_of_ble_eq_true rfl⟩ rfl rfl (fun X hG hX hr dy => ?_)
  subst hG
  show AW X 0 [(0, .ref (gK (xG X) s)), (1, .int x1), (2, .int x2)] [] μ dy
  unfold f_jd_indexOf_J0_7cf53 at hf
  refine r_aload_n hX dJ0_indexOf_7cf53_0 0 rfl ?_
  obtain ⟨v3, μ1, h2, hf⟩ := bd2_eq hf
  refine r_callVSI (Ok.le hX (by omega)) hs (c_jd_isLatin1_J0_aae02 (d := d) hs h2) cv_J0_492 rfl (st := []) rfl rfl rfl dJ0_indexOf_7cf53_1 (fun dy => ?_)
  refine r_if_eq hX 23 dJ0_indexOf_7cf53_4 rfl (fun hc4 => ?_) (fun hc4 => ?_)
  · rw [if_pos hc4] at hf
    refine r_aload_n hX dJ0_indexOf_7cf53_23 0 rfl ?_
    refine r_strV hX hs kf_J0_9 dJ0_indexOf_7cf53_24 ?_
    refine r_iload_n hX dJ0_indexOf_7cf53_27 1 rfl ?_
    refine r_iload_n hX dJ0_indexOf_7cf53_28 2 rfl ?_
    refine r_aload_n hX dJ0_indexOf_7cf53_29 0 rfl ?_
    obtain ⟨v7, μ5, h6, hf⟩ := bd2_eq hf
    refine r_callVSI (Ok.le hX (by omega)) hs (c_jd_length_J0_8abf5 (d := d) hs h6) cv_J0_505 rfl (st := [.int x2, .int x1, .ref (gV (xG X) s)]) rfl rfl rfl dJ0_indexOf_7cf53_30 (fun dy => ?_)
    exact nomatch hf
  · rw [if_neg hc4] at hf
    refine r_aload_n hX dJ0_indexOf_7cf53_7 0 rfl ?_
    refine r_strV hX hs kf_J0_9 dJ0_indexOf_7cf53_8 ?_
    refine r_iload_n hX dJ0_indexOf_7cf53_11 1 rfl ?_
    refine r_iload_n hX dJ0_indexOf_7cf53_12 2 rfl ?_
    refine r_aload_n hX dJ0_indexOf_7cf53_13 0 rfl ?_
    obtain ⟨v10, μ8, h9, hf⟩ := bd2_eq hf
    refine r_callVSI (Ok.le hX (by omega)) hs (c_jd_length_J0_8abf5 (d := d) hs h9) cv_J0_505 rfl (st := [.int x2, .int x1, .ref (gV (xG X) s)]) rfl rfl rfl dJ0_indexOf_7cf53_14 (fun dy => ?_)
    obtain ⟨v13, μ11, h12, hf⟩ := bd2_eq hf
    refine r_callSI (Ok.le hX (by omega)) (c_jd_indexOf_J1_4cfef (d := d) hs h12) cs_J0_637 (st := []) rfl rfl rfl dJ0_indexOf_7cf53_17 (fun dy => ?_)
    refine r_goto hX 36 dJ0_indexOf_7cf53_20 rfl ?_
    exact fin_I hf hr _ _ _ dJ0_indexOf_7cf53_36
theorem dJ0_indexOf_0f7a4_0 : decode cJ0_indexOf_0f7a4 0 = .ok (.aload_n 0, 1) := by decide +kernel
theorem dJ0_indexOf_0f7a4_1 : decode cJ0_indexOf_0f7a4 1 = .ok (.iload_n 1, 1) := by decide +kernel
theorem dJ0_indexOf_0f7a4_2 : decode cJ0_indexOf_0f7a4 2 = .ok (.iconst 0, 1) := by decide +kernel
theorem dJ0_indexOf_0f7a4_3 : decode cJ0_indexOf_0f7a4 3 = .ok (.invokevirtual 633, 3) := by decide +kernel
theorem dJ0_indexOf_0f7a4_6 : decode cJ0_indexOf_0f7a4 6 = .ok (.ireturn, 1) := by decide +kernel
set_option maxHeartbeats 4000000 in
set_option maxRecDepth 20000 in
theorem c_jd_indexOf_J0_0f7a4 {G : Gx} {d : Nat} {s : Nat} (hs : s < 8) {x1 : Int32} {μ : Mem} {r : Int32 × Mem} (hf : f_jd_indexOf_J0_0f7a4 s x1 μ = some r) : Con G M_jd_indexOf_J0_0f7a4 (d + 3) [.ref (gK G s), .int x1] μ (some (.int r.1), r.2) := by
  refine Con.ofI ⟨rfl, rfl, Nat.le_of_ble_eq_true rfl⟩ rfl rfl (fun X hG hX hr dy => ?_)
  subst hG
  show AW X 0 [(0, .ref (gK (xG X) s)), (1, .int x1)] [] μ dy
  unfold f_jd_indexOf_J0_0f7a4 at hf
  refine r_aload_n hX dJ0_indexOf_0f7a4_0 0 rfl ?_
  refine r_iload_n hX dJ0_indexOf_0f7a4_1 1 rfl ?_
  refine r_iconst hX (0 : Int32) dJ0_indexOf_0f7a4_2 rfl ?_
  obtain ⟨v3, μ1, h2, hf⟩ := bd2_eq hf
  refine r_callVSI (Ok.le hX (by omega)) hs (c_jd_indexOf_J0_7cf53 (d := d) hs h2) cv_J0_633 rfl (st := []) rfl rfl rfl dJ0_indexOf_0f7a4_3 (fun dy => ?_)
  exact fin_I hf hr _ _ _ dJ0_indexOf_0f7a4_6
