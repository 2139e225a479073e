/-! end, hears, set, meet, talk, go. -/
theorem take_getD {t : List Nat} {n k d : Nat} (hk : k < n) : (t.take n).getD k d = t.getD k d := by
  rw [List.getD_eq_getElem?_getD, List.getD_eq_getElem?_getD, List.getElem?_take_of_lt hk]
section OPS
variable {N : Nat} {a : Ab}
theorem op_end (x : Int32) : OpI N a (f_x_end x) (f_m_end x) := by
  intro hW hN
  have h80 := hW.2.2.2.2.1.1
  rcases i_casesQ x with hx | ⟨n, hn, rfl⟩
  · refine ⟨nI 0, a, fun μ h => x_same h hN (by simp (disch := omega) only [l_0, l_1, l_2, l_3, l_4, l_5, l_6, l_7, l_8, l_9, l_10, l_14, l_15, l_16, l_20, l_31, l_40, l_48, l_50, l_57, l_60, l_64, l_76, l_80, l_99, l_100, l_127, l_196, l_200, l_201, l_202, l_255, l_412, l_999, l_1000, l_16000, l_1000000, i_add, i_mul, i_sub, i_leN, i_ltN, i_eqN, i_nleG, i_nltG, inb_n, cl_nI, chk_q, bnd_q, bd1_q, bd2_q, i_bitQ, i_oneQ, i_woQ, i_or, i_and, i_xor, zb_q0, zb_q1, zb_b, b_0Q, if_true, if_false, reduceCtorEq, if_pos, if_neg, f_x_end, hx]), fun ν h => m_start h fun Q ν1 _ hI _ => m_same hI hN ?_⟩
    simp (disch := omega) only [l_0, l_1, l_2, l_3, l_4, l_5, l_6, l_7, l_8, l_9, l_10, l_14, l_15, l_16, l_20, l_31, l_40, l_48, l_50, l_57, l_60, l_64, l_76, l_80, l_99, l_100, l_127, l_196, l_200, l_201, l_202, l_255, l_412, l_999, l_1000, l_16000, l_1000000, i_add, i_mul, i_sub, i_leN, i_ltN, i_eqN, i_nleG, i_nltG, inb_n, cl_nI, chk_q, bnd_q, bd1_q, bd2_q, i_bitQ, i_oneQ, i_woQ, i_or, i_and, i_xor, zb_q0, zb_q1, zb_b, b_0Q, if_true, if_false, reduceCtorEq, if_pos, if_neg, m_inG hx]
  · by_cases hd : n ≤ (aT a).length
    · have hl : ((aT a).take n).length = n := by rw [List.length_take]; omega
      refine ⟨nI 1, aSetT a ((aT a).take n), fun μ h => ⟨setI μ v_x_signs 0 (nI n), ?_, (h.XI.text (t := (aT a).take n) ⟨by omega, fun b hb => hW.2.2.2.2.1.2 b (List.mem_of_mem_take hb)⟩ (fun v h1 h2 => sI_v _ _ _ h2) rfl ⟨by rw [sI_eq, hl], fun k hk => ?_⟩).done hN⟩, fun ν h => m_start h fun Q ν1 _ hI _ => ⟨setI ν1 v_m_typed 0 (nI n), ?_, (hI.text (t := (aT a).take n) ⟨by omega, fun b hb => hW.2.2.2.2.1.2 b (List.mem_of_mem_take hb)⟩ (fun v h1 h2 => sI_v _ _ _ h2) rfl ⟨by rw [sI_eq, hl], fun k hk => ?_⟩).done hN⟩⟩
      · have e1 := h.2.1.2.2.1.1
        simp (disch := omega) only [l_0, l_1, l_2, l_3, l_4, l_5, l_6, l_7, l_8, l_9, l_10, l_14, l_15, l_16, l_20, l_31, l_40, l_48, l_50, l_57, l_60, l_64, l_76, l_80, l_99, l_100, l_127, l_196, l_200, l_201, l_202, l_255, l_412, l_999, l_1000, l_16000, l_1000000, i_add, i_mul, i_sub, i_leN, i_ltN, i_eqN, i_nleG, i_nltG, inb_n, cl_nI, chk_q, bnd_q, bd1_q, bd2_q, i_bitQ, i_oneQ, i_woQ, i_or, i_and, i_xor, zb_q0, zb_q1, zb_b, b_0Q, if_true, if_false, reduceCtorEq, if_pos, if_neg, f_x_end, e1, nI_lt_self]
      · rw [hl] at hk
        rw [sI_v _ _ _ (by decide), take_getD hk]
        exact h.2.1.2.2.1.2 k (by omega)
      · have e1 := hI.2.1.2.2.1.1
        simp (disch := omega) only [l_0, l_1, l_2, l_3, l_4, l_5, l_6, l_7, l_8, l_9, l_10, l_14, l_15, l_16, l_20, l_31, l_40, l_48, l_50, l_57, l_60, l_64, l_76, l_80, l_99, l_100, l_127, l_196, l_200, l_201, l_202, l_255, l_412, l_999, l_1000, l_16000, l_1000000, i_add, i_mul, i_sub, i_leN, i_ltN, i_eqN, i_nleG, i_nltG, inb_n, cl_nI, chk_q, bnd_q, bd1_q, bd2_q, i_bitQ, i_oneQ, i_woQ, i_or, i_and, i_xor, zb_q0, zb_q1, zb_b, b_0Q, if_true, if_false, reduceCtorEq, if_pos, if_neg, e1, m_inN, decide_eq_true hd]
      · rw [hl] at hk
        rw [sI_v _ _ _ (by decide), take_getD hk]
        exact hI.2.1.2.2.1.2 k (by omega)
    · refine ⟨nI 0, a, fun μ h => x_same h hN ?_, fun ν h => m_start h fun Q ν1 _ hI _ => m_same hI hN ?_⟩
      · have e1 := h.2.1.2.2.1.1
        simp (disch := omega) only [l_0, l_1, l_2, l_3, l_4, l_5, l_6, l_7, l_8, l_9, l_10, l_14, l_15, l_16, l_20, l_31, l_40, l_48, l_50, l_57, l_60, l_64, l_76, l_80, l_99, l_100, l_127, l_196, l_200, l_201, l_202, l_255, l_412, l_999, l_1000, l_16000, l_1000000, i_add, i_mul, i_sub, i_leN, i_ltN, i_eqN, i_nleG, i_nltG, inb_n, cl_nI, chk_q, bnd_q, bd1_q, bd2_q, i_bitQ, i_oneQ, i_woQ, i_or, i_and, i_xor, zb_q0, zb_q1, zb_b, b_0Q, if_true, if_false, reduceCtorEq, if_pos, if_neg, f_x_end, e1, nI_lt_self]
      · have e1 := hI.2.1.2.2.1.1
        simp (disch := omega) only [l_0, l_1, l_2, l_3, l_4, l_5, l_6, l_7, l_8, l_9, l_10, l_14, l_15, l_16, l_20, l_31, l_40, l_48, l_50, l_57, l_60, l_64, l_76, l_80, l_99, l_100, l_127, l_196, l_200, l_201, l_202, l_255, l_412, l_999, l_1000, l_16000, l_1000000, i_add, i_mul, i_sub, i_leN, i_ltN, i_eqN, i_nleG, i_nltG, inb_n, cl_nI, chk_q, bnd_q, bd1_q, bd2_q, i_bitQ, i_oneQ, i_woQ, i_or, i_and, i_xor, zb_q0, zb_q1, zb_b, b_0Q, if_true, if_false, reduceCtorEq, if_pos, if_neg, e1, m_inN, decide_eq_false hd]
theorem x_areTwo {S : SP} {μ : Mem} (h : XB S μ) (x y : Int32) : f_x_areTwo x y μ = some (nI (bN (decide (0 ≤ x ∧ 0 ≤ y ∧ x.toNatClampNeg < S.1 ∧ y.toNatClampNeg < S.1 ∧ x ≠ y))), μ) := by
  rcases i_casesQ x with hx | ⟨i, hi, rfl⟩
  · rw [decide_eq_false (fun q => absurd q.1 (by rw [i_le]; rw [i_lt] at hx; have : (nI 0).toInt = (0 : Int32).toInt := rfl; omega))]
    simp (disch := omega) only [l_0, l_1, l_2, l_3, l_4, l_5, l_6, l_7, l_8, l_9, l_10, l_14, l_15, l_16, l_20, l_31, l_40, l_48, l_50, l_57, l_60, l_64, l_76, l_80, l_99, l_100, l_127, l_196, l_200, l_201, l_202, l_255, l_412, l_999, l_1000, l_16000, l_1000000, i_add, i_mul, i_sub, i_leN, i_ltN, i_eqN, i_nleG, i_nltG, inb_n, cl_nI, chk_q, bnd_q, bd1_q, bd2_q, i_bitQ, i_oneQ, i_woQ, i_or, i_and, i_xor, zb_q0, zb_q1, zb_b, b_0Q, if_true, if_false, reduceCtorEq, if_pos, if_neg, f_x_areTwo, st_hasG hx]
    rfl
  · by_cases h1 : i < S.1
    · rcases i_casesQ y with hy | ⟨j, hj, rfl⟩
      · rw [decide_eq_false (fun q => absurd q.2.1 (by rw [i_le]; rw [i_lt] at hy; have : (nI 0).toInt = (0 : Int32).toInt := rfl; omega))]
        simp (disch := omega) only [l_0, l_1, l_2, l_3, l_4, l_5, l_6, l_7, l_8, l_9, l_10, l_14, l_15, l_16, l_20, l_31, l_40, l_48, l_50, l_57, l_60, l_64, l_76, l_80, l_99, l_100, l_127, l_196, l_200, l_201, l_202, l_255, l_412, l_999, l_1000, l_16000, l_1000000, i_add, i_mul, i_sub, i_leN, i_ltN, i_eqN, i_nleG, i_nltG, inb_n, cl_nI, chk_q, bnd_q, bd1_q, bd2_q, i_bitQ, i_oneQ, i_woQ, i_or, i_and, i_xor, zb_q0, zb_q1, zb_b, b_0Q, if_true, if_false, reduceCtorEq, if_pos, if_neg, f_x_areTwo, st_has h, decide_eq_true h1, st_hasG hy]
        rfl
      · by_cases h2 : j < S.1
        · by_cases h3 : i = j
          · subst h3
            rw [decide_eq_false (fun q => q.2.2.2.2 rfl)]
            simp (disch := omega) only [l_0, l_1, l_2, l_3, l_4, l_5, l_6, l_7, l_8, l_9, l_10, l_14, l_15, l_16, l_20, l_31, l_40, l_48, l_50, l_57, l_60, l_64, l_76, l_80, l_99, l_100, l_127, l_196, l_200, l_201, l_202, l_255, l_412, l_999, l_1000, l_16000, l_1000000, i_add, i_mul, i_sub, i_leN, i_ltN, i_eqN, i_nleG, i_nltG, inb_n, cl_nI, chk_q, bnd_q, bd1_q, bd2_q, i_bitQ, i_oneQ, i_woQ, i_or, i_and, i_xor, zb_q0, zb_q1, zb_b, b_0Q, if_true, if_false, reduceCtorEq, if_pos, if_neg, f_x_areTwo, st_has h, decide_eq_true h1]
            rfl
          · rw [decide_eq_true ⟨i_le0 hi, i_le0 hj, by rw [cl_nI hi]; exact h1, by rw [cl_nI hj]; exact h2, fun q => h3 (nI_inj hi hj q)⟩]
            simp (disch := omega) only [l_0, l_1, l_2, l_3, l_4, l_5, l_6, l_7, l_8, l_9, l_10, l_14, l_15, l_16, l_20, l_31, l_40, l_48, l_50, l_57, l_60, l_64, l_76, l_80, l_99, l_100, l_127, l_196, l_200, l_201, l_202, l_255, l_412, l_999, l_1000, l_16000, l_1000000, i_add, i_mul, i_sub, i_leN, i_ltN, i_eqN, i_nleG, i_nltG, inb_n, cl_nI, chk_q, bnd_q, bd1_q, bd2_q, i_bitQ, i_oneQ, i_woQ, i_or, i_and, i_xor, zb_q0, zb_q1, zb_b, b_0Q, if_true, if_false, reduceCtorEq, if_pos, if_neg, f_x_areTwo, st_has h, decide_eq_true h1, decide_eq_true h2]
            rfl
        · rw [decide_eq_false (fun q => h2 (by have := q.2.2.2.1; rw [cl_nI hj] at this; exact this))]
          simp (disch := omega) only [l_0, l_1, l_2, l_3, l_4, l_5, l_6, l_7, l_8, l_9, l_10, l_14, l_15, l_16, l_20, l_31, l_40, l_48, l_50, l_57, l_60, l_64, l_76, l_80, l_99, l_100, l_127, l_196, l_200, l_201, l_202, l_255, l_412, l_999, l_1000, l_16000, l_1000000, i_add, i_mul, i_sub, i_leN, i_ltN, i_eqN, i_nleG, i_nltG, inb_n, cl_nI, chk_q, bnd_q, bd1_q, bd2_q, i_bitQ, i_oneQ, i_woQ, i_or, i_and, i_xor, zb_q0, zb_q1, zb_b, b_0Q, if_true, if_false, reduceCtorEq, if_pos, if_neg, f_x_areTwo, st_has h, decide_eq_true h1, decide_eq_false h2]
          rfl
    · rw [decide_eq_false (fun q => h1 (by have := q.2.2.1; rw [cl_nI hi] at this; exact this))]
      simp (disch := omega) only [l_0, l_1, l_2, l_3, l_4, l_5, l_6, l_7, l_8, l_9, l_10, l_14, l_15, l_16, l_20, l_31, l_40, l_48, l_50, l_57, l_60, l_64, l_76, l_80, l_99, l_100, l_127, l_196, l_200, l_201, l_202, l_255, l_412, l_999, l_1000, l_16000, l_1000000, i_add, i_mul, i_sub, i_leN, i_ltN, i_eqN, i_nleG, i_nltG, inb_n, cl_nI, chk_q, bnd_q, bd1_q, bd2_q, i_bitQ, i_oneQ, i_woQ, i_or, i_and, i_xor, zb_q0, zb_q1, zb_b, b_0Q, if_true, if_false, reduceCtorEq, if_pos, if_neg, f_x_areTwo, st_has h, decide_eq_false h1]
      rfl
theorem op_hears (x y : Int32) : OpI N a (f_x_hears x y) (f_m_hears x y) := by
  intro hW hN
  have hp := hW.1.1
  by_cases hq : 0 ≤ x ∧ 0 ≤ y ∧ x.toNatClampNeg < (aS a).1 ∧ y.toNatClampNeg < (aS a).1 ∧ x ≠ y
  · obtain ⟨h1, h2, h3, h4, h5⟩ := hq
    obtain ⟨i, hi, rfl⟩ := (i_casesQ x).resolve_left (fun q => absurd h1 (by rw [i_le]; rw [i_lt] at q; have : (nI 0).toInt = (0 : Int32).toInt := rfl; omega))
    obtain ⟨j, hj, rfl⟩ := (i_casesQ y).resolve_left (fun q => absurd h2 (by rw [i_le]; rw [i_lt] at q; have : (nI 0).toInt = (0 : Int32).toInt := rfl; omega))
    have h6 := decide_eq_true (show 0 ≤ nI i ∧ 0 ≤ nI j ∧ (nI i).toNatClampNeg < (aS a).1 ∧ (nI j).toNatClampNeg < (aS a).1 ∧ nI i ≠ nI j from ⟨h1, h2, h3, h4, h5⟩)
    rw [cl_nI hi] at h3
    rw [cl_nI hj] at h4
    have hne : i ≠ j := fun q => h5 (by rw [q])
    refine ⟨nI ((aS a).2.1 i j), a, fun μ h => x_same h hN ?_, fun ν h => m_start h fun Q ν1 _ hI _ => m_same hI hN ?_⟩
    · have e2 := h.2.1.1.2.1
      unfold f_x_hears
      rw [x_areTwo h.2.1.1, h6, bd2_s]
      simp (disch := omega) only [l_0, l_1, l_2, l_3, l_4, l_5, l_6, l_7, l_8, l_9, l_10, l_14, l_15, l_16, l_20, l_31, l_40, l_48, l_50, l_57, l_60, l_64, l_76, l_80, l_99, l_100, l_127, l_196, l_200, l_201, l_202, l_255, l_412, l_999, l_1000, l_16000, l_1000000, i_add, i_mul, i_sub, i_leN, i_ltN, i_eqN, i_nleG, i_nltG, inb_n, cl_nI, chk_q, bnd_q, bd1_q, bd2_q, i_bitQ, i_oneQ, i_woQ, i_or, i_and, i_xor, zb_q0, zb_q1, zb_b, b_0Q, if_true, if_false, reduceCtorEq, if_pos, if_neg, e2]
    · have e2 := hI.2.1.1.2.1
      simp (disch := omega) only [l_0, l_1, l_2, l_3, l_4, l_5, l_6, l_7, l_8, l_9, l_10, l_14, l_15, l_16, l_20, l_31, l_40, l_48, l_50, l_57, l_60, l_64, l_76, l_80, l_99, l_100, l_127, l_196, l_200, l_201, l_202, l_255, l_412, l_999, l_1000, l_16000, l_1000000, i_add, i_mul, i_sub, i_leN, i_ltN, i_eqN, i_nleG, i_nltG, inb_n, cl_nI, chk_q, bnd_q, bd1_q, bd2_q, i_bitQ, i_oneQ, i_woQ, i_or, i_and, i_xor, zb_q0, zb_q1, zb_b, b_0Q, if_true, if_false, reduceCtorEq, if_pos, if_neg, m_isOne hI.2.1.1, decide_eq_true h3, decide_eq_true h4, e2]
  · refine ⟨-nI 1, a, fun μ h => x_same h hN ?_, fun ν h => m_start h fun Q ν1 _ hI _ => m_same hI hN ?_⟩
    · unfold f_x_hears
      rw [x_areTwo h.2.1.1, decide_eq_false hq, bd2_s]
      rfl
    · rcases i_casesQ x with hx | ⟨i, hi, rfl⟩
      · simp (disch := omega) only [l_0, l_1, l_2, l_3, l_4, l_5, l_6, l_7, l_8, l_9, l_10, l_14, l_15, l_16, l_20, l_31, l_40, l_48, l_50, l_57, l_60, l_64, l_76, l_80, l_99, l_100, l_127, l_196, l_200, l_201, l_202, l_255, l_412, l_999, l_1000, l_16000, l_1000000, i_add, i_mul, i_sub, i_leN, i_ltN, i_eqN, i_nleG, i_nltG, inb_n, cl_nI, chk_q, bnd_q, bd1_q, bd2_q, i_bitQ, i_oneQ, i_woQ, i_or, i_and, i_xor, zb_q0, zb_q1, zb_b, b_0Q, if_true, if_false, reduceCtorEq, if_pos, if_neg, m_isOneG hx]
      · by_cases h1 : i < (aS a).1
        · rcases i_casesQ y with hy | ⟨j, hj, rfl⟩
          · simp (disch := omega) only [l_0, l_1, l_2, l_3, l_4, l_5, l_6, l_7, l_8, l_9, l_10, l_14, l_15, l_16, l_20, l_31, l_40, l_48, l_50, l_57, l_60, l_64, l_76, l_80, l_99, l_100, l_127, l_196, l_200, l_201, l_202, l_255, l_412, l_999, l_1000, l_16000, l_1000000, i_add, i_mul, i_sub, i_leN, i_ltN, i_eqN, i_nleG, i_nltG, inb_n, cl_nI, chk_q, bnd_q, bd1_q, bd2_q, i_bitQ, i_oneQ, i_woQ, i_or, i_and, i_xor, zb_q0, zb_q1, zb_b, b_0Q, if_true, if_false, reduceCtorEq, if_pos, if_neg, m_isOne hI.2.1.1, decide_eq_true h1, m_isOneG hy]
          · by_cases h2 : j < (aS a).1
            · have h3 : i = j := by
                by_cases q : i = j
                · exact q
                · exact absurd ⟨i_le0 hi, i_le0 hj, by rw [cl_nI hi]; exact h1, by rw [cl_nI hj]; exact h2, fun r => q (nI_inj hi hj r)⟩ hq
              subst h3
              simp (disch := omega) only [l_0, l_1, l_2, l_3, l_4, l_5, l_6, l_7, l_8, l_9, l_10, l_14, l_15, l_16, l_20, l_31, l_40, l_48, l_50, l_57, l_60, l_64, l_76, l_80, l_99, l_100, l_127, l_196, l_200, l_201, l_202, l_255, l_412, l_999, l_1000, l_16000, l_1000000, i_add, i_mul, i_sub, i_leN, i_ltN, i_eqN, i_nleG, i_nltG, inb_n, cl_nI, chk_q, bnd_q, bd1_q, bd2_q, i_bitQ, i_oneQ, i_woQ, i_or, i_and, i_xor, zb_q0, zb_q1, zb_b, b_0Q, if_true, if_false, reduceCtorEq, if_pos, if_neg, m_isOne hI.2.1.1, decide_eq_true h1]
            · simp (disch := omega) only [l_0, l_1, l_2, l_3, l_4, l_5, l_6, l_7, l_8, l_9, l_10, l_14, l_15, l_16, l_20, l_31, l_40, l_48, l_50, l_57, l_60, l_64, l_76, l_80, l_99, l_100, l_127, l_196, l_200, l_201, l_202, l_255, l_412, l_999, l_1000, l_16000, l_1000000, i_add, i_mul, i_sub, i_leN, i_ltN, i_eqN, i_nleG, i_nltG, inb_n, cl_nI, chk_q, bnd_q, bd1_q, bd2_q, i_bitQ, i_oneQ, i_woQ, i_or, i_and, i_xor, zb_q0, zb_q1, zb_b, b_0Q, if_true, if_false, reduceCtorEq, if_pos, if_neg, m_isOne hI.2.1.1, decide_eq_true h1, decide_eq_false h2]
        · simp (disch := omega) only [l_0, l_1, l_2, l_3, l_4, l_5, l_6, l_7, l_8, l_9, l_10, l_14, l_15, l_16, l_20, l_31, l_40, l_48, l_50, l_57, l_60, l_64, l_76, l_80, l_99, l_100, l_127, l_196, l_200, l_201, l_202, l_255, l_412, l_999, l_1000, l_16000, l_1000000, i_add, i_mul, i_sub, i_leN, i_ltN, i_eqN, i_nleG, i_nltG, inb_n, cl_nI, chk_q, bnd_q, bd1_q, bd2_q, i_bitQ, i_oneQ, i_woQ, i_or, i_and, i_xor, zb_q0, zb_q1, zb_b, b_0Q, if_true, if_false, reduceCtorEq, if_pos, if_neg, m_isOne hI.2.1.1, decide_eq_false h1]
end OPS
