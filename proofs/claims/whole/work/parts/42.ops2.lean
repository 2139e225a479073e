/-! set, meet, talk, go, otherwise. -/
def sNd (S : SP) (i v : Nat) : SP := (S.1, S.2.1, fnu S.2.2.1 i v, S.2.2.2)
def lou (lo : Nat → Nat → Nat) (i j v : Nat) : Nat → Nat → Nat := fun x y => if x = i ∧ y = j then v else lo x y
def sLd (S : SP) (i j v : Nat) : SP := (S.1, lou S.2.1 i j v, S.2.2)
theorem sNd_ok {S : SP} {i v : Nat} (h : SOk S) (hv : v ≤ 99) : SOk (sNd S i v) := ⟨h.1, h.2.1, fun k hk => by
  show fnu S.2.2.1 i v k ≤ 99
  unfold fnu
  split
  · exact hv
  · exact h.2.2.1 k hk, h.2.2.2⟩
theorem sLd_ok {S : SP} {i j v : Nat} (h : SOk S) (hv : v ≤ 9) : SOk (sLd S i j v) := ⟨h.1, fun x y => by
  show lou S.2.1 i j v x y ≤ 9
  unfold lou
  split
  · exact hv
  · exact h.2.1 x y, h.2.2⟩
theorem sLd_z {S : SP} {i j v : Nat} (hi : i < S.1) (hj : j < S.1) (h : zOut S.1 S.2.1) : zOut S.1 (sLd S i j v).2.1 := fun x y hxy => by
  show lou S.2.1 i j v x y = 0
  unfold lou
  rw [if_neg (by omega)]
  exact h x y hxy
section OPS
variable {N : Nat} {a : Ab} {b : Nat × Nat} {μ0 μ : Mem} {Q : Nat}
theorem st_putNeed (h : XI N b a μ0 μ) (hb : b.2 < 60) {i v : Nat} (hi : i < (aS a).1) (hv : v ≤ 99) : ∃ μ', f_st_putNeed (nI i) (nI v) μ = some μ' ∧ XI N (b.1, b.2 + 1) (aSetS a (sNd (aS a) i v)) μ0 μ' := by
  have hp := h.1.1.1
  have hB := h.2.1.1
  refine ⟨setI (setI μ (vSt 0 4) i (nI v)) (vSt 0 3) 0 (μ.1 (vSt 0 3) 0 + nI 1), ?_, h.street hb rfl ⟨sNd_ok h.1.1 hv, h.1.2.1⟩ (fun u h3 h4 _ => ?_) rfl (sI_eq _ _ _ _) ⟨?_, fun x y hx hy => ?_, fun k hk => ?_, ?_, sNd_ok h.1.1 hv⟩⟩
  · have e : (setI μ (vSt 0 4) i (nI v)).1 (vSt 0 3) = μ.1 (vSt 0 3) := sI_v _ _ _ (by decide)
    simp (disch := omega) only [l_0, l_1, l_2, l_3, l_4, l_5, l_6, l_7, l_8, l_9, l_10, l_14, l_15, l_16, l_20, l_31, l_40, l_48, l_50, l_57, l_60, l_64, l_76, l_80, l_99, l_100, l_127, l_196, l_200, l_201, l_202, l_255, l_412, l_999, l_1000, l_16000, l_1000000, i_add, i_mul, i_sub, i_leN, i_ltN, i_eqN, i_nleG, i_nltG, inb_n, cl_nI, chk_q, bnd_q, bd1_q, bd2_q, i_bitQ, i_oneQ, i_woQ, i_or, i_and, i_xor, zb_q0, zb_q1, zb_b, b_0Q, if_true, if_false, reduceCtorEq, if_pos, if_neg, f_st_putNeed, e]
  · rw [sI_v _ _ _ h3, sI_v _ _ _ h4]
  · rw [sI_v _ _ _ (by decide), sI_v _ _ _ (by decide)]; exact hB.1
  · rw [sI_v _ _ _ (by show 5 + 22 * 0 + (8 + x) ≠ 5 + 22 * 0 + 3; omega), sI_v _ _ _ (by show 5 + 22 * 0 + (8 + x) ≠ 5 + 22 * 0 + 4; omega)]; exact hB.2.1 x y hx hy
  · rw [sI_v _ _ _ (by decide)]; exact sI_fnu hB.2.2.1 i v k hk
  · rw [sI_v _ _ _ (by decide), sI_v _ _ _ (by decide)]; exact hB.2.2.2.1
theorem st_putLoud (h : XI N b a μ0 μ) (hb : b.2 < 60) {i j v : Nat} (hi : i < (aS a).1) (hj : j < (aS a).1) (hv : v ≤ 9) : ∃ μ', f_st_putLoud (nI i) (nI j) (nI v) μ = some μ' ∧ XI N (b.1, b.2 + 1) (aSetS a (sLd (aS a) i j v)) μ0 μ' := by
  have hp := h.1.1.1
  have hB := h.2.1.1
  refine ⟨setI (setI μ (vSt 0 (8 + i)) j (nI v)) (vSt 0 3) 0 (μ.1 (vSt 0 3) 0 + nI 1), ?_, h.street hb rfl ⟨sLd_ok h.1.1 hv, sLd_z hi hj h.1.2.1⟩ (fun u h3 h4 h5 => ?_) rfl (sI_eq _ _ _ _) ⟨?_, fun x y hx hy => ?_, fun k hk => ?_, ?_, sLd_ok h.1.1 hv⟩⟩
  · have e : (setI μ (vSt 0 (8 + i)) j (nI v)).1 (vSt 0 3) = μ.1 (vSt 0 3) := sI_v _ _ _ (by show 5 + 22 * 0 + 3 ≠ 5 + 22 * 0 + (8 + i); omega)
    simp (disch := omega) only [l_0, l_1, l_2, l_3, l_4, l_5, l_6, l_7, l_8, l_9, l_10, l_14, l_15, l_16, l_20, l_31, l_40, l_48, l_50, l_57, l_60, l_64, l_76, l_80, l_99, l_100, l_127, l_196, l_200, l_201, l_202, l_255, l_412, l_999, l_1000, l_16000, l_1000000, i_add, i_mul, i_sub, i_leN, i_ltN, i_eqN, i_nleG, i_nltG, inb_n, cl_nI, chk_q, bnd_q, bd1_q, bd2_q, i_bitQ, i_oneQ, i_woQ, i_or, i_and, i_xor, zb_q0, zb_q1, zb_b, b_0Q, if_true, if_false, reduceCtorEq, if_pos, if_neg, f_st_putLoud, e]
  · rw [sI_v _ _ _ h3, sI_v _ _ _ (h5 i (by omega))]
  · rw [sI_v _ _ _ (by decide), sI_v _ _ _ (by show 5 + 22 * 0 + 0 ≠ 5 + 22 * 0 + (8 + i); omega)]; exact hB.1
  · rw [sI_v _ _ _ (by show 5 + 22 * 0 + (8 + x) ≠ 5 + 22 * 0 + 3; omega)]
    show _ = nI (lou (aS a).2.1 i j v x y)
    unfold lou
    by_cases e : x = i
    · subst e
      by_cases e2 : y = j
      · subst e2; rw [sI_eq, if_pos ⟨rfl, rfl⟩]
      · rw [sI_i _ _ _ e2, if_neg (fun q => e2 q.2)]; exact hB.2.1 x y hx hy
    · rw [sI_v _ _ _ (by show 5 + 22 * 0 + (8 + x) ≠ 5 + 22 * 0 + (8 + i); omega), if_neg (fun q => e q.1)]; exact hB.2.1 x y hx hy
  · rw [sI_v _ _ _ (by decide), sI_v _ _ _ (by show 5 + 22 * 0 + 4 ≠ 5 + 22 * 0 + (8 + i); omega)]; exact hB.2.2.1 k hk
  · rw [sI_v _ _ _ (by decide), sI_v _ _ _ (by show 5 + 22 * 0 + 1 ≠ 5 + 22 * 0 + (8 + i); omega)]; exact hB.2.2.2.1
theorem m_putNeed (h : MI N Q a μ0 μ) {i v : Nat} (hi : i < (aS a).1) (hv : v ≤ 99) : MI N Q (aSetS a (sNd (aS a) i v)) μ0 (setI μ v_m_need i (nI v)) := by
  have hB := h.2.1.1
  refine h.street rfl ⟨sNd_ok h.1.1 hv, h.1.2.1⟩ (fun u h3 h4 => sI_v _ _ _ h3) rfl ⟨?_, fun x y hx hy => ?_, fun k hk => ?_, ?_, sNd_ok h.1.1 hv⟩
  · rw [sI_v _ _ _ (by decide)]; exact hB.1
  · rw [sI_v _ _ _ (by decide)]; exact hB.2.1 x y hx hy
  · exact sI_fnu hB.2.2.1 i v k hk
  · rw [sI_v _ _ _ (by decide)]; exact hB.2.2.2.1
theorem m_putLoud (h : MI N Q a μ0 μ) {i j v : Nat} (hi : i < (aS a).1) (hj : j < (aS a).1) (hv : v ≤ 9) : MI N Q (aSetS a (sLd (aS a) i j v)) μ0 (setI μ v_m_loud (14 * i + j) (nI v)) := by
  have hB := h.2.1.1
  have hp := h.1.1.1
  refine h.street rfl ⟨sLd_ok h.1.1 hv, sLd_z hi hj h.1.2.1⟩ (fun u h3 h4 => sI_v _ _ _ h4) rfl ⟨?_, fun x y hx hy => ?_, fun k hk => ?_, ?_, sLd_ok h.1.1 hv⟩
  · rw [sI_v _ _ _ (by decide)]; exact hB.1
  · show _ = nI (lou (aS a).2.1 i j v x y)
    unfold lou
    by_cases e : x = i ∧ y = j
    · rw [e.1, e.2, sI_eq, if_pos ⟨rfl, rfl⟩]
    · rw [sI_i _ _ _ (by omega), if_neg e]; exact hB.2.1 x y hx hy
  · rw [sI_v _ _ _ (by decide)]; exact hB.2.2.1 k hk
  · rw [sI_v _ _ _ (by decide)]; exact hB.2.2.2.1
theorem op_set (x y z : Int32) : OpI N a (f_x_set x y z) (f_m_set x y z) := by
  intro hW hN
  have hp := hW.1.1
  rcases i_casesQ x with hx | ⟨i, hi, rfl⟩
  · refine ⟨-nI 1, a, fun μ h => x_same h hN (by simp (disch := omega) only [l_0, l_1, l_2, l_3, l_4, l_5, l_6, l_7, l_8, l_9, l_10, l_14, l_15, l_16, l_20, l_31, l_40, l_48, l_50, l_57, l_60, l_64, l_76, l_80, l_99, l_100, l_127, l_196, l_200, l_201, l_202, l_255, l_412, l_999, l_1000, l_16000, l_1000000, i_add, i_mul, i_sub, i_leN, i_ltN, i_eqN, i_nleG, i_nltG, inb_n, cl_nI, chk_q, bnd_q, bd1_q, bd2_q, i_bitQ, i_oneQ, i_woQ, i_or, i_and, i_xor, zb_q0, zb_q1, zb_b, b_0Q, if_true, if_false, reduceCtorEq, if_pos, if_neg, f_x_set, st_hasG hx]), fun ν h => m_start h fun Q ν1 _ hI _ => m_same hI hN ?_⟩
    simp (disch := omega) only [l_0, l_1, l_2, l_3, l_4, l_5, l_6, l_7, l_8, l_9, l_10, l_14, l_15, l_16, l_20, l_31, l_40, l_48, l_50, l_57, l_60, l_64, l_76, l_80, l_99, l_100, l_127, l_196, l_200, l_201, l_202, l_255, l_412, l_999, l_1000, l_16000, l_1000000, i_add, i_mul, i_sub, i_leN, i_ltN, i_eqN, i_nleG, i_nltG, inb_n, cl_nI, chk_q, bnd_q, bd1_q, bd2_q, i_bitQ, i_oneQ, i_woQ, i_or, i_and, i_xor, zb_q0, zb_q1, zb_b, b_0Q, if_true, if_false, reduceCtorEq, if_pos, if_neg, m_isOneG hx]
  by_cases h1 : ¬ i < (aS a).1
  · refine ⟨-nI 1, a, fun μ h => x_same h hN (by simp (disch := omega) only [l_0, l_1, l_2, l_3, l_4, l_5, l_6, l_7, l_8, l_9, l_10, l_14, l_15, l_16, l_20, l_31, l_40, l_48, l_50, l_57, l_60, l_64, l_76, l_80, l_99, l_100, l_127, l_196, l_200, l_201, l_202, l_255, l_412, l_999, l_1000, l_16000, l_1000000, i_add, i_mul, i_sub, i_leN, i_ltN, i_eqN, i_nleG, i_nltG, inb_n, cl_nI, chk_q, bnd_q, bd1_q, bd2_q, i_bitQ, i_oneQ, i_woQ, i_or, i_and, i_xor, zb_q0, zb_q1, zb_b, b_0Q, if_true, if_false, reduceCtorEq, if_pos, if_neg, f_x_set, st_has h.2.1.1, decide_eq_false h1]), fun ν h => m_start h fun Q ν1 _ hI _ => m_same hI hN ?_⟩
    simp (disch := omega) only [l_0, l_1, l_2, l_3, l_4, l_5, l_6, l_7, l_8, l_9, l_10, l_14, l_15, l_16, l_20, l_31, l_40, l_48, l_50, l_57, l_60, l_64, l_76, l_80, l_99, l_100, l_127, l_196, l_200, l_201, l_202, l_255, l_412, l_999, l_1000, l_16000, l_1000000, i_add, i_mul, i_sub, i_leN, i_ltN, i_eqN, i_nleG, i_nltG, inb_n, cl_nI, chk_q, bnd_q, bd1_q, bd2_q, i_bitQ, i_oneQ, i_woQ, i_or, i_and, i_xor, zb_q0, zb_q1, zb_b, b_0Q, if_true, if_false, reduceCtorEq, if_pos, if_neg, m_isOne hI.2.1.1, decide_eq_false h1]
  have h1 := Decidable.not_not.mp h1
  rcases i_casesQ z with hz | ⟨v, hv, rfl⟩
  · refine ⟨-nI 1, a, fun μ h => x_same h hN (by simp (disch := omega) only [l_0, l_1, l_2, l_3, l_4, l_5, l_6, l_7, l_8, l_9, l_10, l_14, l_15, l_16, l_20, l_31, l_40, l_48, l_50, l_57, l_60, l_64, l_76, l_80, l_99, l_100, l_127, l_196, l_200, l_201, l_202, l_255, l_412, l_999, l_1000, l_16000, l_1000000, i_add, i_mul, i_sub, i_leN, i_ltN, i_eqN, i_nleG, i_nltG, inb_n, cl_nI, chk_q, bnd_q, bd1_q, bd2_q, i_bitQ, i_oneQ, i_woQ, i_or, i_and, i_xor, zb_q0, zb_q1, zb_b, b_0Q, if_true, if_false, reduceCtorEq, if_pos, if_neg, f_x_set, st_has h.2.1.1, decide_eq_true h1, i_nleG hz]), fun ν h => m_start h fun Q ν1 _ hI _ => m_same hI hN ?_⟩
    simp (disch := omega) only [l_0, l_1, l_2, l_3, l_4, l_5, l_6, l_7, l_8, l_9, l_10, l_14, l_15, l_16, l_20, l_31, l_40, l_48, l_50, l_57, l_60, l_64, l_76, l_80, l_99, l_100, l_127, l_196, l_200, l_201, l_202, l_255, l_412, l_999, l_1000, l_16000, l_1000000, i_add, i_mul, i_sub, i_leN, i_ltN, i_eqN, i_nleG, i_nltG, inb_n, cl_nI, chk_q, bnd_q, bd1_q, bd2_q, i_bitQ, i_oneQ, i_woQ, i_or, i_and, i_xor, zb_q0, zb_q1, zb_b, b_0Q, if_true, if_false, reduceCtorEq, if_pos, if_neg, m_isOne hI.2.1.1, decide_eq_true h1, m_inG hz, ite_self]
    rw [m_in, bd2_s]
  rcases i_casesQ y with hy | ⟨w, hw, rfl⟩
  · have n0 : ¬ y = nI 0 := fun q => absurd hy (by rw [q]; exact i_nlt0 (by omega))
    have n1 : ¬ y = nI 1 := fun q => absurd hy (by rw [q]; exact i_nlt0 (by omega))
    refine ⟨-nI 1, a, fun μ h => x_same h hN (by simp (disch := omega) only [l_0, l_1, l_2, l_3, l_4, l_5, l_6, l_7, l_8, l_9, l_10, l_14, l_15, l_16, l_20, l_31, l_40, l_48, l_50, l_57, l_60, l_64, l_76, l_80, l_99, l_100, l_127, l_196, l_200, l_201, l_202, l_255, l_412, l_999, l_1000, l_16000, l_1000000, i_add, i_mul, i_sub, i_leN, i_ltN, i_eqN, i_nleG, i_nltG, inb_n, cl_nI, chk_q, bnd_q, bd1_q, bd2_q, i_bitQ, i_oneQ, i_woQ, i_or, i_and, i_xor, zb_q0, zb_q1, zb_b, b_0Q, if_true, if_false, reduceCtorEq, if_pos, if_neg, f_x_set, f_x_set_b50, st_has h.2.1.1, decide_eq_true h1, n0, n1]), fun ν h => m_start h fun Q ν1 _ hI _ => m_same hI hN ?_⟩
    simp (disch := omega) only [l_0, l_1, l_2, l_3, l_4, l_5, l_6, l_7, l_8, l_9, l_10, l_14, l_15, l_16, l_20, l_31, l_40, l_48, l_50, l_57, l_60, l_64, l_76, l_80, l_99, l_100, l_127, l_196, l_200, l_201, l_202, l_255, l_412, l_999, l_1000, l_16000, l_1000000, i_add, i_mul, i_sub, i_leN, i_ltN, i_eqN, i_nleG, i_nltG, inb_n, cl_nI, chk_q, bnd_q, bd1_q, bd2_q, i_bitQ, i_oneQ, i_woQ, i_or, i_and, i_xor, zb_q0, zb_q1, zb_b, b_0Q, if_true, if_false, reduceCtorEq, if_pos, if_neg, m_isOne hI.2.1.1, decide_eq_true h1, m_inG hy]
  by_cases w0 : w = 0
  · subst w0
    by_cases v0 : v ≤ 99
    · refine ⟨nI ((aS a).2.2.1 i), aSetS a (sNd (aS a) i v), fun μ h => ?_, fun ν h => m_start h fun Q ν1 _ hI _ => ⟨_, ?_, (m_putNeed hI h1 v0).done hN⟩⟩
      · obtain ⟨μ', k1, k2⟩ := st_putNeed h.XI (by show 0 < 60; omega) h1 v0
        have e3 := h.2.1.1.2.2.1 i h1
        exact ⟨μ', by simp (disch := omega) only [l_0, l_1, l_2, l_3, l_4, l_5, l_6, l_7, l_8, l_9, l_10, l_14, l_15, l_16, l_20, l_31, l_40, l_48, l_50, l_57, l_60, l_64, l_76, l_80, l_99, l_100, l_127, l_196, l_200, l_201, l_202, l_255, l_412, l_999, l_1000, l_16000, l_1000000, i_add, i_mul, i_sub, i_leN, i_ltN, i_eqN, i_nleG, i_nltG, inb_n, cl_nI, chk_q, bnd_q, bd1_q, bd2_q, i_bitQ, i_oneQ, i_woQ, i_or, i_and, i_xor, zb_q0, zb_q1, zb_b, b_0Q, if_true, if_false, reduceCtorEq, if_pos, if_neg, f_x_set, st_has h.2.1.1, decide_eq_true h1, e3, k1], k2.done hN⟩
      · have e3 := hI.2.1.1.2.2.1 i h1
        simp (disch := omega) only [l_0, l_1, l_2, l_3, l_4, l_5, l_6, l_7, l_8, l_9, l_10, l_14, l_15, l_16, l_20, l_31, l_40, l_48, l_50, l_57, l_60, l_64, l_76, l_80, l_99, l_100, l_127, l_196, l_200, l_201, l_202, l_255, l_412, l_999, l_1000, l_16000, l_1000000, i_add, i_mul, i_sub, i_leN, i_ltN, i_eqN, i_nleG, i_nltG, inb_n, cl_nI, chk_q, bnd_q, bd1_q, bd2_q, i_bitQ, i_oneQ, i_woQ, i_or, i_and, i_xor, zb_q0, zb_q1, zb_b, b_0Q, if_true, if_false, reduceCtorEq, if_pos, if_neg, m_isOne hI.2.1.1, decide_eq_true h1, m_inN, decide_eq_true v0, decide_eq_true (Nat.zero_le 1), e3, f_m_set_b62]
    · refine ⟨-nI 1, a, fun μ h => x_same h hN (by simp (disch := omega) only [l_0, l_1, l_2, l_3, l_4, l_5, l_6, l_7, l_8, l_9, l_10, l_14, l_15, l_16, l_20, l_31, l_40, l_48, l_50, l_57, l_60, l_64, l_76, l_80, l_99, l_100, l_127, l_196, l_200, l_201, l_202, l_255, l_412, l_999, l_1000, l_16000, l_1000000, i_add, i_mul, i_sub, i_leN, i_ltN, i_eqN, i_nleG, i_nltG, inb_n, cl_nI, chk_q, bnd_q, bd1_q, bd2_q, i_bitQ, i_oneQ, i_woQ, i_or, i_and, i_xor, zb_q0, zb_q1, zb_b, b_0Q, if_true, if_false, reduceCtorEq, if_pos, if_neg, f_x_set, f_x_set_b50, st_has h.2.1.1, decide_eq_true h1]), fun ν h => m_start h fun Q ν1 _ hI _ => m_same hI hN ?_⟩
      simp (disch := omega) only [l_0, l_1, l_2, l_3, l_4, l_5, l_6, l_7, l_8, l_9, l_10, l_14, l_15, l_16, l_20, l_31, l_40, l_48, l_50, l_57, l_60, l_64, l_76, l_80, l_99, l_100, l_127, l_196, l_200, l_201, l_202, l_255, l_412, l_999, l_1000, l_16000, l_1000000, i_add, i_mul, i_sub, i_leN, i_ltN, i_eqN, i_nleG, i_nltG, inb_n, cl_nI, chk_q, bnd_q, bd1_q, bd2_q, i_bitQ, i_oneQ, i_woQ, i_or, i_and, i_xor, zb_q0, zb_q1, zb_b, b_0Q, if_true, if_false, reduceCtorEq, if_pos, if_neg, m_isOne hI.2.1.1, decide_eq_true h1, m_inN, decide_eq_true (Nat.zero_le 1), decide_eq_false v0]
  by_cases w1 : w = 1
  · subst w1
    by_cases v0 : v ≤ 9
    · have hz : ∀ k, k < (aS a).1 → fnu (aPr a) i v k ≤ 9 := fun k hk => by
        unfold fnu
        split
        · exact v0
        · exact hW.2.2.1 k hk
      refine ⟨nI (aPr a i), aSetP a (fnu (aPr a) i v), fun μ h => ⟨setI μ (vSt 0 5) i (nI v), ?_, (h.XI.price hz (fun u hu => sI_v _ _ _ hu) rfl (sI_fnu h.2.1.2.1.1 i v)).done hN⟩, fun ν h => m_start h fun Q ν1 _ hI _ => ⟨setI ν1 v_m_price i (nI v), ?_, (hI.price hz (fun u hu => sI_v _ _ _ hu) rfl (sI_fnu hI.2.1.2.1.1 i v)).done hN⟩⟩
      · have e3 := h.2.1.2.1.1 i h1
        simp (disch := omega) only [l_0, l_1, l_2, l_3, l_4, l_5, l_6, l_7, l_8, l_9, l_10, l_14, l_15, l_16, l_20, l_31, l_40, l_48, l_50, l_57, l_60, l_64, l_76, l_80, l_99, l_100, l_127, l_196, l_200, l_201, l_202, l_255, l_412, l_999, l_1000, l_16000, l_1000000, i_add, i_mul, i_sub, i_leN, i_ltN, i_eqN, i_nleG, i_nltG, inb_n, cl_nI, chk_q, bnd_q, bd1_q, bd2_q, i_bitQ, i_oneQ, i_woQ, i_or, i_and, i_xor, zb_q0, zb_q1, zb_b, b_0Q, if_true, if_false, reduceCtorEq, if_pos, if_neg, f_x_set, f_x_set_b50, st_has h.2.1.1, decide_eq_true h1, e3]
      · have e3 := hI.2.1.2.1.1 i h1
        simp (disch := omega) only [l_0, l_1, l_2, l_3, l_4, l_5, l_6, l_7, l_8, l_9, l_10, l_14, l_15, l_16, l_20, l_31, l_40, l_48, l_50, l_57, l_60, l_64, l_76, l_80, l_99, l_100, l_127, l_196, l_200, l_201, l_202, l_255, l_412, l_999, l_1000, l_16000, l_1000000, i_add, i_mul, i_sub, i_leN, i_ltN, i_eqN, i_nleG, i_nltG, inb_n, cl_nI, chk_q, bnd_q, bd1_q, bd2_q, i_bitQ, i_oneQ, i_woQ, i_or, i_and, i_xor, zb_q0, zb_q1, zb_b, b_0Q, if_true, if_false, reduceCtorEq, if_pos, if_neg, m_isOne hI.2.1.1, decide_eq_true h1, m_inN, decide_eq_true v0, decide_eq_true (Nat.le_refl 1), e3, f_m_set_b62]
    · refine ⟨-nI 1, a, fun μ h => x_same h hN (by simp (disch := omega) only [l_0, l_1, l_2, l_3, l_4, l_5, l_6, l_7, l_8, l_9, l_10, l_14, l_15, l_16, l_20, l_31, l_40, l_48, l_50, l_57, l_60, l_64, l_76, l_80, l_99, l_100, l_127, l_196, l_200, l_201, l_202, l_255, l_412, l_999, l_1000, l_16000, l_1000000, i_add, i_mul, i_sub, i_leN, i_ltN, i_eqN, i_nleG, i_nltG, inb_n, cl_nI, chk_q, bnd_q, bd1_q, bd2_q, i_bitQ, i_oneQ, i_woQ, i_or, i_and, i_xor, zb_q0, zb_q1, zb_b, b_0Q, if_true, if_false, reduceCtorEq, if_pos, if_neg, f_x_set, f_x_set_b50, st_has h.2.1.1, decide_eq_true h1]), fun ν h => m_start h fun Q ν1 _ hI _ => m_same hI hN ?_⟩
      simp (disch := omega) only [l_0, l_1, l_2, l_3, l_4, l_5, l_6, l_7, l_8, l_9, l_10, l_14, l_15, l_16, l_20, l_31, l_40, l_48, l_50, l_57, l_60, l_64, l_76, l_80, l_99, l_100, l_127, l_196, l_200, l_201, l_202, l_255, l_412, l_999, l_1000, l_16000, l_1000000, i_add, i_mul, i_sub, i_leN, i_ltN, i_eqN, i_nleG, i_nltG, inb_n, cl_nI, chk_q, bnd_q, bd1_q, bd2_q, i_bitQ, i_oneQ, i_woQ, i_or, i_and, i_xor, zb_q0, zb_q1, zb_b, b_0Q, if_true, if_false, reduceCtorEq, if_pos, if_neg, m_isOne hI.2.1.1, decide_eq_true h1, m_inN, decide_eq_true (Nat.le_refl 1), decide_eq_false v0]
  · refine ⟨-nI 1, a, fun μ h => x_same h hN (by simp (disch := omega) only [l_0, l_1, l_2, l_3, l_4, l_5, l_6, l_7, l_8, l_9, l_10, l_14, l_15, l_16, l_20, l_31, l_40, l_48, l_50, l_57, l_60, l_64, l_76, l_80, l_99, l_100, l_127, l_196, l_200, l_201, l_202, l_255, l_412, l_999, l_1000, l_16000, l_1000000, i_add, i_mul, i_sub, i_leN, i_ltN, i_eqN, i_nleG, i_nltG, inb_n, cl_nI, chk_q, bnd_q, bd1_q, bd2_q, i_bitQ, i_oneQ, i_woQ, i_or, i_and, i_xor, zb_q0, zb_q1, zb_b, b_0Q, if_true, if_false, reduceCtorEq, if_pos, if_neg, f_x_set, f_x_set_b50, st_has h.2.1.1, decide_eq_true h1]), fun ν h => m_start h fun Q ν1 _ hI _ => m_same hI hN ?_⟩
    simp (disch := omega) only [l_0, l_1, l_2, l_3, l_4, l_5, l_6, l_7, l_8, l_9, l_10, l_14, l_15, l_16, l_20, l_31, l_40, l_48, l_50, l_57, l_60, l_64, l_76, l_80, l_99, l_100, l_127, l_196, l_200, l_201, l_202, l_255, l_412, l_999, l_1000, l_16000, l_1000000, i_add, i_mul, i_sub, i_leN, i_ltN, i_eqN, i_nleG, i_nltG, inb_n, cl_nI, chk_q, bnd_q, bd1_q, bd2_q, i_bitQ, i_oneQ, i_woQ, i_or, i_and, i_xor, zb_q0, zb_q1, zb_b, b_0Q, if_true, if_false, reduceCtorEq, if_pos, if_neg, m_isOne hI.2.1.1, decide_eq_true h1, m_inN, decide_eq_false (show ¬ w ≤ 1 by omega)]
end OPS
