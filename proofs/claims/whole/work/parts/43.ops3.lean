/-! meet, talk, go, otherwise. -/
section OPS
variable {N : Nat} {a : Ab} {b : Nat × Nat} {μ0 μ : Mem} {Q : Nat}
abbrev two (p : Nat) (x y : Int32) : Prop := 0 ≤ x ∧ 0 ≤ y ∧ x.toNatClampNeg < p ∧ y.toNatClampNeg < p ∧ x ≠ y
theorem two_of {p : Nat} {x y : Int32} (h : two p x y) : ∃ i j, i < p ∧ j < p ∧ i ≠ j ∧ i < 2 ^ 31 ∧ j < 2 ^ 31 ∧ x = nI i ∧ y = nI j := by
  obtain ⟨h1, h2, h3, h4, h5⟩ := h
  obtain ⟨i, hi, rfl⟩ := (i_casesQ x).resolve_left (fun q => absurd h1 (by rw [i_le]; rw [i_lt] at q; have : (nI 0).toInt = (0 : Int32).toInt := rfl; omega))
  obtain ⟨j, hj, rfl⟩ := (i_casesQ y).resolve_left (fun q => absurd h2 (by rw [i_le]; rw [i_lt] at q; have : (nI 0).toInt = (0 : Int32).toInt := rfl; omega))
  rw [cl_nI hi] at h3
  rw [cl_nI hj] at h4
  exact ⟨i, j, h3, h4, fun q => h5 (by rw [q]), hi, hj, rfl, rfl⟩
theorem m_twoBad {S : SP} {x y : Int32} {α : Type} (h : MB S μ) (hq : ¬ two S.1 x y) (F K : Mem → Option α) : (bd2 (f_m_isOne x μ) fun v5 μ3 => if v5 = 0 then F μ3 else bd2 (f_m_isOne y μ3) fun v9 μ7 => if v9 = 0 then F μ7 else if x = y then F μ7 else K μ7) = F μ := by
  rcases i_casesQ x with hx | ⟨i, hi, rfl⟩
  · simp (disch := omega) only [l_0, l_1, l_2, l_3, l_4, l_5, l_6, l_7, l_8, l_9, l_10, l_14, l_15, l_16, l_20, l_31, l_40, l_48, l_50, l_57, l_60, l_64, l_76, l_80, l_99, l_100, l_127, l_196, l_200, l_201, l_202, l_255, l_412, l_999, l_1000, l_16000, l_1000000, i_add, i_mul, i_sub, i_leN, i_ltN, i_eqN, i_nleG, i_nltG, inb_n, cl_nI, chk_q, bnd_q, bd1_q, bd2_q, i_bitQ, i_oneQ, i_woQ, i_or, i_and, i_xor, zb_q0, zb_q1, zb_b, b_0Q, if_true, if_false, reduceCtorEq, if_pos, if_neg, m_isOneG hx]
  · by_cases h1 : i < S.1
    · rcases i_casesQ y with hy | ⟨j, hj, rfl⟩
      · simp (disch := omega) only [l_0, l_1, l_2, l_3, l_4, l_5, l_6, l_7, l_8, l_9, l_10, l_14, l_15, l_16, l_20, l_31, l_40, l_48, l_50, l_57, l_60, l_64, l_76, l_80, l_99, l_100, l_127, l_196, l_200, l_201, l_202, l_255, l_412, l_999, l_1000, l_16000, l_1000000, i_add, i_mul, i_sub, i_leN, i_ltN, i_eqN, i_nleG, i_nltG, inb_n, cl_nI, chk_q, bnd_q, bd1_q, bd2_q, i_bitQ, i_oneQ, i_woQ, i_or, i_and, i_xor, zb_q0, zb_q1, zb_b, b_0Q, if_true, if_false, reduceCtorEq, if_pos, if_neg, m_isOne h, decide_eq_true h1, m_isOneG hy]
      · by_cases h2 : j < S.1
        · have h3 : i = j := by
            by_cases q : i = j
            · exact q
            · exact absurd ⟨i_le0 hi, i_le0 hj, by rw [cl_nI hi]; exact h1, by rw [cl_nI hj]; exact h2, fun r => q (nI_inj hi hj r)⟩ hq
          subst h3
          simp (disch := omega) only [l_0, l_1, l_2, l_3, l_4, l_5, l_6, l_7, l_8, l_9, l_10, l_14, l_15, l_16, l_20, l_31, l_40, l_48, l_50, l_57, l_60, l_64, l_76, l_80, l_99, l_100, l_127, l_196, l_200, l_201, l_202, l_255, l_412, l_999, l_1000, l_16000, l_1000000, i_add, i_mul, i_sub, i_leN, i_ltN, i_eqN, i_nleG, i_nltG, inb_n, cl_nI, chk_q, bnd_q, bd1_q, bd2_q, i_bitQ, i_oneQ, i_woQ, i_or, i_and, i_xor, zb_q0, zb_q1, zb_b, b_0Q, if_true, if_false, reduceCtorEq, if_pos, if_neg, m_isOne h, decide_eq_true h1]
        · simp (disch := omega) only [l_0, l_1, l_2, l_3, l_4, l_5, l_6, l_7, l_8, l_9, l_10, l_14, l_15, l_16, l_20, l_31, l_40, l_48, l_50, l_57, l_60, l_64, l_76, l_80, l_99, l_100, l_127, l_196, l_200, l_201, l_202, l_255, l_412, l_999, l_1000, l_16000, l_1000000, i_add, i_mul, i_sub, i_leN, i_ltN, i_eqN, i_nleG, i_nltG, inb_n, cl_nI, chk_q, bnd_q, bd1_q, bd2_q, i_bitQ, i_oneQ, i_woQ, i_or, i_and, i_xor, zb_q0, zb_q1, zb_b, b_0Q, if_true, if_false, reduceCtorEq, if_pos, if_neg, m_isOne h, decide_eq_true h1, decide_eq_false h2]
    · simp (disch := omega) only [l_0, l_1, l_2, l_3, l_4, l_5, l_6, l_7, l_8, l_9, l_10, l_14, l_15, l_16, l_20, l_31, l_40, l_48, l_50, l_57, l_60, l_64, l_76, l_80, l_99, l_100, l_127, l_196, l_200, l_201, l_202, l_255, l_412, l_999, l_1000, l_16000, l_1000000, i_add, i_mul, i_sub, i_leN, i_ltN, i_eqN, i_nleG, i_nltG, inb_n, cl_nI, chk_q, bnd_q, bd1_q, bd2_q, i_bitQ, i_oneQ, i_woQ, i_or, i_and, i_xor, zb_q0, zb_q1, zb_b, b_0Q, if_true, if_false, reduceCtorEq, if_pos, if_neg, m_isOne h, decide_eq_false h1]
theorem op_meet (x y z : Int32) : OpI N a (f_x_meet x y z) (f_m_meet x y z) := by
  intro hW hN
  have hp := hW.1.1
  by_cases hq : ¬ two (aS a).1 x y
  · refine ⟨-nI 1, a, fun μ h => x_same h hN ?_, fun ν h => m_start h fun Q ν1 _ hI _ => m_same hI hN ?_⟩
    · unfold f_x_meet
      rw [x_areTwo h.2.1.1, decide_eq_false hq, bd2_s]
      rfl
    · exact m_twoBad hI.2.1.1 hq _ _
  have hq := Decidable.not_not.mp hq
  have hq' := decide_eq_true (show 0 ≤ x ∧ 0 ≤ y ∧ x.toNatClampNeg < (aS a).1 ∧ y.toNatClampNeg < (aS a).1 ∧ x ≠ y from hq)
  obtain ⟨i, j, h1, h2, h3, hi, hj, rfl, rfl⟩ := two_of hq
  rcases i_casesQ z with hz | ⟨v, hv, rfl⟩
  · refine ⟨-nI 1, a, fun μ h => x_same h hN ?_, fun ν h => m_start h fun Q ν1 _ hI _ => m_same hI hN ?_⟩
    · unfold f_x_meet
      rw [x_areTwo h.2.1.1, hq', bd2_s]
      simp (disch := omega) only [l_0, l_1, l_2, l_3, l_4, l_5, l_6, l_7, l_8, l_9, l_10, l_14, l_15, l_16, l_20, l_31, l_40, l_48, l_50, l_57, l_60, l_64, l_76, l_80, l_99, l_100, l_127, l_196, l_200, l_201, l_202, l_255, l_412, l_999, l_1000, l_16000, l_1000000, i_add, i_mul, i_sub, i_leN, i_ltN, i_eqN, i_nleG, i_nltG, inb_n, cl_nI, chk_q, bnd_q, bd1_q, bd2_q, i_bitQ, i_oneQ, i_woQ, i_or, i_and, i_xor, zb_q0, zb_q1, zb_b, b_0Q, if_true, if_false, reduceCtorEq, if_pos, if_neg, hz]
    · simp (disch := omega) only [l_0, l_1, l_2, l_3, l_4, l_5, l_6, l_7, l_8, l_9, l_10, l_14, l_15, l_16, l_20, l_31, l_40, l_48, l_50, l_57, l_60, l_64, l_76, l_80, l_99, l_100, l_127, l_196, l_200, l_201, l_202, l_255, l_412, l_999, l_1000, l_16000, l_1000000, i_add, i_mul, i_sub, i_leN, i_ltN, i_eqN, i_nleG, i_nltG, inb_n, cl_nI, chk_q, bnd_q, bd1_q, bd2_q, i_bitQ, i_oneQ, i_woQ, i_or, i_and, i_xor, zb_q0, zb_q1, zb_b, b_0Q, if_true, if_false, reduceCtorEq, if_pos, if_neg, m_isOne hI.2.1.1, decide_eq_true h1, decide_eq_true h2, m_inG hz]
  by_cases v0 : v ≤ 9
  · refine ⟨nI ((aS a).2.1 i j), aSetS a (sLd (sLd (aS a) i j v) j i v), fun μ h => ?_, fun ν h => m_start h fun Q ν1 _ hI _ => ⟨_, ?_, (m_putLoud (m_putLoud hI h1 h2 v0) h2 h1 v0).done hN⟩⟩
    · obtain ⟨μ1, k1, k2⟩ := st_putLoud h.XI (by show 0 < 60; omega) h1 h2 v0
      obtain ⟨μ2, l1, l2⟩ := st_putLoud k2 (by show 0 + 1 < 60; omega) (i := j) (j := i) (v := v) h2 h1 v0
      have e2 := h.2.1.1.2.1
      refine ⟨μ2, ?_, l2.done hN⟩
      unfold f_x_meet
      rw [x_areTwo h.2.1.1, hq', bd2_s]
      simp (disch := omega) only [l_0, l_1, l_2, l_3, l_4, l_5, l_6, l_7, l_8, l_9, l_10, l_14, l_15, l_16, l_20, l_31, l_40, l_48, l_50, l_57, l_60, l_64, l_76, l_80, l_99, l_100, l_127, l_196, l_200, l_201, l_202, l_255, l_412, l_999, l_1000, l_16000, l_1000000, i_add, i_mul, i_sub, i_leN, i_ltN, i_eqN, i_nleG, i_nltG, inb_n, cl_nI, chk_q, bnd_q, bd1_q, bd2_q, i_bitQ, i_oneQ, i_woQ, i_or, i_and, i_xor, zb_q0, zb_q1, zb_b, b_0Q, if_true, if_false, reduceCtorEq, if_pos, if_neg, nI_lt_self, e2, k1, l1]
    · have e2 := hI.2.1.1.2.1
      simp (disch := omega) only [l_0, l_1, l_2, l_3, l_4, l_5, l_6, l_7, l_8, l_9, l_10, l_14, l_15, l_16, l_20, l_31, l_40, l_48, l_50, l_57, l_60, l_64, l_76, l_80, l_99, l_100, l_127, l_196, l_200, l_201, l_202, l_255, l_412, l_999, l_1000, l_16000, l_1000000, i_add, i_mul, i_sub, i_leN, i_ltN, i_eqN, i_nleG, i_nltG, inb_n, cl_nI, chk_q, bnd_q, bd1_q, bd2_q, i_bitQ, i_oneQ, i_woQ, i_or, i_and, i_xor, zb_q0, zb_q1, zb_b, b_0Q, if_true, if_false, reduceCtorEq, if_pos, if_neg, m_isOne hI.2.1.1, decide_eq_true h1, decide_eq_true h2, m_inN, decide_eq_true v0, e2]
  · refine ⟨-nI 1, a, fun μ h => x_same h hN ?_, fun ν h => m_start h fun Q ν1 _ hI _ => m_same hI hN ?_⟩
    · unfold f_x_meet
      rw [x_areTwo h.2.1.1, hq', bd2_s]
      simp (disch := omega) only [l_0, l_1, l_2, l_3, l_4, l_5, l_6, l_7, l_8, l_9, l_10, l_14, l_15, l_16, l_20, l_31, l_40, l_48, l_50, l_57, l_60, l_64, l_76, l_80, l_99, l_100, l_127, l_196, l_200, l_201, l_202, l_255, l_412, l_999, l_1000, l_16000, l_1000000, i_add, i_mul, i_sub, i_leN, i_ltN, i_eqN, i_nleG, i_nltG, inb_n, cl_nI, chk_q, bnd_q, bd1_q, bd2_q, i_bitQ, i_oneQ, i_woQ, i_or, i_and, i_xor, zb_q0, zb_q1, zb_b, b_0Q, if_true, if_false, reduceCtorEq, if_pos, if_neg, nI_lt_self]
    · simp (disch := omega) only [l_0, l_1, l_2, l_3, l_4, l_5, l_6, l_7, l_8, l_9, l_10, l_14, l_15, l_16, l_20, l_31, l_40, l_48, l_50, l_57, l_60, l_64, l_76, l_80, l_99, l_100, l_127, l_196, l_200, l_201, l_202, l_255, l_412, l_999, l_1000, l_16000, l_1000000, i_add, i_mul, i_sub, i_leN, i_ltN, i_eqN, i_nleG, i_nltG, inb_n, cl_nI, chk_q, bnd_q, bd1_q, bd2_q, i_bitQ, i_oneQ, i_woQ, i_or, i_and, i_xor, zb_q0, zb_q1, zb_b, b_0Q, if_true, if_false, reduceCtorEq, if_pos, if_neg, m_isOne hI.2.1.1, decide_eq_true h1, decide_eq_true h2, m_inN, decide_eq_false v0]
theorem now_lt (hW : WF a) : aN a < 2 ^ (aS a).1 := hW.2.2.2.1.2 _ (Nat.le_refl _)
theorem op_talk (x : Int32) : OpI N a (f_x_talk x) (f_m_talk x) := by
  intro hW hN
  have hp := hW.1.1
  have h200 := hW.2.2.2.1.1
  have hnow := now_lt hW
  have h14 := p2_14 hp
  rcases i_casesQ x with hx | ⟨n, hn, rfl⟩
  · refine ⟨-nI 1, a, fun μ h => x_same h hN (by simp (disch := omega) only [l_0, l_1, l_2, l_3, l_4, l_5, l_6, l_7, l_8, l_9, l_10, l_14, l_15, l_16, l_20, l_31, l_40, l_48, l_50, l_57, l_60, l_64, l_76, l_80, l_99, l_100, l_127, l_196, l_200, l_201, l_202, l_255, l_412, l_999, l_1000, l_16000, l_1000000, i_add, i_mul, i_sub, i_leN, i_ltN, i_eqN, i_nleG, i_nltG, inb_n, cl_nI, chk_q, bnd_q, bd1_q, bd2_q, i_bitQ, i_oneQ, i_woQ, i_or, i_and, i_xor, zb_q0, zb_q1, zb_b, b_0Q, if_true, if_false, reduceCtorEq, if_pos, if_neg, f_x_talk, st_hasAllG hx]), fun ν h => m_start h fun Q ν1 _ hI _ => m_same hI hN ?_⟩
    simp (disch := omega) only [l_0, l_1, l_2, l_3, l_4, l_5, l_6, l_7, l_8, l_9, l_10, l_14, l_15, l_16, l_20, l_31, l_40, l_48, l_50, l_57, l_60, l_64, l_76, l_80, l_99, l_100, l_127, l_196, l_200, l_201, l_202, l_255, l_412, l_999, l_1000, l_16000, l_1000000, i_add, i_mul, i_sub, i_leN, i_ltN, i_eqN, i_nleG, i_nltG, inb_n, cl_nI, chk_q, bnd_q, bd1_q, bd2_q, i_bitQ, i_oneQ, i_woQ, i_or, i_and, i_xor, zb_q0, zb_q1, zb_b, b_0Q, if_true, if_false, reduceCtorEq, if_pos, if_neg, m_areSomeG hI.2.1.1 hx]
  by_cases hd : ¬ n < 2 ^ (aS a).1
  · refine ⟨-nI 1, a, fun μ h => x_same h hN (by simp (disch := omega) only [l_0, l_1, l_2, l_3, l_4, l_5, l_6, l_7, l_8, l_9, l_10, l_14, l_15, l_16, l_20, l_31, l_40, l_48, l_50, l_57, l_60, l_64, l_76, l_80, l_99, l_100, l_127, l_196, l_200, l_201, l_202, l_255, l_412, l_999, l_1000, l_16000, l_1000000, i_add, i_mul, i_sub, i_leN, i_ltN, i_eqN, i_nleG, i_nltG, inb_n, cl_nI, chk_q, bnd_q, bd1_q, bd2_q, i_bitQ, i_oneQ, i_woQ, i_or, i_and, i_xor, zb_q0, zb_q1, zb_b, b_0Q, if_true, if_false, reduceCtorEq, if_pos, if_neg, f_x_talk, st_hasAll h.2.1.1, decide_eq_false hd]), fun ν h => m_start h fun Q ν1 _ hI _ => m_same hI hN ?_⟩
    simp (disch := omega) only [l_0, l_1, l_2, l_3, l_4, l_5, l_6, l_7, l_8, l_9, l_10, l_14, l_15, l_16, l_20, l_31, l_40, l_48, l_50, l_57, l_60, l_64, l_76, l_80, l_99, l_100, l_127, l_196, l_200, l_201, l_202, l_255, l_412, l_999, l_1000, l_16000, l_1000000, i_add, i_mul, i_sub, i_leN, i_ltN, i_eqN, i_nleG, i_nltG, inb_n, cl_nI, chk_q, bnd_q, bd1_q, bd2_q, i_bitQ, i_oneQ, i_woQ, i_or, i_and, i_xor, zb_q0, zb_q1, zb_b, b_0Q, if_true, if_false, reduceCtorEq, if_pos, if_neg, m_areSome hI.2.1.1, decide_eq_false hd]
  have hd := Decidable.not_not.mp hd
  have hwl : wo n (opn a) < 2 ^ (aS a).1 := wo_lt hd
  by_cases ho : ¬ wo n (opn a) = 0
  · refine ⟨-nI 1, a, fun μ h => x_same h hN (by simp (disch := omega) only [l_0, l_1, l_2, l_3, l_4, l_5, l_6, l_7, l_8, l_9, l_10, l_14, l_15, l_16, l_20, l_31, l_40, l_48, l_50, l_57, l_60, l_64, l_76, l_80, l_99, l_100, l_127, l_196, l_200, l_201, l_202, l_255, l_412, l_999, l_1000, l_16000, l_1000000, i_add, i_mul, i_sub, i_leN, i_ltN, i_eqN, i_nleG, i_nltG, inb_n, cl_nI, chk_q, bnd_q, bd1_q, bd2_q, i_bitQ, i_oneQ, i_woQ, i_or, i_and, i_xor, zb_q0, zb_q1, zb_b, b_0Q, if_true, if_false, reduceCtorEq, if_pos, if_neg, f_x_talk, st_hasAll h.2.1.1, decide_eq_true hd, st_open hW h.2.1]), fun ν h => m_start h fun Q ν1 _ hI _ => m_same hI hN ?_⟩
    simp (disch := omega) only [l_0, l_1, l_2, l_3, l_4, l_5, l_6, l_7, l_8, l_9, l_10, l_14, l_15, l_16, l_20, l_31, l_40, l_48, l_50, l_57, l_60, l_64, l_76, l_80, l_99, l_100, l_127, l_196, l_200, l_201, l_202, l_255, l_412, l_999, l_1000, l_16000, l_1000000, i_add, i_mul, i_sub, i_leN, i_ltN, i_eqN, i_nleG, i_nltG, inb_n, cl_nI, chk_q, bnd_q, bd1_q, bd2_q, i_bitQ, i_oneQ, i_woQ, i_or, i_and, i_xor, zb_q0, zb_q1, zb_b, b_0Q, if_true, if_false, reduceCtorEq, if_pos, if_neg, m_areSome hI.2.1.1, decide_eq_true hd, m_open hW hI.2.1.1 hI.2.1.2.1]
  have ho := Decidable.not_not.mp ho
  have hz : aD a ≤ 200 ∧ ∀ d, d ≤ aD a → fnu (aZ a) (aD a) (aN a ||| n) d < 2 ^ (aS a).1 := ⟨h200, fun d hd' => by
    unfold fnu
    split
    · exact or_lt hnow hd
    · exact hW.2.2.2.1.2 d hd'⟩
  refine ⟨nI (prS (aS a).1 (aPr a) n), aSetZ a (aD a, fnu (aZ a) (aD a) (aN a ||| n)), fun μ h => ?_, fun ν h => m_start h fun Q ν1 _ hI _ => ?_⟩
  · have e1 := h.2.1.2.1.2.1
    have e2 := h.2.1.2.1.2.2 _ (Nat.le_refl _)
    have hX := h.XI.days (z := (aD a, fnu (aZ a) (aD a) (aN a ||| n))) (μ' := setI μ (vSt 0 6) (aD a) (nI (aN a ||| n))) hz (fun v h1 h2 => sI_v _ _ _ h2) rfl (by rw [sI_v _ _ _ (by decide)]; exact e1) (fun d hd' => by
      show (setI μ (vSt 0 6) (aD a) (nI (aN a ||| n))).1 (vSt 0 6) d = nI (fnu (aZ a) (aD a) (aN a ||| n) d)
      exact sI_fnu (p := aD a + 1) (fun i hi => h.2.1.2.1.2.2 i (by omega)) _ _ d (Nat.lt_succ_of_le hd'))
    refine ⟨_, ?_, hX.done hN⟩
    simp (disch := omega) only [l_0, l_1, l_2, l_3, l_4, l_5, l_6, l_7, l_8, l_9, l_10, l_14, l_15, l_16, l_20, l_31, l_40, l_48, l_50, l_57, l_60, l_64, l_76, l_80, l_99, l_100, l_127, l_196, l_200, l_201, l_202, l_255, l_412, l_999, l_1000, l_16000, l_1000000, i_add, i_mul, i_sub, i_leN, i_ltN, i_eqN, i_nleG, i_nltG, inb_n, cl_nI, chk_q, bnd_q, bd1_q, bd2_q, i_bitQ, i_oneQ, i_woQ, i_or, i_and, i_xor, zb_q0, zb_q1, zb_b, b_0Q, if_true, if_false, reduceCtorEq, if_pos, if_neg, f_x_talk, st_hasAll h.2.1.1, decide_eq_true hd, st_open hW h.2.1, ho, e1, e2, st_priceOf hX.2.1.1 hX.2.1.2.1.1]
  · have e1 := hI.2.1.2.1.2.1
    have e2 := hI.2.1.2.1.2.2 _ (Nat.le_refl _)
    have hX := hI.days (z := (aD a, fnu (aZ a) (aD a) (aN a ||| n))) (μ' := setI ν1 v_m_states (aD a) (nI (aN a ||| n))) hz (fun v h1 h2 => sI_v _ _ _ h1) rfl (by rw [sI_v _ _ _ (by decide)]; exact e1) (fun d hd' => by
      show (setI ν1 v_m_states (aD a) (nI (aN a ||| n))).1 v_m_states d = nI (fnu (aZ a) (aD a) (aN a ||| n) d)
      exact sI_fnu (p := aD a + 1) (fun i hi => hI.2.1.2.1.2.2 i (by omega)) _ _ d (Nat.lt_succ_of_le hd'))
    refine ⟨_, ?_, hX.done hN⟩
    simp (disch := omega) only [l_0, l_1, l_2, l_3, l_4, l_5, l_6, l_7, l_8, l_9, l_10, l_14, l_15, l_16, l_20, l_31, l_40, l_48, l_50, l_57, l_60, l_64, l_76, l_80, l_99, l_100, l_127, l_196, l_200, l_201, l_202, l_255, l_412, l_999, l_1000, l_16000, l_1000000, i_add, i_mul, i_sub, i_leN, i_ltN, i_eqN, i_nleG, i_nltG, inb_n, cl_nI, chk_q, bnd_q, bd1_q, bd2_q, i_bitQ, i_oneQ, i_woQ, i_or, i_and, i_xor, zb_q0, zb_q1, zb_b, b_0Q, if_true, if_false, reduceCtorEq, if_pos, if_neg, m_areSome hI.2.1.1, decide_eq_true hd, m_open hW hI.2.1.1 hI.2.1.2.1, ho, e1, e2, m_priceOf hX.2.1.1 hX.2.1.2.1.1]
end OPS
