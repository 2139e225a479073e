/-! part: the reference's way, and both. -/
section OPS
variable {N : Nat} {a : Ab} {b : Nat × Nat} {μ0 μ : Mem} {Q : Nat} {S : SP}
theorem m_part_in (h : MB S μ) {i T0 : Nat} (hi : i < S.1) (k6 : Int32 → Int32 → Mem → Option (Int32 × Mem)) (k16 : Int32 → Int32 → Int32 → Mem → Option (Int32 × Mem)) : ∀ m j n T, j + m = S.1 → m < n → T < 2 ^ S.1 → ∃ T', f_m_partOf_b28 k6 k16 n (nI T) (nI T0) (nI i) (nI j) μ = k16 (nI T') (nI T0) (nI (i + 1)) μ ∧ T' < 2 ^ S.1 ∧ sub T T' ∧ (∀ C, clo S C → sub T C → sub T' C) ∧ ∀ y, j ≤ y → y < S.1 → T.testBit i = true → adj S i y → T'.testBit y = true := by
  have hp := h.2.2.2.2.1
  have h0 := h.1
  have h2 := h.2.1
  have h9 := h.2.2.2.2.2.1
  intro m
  induction m with
  | zero =>
    intro j n T hj hn hT
    obtain ⟨n, rfl⟩ : ∃ z, n = z + 1 := ⟨n - 1, by omega⟩
    obtain rfl : j = S.1 := by omega
    refine ⟨T, ?_, hT, sub_rf T, fun C _ q => q, fun y h1 h2 => absurd h2 (by omega)⟩
    simp (disch := omega) only [l_0, l_1, l_2, l_3, l_4, l_5, l_6, l_7, l_8, l_9, l_10, l_14, l_15, l_16, l_20, l_31, l_40, l_48, l_50, l_57, l_60, l_64, l_76, l_80, l_99, l_100, l_127, l_196, l_200, l_201, l_202, l_255, l_412, l_999, l_1000, l_16000, l_1000000, i_add, i_mul, i_sub, i_leN, i_ltN, i_eqN, i_nleG, i_nltG, inb_n, cl_nI, chk_q, bnd_q, bd1_q, bd2_q, i_bitQ, i_oneQ, i_woQ, i_or, i_and, i_xor, zb_q0, zb_q1, zb_b, b_0Q, if_true, if_false, reduceCtorEq, if_pos, if_neg, f_m_partOf_b28, h0]
  | succ m ih =>
    intro j n T hj hn hT
    obtain ⟨n, rfl⟩ : ∃ z, n = z + 1 := ⟨n - 1, by omega⟩
    have hT' := p2_31 hp hT
    have q1 := h9 i j
    have q2 := h9 j i
    have skip : (T.testBit i = true → ¬ adj S i j) → ∃ T', f_m_partOf_b28 k6 k16 n (nI T) (nI T0) (nI i) (nI (j + 1)) μ = k16 (nI T') (nI T0) (nI (i + 1)) μ ∧ T' < 2 ^ S.1 ∧ sub T T' ∧ (∀ C, clo S C → sub T C → sub T' C) ∧ ∀ y, j ≤ y → y < S.1 → T.testBit i = true → adj S i y → T'.testBit y = true := fun hno => by
      obtain ⟨T', a1, a2, a3, a4, a5⟩ := ih (j + 1) n T (by omega) (by omega) hT
      refine ⟨T', a1, a2, a3, a4, fun y h1 h2 h3 h4 => ?_⟩
      by_cases e : y = j
      · subst e; exact absurd h4 (hno h3)
      · exact a5 y (by omega) h2 h3 h4
    cases c : T.testBit i with
    | false =>
      obtain ⟨T', a1, a2⟩ := skip (fun q => by rw [c] at q; exact absurd q (by decide))
      rw [c] at a2
      refine ⟨T', ?_, a2⟩
      rw [← a1]
      simp (disch := omega) only [l_0, l_1, l_2, l_3, l_4, l_5, l_6, l_7, l_8, l_9, l_10, l_14, l_15, l_16, l_20, l_31, l_40, l_48, l_50, l_57, l_60, l_64, l_76, l_80, l_99, l_100, l_127, l_196, l_200, l_201, l_202, l_255, l_412, l_999, l_1000, l_16000, l_1000000, i_add, i_mul, i_sub, i_leN, i_ltN, i_eqN, i_nleG, i_nltG, inb_n, cl_nI, chk_q, bnd_q, bd1_q, bd2_q, i_bitQ, i_oneQ, i_woQ, i_or, i_and, i_xor, zb_q0, zb_q1, zb_b, b_0Q, if_true, if_false, reduceCtorEq, if_pos, if_neg, f_m_partOf_b28, h0, m_has hT', c]
    | true =>
      by_cases d : S.2.1 i j + S.2.1 j i = 0
      · obtain ⟨T', a1, a2⟩ := skip (fun _ q => by unfold adj at q; omega)
        rw [c] at a2
        refine ⟨T', ?_, a2⟩
        rw [← a1]
        simp (disch := omega) only [l_0, l_1, l_2, l_3, l_4, l_5, l_6, l_7, l_8, l_9, l_10, l_14, l_15, l_16, l_20, l_31, l_40, l_48, l_50, l_57, l_60, l_64, l_76, l_80, l_99, l_100, l_127, l_196, l_200, l_201, l_202, l_255, l_412, l_999, l_1000, l_16000, l_1000000, i_add, i_mul, i_sub, i_leN, i_ltN, i_eqN, i_nleG, i_nltG, inb_n, cl_nI, chk_q, bnd_q, bd1_q, bd2_q, i_bitQ, i_oneQ, i_woQ, i_or, i_and, i_xor, zb_q0, zb_q1, zb_b, b_0Q, if_true, if_false, reduceCtorEq, if_pos, if_neg, f_m_partOf_b28, h0, m_has hT', c, h2, reduceCtorEq]
      · obtain ⟨T', a1, a2, a3, a4, a5⟩ := ih (j + 1) n (T ||| 2 ^ j) (by omega) (by omega) (or_lt hT (Nat.pow_lt_pow_right (by omega) (by omega)))
        refine ⟨T', ?_, a2, sub_tr (sub_or1 _ _) a3, fun C q1 q2 => a4 C q1 (sub_or q2 (fun y q3 => ?_)), fun y h1 h2 h3 h4 => ?_⟩
        · rw [← a1]
          simp (disch := omega) only [l_0, l_1, l_2, l_3, l_4, l_5, l_6, l_7, l_8, l_9, l_10, l_14, l_15, l_16, l_20, l_31, l_40, l_48, l_50, l_57, l_60, l_64, l_76, l_80, l_99, l_100, l_127, l_196, l_200, l_201, l_202, l_255, l_412, l_999, l_1000, l_16000, l_1000000, i_add, i_mul, i_sub, i_leN, i_ltN, i_eqN, i_nleG, i_nltG, inb_n, cl_nI, chk_q, bnd_q, bd1_q, bd2_q, i_bitQ, i_oneQ, i_woQ, i_or, i_and, i_xor, zb_q0, zb_q1, zb_b, b_0Q, if_true, if_false, reduceCtorEq, if_pos, if_neg, f_m_partOf_b28, h0, m_has hT', c, h2, reduceCtorEq]
        · rw [tb_p2, decide_eq_true_iff] at q3
          rw [← q3]
          exact q1 i j hi (by omega) (q2 i c) (by unfold adj; omega)
        · by_cases e : y = j
          · subst e
            exact a3 y (by rw [Nat.testBit_or, tb_p2]; simp)
          · exact a5 y (by omega) h2 (sub_or1 _ _ i c) h4
theorem m_part_mid (h : MB S μ) {T0 : Nat} (k6 : Int32 → Int32 → Mem → Option (Int32 × Mem)) : ∀ m i n T, i + m = S.1 → m < n → T < 2 ^ S.1 → sub T0 T → ∃ T', f_m_partOf_b16 k6 n (nI T) (nI T0) (nI i) μ = k6 (nI T') (nI T0) μ ∧ T' < 2 ^ S.1 ∧ sub T T' ∧ (∀ C, clo S C → sub T C → sub T' C) ∧ ∀ x y, i ≤ x → x < S.1 → y < S.1 → T0.testBit x = true → adj S x y → T'.testBit y = true := by
  have hp := h.2.2.2.2.1
  have h0 := h.1
  intro m
  induction m with
  | zero =>
    intro i n T hi hn hT hs
    obtain ⟨n, rfl⟩ : ∃ z, n = z + 1 := ⟨n - 1, by omega⟩
    obtain rfl : i = S.1 := by omega
    refine ⟨T, ?_, hT, sub_rf T, fun C _ q => q, fun x y h1 h2 => absurd h2 (by omega)⟩
    simp (disch := omega) only [l_0, l_1, l_2, l_3, l_4, l_5, l_6, l_7, l_8, l_9, l_10, l_14, l_15, l_16, l_20, l_31, l_40, l_48, l_50, l_57, l_60, l_64, l_76, l_80, l_99, l_100, l_127, l_196, l_200, l_201, l_202, l_255, l_412, l_999, l_1000, l_16000, l_1000000, i_add, i_mul, i_sub, i_leN, i_ltN, i_eqN, i_nleG, i_nltG, inb_n, cl_nI, chk_q, bnd_q, bd1_q, bd2_q, i_bitQ, i_oneQ, i_woQ, i_or, i_and, i_xor, zb_q0, zb_q1, zb_b, b_0Q, if_true, if_false, reduceCtorEq, if_pos, if_neg, f_m_partOf_b16, h0]
  | succ m ih =>
    intro i n T hi hn hT hs
    obtain ⟨n, rfl⟩ : ∃ z, n = z + 1 := ⟨n - 1, by omega⟩
    obtain ⟨T1, a1, a2, a3, a4, a5⟩ := m_part_in h (T0 := T0) (i := i) (by omega) k6 (f_m_partOf_b16 k6 n) S.1 0 FU T (by omega) (by unfold FU; omega) hT
    obtain ⟨T2, b1, b2, b3, b4, b5⟩ := ih (i + 1) n T1 (by omega) (by omega) a2 (sub_tr hs a3)
    refine ⟨T2, ?_, b2, sub_tr a3 b3, fun C q1 q2 => b4 C q1 (a4 C q1 q2), fun x y h1 h2 h3 h4 h5 => ?_⟩
    · rw [← b1, ← a1, f_m_partOf_b16, h0, if_neg (fun q => absurd ((i_leN (by omega) (by omega)).mp q) (by omega))]
      rfl
    · by_cases e : x = i
      · subst e
        exact b3 y (a5 y (by omega) h3 (hs x h4) h5)
      · exact b5 x y (by omega) h2 h3 h4 h5
theorem m_part_out (h : MB S μ) {i : Nat} (hi : i < S.1) : ∀ m n T W, S.1 - crd S.1 T ≤ m → m + 1 < n → T < 2 ^ S.1 → W < 2 ^ S.1 → T.testBit i = true → (∀ C, C.testBit i = true → clo S C → sub T C) → (T = W → clo S T) → f_m_partOf_b6 n (nI T) (nI W) μ = some (nI (prt S i), μ) := by
  have hp := h.2.2.2.2.1
  have fin : ∀ T, T < 2 ^ S.1 → T.testBit i = true → (∀ C, C.testBit i = true → clo S C → sub T C) → clo S T → T = prt S i := fun T h1 h2 h3 h4 => isPart_u ⟨h1, h2, h4, h3⟩ (part_x hi)
  intro m
  induction m with
  | zero =>
    intro n T W hm hn hT hW h1 h2 h3
    obtain ⟨n, rfl⟩ : ∃ z, n = z + 2 := ⟨n - 2, by omega⟩
    by_cases e : T = W
    · rw [f_m_partOf_b6, if_pos (by rw [e]), fin T hT h1 h2 (h3 e)]
    · obtain ⟨T1, a1, a2, a3, a4, a5⟩ := m_part_mid h (T0 := T) (f_m_partOf_b6 (n + 1)) S.1 0 FU T (by omega) (by unfold FU; omega) hT (sub_rf T)
      have hTT : T = T1 := Classical.byContradiction fun q => by
        have u1 := crd_lt a2 a3 q
        have u2 := crd_le S.1 T1
        omega
      rw [f_m_partOf_b6, if_neg (fun q => e (nI_inj (p2_31 hp hT) (p2_31 hp hW) q)), l_0, a1, ← hTT, f_m_partOf_b6, if_pos rfl, fin T hT h1 h2 (fun x y q1 q2 q3 q4 => by have := a5 x y (by omega) q1 q2 q3 q4; rw [← hTT] at this; exact this)]
  | succ m ih =>
    intro n T W hm hn hT hW h1 h2 h3
    obtain ⟨n, rfl⟩ : ∃ z, n = z + 2 := ⟨n - 2, by omega⟩
    by_cases e : T = W
    · rw [f_m_partOf_b6, if_pos (by rw [e]), fin T hT h1 h2 (h3 e)]
    · obtain ⟨T1, a1, a2, a3, a4, a5⟩ := m_part_mid h (T0 := T) (f_m_partOf_b6 (n + 1)) S.1 0 FU T (by omega) (by unfold FU; omega) hT (sub_rf T)
      rw [f_m_partOf_b6, if_neg (fun q => e (nI_inj (p2_31 hp hT) (p2_31 hp hW) q)), l_0, a1]
      by_cases hTT : T = T1
      · rw [← hTT, f_m_partOf_b6, if_pos rfl, fin T hT h1 h2 (fun x y q1 q2 q3 q4 => by have := a5 x y (by omega) q1 q2 q3 q4; rw [← hTT] at this; exact this)]
      · have u1 := crd_lt a2 a3 hTT
        have u2 := crd_le S.1 T1
        exact ih (n + 1) T1 T (by omega) (by omega) a2 hT (a3 i h1) (fun C q1 q2 => a4 C q2 (h2 C q1 q2)) (fun q => absurd q.symm hTT)
theorem m_part (h : MB S μ) {i : Nat} (hi : i < S.1) : f_m_partOf (nI i) μ = some (nI (prt S i), μ) := by
  have hp := h.2.2.2.2.1
  have hl : 2 ^ i < 2 ^ S.1 := Nat.pow_lt_pow_right (by omega) hi
  have h1 := Nat.one_le_two_pow (n := i)
  unfold f_m_partOf
  rw [i_one (by omega), l_0]
  exact m_part_out h hi S.1 FU (2 ^ i) 0 (by omega) (by unfold FU; omega) hl (by omega) (by rw [tb_p2]; simp) (fun C q1 _ j q => by rw [tb_p2, decide_eq_true_iff] at q; rw [← q]; exact q1) (fun q => by omega)
theorem prt_lt {i : Nat} (hi : i < S.1) : prt S i < 2 ^ S.1 := (part_x hi).1
/-- how many parts, as seen from j on -/
def nPt (S : SP) : Nat → Nat → Nat → Nat → Nat
  | 0, _, _, c => c
  | m + 1, j, seen, c => if seen.testBit j then nPt S m (j + 1) seen c else nPt S m (j + 1) (seen ||| prt S j) (c + 1)
theorem x_part_lp (hN : N < 600) {i : Nat} (hi : i < (aS a).1) (h : XI N b a μ0 μ) : ∀ m j n seen c, j + m = (aS a).1 → m < n → seen < 2 ^ (aS a).1 → c ≤ j → ∃ μ', f_x_part_b20 n (nI i) (nI c) (nI seen) (nI j) μ = some (nI (prt (aS a) i), μ') ∧ XO N (aSetR a [(nI (nPt (aS a) m j seen c)).toInt64]) μ0 μ' := by
  have hB := h.2.1.1
  have hp := hB.2.2.2.2.1
  have h0 := hB.1
  intro m
  induction m with
  | zero =>
    intro j n seen c hj hn hs hc
    obtain ⟨n, rfl⟩ : ∃ z, n = z + 1 := ⟨n - 1, by omega⟩
    obtain ⟨μ1, a1, a2, a3⟩ := rw_only (nI c).toInt64 μ
    have hX := h.told hN (by simp) a2 a3
    refine ⟨μ1, ?_, hX⟩
    rw [f_x_part_b20, h0, if_pos ((i_leN (by omega) (by omega)).mpr (by omega)), a1, bd1_s, st_part hX.1.2.1.1 hi, bd2_s]
  | succ m ih =>
    intro j n seen c hj hn hs hc
    obtain ⟨n, rfl⟩ : ∃ z, n = z + 1 := ⟨n - 1, by omega⟩
    rw [f_x_part_b20, h0, if_neg (fun q => absurd ((i_leN (by omega) (by omega)).mp q) (by omega)), nPt, i_bit (p2_31 hp hs) (by omega)]
    cases e : seen.testBit j with
    | true =>
      rw [if_neg (by decide), if_pos rfl, l_1, i_add]
      exact ih (j + 1) n seen c (by omega) (by omega) hs (by omega)
    | false =>
      rw [if_pos (by decide), if_neg (by decide), st_part hB (by omega), bd2_s, l_1, i_add, i_or, i_add]
      exact ih (j + 1) n _ (c + 1) (by omega) (by omega) (or_lt hs (prt_lt (by omega))) (by omega)
theorem m_part_lp (hN : N < 600) {i : Nat} (hi : i < (aS a).1) (h : MI N Q a μ0 μ) : ∀ m j n seen c, j + m = (aS a).1 → m < n → seen < 2 ^ (aS a).1 → c ≤ j → ∃ μ', f_m_part_b22 n (nI i) (nI c) (nI seen) (nI j) μ = some (nI (prt (aS a) i), μ') ∧ MO N (aSetR a [(nI (nPt (aS a) m j seen c)).toInt64]) μ0 μ' := by
  have hB := h.2.1.1
  have hp := hB.2.2.2.2.1
  have h0 := hB.1
  intro m
  induction m with
  | zero =>
    intro j n seen c hj hn hs hc
    obtain ⟨n, rfl⟩ : ∃ z, n = z + 1 := ⟨n - 1, by omega⟩
    obtain ⟨c1, c2⟩ := m_clear μ
    obtain ⟨μ1, a1, a2, a3⟩ := m_tell (nI c).toInt64 c1 (by simp)
    have hX := h.told hN (by simp) a2 (c2.tr a3)
    refine ⟨μ1, ?_, hX⟩
    rw [f_m_part_b22, h0, if_pos ((i_leN (by omega) (by omega)).mpr (by omega)), bnd_s, a1, bd1_s, m_part hX.1.2.1.1 hi, bd2_s]
  | succ m ih =>
    intro j n seen c hj hn hs hc
    obtain ⟨n, rfl⟩ : ∃ z, n = z + 1 := ⟨n - 1, by omega⟩
    rw [f_m_part_b22, h0, if_neg (fun q => absurd ((i_leN (by omega) (by omega)).mp q) (by omega)), nPt, m_has (p2_31 hp hs) (by omega), bd2_s]
    cases e : seen.testBit j with
    | true =>
      rw [if_neg (by decide), if_pos rfl, l_1, i_add]
      exact ih (j + 1) n seen c (by omega) (by omega) hs (by omega)
    | false =>
      rw [if_pos (by decide), if_neg (by decide), m_part hB (by omega), bd2_s, l_1, i_add, i_or, i_add]
      exact ih (j + 1) n _ (c + 1) (by omega) (by omega) (or_lt hs (prt_lt (by omega))) (by omega)
theorem op_part (x : Int32) : OpI N a (f_x_part x) (f_m_part x) := by
  intro hW hN
  have h14 := hW.1.1
  rcases i_casesQ x with hx | ⟨n, hn, rfl⟩
  · refine ⟨-1, a, fun μ h => x_same h hN ?_, fun ν h => m_start h fun Q ν1 _ hI _ => m_same hI hN ?_⟩
    · unfold f_x_part
      rw [st_hasG hx, bd2_s, if_pos (by decide)]
    · rw [m_isOneG hx, bd2_s, if_pos (by decide)]
  by_cases hd : n < (aS a).1
  · refine ⟨nI (prt (aS a) n), aSetR a [(nI (nPt (aS a) (aS a).1 0 0 0)).toInt64], fun μ h => ?_, fun ν h => m_start h fun Q ν1 _ hI _ => ?_⟩
    · unfold f_x_part
      rw [st_has h.2.1.1 hn, bd2_s, decide_eq_true hd, if_neg (by decide), l_0]
      exact x_part_lp hN hd h.XI (aS a).1 0 FU 0 0 (by omega) (by unfold FU; omega) (Nat.two_pow_pos _) (by omega)
    · rw [m_isOne hI.2.1.1 hn, bd2_s, decide_eq_true hd, if_neg (by decide), l_0]
      exact m_part_lp hN hd hI (aS a).1 0 FU 0 0 (by omega) (by unfold FU; omega) (Nat.two_pow_pos _) (by omega)
  · refine ⟨-1, a, fun μ h => x_same h hN ?_, fun ν h => m_start h fun Q ν1 _ hI _ => m_same hI hN ?_⟩
    · unfold f_x_part
      rw [st_has h.2.1.1 hn, bd2_s, decide_eq_false hd, if_pos (by decide)]
    · rw [m_isOne hI.2.1.1 hn, bd2_s, decide_eq_false hd, if_pos (by decide)]
end OPS
