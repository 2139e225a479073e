/-! Who hears whom, as sets. -/
def hb1 (S : SP) (i : Nat) : Nat := bs (fun j => decide (0 < S.2.1 i j)) S.1
def hrs (S : SP) (B : Nat) : Nat := bs (fun i => decide (hb1 S i &&& B ≠ 0)) S.1
def hba (S : SP) (B : Nat) : Nat → Nat
  | 0 => 0
  | k + 1 => hba S B k ||| (if B.testBit k then hb1 S k else 0)
theorem hb1_lt (S : SP) (i : Nat) : hb1 S i < 2 ^ S.1 := bs_lt _ _
theorem hrs_lt (S : SP) (B : Nat) : hrs S B < 2 ^ S.1 := bs_lt _ _
theorem hba_lt (S : SP) (B : Nat) : ∀ k, hba S B k < 2 ^ S.1
  | 0 => Nat.two_pow_pos _
  | k + 1 => by
    rw [hba]
    refine or_lt (hba_lt S B k) ?_
    split
    · exact hb1_lt S k
    · exact Nat.two_pow_pos _
theorem hb1_tb (S : SP) (i j : Nat) : (hb1 S i).testBit j = true ↔ j < S.1 ∧ 0 < S.2.1 i j := by
  unfold hb1
  rw [bs_tb, Bool.and_eq_true, decide_eq_true_iff, decide_eq_true_iff]
theorem and_ne0 (x y : Nat) : x &&& y ≠ 0 ↔ ∃ j, x.testBit j = true ∧ y.testBit j = true := by
  constructor
  · intro h
    obtain ⟨j, hj⟩ := Nat.exists_testBit_of_ne_zero h
    rw [Nat.testBit_and, Bool.and_eq_true] at hj
    exact ⟨j, hj⟩
  · rintro ⟨j, h1, h2⟩ h
    have : (x &&& y).testBit j = true := by rw [Nat.testBit_and, h1, h2]; rfl
    rw [h] at this
    simp at this
theorem hrs_tb (S : SP) (B i : Nat) : (hrs S B).testBit i = true ↔ i < S.1 ∧ ∃ j, j < S.1 ∧ 0 < S.2.1 i j ∧ B.testBit j = true := by
  unfold hrs
  rw [bs_tb, Bool.and_eq_true, decide_eq_true_iff, decide_eq_true_iff, and_ne0]
  constructor
  · rintro ⟨h1, j, h2, h3⟩
    exact ⟨h1, j, ((hb1_tb S i j).mp h2).1, ((hb1_tb S i j).mp h2).2, h3⟩
  · rintro ⟨h1, j, h2, h3, h4⟩
    exact ⟨h1, j, (hb1_tb S i j).mpr ⟨h2, h3⟩, h4⟩
theorem hba_tb (S : SP) (B j : Nat) : ∀ k, (hba S B k).testBit j = true ↔ ∃ i, i < k ∧ B.testBit i = true ∧ j < S.1 ∧ 0 < S.2.1 i j
  | 0 => by rw [hba]; simp
  | k + 1 => by
    rw [hba, Nat.testBit_or, Bool.or_eq_true, hba_tb S B j k]
    constructor
    · rintro (⟨i, h1, h2⟩ | h)
      · exact ⟨i, by omega, h2⟩
      · by_cases hb : B.testBit k = true
        · rw [if_pos hb] at h
          exact ⟨k, by omega, hb, (hb1_tb S k j).mp h⟩
        · rw [if_neg hb] at h
          simp at h
    · rintro ⟨i, h1, h2, h3⟩
      by_cases e : i = k
      · right
        rw [e] at h2 h3
        rw [if_pos h2]
        exact (hb1_tb S k j).mpr h3
      · left
        exact ⟨i, by omega, h2, h3⟩
section OPS
variable {N : Nat} {a : Ab} {b : Nat × Nat} {μ0 μ : Mem} {Q : Nat} {S : SP}
theorem st_hb1_lp (h : XB S μ) {k : Nat} (hk : k < 14) : ∀ m i n, i + m = S.1 → m < n → f_st_heardByOne_b4 n (nI k) (nI (bs (fun j => decide (0 < S.2.1 k j)) i)) (nI i) μ = some (nI (hb1 S k), μ) := by
  have hp := h.2.2.2.2.1
  have h0 := h.1
  have h2 := h.2.1
  have h9 := h.2.2.2.2.2.1
  intro m
  induction m with
  | zero =>
    intro i n hi hn
    obtain ⟨n, rfl⟩ : ∃ z, n = z + 1 := ⟨n - 1, by omega⟩
    obtain rfl : i = S.1 := by omega
    simp (disch := omega) only [l_0, l_1, l_2, l_3, l_4, l_5, l_6, l_7, l_8, l_9, l_10, l_14, l_15, l_16, l_20, l_31, l_40, l_48, l_50, l_57, l_60, l_64, l_76, l_80, l_99, l_100, l_127, l_196, l_200, l_201, l_202, l_255, l_412, l_999, l_1000, l_16000, l_1000000, i_add, i_mul, i_sub, i_leN, i_ltN, i_eqN, i_nleG, i_nltG, inb_n, cl_nI, chk_q, bnd_q, bd1_q, bd2_q, i_bitQ, i_oneQ, i_woQ, i_or, i_and, i_xor, zb_q0, zb_q1, zb_b, b_0Q, if_true, if_false, reduceCtorEq, if_pos, if_neg, f_st_heardByOne_b4, h0]
    rfl
  | succ m ih =>
    intro i n hi hn
    obtain ⟨n, rfl⟩ : ∃ z, n = z + 1 := ⟨n - 1, by omega⟩
    have := ih (i + 1) n (by omega) (by omega)
    have h9' := h9 k i
    rw [bs] at this
    by_cases c : 0 < S.2.1 k i
    · rw [decide_eq_true c, if_pos rfl] at this
      simp (disch := omega) only [l_0, l_1, l_2, l_3, l_4, l_5, l_6, l_7, l_8, l_9, l_10, l_14, l_15, l_16, l_20, l_31, l_40, l_48, l_50, l_57, l_60, l_64, l_76, l_80, l_99, l_100, l_127, l_196, l_200, l_201, l_202, l_255, l_412, l_999, l_1000, l_16000, l_1000000, i_add, i_mul, i_sub, i_leN, i_ltN, i_eqN, i_nleG, i_nltG, inb_n, cl_nI, chk_q, bnd_q, bd1_q, bd2_q, i_bitQ, i_oneQ, i_woQ, i_or, i_and, i_xor, zb_q0, zb_q1, zb_b, b_0Q, if_true, if_false, reduceCtorEq, if_pos, if_neg, f_st_heardByOne_b4, h0, h2, this]
    · rw [decide_eq_false c, if_neg (by decide)] at this
      simp (disch := omega) only [l_0, l_1, l_2, l_3, l_4, l_5, l_6, l_7, l_8, l_9, l_10, l_14, l_15, l_16, l_20, l_31, l_40, l_48, l_50, l_57, l_60, l_64, l_76, l_80, l_99, l_100, l_127, l_196, l_200, l_201, l_202, l_255, l_412, l_999, l_1000, l_16000, l_1000000, i_add, i_mul, i_sub, i_leN, i_ltN, i_eqN, i_nleG, i_nltG, inb_n, cl_nI, chk_q, bnd_q, bd1_q, bd2_q, i_bitQ, i_oneQ, i_woQ, i_or, i_and, i_xor, zb_q0, zb_q1, zb_b, b_0Q, if_true, if_false, reduceCtorEq, if_pos, if_neg, f_st_heardByOne_b4, h0, h2, this]
theorem st_hb1 (h : XB S μ) {k : Nat} (hk : k < 14) : f_st_heardByOne (nI k) μ = some (nI (hb1 S k), μ) :=
  st_hb1_lp h hk S.1 0 FU (by omega) (by have := h.2.2.2.2.1; unfold FU; omega)
theorem st_hrs_lp (h : XB S μ) {B : Nat} (hB : B < 2 ^ S.1) : ∀ m i n, i + m = S.1 → m < n → f_st_hearersOfAny_b4 n (nI B) (nI (bs (fun i => decide (hb1 S i &&& B ≠ 0)) i)) (nI i) μ = some (nI (hrs S B), μ) := by
  have hp := h.2.2.2.2.1
  have h0 := h.1
  have h14 := p2_14 hp
  intro m
  induction m with
  | zero =>
    intro i n hi hn
    obtain ⟨n, rfl⟩ : ∃ z, n = z + 1 := ⟨n - 1, by omega⟩
    obtain rfl : i = S.1 := by omega
    simp (disch := omega) only [l_0, l_1, l_2, l_3, l_4, l_5, l_6, l_7, l_8, l_9, l_10, l_14, l_15, l_16, l_20, l_31, l_40, l_48, l_50, l_57, l_60, l_64, l_76, l_80, l_99, l_100, l_127, l_196, l_200, l_201, l_202, l_255, l_412, l_999, l_1000, l_16000, l_1000000, i_add, i_mul, i_sub, i_leN, i_ltN, i_eqN, i_nleG, i_nltG, inb_n, cl_nI, chk_q, bnd_q, bd1_q, bd2_q, i_bitQ, i_oneQ, i_woQ, i_or, i_and, i_xor, zb_q0, zb_q1, zb_b, b_0Q, if_true, if_false, reduceCtorEq, if_pos, if_neg, f_st_hearersOfAny_b4, h0]
    rfl
  | succ m ih =>
    intro i n hi hn
    obtain ⟨n, rfl⟩ : ∃ z, n = z + 1 := ⟨n - 1, by omega⟩
    have := ih (i + 1) n (by omega) (by omega)
    have hl : hb1 S i &&& B < 2 ^ S.1 := and_lt (hb1_lt S i)
    rw [bs] at this
    by_cases c : hb1 S i &&& B = 0
    · rw [decide_eq_false (fun q => q c), if_neg (by decide)] at this
      simp (disch := omega) only [l_0, l_1, l_2, l_3, l_4, l_5, l_6, l_7, l_8, l_9, l_10, l_14, l_15, l_16, l_20, l_31, l_40, l_48, l_50, l_57, l_60, l_64, l_76, l_80, l_99, l_100, l_127, l_196, l_200, l_201, l_202, l_255, l_412, l_999, l_1000, l_16000, l_1000000, i_add, i_mul, i_sub, i_leN, i_ltN, i_eqN, i_nleG, i_nltG, inb_n, cl_nI, chk_q, bnd_q, bd1_q, bd2_q, i_bitQ, i_oneQ, i_woQ, i_or, i_and, i_xor, zb_q0, zb_q1, zb_b, b_0Q, if_true, if_false, reduceCtorEq, if_pos, if_neg, f_st_hearersOfAny_b4, h0, st_hb1 h, c, this]
    · rw [decide_eq_true c, if_pos rfl] at this
      simp (disch := omega) only [l_0, l_1, l_2, l_3, l_4, l_5, l_6, l_7, l_8, l_9, l_10, l_14, l_15, l_16, l_20, l_31, l_40, l_48, l_50, l_57, l_60, l_64, l_76, l_80, l_99, l_100, l_127, l_196, l_200, l_201, l_202, l_255, l_412, l_999, l_1000, l_16000, l_1000000, i_add, i_mul, i_sub, i_leN, i_ltN, i_eqN, i_nleG, i_nltG, inb_n, cl_nI, chk_q, bnd_q, bd1_q, bd2_q, i_bitQ, i_oneQ, i_woQ, i_or, i_and, i_xor, zb_q0, zb_q1, zb_b, b_0Q, if_true, if_false, reduceCtorEq, if_pos, if_neg, f_st_hearersOfAny_b4, h0, st_hb1 h, this]
theorem st_hrs (h : XB S μ) {B : Nat} (hB : B < 2 ^ S.1) : f_st_hearersOfAny (nI B) μ = some (nI (hrs S B), μ) :=
  st_hrs_lp h hB S.1 0 FU (by omega) (by have := h.2.2.2.2.1; unfold FU; omega)
theorem st_hba_lp (h : XB S μ) {B : Nat} (hB : B < 2 ^ S.1) : ∀ m i n, i + m = S.1 → m < n → f_st_heardByAny_b4 n (nI B) (nI (hba S B i)) (nI i) μ = some (nI (hba S B S.1), μ) := by
  have hp := h.2.2.2.2.1
  have h0 := h.1
  have h14 := p2_14 hp
  intro m
  induction m with
  | zero =>
    intro i n hi hn
    obtain ⟨n, rfl⟩ : ∃ z, n = z + 1 := ⟨n - 1, by omega⟩
    obtain rfl : i = S.1 := by omega
    simp (disch := omega) only [l_0, l_1, l_2, l_3, l_4, l_5, l_6, l_7, l_8, l_9, l_10, l_14, l_15, l_16, l_20, l_31, l_40, l_48, l_50, l_57, l_60, l_64, l_76, l_80, l_99, l_100, l_127, l_196, l_200, l_201, l_202, l_255, l_412, l_999, l_1000, l_16000, l_1000000, i_add, i_mul, i_sub, i_leN, i_ltN, i_eqN, i_nleG, i_nltG, inb_n, cl_nI, chk_q, bnd_q, bd1_q, bd2_q, i_bitQ, i_oneQ, i_woQ, i_or, i_and, i_xor, zb_q0, zb_q1, zb_b, b_0Q, if_true, if_false, reduceCtorEq, if_pos, if_neg, f_st_heardByAny_b4, h0]
  | succ m ih =>
    intro i n hi hn
    obtain ⟨n, rfl⟩ : ∃ z, n = z + 1 := ⟨n - 1, by omega⟩
    have := ih (i + 1) n (by omega) (by omega)
    rw [hba] at this
    cases c : B.testBit i with
    | true =>
      rw [c, if_pos rfl] at this
      simp (disch := omega) only [l_0, l_1, l_2, l_3, l_4, l_5, l_6, l_7, l_8, l_9, l_10, l_14, l_15, l_16, l_20, l_31, l_40, l_48, l_50, l_57, l_60, l_64, l_76, l_80, l_99, l_100, l_127, l_196, l_200, l_201, l_202, l_255, l_412, l_999, l_1000, l_16000, l_1000000, i_add, i_mul, i_sub, i_leN, i_ltN, i_eqN, i_nleG, i_nltG, inb_n, cl_nI, chk_q, bnd_q, bd1_q, bd2_q, i_bitQ, i_oneQ, i_woQ, i_or, i_and, i_xor, zb_q0, zb_q1, zb_b, b_0Q, if_true, if_false, reduceCtorEq, if_pos, if_neg, f_st_heardByAny_b4, f_st_heardByAny_b30, h0, st_hb1 h, c, this]
    | false =>
      rw [c, if_neg (by decide)] at this
      simp (disch := omega) only [l_0, l_1, l_2, l_3, l_4, l_5, l_6, l_7, l_8, l_9, l_10, l_14, l_15, l_16, l_20, l_31, l_40, l_48, l_50, l_57, l_60, l_64, l_76, l_80, l_99, l_100, l_127, l_196, l_200, l_201, l_202, l_255, l_412, l_999, l_1000, l_16000, l_1000000, i_add, i_mul, i_sub, i_leN, i_ltN, i_eqN, i_nleG, i_nltG, inb_n, cl_nI, chk_q, bnd_q, bd1_q, bd2_q, i_bitQ, i_oneQ, i_woQ, i_or, i_and, i_xor, zb_q0, zb_q1, zb_b, b_0Q, if_true, if_false, reduceCtorEq, if_pos, if_neg, f_st_heardByAny_b4, f_st_heardByAny_b30, h0, c, this]
theorem st_hba (h : XB S μ) {B : Nat} (hB : B < 2 ^ S.1) : f_st_heardByAny (nI B) μ = some (nI (hba S B S.1), μ) :=
  st_hba_lp h hB S.1 0 FU (by omega) (by have := h.2.2.2.2.1; unfold FU; omega)
end OPS
