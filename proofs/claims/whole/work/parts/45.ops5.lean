/-! alike, sign, person, row. -/
def OpT {α : Type} (N : Nat) (a : Ab) (fx : Mem → Option (α × Mem)) (ft : Mem → Option Mem) (fm : Mem → Option (α × Mem)) : Prop := WF a → N < 600 →
  (∃ ans a', (∀ μ, XR N a μ → ∃ μ', fx μ = some (ans, μ') ∧ XO N a' μ μ') ∧ ∀ ν, MR N a ν → ∃ ν', fm ν = some (ans, ν') ∧ MO N a' ν ν' ∧ ν'.1 v_m_thrown 0 = nI 0) ∨
  ∃ a', (∀ μ, XR N a μ → ∃ μ', ft μ = some μ' ∧ XO N a' μ μ') ∧ ∀ ν, MR N a ν → ∃ ans ν', fm ν = some (ans, ν') ∧ MO N a' ν ν' ∧ ν'.1 v_m_thrown 0 = nI 1
theorem m_startT {α : Type} {N : Nat} {ν : Mem} {a : Ab} {P : α → Mem → Prop} {body : Mem → Option (α × Mem)} (hR : MR N a ν) (h : ∀ Q ν1, Q ≤ 50000 * N → MI N Q a ν ν1 → ν1.1 v_m_thrown 0 = nI 0 → ∃ r ν', body ν1 = some (r, ν') ∧ P r ν') : ∃ r ν', (bnd (setI ν v_m_thrown 0 (0 : Int32)) fun ν1 => body ν1) = some (r, ν') ∧ P r ν' := by
  obtain ⟨Q, hQ, hI⟩ := hR.MI
  exact h Q _ hQ (hI.thrown 0) (sI_eq _ _ _ _)
def alk (S : SP) (i : Nat) : Bool := decide (∀ j, j < i → S.2.1 i j = S.2.1 j i)
section OPS
variable {N : Nat} {a : Ab} {b : Nat × Nat} {μ0 μ : Mem} {Q : Nat} {S : SP}
theorem x_alike_in (h : XB S μ) (k2 : Int32 → Mem → Option (Int32 × Mem)) {i : Nat} (hi : i < 14) : ∀ m j n, j + m = i → m < n → (∀ j', j' < j → S.2.1 i j' = S.2.1 j' i) → f_x_alike_b15 k2 n (nI i) (nI j) μ = if alk S i then k2 (nI (i + 1)) μ else some (nI 0, μ) := by
  have h2 := h.2.1
  have h9 := h.2.2.2.2.2.1
  intro m
  induction m with
  | zero =>
    intro j n hj hn hk
    obtain ⟨n, rfl⟩ : ∃ z, n = z + 1 := ⟨n - 1, by omega⟩
    obtain rfl : j = i := by omega
    rw [show alk S j = true from decide_eq_true hk, if_pos rfl]
    simp (disch := omega) only [l_0, l_1, l_2, l_3, l_4, l_5, l_6, l_7, l_8, l_9, l_10, l_14, l_15, l_16, l_20, l_31, l_40, l_48, l_50, l_57, l_60, l_64, l_76, l_80, l_99, l_100, l_127, l_196, l_200, l_201, l_202, l_255, l_412, l_999, l_1000, l_16000, l_1000000, i_add, i_mul, i_sub, i_leN, i_ltN, i_eqN, i_nleG, i_nltG, inb_n, cl_nI, chk_q, bnd_q, bd1_q, bd2_q, i_bitQ, i_oneQ, i_woQ, i_or, i_and, i_xor, zb_q0, zb_q1, zb_b, b_0Q, if_true, if_false, reduceCtorEq, if_pos, if_neg, f_x_alike_b15]
  | succ m ih =>
    intro j n hj hn hk
    obtain ⟨n, rfl⟩ : ∃ z, n = z + 1 := ⟨n - 1, by omega⟩
    have := h9 i j
    have := h9 j i
    by_cases e : S.2.1 i j = S.2.1 j i
    · rw [← ih (j + 1) n (by omega) (by omega) (fun j' hj' => by rcases Nat.lt_or_eq_of_le (Nat.le_of_lt_succ hj') with q | q; exact hk j' q; rw [q]; exact e)]
      simp (disch := omega) only [l_0, l_1, l_2, l_3, l_4, l_5, l_6, l_7, l_8, l_9, l_10, l_14, l_15, l_16, l_20, l_31, l_40, l_48, l_50, l_57, l_60, l_64, l_76, l_80, l_99, l_100, l_127, l_196, l_200, l_201, l_202, l_255, l_412, l_999, l_1000, l_16000, l_1000000, i_add, i_mul, i_sub, i_leN, i_ltN, i_eqN, i_nleG, i_nltG, inb_n, cl_nI, chk_q, bnd_q, bd1_q, bd2_q, i_bitQ, i_oneQ, i_woQ, i_or, i_and, i_xor, zb_q0, zb_q1, zb_b, b_0Q, if_true, if_false, reduceCtorEq, if_pos, if_neg, f_x_alike_b15, h2, e]
    · rw [show alk S i = false from decide_eq_false (fun q => e (q j (by omega)))]
      simp (disch := omega) only [l_0, l_1, l_2, l_3, l_4, l_5, l_6, l_7, l_8, l_9, l_10, l_14, l_15, l_16, l_20, l_31, l_40, l_48, l_50, l_57, l_60, l_64, l_76, l_80, l_99, l_100, l_127, l_196, l_200, l_201, l_202, l_255, l_412, l_999, l_1000, l_16000, l_1000000, i_add, i_mul, i_sub, i_leN, i_ltN, i_eqN, i_nleG, i_nltG, inb_n, cl_nI, chk_q, bnd_q, bd1_q, bd2_q, i_bitQ, i_oneQ, i_woQ, i_or, i_and, i_xor, zb_q0, zb_q1, zb_b, b_0Q, if_true, if_false, reduceCtorEq, if_pos, if_neg, f_x_alike_b15, h2]
theorem x_alike_lp (h : XB S μ) : ∀ m i n, i + m = S.1 → m < n → f_x_alike_b2 n (nI i) μ = some (nI (bN (decide (∀ k, k < m → alk S (i + k) = true))), μ) := by
  have h0 := h.1
  have hp := h.2.2.2.2.1
  intro m
  induction m with
  | zero =>
    intro i n hi hn
    obtain ⟨n, rfl⟩ : ∃ z, n = z + 1 := ⟨n - 1, by omega⟩
    rw [decide_eq_true (fun k hk => absurd hk (by omega))]
    simp (disch := omega) only [l_0, l_1, l_2, l_3, l_4, l_5, l_6, l_7, l_8, l_9, l_10, l_14, l_15, l_16, l_20, l_31, l_40, l_48, l_50, l_57, l_60, l_64, l_76, l_80, l_99, l_100, l_127, l_196, l_200, l_201, l_202, l_255, l_412, l_999, l_1000, l_16000, l_1000000, i_add, i_mul, i_sub, i_leN, i_ltN, i_eqN, i_nleG, i_nltG, inb_n, cl_nI, chk_q, bnd_q, bd1_q, bd2_q, i_bitQ, i_oneQ, i_woQ, i_or, i_and, i_xor, zb_q0, zb_q1, zb_b, b_0Q, if_true, if_false, reduceCtorEq, if_pos, if_neg, f_x_alike_b2, h0]
    rfl
  | succ m ih =>
    intro i n hi hn
    obtain ⟨n, rfl⟩ : ∃ z, n = z + 1 := ⟨n - 1, by omega⟩
    have e1 := x_alike_in h (f_x_alike_b2 n) (i := i) (by omega) i 0 FU (by omega) (by unfold FU; omega) (fun _ q => absurd q (by omega))
    have e2 : f_x_alike_b2 (n + 1) (nI i) μ = f_x_alike_b15 (f_x_alike_b2 n) FU (nI i) (nI 0) μ := by simp (disch := omega) only [l_0, l_1, l_2, l_3, l_4, l_5, l_6, l_7, l_8, l_9, l_10, l_14, l_15, l_16, l_20, l_31, l_40, l_48, l_50, l_57, l_60, l_64, l_76, l_80, l_99, l_100, l_127, l_196, l_200, l_201, l_202, l_255, l_412, l_999, l_1000, l_16000, l_1000000, i_add, i_mul, i_sub, i_leN, i_ltN, i_eqN, i_nleG, i_nltG, inb_n, cl_nI, chk_q, bnd_q, bd1_q, bd2_q, i_bitQ, i_oneQ, i_woQ, i_or, i_and, i_xor, zb_q0, zb_q1, zb_b, b_0Q, if_true, if_false, reduceCtorEq, if_pos, if_neg, f_x_alike_b2, h0]
    rw [e2, e1, ih (i + 1) n (by omega) (by omega)]
    cases ha : alk S i with
    | true =>
      rw [if_pos rfl]
      have : decide (∀ k, k < m → alk S (i + 1 + k) = true) = decide (∀ k, k < m + 1 → alk S (i + k) = true) := decide_eq_decide.mpr ⟨fun q k hk => by
        rcases Nat.eq_zero_or_pos k with rfl | hk'
        · exact ha
        · have := q (k - 1) (by omega)
          rw [show i + 1 + (k - 1) = i + k by omega] at this
          exact this, fun q k hk => by
        have := q (k + 1) (by omega)
        rw [show i + (k + 1) = i + 1 + k by omega] at this
        exact this⟩
      rw [this]
    | false =>
      rw [if_neg (by decide), decide_eq_false (fun q => by have := q 0 (by omega); rw [Nat.add_zero, ha] at this; exact absurd this (by decide))]
      rfl
theorem m_alike_in (h : MB S μ) (k2 : Int32 → Mem → Option (Int32 × Mem)) {i : Nat} (hi : i < 14) : ∀ m j n, j + m = i → m < n → (∀ j', j' < j → S.2.1 i j' = S.2.1 j' i) → f_m_alike_b17 k2 n (nI i) (nI j) μ = if alk S i then k2 (nI (i + 1)) μ else some (nI 0, μ) := by
  have h2 := h.2.1
  have h9 := h.2.2.2.2.2.1
  intro m
  induction m with
  | zero =>
    intro j n hj hn hk
    obtain ⟨n, rfl⟩ : ∃ z, n = z + 1 := ⟨n - 1, by omega⟩
    obtain rfl : j = i := by omega
    rw [show alk S j = true from decide_eq_true hk, if_pos rfl]
    simp (disch := omega) only [l_0, l_1, l_2, l_3, l_4, l_5, l_6, l_7, l_8, l_9, l_10, l_14, l_15, l_16, l_20, l_31, l_40, l_48, l_50, l_57, l_60, l_64, l_76, l_80, l_99, l_100, l_127, l_196, l_200, l_201, l_202, l_255, l_412, l_999, l_1000, l_16000, l_1000000, i_add, i_mul, i_sub, i_leN, i_ltN, i_eqN, i_nleG, i_nltG, inb_n, cl_nI, chk_q, bnd_q, bd1_q, bd2_q, i_bitQ, i_oneQ, i_woQ, i_or, i_and, i_xor, zb_q0, zb_q1, zb_b, b_0Q, if_true, if_false, reduceCtorEq, if_pos, if_neg, f_m_alike_b17]
  | succ m ih =>
    intro j n hj hn hk
    obtain ⟨n, rfl⟩ : ∃ z, n = z + 1 := ⟨n - 1, by omega⟩
    have := h9 i j
    have := h9 j i
    by_cases e : S.2.1 i j = S.2.1 j i
    · rw [← ih (j + 1) n (by omega) (by omega) (fun j' hj' => by rcases Nat.lt_or_eq_of_le (Nat.le_of_lt_succ hj') with q | q; exact hk j' q; rw [q]; exact e)]
      simp (disch := omega) only [l_0, l_1, l_2, l_3, l_4, l_5, l_6, l_7, l_8, l_9, l_10, l_14, l_15, l_16, l_20, l_31, l_40, l_48, l_50, l_57, l_60, l_64, l_76, l_80, l_99, l_100, l_127, l_196, l_200, l_201, l_202, l_255, l_412, l_999, l_1000, l_16000, l_1000000, i_add, i_mul, i_sub, i_leN, i_ltN, i_eqN, i_nleG, i_nltG, inb_n, cl_nI, chk_q, bnd_q, bd1_q, bd2_q, i_bitQ, i_oneQ, i_woQ, i_or, i_and, i_xor, zb_q0, zb_q1, zb_b, b_0Q, if_true, if_false, reduceCtorEq, if_pos, if_neg, f_m_alike_b17, h2, e]
    · rw [show alk S i = false from decide_eq_false (fun q => e (q j (by omega)))]
      simp (disch := omega) only [l_0, l_1, l_2, l_3, l_4, l_5, l_6, l_7, l_8, l_9, l_10, l_14, l_15, l_16, l_20, l_31, l_40, l_48, l_50, l_57, l_60, l_64, l_76, l_80, l_99, l_100, l_127, l_196, l_200, l_201, l_202, l_255, l_412, l_999, l_1000, l_16000, l_1000000, i_add, i_mul, i_sub, i_leN, i_ltN, i_eqN, i_nleG, i_nltG, inb_n, cl_nI, chk_q, bnd_q, bd1_q, bd2_q, i_bitQ, i_oneQ, i_woQ, i_or, i_and, i_xor, zb_q0, zb_q1, zb_b, b_0Q, if_true, if_false, reduceCtorEq, if_pos, if_neg, f_m_alike_b17, h2]
theorem m_alike_lp (h : MB S μ) : ∀ m i n, i + m = S.1 → m < n → f_m_alike_b7 n (nI i) μ = some (nI (bN (decide (∀ k, k < m → alk S (i + k) = true))), μ) := by
  have h0 := h.1
  have hp := h.2.2.2.2.1
  intro m
  induction m with
  | zero =>
    intro i n hi hn
    obtain ⟨n, rfl⟩ : ∃ z, n = z + 1 := ⟨n - 1, by omega⟩
    rw [decide_eq_true (fun k hk => absurd hk (by omega))]
    simp (disch := omega) only [l_0, l_1, l_2, l_3, l_4, l_5, l_6, l_7, l_8, l_9, l_10, l_14, l_15, l_16, l_20, l_31, l_40, l_48, l_50, l_57, l_60, l_64, l_76, l_80, l_99, l_100, l_127, l_196, l_200, l_201, l_202, l_255, l_412, l_999, l_1000, l_16000, l_1000000, i_add, i_mul, i_sub, i_leN, i_ltN, i_eqN, i_nleG, i_nltG, inb_n, cl_nI, chk_q, bnd_q, bd1_q, bd2_q, i_bitQ, i_oneQ, i_woQ, i_or, i_and, i_xor, zb_q0, zb_q1, zb_b, b_0Q, if_true, if_false, reduceCtorEq, if_pos, if_neg, f_m_alike_b7, h0]
    rfl
  | succ m ih =>
    intro i n hi hn
    obtain ⟨n, rfl⟩ : ∃ z, n = z + 1 := ⟨n - 1, by omega⟩
    have e1 := m_alike_in h (f_m_alike_b7 n) (i := i) (by omega) i 0 FU (by omega) (by unfold FU; omega) (fun _ q => absurd q (by omega))
    have e2 : f_m_alike_b7 (n + 1) (nI i) μ = f_m_alike_b17 (f_m_alike_b7 n) FU (nI i) (nI 0) μ := by simp (disch := omega) only [l_0, l_1, l_2, l_3, l_4, l_5, l_6, l_7, l_8, l_9, l_10, l_14, l_15, l_16, l_20, l_31, l_40, l_48, l_50, l_57, l_60, l_64, l_76, l_80, l_99, l_100, l_127, l_196, l_200, l_201, l_202, l_255, l_412, l_999, l_1000, l_16000, l_1000000, i_add, i_mul, i_sub, i_leN, i_ltN, i_eqN, i_nleG, i_nltG, inb_n, cl_nI, chk_q, bnd_q, bd1_q, bd2_q, i_bitQ, i_oneQ, i_woQ, i_or, i_and, i_xor, zb_q0, zb_q1, zb_b, b_0Q, if_true, if_false, reduceCtorEq, if_pos, if_neg, f_m_alike_b7, h0]
    rw [e2, e1, ih (i + 1) n (by omega) (by omega)]
    cases ha : alk S i with
    | true =>
      rw [if_pos rfl]
      have : decide (∀ k, k < m → alk S (i + 1 + k) = true) = decide (∀ k, k < m + 1 → alk S (i + k) = true) := decide_eq_decide.mpr ⟨fun q k hk => by
        rcases Nat.eq_zero_or_pos k with rfl | hk'
        · exact ha
        · have := q (k - 1) (by omega)
          rw [show i + 1 + (k - 1) = i + k by omega] at this
          exact this, fun q k hk => by
        have := q (k + 1) (by omega)
        rw [show i + (k + 1) = i + 1 + k by omega] at this
        exact this⟩
      rw [this]
    | false =>
      rw [if_neg (by decide), decide_eq_false (fun q => by have := q 0 (by omega); rw [Nat.add_zero, ha] at this; exact absurd this (by decide))]
      rfl
theorem op_alike : OpI N a f_x_alike f_m_alike := by
  intro hW hN
  have hp := hW.1.1
  exact ⟨_, a, fun μ h => x_same h hN (x_alike_lp h.2.1.1 (aS a).1 0 FU (by omega) (by unfold FU; omega)), fun ν h => m_start h fun Q ν1 _ hI _ => m_same hI hN (m_alike_lp hI.2.1.1 (aS a).1 0 FU (by omega) (by unfold FU; omega))⟩
theorem bifQ (c : Bool) : (if c = false then nI 0 else nI 1) = nI (bN c) := by cases c <;> rfl
theorem op_person (x y : Int32) : OpT N a (f_x_person x y) (f_x_person_thr x y) (f_m_person x y) := by
  intro hW hN
  have hp := hW.1.1
  have h14 := p2_14 hp
  have hnow := now_lt hW
  have hf := hW.1.2.2.2
  have bad : (∀ μ, XR N a μ → f_x_person_thr x y μ = some μ) → (∀ Q ν, MI N Q a ν (setI ν v_m_thrown 0 (nI 0)) → f_m_person x y ν = f_m_person_b22 (setI ν v_m_thrown 0 (nI 0))) → ∃ a', (∀ μ, XR N a μ → ∃ μ', f_x_person_thr x y μ = some μ' ∧ XO N a' μ μ') ∧ ∀ ν, MR N a ν → ∃ ans ν', f_m_person x y ν = some (ans, ν') ∧ MO N a' ν ν' ∧ ν'.1 v_m_thrown 0 = nI 1 := by
    intro g1 g2
    refine ⟨a, fun μ h => ⟨μ, g1 μ h, h.XI.done hN⟩, fun ν h => ?_⟩
    obtain ⟨Q, hQ, hI⟩ := h.MI
    exact ⟨nI 0, _, (g2 Q ν (hI.thrown _)).trans rfl, ((hI.thrown (nI 0)).thrown 1).done hN, sI_eq _ _ _ _⟩
  rcases i_casesQ x with hx | ⟨i, hi, rfl⟩
  · right
    exact bad (fun μ h => by simp (disch := omega) only [l_0, l_1, l_2, l_3, l_4, l_5, l_6, l_7, l_8, l_9, l_10, l_14, l_15, l_16, l_20, l_31, l_40, l_48, l_50, l_57, l_60, l_64, l_76, l_80, l_99, l_100, l_127, l_196, l_200, l_201, l_202, l_255, l_412, l_999, l_1000, l_16000, l_1000000, i_add, i_mul, i_sub, i_leN, i_ltN, i_eqN, i_nleG, i_nltG, inb_n, cl_nI, chk_q, bnd_q, bd1_q, bd2_q, i_bitQ, i_oneQ, i_woQ, i_or, i_and, i_xor, zb_q0, zb_q1, zb_b, b_0Q, if_true, if_false, reduceCtorEq, if_pos, if_neg, f_x_person_thr, f_x_person_thr_b20, st_hasG hx]) (fun Q ν hI => by simp (disch := omega) only [l_0, l_1, l_2, l_3, l_4, l_5, l_6, l_7, l_8, l_9, l_10, l_14, l_15, l_16, l_20, l_31, l_40, l_48, l_50, l_57, l_60, l_64, l_76, l_80, l_99, l_100, l_127, l_196, l_200, l_201, l_202, l_255, l_412, l_999, l_1000, l_16000, l_1000000, i_add, i_mul, i_sub, i_leN, i_ltN, i_eqN, i_nleG, i_nltG, inb_n, cl_nI, chk_q, bnd_q, bd1_q, bd2_q, i_bitQ, i_oneQ, i_woQ, i_or, i_and, i_xor, zb_q0, zb_q1, zb_b, b_0Q, if_true, if_false, reduceCtorEq, if_pos, if_neg, f_m_person, m_isOneG hx])
  by_cases h1 : ¬ i < (aS a).1
  · right
    exact bad (fun μ h => by simp (disch := omega) only [l_0, l_1, l_2, l_3, l_4, l_5, l_6, l_7, l_8, l_9, l_10, l_14, l_15, l_16, l_20, l_31, l_40, l_48, l_50, l_57, l_60, l_64, l_76, l_80, l_99, l_100, l_127, l_196, l_200, l_201, l_202, l_255, l_412, l_999, l_1000, l_16000, l_1000000, i_add, i_mul, i_sub, i_leN, i_ltN, i_eqN, i_nleG, i_nltG, inb_n, cl_nI, chk_q, bnd_q, bd1_q, bd2_q, i_bitQ, i_oneQ, i_woQ, i_or, i_and, i_xor, zb_q0, zb_q1, zb_b, b_0Q, if_true, if_false, reduceCtorEq, if_pos, if_neg, f_x_person_thr, f_x_person_thr_b20, st_has h.2.1.1, decide_eq_false h1]) (fun Q ν hI => by simp (disch := omega) only [l_0, l_1, l_2, l_3, l_4, l_5, l_6, l_7, l_8, l_9, l_10, l_14, l_15, l_16, l_20, l_31, l_40, l_48, l_50, l_57, l_60, l_64, l_76, l_80, l_99, l_100, l_127, l_196, l_200, l_201, l_202, l_255, l_412, l_999, l_1000, l_16000, l_1000000, i_add, i_mul, i_sub, i_leN, i_ltN, i_eqN, i_nleG, i_nltG, inb_n, cl_nI, chk_q, bnd_q, bd1_q, bd2_q, i_bitQ, i_oneQ, i_woQ, i_or, i_and, i_xor, zb_q0, zb_q1, zb_b, b_0Q, if_true, if_false, reduceCtorEq, if_pos, if_neg, f_m_person, m_isOne hI.2.1.1, decide_eq_false h1])
  have h1 := Decidable.not_not.mp h1
  rcases i_casesQ y with hy | ⟨w, hw, rfl⟩
  · right
    exact bad (fun μ h => by simp (disch := omega) only [l_0, l_1, l_2, l_3, l_4, l_5, l_6, l_7, l_8, l_9, l_10, l_14, l_15, l_16, l_20, l_31, l_40, l_48, l_50, l_57, l_60, l_64, l_76, l_80, l_99, l_100, l_127, l_196, l_200, l_201, l_202, l_255, l_412, l_999, l_1000, l_16000, l_1000000, i_add, i_mul, i_sub, i_leN, i_ltN, i_eqN, i_nleG, i_nltG, inb_n, cl_nI, chk_q, bnd_q, bd1_q, bd2_q, i_bitQ, i_oneQ, i_woQ, i_or, i_and, i_xor, zb_q0, zb_q1, zb_b, b_0Q, if_true, if_false, reduceCtorEq, if_pos, if_neg, f_x_person_thr, f_x_person_thr_b20, st_has h.2.1.1, decide_eq_true h1, hy]) (fun Q ν hI => by simp (disch := omega) only [l_0, l_1, l_2, l_3, l_4, l_5, l_6, l_7, l_8, l_9, l_10, l_14, l_15, l_16, l_20, l_31, l_40, l_48, l_50, l_57, l_60, l_64, l_76, l_80, l_99, l_100, l_127, l_196, l_200, l_201, l_202, l_255, l_412, l_999, l_1000, l_16000, l_1000000, i_add, i_mul, i_sub, i_leN, i_ltN, i_eqN, i_nleG, i_nltG, inb_n, cl_nI, chk_q, bnd_q, bd1_q, bd2_q, i_bitQ, i_oneQ, i_woQ, i_or, i_and, i_xor, zb_q0, zb_q1, zb_b, b_0Q, if_true, if_false, reduceCtorEq, if_pos, if_neg, f_m_person, m_isOne hI.2.1.1, decide_eq_true h1, m_inG hy])
  by_cases h2 : ¬ w ≤ 5
  · right
    exact bad (fun μ h => by simp (disch := omega) only [l_0, l_1, l_2, l_3, l_4, l_5, l_6, l_7, l_8, l_9, l_10, l_14, l_15, l_16, l_20, l_31, l_40, l_48, l_50, l_57, l_60, l_64, l_76, l_80, l_99, l_100, l_127, l_196, l_200, l_201, l_202, l_255, l_412, l_999, l_1000, l_16000, l_1000000, i_add, i_mul, i_sub, i_leN, i_ltN, i_eqN, i_nleG, i_nltG, inb_n, cl_nI, chk_q, bnd_q, bd1_q, bd2_q, i_bitQ, i_oneQ, i_woQ, i_or, i_and, i_xor, zb_q0, zb_q1, zb_b, b_0Q, if_true, if_false, reduceCtorEq, if_pos, if_neg, f_x_person_thr, f_x_person_thr_b20, st_has h.2.1.1, decide_eq_true h1, nI_lt_self]) (fun Q ν hI => by simp (disch := omega) only [l_0, l_1, l_2, l_3, l_4, l_5, l_6, l_7, l_8, l_9, l_10, l_14, l_15, l_16, l_20, l_31, l_40, l_48, l_50, l_57, l_60, l_64, l_76, l_80, l_99, l_100, l_127, l_196, l_200, l_201, l_202, l_255, l_412, l_999, l_1000, l_16000, l_1000000, i_add, i_mul, i_sub, i_leN, i_ltN, i_eqN, i_nleG, i_nltG, inb_n, cl_nI, chk_q, bnd_q, bd1_q, bd2_q, i_bitQ, i_oneQ, i_woQ, i_or, i_and, i_xor, zb_q0, zb_q1, zb_b, b_0Q, if_true, if_false, reduceCtorEq, if_pos, if_neg, f_m_person, m_isOne hI.2.1.1, decide_eq_true h1, m_inN, decide_eq_false h2])
  have h2 := Decidable.not_not.mp h2
  left
  have good : ∀ v : Nat, (∀ μ, XR N a μ → f_x_person (nI i) (nI w) μ = some (nI v, μ)) → (∀ Q ν, MI N Q a ν (setI ν v_m_thrown 0 (nI 0)) → f_m_person (nI i) (nI w) ν = some (nI v, setI ν v_m_thrown 0 (nI 0))) → ∃ ans a', (∀ μ, XR N a μ → ∃ μ', f_x_person (nI i) (nI w) μ = some (ans, μ') ∧ XO N a' μ μ') ∧ ∀ ν, MR N a ν → ∃ ν', f_m_person (nI i) (nI w) ν = some (ans, ν') ∧ MO N a' ν ν' ∧ ν'.1 v_m_thrown 0 = nI 0 := by
    intro v g1 g2
    refine ⟨nI v, a, fun μ h => ⟨μ, g1 μ h, h.XI.done hN⟩, fun ν h => ?_⟩
    obtain ⟨Q, hQ, hI⟩ := h.MI
    exact ⟨_, g2 Q ν (hI.thrown _), (hI.thrown (nI 0)).done hN, sI_eq _ _ _ _⟩
  have hc : w = 0 ∨ w = 1 ∨ w = 2 ∨ w = 3 ∨ w = 4 ∨ w = 5 := by omega
  rcases hc with rfl | rfl | rfl | rfl | rfl | rfl
  · refine good (bN ((aN a).testBit i)) (fun μ h => ?_) (fun Q ν hI => ?_)
    · simp (disch := omega) only [l_0, l_1, l_2, l_3, l_4, l_5, l_6, l_7, l_8, l_9, l_10, l_14, l_15, l_16, l_20, l_31, l_40, l_48, l_50, l_57, l_60, l_64, l_76, l_80, l_99, l_100, l_127, l_196, l_200, l_201, l_202, l_255, l_412, l_999, l_1000, l_16000, l_1000000, i_add, i_mul, i_sub, i_leN, i_ltN, i_eqN, i_nleG, i_nltG, inb_n, cl_nI, chk_q, bnd_q, bd1_q, bd2_q, i_bitQ, i_oneQ, i_woQ, i_or, i_and, i_xor, zb_q0, zb_q1, zb_b, b_0Q, if_true, if_false, reduceCtorEq, if_pos, if_neg, f_x_person, st_has h.2.1.1, decide_eq_true h1, nI_lt_self, st_now hW h.2.1]
    · simp (disch := omega) only [l_0, l_1, l_2, l_3, l_4, l_5, l_6, l_7, l_8, l_9, l_10, l_14, l_15, l_16, l_20, l_31, l_40, l_48, l_50, l_57, l_60, l_64, l_76, l_80, l_99, l_100, l_127, l_196, l_200, l_201, l_202, l_255, l_412, l_999, l_1000, l_16000, l_1000000, i_add, i_mul, i_sub, i_leN, i_ltN, i_eqN, i_nleG, i_nltG, inb_n, cl_nI, chk_q, bnd_q, bd1_q, bd2_q, i_bitQ, i_oneQ, i_woQ, i_or, i_and, i_xor, zb_q0, zb_q1, zb_b, b_0Q, if_true, if_false, reduceCtorEq, if_pos, if_neg, f_m_person, m_isOne hI.2.1.1, decide_eq_true h1, m_inN, decide_eq_true h2, m_now hW hI.2.1.2.1, m_has, bifQ]
  · refine good ((aS a).2.2.1 i) (fun μ h => ?_) (fun Q ν hI => ?_)
    · have e := h.2.1.1.2.2.1 i h1
      simp (disch := omega) only [l_0, l_1, l_2, l_3, l_4, l_5, l_6, l_7, l_8, l_9, l_10, l_14, l_15, l_16, l_20, l_31, l_40, l_48, l_50, l_57, l_60, l_64, l_76, l_80, l_99, l_100, l_127, l_196, l_200, l_201, l_202, l_255, l_412, l_999, l_1000, l_16000, l_1000000, i_add, i_mul, i_sub, i_leN, i_ltN, i_eqN, i_nleG, i_nltG, inb_n, cl_nI, chk_q, bnd_q, bd1_q, bd2_q, i_bitQ, i_oneQ, i_woQ, i_or, i_and, i_xor, zb_q0, zb_q1, zb_b, b_0Q, if_true, if_false, reduceCtorEq, if_pos, if_neg, f_x_person, st_has h.2.1.1, decide_eq_true h1, nI_lt_self, e]
    · have e := hI.2.1.1.2.2.1 i h1
      simp (disch := omega) only [l_0, l_1, l_2, l_3, l_4, l_5, l_6, l_7, l_8, l_9, l_10, l_14, l_15, l_16, l_20, l_31, l_40, l_48, l_50, l_57, l_60, l_64, l_76, l_80, l_99, l_100, l_127, l_196, l_200, l_201, l_202, l_255, l_412, l_999, l_1000, l_16000, l_1000000, i_add, i_mul, i_sub, i_leN, i_ltN, i_eqN, i_nleG, i_nltG, inb_n, cl_nI, chk_q, bnd_q, bd1_q, bd2_q, i_bitQ, i_oneQ, i_woQ, i_or, i_and, i_xor, zb_q0, zb_q1, zb_b, b_0Q, if_true, if_false, reduceCtorEq, if_pos, if_neg, f_m_person, m_isOne hI.2.1.1, decide_eq_true h1, m_inN, decide_eq_true h2, e]
  · refine good (aPr a i) (fun μ h => ?_) (fun Q ν hI => ?_)
    · have e := h.2.1.2.1.1 i h1
      simp (disch := omega) only [l_0, l_1, l_2, l_3, l_4, l_5, l_6, l_7, l_8, l_9, l_10, l_14, l_15, l_16, l_20, l_31, l_40, l_48, l_50, l_57, l_60, l_64, l_76, l_80, l_99, l_100, l_127, l_196, l_200, l_201, l_202, l_255, l_412, l_999, l_1000, l_16000, l_1000000, i_add, i_mul, i_sub, i_leN, i_ltN, i_eqN, i_nleG, i_nltG, inb_n, cl_nI, chk_q, bnd_q, bd1_q, bd2_q, i_bitQ, i_oneQ, i_woQ, i_or, i_and, i_xor, zb_q0, zb_q1, zb_b, b_0Q, if_true, if_false, reduceCtorEq, if_pos, if_neg, f_x_person, st_has h.2.1.1, decide_eq_true h1, nI_lt_self, e]
    · have e := hI.2.1.2.1.1 i h1
      simp (disch := omega) only [l_0, l_1, l_2, l_3, l_4, l_5, l_6, l_7, l_8, l_9, l_10, l_14, l_15, l_16, l_20, l_31, l_40, l_48, l_50, l_57, l_60, l_64, l_76, l_80, l_99, l_100, l_127, l_196, l_200, l_201, l_202, l_255, l_412, l_999, l_1000, l_16000, l_1000000, i_add, i_mul, i_sub, i_leN, i_ltN, i_eqN, i_nleG, i_nltG, inb_n, cl_nI, chk_q, bnd_q, bd1_q, bd2_q, i_bitQ, i_oneQ, i_woQ, i_or, i_and, i_xor, zb_q0, zb_q1, zb_b, b_0Q, if_true, if_false, reduceCtorEq, if_pos, if_neg, f_m_person, m_isOne hI.2.1.1, decide_eq_true h1, m_inN, decide_eq_true h2, e]
  · refine good (bN ((aS a).2.2.2.testBit i)) (fun μ h => ?_) (fun Q ν hI => ?_)
    · have e := h.2.1.1.2.2.2.1
      simp (disch := omega) only [l_0, l_1, l_2, l_3, l_4, l_5, l_6, l_7, l_8, l_9, l_10, l_14, l_15, l_16, l_20, l_31, l_40, l_48, l_50, l_57, l_60, l_64, l_76, l_80, l_99, l_100, l_127, l_196, l_200, l_201, l_202, l_255, l_412, l_999, l_1000, l_16000, l_1000000, i_add, i_mul, i_sub, i_leN, i_ltN, i_eqN, i_nleG, i_nltG, inb_n, cl_nI, chk_q, bnd_q, bd1_q, bd2_q, i_bitQ, i_oneQ, i_woQ, i_or, i_and, i_xor, zb_q0, zb_q1, zb_b, b_0Q, if_true, if_false, reduceCtorEq, if_pos, if_neg, f_x_person, st_has h.2.1.1, decide_eq_true h1, nI_lt_self, e]
    · have e := hI.2.1.1.2.2.2.1
      simp (disch := omega) only [l_0, l_1, l_2, l_3, l_4, l_5, l_6, l_7, l_8, l_9, l_10, l_14, l_15, l_16, l_20, l_31, l_40, l_48, l_50, l_57, l_60, l_64, l_76, l_80, l_99, l_100, l_127, l_196, l_200, l_201, l_202, l_255, l_412, l_999, l_1000, l_16000, l_1000000, i_add, i_mul, i_sub, i_leN, i_ltN, i_eqN, i_nleG, i_nltG, inb_n, cl_nI, chk_q, bnd_q, bd1_q, bd2_q, i_bitQ, i_oneQ, i_woQ, i_or, i_and, i_xor, zb_q0, zb_q1, zb_b, b_0Q, if_true, if_false, reduceCtorEq, if_pos, if_neg, f_m_person, m_isOne hI.2.1.1, decide_eq_true h1, m_inN, decide_eq_true h2, e, m_has, bifQ]
  · refine good (allS (aS a) i) (fun μ h => ?_) (fun Q ν hI => ?_)
    · simp (disch := omega) only [l_0, l_1, l_2, l_3, l_4, l_5, l_6, l_7, l_8, l_9, l_10, l_14, l_15, l_16, l_20, l_31, l_40, l_48, l_50, l_57, l_60, l_64, l_76, l_80, l_99, l_100, l_127, l_196, l_200, l_201, l_202, l_255, l_412, l_999, l_1000, l_16000, l_1000000, i_add, i_mul, i_sub, i_leN, i_ltN, i_eqN, i_nleG, i_nltG, inb_n, cl_nI, chk_q, bnd_q, bd1_q, bd2_q, i_bitQ, i_oneQ, i_woQ, i_or, i_and, i_xor, zb_q0, zb_q1, zb_b, b_0Q, if_true, if_false, reduceCtorEq, if_pos, if_neg, f_x_person, st_has h.2.1.1, decide_eq_true h1, nI_lt_self, st_allOf h.2.1.1]
    · simp (disch := omega) only [l_0, l_1, l_2, l_3, l_4, l_5, l_6, l_7, l_8, l_9, l_10, l_14, l_15, l_16, l_20, l_31, l_40, l_48, l_50, l_57, l_60, l_64, l_76, l_80, l_99, l_100, l_127, l_196, l_200, l_201, l_202, l_255, l_412, l_999, l_1000, l_16000, l_1000000, i_add, i_mul, i_sub, i_leN, i_ltN, i_eqN, i_nleG, i_nltG, inb_n, cl_nI, chk_q, bnd_q, bd1_q, bd2_q, i_bitQ, i_oneQ, i_woQ, i_or, i_and, i_xor, zb_q0, zb_q1, zb_b, b_0Q, if_true, if_false, reduceCtorEq, if_pos, if_neg, f_m_person, m_isOne hI.2.1.1, decide_eq_true h1, m_inN, decide_eq_true h2, m_allOf hI.2.1.1]
  · refine good (byS (aS a) i) (fun μ h => ?_) (fun Q ν hI => ?_)
    · simp (disch := omega) only [l_0, l_1, l_2, l_3, l_4, l_5, l_6, l_7, l_8, l_9, l_10, l_14, l_15, l_16, l_20, l_31, l_40, l_48, l_50, l_57, l_60, l_64, l_76, l_80, l_99, l_100, l_127, l_196, l_200, l_201, l_202, l_255, l_412, l_999, l_1000, l_16000, l_1000000, i_add, i_mul, i_sub, i_leN, i_ltN, i_eqN, i_nleG, i_nltG, inb_n, cl_nI, chk_q, bnd_q, bd1_q, bd2_q, i_bitQ, i_oneQ, i_woQ, i_or, i_and, i_xor, zb_q0, zb_q1, zb_b, b_0Q, if_true, if_false, reduceCtorEq, if_pos, if_neg, f_x_person, st_has h.2.1.1, decide_eq_true h1, nI_lt_self, st_loudness h.2.1.1]
    · simp (disch := omega) only [l_0, l_1, l_2, l_3, l_4, l_5, l_6, l_7, l_8, l_9, l_10, l_14, l_15, l_16, l_20, l_31, l_40, l_48, l_50, l_57, l_60, l_64, l_76, l_80, l_99, l_100, l_127, l_196, l_200, l_201, l_202, l_255, l_412, l_999, l_1000, l_16000, l_1000000, i_add, i_mul, i_sub, i_leN, i_ltN, i_eqN, i_nleG, i_nltG, inb_n, cl_nI, chk_q, bnd_q, bd1_q, bd2_q, i_bitQ, i_oneQ, i_woQ, i_or, i_and, i_xor, zb_q0, zb_q1, zb_b, b_0Q, if_true, if_false, reduceCtorEq, if_pos, if_neg, f_m_person, m_isOne hI.2.1.1, decide_eq_true h1, m_inN, decide_eq_true h2, m_heardBy hI.2.1.1]
end OPS
