/-! go, otherwise, alike. -/
def goZ (S : SP) : Nat → Nat × (Nat → Nat) → Nat × (Nat → Nat)
  | 0, z => z
  | k + 1, z => if z.1 < 200 then goZ S k (z.1 + 1, fnu z.2 (z.1 + 1) (nxt S (z.2 z.1))) else z
def itr (S : SP) : Nat → Nat → Nat
  | 0, s => s
  | n + 1, s => itr S n (nxt S s)
theorem itr_lt {S : SP} : ∀ n {s}, s < 2 ^ S.1 → itr S n s < 2 ^ S.1
  | 0, _, h => h
  | n + 1, _, _ => itr_lt n (nxt_lt S _)
theorem itr_fix {S : SP} {s : Nat} (h : nxt S s = s) : ∀ n, itr S n s = s
  | 0 => rfl
  | n + 1 => by rw [itr, h]; exact itr_fix h n
section OPS
variable {N : Nat} {a : Ab} {b : Nat × Nat} {μ0 μ : Mem} {Q : Nat}
theorem x_go_lp : ∀ m k n (a : Ab) (μ : Mem), XI N b a μ0 μ → k + m < 2 ^ 31 → m < n → ∃ μ', f_x_go_b15 n (nI (k + m)) (nI k) μ = some (nI (aN (aSetZ a (goZ (aS a) m a.2.2.1))), μ') ∧ XI N b (aSetZ a (goZ (aS a) m a.2.2.1)) μ0 μ' := by
  intro m
  induction m with
  | zero =>
    intro k n a μ h hk hn
    obtain ⟨n, rfl⟩ : ∃ z, n = z + 1 := ⟨n - 1, by omega⟩
    exact ⟨μ, by simp (disch := omega) only [l_0, l_1, l_2, l_3, l_4, l_5, l_6, l_7, l_8, l_9, l_10, l_14, l_15, l_16, l_20, l_31, l_40, l_48, l_50, l_57, l_60, l_64, l_76, l_80, l_99, l_100, l_127, l_196, l_200, l_201, l_202, l_255, l_412, l_999, l_1000, l_16000, l_1000000, i_add, i_mul, i_sub, i_leN, i_ltN, i_eqN, i_nleG, i_nltG, inb_n, cl_nI, chk_q, bnd_q, bd1_q, bd2_q, i_bitQ, i_oneQ, i_woQ, i_or, i_and, i_xor, zb_q0, zb_q1, zb_b, b_0Q, if_true, if_false, reduceCtorEq, if_pos, if_neg, f_x_go_b15, f_x_go_b60, st_now h.1 h.2.1, Nat.add_zero]; rfl, h⟩
  | succ m ih =>
    intro k n a μ h hk hn
    obtain ⟨n, rfl⟩ : ∃ z, n = z + 1 := ⟨n - 1, by omega⟩
    have e1 := h.2.1.2.1.2.1
    have h200 := h.1.2.2.2.1.1
    rw [goZ]
    by_cases hd : aD a < 200
    · rw [if_pos hd]
      obtain ⟨μ1, k1, k2, k3⟩ := h.after (now_lt h.1)
      have e1' := k2.2.1.2.1.2.1
      have hX := k2.days (z := (aD a + 1, fnu (aZ a) (aD a + 1) (nxt (aS a) (aN a)))) (μ' := setI (setI μ1 (vSt 0 2) 0 (nI (aD a + 1))) (vSt 0 6) (aD a + 1) (nI (nxt (aS a) (aN a)))) ⟨hd, fun d hd' => by
        show fnu (aZ a) (aD a + 1) (nxt (aS a) (aN a)) d < _
        unfold fnu
        split
        · exact nxt_lt _ _
        · exact h.1.2.2.2.1.2 d (by have : d ≤ aD a + 1 := hd'; omega)⟩ (fun v h1 h2 => by rw [sI_v _ _ _ h2, sI_v _ _ _ h1]) rfl (by rw [sI_v _ _ _ (by decide), sI_eq]) (fun d hd' => by
        show _ = nI (fnu (aZ a) (aD a + 1) (nxt (aS a) (aN a)) d)
        have hd' : d ≤ aD a + 1 := hd'
        unfold fnu
        by_cases q : d = aD a + 1
        · rw [q, sI_eq, if_pos rfl]
        · rw [sI_i _ _ _ q, if_neg q, sI_v _ _ _ (by decide)]; exact k2.2.1.2.1.2.2 d (by omega))
      obtain ⟨μ', l1, l2⟩ := ih (k + 1) n _ _ hX (by omega) (by omega)
      refine ⟨μ', ?_, l2⟩
      rw [show k + 1 + m = k + (m + 1) by omega] at l1
      rw [← l1]
      simp (disch := omega) only [l_0, l_1, l_2, l_3, l_4, l_5, l_6, l_7, l_8, l_9, l_10, l_14, l_15, l_16, l_20, l_31, l_40, l_48, l_50, l_57, l_60, l_64, l_76, l_80, l_99, l_100, l_127, l_196, l_200, l_201, l_202, l_255, l_412, l_999, l_1000, l_16000, l_1000000, i_add, i_mul, i_sub, i_leN, i_ltN, i_eqN, i_nleG, i_nltG, inb_n, cl_nI, chk_q, bnd_q, bd1_q, bd2_q, i_bitQ, i_oneQ, i_woQ, i_or, i_and, i_xor, zb_q0, zb_q1, zb_b, b_0Q, if_true, if_false, reduceCtorEq, if_pos, if_neg, f_x_go_b15, f_x_go_b60, e1, st_now h.1 h.2.1, k1, f_st_passDay, e1']
    · rw [if_neg hd]
      exact ⟨μ, by simp (disch := omega) only [l_0, l_1, l_2, l_3, l_4, l_5, l_6, l_7, l_8, l_9, l_10, l_14, l_15, l_16, l_20, l_31, l_40, l_48, l_50, l_57, l_60, l_64, l_76, l_80, l_99, l_100, l_127, l_196, l_200, l_201, l_202, l_255, l_412, l_999, l_1000, l_16000, l_1000000, i_add, i_mul, i_sub, i_leN, i_ltN, i_eqN, i_nleG, i_nltG, inb_n, cl_nI, chk_q, bnd_q, bd1_q, bd2_q, i_bitQ, i_oneQ, i_woQ, i_or, i_and, i_xor, zb_q0, zb_q1, zb_b, b_0Q, if_true, if_false, reduceCtorEq, if_pos, if_neg, f_x_go_b15, f_x_go_b60, e1, st_now h.1 h.2.1], h⟩
theorem m_go_lp : ∀ m k n (a : Ab) (μ : Mem), MI N Q a μ0 μ → k + m < 2 ^ 31 → m < n → ∃ μ', f_m_go_b20 n (nI (k + m)) (nI k) μ = some (nI (aN (aSetZ a (goZ (aS a) m a.2.2.1))), μ') ∧ MI N Q (aSetZ a (goZ (aS a) m a.2.2.1)) μ0 μ' := by
  intro m
  induction m with
  | zero =>
    intro k n a μ h hk hn
    obtain ⟨n, rfl⟩ : ∃ z, n = z + 1 := ⟨n - 1, by omega⟩
    exact ⟨μ, by simp (disch := omega) only [l_0, l_1, l_2, l_3, l_4, l_5, l_6, l_7, l_8, l_9, l_10, l_14, l_15, l_16, l_20, l_31, l_40, l_48, l_50, l_57, l_60, l_64, l_76, l_80, l_99, l_100, l_127, l_196, l_200, l_201, l_202, l_255, l_412, l_999, l_1000, l_16000, l_1000000, i_add, i_mul, i_sub, i_leN, i_ltN, i_eqN, i_nleG, i_nltG, inb_n, cl_nI, chk_q, bnd_q, bd1_q, bd2_q, i_bitQ, i_oneQ, i_woQ, i_or, i_and, i_xor, zb_q0, zb_q1, zb_b, b_0Q, if_true, if_false, reduceCtorEq, if_pos, if_neg, f_m_go_b20, f_m_go_b75, m_now h.1 h.2.1.2.1, Nat.add_zero]; rfl, h⟩
  | succ m ih =>
    intro k n a μ h hk hn
    obtain ⟨n, rfl⟩ : ∃ z, n = z + 1 := ⟨n - 1, by omega⟩
    have e1 := h.2.1.2.1.2.1
    have h200 := h.1.2.2.2.1.1
    rw [goZ]
    by_cases hd : aD a < 200
    · rw [if_pos hd]
      have hX := h.days (z := (aD a + 1, fnu (aZ a) (aD a + 1) (nxt (aS a) (aN a)))) (μ' := setI (setI μ v_m_states (aD a + 1) (nI (nxt (aS a) (aN a)))) v_m_days 0 (nI (aD a + 1))) ⟨hd, fun d hd' => by
        show fnu (aZ a) (aD a + 1) (nxt (aS a) (aN a)) d < _
        unfold fnu
        split
        · exact nxt_lt _ _
        · exact h.1.2.2.2.1.2 d (by have : d ≤ aD a + 1 := hd'; omega)⟩ (fun v h1 h2 => by rw [sI_v _ _ _ h2, sI_v _ _ _ h1]) rfl (by rw [sI_eq]) (fun d hd' => by
        show _ = nI (fnu (aZ a) (aD a + 1) (nxt (aS a) (aN a)) d)
        have hd' : d ≤ aD a + 1 := hd'
        rw [sI_v _ _ _ (by decide)]
        unfold fnu
        by_cases q : d = aD a + 1
        · rw [q, sI_eq, if_pos rfl]
        · rw [sI_i _ _ _ q, if_neg q]; exact h.2.1.2.1.2.2 d (by omega))
      obtain ⟨μ', l1, l2⟩ := ih (k + 1) n _ _ hX (by omega) (by omega)
      refine ⟨μ', ?_, l2⟩
      rw [show k + 1 + m = k + (m + 1) by omega] at l1
      rw [← l1]
      have e2 := h.2.1.2.1.2.2 _ (Nat.le_refl _)
      have e3 : (setI μ v_m_states (aD a + 1) (nI (nxt (aS a) (aN a)))).1 v_m_days 0 = nI (aD a) := by rw [sI_v _ _ _ (by decide)]; exact e1
      simp (disch := omega) only [l_0, l_1, l_2, l_3, l_4, l_5, l_6, l_7, l_8, l_9, l_10, l_14, l_15, l_16, l_20, l_31, l_40, l_48, l_50, l_57, l_60, l_64, l_76, l_80, l_99, l_100, l_127, l_196, l_200, l_201, l_202, l_255, l_412, l_999, l_1000, l_16000, l_1000000, i_add, i_mul, i_sub, i_leN, i_ltN, i_eqN, i_nleG, i_nltG, inb_n, cl_nI, chk_q, bnd_q, bd1_q, bd2_q, i_bitQ, i_oneQ, i_woQ, i_or, i_and, i_xor, zb_q0, zb_q1, zb_b, b_0Q, if_true, if_false, reduceCtorEq, if_pos, if_neg, f_m_go_b20, f_m_go_b75, e1, e2, m_next h.2.1.1 (now_lt h.1), e3]
    · rw [if_neg hd]
      exact ⟨μ, by simp (disch := omega) only [l_0, l_1, l_2, l_3, l_4, l_5, l_6, l_7, l_8, l_9, l_10, l_14, l_15, l_16, l_20, l_31, l_40, l_48, l_50, l_57, l_60, l_64, l_76, l_80, l_99, l_100, l_127, l_196, l_200, l_201, l_202, l_255, l_412, l_999, l_1000, l_16000, l_1000000, i_add, i_mul, i_sub, i_leN, i_ltN, i_eqN, i_nleG, i_nltG, inb_n, cl_nI, chk_q, bnd_q, bd1_q, bd2_q, i_bitQ, i_oneQ, i_woQ, i_or, i_and, i_xor, zb_q0, zb_q1, zb_b, b_0Q, if_true, if_false, reduceCtorEq, if_pos, if_neg, f_m_go_b20, f_m_go_b75, e1, m_now h.1 h.2.1.2.1], h⟩
theorem op_go (x : Int32) : OpI N a (f_x_go x) (f_m_go x) := by
  intro hW hN
  rcases i_casesQ x with hx | ⟨n, hn, rfl⟩
  · refine ⟨-nI 1, a, fun μ h => x_same h hN (by simp (disch := omega) only [l_0, l_1, l_2, l_3, l_4, l_5, l_6, l_7, l_8, l_9, l_10, l_14, l_15, l_16, l_20, l_31, l_40, l_48, l_50, l_57, l_60, l_64, l_76, l_80, l_99, l_100, l_127, l_196, l_200, l_201, l_202, l_255, l_412, l_999, l_1000, l_16000, l_1000000, i_add, i_mul, i_sub, i_leN, i_ltN, i_eqN, i_nleG, i_nltG, inb_n, cl_nI, chk_q, bnd_q, bd1_q, bd2_q, i_bitQ, i_oneQ, i_woQ, i_or, i_and, i_xor, zb_q0, zb_q1, zb_b, b_0Q, if_true, if_false, reduceCtorEq, if_pos, if_neg, f_x_go, hx]), fun ν h => m_start h fun Q ν1 _ hI _ => m_same hI hN ?_⟩
    simp (disch := omega) only [l_0, l_1, l_2, l_3, l_4, l_5, l_6, l_7, l_8, l_9, l_10, l_14, l_15, l_16, l_20, l_31, l_40, l_48, l_50, l_57, l_60, l_64, l_76, l_80, l_99, l_100, l_127, l_196, l_200, l_201, l_202, l_255, l_412, l_999, l_1000, l_16000, l_1000000, i_add, i_mul, i_sub, i_leN, i_ltN, i_eqN, i_nleG, i_nltG, inb_n, cl_nI, chk_q, bnd_q, bd1_q, bd2_q, i_bitQ, i_oneQ, i_woQ, i_or, i_and, i_xor, zb_q0, zb_q1, zb_b, b_0Q, if_true, if_false, reduceCtorEq, if_pos, if_neg, m_inG hx]
  by_cases hd : n ≤ 200
  · refine ⟨nI (aN (aSetZ a (goZ (aS a) n a.2.2.1))), aSetZ a (goZ (aS a) n a.2.2.1), fun μ h => ?_, fun ν h => m_start h fun Q ν1 _ hI _ => ?_⟩
    · obtain ⟨μ', k1, k2⟩ := x_go_lp n 0 FU a μ h.XI (by omega) (by unfold FU; omega)
      rw [Nat.zero_add] at k1
      exact ⟨μ', by simp (disch := omega) only [l_0, l_1, l_2, l_3, l_4, l_5, l_6, l_7, l_8, l_9, l_10, l_14, l_15, l_16, l_20, l_31, l_40, l_48, l_50, l_57, l_60, l_64, l_76, l_80, l_99, l_100, l_127, l_196, l_200, l_201, l_202, l_255, l_412, l_999, l_1000, l_16000, l_1000000, i_add, i_mul, i_sub, i_leN, i_ltN, i_eqN, i_nleG, i_nltG, inb_n, cl_nI, chk_q, bnd_q, bd1_q, bd2_q, i_bitQ, i_oneQ, i_woQ, i_or, i_and, i_xor, zb_q0, zb_q1, zb_b, b_0Q, if_true, if_false, reduceCtorEq, if_pos, if_neg, f_x_go, nI_lt_self]; exact k1, k2.done hN⟩
    · obtain ⟨μ', k1, k2⟩ := m_go_lp n 0 FU a ν1 hI (by omega) (by unfold FU; omega)
      rw [Nat.zero_add] at k1
      exact ⟨μ', by simp (disch := omega) only [l_0, l_1, l_2, l_3, l_4, l_5, l_6, l_7, l_8, l_9, l_10, l_14, l_15, l_16, l_20, l_31, l_40, l_48, l_50, l_57, l_60, l_64, l_76, l_80, l_99, l_100, l_127, l_196, l_200, l_201, l_202, l_255, l_412, l_999, l_1000, l_16000, l_1000000, i_add, i_mul, i_sub, i_leN, i_ltN, i_eqN, i_nleG, i_nltG, inb_n, cl_nI, chk_q, bnd_q, bd1_q, bd2_q, i_bitQ, i_oneQ, i_woQ, i_or, i_and, i_xor, zb_q0, zb_q1, zb_b, b_0Q, if_true, if_false, reduceCtorEq, if_pos, if_neg, m_inN, decide_eq_true hd]; exact k1, k2.done hN⟩
  · refine ⟨-nI 1, a, fun μ h => x_same h hN (by simp (disch := omega) only [l_0, l_1, l_2, l_3, l_4, l_5, l_6, l_7, l_8, l_9, l_10, l_14, l_15, l_16, l_20, l_31, l_40, l_48, l_50, l_57, l_60, l_64, l_76, l_80, l_99, l_100, l_127, l_196, l_200, l_201, l_202, l_255, l_412, l_999, l_1000, l_16000, l_1000000, i_add, i_mul, i_sub, i_leN, i_ltN, i_eqN, i_nleG, i_nltG, inb_n, cl_nI, chk_q, bnd_q, bd1_q, bd2_q, i_bitQ, i_oneQ, i_woQ, i_or, i_and, i_xor, zb_q0, zb_q1, zb_b, b_0Q, if_true, if_false, reduceCtorEq, if_pos, if_neg, f_x_go, nI_lt_self]), fun ν h => m_start h fun Q ν1 _ hI _ => m_same hI hN ?_⟩
    simp (disch := omega) only [l_0, l_1, l_2, l_3, l_4, l_5, l_6, l_7, l_8, l_9, l_10, l_14, l_15, l_16, l_20, l_31, l_40, l_48, l_50, l_57, l_60, l_64, l_76, l_80, l_99, l_100, l_127, l_196, l_200, l_201, l_202, l_255, l_412, l_999, l_1000, l_16000, l_1000000, i_add, i_mul, i_sub, i_leN, i_ltN, i_eqN, i_nleG, i_nltG, inb_n, cl_nI, chk_q, bnd_q, bd1_q, bd2_q, i_bitQ, i_oneQ, i_woQ, i_or, i_and, i_xor, zb_q0, zb_q1, zb_b, b_0Q, if_true, if_false, reduceCtorEq, if_pos, if_neg, m_inN, decide_eq_false hd]
theorem x_later_lp : ∀ m k n s (μ : Mem), XI N b a μ0 μ → s < 2 ^ (aS a).1 → k + m < 2 ^ 31 → m < n → ∃ μ', f_he_later_b5 0 n (nI (k + m)) (nI s) (nI k) μ = some (nI (itr (aS a) m s), μ') ∧ XI N b a μ0 μ' ∧ AF μ μ' := by
  intro m
  induction m with
  | zero =>
    intro k n s μ h hs hk hn
    obtain ⟨n, rfl⟩ : ∃ z, n = z + 1 := ⟨n - 1, by omega⟩
    exact ⟨μ, by simp (disch := omega) only [l_0, l_1, l_2, l_3, l_4, l_5, l_6, l_7, l_8, l_9, l_10, l_14, l_15, l_16, l_20, l_31, l_40, l_48, l_50, l_57, l_60, l_64, l_76, l_80, l_99, l_100, l_127, l_196, l_200, l_201, l_202, l_255, l_412, l_999, l_1000, l_16000, l_1000000, i_add, i_mul, i_sub, i_leN, i_ltN, i_eqN, i_nleG, i_nltG, inb_n, cl_nI, chk_q, bnd_q, bd1_q, bd2_q, i_bitQ, i_oneQ, i_woQ, i_or, i_and, i_xor, zb_q0, zb_q1, zb_b, b_0Q, if_true, if_false, reduceCtorEq, if_pos, if_neg, f_he_later_b5, Nat.add_zero]; rfl, h, AF.rf μ⟩
  | succ m ih =>
    intro k n s μ h hs hk hn
    obtain ⟨n, rfl⟩ : ∃ z, n = z + 1 := ⟨n - 1, by omega⟩
    have h14 := p2_14 h.1.1.1
    have hnx := nxt_lt (aS a) s
    obtain ⟨μ1, k1, k2, k3⟩ := h.after hs
    by_cases hf : nxt (aS a) s = s
    · refine ⟨μ1, ?_, k2, k3⟩
      rw [itr_fix hf]
      rw [hf] at k1
      simp (disch := omega) only [l_0, l_1, l_2, l_3, l_4, l_5, l_6, l_7, l_8, l_9, l_10, l_14, l_15, l_16, l_20, l_31, l_40, l_48, l_50, l_57, l_60, l_64, l_76, l_80, l_99, l_100, l_127, l_196, l_200, l_201, l_202, l_255, l_412, l_999, l_1000, l_16000, l_1000000, i_add, i_mul, i_sub, i_leN, i_ltN, i_eqN, i_nleG, i_nltG, inb_n, cl_nI, chk_q, bnd_q, bd1_q, bd2_q, i_bitQ, i_oneQ, i_woQ, i_or, i_and, i_xor, zb_q0, zb_q1, zb_b, b_0Q, if_true, if_false, reduceCtorEq, if_pos, if_neg, f_he_later_b5, k1]
    · obtain ⟨μ', l1, l2, l3⟩ := ih (k + 1) n _ _ k2 hnx (by omega) (by omega)
      refine ⟨μ', ?_, l2, k3.tr l3⟩
      rw [show k + 1 + m = k + (m + 1) by omega] at l1
      rw [itr, ← l1]
      simp (disch := omega) only [l_0, l_1, l_2, l_3, l_4, l_5, l_6, l_7, l_8, l_9, l_10, l_14, l_15, l_16, l_20, l_31, l_40, l_48, l_50, l_57, l_60, l_64, l_76, l_80, l_99, l_100, l_127, l_196, l_200, l_201, l_202, l_255, l_412, l_999, l_1000, l_16000, l_1000000, i_add, i_mul, i_sub, i_leN, i_ltN, i_eqN, i_nleG, i_nltG, inb_n, cl_nI, chk_q, bnd_q, bd1_q, bd2_q, i_bitQ, i_oneQ, i_woQ, i_or, i_and, i_xor, zb_q0, zb_q1, zb_b, b_0Q, if_true, if_false, reduceCtorEq, if_pos, if_neg, f_he_later_b5, k1]
theorem x_later (h : XI N b a μ0 μ) {s n : Nat} (hs : s < 2 ^ (aS a).1) (hn : n < 19000) : ∃ μ', f_he_later 0 (nI s) (nI n) μ = some (nI (itr (aS a) n s), μ') ∧ XI N b a μ0 μ' ∧ AF μ μ' := by
  have := x_later_lp (b := b) (μ0 := μ0) n 0 FU s μ h hs (by omega) (by unfold FU; omega)
  rw [Nat.zero_add] at this
  exact this
theorem m_after_lp {S : SP} (h : MB S μ) : ∀ m k n s, s < 2 ^ S.1 → k + m < 2 ^ 31 → m < n → f_m_after_b5 n (nI (k + m)) (nI s) (nI k) μ = some (nI (itr S m s), μ) := by
  intro m
  induction m with
  | zero =>
    intro k n s hs hk hn
    obtain ⟨n, rfl⟩ : ∃ z, n = z + 1 := ⟨n - 1, by omega⟩
    simp (disch := omega) only [l_0, l_1, l_2, l_3, l_4, l_5, l_6, l_7, l_8, l_9, l_10, l_14, l_15, l_16, l_20, l_31, l_40, l_48, l_50, l_57, l_60, l_64, l_76, l_80, l_99, l_100, l_127, l_196, l_200, l_201, l_202, l_255, l_412, l_999, l_1000, l_16000, l_1000000, i_add, i_mul, i_sub, i_leN, i_ltN, i_eqN, i_nleG, i_nltG, inb_n, cl_nI, chk_q, bnd_q, bd1_q, bd2_q, i_bitQ, i_oneQ, i_woQ, i_or, i_and, i_xor, zb_q0, zb_q1, zb_b, b_0Q, if_true, if_false, reduceCtorEq, if_pos, if_neg, f_m_after_b5, Nat.add_zero]
    rfl
  | succ m ih =>
    intro k n s hs hk hn
    obtain ⟨n, rfl⟩ : ∃ z, n = z + 1 := ⟨n - 1, by omega⟩
    have l1 := ih (k + 1) n _ (nxt_lt S s) (by omega) (by omega)
    rw [show k + 1 + m = k + (m + 1) by omega] at l1
    rw [itr, ← l1]
    simp (disch := omega) only [l_0, l_1, l_2, l_3, l_4, l_5, l_6, l_7, l_8, l_9, l_10, l_14, l_15, l_16, l_20, l_31, l_40, l_48, l_50, l_57, l_60, l_64, l_76, l_80, l_99, l_100, l_127, l_196, l_200, l_201, l_202, l_255, l_412, l_999, l_1000, l_16000, l_1000000, i_add, i_mul, i_sub, i_leN, i_ltN, i_eqN, i_nleG, i_nltG, inb_n, cl_nI, chk_q, bnd_q, bd1_q, bd2_q, i_bitQ, i_oneQ, i_woQ, i_or, i_and, i_xor, zb_q0, zb_q1, zb_b, b_0Q, if_true, if_false, reduceCtorEq, if_pos, if_neg, f_m_after_b5, m_next h hs]
theorem m_after {S : SP} (h : MB S μ) {s n : Nat} (hs : s < 2 ^ S.1) (hn : n < 19000) : f_m_after (nI s) (nI n) μ = some (nI (itr S n s), μ) := by
  have := m_after_lp h n 0 FU s hs (by omega) (by unfold FU; omega)
  rw [Nat.zero_add] at this
  exact this
theorem op_otherwise (x y : Int32) : OpI N a (f_x_otherwise x y) (f_m_otherwise x y) := by
  intro hW hN
  have hp := hW.1.1
  have h14 := p2_14 hp
  have hnow := now_lt hW
  have hf := p2_31 hp hW.1.2.2.2
  rcases i_casesQ x with hx | ⟨i, hi, rfl⟩
  · refine ⟨-nI 1, a, fun μ h => x_same h hN (by simp (disch := omega) only [l_0, l_1, l_2, l_3, l_4, l_5, l_6, l_7, l_8, l_9, l_10, l_14, l_15, l_16, l_20, l_31, l_40, l_48, l_50, l_57, l_60, l_64, l_76, l_80, l_99, l_100, l_127, l_196, l_200, l_201, l_202, l_255, l_412, l_999, l_1000, l_16000, l_1000000, i_add, i_mul, i_sub, i_leN, i_ltN, i_eqN, i_nleG, i_nltG, inb_n, cl_nI, chk_q, bnd_q, bd1_q, bd2_q, i_bitQ, i_oneQ, i_woQ, i_or, i_and, i_xor, zb_q0, zb_q1, zb_b, b_0Q, if_true, if_false, reduceCtorEq, if_pos, if_neg, f_x_otherwise, st_hasG hx]), fun ν h => m_start h fun Q ν1 _ hI _ => m_same hI hN ?_⟩
    simp (disch := omega) only [l_0, l_1, l_2, l_3, l_4, l_5, l_6, l_7, l_8, l_9, l_10, l_14, l_15, l_16, l_20, l_31, l_40, l_48, l_50, l_57, l_60, l_64, l_76, l_80, l_99, l_100, l_127, l_196, l_200, l_201, l_202, l_255, l_412, l_999, l_1000, l_16000, l_1000000, i_add, i_mul, i_sub, i_leN, i_ltN, i_eqN, i_nleG, i_nltG, inb_n, cl_nI, chk_q, bnd_q, bd1_q, bd2_q, i_bitQ, i_oneQ, i_woQ, i_or, i_and, i_xor, zb_q0, zb_q1, zb_b, b_0Q, if_true, if_false, reduceCtorEq, if_pos, if_neg, m_isOneG hx]
  by_cases h1 : ¬ i < (aS a).1
  · refine ⟨-nI 1, a, fun μ h => x_same h hN (by simp (disch := omega) only [l_0, l_1, l_2, l_3, l_4, l_5, l_6, l_7, l_8, l_9, l_10, l_14, l_15, l_16, l_20, l_31, l_40, l_48, l_50, l_57, l_60, l_64, l_76, l_80, l_99, l_100, l_127, l_196, l_200, l_201, l_202, l_255, l_412, l_999, l_1000, l_16000, l_1000000, i_add, i_mul, i_sub, i_leN, i_ltN, i_eqN, i_nleG, i_nltG, inb_n, cl_nI, chk_q, bnd_q, bd1_q, bd2_q, i_bitQ, i_oneQ, i_woQ, i_or, i_and, i_xor, zb_q0, zb_q1, zb_b, b_0Q, if_true, if_false, reduceCtorEq, if_pos, if_neg, f_x_otherwise, st_has h.2.1.1, decide_eq_false h1]), fun ν h => m_start h fun Q ν1 _ hI _ => m_same hI hN ?_⟩
    simp (disch := omega) only [l_0, l_1, l_2, l_3, l_4, l_5, l_6, l_7, l_8, l_9, l_10, l_14, l_15, l_16, l_20, l_31, l_40, l_48, l_50, l_57, l_60, l_64, l_76, l_80, l_99, l_100, l_127, l_196, l_200, l_201, l_202, l_255, l_412, l_999, l_1000, l_16000, l_1000000, i_add, i_mul, i_sub, i_leN, i_ltN, i_eqN, i_nleG, i_nltG, inb_n, cl_nI, chk_q, bnd_q, bd1_q, bd2_q, i_bitQ, i_oneQ, i_woQ, i_or, i_and, i_xor, zb_q0, zb_q1, zb_b, b_0Q, if_true, if_false, reduceCtorEq, if_pos, if_neg, m_isOne hI.2.1.1, decide_eq_false h1]
  have h1 := Decidable.not_not.mp h1
  cases hb : (aS a).2.2.2.testBit i with
  | true =>
    refine ⟨-nI 1, a, fun μ h => x_same h hN (by simp (disch := omega) only [l_0, l_1, l_2, l_3, l_4, l_5, l_6, l_7, l_8, l_9, l_10, l_14, l_15, l_16, l_20, l_31, l_40, l_48, l_50, l_57, l_60, l_64, l_76, l_80, l_99, l_100, l_127, l_196, l_200, l_201, l_202, l_255, l_412, l_999, l_1000, l_16000, l_1000000, i_add, i_mul, i_sub, i_leN, i_ltN, i_eqN, i_nleG, i_nltG, inb_n, cl_nI, chk_q, bnd_q, bd1_q, bd2_q, i_bitQ, i_oneQ, i_woQ, i_or, i_and, i_xor, zb_q0, zb_q1, zb_b, b_0Q, if_true, if_false, reduceCtorEq, if_pos, if_neg, f_x_otherwise, st_has h.2.1.1, decide_eq_true h1, st_isFirm h.2.1.1, hb]), fun ν h => m_start h fun Q ν1 _ hI _ => m_same hI hN ?_⟩
    have e := hI.2.1.1.2.2.2.1
    simp (disch := omega) only [l_0, l_1, l_2, l_3, l_4, l_5, l_6, l_7, l_8, l_9, l_10, l_14, l_15, l_16, l_20, l_31, l_40, l_48, l_50, l_57, l_60, l_64, l_76, l_80, l_99, l_100, l_127, l_196, l_200, l_201, l_202, l_255, l_412, l_999, l_1000, l_16000, l_1000000, i_add, i_mul, i_sub, i_leN, i_ltN, i_eqN, i_nleG, i_nltG, inb_n, cl_nI, chk_q, bnd_q, bd1_q, bd2_q, i_bitQ, i_oneQ, i_woQ, i_or, i_and, i_xor, zb_q0, zb_q1, zb_b, b_0Q, if_true, if_false, reduceCtorEq, if_pos, if_neg, m_isOne hI.2.1.1, decide_eq_true h1, e, m_has, hb]
  | false =>
    rcases i_casesQ y with hy | ⟨n, hn, rfl⟩
    · refine ⟨-nI 1, a, fun μ h => x_same h hN (by simp (disch := omega) only [l_0, l_1, l_2, l_3, l_4, l_5, l_6, l_7, l_8, l_9, l_10, l_14, l_15, l_16, l_20, l_31, l_40, l_48, l_50, l_57, l_60, l_64, l_76, l_80, l_99, l_100, l_127, l_196, l_200, l_201, l_202, l_255, l_412, l_999, l_1000, l_16000, l_1000000, i_add, i_mul, i_sub, i_leN, i_ltN, i_eqN, i_nleG, i_nltG, inb_n, cl_nI, chk_q, bnd_q, bd1_q, bd2_q, i_bitQ, i_oneQ, i_woQ, i_or, i_and, i_xor, zb_q0, zb_q1, zb_b, b_0Q, if_true, if_false, reduceCtorEq, if_pos, if_neg, f_x_otherwise, st_has h.2.1.1, decide_eq_true h1, st_isFirm h.2.1.1, hb, hy]), fun ν h => m_start h fun Q ν1 _ hI _ => m_same hI hN ?_⟩
      have e := hI.2.1.1.2.2.2.1
      simp (disch := omega) only [l_0, l_1, l_2, l_3, l_4, l_5, l_6, l_7, l_8, l_9, l_10, l_14, l_15, l_16, l_20, l_31, l_40, l_48, l_50, l_57, l_60, l_64, l_76, l_80, l_99, l_100, l_127, l_196, l_200, l_201, l_202, l_255, l_412, l_999, l_1000, l_16000, l_1000000, i_add, i_mul, i_sub, i_leN, i_ltN, i_eqN, i_nleG, i_nltG, inb_n, cl_nI, chk_q, bnd_q, bd1_q, bd2_q, i_bitQ, i_oneQ, i_woQ, i_or, i_and, i_xor, zb_q0, zb_q1, zb_b, b_0Q, if_true, if_false, reduceCtorEq, if_pos, if_neg, m_isOne hI.2.1.1, decide_eq_true h1, e, m_has, hb, m_inG hy]
    by_cases hd : n ≤ 200
    · have hx : aN a ^^^ 2 ^ i < 2 ^ (aS a).1 := xor_lt hnow (Nat.pow_lt_pow_right (by omega) h1)
      refine ⟨nI (itr (aS a) n (aN a) ^^^ itr (aS a) n (aN a ^^^ 2 ^ i)), a, fun μ h => ?_, fun ν h => m_start h fun Q ν1 _ hI _ => m_same hI hN ?_⟩
      · obtain ⟨μ1, k1, k2, _⟩ := x_later h.XI hnow (n := n) (by omega)
        obtain ⟨μ2, l1, l2, _⟩ := x_later k2 hx (n := n) (by omega)
        exact ⟨μ2, by simp (disch := omega) only [l_0, l_1, l_2, l_3, l_4, l_5, l_6, l_7, l_8, l_9, l_10, l_14, l_15, l_16, l_20, l_31, l_40, l_48, l_50, l_57, l_60, l_64, l_76, l_80, l_99, l_100, l_127, l_196, l_200, l_201, l_202, l_255, l_412, l_999, l_1000, l_16000, l_1000000, i_add, i_mul, i_sub, i_leN, i_ltN, i_eqN, i_nleG, i_nltG, inb_n, cl_nI, chk_q, bnd_q, bd1_q, bd2_q, i_bitQ, i_oneQ, i_woQ, i_or, i_and, i_xor, zb_q0, zb_q1, zb_b, b_0Q, if_true, if_false, reduceCtorEq, if_pos, if_neg, f_x_otherwise, st_has h.2.1.1, decide_eq_true h1, st_isFirm h.2.1.1, hb, nI_lt_self, st_now hW h.2.1, k1, l1], l2.done hN⟩
      · have e := hI.2.1.1.2.2.2.1
        simp (disch := omega) only [l_0, l_1, l_2, l_3, l_4, l_5, l_6, l_7, l_8, l_9, l_10, l_14, l_15, l_16, l_20, l_31, l_40, l_48, l_50, l_57, l_60, l_64, l_76, l_80, l_99, l_100, l_127, l_196, l_200, l_201, l_202, l_255, l_412, l_999, l_1000, l_16000, l_1000000, i_add, i_mul, i_sub, i_leN, i_ltN, i_eqN, i_nleG, i_nltG, inb_n, cl_nI, chk_q, bnd_q, bd1_q, bd2_q, i_bitQ, i_oneQ, i_woQ, i_or, i_and, i_xor, zb_q0, zb_q1, zb_b, b_0Q, if_true, if_false, reduceCtorEq, if_pos, if_neg, m_isOne hI.2.1.1, decide_eq_true h1, e, m_has, hb, m_inN, decide_eq_true hd, m_now hW hI.2.1.2.1, m_after hI.2.1.1 hnow, m_after hI.2.1.1 hx]
    · refine ⟨-nI 1, a, fun μ h => x_same h hN (by simp (disch := omega) only [l_0, l_1, l_2, l_3, l_4, l_5, l_6, l_7, l_8, l_9, l_10, l_14, l_15, l_16, l_20, l_31, l_40, l_48, l_50, l_57, l_60, l_64, l_76, l_80, l_99, l_100, l_127, l_196, l_200, l_201, l_202, l_255, l_412, l_999, l_1000, l_16000, l_1000000, i_add, i_mul, i_sub, i_leN, i_ltN, i_eqN, i_nleG, i_nltG, inb_n, cl_nI, chk_q, bnd_q, bd1_q, bd2_q, i_bitQ, i_oneQ, i_woQ, i_or, i_and, i_xor, zb_q0, zb_q1, zb_b, b_0Q, if_true, if_false, reduceCtorEq, if_pos, if_neg, f_x_otherwise, st_has h.2.1.1, decide_eq_true h1, st_isFirm h.2.1.1, hb, nI_lt_self]), fun ν h => m_start h fun Q ν1 _ hI _ => m_same hI hN ?_⟩
      have e := hI.2.1.1.2.2.2.1
      simp (disch := omega) only [l_0, l_1, l_2, l_3, l_4, l_5, l_6, l_7, l_8, l_9, l_10, l_14, l_15, l_16, l_20, l_31, l_40, l_48, l_50, l_57, l_60, l_64, l_76, l_80, l_99, l_100, l_127, l_196, l_200, l_201, l_202, l_255, l_412, l_999, l_1000, l_16000, l_1000000, i_add, i_mul, i_sub, i_leN, i_ltN, i_eqN, i_nleG, i_nltG, inb_n, cl_nI, chk_q, bnd_q, bd1_q, bd2_q, i_bitQ, i_oneQ, i_woQ, i_or, i_and, i_xor, zb_q0, zb_q1, zb_b, b_0Q, if_true, if_false, reduceCtorEq, if_pos, if_neg, m_isOne hI.2.1.1, decide_eq_true h1, e, m_has, hb, m_inN, decide_eq_false hd]
end OPS
