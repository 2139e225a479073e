/-! again; the reference's keep and again. -/
abbrev aAg (a : Ab) (k : KP) : Ab := (((aS a).1, k.2.2.2.1, k.2.2.2.2, (aS a).2.2.2), a.2.1, (k.2.1, k.2.2.1), a.2.2.2)
section OPS
variable {N : Nat} {a : Ab} {b : Nat × Nat} {μ0 μ : Mem} {Q : Nat} {S : SP}
theorem x_again {s : Nat} {k : KP} (hs : s < 2) (hk : aK a s = some k) (hp : k.1 = (aS a).1) (h : XR N a μ) (hN : N < 600) : ∃ μ1, f_st_takeDays 0 (1 + s) μ = some μ1 ∧ XO N (aAg a k) μ μ1 := by
  have hX := h.XI
  obtain ⟨hW, ⟨p1, p2, p3, p4, p5, p6⟩, hQ⟩ := h
  obtain ⟨g1, g2, g3, g4, g5, g6⟩ := hW.2.2.2.2.2.2 s k hk
  have hK : XK1 (some k) s μ := by
    have hc : s = 0 ∨ s = 1 := by omega
    rcases hc with rfl | rfl
    · rw [← hk]; exact p5
    · rw [← hk]; exact p6
  obtain ⟨q1, q2, q3, q4, q5, q6⟩ := hK
  obtain ⟨μ1, k1, k2, k3, kv, k4, k5, k6, k7⟩ := x_take (t := 0) (u := 1 + s) (by omega) μ
  refine ⟨μ1, k1, ?_⟩
  have h14 : (aS a).1 ≤ 14 := hW.1.1
  have hS : SOk ((aS a).1, k.2.2.2.1, k.2.2.2.2, (aS a).2.2.2) := ⟨h14, g4, fun i hi => g6 i (by rw [hp]; exact hi), hW.1.2.2.2⟩
  -- in two steps: the street, the days
  have hX1 : XI N (4 * N, 1) (aSetS a ((aS a).1, k.2.2.2.1, k.2.2.2.2, (aS a).2.2.2)) μ (fun v => if v = vSt 0 2 ∨ v = vSt 0 6 then μ.1 v else μ1.1 v, μ.2) := by
    refine hX.street (S := ((aS a).1, k.2.2.2.1, k.2.2.2.2, (aS a).2.2.2)) (by show 0 < 60; omega) rfl ⟨hS, by rw [← hp]; exact g5⟩ (fun v h3 h4 h8 => ?_) rfl ?_ ⟨?_, fun i j hi hj => ?_, fun i hi => ?_, ?_, hS⟩
    · by_cases e : v = vSt 0 2 ∨ v = vSt 0 6
      · exact if_pos e
      · exact (if_neg e).trans (k2 v (fun q => e (Or.inl q)) h3 h4 (fun q => e (Or.inr q)) h8)
    · show (if vSt 0 3 = vSt 0 2 ∨ vSt 0 3 = vSt 0 6 then μ.1 (vSt 0 3) else μ1.1 (vSt 0 3)) 0 = _
      rw [if_neg (by decide)]; exact kv
    · show (if vSt 0 0 = vSt 0 2 ∨ vSt 0 0 = vSt 0 6 then μ.1 (vSt 0 0) else μ1.1 (vSt 0 0)) 0 = _
      rw [if_neg (by decide), k2 _ (by decide) (by decide) (by decide) (by decide) (fun k hk => vSt_ne (by omega) (by omega) (by omega))]; exact p1.1
    · show (if vSt 0 (8 + i) = vSt 0 2 ∨ vSt 0 (8 + i) = vSt 0 6 then μ.1 (vSt 0 (8 + i)) else μ1.1 (vSt 0 (8 + i))) j = _
      rw [if_neg (fun q => q.elim (vSt_ne (by omega) (by omega) (by omega)) (vSt_ne (by omega) (by omega) (by omega))), k7 i j hi hj]; exact q5 i j hi hj
    · show (if vSt 0 4 = vSt 0 2 ∨ vSt 0 4 = vSt 0 6 then μ.1 (vSt 0 4) else μ1.1 (vSt 0 4)) i = _
      have hi' : i < (aS a).1 := hi
      rw [if_neg (by decide), k6 i (by omega)]; exact q6 i (by omega)
    · show (if vSt 0 1 = vSt 0 2 ∨ vSt 0 1 = vSt 0 6 then μ.1 (vSt 0 1) else μ1.1 (vSt 0 1)) 0 = _
      rw [if_neg (by decide), k2 _ (by decide) (by decide) (by decide) (by decide) (fun k hk => vSt_ne (by omega) (by omega) (by omega))]; exact p1.2.2.2.1
  exact (hX1.days (z := (k.2.1, k.2.2.1)) ⟨g2, fun d hd => by rw [← hp]; exact g3 d hd⟩ (fun v h2 h6 => (if_neg (fun q => q.elim h2 h6)).symm) k3 (by rw [k4]; exact q3) (fun d hd => by have hd' : d ≤ k.2.1 := hd; rw [k5 d (by omega)]; exact q4 d hd)).done hN
/-! the reference copies -/
theorem m_kp1 {x : Nat} (hx : x ≤ 412) : ∀ m i n (μ : Mem), i + m = 201 → m < n → ∃ μ1, f_m_keep_b51 n (nI x) (nI i) μ = f_m_keep_b88 FU (nI (x + 202)) (nI 0) μ1 ∧ (∀ v, v ≠ v_m_kept → μ1.1 v = μ.1 v) ∧ μ1.2 = μ.2 ∧ ∀ j, μ1.1 v_m_kept j = if x + 1 + i ≤ j ∧ j < x + 202 then μ.1 v_m_states (j - (x + 1)) else μ.1 v_m_kept j := by
  intro m
  induction m with
  | zero =>
    intro i n μ hi hn
    obtain ⟨n, rfl⟩ : ∃ z, n = z + 1 := ⟨n - 1, by omega⟩
    obtain rfl : i = 201 := by omega
    exact ⟨μ, by simp (disch := omega) only [l_0, l_1, l_2, l_3, l_4, l_5, l_6, l_7, l_8, l_9, l_10, l_14, l_15, l_16, l_20, l_31, l_40, l_48, l_50, l_57, l_60, l_64, l_76, l_80, l_99, l_100, l_127, l_196, l_200, l_201, l_202, l_255, l_412, l_999, l_1000, l_16000, l_1000000, i_add, i_mul, i_sub, i_leN, i_ltN, i_eqN, i_nleG, i_nltG, inb_n, cl_nI, chk_q, bnd_q, bd1_q, bd2_q, i_bitQ, i_oneQ, i_woQ, i_or, i_and, i_xor, zb_q0, zb_q1, zb_b, b_0Q, if_true, if_false, reduceCtorEq, if_pos, if_neg, f_m_keep_b51], fun _ _ => rfl, rfl, fun j => by rw [if_neg (by omega)]⟩
  | succ m ih =>
    intro i n μ hi hn
    obtain ⟨n, rfl⟩ : ∃ z, n = z + 1 := ⟨n - 1, by omega⟩
    obtain ⟨μ1, k1, k2, k3, k4⟩ := ih (i + 1) n (setI μ v_m_kept (x + 1 + i) (μ.1 v_m_states i)) (by omega) (by omega)
    refine ⟨μ1, ?_, fun v hv => by rw [k2 v hv, sI_v _ _ _ hv], by rw [k3]; rfl, fun j => ?_⟩
    · rw [← k1]
      simp (disch := omega) only [l_0, l_1, l_2, l_3, l_4, l_5, l_6, l_7, l_8, l_9, l_10, l_14, l_15, l_16, l_20, l_31, l_40, l_48, l_50, l_57, l_60, l_64, l_76, l_80, l_99, l_100, l_127, l_196, l_200, l_201, l_202, l_255, l_412, l_999, l_1000, l_16000, l_1000000, i_add, i_mul, i_sub, i_leN, i_ltN, i_eqN, i_nleG, i_nltG, inb_n, cl_nI, chk_q, bnd_q, bd1_q, bd2_q, i_bitQ, i_oneQ, i_woQ, i_or, i_and, i_xor, zb_q0, zb_q1, zb_b, b_0Q, if_true, if_false, reduceCtorEq, if_pos, if_neg, f_m_keep_b51]
    · rw [k4 j, sI_v _ _ _ (by decide)]
      by_cases e : j = x + 1 + i
      · rw [if_neg (by omega), if_pos (by omega), e, sI_eq, show x + 1 + i - (x + 1) = i by omega]
      · rw [sI_i _ _ _ e]
        by_cases c : x + 1 + i ≤ j ∧ j < x + 202
        · rw [if_pos (by omega), if_pos c]
        · rw [if_neg (by omega), if_neg c]
theorem m_kp2 {x : Nat} (hx : x ≤ 614) : ∀ m i n (μ : Mem), i + m = 196 → m < n → ∃ μ1, f_m_keep_b88 n (nI x) (nI i) μ = f_m_keep_b123 FU (nI (x + 196)) (nI 0) μ1 ∧ (∀ v, v ≠ v_m_kept → μ1.1 v = μ.1 v) ∧ μ1.2 = μ.2 ∧ ∀ j, μ1.1 v_m_kept j = if x + i ≤ j ∧ j < x + 196 then μ.1 v_m_loud (j - x) else μ.1 v_m_kept j := by
  intro m
  induction m with
  | zero =>
    intro i n μ hi hn
    obtain ⟨n, rfl⟩ : ∃ z, n = z + 1 := ⟨n - 1, by omega⟩
    obtain rfl : i = 196 := by omega
    exact ⟨μ, by simp (disch := omega) only [l_0, l_1, l_2, l_3, l_4, l_5, l_6, l_7, l_8, l_9, l_10, l_14, l_15, l_16, l_20, l_31, l_40, l_48, l_50, l_57, l_60, l_64, l_76, l_80, l_99, l_100, l_127, l_196, l_200, l_201, l_202, l_255, l_412, l_999, l_1000, l_16000, l_1000000, i_add, i_mul, i_sub, i_leN, i_ltN, i_eqN, i_nleG, i_nltG, inb_n, cl_nI, chk_q, bnd_q, bd1_q, bd2_q, i_bitQ, i_oneQ, i_woQ, i_or, i_and, i_xor, zb_q0, zb_q1, zb_b, b_0Q, if_true, if_false, reduceCtorEq, if_pos, if_neg, f_m_keep_b88], fun _ _ => rfl, rfl, fun j => by rw [if_neg (by omega)]⟩
  | succ m ih =>
    intro i n μ hi hn
    obtain ⟨n, rfl⟩ : ∃ z, n = z + 1 := ⟨n - 1, by omega⟩
    obtain ⟨μ1, k1, k2, k3, k4⟩ := ih (i + 1) n (setI μ v_m_kept (x + i) (μ.1 v_m_loud i)) (by omega) (by omega)
    refine ⟨μ1, ?_, fun v hv => by rw [k2 v hv, sI_v _ _ _ hv], by rw [k3]; rfl, fun j => ?_⟩
    · rw [← k1]
      simp (disch := omega) only [l_0, l_1, l_2, l_3, l_4, l_5, l_6, l_7, l_8, l_9, l_10, l_14, l_15, l_16, l_20, l_31, l_40, l_48, l_50, l_57, l_60, l_64, l_76, l_80, l_99, l_100, l_127, l_196, l_200, l_201, l_202, l_255, l_412, l_999, l_1000, l_16000, l_1000000, i_add, i_mul, i_sub, i_leN, i_ltN, i_eqN, i_nleG, i_nltG, inb_n, cl_nI, chk_q, bnd_q, bd1_q, bd2_q, i_bitQ, i_oneQ, i_woQ, i_or, i_and, i_xor, zb_q0, zb_q1, zb_b, b_0Q, if_true, if_false, reduceCtorEq, if_pos, if_neg, f_m_keep_b88]
    · rw [k4 j, sI_v _ _ _ (by decide)]
      by_cases e : j = x + i
      · rw [if_neg (by omega), if_pos (by omega), e, sI_eq, show x + i - x = i by omega]
      · rw [sI_i _ _ _ e]
        by_cases c : x + i ≤ j ∧ j < x + 196
        · rw [if_pos (by omega), if_pos c]
        · rw [if_neg (by omega), if_neg c]
theorem m_kp3 {x : Nat} (hx : x ≤ 810) : ∀ m i n (μ : Mem), i + m = 14 → m < n → ∃ μ1, f_m_keep_b123 n (nI x) (nI i) μ = some (nI 1, μ1) ∧ (∀ v, v ≠ v_m_kept → μ1.1 v = μ.1 v) ∧ μ1.2 = μ.2 ∧ ∀ j, μ1.1 v_m_kept j = if x + i ≤ j ∧ j < x + 14 then μ.1 v_m_need (j - x) else μ.1 v_m_kept j := by
  intro m
  induction m with
  | zero =>
    intro i n μ hi hn
    obtain ⟨n, rfl⟩ : ∃ z, n = z + 1 := ⟨n - 1, by omega⟩
    obtain rfl : i = 14 := by omega
    exact ⟨μ, by simp (disch := omega) only [l_0, l_1, l_2, l_3, l_4, l_5, l_6, l_7, l_8, l_9, l_10, l_14, l_15, l_16, l_20, l_31, l_40, l_48, l_50, l_57, l_60, l_64, l_76, l_80, l_99, l_100, l_127, l_196, l_200, l_201, l_202, l_255, l_412, l_999, l_1000, l_16000, l_1000000, i_add, i_mul, i_sub, i_leN, i_ltN, i_eqN, i_nleG, i_nltG, inb_n, cl_nI, chk_q, bnd_q, bd1_q, bd2_q, i_bitQ, i_oneQ, i_woQ, i_or, i_and, i_xor, zb_q0, zb_q1, zb_b, b_0Q, if_true, if_false, reduceCtorEq, if_pos, if_neg, f_m_keep_b123], fun _ _ => rfl, rfl, fun j => by rw [if_neg (by omega)]⟩
  | succ m ih =>
    intro i n μ hi hn
    obtain ⟨n, rfl⟩ : ∃ z, n = z + 1 := ⟨n - 1, by omega⟩
    obtain ⟨μ1, k1, k2, k3, k4⟩ := ih (i + 1) n (setI μ v_m_kept (x + i) (μ.1 v_m_need i)) (by omega) (by omega)
    refine ⟨μ1, ?_, fun v hv => by rw [k2 v hv, sI_v _ _ _ hv], by rw [k3]; rfl, fun j => ?_⟩
    · rw [← k1]
      simp (disch := omega) only [l_0, l_1, l_2, l_3, l_4, l_5, l_6, l_7, l_8, l_9, l_10, l_14, l_15, l_16, l_20, l_31, l_40, l_48, l_50, l_57, l_60, l_64, l_76, l_80, l_99, l_100, l_127, l_196, l_200, l_201, l_202, l_255, l_412, l_999, l_1000, l_16000, l_1000000, i_add, i_mul, i_sub, i_leN, i_ltN, i_eqN, i_nleG, i_nltG, inb_n, cl_nI, chk_q, bnd_q, bd1_q, bd2_q, i_bitQ, i_oneQ, i_woQ, i_or, i_and, i_xor, zb_q0, zb_q1, zb_b, b_0Q, if_true, if_false, reduceCtorEq, if_pos, if_neg, f_m_keep_b123]
    · rw [k4 j, sI_v _ _ _ (by decide)]
      by_cases e : j = x + i
      · rw [if_neg (by omega), if_pos (by omega), e, sI_eq, show x + i - x = i by omega]
      · rw [sI_i _ _ _ e]
        by_cases c : x + i ≤ j ∧ j < x + 14
        · rw [if_pos (by omega), if_pos c]
        · rw [if_neg (by omega), if_neg c]
theorem m_ag1 {x : Nat} (hx : x ≤ 412) : ∀ m i n (μ : Mem), i + m = 201 → m < n → ∃ μ1, f_m_again_b56 n (nI x) (nI i) μ = f_m_again_b93 FU (nI (x + 202)) (nI 0) μ1 ∧ (∀ v, v ≠ v_m_states → μ1.1 v = μ.1 v) ∧ μ1.2 = μ.2 ∧ ∀ j, μ1.1 v_m_states j = if i ≤ j ∧ j < 201 then μ.1 v_m_kept (x + 1 + j) else μ.1 v_m_states j := by
  intro m
  induction m with
  | zero =>
    intro i n μ hi hn
    obtain ⟨n, rfl⟩ : ∃ z, n = z + 1 := ⟨n - 1, by omega⟩
    obtain rfl : i = 201 := by omega
    exact ⟨μ, by simp (disch := omega) only [l_0, l_1, l_2, l_3, l_4, l_5, l_6, l_7, l_8, l_9, l_10, l_14, l_15, l_16, l_20, l_31, l_40, l_48, l_50, l_57, l_60, l_64, l_76, l_80, l_99, l_100, l_127, l_196, l_200, l_201, l_202, l_255, l_412, l_999, l_1000, l_16000, l_1000000, i_add, i_mul, i_sub, i_leN, i_ltN, i_eqN, i_nleG, i_nltG, inb_n, cl_nI, chk_q, bnd_q, bd1_q, bd2_q, i_bitQ, i_oneQ, i_woQ, i_or, i_and, i_xor, zb_q0, zb_q1, zb_b, b_0Q, if_true, if_false, reduceCtorEq, if_pos, if_neg, f_m_again_b56], fun _ _ => rfl, rfl, fun j => by rw [if_neg (by omega)]⟩
  | succ m ih =>
    intro i n μ hi hn
    obtain ⟨n, rfl⟩ : ∃ z, n = z + 1 := ⟨n - 1, by omega⟩
    obtain ⟨μ1, k1, k2, k3, k4⟩ := ih (i + 1) n (setI μ v_m_states i (μ.1 v_m_kept (x + 1 + i))) (by omega) (by omega)
    refine ⟨μ1, ?_, fun v hv => by rw [k2 v hv, sI_v _ _ _ hv], by rw [k3]; rfl, fun j => ?_⟩
    · rw [← k1]
      simp (disch := omega) only [l_0, l_1, l_2, l_3, l_4, l_5, l_6, l_7, l_8, l_9, l_10, l_14, l_15, l_16, l_20, l_31, l_40, l_48, l_50, l_57, l_60, l_64, l_76, l_80, l_99, l_100, l_127, l_196, l_200, l_201, l_202, l_255, l_412, l_999, l_1000, l_16000, l_1000000, i_add, i_mul, i_sub, i_leN, i_ltN, i_eqN, i_nleG, i_nltG, inb_n, cl_nI, chk_q, bnd_q, bd1_q, bd2_q, i_bitQ, i_oneQ, i_woQ, i_or, i_and, i_xor, zb_q0, zb_q1, zb_b, b_0Q, if_true, if_false, reduceCtorEq, if_pos, if_neg, f_m_again_b56]
    · rw [k4 j, sI_v _ _ _ (by decide)]
      by_cases e : j = i
      · rw [if_neg (by omega), if_pos (by omega), e, sI_eq]
      · rw [sI_i _ _ _ e]
        by_cases c : i ≤ j ∧ j < 201
        · rw [if_pos (by omega), if_pos c]
        · rw [if_neg (by omega), if_neg c]
theorem m_ag2 {x : Nat} (hx : x ≤ 614) : ∀ m i n (μ : Mem), i + m = 196 → m < n → ∃ μ1, f_m_again_b93 n (nI x) (nI i) μ = f_m_again_b128 FU (nI (x + 196)) (nI 0) μ1 ∧ (∀ v, v ≠ v_m_loud → μ1.1 v = μ.1 v) ∧ μ1.2 = μ.2 ∧ ∀ j, μ1.1 v_m_loud j = if i ≤ j ∧ j < 196 then μ.1 v_m_kept (x + j) else μ.1 v_m_loud j := by
  intro m
  induction m with
  | zero =>
    intro i n μ hi hn
    obtain ⟨n, rfl⟩ : ∃ z, n = z + 1 := ⟨n - 1, by omega⟩
    obtain rfl : i = 196 := by omega
    exact ⟨μ, by simp (disch := omega) only [l_0, l_1, l_2, l_3, l_4, l_5, l_6, l_7, l_8, l_9, l_10, l_14, l_15, l_16, l_20, l_31, l_40, l_48, l_50, l_57, l_60, l_64, l_76, l_80, l_99, l_100, l_127, l_196, l_200, l_201, l_202, l_255, l_412, l_999, l_1000, l_16000, l_1000000, i_add, i_mul, i_sub, i_leN, i_ltN, i_eqN, i_nleG, i_nltG, inb_n, cl_nI, chk_q, bnd_q, bd1_q, bd2_q, i_bitQ, i_oneQ, i_woQ, i_or, i_and, i_xor, zb_q0, zb_q1, zb_b, b_0Q, if_true, if_false, reduceCtorEq, if_pos, if_neg, f_m_again_b93], fun _ _ => rfl, rfl, fun j => by rw [if_neg (by omega)]⟩
  | succ m ih =>
    intro i n μ hi hn
    obtain ⟨n, rfl⟩ : ∃ z, n = z + 1 := ⟨n - 1, by omega⟩
    obtain ⟨μ1, k1, k2, k3, k4⟩ := ih (i + 1) n (setI μ v_m_loud i (μ.1 v_m_kept (x + i))) (by omega) (by omega)
    refine ⟨μ1, ?_, fun v hv => by rw [k2 v hv, sI_v _ _ _ hv], by rw [k3]; rfl, fun j => ?_⟩
    · rw [← k1]
      simp (disch := omega) only [l_0, l_1, l_2, l_3, l_4, l_5, l_6, l_7, l_8, l_9, l_10, l_14, l_15, l_16, l_20, l_31, l_40, l_48, l_50, l_57, l_60, l_64, l_76, l_80, l_99, l_100, l_127, l_196, l_200, l_201, l_202, l_255, l_412, l_999, l_1000, l_16000, l_1000000, i_add, i_mul, i_sub, i_leN, i_ltN, i_eqN, i_nleG, i_nltG, inb_n, cl_nI, chk_q, bnd_q, bd1_q, bd2_q, i_bitQ, i_oneQ, i_woQ, i_or, i_and, i_xor, zb_q0, zb_q1, zb_b, b_0Q, if_true, if_false, reduceCtorEq, if_pos, if_neg, f_m_again_b93]
    · rw [k4 j, sI_v _ _ _ (by decide)]
      by_cases e : j = i
      · rw [if_neg (by omega), if_pos (by omega), e, sI_eq]
      · rw [sI_i _ _ _ e]
        by_cases c : i ≤ j ∧ j < 196
        · rw [if_pos (by omega), if_pos c]
        · rw [if_neg (by omega), if_neg c]
theorem m_ag3 {x : Nat} (hx : x ≤ 810) : ∀ m i n (μ : Mem), i + m = 14 → m < n → ∃ μ1, f_m_again_b128 n (nI x) (nI i) μ = some (nI 1, μ1) ∧ (∀ v, v ≠ v_m_need → μ1.1 v = μ.1 v) ∧ μ1.2 = μ.2 ∧ ∀ j, μ1.1 v_m_need j = if i ≤ j ∧ j < 14 then μ.1 v_m_kept (x + j) else μ.1 v_m_need j := by
  intro m
  induction m with
  | zero =>
    intro i n μ hi hn
    obtain ⟨n, rfl⟩ : ∃ z, n = z + 1 := ⟨n - 1, by omega⟩
    obtain rfl : i = 14 := by omega
    exact ⟨μ, by simp (disch := omega) only [l_0, l_1, l_2, l_3, l_4, l_5, l_6, l_7, l_8, l_9, l_10, l_14, l_15, l_16, l_20, l_31, l_40, l_48, l_50, l_57, l_60, l_64, l_76, l_80, l_99, l_100, l_127, l_196, l_200, l_201, l_202, l_255, l_412, l_999, l_1000, l_16000, l_1000000, i_add, i_mul, i_sub, i_leN, i_ltN, i_eqN, i_nleG, i_nltG, inb_n, cl_nI, chk_q, bnd_q, bd1_q, bd2_q, i_bitQ, i_oneQ, i_woQ, i_or, i_and, i_xor, zb_q0, zb_q1, zb_b, b_0Q, if_true, if_false, reduceCtorEq, if_pos, if_neg, f_m_again_b128], fun _ _ => rfl, rfl, fun j => by rw [if_neg (by omega)]⟩
  | succ m ih =>
    intro i n μ hi hn
    obtain ⟨n, rfl⟩ : ∃ z, n = z + 1 := ⟨n - 1, by omega⟩
    obtain ⟨μ1, k1, k2, k3, k4⟩ := ih (i + 1) n (setI μ v_m_need i (μ.1 v_m_kept (x + i))) (by omega) (by omega)
    refine ⟨μ1, ?_, fun v hv => by rw [k2 v hv, sI_v _ _ _ hv], by rw [k3]; rfl, fun j => ?_⟩
    · rw [← k1]
      simp (disch := omega) only [l_0, l_1, l_2, l_3, l_4, l_5, l_6, l_7, l_8, l_9, l_10, l_14, l_15, l_16, l_20, l_31, l_40, l_48, l_50, l_57, l_60, l_64, l_76, l_80, l_99, l_100, l_127, l_196, l_200, l_201, l_202, l_255, l_412, l_999, l_1000, l_16000, l_1000000, i_add, i_mul, i_sub, i_leN, i_ltN, i_eqN, i_nleG, i_nltG, inb_n, cl_nI, chk_q, bnd_q, bd1_q, bd2_q, i_bitQ, i_oneQ, i_woQ, i_or, i_and, i_xor, zb_q0, zb_q1, zb_b, b_0Q, if_true, if_false, reduceCtorEq, if_pos, if_neg, f_m_again_b128]
    · rw [k4 j, sI_v _ _ _ (by decide)]
      by_cases e : j = i
      · rw [if_neg (by omega), if_pos (by omega), e, sI_eq]
      · rw [sI_i _ _ _ e]
        by_cases c : i ≤ j ∧ j < 14
        · rw [if_pos (by omega), if_pos c]
        · rw [if_neg (by omega), if_neg c]
theorem op_keep (x : Int32) : OpI N a (f_x_keep x) (f_m_keep x) := by
  intro hW hN
  have h200 := hW.2.2.2.1.1
  rcases i_casesQ x with hx | ⟨s, hs, rfl⟩
  · refine ⟨nI 0, a, fun μ h => x_same h hN (by simp (disch := omega) only [l_0, l_1, l_2, l_3, l_4, l_5, l_6, l_7, l_8, l_9, l_10, l_14, l_15, l_16, l_20, l_31, l_40, l_48, l_50, l_57, l_60, l_64, l_76, l_80, l_99, l_100, l_127, l_196, l_200, l_201, l_202, l_255, l_412, l_999, l_1000, l_16000, l_1000000, i_add, i_mul, i_sub, i_leN, i_ltN, i_eqN, i_nleG, i_nltG, inb_n, cl_nI, chk_q, bnd_q, bd1_q, bd2_q, i_bitQ, i_oneQ, i_woQ, i_or, i_and, i_xor, zb_q0, zb_q1, zb_b, b_0Q, if_true, if_false, reduceCtorEq, if_pos, if_neg, f_x_keep, hx]), fun ν h => m_start h fun Q ν1 _ hI _ => m_same hI hN ?_⟩
    simp (disch := omega) only [l_0, l_1, l_2, l_3, l_4, l_5, l_6, l_7, l_8, l_9, l_10, l_14, l_15, l_16, l_20, l_31, l_40, l_48, l_50, l_57, l_60, l_64, l_76, l_80, l_99, l_100, l_127, l_196, l_200, l_201, l_202, l_255, l_412, l_999, l_1000, l_16000, l_1000000, i_add, i_mul, i_sub, i_leN, i_ltN, i_eqN, i_nleG, i_nltG, inb_n, cl_nI, chk_q, bnd_q, bd1_q, bd2_q, i_bitQ, i_oneQ, i_woQ, i_or, i_and, i_xor, zb_q0, zb_q1, zb_b, b_0Q, if_true, if_false, reduceCtorEq, if_pos, if_neg, m_inG hx]
  by_cases h1 : ¬ s ≤ 1
  · refine ⟨nI 0, a, fun μ h => x_same h hN (by simp (disch := omega) only [l_0, l_1, l_2, l_3, l_4, l_5, l_6, l_7, l_8, l_9, l_10, l_14, l_15, l_16, l_20, l_31, l_40, l_48, l_50, l_57, l_60, l_64, l_76, l_80, l_99, l_100, l_127, l_196, l_200, l_201, l_202, l_255, l_412, l_999, l_1000, l_16000, l_1000000, i_add, i_mul, i_sub, i_leN, i_ltN, i_eqN, i_nleG, i_nltG, inb_n, cl_nI, chk_q, bnd_q, bd1_q, bd2_q, i_bitQ, i_oneQ, i_woQ, i_or, i_and, i_xor, zb_q0, zb_q1, zb_b, b_0Q, if_true, if_false, reduceCtorEq, if_pos, if_neg, f_x_keep, nI_lt_self]), fun ν h => m_start h fun Q ν1 _ hI _ => m_same hI hN ?_⟩
    simp (disch := omega) only [l_0, l_1, l_2, l_3, l_4, l_5, l_6, l_7, l_8, l_9, l_10, l_14, l_15, l_16, l_20, l_31, l_40, l_48, l_50, l_57, l_60, l_64, l_76, l_80, l_99, l_100, l_127, l_196, l_200, l_201, l_202, l_255, l_412, l_999, l_1000, l_16000, l_1000000, i_add, i_mul, i_sub, i_leN, i_ltN, i_eqN, i_nleG, i_nltG, inb_n, cl_nI, chk_q, bnd_q, bd1_q, bd2_q, i_bitQ, i_oneQ, i_woQ, i_or, i_and, i_xor, zb_q0, zb_q1, zb_b, b_0Q, if_true, if_false, reduceCtorEq, if_pos, if_neg, m_inN, decide_eq_false h1]
  have h1 := Decidable.not_not.mp h1
  refine ⟨nI 1, aKp a s, fun μ h => ?_, fun ν h => m_start h fun Q ν1 _ hI _ => ?_⟩
  · obtain ⟨μ1, k1, k2⟩ := x_keep (s := s) (by omega) h hN
    refine ⟨_, ?_, k2⟩
    have hc : s = 0 ∨ s = 1 := by omega
    rcases hc with rfl | rfl
    · simp (disch := omega) only [l_0, l_1, l_2, l_3, l_4, l_5, l_6, l_7, l_8, l_9, l_10, l_14, l_15, l_16, l_20, l_31, l_40, l_48, l_50, l_57, l_60, l_64, l_76, l_80, l_99, l_100, l_127, l_196, l_200, l_201, l_202, l_255, l_412, l_999, l_1000, l_16000, l_1000000, i_add, i_mul, i_sub, i_leN, i_ltN, i_eqN, i_nleG, i_nltG, inb_n, cl_nI, chk_q, bnd_q, bd1_q, bd2_q, i_bitQ, i_oneQ, i_woQ, i_or, i_and, i_xor, zb_q0, zb_q1, zb_b, b_0Q, if_true, if_false, reduceCtorEq, if_pos, if_neg, f_x_keep, nI_lt_self, k1]
      rfl
    · simp (disch := omega) only [l_0, l_1, l_2, l_3, l_4, l_5, l_6, l_7, l_8, l_9, l_10, l_14, l_15, l_16, l_20, l_31, l_40, l_48, l_50, l_57, l_60, l_64, l_76, l_80, l_99, l_100, l_127, l_196, l_200, l_201, l_202, l_255, l_412, l_999, l_1000, l_16000, l_1000000, i_add, i_mul, i_sub, i_leN, i_ltN, i_eqN, i_nleG, i_nltG, inb_n, cl_nI, chk_q, bnd_q, bd1_q, bd2_q, i_bitQ, i_oneQ, i_woQ, i_or, i_and, i_xor, zb_q0, zb_q1, zb_b, b_0Q, if_true, if_false, reduceCtorEq, if_pos, if_neg, f_x_keep, nI_lt_self, k1]
      rfl
  · obtain ⟨hW', ⟨⟨b1, b2, b3, b4, b5⟩, ⟨d1, d2, d3⟩, t, r, T, kT, k2, k3, k4⟩, q, h4, h5⟩ := hI
    -- the places, then the three rows
    have hA : ∃ μA, μA = setI (setI (setI ν1 v_m_isKept s (nI 1)) v_m_keptTold s (nI T)) v_m_kept (412 * s) (nI (aD a)) := ⟨_, rfl⟩
    obtain ⟨μA, hA⟩ := hA
    have eA : ∀ v, v ≠ 169 → v ≠ 170 → v ≠ 171 → μA.1 v = ν1.1 v := fun v h1 h2 h3 => by rw [hA, sI_v _ _ _ h1, sI_v _ _ _ h3, sI_v _ _ _ h2]
    obtain ⟨μB, B1, B2, B3, B4⟩ := m_kp1 (x := 412 * s) (by omega) 201 0 FU μA (by omega) (by unfold FU; omega)
    obtain ⟨μC, C1, C2, C3, C4⟩ := m_kp2 (x := 412 * s + 202) (by omega) 196 0 FU μB (by omega) (by unfold FU; omega)
    obtain ⟨μD, D1, D2, D3, D4⟩ := m_kp3 (x := 412 * s + 202 + 196) (by omega) 14 0 FU μC (by omega) (by unfold FU; omega)
    have eD : ∀ v, v ≠ 169 → μD.1 v = μA.1 v := fun v hv => by rw [D2 v hv, C2 v hv, B2 v hv]
    have e : ∀ v, v ≠ 169 → v ≠ 170 → v ≠ 171 → μD.1 v = ν1.1 v := fun v h1 h2 h3 => by rw [eD v h1, eA v h1 h2 h3]
    have hl : μD.2 = ν1.2 := by rw [D3, C3, B3, hA]; rfl
    refine ⟨μD, ?_, ⟨aKp_wf hW' s, ⟨⟨?_, fun i j hi hj => ?_, fun i hi => ?_, ?_, b5⟩, ⟨fun i hi => ?_, ?_, fun d hd => ?_⟩, t.of (fun v hv => e v (by omega) (by omega) (by omega)), r.of (e _ (by decide) (by decide) (by decide)) (by rw [hl]), T, by omega, ?_, ?_, ?_⟩, by omega, Q, by omega, q.of (fun v hv => e v (by omega) (by omega) (by omega))⟩, h5.tr ⟨fun v hv => e v (by omega) (by omega) (by omega), fun v _ => by rw [hl], by rw [hl]⟩⟩
    · have e1 : (setI ν1 v_m_isKept s (nI 1)).1 v_m_peopleTold 0 = nI T := by rw [sI_v _ _ _ (by decide)]; exact k2
      have e2 : (setI (setI ν1 v_m_isKept s (nI 1)) v_m_keptTold s (nI T)).1 v_m_days 0 = nI (aD a) := by rw [sI_v _ _ _ (by decide), sI_v _ _ _ (by decide)]; exact d2
      rw [← D1, ← C1, ← B1, hA]
      simp (disch := omega) only [l_0, l_1, l_2, l_3, l_4, l_5, l_6, l_7, l_8, l_9, l_10, l_14, l_15, l_16, l_20, l_31, l_40, l_48, l_50, l_57, l_60, l_64, l_76, l_80, l_99, l_100, l_127, l_196, l_200, l_201, l_202, l_255, l_412, l_999, l_1000, l_16000, l_1000000, i_add, i_mul, i_sub, i_leN, i_ltN, i_eqN, i_nleG, i_nltG, inb_n, cl_nI, chk_q, bnd_q, bd1_q, bd2_q, i_bitQ, i_oneQ, i_woQ, i_or, i_and, i_xor, zb_q0, zb_q1, zb_b, b_0Q, if_true, if_false, reduceCtorEq, if_pos, if_neg, m_inN, decide_eq_true h1, show vp_nar .boolean (nI 1) = nI 1 from rfl, e1, e2]
    · rw [e _ (by decide) (by decide) (by decide)]; exact b1
    · rw [e _ (by decide) (by decide) (by decide)]; exact b2 i j hi hj
    · rw [e _ (by decide) (by decide) (by decide)]; exact b3 i hi
    · rw [e _ (by decide) (by decide) (by decide)]; exact b4
    · rw [e _ (by decide) (by decide) (by decide)]; exact d1 i hi
    · rw [e _ (by decide) (by decide) (by decide)]; exact d2
    · rw [e _ (by decide) (by decide) (by decide)]; exact d3 d hd
    · rw [e _ (by decide) (by decide) (by decide)]; exact k2
    all_goals
      have hall : ∀ s', s' < 2 → MK1 T (aS a).1 (aK a s') s' ν1 → MK1 T (aS a).1 (aK (aKp a s) s') s' μD := by
        intro s' hs' hk
        by_cases qs : s' = s
        · subst qs
          rw [show aK (aKp a s') s' = some (kNow a) from if_pos rfl]
          refine ⟨?_, ⟨T, Nat.le_refl _, ?_, by simp [kNow]⟩, ?_, fun d hd => ?_, fun i j hi hj => ?_, fun i hi => ?_⟩
          · rw [eD _ (by decide), hA, sI_v _ _ _ (by decide), sI_v _ _ _ (by decide), sI_eq]; rfl
          · rw [eD _ (by decide), hA, sI_v _ _ _ (by decide), sI_eq]
          · rw [D4, if_neg (by omega), C4, if_neg (by omega), B4, if_neg (by omega), hA, sI_eq]; rfl
          · have hd' : d ≤ aD a := hd
            rw [D4, if_neg (by omega), C4, if_neg (by omega), B4, if_pos (by omega), eA _ (by decide) (by decide) (by decide), show 412 * s' + 1 + d - (412 * s' + 1) = d by omega]; exact d3 d hd
          · rw [D4, if_neg (by omega), C4, if_pos (by omega), B2 _ (by decide), eA _ (by decide) (by decide) (by decide), show 412 * s' + 202 + (14 * i + j) - (412 * s' + 202) = 14 * i + j by omega]; exact b2 i j hi hj
          · have hi' : i < (aS a).1 := hi
            have h14 := hW'.1.1
            rw [D4, if_pos (by omega), C2 _ (by decide), B2 _ (by decide), eA _ (by decide) (by decide) (by decide), show 412 * s' + 398 + i - (412 * s' + 202 + 196) = i by omega]; exact b3 i hi
        · rw [show aK (aKp a s) s' = aK a s' from if_neg qs]
          have f1 : μD.1 v_m_isKept s' = ν1.1 v_m_isKept s' := by rw [eD _ (by decide), hA, sI_v _ _ _ (by decide), sI_v _ _ _ (by decide), sI_i _ _ _ qs]
          have f2 : μD.1 v_m_keptTold s' = ν1.1 v_m_keptTold s' := by rw [eD _ (by decide), hA, sI_v _ _ _ (by decide), sI_i _ _ _ qs, sI_v _ _ _ (by decide)]
          have f3 : ∀ j, 412 * s' ≤ j → j < 412 * s' + 412 → μD.1 v_m_kept j = ν1.1 v_m_kept j := fun j h1 h2 => by
            rw [D4, if_neg (by omega), C4, if_neg (by omega), B4, if_neg (by omega), hA, sI_i _ _ _ (by omega), sI_v _ _ _ (by decide), sI_v _ _ _ (by decide)]
          cases ho : aK a s' with
          | none => rw [ho] at hk; show μD.1 v_m_isKept s' = 0; rw [f1]; exact hk
          | some k =>
            have hko := hW'.2.2.2.2.2.2 s' k ho
            have h14 := hW'.1.1
            rw [ho] at hk
            obtain ⟨g1, ⟨t', g2, g3, g4⟩, g5, g6, g7, g8⟩ := hk
            refine ⟨by rw [f1]; exact g1, ⟨t', g2, by rw [f2]; exact g3, g4⟩, by rw [f3 _ (by omega) (by omega)]; exact g5, fun d hd => ?_, fun i j hi hj => ?_, fun i hi => ?_⟩
            · have := hko.2.1
              rw [f3 _ (by omega) (by omega)]; exact g6 d hd
            · rw [f3 _ (by omega) (by omega)]; exact g7 i j hi hj
            · have := hko.1
              rw [f3 _ (by omega) (by omega)]; exact g8 i hi
      first | exact hall 0 (by omega) k3 | exact hall 1 (by omega) k4
theorem op_again (x : Int32) : OpI N a (f_x_again x) (f_m_again x) := by
  intro hW hN
  have h200 := hW.2.2.2.1.1
  have h14 := hW.1.1
  rcases i_casesQ x with hx | ⟨s, hs, rfl⟩
  · refine ⟨nI 0, a, fun μ h => x_same h hN (by simp (disch := omega) only [l_0, l_1, l_2, l_3, l_4, l_5, l_6, l_7, l_8, l_9, l_10, l_14, l_15, l_16, l_20, l_31, l_40, l_48, l_50, l_57, l_60, l_64, l_76, l_80, l_99, l_100, l_127, l_196, l_200, l_201, l_202, l_255, l_412, l_999, l_1000, l_16000, l_1000000, i_add, i_mul, i_sub, i_leN, i_ltN, i_eqN, i_nleG, i_nltG, inb_n, cl_nI, chk_q, bnd_q, bd1_q, bd2_q, i_bitQ, i_oneQ, i_woQ, i_or, i_and, i_xor, zb_q0, zb_q1, zb_b, b_0Q, if_true, if_false, reduceCtorEq, if_pos, if_neg, f_x_again, hx]), fun ν h => m_start h fun Q ν1 _ hI _ => m_same hI hN ?_⟩
    simp (disch := omega) only [l_0, l_1, l_2, l_3, l_4, l_5, l_6, l_7, l_8, l_9, l_10, l_14, l_15, l_16, l_20, l_31, l_40, l_48, l_50, l_57, l_60, l_64, l_76, l_80, l_99, l_100, l_127, l_196, l_200, l_201, l_202, l_255, l_412, l_999, l_1000, l_16000, l_1000000, i_add, i_mul, i_sub, i_leN, i_ltN, i_eqN, i_nleG, i_nltG, inb_n, cl_nI, chk_q, bnd_q, bd1_q, bd2_q, i_bitQ, i_oneQ, i_woQ, i_or, i_and, i_xor, zb_q0, zb_q1, zb_b, b_0Q, if_true, if_false, reduceCtorEq, if_pos, if_neg, m_inG hx]
  by_cases h1 : ¬ s ≤ 1
  · refine ⟨nI 0, a, fun μ h => x_same h hN (by simp (disch := omega) only [l_0, l_1, l_2, l_3, l_4, l_5, l_6, l_7, l_8, l_9, l_10, l_14, l_15, l_16, l_20, l_31, l_40, l_48, l_50, l_57, l_60, l_64, l_76, l_80, l_99, l_100, l_127, l_196, l_200, l_201, l_202, l_255, l_412, l_999, l_1000, l_16000, l_1000000, i_add, i_mul, i_sub, i_leN, i_ltN, i_eqN, i_nleG, i_nltG, inb_n, cl_nI, chk_q, bnd_q, bd1_q, bd2_q, i_bitQ, i_oneQ, i_woQ, i_or, i_and, i_xor, zb_q0, zb_q1, zb_b, b_0Q, if_true, if_false, reduceCtorEq, if_pos, if_neg, f_x_again, nI_lt_self]), fun ν h => m_start h fun Q ν1 _ hI _ => m_same hI hN ?_⟩
    simp (disch := omega) only [l_0, l_1, l_2, l_3, l_4, l_5, l_6, l_7, l_8, l_9, l_10, l_14, l_15, l_16, l_20, l_31, l_40, l_48, l_50, l_57, l_60, l_64, l_76, l_80, l_99, l_100, l_127, l_196, l_200, l_201, l_202, l_255, l_412, l_999, l_1000, l_16000, l_1000000, i_add, i_mul, i_sub, i_leN, i_ltN, i_eqN, i_nleG, i_nltG, inb_n, cl_nI, chk_q, bnd_q, bd1_q, bd2_q, i_bitQ, i_oneQ, i_woQ, i_or, i_and, i_xor, zb_q0, zb_q1, zb_b, b_0Q, if_true, if_false, reduceCtorEq, if_pos, if_neg, m_inN, decide_eq_false h1]
  have h1 := Decidable.not_not.mp h1
  have xk : ∀ μ, XR N a μ → XK1 (aK a s) s μ := fun μ h => by
    have hc : s = 0 ∨ s = 1 := by omega
    rcases hc with rfl | rfl
    · exact h.2.1.2.2.2.2.1
    · exact h.2.1.2.2.2.2.2
  have mk : ∀ Q ν ν1, MI N Q a ν ν1 → ∃ T, T ≤ N ∧ N ≤ 600 ∧ ν1.1 v_m_peopleTold 0 = nI T ∧ MK1 T (aS a).1 (aK a s) s ν1 := fun Q ν ν1 hI => by
    obtain ⟨T, e1, e2, e3, e4⟩ := hI.2.1.2.2.2.2
    have hc : s = 0 ∨ s = 1 := by omega
    rcases hc with rfl | rfl
    · exact ⟨T, e1, hI.2.2.2.1.1, e2, e3⟩
    · exact ⟨T, e1, hI.2.2.2.1.1, e2, e4⟩
  cases ho : aK a s with
  | none =>
    refine ⟨nI 0, a, fun μ h => x_same h hN ?_, fun ν h => m_start h fun Q ν1 _ hI _ => m_same hI hN ?_⟩
    · have e := xk μ h
      rw [ho] at e
      have e : μ.1 v_x_isKept s = nI 0 := e
      simp (disch := omega) only [l_0, l_1, l_2, l_3, l_4, l_5, l_6, l_7, l_8, l_9, l_10, l_14, l_15, l_16, l_20, l_31, l_40, l_48, l_50, l_57, l_60, l_64, l_76, l_80, l_99, l_100, l_127, l_196, l_200, l_201, l_202, l_255, l_412, l_999, l_1000, l_16000, l_1000000, i_add, i_mul, i_sub, i_leN, i_ltN, i_eqN, i_nleG, i_nltG, inb_n, cl_nI, chk_q, bnd_q, bd1_q, bd2_q, i_bitQ, i_oneQ, i_woQ, i_or, i_and, i_xor, zb_q0, zb_q1, zb_b, b_0Q, if_true, if_false, reduceCtorEq, if_pos, if_neg, f_x_again, nI_lt_self, e]
    · obtain ⟨T, _, _, _, e⟩ := mk Q ν ν1 hI
      rw [ho] at e
      have e : ν1.1 v_m_isKept s = nI 0 := e
      simp (disch := omega) only [l_0, l_1, l_2, l_3, l_4, l_5, l_6, l_7, l_8, l_9, l_10, l_14, l_15, l_16, l_20, l_31, l_40, l_48, l_50, l_57, l_60, l_64, l_76, l_80, l_99, l_100, l_127, l_196, l_200, l_201, l_202, l_255, l_412, l_999, l_1000, l_16000, l_1000000, i_add, i_mul, i_sub, i_leN, i_ltN, i_eqN, i_nleG, i_nltG, inb_n, cl_nI, chk_q, bnd_q, bd1_q, bd2_q, i_bitQ, i_oneQ, i_woQ, i_or, i_and, i_xor, zb_q0, zb_q1, zb_b, b_0Q, if_true, if_false, reduceCtorEq, if_pos, if_neg, m_inN, decide_eq_true h1, e]
  | some k =>
    have hko := hW.2.2.2.2.2.2 s k ho
    have hk1 := hko.1
    by_cases hp : k.1 = (aS a).1
    · refine ⟨nI 1, aAg a k, fun μ h => ?_, fun ν h => m_start h fun Q ν1 _ hI _ => ?_⟩
      · have e := xk μ h
        rw [ho] at e
        have e1 : μ.1 v_x_isKept s = nI 1 := e.1
        have e2 := e.2.1
        have e3 := h.2.1.1.1
        rw [hp] at e2
        obtain ⟨μ1, k1, k2⟩ := x_again (s := s) (by omega) ho hp h hN
        refine ⟨_, ?_, k2⟩
        have hc : s = 0 ∨ s = 1 := by omega
        rcases hc with rfl | rfl
        · simp (disch := omega) only [l_0, l_1, l_2, l_3, l_4, l_5, l_6, l_7, l_8, l_9, l_10, l_14, l_15, l_16, l_20, l_31, l_40, l_48, l_50, l_57, l_60, l_64, l_76, l_80, l_99, l_100, l_127, l_196, l_200, l_201, l_202, l_255, l_412, l_999, l_1000, l_16000, l_1000000, i_add, i_mul, i_sub, i_leN, i_ltN, i_eqN, i_nleG, i_nltG, inb_n, cl_nI, chk_q, bnd_q, bd1_q, bd2_q, i_bitQ, i_oneQ, i_woQ, i_or, i_and, i_xor, zb_q0, zb_q1, zb_b, b_0Q, if_true, if_false, reduceCtorEq, if_pos, if_neg, f_x_again, nI_lt_self, e1, e2, e3, k1]
        · simp (disch := omega) only [l_0, l_1, l_2, l_3, l_4, l_5, l_6, l_7, l_8, l_9, l_10, l_14, l_15, l_16, l_20, l_31, l_40, l_48, l_50, l_57, l_60, l_64, l_76, l_80, l_99, l_100, l_127, l_196, l_200, l_201, l_202, l_255, l_412, l_999, l_1000, l_16000, l_1000000, i_add, i_mul, i_sub, i_leN, i_ltN, i_eqN, i_nleG, i_nltG, inb_n, cl_nI, chk_q, bnd_q, bd1_q, bd2_q, i_bitQ, i_oneQ, i_woQ, i_or, i_and, i_xor, zb_q0, zb_q1, zb_b, b_0Q, if_true, if_false, reduceCtorEq, if_pos, if_neg, f_x_again, nI_lt_self, e1, e2, e3, k1]
      · obtain ⟨T, hT, hN6, eT, e⟩ := mk Q ν ν1 hI
        rw [ho] at e
        obtain ⟨g1, ⟨t', g2, g3, g4⟩, g5, g6, g7, g8⟩ := e
        have g1 : ν1.1 v_m_isKept s = nI 1 := g1
        rw [g4.mpr hp] at g3
        obtain ⟨μB, B1, B2, B3, B4⟩ := m_ag1 (x := 412 * s) (by omega) 201 0 FU (setI ν1 v_m_days 0 (nI k.2.1)) (by omega) (by unfold FU; omega)
        obtain ⟨μC, C1, C2, C3, C4⟩ := m_ag2 (x := 412 * s + 202) (by omega) 196 0 FU μB (by omega) (by unfold FU; omega)
        obtain ⟨μD, D1, D2, D3, D4⟩ := m_ag3 (x := 412 * s + 202 + 196) (by omega) 14 0 FU μC (by omega) (by unfold FU; omega)
        have hS : SOk ((aS a).1, k.2.2.2.1, k.2.2.2.2, (aS a).2.2.2) := ⟨h14, hko.2.2.2.1, fun i hi => hko.2.2.2.2.2 i (by rw [hp]; exact hi), hW.1.2.2.2⟩
        have hX1 := hI.days (z := (k.2.1, k.2.2.1)) (μ' := μB) ⟨hko.2.1, fun d hd => by rw [← hp]; exact hko.2.2.1 d hd⟩ (fun v h1 h2 => by rw [B2 v h1, sI_v _ _ _ h2]) (by rw [B3]; rfl) (by rw [B2 _ (by decide), sI_eq]) (fun d hd => by
          have hd' : d ≤ k.2.1 := hd
          have := hko.2.1
          rw [B4, if_pos (by omega), sI_v _ _ _ (by decide)]
          exact g6 d hd')
        have hX2 := hX1.street (S := ((aS a).1, k.2.2.2.1, k.2.2.2.2, (aS a).2.2.2)) (μ' := μD) rfl ⟨hS, by rw [← hp]; exact hko.2.2.2.2.1⟩ (fun v h1 h2 => by rw [D2 v h1, C2 v h2]) (by rw [D3, C3]) ⟨?_, fun i j hi hj => ?_, fun i hi => ?_, ?_, hS⟩
        · refine ⟨μD, ?_, hX2.done hN⟩
          rw [← D1, ← C1, ← B1]
          simp (disch := omega) only [l_0, l_1, l_2, l_3, l_4, l_5, l_6, l_7, l_8, l_9, l_10, l_14, l_15, l_16, l_20, l_31, l_40, l_48, l_50, l_57, l_60, l_64, l_76, l_80, l_99, l_100, l_127, l_196, l_200, l_201, l_202, l_255, l_412, l_999, l_1000, l_16000, l_1000000, i_add, i_mul, i_sub, i_leN, i_ltN, i_eqN, i_nleG, i_nltG, inb_n, cl_nI, chk_q, bnd_q, bd1_q, bd2_q, i_bitQ, i_oneQ, i_woQ, i_or, i_and, i_xor, zb_q0, zb_q1, zb_b, b_0Q, if_true, if_false, reduceCtorEq, if_pos, if_neg, m_inN, decide_eq_true h1, g1, g3, eT, g5]
        · rw [D2 _ (by decide), C2 _ (by decide), B2 _ (by decide), sI_v _ _ _ (by decide)]; exact hI.2.1.1.1
        · rw [D2 _ (by decide), C4, if_pos (by omega), B2 _ (by decide), sI_v _ _ _ (by decide)]; exact g7 i j hi hj
        · have hi' : i < (aS a).1 := hi
          rw [D4, if_pos (by omega), C2 _ (by decide), B2 _ (by decide), sI_v _ _ _ (by decide), show 412 * s + 202 + 196 + i = 412 * s + 398 + i by omega]; exact g8 i (by omega)
        · rw [D2 _ (by decide), C2 _ (by decide), B2 _ (by decide), sI_v _ _ _ (by decide)]; exact hI.2.1.1.2.2.2.1
    · refine ⟨nI 0, a, fun μ h => x_same h hN ?_, fun ν h => m_start h fun Q ν1 _ hI _ => m_same hI hN ?_⟩
      · have e := xk μ h
        rw [ho] at e
        have e1 : μ.1 v_x_isKept s = nI 1 := e.1
        have e2 := e.2.1
        have e3 := h.2.1.1.1
        have hc : s = 0 ∨ s = 1 := by omega
        rcases hc with rfl | rfl
        · simp (disch := omega) only [l_0, l_1, l_2, l_3, l_4, l_5, l_6, l_7, l_8, l_9, l_10, l_14, l_15, l_16, l_20, l_31, l_40, l_48, l_50, l_57, l_60, l_64, l_76, l_80, l_99, l_100, l_127, l_196, l_200, l_201, l_202, l_255, l_412, l_999, l_1000, l_16000, l_1000000, i_add, i_mul, i_sub, i_leN, i_ltN, i_eqN, i_nleG, i_nltG, inb_n, cl_nI, chk_q, bnd_q, bd1_q, bd2_q, i_bitQ, i_oneQ, i_woQ, i_or, i_and, i_xor, zb_q0, zb_q1, zb_b, b_0Q, if_true, if_false, reduceCtorEq, if_pos, if_neg, f_x_again, nI_lt_self, e1, e2, e3]
        · simp (disch := omega) only [l_0, l_1, l_2, l_3, l_4, l_5, l_6, l_7, l_8, l_9, l_10, l_14, l_15, l_16, l_20, l_31, l_40, l_48, l_50, l_57, l_60, l_64, l_76, l_80, l_99, l_100, l_127, l_196, l_200, l_201, l_202, l_255, l_412, l_999, l_1000, l_16000, l_1000000, i_add, i_mul, i_sub, i_leN, i_ltN, i_eqN, i_nleG, i_nltG, inb_n, cl_nI, chk_q, bnd_q, bd1_q, bd2_q, i_bitQ, i_oneQ, i_woQ, i_or, i_and, i_xor, zb_q0, zb_q1, zb_b, b_0Q, if_true, if_false, reduceCtorEq, if_pos, if_neg, f_x_again, nI_lt_self, e1, e2, e3]
      · obtain ⟨T, hT, hN6, eT, e⟩ := mk Q ν ν1 hI
        rw [ho] at e
        obtain ⟨g1, ⟨t', g2, g3, g4⟩, _⟩ := e
        have g1 : ν1.1 v_m_isKept s = nI 1 := g1
        have ht : ¬ t' = T := fun q => hp (g4.mp q)
        simp (disch := omega) only [l_0, l_1, l_2, l_3, l_4, l_5, l_6, l_7, l_8, l_9, l_10, l_14, l_15, l_16, l_20, l_31, l_40, l_48, l_50, l_57, l_60, l_64, l_76, l_80, l_99, l_100, l_127, l_196, l_200, l_201, l_202, l_255, l_412, l_999, l_1000, l_16000, l_1000000, i_add, i_mul, i_sub, i_leN, i_ltN, i_eqN, i_nleG, i_nltG, inb_n, cl_nI, chk_q, bnd_q, bd1_q, bd2_q, i_bitQ, i_oneQ, i_woQ, i_or, i_and, i_xor, zb_q0, zb_q1, zb_b, b_0Q, if_true, if_false, reduceCtorEq, if_pos, if_neg, m_inN, decide_eq_true h1, g1, g3, eT]
end OPS
