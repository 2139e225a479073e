/-! count. -/
theorem le0_if {α : Type} {n : Nat} (hn : n < 2 ^ 31) (x y : α) : (if nI n ≤ (0 : Int32) then x else y) = if n = 0 then x else y := by
  by_cases c : n = 0
  · rw [if_pos c, if_pos (show nI n ≤ 0 by rw [c]; decide)]
  · rw [if_neg c, if_neg (show ¬ nI n ≤ 0 from fun q => c (by have := (i_leN (b := 0) hn (by omega)).mp q; omega))]
theorem now_16 {a : Ab} (hW : WF a) : aN a < 16384 := Nat.lt_of_lt_of_le (now_lt hW) (Nat.pow_le_pow_right (by omega) hW.1.1)
def prA (S : SP) (i : Nat) : Nat → Nat := sm (fun j => bN (decide (0 < S.2.1 i j + S.2.1 j i)))
def prT (S : SP) : Nat → Nat := sm (fun i => prA S i i)
theorem cds_len {u : List Nat} (h : VU u) : (cds u).length ≤ 40 ∧ ((cds u).length = 0 ↔ u = []) := by
  unfold cds
  rcases h with h | ⟨h1, h2, h3, h4⟩
  · rw [if_pos h]; exact ⟨by simp, fun _ => h, fun _ => rfl⟩
  · obtain ⟨_, b2, b3⟩ := prU_gd lv0 u u.length
    obtain ⟨b4, b5, b6, _, _⟩ := b3 h3
    have hne : u ≠ [] := fun q => by rw [q] at h4 b4; rw [h4] at b4; exact absurd b4 (by simp)
    rw [if_neg hne]
    exact ⟨by omega, fun q => by omega, fun q => absurd q hne⟩
theorem XU.ix {U : Nat → List Nat} {μ : Mem} (h : XU U μ) {s : Nat} (hs : s < 2) : ∃ i, i < 3 ∧ μ.1 v_x_rules s = nI i ∧ RUo i (U s) μ ∧ VU (U s) := by
  obtain ⟨hv, i0, i1, i2, hi, r0, r1, r2, u0, u1⟩ := h
  have : s = 0 ∨ s = 1 := by omega
  rcases this with q | q
  · subst q; exact ⟨i0, hi.1, r0, u0, hv.1⟩
  · subst q; exact ⟨i1, hi.2.1, r1, u1, hv.2⟩
theorem x_isTold {i : Nat} {u : List Nat} {μ : Mem} (h : RUo i u μ) (hV : VU u) : f_ru_isTold i μ = some (nI (bN (decide (u ≠ []))), μ) := by
  have hc := cds_len hV
  unfold f_ru_isTold
  rw [h.1]
  by_cases c : u = []
  · rw [if_pos (show nI (cds u).length ≤ 0 by rw [hc.2.mpr c]; decide), bnd_s, zb_0, chk_t, decide_eq_false (fun q => q c)]
    rfl
  · rw [if_neg (show ¬ nI (cds u).length ≤ 0 from fun q => c (hc.2.mp (by have := (i_leN (b := 0) (by omega) (by omega)).mp q; omega))), bnd_s, zb_1, chk_t, decide_eq_true c]
    rfl
section OPS
variable {N : Nat} {a : Ab} {b : Nat × Nat} {μ0 μ : Mem} {Q : Nat} {S : SP} {U : Nat → List Nat}
theorem st_pairs_in (h : XB S μ) {i c : Nat} (hi : i < S.1) (K : Int32 → Int32 → Mem → Option (Int32 × Mem)) : ∀ m j n, j + m = i → m < n → f_st_pairs_b14 K n (nI (c + prA S i j)) (nI i) (nI j) μ = K (nI (c + prA S i i)) (nI (i + 1)) μ
  | 0, j, n + 1, hj, _ => by
    have e : j = i := by omega
    have hp := h.2.2.2.2.1
    subst e
    rw [f_st_pairs_b14, if_pos ((i_leN (by omega) (by omega)).mpr (Nat.le_refl _)), l_1, i_add]
  | m + 1, j, n + 1, hj, hn => by
    have hp := h.2.2.2.2.1
    rw [f_st_pairs_b14, if_neg (fun q => absurd ((i_leN (by omega) (by omega)).mp q) (by omega)), st_isPair h hi (show j < S.1 by omega), bd2_s]
    have e : (if nI (bN (decide (0 < S.2.1 i j + S.2.1 j i))) = 0 then (0 : Int32) else 1) = nI (bN (decide (0 < S.2.1 i j + S.2.1 j i))) := by
      cases decide (0 < S.2.1 i j + S.2.1 j i) <;> rfl
    rw [e, bnd_s, i_add, l_1, i_add, show c + prA S i j + bN (decide (0 < S.2.1 i j + S.2.1 j i)) = c + prA S i (j + 1) from (Nat.add_assoc _ _ _)]
    exact st_pairs_in h hi K m (j + 1) n (by omega) (by omega)
theorem st_pairs_lp (h : XB S μ) : ∀ m i n, i + m = S.1 → m < n → f_st_pairs_b4 n (nI (prT S i)) (nI i) μ = some (nI (prT S S.1), μ)
  | 0, i, n + 1, hj, _ => by
    have hp := h.2.2.2.2.1
    have e : i = S.1 := by omega
    subst e
    rw [f_st_pairs_b4, h.1, if_pos ((i_leN (by omega) (by omega)).mpr (Nat.le_refl _))]
  | m + 1, i, n + 1, hj, hn => by
    have hp := h.2.2.2.2.1
    rw [f_st_pairs_b4, h.1, if_neg (fun q => absurd ((i_leN (by omega) (by omega)).mp q) (by omega))]
    have := st_pairs_in h (c := prT S i) (show i < S.1 by omega) (f_st_pairs_b4 n) i 0 FU (by omega) (by unfold FU; omega)
    refine Eq.trans this ?_
    exact st_pairs_lp h m (i + 1) n (by omega) (by omega)
theorem st_pairs (h : XB S μ) : f_st_pairs μ = some (nI (prT S S.1), μ) := st_pairs_lp h S.1 0 FU (by omega) (by have := h.2.2.2.2.1; unfold FU; omega)
theorem m_pairs_in (h : MB S μ) {i c : Nat} (hi : i < S.1) (K : Int32 → Int32 → Mem → Option (Int32 × Mem)) : ∀ m j n, j + m = i → m < n → f_m_count_b132 K n (nI (c + prA S i j)) (nI i) (nI j) μ = K (nI (c + prA S i i)) (nI (i + 1)) μ
  | 0, j, n + 1, hj, _ => by
    have e : j = i := by omega
    have hp := h.2.2.2.2.1
    subst e
    rw [f_m_count_b132, if_pos ((i_leN (by omega) (by omega)).mpr (Nat.le_refl _)), l_1, i_add]
  | m + 1, j, n + 1, hj, hn => by
    have hp := h.2.2.2.2.1
    have h1 := h.2.2.2.2.2.1 i j
    have h2 := h.2.2.2.2.2.1 j i
    rw [f_m_count_b132, if_neg (fun q => absurd ((i_leN (by omega) (by omega)).mp q) (by omega)), show (14 : Int32) = nI 14 from rfl, i_mul, i_add, i_mul, i_add, inb_n (by omega) (by omega), chk_t, inb_n (by omega) (by omega), chk_t, cl_nI (by omega), cl_nI (by omega), h.2.1 i j (by omega) (by omega), h.2.1 j i (by omega) (by omega), i_add]
    have e : (if nI (S.2.1 i j + S.2.1 j i) ≤ 0 then (0 : Int32) else 1) = nI (bN (decide (0 < S.2.1 i j + S.2.1 j i))) := by
      rw [le0_if (by omega)]
      by_cases q : 0 < S.2.1 i j + S.2.1 j i
      · rw [decide_eq_true q, if_neg (by omega)]; rfl
      · rw [decide_eq_false q, if_pos (by omega)]; rfl
    rw [e, bnd_s, i_add, l_1, i_add, show c + prA S i j + bN (decide (0 < S.2.1 i j + S.2.1 j i)) = c + prA S i (j + 1) from (Nat.add_assoc _ _ _)]
    exact m_pairs_in h hi K m (j + 1) n (by omega) (by omega)
theorem m_pairs_lp (h : MB S μ) : ∀ m i n, i + m = S.1 → m < n → f_m_count_b121 n (nI (prT S i)) (nI i) μ = some (nI (prT S S.1), μ)
  | 0, i, n + 1, hj, _ => by
    have hp := h.2.2.2.2.1
    have e : i = S.1 := by omega
    subst e
    rw [f_m_count_b121, h.1, if_pos ((i_leN (by omega) (by omega)).mpr (Nat.le_refl _))]
  | m + 1, i, n + 1, hj, hn => by
    have hp := h.2.2.2.2.1
    rw [f_m_count_b121, h.1, if_neg (fun q => absurd ((i_leN (by omega) (by omega)).mp q) (by omega))]
    have := m_pairs_in h (c := prT S i) (show i < S.1 by omega) (f_m_count_b121 n) i 0 FU (by omega) (by unfold FU; omega)
    refine Eq.trans this ?_
    exact m_pairs_lp h m (i + 1) n (by omega) (by omega)
theorem m_pairs (h : MB S μ) : f_m_count_b121 FU 0 0 μ = some (nI (prT S S.1), μ) := m_pairs_lp h S.1 0 FU (by omega) (by have := h.2.2.2.2.1; unfold FU; omega)
theorem rsz {u : List Nat} {c : Int32} (h : VU u) : (if nI u.length ≤ 0 then (0 : Int32) else c) = if u = [] then 0 else c := by
  have hl : u.length ≤ 40 := by
    rcases h with h | h
    · rw [h]; simp
    · exact h.1
  rw [le0_if (by omega)]
  by_cases q : u = []
  · rw [if_pos q, if_pos (by rw [q]; rfl)]
  · have := List.length_pos_iff.mpr q
    rw [if_neg q, if_neg (by omega)]
def cnA (a : Ab) (U : Nat → List Nat) (x : Int32) : Int32 :=
  if x = 0 then nI (aS a).1 else if x = 1 then nI (aD a) else if x = 2 then nI (pcN (aN a)) else if x = 3 then nI (aS a).2.2.2 else if x = 4 then (if U 0 = [] then 0 else 1) + (if U 1 = [] then 0 else 2) else if x = 5 then nI (aR a).length else if x = 6 then nI (aT a).length else if x = 7 then nI (prT (aS a) (aS a).1) else -1
theorem x_count {x : Int32} (h : XR N a μ) (hU : XU U μ) : f_x_count x μ = some (cnA a U x, μ) := by
  have hB := h.2.1.1
  have hD := h.2.1.2.1
  unfold f_x_count cnA
  by_cases c0 : x = 0
  · rw [if_pos c0, if_pos c0, hB.1]
  rw [if_neg c0, if_neg c0]
  by_cases c1 : x = 1
  · rw [if_pos c1, if_pos c1, hD.2.1]
  rw [if_neg c1, if_neg c1]
  by_cases c2 : x = 2
  · have hn : aN a < 16384 := now_16 h.1
    rw [if_pos c2, if_pos c2, st_now h.1 h.2.1, bd2_s, jd_bc hn, bd2_s]
  rw [if_neg c2, if_neg c2]
  by_cases c3 : x = 3
  · rw [if_pos c3, if_pos c3, hB.2.2.2.1]
  rw [if_neg c3, if_neg c3]
  by_cases c4 : x = 4
  · obtain ⟨i0, g1, g2, g3, g4⟩ := hU.ix (s := 0) (by omega)
    obtain ⟨i1, k1, k2, k3, k4⟩ := hU.ix (s := 1) (by omega)
    have e0 : inb 0 2 = true := by decide
    have e1 : inb 1 2 = true := by decide
    have t0 : (0 : Int32).toNatClampNeg = 0 := rfl
    have t1 : (1 : Int32).toNatClampNeg = 1 := rfl
    rw [if_pos c4, if_pos c4, e0, chk_t, t0, g2, cl_nI (show i0 < 2 ^ 31 by omega), decide_eq_true g1, chk_t, x_isTold g3 g4, bd2_s, bnd_s, e1, chk_t, t1, k2, cl_nI (show i1 < 2 ^ 31 by omega), decide_eq_true k1, chk_t, x_isTold k3 k4, bd2_s, bnd_s]
    by_cases z0 : U 0 = []
    · rw [decide_eq_false (fun q => q z0), if_pos z0]
      by_cases z1 : U 1 = []
      · rw [decide_eq_false (fun q => q z1), if_pos z1]; rfl
      · rw [decide_eq_true z1, if_neg z1]; rfl
    · rw [decide_eq_true z0, if_neg z0]
      by_cases z1 : U 1 = []
      · rw [decide_eq_false (fun q => q z1), if_pos z1]; rfl
      · rw [decide_eq_true z1, if_neg z1]; rfl
  rw [if_neg c4, if_neg c4]
  by_cases c5 : x = 5
  · rw [if_pos c5, if_pos c5, h.2.1.2.2.2.1.1]
  rw [if_neg c5, if_neg c5]
  by_cases c6 : x = 6
  · rw [if_pos c6, if_pos c6, h.2.1.2.2.1.1]
  rw [if_neg c6, if_neg c6]
  by_cases c7 : x = 7
  · rw [if_pos c7, if_pos c7, st_pairs hB, bd2_s]
  rw [if_neg c7, if_neg c7]
theorem m_count {x : Int32} (h : MI N Q a μ0 μ) (hU : MU U μ) : (if x = 0 then (some (μ.1 v_m_people 0, μ)) else (if x = 1 then (some (μ.1 v_m_days 0, μ)) else (if x = 2 then (bd2 (f_m_now μ) fun v8 μ6 => bd2 (f_jd_bitCount v8 μ6) fun v11 μ9 => some (v11, μ9)) else (if x = 3 then (some (μ.1 v_m_firm 0, μ)) else (if x = 4 then (chk (inb (0 : Int32) 2) (bnd (if (μ.1 v_m_ruleSize (0 : Int32).toNatClampNeg) ≤ 0 then (0 : Int32) else (1 : Int32)) fun v15 => chk (inb (1 : Int32) 2) (bnd (if (μ.1 v_m_ruleSize (1 : Int32).toNatClampNeg) ≤ 0 then (0 : Int32) else (2 : Int32)) fun v19 => some (v15 + v19, μ)))) else (if x = 5 then (some (μ.1 v_m_rowMany 0, μ)) else (if x = 6 then (some (μ.1 v_m_typed 0, μ)) else (if x = 7 then (f_m_count_b121 FU (0 : Int32) (0 : Int32) μ) else (some ((-1 : Int32), μ)))))))))) = some (cnA a U x, μ) := by
  have hB := h.2.1.1
  have hD := h.2.1.2.1
  unfold cnA
  by_cases c0 : x = 0
  · rw [if_pos c0, if_pos c0, hB.1]
  rw [if_neg c0, if_neg c0]
  by_cases c1 : x = 1
  · rw [if_pos c1, if_pos c1, hD.2.1]
  rw [if_neg c1, if_neg c1]
  by_cases c2 : x = 2
  · have hn : aN a < 16384 := now_16 h.1
    rw [if_pos c2, if_pos c2, m_now h.1 hD, bd2_s, jd_bc hn, bd2_s]
  rw [if_neg c2, if_neg c2]
  by_cases c3 : x = 3
  · rw [if_pos c3, if_pos c3, hB.2.2.2.1]
  rw [if_neg c3, if_neg c3]
  by_cases c4 : x = 4
  · have e0 : inb 0 2 = true := by decide
    have e1 : inb 1 2 = true := by decide
    have t0 : (0 : Int32).toNatClampNeg = 0 := rfl
    have t1 : (1 : Int32).toNatClampNeg = 1 := rfl
    rw [if_pos c4, if_pos c4, e0, chk_t, t0, hU.2.1, bnd_s, e1, chk_t, t1, hU.2.2.1, bnd_s, rsz hU.1.1, rsz hU.1.2]
  rw [if_neg c4, if_neg c4]
  by_cases c5 : x = 5
  · rw [if_pos c5, if_pos c5, h.2.1.2.2.2.1.1]
  rw [if_neg c5, if_neg c5]
  by_cases c6 : x = 6
  · rw [if_pos c6, if_pos c6, h.2.1.2.2.1.1]
  rw [if_neg c6, if_neg c6]
  by_cases c7 : x = 7
  · rw [if_pos c7, if_pos c7, m_pairs hB]
  rw [if_neg c7, if_neg c7]
theorem op_count {x : Int32} : OpU N a U (f_x_count x) (f_m_count x) := fun hW hN => ⟨cnA a U x, a, U, fun μ h hU => ⟨μ, x_count h hU, (h.XI.done hN).r hU⟩, fun ν h hU => by
  obtain ⟨Q, hQ, hI⟩ := h.MI
  have hI1 := hI.thrown 0
  have hU1 : MU U (setI ν v_m_thrown 0 0) := hU.of (fun v hv => sI_v _ _ _ (show v ≠ 143 by omega))
  refine ⟨setI ν v_m_thrown 0 0, ?_, (hI1.done hN).r hU⟩
  unfold f_m_count
  rw [bnd_s]
  exact m_count hI1 hU1⟩
end OPS
