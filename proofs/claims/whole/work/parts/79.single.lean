/-! single. -/
def sgI (a : Ab) (n i : Nat) : Nat → Nat → Nat × Nat → Nat × Nat
  | 0, _, z => z
  | m + 1, j, z => sgI a n i m (j + 1) (if soB a (trS (aS a) i j) n then (z.1 + 1, z.2 + trV (aS a).2.1 i j) else z)
def sgO (a : Ab) (n : Nat) : Nat → Nat → Nat × Nat → Nat × Nat
  | 0, _, z => z
  | m + 1, i, z => sgO a n m (i + 1) (sgI a n i ((aS a).1 - (i + 1)) (i + 1) z)
section OPS
variable {N : Nat} {a : Ab} {b : Nat × Nat} {μ0 μ : Mem} {Q : Nat} {S S1 : SP}
theorem Tr.rf (hW : WF a) : Tr (aS a) (aS a) := ⟨rfl, rfl, hW.1⟩
theorem x_sg_in (k14 : Int32 → Int32 → Int32 → Int32 → Mem → Option (Int32 × Mem)) {n i : Nat} (hn : n < 19000) (hi : i < (aS a).1) : ∀ m j g z (μ : Mem), j + m = (aS a).1 → i < j → m < g → XI N b a μ0 μ → HT (aS a) 1 μ → ∃ μ', f_ac_pairsAlone_b32 k14 g (nI n) (nI z.1) (nI z.2) (nI i) (nI j) μ = k14 (nI n) (nI (sgI a n i m j z).1) (nI (sgI a n i m j z).2) (nI (i + 1)) μ' ∧ XI N b a μ0 μ' ∧ HT (aS a) 1 μ' := by
  intro m
  induction m with
  | zero =>
    intro j g z μ hj hij hg h hT
    obtain ⟨g, rfl⟩ : ∃ z, g = z + 1 := ⟨g - 1, by omega⟩
    have hp := h.1.1.1
    refine ⟨μ, ?_, h, hT⟩
    rw [f_ac_pairsAlone_b32, h.2.1.1.1, if_pos ((i_leN (by omega) (by omega)).mpr (by omega)), show nI i + 1 = nI (i + 1) from i_add i 1]
    rfl
  | succ m ih =>
    intro j g z μ hj hij hg h hT
    obtain ⟨g, rfl⟩ : ∃ z, g = z + 1 := ⟨g - 1, by omega⟩
    have hp := h.1.1.1
    obtain ⟨μ1, a1, a2, a3⟩ := x_does h (Tr.rf h.1) hT hn (show i ≠ j by omega) hi (show j < (aS a).1 by omega) rfl rfl
    rw [f_ac_pairsAlone_b32, h.2.1.1.1, if_neg (fun q => absurd ((i_leN (by omega) (by omega)).mp q) (by omega)), i_mul, i_add, a1, bd2_s, sgI]
    cases c : soB a (trS (aS a) i j) n with
    | false =>
      rw [if_pos (by decide), if_neg (by decide), show nI j + 1 = nI (j + 1) from i_add j 1]
      exact ih (j + 1) g z μ1 (by omega) (by omega) (by omega) a2 a3
    | true =>
      have hv : (if nI (bN (decide (0 < (aS a).2.1 i j + (aS a).2.1 j i))) = 0 then (1 : Int32) else 0) = nI (trV (aS a).2.1 i j) := by
        unfold trV
        by_cases c : (aS a).2.1 i j + (aS a).2.1 j i = 0
        · rw [decide_eq_false (by omega), if_pos (by decide), if_pos c]; rfl
        · rw [decide_eq_true (by omega), if_neg (by decide), if_neg c]; rfl
      rw [if_neg (by decide), if_pos rfl, st_isPair a2.2.1.1 hi (by omega), bd2_s, hv, bnd_s, i_add, show nI j + 1 = nI (j + 1) from i_add j 1, show nI z.1 + 1 = nI (z.1 + 1) from i_add z.1 1]
      exact ih (j + 1) g (z.1 + 1, z.2 + trV (aS a).2.1 i j) μ1 (by omega) (by omega) (by omega) a2 a3
theorem x_sg_out (hN : N < 600) {n : Nat} (hn : n < 19000) : ∀ m i g z (μ : Mem), i + m = (aS a).1 → m < g → XI N b a μ0 μ → HT (aS a) 1 μ → ∃ μ', f_ac_pairsAlone_b14 g (nI n) (nI z.1) (nI z.2) (nI i) μ = some (nI (sgO a n m i z).1, μ') ∧ XO N (aSetR a [(nI (sgO a n m i z).2).toInt64]) μ0 μ' := by
  intro m
  induction m with
  | zero =>
    intro i g z μ hi hg h hT
    obtain ⟨g, rfl⟩ : ∃ z, g = z + 1 := ⟨g - 1, by omega⟩
    have hp := h.1.1.1
    obtain ⟨μ1, a1, a2, a3⟩ := rw_only (nI z.2).toInt64 μ
    refine ⟨μ1, ?_, h.told hN (by simp) a2 a3⟩
    rw [f_ac_pairsAlone_b14, h.2.1.1.1, if_pos ((i_leN (by omega) (by omega)).mpr (by omega)), a1, bd1_s]
    rfl
  | succ m ih =>
    intro i g z μ hi hg h hT
    obtain ⟨g, rfl⟩ : ∃ z, g = z + 1 := ⟨g - 1, by omega⟩
    have hp := h.1.1.1
    obtain ⟨μ1, a1, a2, a3⟩ := x_sg_in (f_ac_pairsAlone_b14 g) hn (show i < (aS a).1 by omega) ((aS a).1 - (i + 1)) (i + 1) FU z μ (by omega) (by omega) (by unfold FU; omega) h hT
    rw [f_ac_pairsAlone_b14, h.2.1.1.1, if_neg (fun q => absurd ((i_leN (by omega) (by omega)).mp q) (by omega)), show nI i + 1 = nI (i + 1) from i_add i 1, a1]
    exact ih (i + 1) g _ μ1 (by omega) (by omega) a2 a3
theorem m_sg_in (k23 : Int32 → Int32 → Int32 → Int32 → Mem → Option (Int32 × Mem)) {n i : Nat} (hn : n < 19000) (hi : i < (aS a).1) : ∀ m j g z (μ : Mem), j + m = (aS a).1 → i < j → m < g → MI N Q a μ0 μ → ∃ μ', f_m_single_b38 k23 g (nI n) (nI z.1) (nI z.2) (nI i) (nI j) μ = k23 (nI n) (nI (sgI a n i m j z).1) (nI (sgI a n i m j z).2) (nI (i + 1)) μ' ∧ MI N Q a μ0 μ' := by
  intro m
  induction m with
  | zero =>
    intro j g z μ hj hij hg h
    obtain ⟨g, rfl⟩ : ∃ z, g = z + 1 := ⟨g - 1, by omega⟩
    have hp := h.1.1.1
    refine ⟨μ, ?_, h⟩
    rw [f_m_single_b38, h.2.1.1.1, if_pos ((i_leN (by omega) (by omega)).mpr (by omega)), show nI i + 1 = nI (i + 1) from i_add i 1]
    rfl
  | succ m ih =>
    intro j g z μ hj hij hg h
    obtain ⟨g, rfl⟩ : ∃ z, g = z + 1 := ⟨g - 1, by omega⟩
    have hp := h.1.1.1
    have h9a := h.1.1.2.1 i j
    have h9b := h.1.1.2.1 j i
    obtain ⟨μ1, a1, a2, _⟩ := m_isSoBy (kp := 0) h hn (show i ≠ j by omega) hi (show j < (aS a).1 by omega) (by omega)
    rw [f_m_single_b38, h.2.1.1.1, if_neg (fun q => absurd ((i_leN (by omega) (by omega)).mp q) (by omega)), show f_m_isSoBy (nI i) (nI j) (nI n) 0 μ = _ from a1, bd2_s, sgI]
    cases c : soB a (trS (aS a) i j) n with
    | false =>
      rw [if_pos (by decide), if_neg (by decide), show nI j + 1 = nI (j + 1) from i_add j 1]
      exact ih (j + 1) g z μ1 (by omega) (by omega) (by omega) a2
    | true =>
      have hv : (if nI ((aS a).2.1 i j + (aS a).2.1 j i) = 0 then (1 : Int32) else 0) = nI (trV (aS a).2.1 i j) := by
        unfold trV
        by_cases c : (aS a).2.1 i j + (aS a).2.1 j i = 0
        · rw [if_pos (by rw [c]; rfl), if_pos c]; rfl
        · rw [if_neg (nI_nz (by omega) c), if_neg c]; rfl
      rw [if_neg (by decide), if_pos rfl, l_14, i_mul, i_add, inb_n (show 14 * i + j < 196 by omega) (by omega), chk_t, i_mul, i_add, inb_n (show 14 * j + i < 196 by omega) (by omega), chk_t, cl_nI (show 14 * i + j < 2 ^ 31 by omega), cl_nI (show 14 * j + i < 2 ^ 31 by omega), a2.2.1.1.2.1 i j (by omega) (by omega), a2.2.1.1.2.1 j i (by omega) (by omega), i_add, hv, bnd_s, i_add, show nI j + 1 = nI (j + 1) from i_add j 1, show nI z.1 + 1 = nI (z.1 + 1) from i_add z.1 1]
      exact ih (j + 1) g (z.1 + 1, z.2 + trV (aS a).2.1 i j) μ1 (by omega) (by omega) (by omega) a2
theorem m_sg_out (hN : N < 600) {n : Nat} (hn : n < 19000) : ∀ m i g z (μ : Mem), i + m = (aS a).1 → m < g → MI N Q a μ0 μ → ∃ μ', f_m_single_b23 g (nI n) (nI z.1) (nI z.2) (nI i) μ = some (nI (sgO a n m i z).1, μ') ∧ MO N (aSetR a [(nI (sgO a n m i z).2).toInt64]) μ0 μ' := by
  intro m
  induction m with
  | zero =>
    intro i g z μ hi hg h
    obtain ⟨g, rfl⟩ : ∃ z, g = z + 1 := ⟨g - 1, by omega⟩
    have hp := h.1.1.1
    obtain ⟨e1, e2⟩ := m_clear μ
    obtain ⟨μ1, a1, a2, a3⟩ := m_tell (nI z.2).toInt64 e1 (by simp)
    refine ⟨μ1, ?_, h.told hN (by simp) a2 (e2.tr a3)⟩
    rw [f_m_single_b23, h.2.1.1.1, if_pos ((i_leN (by omega) (by omega)).mpr (by omega)), bnd_s, a1, bd1_s]
    rfl
  | succ m ih =>
    intro i g z μ hi hg h
    obtain ⟨g, rfl⟩ : ∃ z, g = z + 1 := ⟨g - 1, by omega⟩
    have hp := h.1.1.1
    obtain ⟨μ1, a1, a2⟩ := m_sg_in (f_m_single_b23 g) hn (show i < (aS a).1 by omega) ((aS a).1 - (i + 1)) (i + 1) FU z μ (by omega) (by omega) (by unfold FU; omega) h
    rw [f_m_single_b23, h.2.1.1.1, if_neg (fun q => absurd ((i_leN (by omega) (by omega)).mp q) (by omega)), show nI i + 1 = nI (i + 1) from i_add i 1, a1]
    exact ih (i + 1) g _ μ1 (by omega) (by omega) a2
theorem op_single (x : Int32) : OpI N a (f_x_single x) (f_m_single x) := by
  intro hW hN
  have hp := hW.1.1
  by_cases c : 0 ≤ x ∧ x ≤ 20
  · obtain ⟨n, hn, rfl⟩ := talk_n c
    refine ⟨nI (sgO a n (aS a).1 0 (0, 0)).1, aSetR a [(nI (sgO a n (aS a).1 0 (0, 0)).2).toInt64], fun μ h => ?_, fun ν h => m_start h fun Q ν1 hQ hI _ => ?_⟩
    · obtain ⟨μ1, l1, l2, l3, l4⟩ := he_learn (t := 1) h.2.1.1
      obtain ⟨μ', k1, k2⟩ := x_sg_out hN (n := n) (by omega) (aS a).1 0 FU (0, 0) μ1 (by omega) (by unfold FU; omega) (h.XI.trial l4) l2
      refine ⟨μ', ?_, k2⟩
      unfold f_x_single f_ac_pairsAlone
      rw [x_talkDay, bd2_s, decide_eq_true c, if_neg (by decide), l1, bd1_s, show f_ac_pairsAlone_b14 FU (nI n) 0 0 0 μ1 = _ from k1, bd2_s]
    · rw [m_talkDay, bd2_s, decide_eq_true c, if_neg (by decide)]
      exact m_sg_out hN (by omega) (aS a).1 0 FU (0, 0) ν1 (by omega) (by unfold FU; omega) hI
  · refine ⟨-1, a, fun μ h => x_same h hN ?_, fun ν h => m_start h fun Q ν1 hQ hI _ => m_same hI hN ?_⟩
    · unfold f_x_single
      rw [x_talkDay, bd2_s, decide_eq_false c, if_pos (by decide)]
    · rw [m_talkDay, bd2_s, decide_eq_false c, if_pos (by decide)]
end OPS
