/-! sheet. -/
def shR (kind v : Int32) : Int32 := if kind = 0 then v.toInt8.toInt32 else if kind = 1 then v.toInt16.toInt32 else v
def shN (kind n f step : Int32) (i : Nat) : Nat := if kind = 3 ∨ ¬ nI i < n then 50 else (imax (0 : Int32) (imin (99 : Int32) (shR kind (f + nI i * step)))).toNatClampNeg
theorem clampN (v : Int32) : (imax (0 : Int32) (imin (99 : Int32) v)).toNatClampNeg ≤ 99 ∧ imax (0 : Int32) (imin (99 : Int32) v) = nI (imax (0 : Int32) (imin (99 : Int32) v)).toNatClampNeg := by
  obtain ⟨n, hn, e⟩ := clamp v
  rw [e, cl_nI (by omega)]
  exact ⟨hn, rfl⟩
theorem shN_v {kind n f step : Int32} {i : Nat} (hk : ¬ kind = 3) (hn : nI i < n) : imax (0 : Int32) (imin (99 : Int32) (shR kind (f + nI i * step))) = nI (shN kind n f step i) := by
  have e : shN kind n f step i = (imax (0 : Int32) (imin (99 : Int32) (shR kind (f + nI i * step)))).toNatClampNeg := if_neg (fun q => q.elim hk (fun r => r hn))
  rw [e]
  exact (clampN _).2
theorem shN_le (kind n f step : Int32) (i : Nat) : shN kind n f step i ≤ 99 := by
  unfold shN
  split
  · omega
  · exact (clampN _).1
/-- the needs behind i entries -/
def shF (kind n f step : Int32) (nd : Nat → Nat) (i : Nat) : Nat → Nat := fun k => if k < i then shN kind n f step k else nd k
theorem shF_s (kind n f step : Int32) (nd : Nat → Nat) (i : Nat) : fnu (shF kind n f step nd i) i (shN kind n f step i) = shF kind n f step nd (i + 1) := by
  funext k
  unfold fnu shF
  by_cases e : k = i
  · subst e; rw [if_pos rfl, if_pos (by omega)]
  · rw [if_neg e]
    by_cases q : k < i
    · rw [if_pos q, if_pos (by omega)]
    · rw [if_neg q, if_neg (by omega)]
theorem shF_0 (kind n f step : Int32) (nd : Nat → Nat) : shF kind n f step nd 0 = nd := by
  funext k
  unfold shF
  rw [if_neg (by omega)]
section OPS
variable {N : Nat} {a : Ab} {b : Nat × Nat} {μ0 μ : Mem} {Q : Nat} {S : SP} {kind n f step : Int32}
abbrev aSh (kind n f step : Int32) (a : Ab) (i : Nat) : Ab := aSetS a ((aS a).1, (aS a).2.1, shF kind n f step (aS a).2.2.1 i, (aS a).2.2.2)
theorem shSum (kind n f step : Int32) (i : Nat) : sm (shN kind n f step) i ≤ i * 99 := sm_le i (fun k _ => shN_le _ _ _ _ _)
theorem x_sheet_lp : ∀ m i g μ v1, i + m = (aS a).1 → m < g → v1 ≤ i → XI N (4 * N, v1) (aSh kind n f step a i) μ0 μ → ∃ μ', f_x_sheet_b47 g kind f step (if kind = 3 then 0 else n) (nI (sm (shN kind n f step) i)) (nI i) μ = some (if kind = 3 then (-3 : Int32) else nI (sm (shN kind n f step) (aS a).1), μ') ∧ ∃ v2, XI N (4 * N, v2) (aSh kind n f step a (aS a).1) μ0 μ' := by
  intro m
  induction m with
  | zero =>
    intro i g μ v1 hi hg hv h
    obtain ⟨g, rfl⟩ : ∃ z, g = z + 1 := ⟨g - 1, by omega⟩
    obtain rfl : i = (aS a).1 := by omega
    have h0 := h.2.1.1.1
    have hp := h.1.1.1
    refine ⟨μ, ?_, v1, h⟩
    rw [f_x_sheet_b47, h0, if_pos ((i_leN (by omega) (by omega)).mpr (Nat.le_refl _)), bnd_s]
  | succ m ih =>
    intro i g μ v1 hi hg hv h
    obtain ⟨g, rfl⟩ : ∃ z, g = z + 1 := ⟨g - 1, by omega⟩
    have h0 := h.2.1.1.1
    have hp : (aS a).1 ≤ 14 := h.1.1.1
    have hs := shSum kind n f step i
    have hs' := shSum kind n f step (i + 1)
    obtain ⟨μ1, k1, k2⟩ := st_putNeed (i := i) (v := shN kind n f step i) h (by show v1 < 60; have : (aS a).1 ≤ 14 := hp; omega) (by show i < (aS a).1; omega) (shN_le _ _ _ _ _)
    have k2' : XI N (4 * N, v1 + 1) (aSh kind n f step a (i + 1)) μ0 μ1 := by
      have e : sNd (aS (aSh kind n f step a i)) i (shN kind n f step i) = ((aS a).1, (aS a).2.1, shF kind n f step (aS a).2.2.1 (i + 1), (aS a).2.2.2) := by
        show ((aS a).1, (aS a).2.1, fnu (shF kind n f step (aS a).2.2.1 i) i (shN kind n f step i), (aS a).2.2.2) = _
        rw [shF_s]
      rw [e] at k2
      exact k2
    obtain ⟨μ', l1, l2⟩ := ih (i + 1) g μ1 (v1 + 1) (by omega) (by omega) (by omega) k2'
    refine ⟨μ', ?_, l2⟩
    have hstep : ∀ s0, s0 = nI (shN kind n f step i) → f_x_sheet_b82 (f_x_sheet_b47 g) kind f step (if kind = 3 then 0 else n) (nI (sm (shN kind n f step) i)) (nI i) s0 μ = some (if kind = 3 then (-3 : Int32) else nI (sm (shN kind n f step) (aS a).1), μ') := by
      intro s0 e
      subst e
      unfold f_x_sheet_b82
      rw [k1, bd1_s, i_add, l_1, i_add]
      exact l1
    have hnle : ¬ nI (aS a).1 ≤ nI i := fun q => absurd ((i_leN (by omega) (by omega)).mp q) (by omega)
    rw [f_x_sheet_b47, h0, if_neg (show ¬ nI (aS (aSh kind n f step a i)).1 ≤ nI i from hnle)]
    by_cases hk : kind = 3
    · rw [if_pos hk]
      rw [if_pos hk] at hstep
      rw [if_pos (show (0 : Int32) ≤ nI i from i_le0 (by omega))]
      have e3 : shN kind n f step i = 50 := by unfold shN; rw [if_pos (Or.inl hk)]
      exact hstep 50 (by rw [e3]; rfl)
    · rw [if_neg hk]
      rw [if_neg hk] at hstep
      by_cases hn : nI i < n
      · have hn' : ¬ n ≤ nI i := by rw [i_le]; rw [i_lt] at hn; omega
        rw [if_neg hn']
        unfold f_x_entry
        rw [bnd_s, bd2_s]
        exact hstep _ (shN_v hk hn)
      · have hn' : n ≤ nI i := by rw [i_le]; rw [i_lt] at hn; omega
        rw [if_pos hn']
        have e3 : shN kind n f step i = 50 := by unfold shN; rw [if_pos (Or.inr hn)]
        exact hstep 50 (by rw [e3]; rfl)
theorem i_step (f step : Int32) (i : Nat) : f + nI i * step + step = f + nI (i + 1) * step := by
  rw [← i_add]
  apply Int32.toBitVec_inj.1
  show f.toBitVec + (nI i).toBitVec * step.toBitVec + step.toBitVec = f.toBitVec + ((nI i).toBitVec + 1#32) * step.toBitVec
  rw [BitVec.add_mul, BitVec.one_mul, BitVec.add_assoc]
theorem m_sheet_lp : ∀ m i g μ, i + m = (aS a).1 → m < g → MI N Q (aSh kind n f step a i) μ0 μ → ∃ μ', f_m_sheet_b43 g kind n step (nI (sm (shN kind n f step) i)) (f + nI i * step) (nI i) μ = some (if kind = 3 then (-3 : Int32) else nI (sm (shN kind n f step) (aS a).1), μ') ∧ MI N Q (aSh kind n f step a (aS a).1) μ0 μ' := by
  intro m
  induction m with
  | zero =>
    intro i g μ hi hg h
    obtain ⟨g, rfl⟩ : ∃ z, g = z + 1 := ⟨g - 1, by omega⟩
    obtain rfl : i = (aS a).1 := by omega
    have h0 := h.2.1.1.1
    have hp := h.1.1.1
    refine ⟨μ, ?_, h⟩
    rw [f_m_sheet_b43, h0, if_pos ((i_leN (by omega) (by omega)).mpr (Nat.le_refl _)), bnd_s]
  | succ m ih =>
    intro i g μ hi hg h
    obtain ⟨g, rfl⟩ : ∃ z, g = z + 1 := ⟨g - 1, by omega⟩
    have h0 := h.2.1.1.1
    have hp : (aS a).1 ≤ 14 := h.1.1.1
    have k2 := m_putNeed (i := i) (v := shN kind n f step i) h (by show i < (aS a).1; omega) (shN_le _ _ _ _ _)
    have k2' : MI N Q (aSh kind n f step a (i + 1)) μ0 (setI μ v_m_need i (nI (shN kind n f step i))) := by
      have e : sNd (aS (aSh kind n f step a i)) i (shN kind n f step i) = ((aS a).1, (aS a).2.1, shF kind n f step (aS a).2.2.1 (i + 1), (aS a).2.2.2) := by
        show ((aS a).1, (aS a).2.1, fnu (shF kind n f step (aS a).2.2.1 i) i (shN kind n f step i), (aS a).2.2.2) = _
        rw [shF_s]
      rw [e] at k2
      exact k2
    obtain ⟨μ', l1, l2⟩ := ih (i + 1) g _ (by omega) (by omega) k2'
    refine ⟨μ', ?_, l2⟩
    have hstep : ∀ s0, s0 = nI (shN kind n f step i) → f_m_sheet_b110 (f_m_sheet_b43 g) kind n step (nI (sm (shN kind n f step) i)) (f + nI i * step) (nI i) (nI i) s0 μ = some (if kind = 3 then (-3 : Int32) else nI (sm (shN kind n f step) (aS a).1), μ') := by
      intro s0 e
      subst e
      unfold f_m_sheet_b110
      rw [inb_n (by omega) (by omega), chk_t, cl_nI (by omega), bnd_s, chk_t, sI_eq, i_add, bnd_s, i_step, l_1, i_add]
      exact l1
    have hnle : ¬ nI (aS a).1 ≤ nI i := fun q => absurd ((i_leN (by omega) (by omega)).mp q) (by omega)
    rw [f_m_sheet_b43, h0, if_neg (show ¬ nI (aS (aSh kind n f step a i)).1 ≤ nI i from hnle), bnd_s]
    by_cases hk : kind = 3
    · rw [if_pos (show kind = 3 from hk)]
      have e3 : shN kind n f step i = 50 := by unfold shN; rw [if_pos (Or.inl hk)]
      exact hstep 50 (by rw [e3]; rfl)
    · rw [if_neg (show ¬ kind = 3 from hk)]
      by_cases hn : nI i < n
      · rw [if_pos hn]
        exact hstep _ (shN_v hk hn)
      · rw [if_neg hn]
        have e3 : shN kind n f step i = 50 := by unfold shN; rw [if_pos (Or.inr hn)]
        exact hstep 50 (by rw [e3]; rfl)
theorem op_sheet (kind n f step : Int32) : OpI N a (f_x_sheet kind n f step) (f_m_sheet kind n f step) := by
  intro hW hN
  have hp := hW.1.1
  have hrun : (∀ μ, XR N a μ → f_x_sheet kind n f step μ = f_x_sheet_b29 kind n f step μ) → (∀ ν1 : Mem, (bd2 (f_m_in kind (0 : Int32) (3 : Int32) ν1) fun v5 μ3 => if v5 = 0 then (some ((-1 : Int32), μ3)) else (if n ≤ (14 : Int32) then (if (3 : Int32) ≤ kind then (f_m_sheet_b34 kind n f step μ3) else (if 0 ≤ n then (f_m_sheet_b34 kind n f step μ3) else (some ((-2 : Int32), μ3)))) else (some ((-1 : Int32), μ3)))) = f_m_sheet_b34 kind n f step ν1) → ∃ ans a', (∀ μ, XR N a μ → ∃ μ', f_x_sheet kind n f step μ = some (ans, μ') ∧ XO N a' μ μ') ∧ ∀ ν, MR N a ν → ∃ ν', f_m_sheet kind n f step ν = some (ans, ν') ∧ MO N a' ν ν' := by
    intro g1 g2
    have e0 : aSh kind n f step a 0 = a := by unfold aSh; rw [shF_0]
    refine ⟨if kind = 3 then (-3 : Int32) else nI (sm (shN kind n f step) (aS a).1), aSh kind n f step a (aS a).1, fun μ h => ?_, fun ν h => m_start h fun Q ν1 _ hI _ => ?_⟩
    · obtain ⟨μ', k1, v2, k2⟩ := x_sheet_lp (a := a) (kind := kind) (n := n) (f := f) (step := step) (aS a).1 0 FU μ 0 (by omega) (by unfold FU; omega) (by omega) (by rw [e0]; exact h.XI)
      exact ⟨μ', by rw [g1 μ h]; exact k1, k2.done hN⟩
    · obtain ⟨μ', k1, k2⟩ := m_sheet_lp (a := a) (kind := kind) (n := n) (f := f) (step := step) (aS a).1 0 FU ν1 (by omega) (by unfold FU; omega) (by rw [e0]; exact hI)
      refine ⟨μ', ?_, k2.done hN⟩
      rw [g2]
      have e1 : f + nI 0 * step = f := by
        apply Int32.toBitVec_inj.1
        show f.toBitVec + 0#32 * step.toBitVec = f.toBitVec
        rw [BitVec.zero_mul, BitVec.add_zero]
      rw [e1] at k1
      exact k1
  rcases i_casesQ kind with hk | ⟨k, hk, rfl⟩
  · refine ⟨-nI 1, a, fun μ h => x_same h hN (by simp (disch := omega) only [l_0, l_1, l_2, l_3, l_4, l_5, l_6, l_7, l_8, l_9, l_10, l_14, l_15, l_16, l_20, l_31, l_40, l_48, l_50, l_57, l_60, l_64, l_76, l_80, l_99, l_100, l_127, l_196, l_200, l_201, l_202, l_255, l_412, l_999, l_1000, l_16000, l_1000000, i_add, i_mul, i_sub, i_leN, i_ltN, i_eqN, i_nleG, i_nltG, inb_n, cl_nI, chk_q, bnd_q, bd1_q, bd2_q, i_bitQ, i_oneQ, i_woQ, i_or, i_and, i_xor, zb_q0, zb_q1, zb_b, b_0Q, if_true, if_false, reduceCtorEq, if_pos, if_neg, f_x_sheet, hk]), fun ν h => m_start h fun Q ν1 _ hI _ => m_same hI hN ?_⟩
    simp (disch := omega) only [l_0, l_1, l_2, l_3, l_4, l_5, l_6, l_7, l_8, l_9, l_10, l_14, l_15, l_16, l_20, l_31, l_40, l_48, l_50, l_57, l_60, l_64, l_76, l_80, l_99, l_100, l_127, l_196, l_200, l_201, l_202, l_255, l_412, l_999, l_1000, l_16000, l_1000000, i_add, i_mul, i_sub, i_leN, i_ltN, i_eqN, i_nleG, i_nltG, inb_n, cl_nI, chk_q, bnd_q, bd1_q, bd2_q, i_bitQ, i_oneQ, i_woQ, i_or, i_and, i_xor, zb_q0, zb_q1, zb_b, b_0Q, if_true, if_false, reduceCtorEq, if_pos, if_neg, m_inG hk]
  by_cases h3 : ¬ k ≤ 3
  · refine ⟨-nI 1, a, fun μ h => x_same h hN (by simp (disch := omega) only [l_0, l_1, l_2, l_3, l_4, l_5, l_6, l_7, l_8, l_9, l_10, l_14, l_15, l_16, l_20, l_31, l_40, l_48, l_50, l_57, l_60, l_64, l_76, l_80, l_99, l_100, l_127, l_196, l_200, l_201, l_202, l_255, l_412, l_999, l_1000, l_16000, l_1000000, i_add, i_mul, i_sub, i_leN, i_ltN, i_eqN, i_nleG, i_nltG, inb_n, cl_nI, chk_q, bnd_q, bd1_q, bd2_q, i_bitQ, i_oneQ, i_woQ, i_or, i_and, i_xor, zb_q0, zb_q1, zb_b, b_0Q, if_true, if_false, reduceCtorEq, if_pos, if_neg, f_x_sheet, nI_lt_self]), fun ν h => m_start h fun Q ν1 _ hI _ => m_same hI hN ?_⟩
    simp (disch := omega) only [l_0, l_1, l_2, l_3, l_4, l_5, l_6, l_7, l_8, l_9, l_10, l_14, l_15, l_16, l_20, l_31, l_40, l_48, l_50, l_57, l_60, l_64, l_76, l_80, l_99, l_100, l_127, l_196, l_200, l_201, l_202, l_255, l_412, l_999, l_1000, l_16000, l_1000000, i_add, i_mul, i_sub, i_leN, i_ltN, i_eqN, i_nleG, i_nltG, inb_n, cl_nI, chk_q, bnd_q, bd1_q, bd2_q, i_bitQ, i_oneQ, i_woQ, i_or, i_and, i_xor, zb_q0, zb_q1, zb_b, b_0Q, if_true, if_false, reduceCtorEq, if_pos, if_neg, m_inN, decide_eq_false h3]
  have h3 := Decidable.not_not.mp h3
  by_cases h4 : ¬ n ≤ nI 14
  · refine ⟨-nI 1, a, fun μ h => x_same h hN (by simp (disch := omega) only [l_0, l_1, l_2, l_3, l_4, l_5, l_6, l_7, l_8, l_9, l_10, l_14, l_15, l_16, l_20, l_31, l_40, l_48, l_50, l_57, l_60, l_64, l_76, l_80, l_99, l_100, l_127, l_196, l_200, l_201, l_202, l_255, l_412, l_999, l_1000, l_16000, l_1000000, i_add, i_mul, i_sub, i_leN, i_ltN, i_eqN, i_nleG, i_nltG, inb_n, cl_nI, chk_q, bnd_q, bd1_q, bd2_q, i_bitQ, i_oneQ, i_woQ, i_or, i_and, i_xor, zb_q0, zb_q1, zb_b, b_0Q, if_true, if_false, reduceCtorEq, if_pos, if_neg, f_x_sheet, nI_lt_self, h4]), fun ν h => m_start h fun Q ν1 _ hI _ => m_same hI hN ?_⟩
    simp (disch := omega) only [l_0, l_1, l_2, l_3, l_4, l_5, l_6, l_7, l_8, l_9, l_10, l_14, l_15, l_16, l_20, l_31, l_40, l_48, l_50, l_57, l_60, l_64, l_76, l_80, l_99, l_100, l_127, l_196, l_200, l_201, l_202, l_255, l_412, l_999, l_1000, l_16000, l_1000000, i_add, i_mul, i_sub, i_leN, i_ltN, i_eqN, i_nleG, i_nltG, inb_n, cl_nI, chk_q, bnd_q, bd1_q, bd2_q, i_bitQ, i_oneQ, i_woQ, i_or, i_and, i_xor, zb_q0, zb_q1, zb_b, b_0Q, if_true, if_false, reduceCtorEq, if_pos, if_neg, m_inN, decide_eq_true h3, h4]
  have h4 := Decidable.not_not.mp h4
  by_cases h5 : k = 3
  · subst h5
    refine hrun (fun μ h => by simp (disch := omega) only [l_0, l_1, l_2, l_3, l_4, l_5, l_6, l_7, l_8, l_9, l_10, l_14, l_15, l_16, l_20, l_31, l_40, l_48, l_50, l_57, l_60, l_64, l_76, l_80, l_99, l_100, l_127, l_196, l_200, l_201, l_202, l_255, l_412, l_999, l_1000, l_16000, l_1000000, i_add, i_mul, i_sub, i_leN, i_ltN, i_eqN, i_nleG, i_nltG, inb_n, cl_nI, chk_q, bnd_q, bd1_q, bd2_q, i_bitQ, i_oneQ, i_woQ, i_or, i_and, i_xor, zb_q0, zb_q1, zb_b, b_0Q, if_true, if_false, reduceCtorEq, if_pos, if_neg, f_x_sheet, nI_lt_self, h4]) (fun ν1 => by simp (disch := omega) only [l_0, l_1, l_2, l_3, l_4, l_5, l_6, l_7, l_8, l_9, l_10, l_14, l_15, l_16, l_20, l_31, l_40, l_48, l_50, l_57, l_60, l_64, l_76, l_80, l_99, l_100, l_127, l_196, l_200, l_201, l_202, l_255, l_412, l_999, l_1000, l_16000, l_1000000, i_add, i_mul, i_sub, i_leN, i_ltN, i_eqN, i_nleG, i_nltG, inb_n, cl_nI, chk_q, bnd_q, bd1_q, bd2_q, i_bitQ, i_oneQ, i_woQ, i_or, i_and, i_xor, zb_q0, zb_q1, zb_b, b_0Q, if_true, if_false, reduceCtorEq, if_pos, if_neg, m_inN, decide_eq_true h3, h4])
  by_cases h6 : nI 0 ≤ n
  · refine hrun (fun μ h => by simp (disch := omega) only [l_0, l_1, l_2, l_3, l_4, l_5, l_6, l_7, l_8, l_9, l_10, l_14, l_15, l_16, l_20, l_31, l_40, l_48, l_50, l_57, l_60, l_64, l_76, l_80, l_99, l_100, l_127, l_196, l_200, l_201, l_202, l_255, l_412, l_999, l_1000, l_16000, l_1000000, i_add, i_mul, i_sub, i_leN, i_ltN, i_eqN, i_nleG, i_nltG, inb_n, cl_nI, chk_q, bnd_q, bd1_q, bd2_q, i_bitQ, i_oneQ, i_woQ, i_or, i_and, i_xor, zb_q0, zb_q1, zb_b, b_0Q, if_true, if_false, reduceCtorEq, if_pos, if_neg, f_x_sheet, nI_lt_self, h4, h6]) (fun ν1 => by simp (disch := omega) only [l_0, l_1, l_2, l_3, l_4, l_5, l_6, l_7, l_8, l_9, l_10, l_14, l_15, l_16, l_20, l_31, l_40, l_48, l_50, l_57, l_60, l_64, l_76, l_80, l_99, l_100, l_127, l_196, l_200, l_201, l_202, l_255, l_412, l_999, l_1000, l_16000, l_1000000, i_add, i_mul, i_sub, i_leN, i_ltN, i_eqN, i_nleG, i_nltG, inb_n, cl_nI, chk_q, bnd_q, bd1_q, bd2_q, i_bitQ, i_oneQ, i_woQ, i_or, i_and, i_xor, zb_q0, zb_q1, zb_b, b_0Q, if_true, if_false, reduceCtorEq, if_pos, if_neg, m_inN, decide_eq_true h3, h4, h6])
  · refine ⟨-nI 2, a, fun μ h => x_same h hN (by simp (disch := omega) only [l_0, l_1, l_2, l_3, l_4, l_5, l_6, l_7, l_8, l_9, l_10, l_14, l_15, l_16, l_20, l_31, l_40, l_48, l_50, l_57, l_60, l_64, l_76, l_80, l_99, l_100, l_127, l_196, l_200, l_201, l_202, l_255, l_412, l_999, l_1000, l_16000, l_1000000, i_add, i_mul, i_sub, i_leN, i_ltN, i_eqN, i_nleG, i_nltG, inb_n, cl_nI, chk_q, bnd_q, bd1_q, bd2_q, i_bitQ, i_oneQ, i_woQ, i_or, i_and, i_xor, zb_q0, zb_q1, zb_b, b_0Q, if_true, if_false, reduceCtorEq, if_pos, if_neg, f_x_sheet, nI_lt_self, h4, h6]), fun ν h => m_start h fun Q ν1 _ hI _ => m_same hI hN ?_⟩
    simp (disch := omega) only [l_0, l_1, l_2, l_3, l_4, l_5, l_6, l_7, l_8, l_9, l_10, l_14, l_15, l_16, l_20, l_31, l_40, l_48, l_50, l_57, l_60, l_64, l_76, l_80, l_99, l_100, l_127, l_196, l_200, l_201, l_202, l_255, l_412, l_999, l_1000, l_16000, l_1000000, i_add, i_mul, i_sub, i_leN, i_ltN, i_eqN, i_nleG, i_nltG, inb_n, cl_nI, chk_q, bnd_q, bd1_q, bd2_q, i_bitQ, i_oneQ, i_woQ, i_or, i_and, i_xor, zb_q0, zb_q1, zb_b, b_0Q, if_true, if_false, reduceCtorEq, if_pos, if_neg, m_inN, decide_eq_true h3, h4, h6]
end OPS
