/-! row, sign, sheet. -/
/-- the sign at a shift -/
def sgB (v : Int32) (k : Nat) : Nat := v.toBitVec.toNat / 2 ^ k % 256
theorem sgB_lt (v : Int32) (k : Nat) : sgB v k < 256 := Nat.mod_lt _ (by decide)
theorem sgB_tb (v : Int32) (k i : Nat) : (sgB v k).testBit i = (decide (i < 8) && v.toBitVec.getLsbD (k + i)) := by
  unfold sgB
  rw [show (256 : Nat) = 2 ^ 8 from rfl, Nat.testBit_mod_two_pow, Nat.testBit_div_two_pow, BitVec.testBit_toNat]
  congr 2
  omega
theorem sg_x (v : Int32) (k : Nat) (hk : k < 32) : ((v.toUInt32 >>> ((nI k).toUInt32 &&& Int32.toUInt32 31)).toInt32) &&& (255 : Int32) = nI (sgB v k) := by
  have h0 : ∀ k, k < 32 → (((nI k).toUInt32 &&& Int32.toUInt32 31).toBitVec % 32#32).toNat = k := by decide +kernel
  apply Int32.toBitVec_inj.1
  apply BitVec.eq_of_getLsbD_eq
  intro i hi
  rw [show (nI (sgB v k)).toBitVec = BitVec.ofNat 32 (sgB v k) from rfl, BitVec.getLsbD_ofNat, sgB_tb]
  show ((v.toBitVec >>> (((nI k).toUInt32 &&& Int32.toUInt32 31).toBitVec % 32#32)) &&& 255#32).getLsbD i = _
  rw [BitVec.getLsbD_and, BitVec.ushiftRight_eq', BitVec.getLsbD_ushiftRight, h0 k hk]
  have h1 : ∀ i, i < 32 → (255#32).getLsbD i = decide (i < 8) := by decide
  rw [h1 i hi, decide_eq_true hi]
  cases v.toBitVec.getLsbD (k + i) <;> cases decide (i < 8) <;> rfl
theorem sg_m (v : Int32) (k : Nat) (hk : k ≤ 24) : vp_nar .byte ((v >>> (nI k &&& 31)).toInt8.toInt32) = (nI (sgB v k)).toInt8.toInt32 := by
  have e : (v >>> (nI k &&& 31)).toInt8 = (nI (sgB v k)).toInt8 := by
    apply Int8.toBitVec_inj.1
    apply BitVec.eq_of_getLsbD_eq
    intro i hi
    show ((v.toBitVec.sshiftRight' ((nI k &&& 31).toBitVec.smod 32)).signExtend 8).getLsbD i = ((BitVec.ofNat 32 (sgB v k)).signExtend 8).getLsbD i
    rw [BitVec.getLsbD_signExtend, BitVec.getLsbD_signExtend, BitVec.getLsbD_ofNat, sgB_tb]
    show (decide (i < 8) && if i < 32 then (v.toBitVec.sshiftRight ((nI k &&& 31).toBitVec.smod 32).toNat).getLsbD i else _) = _
    rw [i_sh k (by omega), BitVec.getLsbD_sshiftRight, if_pos (by omega), if_pos (by omega), if_pos (by omega), decide_eq_true hi, decide_eq_false (show ¬ 32 ≤ i by omega), decide_eq_true (show i < 32 by omega)]
    simp
  rw [vp_nar_byte, e]
  have h2 : ∀ y : Int8, y.toInt32.toInt8 = y := fun y => Int8.toInt8_toInt32 y
  rw [h2]
theorem row_last (r : List Int64) {i : Nat} : i < r.length ↔ ∃ n, r.length = n + 1 ∧ i ≤ n := by
  constructor
  · intro h; exact ⟨r.length - 1, by omega, by omega⟩
  · rintro ⟨n, h1, h2⟩; omega
section OPS
variable {N : Nat} {a : Ab} {b : Nat × Nat} {μ0 μ : Mem} {Q : Nat} {S : SP}
theorem op_row (x : Int32) : OpT N a (f_x_row x) (f_x_row_thr x) (f_m_row x) := by
  intro hW hN
  have h16 := hW.2.2.2.2.2.1
  have bad : (∀ μ, XR N a μ → f_x_row_thr x μ = some μ) → (∀ Q ν, MI N Q a ν (setI ν v_m_thrown 0 (nI 0)) → f_m_row x ν = some ((nI 0).toInt64, setI (setI ν v_m_thrown 0 (nI 0)) v_m_thrown 0 (nI 1))) → ∃ a', (∀ μ, XR N a μ → ∃ μ', f_x_row_thr x μ = some μ' ∧ XO N a' μ μ') ∧ ∀ ν, MR N a ν → ∃ ans ν', f_m_row x ν = some (ans, ν') ∧ MO N a' ν ν' ∧ ν'.1 v_m_thrown 0 = nI 1 := by
    intro g1 g2
    refine ⟨a, fun μ h => ⟨μ, g1 μ h, h.XI.done hN⟩, fun ν h => ?_⟩
    obtain ⟨Q, hQ, hI⟩ := h.MI
    exact ⟨_, _, g2 Q ν (hI.thrown _), ((hI.thrown (nI 0)).thrown (nI 1)).done hN, sI_eq _ _ _ _⟩
  rcases i_casesQ x with hx | ⟨i, hi, rfl⟩
  · right
    exact bad (fun μ h => by simp (disch := omega) only [l_0, l_1, l_2, l_3, l_4, l_5, l_6, l_7, l_8, l_9, l_10, l_14, l_15, l_16, l_20, l_31, l_40, l_48, l_50, l_57, l_60, l_64, l_76, l_80, l_99, l_100, l_127, l_196, l_200, l_201, l_202, l_255, l_412, l_999, l_1000, l_16000, l_1000000, i_add, i_mul, i_sub, i_leN, i_ltN, i_eqN, i_nleG, i_nltG, inb_n, cl_nI, chk_q, bnd_q, bd1_q, bd2_q, i_bitQ, i_oneQ, i_woQ, i_or, i_and, i_xor, zb_q0, zb_q1, zb_b, b_0Q, if_true, if_false, reduceCtorEq, if_pos, if_neg, f_x_row_thr, f_x_row_thr_b15, hx]) (fun Q ν hI => by simp (disch := omega) only [l_0, l_1, l_2, l_3, l_4, l_5, l_6, l_7, l_8, l_9, l_10, l_14, l_15, l_16, l_20, l_31, l_40, l_48, l_50, l_57, l_60, l_64, l_76, l_80, l_99, l_100, l_127, l_196, l_200, l_201, l_202, l_255, l_412, l_999, l_1000, l_16000, l_1000000, i_add, i_mul, i_sub, i_leN, i_ltN, i_eqN, i_nleG, i_nltG, inb_n, cl_nI, chk_q, bnd_q, bd1_q, bd2_q, i_bitQ, i_oneQ, i_woQ, i_or, i_and, i_xor, zb_q0, zb_q1, zb_b, b_0Q, if_true, if_false, reduceCtorEq, if_pos, if_neg, f_m_row, m_inG hx, f_m_lost])
  by_cases h1 : i < (aR a).length
  · left
    refine ⟨(aR a).getD i 0, a, fun μ h => ⟨μ, ?_, h.XI.done hN⟩, fun ν h => ?_⟩
    · have e1 := h.2.1.2.2.2.1.1
      have e2 := h.2.1.2.2.2.1.2 i h1
      simp (disch := omega) only [l_0, l_1, l_2, l_3, l_4, l_5, l_6, l_7, l_8, l_9, l_10, l_14, l_15, l_16, l_20, l_31, l_40, l_48, l_50, l_57, l_60, l_64, l_76, l_80, l_99, l_100, l_127, l_196, l_200, l_201, l_202, l_255, l_412, l_999, l_1000, l_16000, l_1000000, i_add, i_mul, i_sub, i_leN, i_ltN, i_eqN, i_nleG, i_nltG, inb_n, cl_nI, chk_q, bnd_q, bd1_q, bd2_q, i_bitQ, i_oneQ, i_woQ, i_or, i_and, i_xor, zb_q0, zb_q1, zb_b, b_0Q, if_true, if_false, reduceCtorEq, if_pos, if_neg, f_x_row, nI_lt_self, e1, e2]
    · obtain ⟨Q, hQ, hI⟩ := h.MI
      have hI := hI.thrown (nI 0)
      refine ⟨_, ?_, hI.done hN, sI_eq _ _ _ _⟩
      have e1 := hI.2.1.2.2.2.1.1
      have e2 := hI.2.1.2.2.2.1.2 i h1
      simp (disch := omega) only [l_0, l_1, l_2, l_3, l_4, l_5, l_6, l_7, l_8, l_9, l_10, l_14, l_15, l_16, l_20, l_31, l_40, l_48, l_50, l_57, l_60, l_64, l_76, l_80, l_99, l_100, l_127, l_196, l_200, l_201, l_202, l_255, l_412, l_999, l_1000, l_16000, l_1000000, i_add, i_mul, i_sub, i_leN, i_ltN, i_eqN, i_nleG, i_nltG, inb_n, cl_nI, chk_q, bnd_q, bd1_q, bd2_q, i_bitQ, i_oneQ, i_woQ, i_or, i_and, i_xor, zb_q0, zb_q1, zb_b, b_0Q, if_true, if_false, reduceCtorEq, if_pos, if_neg, f_m_row, e1, m_inN, decide_eq_true (show i ≤ (aR a).length - 1 by omega), e2]
  · right
    refine bad (fun μ h => ?_) (fun Q ν hI => ?_)
    · have e1 := h.2.1.2.2.2.1.1
      simp (disch := omega) only [l_0, l_1, l_2, l_3, l_4, l_5, l_6, l_7, l_8, l_9, l_10, l_14, l_15, l_16, l_20, l_31, l_40, l_48, l_50, l_57, l_60, l_64, l_76, l_80, l_99, l_100, l_127, l_196, l_200, l_201, l_202, l_255, l_412, l_999, l_1000, l_16000, l_1000000, i_add, i_mul, i_sub, i_leN, i_ltN, i_eqN, i_nleG, i_nltG, inb_n, cl_nI, chk_q, bnd_q, bd1_q, bd2_q, i_bitQ, i_oneQ, i_woQ, i_or, i_and, i_xor, zb_q0, zb_q1, zb_b, b_0Q, if_true, if_false, reduceCtorEq, if_pos, if_neg, f_x_row_thr, f_x_row_thr_b15, nI_lt_self, e1]
    · have e1 := hI.2.1.2.2.2.1.1
      by_cases h0 : (aR a).length = 0
      · rw [h0] at e1
        have e3 : f_m_in (nI i) (nI 0) (nI 0 - nI 1) (setI ν v_m_thrown 0 (nI 0)) = some (nI 0, setI ν v_m_thrown 0 (nI 0)) := by
          rw [m_in, if_neg (fun q => absurd q.2 (by rw [i_le, i_tI hi]; have : (nI 0 - nI 1 : Int32).toInt = -1 := by decide
                                                    omega))]
          rfl
        simp (disch := omega) only [l_0, l_1, l_2, l_3, l_4, l_5, l_6, l_7, l_8, l_9, l_10, l_14, l_15, l_16, l_20, l_31, l_40, l_48, l_50, l_57, l_60, l_64, l_76, l_80, l_99, l_100, l_127, l_196, l_200, l_201, l_202, l_255, l_412, l_999, l_1000, l_16000, l_1000000, i_add, i_mul, i_sub, i_leN, i_ltN, i_eqN, i_nleG, i_nltG, inb_n, cl_nI, chk_q, bnd_q, bd1_q, bd2_q, i_bitQ, i_oneQ, i_woQ, i_or, i_and, i_xor, zb_q0, zb_q1, zb_b, b_0Q, if_true, if_false, reduceCtorEq, if_pos, if_neg, f_m_row, e1, e3, f_m_lost]
      · simp (disch := omega) only [l_0, l_1, l_2, l_3, l_4, l_5, l_6, l_7, l_8, l_9, l_10, l_14, l_15, l_16, l_20, l_31, l_40, l_48, l_50, l_57, l_60, l_64, l_76, l_80, l_99, l_100, l_127, l_196, l_200, l_201, l_202, l_255, l_412, l_999, l_1000, l_16000, l_1000000, i_add, i_mul, i_sub, i_leN, i_ltN, i_eqN, i_nleG, i_nltG, inb_n, cl_nI, chk_q, bnd_q, bd1_q, bd2_q, i_bitQ, i_oneQ, i_woQ, i_or, i_and, i_xor, zb_q0, zb_q1, zb_b, b_0Q, if_true, if_false, reduceCtorEq, if_pos, if_neg, f_m_row, e1, m_inN, decide_eq_false (show ¬ i ≤ (aR a).length - 1 by omega), f_m_lost]
end OPS
