/-! sign, sheet. -/
theorem getD_app4 {t : List Nat} {w x y z k : Nat} (hk : k < t.length + 4) : (t ++ [w, x, y, z]).getD k 0 = if k = t.length then w else if k = t.length + 1 then x else if k = t.length + 2 then y else if k = t.length + 3 then z else t.getD k 0 := by
  rw [List.getD_eq_getElem?_getD]
  by_cases h : k < t.length
  · rw [List.getElem?_append_left h, if_neg (by omega), if_neg (by omega), if_neg (by omega), if_neg (by omega), List.getD_eq_getElem?_getD]
  · rw [List.getElem?_append_right (by omega)]
    have hc : k = t.length ∨ k = t.length + 1 ∨ k = t.length + 2 ∨ k = t.length + 3 := by omega
    rcases hc with rfl | rfl | rfl | rfl
    · rw [if_pos rfl, Nat.sub_self]; rfl
    · rw [if_neg (by omega), if_pos rfl, Nat.add_sub_cancel_left]; rfl
    · rw [if_neg (by omega), if_neg (by omega), if_pos rfl, Nat.add_sub_cancel_left]; rfl
    · rw [if_neg (by omega), if_neg (by omega), if_neg (by omega), if_pos rfl, Nat.add_sub_cancel_left]; rfl
section OPS
variable {N : Nat} {a : Ab} {b : Nat × Nat} {μ0 μ : Mem} {Q : Nat} {S : SP}
def sg4 (v : Int32) : List Nat := [sgB v 24, sgB v 16, sgB v 8, sgB v 0]
/-- one sign put -/
def xput (μ : Mem) (L : Nat) (v : Int32) (k : Nat) : Mem := setI (setI μ v_x_signs 0 (nI (L + 1))) v_x_text L (nI (sgB v k))
def mput (μ : Mem) (L : Nat) (v : Int32) (k : Nat) : Mem := setI (setI μ v_m_typed 0 (nI (L + 1))) v_m_text L ((nI (sgB v k)).toInt8.toInt32)
theorem xput_s (μ : Mem) (L : Nat) (v : Int32) (k : Nat) : (xput μ L v k).1 v_x_signs 0 = nI (L + 1) := by unfold xput; rw [sI_v _ _ _ (by decide), sI_eq]
theorem mput_s (μ : Mem) (L : Nat) (v : Int32) (k : Nat) : (mput μ L v k).1 v_m_typed 0 = nI (L + 1) := by unfold mput; rw [sI_v _ _ _ (by decide), sI_eq]
theorem xput_t (μ : Mem) (L : Nat) (v : Int32) (k j : Nat) : (xput μ L v k).1 v_x_text j = if j = L then nI (sgB v k) else μ.1 v_x_text j := by
  unfold xput
  by_cases e : j = L
  · subst e; rw [sI_eq, if_pos rfl]
  · rw [sI_i _ _ _ e, sI_v _ _ _ (by decide), if_neg e]
theorem mput_t (μ : Mem) (L : Nat) (v : Int32) (k j : Nat) : (mput μ L v k).1 v_m_text j = if j = L then (nI (sgB v k)).toInt8.toInt32 else μ.1 v_m_text j := by
  unfold mput
  by_cases e : j = L
  · subst e; rw [sI_eq, if_pos rfl]
  · rw [sI_i _ _ _ e, sI_v _ _ _ (by decide), if_neg e]
theorem xput_v (μ : Mem) (L : Nat) (v : Int32) (k : Nat) {u : Nat} (h1 : u ≠ v_x_text) (h2 : u ≠ v_x_signs) : (xput μ L v k).1 u = μ.1 u := by unfold xput; rw [sI_v _ _ _ h1, sI_v _ _ _ h2]
theorem mput_v (μ : Mem) (L : Nat) (v : Int32) (k : Nat) {u : Nat} (h1 : u ≠ v_m_text) (h2 : u ≠ v_m_typed) : (mput μ L v k).1 u = μ.1 u := by unfold mput; rw [sI_v _ _ _ h1, sI_v _ _ _ h2]
theorem x_sign_st {L n : Nat} (v : Int32) (h : μ.1 v_x_signs 0 = nI L) (hL : L < 80) {k : Nat} (hk : k < 32) : f_x_sign_b16 (n + 1) v (nI k) μ = f_x_sign_b16 n v (nI k + (-8 : Int32)) (xput μ L v k) := by
  rw [f_x_sign_b16, if_neg (i_nlt0 (by omega)), h, inb_n (by omega) (by omega), sg_x v k hk, cl_nI (by omega), l_1, i_add]
  rfl
theorem m_sign_st {L n : Nat} (v : Int32) (h : μ.1 v_m_typed 0 = nI L) (hL : L < 80) {k : Nat} (hk : k ≤ 3) : f_m_sign_b20 (n + 1) v (nI k) μ = f_m_sign_b20 n v (nI k + (-1 : Int32)) (mput μ L v (8 * k)) := by
  rw [f_m_sign_b20, if_neg (i_nlt0 (by omega)), h, inb_n (by omega) (by omega), l_8, i_mul, sg_m v (8 * k) (by omega), cl_nI (by omega), l_1, i_add]
  rfl
theorem op_sign (v : Int32) : OpI N a (f_x_sign v) (f_m_sign v) := by
  intro hW hN
  have h80 := hW.2.2.2.2.1.1
  by_cases hd : (aT a).length + 4 ≤ 80
  · have hl : (aT a ++ sg4 v).length = (aT a).length + 4 := by rw [List.length_append]; rfl
    have hz : (aT a ++ sg4 v).length ≤ 80 ∧ ∀ b ∈ aT a ++ sg4 v, b < 256 := ⟨by omega, fun b hb => by
      rcases List.mem_append.mp hb with q | q
      · exact hW.2.2.2.2.1.2 b q
      · unfold sg4 at q
        simp only [List.mem_cons, List.not_mem_nil, or_false] at q
        rcases q with rfl | rfl | rfl | rfl <;> exact sgB_lt _ _⟩
    refine ⟨nI ((aT a).length + 4), aSetT a (aT a ++ sg4 v), fun μ h => ?_, fun ν h => m_start h fun Q ν1 _ hI _ => ?_⟩
    · have e1 := h.2.1.2.2.1.1
      refine ⟨xput (xput (xput (xput μ (aT a).length v 24) ((aT a).length + 1) v 16) ((aT a).length + 2) v 8) ((aT a).length + 3) v 0, ?_, (h.XI.text (μ' := xput (xput (xput (xput μ (aT a).length v 24) ((aT a).length + 1) v 16) ((aT a).length + 2) v 8) ((aT a).length + 3) v 0) hz (fun u h1 h2 => ?_) rfl ⟨?_, fun k hk => ?_⟩).done hN⟩
      · have e0 : f_x_sign v μ = f_x_sign_b16 FU v (nI 24) μ := by
          unfold f_x_sign
          rw [e1, l_4, i_add, l_80, if_pos ((i_leN (by omega) (by omega)).mpr hd)]
          rfl
        rw [e0, show FU = 19996 + 1 + 1 + 1 + 1 from rfl, x_sign_st v e1 (by omega) (by omega), show nI 24 + (-8 : Int32) = nI 16 from rfl, x_sign_st v (xput_s _ _ _ _) (by omega) (by omega), show nI 16 + (-8 : Int32) = nI 8 from rfl, x_sign_st v (xput_s _ _ _ _) (by omega) (by omega), show nI 8 + (-8 : Int32) = nI 0 from rfl, x_sign_st v (xput_s _ _ _ _) (by omega) (by omega), show (19996 : Nat) = 19995 + 1 from rfl, f_x_sign_b16, if_pos (by decide), xput_s]
      · rw [xput_v _ _ _ _ h1 h2, xput_v _ _ _ _ h1 h2, xput_v _ _ _ _ h1 h2, xput_v _ _ _ _ h1 h2]
      · rw [xput_s, hl]
      · rw [hl] at hk
        unfold sg4
        rw [getD_app4 hk, xput_t, xput_t, xput_t, xput_t]
        by_cases c3 : k = (aT a).length + 3
        · rw [if_pos c3, if_neg (by omega), if_neg (by omega), if_neg (by omega), if_pos c3]
        · by_cases c2 : k = (aT a).length + 2
          · rw [if_neg c3, if_pos c2, if_neg (by omega), if_neg (by omega), if_pos c2]
          · by_cases c1 : k = (aT a).length + 1
            · rw [if_neg c3, if_neg c2, if_pos c1, if_neg (by omega), if_pos c1]
            · by_cases c0 : k = (aT a).length
              · rw [if_neg c3, if_neg c2, if_neg c1, if_pos c0, if_pos c0]
              · rw [if_neg c3, if_neg c2, if_neg c1, if_neg c0, if_neg c0, if_neg c1, if_neg c2, if_neg c3]
                exact h.2.1.2.2.1.2 k (by omega)
    · have e1 := hI.2.1.2.2.1.1
      refine ⟨mput (mput (mput (mput ν1 (aT a).length v 24) ((aT a).length + 1) v 16) ((aT a).length + 2) v 8) ((aT a).length + 3) v 0, ?_, (hI.text (μ' := mput (mput (mput (mput ν1 (aT a).length v 24) ((aT a).length + 1) v 16) ((aT a).length + 2) v 8) ((aT a).length + 3) v 0) hz (fun u h1 h2 => ?_) rfl ⟨?_, fun k hk => ?_⟩).done hN⟩
      · rw [e1, l_4, i_add, l_80, if_pos ((i_leN (by omega) (by omega)).mpr hd), show FU = 19996 + 1 + 1 + 1 + 1 from rfl, show (3 : Int32) = nI 3 from rfl, m_sign_st v e1 (by omega) (by omega), show nI 3 + (-1 : Int32) = nI 2 from rfl, m_sign_st v (mput_s _ _ _ _) (by omega) (by omega), show nI 2 + (-1 : Int32) = nI 1 from rfl, m_sign_st v (mput_s _ _ _ _) (by omega) (by omega), show nI 1 + (-1 : Int32) = nI 0 from rfl, m_sign_st v (mput_s _ _ _ _) (by omega) (by omega), show (19996 : Nat) = 19995 + 1 from rfl, f_m_sign_b20, if_pos (by decide), mput_s]
      · rw [mput_v _ _ _ _ h1 h2, mput_v _ _ _ _ h1 h2, mput_v _ _ _ _ h1 h2, mput_v _ _ _ _ h1 h2]
      · rw [mput_s, hl]
      · rw [hl] at hk
        unfold sg4
        rw [getD_app4 hk, mput_t, mput_t, mput_t, mput_t]
        by_cases c3 : k = (aT a).length + 3
        · rw [if_pos c3, if_neg (by omega), if_neg (by omega), if_neg (by omega), if_pos c3]
        · by_cases c2 : k = (aT a).length + 2
          · rw [if_neg c3, if_pos c2, if_neg (by omega), if_neg (by omega), if_pos c2]
          · by_cases c1 : k = (aT a).length + 1
            · rw [if_neg c3, if_neg c2, if_pos c1, if_neg (by omega), if_pos c1]
            · by_cases c0 : k = (aT a).length
              · rw [if_neg c3, if_neg c2, if_neg c1, if_pos c0, if_pos c0]
              · rw [if_neg c3, if_neg c2, if_neg c1, if_neg c0, if_neg c0, if_neg c1, if_neg c2, if_neg c3]
                exact hI.2.1.2.2.1.2 k (by omega)
  · refine ⟨-nI 1, a, fun μ h => x_same h hN ?_, fun ν h => m_start h fun Q ν1 _ hI _ => m_same hI hN ?_⟩
    · have e1 := h.2.1.2.2.1.1
      simp (disch := omega) only [l_0, l_1, l_2, l_3, l_4, l_5, l_6, l_7, l_8, l_9, l_10, l_14, l_15, l_16, l_20, l_31, l_40, l_48, l_50, l_57, l_60, l_64, l_76, l_80, l_99, l_100, l_127, l_196, l_200, l_201, l_202, l_255, l_412, l_999, l_1000, l_16000, l_1000000, i_add, i_mul, i_sub, i_leN, i_ltN, i_eqN, i_nleG, i_nltG, inb_n, cl_nI, chk_q, bnd_q, bd1_q, bd2_q, i_bitQ, i_oneQ, i_woQ, i_or, i_and, i_xor, zb_q0, zb_q1, zb_b, b_0Q, if_true, if_false, reduceCtorEq, if_pos, if_neg, f_x_sign, e1]
    · have e1 := hI.2.1.2.2.1.1
      simp (disch := omega) only [l_0, l_1, l_2, l_3, l_4, l_5, l_6, l_7, l_8, l_9, l_10, l_14, l_15, l_16, l_20, l_31, l_40, l_48, l_50, l_57, l_60, l_64, l_76, l_80, l_99, l_100, l_127, l_196, l_200, l_201, l_202, l_255, l_412, l_999, l_1000, l_16000, l_1000000, i_add, i_mul, i_sub, i_leN, i_ltN, i_eqN, i_nleG, i_nltG, inb_n, cl_nI, chk_q, bnd_q, bd1_q, bd2_q, i_bitQ, i_oneQ, i_woQ, i_or, i_and, i_xor, zb_q0, zb_q1, zb_b, b_0Q, if_true, if_false, reduceCtorEq, if_pos, if_neg, e1]
/-! sheet -/
theorem clamp (v : Int32) : ∃ n, n ≤ 99 ∧ imax (0 : Int32) (imin (99 : Int32) v) = nI n := by
  unfold imax imin
  rw [l_99, l_0]
  rcases i_casesQ v with hv | ⟨n, hn, rfl⟩
  · refine ⟨0, by omega, ?_⟩
    have h1 : v < nI 99 := by rw [i_lt] at hv ⊢; have : (nI 99).toInt = 99 := rfl; have : (nI 0).toInt = 0 := rfl; omega
    have h2 : ¬ nI 0 < v := by rw [i_lt] at hv ⊢; omega
    rw [if_pos h1, if_neg h2]
  · by_cases h : n < 99
    · rw [if_pos ((i_ltN (b := 99) hn (by omega)).mpr h)]
      by_cases h0 : 0 < n
      · exact ⟨n, by omega, if_pos ((i_ltN (a := 0) (by omega) hn).mpr h0)⟩
      · exact ⟨0, by omega, if_neg (fun q => h0 ((i_ltN (a := 0) (by omega) hn).mp q))⟩
    · rw [if_neg (fun q => h ((i_ltN (b := 99) hn (by omega)).mp q))]
      exact ⟨99, by omega, if_pos (by decide)⟩
end OPS
