/-! street: the two alike. -/
section OPS
variable {N : Nat} {a : Ab} {μ0 μ : Mem} {Q : Nat}
theorem acq_len : ∀ ls : List LN, (acq ls).length ≤ ls.length
  | [] => Nat.le_refl _
  | Sum.inl _ :: r => by have := acq_len r; show (acq r).length ≤ r.length + 1; omega
  | Sum.inr _ :: r => by have := acq_len r; show (acq r).length + 1 ≤ r.length + 1; omega
theorem m_street (hN : N < 600) (h : MR N a μ) : ∃ μ', f_m_street μ = some ((stA a).1, μ') ∧ MO N (stA a).2 μ μ' := by
  have hT := h.2.1.2.2.1
  have hlen := h.1.2.2.2.2.1.1
  have hbt := h.1.2.2.2.2.1.2
  have hp := h.1.1.1
  obtain ⟨Q, hQ, hI⟩ := h.MI
  have hB := mBs_I hI (aT a).length
  obtain ⟨s1, s2, s3, s4⟩ := mBs_S μ (aT a).length
  rw [m_street_begin h]
  have hM : MNP (aSetT a []) (mBs μ (aT a).length) := fun i hi => ⟨hB.2.1.1.2.2.1 i hi, hB.2.1.2.1.1 i hi⟩
  unfold stA
  by_cases c0 : aT a = []
  · have hl0 : (aT a).length = 0 := by rw [c0]; rfl
    rw [if_pos c0, if_pos (show nI (aT a).length ≤ 0 by rw [hl0]; decide)]
    obtain ⟨ν, q1, q2⟩ := m_end (ls := []) hN hB trivial (by decide) (by decide) (NF.rf _) s4 hM hM (fun j hj => absurd hj (by simp [acq])) (nI 0)
    refine ⟨ν, ?_, q2⟩
    rw [show FU = (FU - 1) + 1 from rfl, f_m_street_b59, if_pos rfl]
    unfold f_m_street_b224
    rw [s1, s4.1, hl0, if_pos (show nI 0 ≤ nI 0 by decide)]
    rw [hl0] at q1
    exact q1
  · have hpos : 0 < (aT a).length := List.length_pos_iff.mpr c0
    have hE : RE7 (aT a) (min (aT a).length 76) (aT a).length (mBs μ (aT a).length) := ⟨⟨⟨rfl, hlen⟩, t_lt hbt⟩, s1, s2, s3, fun j hj => by rw [mBs_v _ _ _ (by decide), hT.2 j (by omega), hb_t (t_lt hbt j)]⟩
    rw [if_neg c0, le0_if (by omega), if_neg (by omega)]
    have hR := m_lines_lp (t := aT a) (L := min (aT a).length 76) (sz := (aT a).length) (min (aT a).length 76) 0 0 (aSetT a []) [] FU (mBs μ (aT a).length) (by omega) (by unfold FU; omega) hE (Nat.zero_le _) s4 hp (Nat.zero_le _) hM (fun j hj => absurd hj (by simp))
    have hR' : REo 0 (aSetT a []) [] (stR a) (mBs μ (aT a).length) (f_m_street_b59 FU (nI (aS a).1) (nI (aN a)) (nI (aS a).2.2.2) (nI 0) (nI 0) 1 (mBs μ (aT a).length)) := hR
    have hok : VLs (aS a).1 (stR a).2.2 := rdAll_ok _ _ _ hp (Nat.zero_le _)
    have hps := rdAll_pos (t := aT a) (L := min (aT a).length 76) (len := (aT a).length) hp (min (aT a).length 76) (aS a).1 0 hp (Nat.zero_le _)
    have hp2 : (stR a).2.2.length ≤ min (aT a).length 76 := hps.2
    obtain ⟨μ', f1, f2, f3⟩ := hR'
    by_cases c : (stR a).1 = true
    · obtain ⟨k, g1, g2, g3, g4⟩ := f3 c
      have hal := acq_len (stR a).2.2
      have hM0 : MNP (aSetT a []) μ' := by
        have : ∀ (ls : List LN) (b : Ab), MNP (ls.foldl ap1 b) μ' → MNP b μ' := fun ls => by
          induction ls with
          | nil => exact fun b hb => hb
          | cons l r ih => exact fun b hb => (ih (ap1 b l) hb).back
        exact this _ _ g3
      obtain ⟨ν, q1, q2⟩ := m_end (ls := (stR a).2.2) hN hB hok (by omega) (by omega) f1 g1 g3 hM0 g4 (nI (0 + (stR a).2.2.length))
      refine ⟨ν, ?_, by rw [if_pos c]; exact q2⟩
      rw [g2]
      unfold rdAns
      rw [if_pos c]
      exact q1
    · obtain ⟨g1, g2⟩ := f2 (bF c)
      refine ⟨μ', ?_, by rw [if_neg c]; exact (hB.nf f1 g2).done hN⟩
      rw [g1]
      unfold rdAns
      rw [if_neg c]
theorem op_street : OpI N a f_x_street f_m_street := fun _ hN => ⟨(stA a).1, (stA a).2, fun _ h => x_street hN h, fun _ h => m_street hN h⟩
end OPS
