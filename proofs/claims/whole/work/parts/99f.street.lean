/-! street: the reference, whole. -/
section OPS
variable {N : Nat} {a : Ab} {μ0 μ : Mem} {Q : Nat}
theorem MI.nf {μ' : Mem} (h : MI N Q a μ0 μ) (hf : NF μ μ') (hM : MNP a μ') : MI N Q a μ0 μ' := by
  obtain ⟨hW, ⟨b, d, t, r, k⟩, q, h4, h5⟩ := h
  have e : ∀ v, v ≠ 134 → v ≠ 135 → ¬ (147 ≤ v ∧ v ≤ 149) → μ'.1 v = μ.1 v := fun v h1 h2 h3 => hf.1 v h1 h2 (by omega) (by omega) (by omega)
  exact ⟨hW, ⟨⟨by rw [e _ (by decide) (by decide) (by decide)]; exact b.1, fun i j hi hj => by rw [e _ (by decide) (by decide) (by decide)]; exact b.2.1 i j hi hj, fun i hi => (hM i hi).1, by rw [e _ (by decide) (by decide) (by decide)]; exact b.2.2.2.1, b.2.2.2.2⟩, ⟨fun i hi => (hM i hi).2, by rw [e _ (by decide) (by decide) (by decide)]; exact d.2.1, fun d' hd => by rw [e _ (by decide) (by decide) (by decide)]; exact d.2.2 d' hd⟩, t.of (fun v hv => e v (by omega) (by omega) (by omega)), r.of (e _ (by decide) (by decide) (by decide)) (by rw [hf.2]), k.of rfl rfl (fun v hv => e v (by omega) (by omega) (by omega))⟩, q.of (fun v hv => e v (by omega) (by omega) (by omega)), h4, h5.tr ⟨fun v hv => e v (by omega) (by omega) (by omega), fun v _ => by rw [hf.2], by rw [hf.2]⟩⟩
/-- the reference's state as a street is begun -/
def mBs (μ : Mem) (n : Nat) : Mem := setI (setI (setI (setI (setI (setI (setI μ v_m_thrown 0 0) v_m_read 0 1) v_m_size 0 (nI n)) v_m_top 0 76) v_m_at 0 0) v_m_wrong 0 (-1)) v_m_typed 0 0
theorem mBs_v (μ : Mem) (n v : Nat) (hv : v ≠ 141 ∧ ¬ (143 ≤ v ∧ v ≤ 148)) : (mBs μ n).1 v = μ.1 v := by
  unfold mBs
  rw [sI_v _ _ _ hv.1, sI_v _ _ _ (show v ≠ 148 by omega), sI_v _ _ _ (show v ≠ 147 by omega), sI_v _ _ _ (show v ≠ 146 by omega), sI_v _ _ _ (show v ≠ 145 by omega), sI_v _ _ _ (show v ≠ 144 by omega), sI_v _ _ _ (show v ≠ 143 by omega)]
theorem mBs_I (h : MI N Q a μ0 μ) (n : Nat) : MI N Q (aSetT a []) μ0 (mBs μ n) := by
  have h6 := (((((h.put (v := v_m_thrown) 0 0 ⟨by unfold mIn; decide, by decide, by decide, by decide⟩).put (v := v_m_read) 0 1 ⟨by unfold mIn; decide, by decide, by decide, by decide⟩).put (v := v_m_size) 0 (nI n) ⟨by unfold mIn; decide, by decide, by decide, by decide⟩).put (v := v_m_top) 0 76 ⟨by unfold mIn; decide, by decide, by decide, by decide⟩).put (v := v_m_at) 0 0 ⟨by unfold mIn; decide, by decide, by decide, by decide⟩).put (v := v_m_wrong) 0 (-1) ⟨by unfold mIn; decide, by decide, by decide, by decide⟩
  exact h6.text ⟨by simp, by simp⟩ (fun v _ h2 => sI_v _ _ _ h2) rfl ⟨sI_eq _ _ _ _, fun k hk => absurd hk (by simp)⟩
theorem mBs_S (μ : Mem) (n : Nat) : (mBs μ n).1 v_m_size 0 = nI n ∧ (mBs μ n).1 v_m_top 0 = nI 76 ∧ (mBs μ n).1 v_m_read 0 = 1 ∧ MSt 0 (mBs μ n) := by
  unfold mBs
  refine ⟨?_, ?_, ?_, ?_, ?_⟩
  · rw [sI_v _ _ _ (by decide), sI_v _ _ _ (by decide), sI_v _ _ _ (by decide), sI_v _ _ _ (by decide), sI_eq]
  · rw [sI_v _ _ _ (by decide), sI_v _ _ _ (by decide), sI_v _ _ _ (by decide), sI_eq]; rfl
  · rw [sI_v _ _ _ (by decide), sI_v _ _ _ (by decide), sI_v _ _ _ (by decide), sI_v _ _ _ (by decide), sI_v _ _ _ (by decide), sI_eq]
  · rw [sI_v _ _ _ (by decide), sI_v _ _ _ (by decide), sI_eq]; rfl
  · rw [sI_v _ _ _ (by decide), sI_eq]
theorem m_street_begin (h : MR N a μ) : f_m_street μ = f_m_street_b59 FU (nI (aS a).1) (nI (aN a)) (nI (aS a).2.2.2) (nI 0) (nI 0) (if nI (aT a).length ≤ 0 then (0 : Int32) else 1) (mBs μ (aT a).length) := by
  obtain ⟨Q, hQ, hI⟩ := h.MI
  have hB := mBs_I hI (aT a).length
  have hty : (setI μ v_m_thrown 0 0).1 v_m_typed 0 = nI (aT a).length := by rw [sI_v _ _ _ (by decide)]; exact h.2.1.2.2.1.1
  unfold f_m_street
  rw [bnd_s, hty]
  unfold f_m_begin_116
  rw [bnd_s, bnd_s, bnd_s, bnd_s, bnd_s, bd1_s, bnd_s]
  show (bd2 (f_m_now (mBs μ (aT a).length)) fun v9 μ7 => bnd (if (μ7.1 v_m_size 0) ≤ 0 then (0 : Int32) else (1 : Int32)) fun v10 => f_m_street_b59 FU ((mBs μ (aT a).length).1 v_m_people 0) v9 (μ7.1 v_m_firm 0) (0 : Int32) (0 : Int32) v10 μ7) = _
  rw [m_now hB.1 hB.2.1.2.1, bd2_s, bnd_s, (mBs_S μ (aT a).length).1, hB.2.1.1.1, hB.2.1.1.2.2.2.1]
  rfl
end OPS
