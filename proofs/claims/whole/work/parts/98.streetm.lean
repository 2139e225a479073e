/-! street: how the reference reads. -/
section RM7
variable {t : List Nat} {L sz : Nat} {μb μ : Mem}
def RE7 (t : List Nat) (L sz : Nat) (μ : Mem) : Prop := ((L = min sz 76 ∧ sz ≤ 80) ∧ ∀ j, t.getD j 0 < 256) ∧ μ.1 v_m_size 0 = nI sz ∧ μ.1 v_m_top 0 = nI 76 ∧ μ.1 v_m_read 0 = 1 ∧ ∀ j, j < L → μ.1 v_m_text j = hb (t.getD j 0)
theorem RE7.of {μ' : Mem} (h : RE7 t L sz μ) (e : ∀ v, (v = 140 ∨ v = 144 ∨ v = 145 ∨ v = 146) → μ'.1 v = μ.1 v) : RE7 t L sz μ' := by
  obtain ⟨h1, h2, h3, h4, h5⟩ := h
  exact ⟨h1, by rw [e _ (by decide)]; exact h2, by rw [e _ (by decide)]; exact h3, by rw [e _ (by decide)]; exact h4, fun j hj => by rw [e _ (by decide)]; exact h5 j hj⟩
theorem RE7.fr {μ' : Mem} (h : RE7 t L sz μ) (hf : RF μ μ') : RE7 t L sz μ' := h.of (fun v hv => hf.1 v (by omega) (by omega))
theorem RE7.L76 (h : RE7 t L sz μ) : L ≤ 76 := by have := h.1.1; omega
theorem m_here7 (h : RE7 t L sz μ) {k : Nat} (hk : k ≤ L) (ha : μ.1 v_m_at 0 = nI k) : f_m_here μ = some (hb (cu t L k), μ) := by
  have h76 := h.L76
  obtain ⟨⟨⟨h1, h1'⟩, h2⟩, h3, h5, h6, h7⟩ := h
  unfold f_m_here
  rw [ha, h3, h5]
  by_cases c : k < L
  · have hcu : cu t L k = t.getD k 0 := if_pos c
    rw [if_neg (fun q => absurd ((i_leN (by omega) (by omega)).mp q) (by omega)), if_neg (fun q => absurd ((i_leN (by omega) (by omega)).mp q) (by omega)), hcu]
    rw [h6, if_pos rfl, inb_n (by omega) (by omega), chk_t, cl_nI (by omega), h7 k c]
  · have hcu : cu t L k = 256 := if_neg c
    rw [hcu, show hb 256 = -1 from rfl]
    by_cases d : sz ≤ k
    · rw [if_pos ((i_leN (by omega) (by omega)).mpr d)]
    · rw [if_neg (fun q => d ((i_leN (by omega) (by omega)).mp q)), if_pos ((i_leN (by omega) (by omega)).mpr (by omega))]
theorem m_pass7 (h : RE7 t L sz μ) {k c : Nat} (hk : k ≤ L) (hs : MSt k μ) (hc : c < 128) : ∃ μ', f_m_passes (nI c) μ = some (nI (bN (decide (cu t L k = c))), μ') ∧ RF μ μ' ∧ MSt (k + bN (decide (cu t L k = c))) μ' := by
  have h256 := cu_256 (L := L) h.1.2 k
  unfold f_m_passes
  rw [m_fine1 hs.2, bd2_s, if_neg (by decide), m_here7 h hk hs.1, bd2_s]
  by_cases d : cu t L k = c
  · refine ⟨setI μ v_m_at 0 (nI k + 1), ?_, RF.at_ _ _, by rw [decide_eq_true d]; exact hs.pass⟩
    rw [if_pos ((hb_eq h256 hc).mpr d), hs.1, bnd_s, zb_1, chk_t, decide_eq_true d]
    rfl
  · refine ⟨μ, ?_, RF.rf _, by rw [decide_eq_false d]; exact hs⟩
    rw [if_neg (fun q => d ((hb_eq h256 hc).mp q)), zb_0, chk_t, decide_eq_false d]
    rfl
theorem m_needN {w : Nat} (hw : w < 2 ^ 31) (h : μ.1 v_m_wrong 0 = nI w) (x : Int32) : f_m_need x μ = some μ := by
  unfold f_m_need
  rw [m_passN hw h, bd2_s, if_pos rfl, m_fault0 hw h, bd1_s]
theorem m_need7 (h : RE7 t L sz μ) {k c : Nat} (hk : k ≤ L) (hs : MSt k μ) (hc : c < 128) : ∃ μ', f_m_need (nI c) μ = some μ' ∧ RF μ μ' ∧ (cu t L k = c → MSt (k + 1) μ') ∧ (¬ cu t L k = c → μ'.1 v_m_wrong 0 = nI k) := by
  obtain ⟨μ1, a1, a2, a3⟩ := m_pass7 h hk hs hc
  unfold f_m_need
  rw [a1, bd2_s]
  by_cases d : cu t L k = c
  · rw [decide_eq_true d] at a3 ⊢
    rw [if_neg (show ¬ nI (bN true) = 0 by decide)]
    exact ⟨μ1, rfl, a2, fun _ => a3, fun q => absurd d q⟩
  · rw [decide_eq_false d] at a3 ⊢
    have a3' : MSt k μ1 := a3
    rw [if_pos (show nI (bN false) = 0 by decide), a3'.1, m_fault1 a3'.2, bd1_s]
    exact ⟨_, rfl, a2.tr (RF.wr_ _ _), fun q => absurd q d, fun _ => sI_eq _ _ _ _⟩
theorem m_numN {w : Nat} (hw : w < 2 ^ 31) (h : μ.1 v_m_wrong 0 = nI w) (x y z : Int32) : f_m_number x y z μ = some (0, μ) := by
  unfold f_m_number
  rw [m_fine0 hw h, bd2_s, if_pos rfl]
theorem m_num7_lp (h : RE7 t L sz μb) {k1 M : Nat} (hM : M ≤ 2) (x3 : Int32) : ∀ m k d v g (μ : Mem), m + d = M → k = k1 + d → m < g → k ≤ L → v < 10 ^ d → RF μb μ → MSt k μ → ∃ μ', f_m_number_b18 g (nI M) (nI 0) x3 (nI k1) (nI v) μ = f_m_number_b71 (nI 0) x3 (nI k1) (nI (pNumL t L m k v).2) μ' ∧ RF μb μ' ∧ MSt (pNumL t L m k v).1 μ' := by
  intro m
  induction m with
  | zero =>
    intro k d v g μ hd hk1 hg hk hv hf hs
    obtain ⟨g, rfl⟩ : ∃ z, g = z + 1 := ⟨g - 1, by omega⟩
    have hL := h.L76
    refine ⟨μ, ?_, hf, hs⟩
    rw [f_m_number_b18, hs.1, i_add, if_pos ((i_leN (by omega) (by omega)).mpr (by omega))]
    rfl
  | succ m ih =>
    intro k d v g μ hd hk1 hg hk hv hf hs
    obtain ⟨g, rfl⟩ : ∃ z, g = z + 1 := ⟨g - 1, by omega⟩
    have hL := h.L76
    have hE := h.fr hf
    have h256 := cu_256 (L := L) h.1.2 k
    have hv3 : 10 ^ d ≤ 100 := by
      have : 10 ^ d ≤ 10 ^ 2 := Nat.pow_le_pow_right (by omega) (by omega)
      exact this
    rw [f_m_number_b18, hs.1, i_add, if_neg (fun q => absurd ((i_leN (by omega) (by omega)).mp q) (by omega)), m_here7 hE hk hs.1, bd2_s, m_in, bd2_s, pNumL]
    by_cases c : 48 ≤ cu t L k ∧ cu t L k ≤ 57
    · have hkL := cu_L (t := t) (L := L) (k := k) (by omega)
      have e1 : hb (cu t L k) = nI (cu t L k) := (hb_eq h256 (by omega)).mpr rfl
      obtain ⟨μ', q1, q2, q3⟩ := ih (k + 1) (d + 1) (v * 10 + cu t L k - 48) g _ (by omega) (by omega) (by omega) (by omega) (by rw [Nat.pow_succ]; omega) (hf.tr (RF.at_ μ (nI k + 1))) hs.pass
      rw [if_pos ((hb_in h256).mpr c), if_neg (by decide), m_here7 hE hk hs.1, bd2_s, e1, show (10 : Int32) * nI v + nI (cu t L k) - (48 : Int32) = nI (v * 10 + cu t L k - 48) by rw [l_10, l_48, i_mul, i_add, i_sub (by omega), Nat.mul_comm], bnd_s, hs.1, bnd_s, if_pos c]
      exact ⟨μ', q1, q2, q3⟩
    · rw [if_neg (fun q => c ((hb_in h256).mp q)), if_pos rfl, if_neg c]
      exact ⟨μ, rfl, hf, hs⟩
/-- a number of at most M digits, below H -/
theorem m_num7 (h : RE7 t L sz μ) {k M H : Nat} {hi : Int32} (hM : M ≤ 2) (hH : ∀ v, v < 100 → (nI v ≤ hi ↔ v < H)) (hk : k ≤ L) (hs : MSt k μ) : ∃ x μ', f_m_number (nI M) 0 hi μ = some (x, μ') ∧ RF μ μ' ∧ ((pNumL t L M k 0).1 = k → μ'.1 v_m_wrong 0 = nI k) ∧ (¬ (pNumL t L M k 0).1 = k → H ≤ (pNumL t L M k 0).2 → μ'.1 v_m_wrong 0 = nI ((pNumL t L M k 0).1 - 1)) ∧ (¬ (pNumL t L M k 0).1 = k → (pNumL t L M k 0).2 < H → x = nI (pNumL t L M k 0).2 ∧ MSt (pNumL t L M k 0).1 μ') := by
  have hL := h.L76
  have hle := pNumL_le (t := t) M k 0 hk
  have hv : (pNumL t L M k 0).2 < 100 := by
    have h1 : (pNumL t L M k 0).2 < (0 + 1) * 10 ^ M := pNumL_v M k 0
    have : 10 ^ M ≤ 10 ^ 2 := Nat.pow_le_pow_right (by omega) hM
    omega
  obtain ⟨μ1, q1, q2, q3⟩ := m_num7_lp h (k1 := k) hM hi M k 0 0 FU μ rfl rfl (by unfold FU; omega) hk (by decide) (RF.rf _) hs
  unfold f_m_number
  rw [m_fine1 hs.2, bd2_s, if_neg (by decide), hs.1, show f_m_number_b18 FU (nI M) 0 hi (nI k) 0 μ = _ from q1]
  unfold f_m_number_b71 f_m_number_b111
  rw [q3.1]
  by_cases c : (pNumL t L M k 0).1 = k
  · rw [if_pos (by rw [c]), m_fault1 q3.2, bd1_s]
    have hw : (setI μ1 v_m_wrong 0 (nI (pNumL t L M k 0).1)).1 v_m_wrong 0 = nI k := by rw [sI_eq, c]
    rw [m_fine0 (by omega) hw, bd2_s, if_pos rfl, bnd_s]
    exact ⟨_, _, rfl, q2.tr (RF.wr_ _ _), fun _ => hw, fun q => absurd c q, fun q => absurd c q⟩
  · rw [if_neg (fun q => c (nI_inj (by omega) (by omega) q)), m_in, bd2_s]
    by_cases d : (pNumL t L M k 0).2 < H
    · rw [if_pos (show nI 0 ≤ nI (pNumL t L M k 0).2 ∧ nI (pNumL t L M k 0).2 ≤ hi from ⟨(i_leN (by omega) (by omega)).mpr (by omega), (hH _ hv).mpr d⟩), if_neg (by decide), m_fine1 q3.2, bd2_s, if_neg (by decide), bnd_s]
      exact ⟨_, _, rfl, q2, fun q => absurd q c, fun _ q => absurd d (by omega), fun _ _ => ⟨rfl, q3⟩⟩
    · rw [if_neg (show ¬ (nI 0 ≤ nI (pNumL t L M k 0).2 ∧ nI (pNumL t L M k 0).2 ≤ hi) from fun q => d ((hH _ hv).mp q.2)), if_pos rfl, q3.1, show nI (pNumL t L M k 0).1 - (1 : Int32) = nI ((pNumL t L M k 0).1 - 1) from i_sub (b := 1) (by omega), m_fault1 q3.2, bd1_s]
      have hw : (setI μ1 v_m_wrong 0 (nI ((pNumL t L M k 0).1 - 1))).1 v_m_wrong 0 = nI ((pNumL t L M k 0).1 - 1) := sI_eq _ _ _ _
      rw [m_fine0 (by omega) hw, bd2_s, if_pos rfl, bnd_s]
      exact ⟨_, _, rfl, q2.tr (RF.wr_ _ _), fun q => absurd q c, fun _ _ => hw, fun _ q => absurd q d⟩
theorem hi_th {th : Nat} (hth : th ≤ 14) : ∀ v, v < 100 → (nI v ≤ nI th - (1 : Int32) ↔ v < th) := fun v hv => by
  by_cases c : th = 0
  · subst c
    rw [show nI 0 - (1 : Int32) = -1 from rfl]
    exact ⟨fun q => absurd q (nI_nle_m1 (by omega)), fun q => absurd q (by omega)⟩
  · rw [show nI th - (1 : Int32) = nI (th - 1) from i_sub (b := 1) (by omega), i_leN (by omega) (by omega)]
    omega
theorem hi_n {H : Nat} (hH : H < 1000) : ∀ v, v < 100 → (nI v ≤ nI H ↔ v < H + 1) := fun v hv => by
  rw [i_leN (by omega) (by omega)]; omega
/-- faulty: it says where -/
theorem m_bad {w : Nat} (hw : w < 2 ^ 31) (h : μ.1 v_m_wrong 0 = nI w) (x1 x2 x3 x4 x5 : Int32) : f_m_street_b224 x1 x2 x3 x4 x5 μ = some (-1 - nI w, μ) := by
  unfold f_m_street_b224
  rw [m_fault0 hw h, bd1_s]
  have e : f_m_street_b243 x1 x2 x3 x4 x5 μ = some (-1 - nI w, μ) := by
    unfold f_m_street_b243
    rw [m_fine0 hw h, bd2_s, if_pos rfl, h]
  rw [e]
  by_cases c : μ.1 v_m_size 0 ≤ μ.1 v_m_at 0
  · rw [if_pos c]
  · rw [if_neg c]
theorem m_bad59 {w n : Nat} (hw : w < 2 ^ 31) (h : μ.1 v_m_wrong 0 = nI w) (x1 x2 x3 x4 x5 : Int32) : f_m_street_b210 (f_m_street_b59 (n + 1)) x1 x2 x3 x4 x5 μ = some (-1 - nI w, μ) := by
  unfold f_m_street_b210
  rw [m_passN hw h, bd2_s, f_m_street_b59, if_pos rfl, m_bad hw h]
end RM7
