/-! The reference's rule. -/
theorem hb_nar {c : Nat} (hc : c < 256) : vp_nar .byte (hb c) = hb c := by
  have e : hb c = (nI c).toInt8.toInt32 := if_neg (by omega)
  rw [e, vp_nar_byte, Int8.toInt8_toInt32]
theorem hb_t {c : Nat} (hc : c < 256) : (nI c).toInt8.toInt32 = hb c := (if_neg (by omega)).symm
section OPS
variable {N : Nat} {a : Ab} {b : Nat × Nat} {μ0 μ : Mem} {Q : Nat} {S : SP} {U : Nat → List Nat}
theorem MI.rules {μ' : Mem} (h : MI N Q a μ0 μ) (hN : N < 600) (e : ∀ v, v ≠ 161 → v ≠ 162 → v ≠ 163 → μ'.1 v = μ.1 v) (hl : μ'.2 = μ.2) : MR (N + 1) a μ' ∧ (∀ v, v < 133 → μ'.1 v = μ0.1 v) ∧ (∀ v, v ≠ 9 → μ'.2.1 v = μ0.2.1 v) ∧ μ'.2.2 = μ0.2.2 := by
  obtain ⟨hW, ⟨b, d, t, r, k⟩, q, h4, h5⟩ := h
  have k' : MKs N a μ' := k.of rfl rfl (fun v hv => e v (by omega) (by omega) (by omega))
  exact ⟨⟨hW, ⟨b.of (fun v hv => e v (by omega) (by omega) (by omega)), d.of (fun v hv => e v (by omega) (by omega) (by omega)), t.of (fun v hv => e v (by omega) (by omega) (by omega)), r.of (e _ (by decide) (by decide) (by decide)) (by rw [hl]), k'.up⟩, by omega, Q, by omega, q.of (fun v hv => e v (by omega) (by omega) (by omega))⟩, fun v hv => by rw [e v (by omega) (by omega) (by omega)]; exact h5.1 v (by omega), fun v hv => by rw [hl]; exact h5.2.1 v hv, by rw [hl]; exact h5.2.2⟩
theorem m_copy0 {t : List Nat} {n : Nat} (hn : n ≤ 40) (hb8 : ∀ j, t.getD j 0 < 256) : ∀ m j g (μ : Mem), m + j = n → m < g → (∀ i, i < n → μ.1 v_m_text i = hb (t.getD i 0)) → (∀ i, i < j → μ.1 v_m_rules0 i = hb (t.getD i 0)) → ∃ μ', f_m_rule_b85 g (nI 0) (nI n) (nI j) μ = some (0, μ') ∧ (∀ v, v ≠ 161 → v ≠ 163 → μ'.1 v = μ.1 v) ∧ μ'.2 = μ.2 ∧ μ'.1 v_m_ruleSize 0 = nI n ∧ μ'.1 v_m_ruleSize 1 = μ.1 v_m_ruleSize 1 ∧ ∀ i, i < n → μ'.1 v_m_rules0 i = hb (t.getD i 0)
  | 0, j, g + 1, μ, hj, _, ht, hr => by
    have e : j = n := by omega
    subst e
    refine ⟨setI μ v_m_ruleSize 0 (nI j), ?_, fun v _ h2 => sI_v _ _ _ h2, rfl, sI_eq _ _ _ _, sI_i _ _ _ (by decide), fun i hi => by rw [sI_v _ _ _ (by decide)]; exact hr i hi⟩
    rw [f_m_rule_b85, if_pos ((i_leN (by omega) (by omega)).mpr (Nat.le_refl _)), inb_n (by omega) (by omega), chk_t, cl_nI (show 0 < 2 ^ 31 by decide), bnd_s]
  | m + 1, j, g + 1, μ, hj, hg, ht, hr => by
    have ej : μ.1 v_m_text j = hb (t.getD j 0) := ht j (by omega)
    obtain ⟨μ', k1, k2, k3, k4, k5, k6⟩ := m_copy0 hn hb8 m (j + 1) g (setI μ v_m_rules0 j (hb (t.getD j 0))) (by omega) (by omega) (fun i hi => by rw [sI_v _ _ _ (by decide)]; exact ht i hi) (fun i hi => by
      by_cases c : i = j
      · rw [c, sI_eq]
      · rw [sI_i _ _ _ c]; exact hr i (by omega))
    refine ⟨μ', ?_, fun v h1 h2 => by rw [k2 v h1 h2, sI_v _ _ _ h1], by rw [k3]; rfl, k4, by rw [k5, sI_v _ _ _ (by decide)], k6⟩
    rw [f_m_rule_b85, if_neg (fun q => absurd ((i_leN (by omega) (by omega)).mp q) (by omega)), if_pos (show nI 0 = 0 from rfl), inb_n (by omega) (by omega), chk_t, inb_n (by omega) (by omega), chk_t, cl_nI (by omega), ej, hb_nar (hb8 j), bnd_s, l_1, i_add, k1]
theorem m_copy1 {t : List Nat} {n : Nat} (hn : n ≤ 40) (hb8 : ∀ j, t.getD j 0 < 256) : ∀ m j g (μ : Mem), m + j = n → m < g → (∀ i, i < n → μ.1 v_m_text i = hb (t.getD i 0)) → (∀ i, i < j → μ.1 v_m_rules1 i = hb (t.getD i 0)) → ∃ μ', f_m_rule_b85 g (nI 1) (nI n) (nI j) μ = some (0, μ') ∧ (∀ v, v ≠ 162 → v ≠ 163 → μ'.1 v = μ.1 v) ∧ μ'.2 = μ.2 ∧ μ'.1 v_m_ruleSize 1 = nI n ∧ μ'.1 v_m_ruleSize 0 = μ.1 v_m_ruleSize 0 ∧ ∀ i, i < n → μ'.1 v_m_rules1 i = hb (t.getD i 0)
  | 0, j, g + 1, μ, hj, _, ht, hr => by
    have e : j = n := by omega
    subst e
    refine ⟨setI μ v_m_ruleSize 1 (nI j), ?_, fun v _ h2 => sI_v _ _ _ h2, rfl, sI_eq _ _ _ _, sI_i _ _ _ (by decide), fun i hi => by rw [sI_v _ _ _ (by decide)]; exact hr i hi⟩
    rw [f_m_rule_b85, if_pos ((i_leN (by omega) (by omega)).mpr (Nat.le_refl _)), inb_n (by omega) (by omega), chk_t, cl_nI (show 1 < 2 ^ 31 by decide), bnd_s]
  | m + 1, j, g + 1, μ, hj, hg, ht, hr => by
    have ej : μ.1 v_m_text j = hb (t.getD j 0) := ht j (by omega)
    obtain ⟨μ', k1, k2, k3, k4, k5, k6⟩ := m_copy1 hn hb8 m (j + 1) g (setI μ v_m_rules1 j (hb (t.getD j 0))) (by omega) (by omega) (fun i hi => by rw [sI_v _ _ _ (by decide)]; exact ht i hi) (fun i hi => by
      by_cases c : i = j
      · rw [c, sI_eq]
      · rw [sI_i _ _ _ c]; exact hr i (by omega))
    refine ⟨μ', ?_, fun v h1 h2 => by rw [k2 v h1 h2, sI_v _ _ _ h1], by rw [k3]; rfl, k4, by rw [k5, sI_v _ _ _ (by decide)], k6⟩
    rw [f_m_rule_b85, if_neg (fun q => absurd ((i_leN (by omega) (by omega)).mp q) (by omega)), if_neg (show ¬ nI 1 = 0 by decide), if_pos (show nI 1 = 1 from rfl), inb_n (by omega) (by omega), chk_t, inb_n (by omega) (by omega), chk_t, cl_nI (by omega), ej, hb_nar (hb8 j), bnd_s, l_1, i_add, k1]
theorem MU.win0 {t : List Nat} {μ1 μ' : Mem} (hU : MU U μ) (hV : VU t) (e : μ1.1 v_m_rules1 = μ.1 v_m_rules1) (e1 : μ1.1 v_m_ruleSize = μ.1 v_m_ruleSize) (k2 : ∀ v, v ≠ 161 → v ≠ 163 → μ'.1 v = μ1.1 v) (k4 : μ'.1 v_m_ruleSize 0 = nI t.length) (k5 : μ'.1 v_m_ruleSize 1 = μ1.1 v_m_ruleSize 1) (k6 : ∀ i, i < t.length → μ'.1 v_m_rules0 i = hb (t.getD i 0)) : MU (fun i => if i = 0 then t else U i) μ' := by
  obtain ⟨hv, u1, u2, u3, u4⟩ := hU
  exact ⟨⟨hV, hv.2⟩, k4, by rw [k5, e1]; exact u2, k6, fun j hj => by rw [k2 _ (by decide) (by decide), e]; exact u4 j hj⟩
theorem MU.win1 {t : List Nat} {μ1 μ' : Mem} (hU : MU U μ) (hV : VU t) (e : μ1.1 v_m_rules0 = μ.1 v_m_rules0) (e1 : μ1.1 v_m_ruleSize = μ.1 v_m_ruleSize) (k2 : ∀ v, v ≠ 162 → v ≠ 163 → μ'.1 v = μ1.1 v) (k4 : μ'.1 v_m_ruleSize 1 = nI t.length) (k5 : μ'.1 v_m_ruleSize 0 = μ1.1 v_m_ruleSize 0) (k6 : ∀ i, i < t.length → μ'.1 v_m_rules1 i = hb (t.getD i 0)) : MU (fun i => if i = 1 then t else U i) μ' := by
  obtain ⟨hv, u1, u2, u3, u4⟩ := hU
  exact ⟨⟨hv.1, hV⟩, by rw [k5, e1]; exact u1, k4, fun j hj => by rw [k2 _ (by decide) (by decide), e]; exact u3 j hj, k6⟩
/-- the reference's state as a rule is begun -/
def mBg (μ : Mem) (n : Nat) : Mem := setI (setI (setI (setI (setI (setI (setI μ v_m_thrown 0 0) v_m_read 0 1) v_m_size 0 (nI n)) v_m_top 0 40) v_m_at 0 0) v_m_wrong 0 (-1)) v_m_typed 0 0
theorem mBg_v (μ : Mem) (n v : Nat) (hv : v ≠ 141 ∧ ¬ (143 ≤ v ∧ v ≤ 148)) : (mBg μ n).1 v = μ.1 v := by
  unfold mBg
  rw [sI_v _ _ _ hv.1, sI_v _ _ _ (show v ≠ 148 by omega), sI_v _ _ _ (show v ≠ 147 by omega), sI_v _ _ _ (show v ≠ 146 by omega), sI_v _ _ _ (show v ≠ 145 by omega), sI_v _ _ _ (show v ≠ 144 by omega), sI_v _ _ _ (show v ≠ 143 by omega)]
theorem mBg_I (h : MI N Q a μ0 μ) (n : Nat) : MI N Q (aSetT a []) μ0 (mBg μ n) := by
  have h6 := (((((h.put (v := v_m_thrown) 0 0 ⟨by unfold mIn; decide, by decide, by decide, by decide⟩).put (v := v_m_read) 0 1 ⟨by unfold mIn; decide, by decide, by decide, by decide⟩).put (v := v_m_size) 0 (nI n) ⟨by unfold mIn; decide, by decide, by decide, by decide⟩).put (v := v_m_top) 0 40 ⟨by unfold mIn; decide, by decide, by decide, by decide⟩).put (v := v_m_at) 0 0 ⟨by unfold mIn; decide, by decide, by decide, by decide⟩).put (v := v_m_wrong) 0 (-1) ⟨by unfold mIn; decide, by decide, by decide, by decide⟩
  exact h6.text ⟨by simp, by simp⟩ (fun v _ h2 => sI_v _ _ _ h2) rfl ⟨sI_eq _ _ _ _, fun k hk => absurd hk (by simp)⟩
theorem m_rule (hN : N < 600) {s : Nat} (hs : s < 2) (h : MR N a μ) (hU : MU U μ) : ∃ μ', f_m_rule (nI s) μ = some ((rlA (aT a) s U).1, μ') ∧ MOr N (aSetT a []) (rlA (aT a) s U).2 μ μ' := by
  have hT := h.2.1.2.2.1
  have hlen := h.1.2.2.2.2.1.1
  have hbt := h.1.2.2.2.2.1.2
  have hb8 := t_lt hbt
  obtain ⟨Q, hQ, hMI⟩ := h.MI
  have hB := mBg_I hMI (aT a).length
  have hsh : decide (nI s = (0 : Int32) ∨ nI s = 1) = true := decide_eq_true (by
    have : s = 0 ∨ s = 1 := by omega
    rcases this with q | q
    · left; rw [q]; rfl
    · right; rw [q]; rfl)
  have hty : (setI μ v_m_thrown 0 0).1 v_m_typed 0 = nI (aT a).length := by rw [sI_v _ _ _ (by decide)]; exact hT.1
  unfold f_m_rule
  rw [bnd_s, hty]
  unfold f_m_begin_116
  rw [bnd_s, bnd_s, bnd_s, bnd_s, bnd_s, bd1_s, bnd_s]
  show ∃ μ', (bd2 (f_m_in (nI s) 0 1 (mBg μ (aT a).length)) _) = _ ∧ _
  rw [m_isShop, bd2_s, hsh, if_neg (show ¬ nI (bN true) = 0 by decide), bnd_s]
  generalize hμ5 : setI (mBg μ (aT a).length) v_m_askedOne 0 (-1) = μ5
  have hI5 : MI N Q (aSetT a []) μ μ5 := by rw [← hμ5]; exact hB.put 0 _ ⟨by unfold mIn; decide, by decide, by decide, by decide⟩
  have e5 : ∀ v, v ≠ 141 ∧ ¬ (143 ≤ v ∧ v ≤ 148) → v ≠ 165 → μ5.1 v = μ.1 v := fun v hv h2 => by rw [← hμ5, sI_v _ _ _ h2, mBg_v _ _ _ hv]
  have htx : ∀ i, i < (aT a).length → μ5.1 v_m_text i = hb ((aT a).getD i 0) := fun i hi => by rw [e5 _ (by decide) (by decide), hT.2 i hi, hb_t (hb8 i)]
  -- how it ends when the rule is taken
  have win : ∀ μ', (∀ v, ¬ (143 ≤ v ∧ v ≤ 148) → μ'.1 v = μ5.1 v) → MI N Q (aSetT a []) μ μ' → VU (aT a) → (aT a).length ≤ 40 → ∃ μ'', f_m_rule_b83 (nI s) (nI (aT a).length) μ' = some (0, μ'') ∧ MOr N (aSetT a []) (fun i => if i = s then aT a else U i) μ μ'' := fun μ' g1 g2 g3 g4 => by
    have hs' : s = 0 ∨ s = 1 := by omega
    unfold f_m_rule_b83
    rcases hs' with q | q
    · subst q
      obtain ⟨μ'', k1, k2, k3, k4, k5, k6⟩ := m_copy0 g4 hb8 (aT a).length 0 FU μ' (by omega) (by unfold FU; omega) (fun i hi => by rw [g1 _ (by decide)]; exact htx i hi) (fun i hi => absurd hi (by omega))
      obtain ⟨z1, z2, z3, z4⟩ := g2.rules hN (fun v w1 w2 w3 => k2 v w1 w3) k3
      exact ⟨μ'', k1, z1, hU.win0 g3 (by rw [g1 _ (by decide), e5 _ (by decide) (by decide)]) (by rw [g1 _ (by decide), e5 _ (by decide) (by decide)]) k2 k4 k5 k6, z2, z3, z4⟩
    · subst q
      obtain ⟨μ'', k1, k2, k3, k4, k5, k6⟩ := m_copy1 g4 hb8 (aT a).length 0 FU μ' (by omega) (by unfold FU; omega) (fun i hi => by rw [g1 _ (by decide)]; exact htx i hi) (fun i hi => absurd hi (by omega))
      obtain ⟨z1, z2, z3, z4⟩ := g2.rules hN (fun v w1 w2 w3 => k2 v w2 w3) k3
      exact ⟨μ'', k1, z1, hU.win1 g3 (by rw [g1 _ (by decide), e5 _ (by decide) (by decide)]) (by rw [g1 _ (by decide), e5 _ (by decide) (by decide)]) k2 k4 k5 k6, z2, z3, z4⟩
  have lose : ∀ μ', (∀ v, ¬ (143 ≤ v ∧ v ≤ 148) → μ'.1 v = μ5.1 v) → MI N Q (aSetT a []) μ μ' → MOr N (aSetT a []) U μ μ' := fun μ' g1 g2 => (g2.done hN).r hU
  unfold rlA
  by_cases c0 : aT a = []
  · have hl0 : (aT a).length = 0 := by rw [c0]; rfl
    rw [if_pos c0, if_pos (show nI (aT a).length ≤ 0 by rw [hl0]; decide)]
    obtain ⟨μ'', k1, k2⟩ := win μ5 (fun _ _ => rfl) hI5 (Or.inl c0) (by omega)
    rw [c0] at k2 k1
    refine ⟨μ'', ?_, k2⟩
    rw [c0]; exact k1
  · have hpos : 0 < (aT a).length := List.length_pos_iff.mpr c0
    have hE : RE (aT a) (min (aT a).length 40) μ5 := by
      refine ⟨⟨by omega, hb8⟩, ⟨(aT a).length, hlen, ?_, rfl⟩, ?_, Or.inl ⟨?_, fun j hj => htx j (by omega)⟩⟩
      · rw [← hμ5, sI_v _ _ _ (by decide)]; unfold mBg; rw [sI_v _ _ _ (by decide), sI_v _ _ _ (by decide), sI_v _ _ _ (by decide), sI_v _ _ _ (by decide), sI_eq]
      · rw [← hμ5, sI_v _ _ _ (by decide)]; unfold mBg; rw [sI_v _ _ _ (by decide), sI_v _ _ _ (by decide), sI_v _ _ _ (by decide), sI_eq]; rfl
      · rw [← hμ5, sI_v _ _ _ (by decide)]; unfold mBg; rw [sI_v _ _ _ (by decide), sI_v _ _ _ (by decide), sI_v _ _ _ (by decide), sI_v _ _ _ (by decide), sI_v _ _ _ (by decide), sI_eq]
    have hLv : LVs lv0 μ5 := fun c i m hc hf => by
      have : m.1 v_m_askedOne 0 = -1 := by rw [hf.1 _ (by decide) (by decide), ← hμ5, sI_eq]
      rw [this, if_pos rfl]
      rfl
    have hS : MSt 0 μ5 := by
      refine ⟨?_, ?_⟩
      · rw [← hμ5, sI_v _ _ _ (by decide)]; unfold mBg; rw [sI_v _ _ _ (by decide), sI_v _ _ _ (by decide), sI_eq]; rfl
      · rw [← hμ5, sI_v _ _ _ (by decide)]; unfold mBg; rw [sI_v _ _ _ (by decide), sI_eq]
    have hF := m_held hE (m_th hE hLv 50 5 0 rfl) (pTh_gd (lv := lv0) 6 0)
    obtain ⟨v, μ1, q1, q2, q3, q4⟩ := hF 0 μ5 (by omega) (Nat.zero_le _) (RF.rf _) hS
    have q3' : (prU lv0 (aT a) (min (aT a).length 40)).1 = true → MSt (prU lv0 (aT a) (min (aT a).length 40)).2.1 μ1 ∧ v = _ := q3
    have q4' : (prU lv0 (aT a) (min (aT a).length 40)).1 = false → μ1.1 v_m_wrong 0 = nI (prU lv0 (aT a) (min (aT a).length 40)).2.1 := q4
    obtain ⟨_, b2, _⟩ := prU_gd lv0 (aT a) (min (aT a).length 40)
    have hI1 : MI N Q (aSetT a []) μ μ1 := by
      obtain ⟨w1, w2, w3, w4, w5⟩ := hI5
      exact ⟨w1, mIn.fr w2 (fun v hv => q2.1 v (fun z => hv (by unfold mIn; omega)) (fun z => hv (by unfold mIn; omega))) q2.2, w3.of (fun v hv => q2.1 v (by omega) (by omega)), w4, w5.tr ⟨fun v hv => q2.1 v (by omega) (by omega), fun v _ => by rw [q2.2], by rw [q2.2]⟩⟩
    have e1 : ∀ v, ¬ (143 ≤ v ∧ v ≤ 148) → μ1.1 v = μ5.1 v := fun v hv => q2.1 v (by omega) (by omega)
    rw [if_neg c0, if_neg (show ¬ nI (aT a).length ≤ 0 from fun q => absurd ((i_leN (b := 0) (by omega) (by omega)).mp q) (by omega)), show (0 : Int32) = nI 0 from rfl, q1, bd2_s]
    by_cases d : (prU lv0 (aT a) (min (aT a).length 40)).1 = true
    · have hM := (q3' d).1
      rw [hM.1, d]
      by_cases e : (prU lv0 (aT a) (min (aT a).length 40)).2.1 = (aT a).length
      · rw [if_pos ((i_leN (by omega) (by omega)).mpr (by omega)), if_pos (show true = true ∧ _ from ⟨rfl, e⟩)]
        obtain ⟨μ'', k1, k2⟩ := win μ1 e1 hI1 (rlA_VU hs hbt hU.1 d e) (by omega)
        refine ⟨μ'', ?_, k2⟩
        unfold f_m_rule_b69
        rw [m_fine1 hM.2, bd2_s, if_neg (by decide), k1]
        rfl
      · rw [if_neg (fun q => absurd ((i_leN (by omega) (by omega)).mp q) (by omega)), if_neg (show ¬ (true = true ∧ (prU lv0 (aT a) (min (aT a).length 40)).2.1 = (aT a).length) from fun q => e q.2), m_fault1 hM.2, bd1_s]
        refine ⟨_, ?_, lose (setI μ1 v_m_wrong 0 (nI (prU lv0 (aT a) (min (aT a).length 40)).2.1)) (fun v hv => by rw [sI_v _ _ _ (show v ≠ 148 by omega)]; exact e1 v hv) (hI1.put 0 _ ⟨by unfold mIn; decide, by decide, by decide, by decide⟩)⟩
        unfold f_m_rule_b69
        rw [m_fine0 (w := (prU lv0 (aT a) (min (aT a).length 40)).2.1) (by omega) (sI_eq _ _ _ _), bd2_s, if_pos rfl, sI_eq]
    · have hw := q4' (bF d)
      rw [if_neg (show ¬ ((prU lv0 (aT a) (min (aT a).length 40)).1 = true ∧ (prU lv0 (aT a) (min (aT a).length 40)).2.1 = (aT a).length) from fun q => d q.1)]
      have hz : f_m_rule_b69 (nI s) (nI (aT a).length) μ1 = some (-1 - nI (prU lv0 (aT a) (min (aT a).length 40)).2.1, μ1) := by
        unfold f_m_rule_b69
        rw [m_fine0 (w := (prU lv0 (aT a) (min (aT a).length 40)).2.1) (by omega) hw, bd2_s, if_pos rfl, hw]
      refine ⟨μ1, ?_, lose μ1 e1 hI1⟩
      rw [m_fault0 (w := (prU lv0 (aT a) (min (aT a).length 40)).2.1) (by omega) hw, bd1_s, hz]
      by_cases f : nI (aT a).length ≤ μ1.1 v_m_at 0
      · rw [if_pos f]
      · rw [if_neg f]
theorem op_rule {x : Int32} : OpU N a U (f_x_rule x) (f_m_rule x) := fun hW hN => by
  by_cases c : x = 0 ∨ x = 1
  · obtain ⟨s, hs, rfl⟩ := shop_n c
    exact ⟨_, aSetT a [], _, fun μ h hU => x_rule hN hs h hU, fun ν h hU => m_rule hN hs h hU⟩
  · refine ⟨-100, aSetT a [], U, fun μ h hU => ⟨setI μ v_x_signs 0 0, ?_, ?_⟩, fun ν h hU => ?_⟩
    · unfold f_x_rule
      rw [bnd_s, x_isShop, bd2_s, decide_eq_false c, if_pos (show nI (bN false) = 0 by decide)]
    · have hX0 : XI N (4 * N, 0) (aSetT a []) μ (setI μ v_x_signs 0 0) := h.XI.text ⟨by simp, by simp⟩ (fun v _ h2 => sI_v _ _ _ h2) rfl ⟨sI_eq _ _ _ _, fun k hk => absurd hk (by simp)⟩
      exact (hX0.done hN).r hU
    · obtain ⟨Q, hQ, hMI⟩ := h.MI
      refine ⟨mBg ν (aT a).length, ?_, ((mBg_I hMI (aT a).length).done hN).r hU⟩
      have hty : (setI ν v_m_thrown 0 0).1 v_m_typed 0 = nI (aT a).length := by rw [sI_v _ _ _ (by decide)]; exact h.2.1.2.2.1.1
      unfold f_m_rule
      rw [bnd_s, hty]
      unfold f_m_begin_116
      rw [bnd_s, bnd_s, bnd_s, bnd_s, bnd_s, bd1_s, bnd_s]
      show (bd2 (f_m_in x 0 1 (mBg ν (aT a).length)) _) = _
      rw [m_isShop, bd2_s, decide_eq_false c, if_pos (show nI (bN false) = 0 by decide)]
end OPS
