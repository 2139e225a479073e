/-! level: the reference, and both. -/
section OPS
variable {N : Nat} {a : Ab} {b : Nat × Nat} {μ0 μ : Mem} {Q : Nat} {S S1 : SP}
abbrev nS (a : Ab) (ne : Nat → Nat) : SP := ((aS a).1, (aS a).2.1, ne, (aS a).2.2.2)
theorem nS_ok (hW : WF a) {ne : Nat → Nat} (h : ∀ i, i < (aS a).1 → ne i ≤ 99) : SOk (nS a ne) ∧ zOut (nS a ne).1 (nS a ne).2.1 := ⟨⟨hW.1.1, hW.1.2.1, h, hW.1.2.2.2⟩, hW.2.1⟩
/-- one need put -/
theorem MI.need1 (hW : WF a) {ne : Nat → Nat} (hne : ∀ i, i < (aS a).1 → ne i ≤ 99) (h : MI N Q (aSetS a (nS a ne)) μ0 μ) {i v : Nat} (hv : v ≤ 99) : MI N Q (aSetS a (nS a (fnu ne i v))) μ0 (setI μ v_m_need i (nI v)) := by
  have hB : MB (nS a ne) μ := h.2.1.1
  have hok := nS_ok hW (ne := fnu ne i v) (fun k hk => by
    by_cases e : k = i
    · subst e; rw [fnu_eq]; exact hv
    · rw [fnu_ne _ _ e]; exact hne k hk)
  exact h.street (S := nS a (fnu ne i v)) rfl hok (fun u h1 _ => sI_v _ _ _ h1) rfl ⟨by rw [sI_v _ _ _ (by decide)]; exact hB.1, fun k l hk hl => by rw [sI_v _ _ _ (by decide)]; exact hB.2.1 k l hk hl, sI_fnu hB.2.2.1 i v, by rw [sI_v _ _ _ (by decide)]; exact hB.2.2.2.1, hok.1⟩
theorem MI.needs (hW : WF a) {ne ne' : Nat → Nat} (hne : ∀ i, i < (aS a).1 → ne' i ≤ 99) (h : MI N Q (aSetS a (nS a ne)) μ0 μ) (he : ∀ i, i < (aS a).1 → ne i = ne' i) : MI N Q (aSetS a (nS a ne')) μ0 μ := by
  have hB : MB (nS a ne) μ := h.2.1.1
  have hok := nS_ok hW hne
  exact h.street (S := nS a ne') rfl hok (fun u _ _ => rfl) rfl ⟨hB.1, hB.2.1, fun i hi => by show _ = nI (ne' i); rw [← he i hi]; exact hB.2.2.1 i hi, hB.2.2.2.1, hok.1⟩
def WasN (a : Ab) (k : Nat) (μ : Mem) : Prop := ∀ i, i < k → μ.1 v_m_needWas i = nI ((aS a).2.2.1 i)
theorem m_lv_back (hW : WF a) (hN : N < 600) {x2 x3 : Int32} {ans : Int32 × Ab} (hans : ans = if 0 ≤ x2 then (x2, aSetR a [x3.toInt64]) else (-2, a)) : ∀ m k g ne (μ : Mem), k + m = (aS a).1 → m < g → (∀ i, i < (aS a).1 → ne i ≤ 99) → (∀ i, i < k → ne i = (aS a).2.2.1 i) → MI N Q (aSetS a (nS a ne)) μ0 μ → WasN a (aS a).1 μ → ∃ μ', f_m_level_b129 g x2 x3 (nI k) μ = some (ans.1, μ') ∧ MO N ans.2 μ0 μ' := by
  intro m
  induction m with
  | zero =>
    intro k g ne μ hk hg hne he h hw
    obtain ⟨g, rfl⟩ : ∃ z, g = z + 1 := ⟨g - 1, by omega⟩
    have hp := hW.1.1
    obtain rfl : k = (aS a).1 := by omega
    have hI : MI N Q a μ0 μ := h.needs hW hW.1.2.2.1 he
    rw [f_m_level_b129, hI.2.1.1.1, if_pos ((i_leN (by omega) (by omega)).mpr (Nat.le_refl _)), hans]
    by_cases c : 0 ≤ x2
    · obtain ⟨e1, e2⟩ := m_clear μ
      obtain ⟨μ1, a1, a2, a3⟩ := m_tell x3.toInt64 e1 (by simp)
      rw [if_pos c, if_pos c]
      exact ⟨μ1, by rw [bnd_s, a1, bd1_s], hI.told hN (by simp) a2 (e2.tr a3)⟩
    · rw [if_neg c, if_neg c]
      exact ⟨μ, rfl, hI.done hN⟩
  | succ m ih =>
    intro k g ne μ hk hg hne he h hw
    obtain ⟨g, rfl⟩ : ∃ z, g = z + 1 := ⟨g - 1, by omega⟩
    have hp := hW.1.1
    have h1 : μ.1 v_m_people 0 = nI (aS a).1 := h.2.1.1.1
    have hx := h.need1 hW hne (i := k) (hW.1.2.2.1 k (by omega))
    rw [f_m_level_b129, h1, if_neg (fun q => absurd ((i_leN (by omega) (by omega)).mp q) (by omega)), inb_n (by omega) (by omega), chk_t, chk_t, cl_nI (by omega), hw k (by omega), bnd_s, l_1, i_add]
    refine ih (k + 1) g (fnu ne k ((aS a).2.2.1 k)) _ (by omega) (by omega) (fun i hi => ?_) (fun i hi => ?_) hx (fun i hi => by rw [sI_v _ _ _ (by decide)]; exact hw i hi)
    · by_cases e : i = k
      · subst e; rw [fnu_eq]; exact hW.1.2.2.1 i hi
      · rw [fnu_ne _ _ e]; exact hne i hi
    · by_cases e : i = k
      · subst e; rw [fnu_eq]
      · rw [fnu_ne _ _ e]; exact he i (by omega)
theorem m_lv_set (hW : WF a) (k54 : Int32 → Int32 → Int32 → Int32 → Mem → Option (Int32 × Mem)) {n v : Nat} {x2 x3 : Int32} (hn : n < 19000) (hv : v ≤ 99) : ∀ m k g ne (μ : Mem), k + m = (aS a).1 → m < g → (∀ i, i < (aS a).1 → ne i ≤ 99) → (∀ i, i < k → ne i = v) → MI N Q (aSetS a (nS a ne)) μ0 μ → WasN a (aS a).1 μ → ∃ ne' μ', (∀ i, i < (aS a).1 → ne' i ≤ 99) ∧ MI N Q (aSetS a (nS a ne')) μ0 μ' ∧ WasN a (aS a).1 μ' ∧ f_m_level_b66 k54 g (nI n) x2 x3 (nI v) (nI k) μ = if okL a n v = none then k54 (nI n) x2 x3 (nI v + (-1 : Int32)) μ' else k54 (nI n) (nI v) (oI (okL a n v)) (nI v + (-1 : Int32)) μ' := by
  intro m
  induction m with
  | zero =>
    intro k g ne μ hk hg hne he h hw
    obtain ⟨g, rfl⟩ : ∃ z, g = z + 1 := ⟨g - 1, by omega⟩
    have hp := hW.1.1
    obtain rfl : k = (aS a).1 := by omega
    have hI : MI N Q (aSetS a (nS a (fun _ => v))) μ0 μ := h.needs hW (fun _ _ => hv) he
    have hnow := now_lt hW
    refine ⟨ne, μ, hne, h, hw, ?_⟩
    have hB : MB (nS a (fun _ => v)) μ := hI.2.1.1
    have h1 : μ.1 v_m_people 0 = nI (aS a).1 := hB.1
    have hev : f_m_everybody μ = some (nI (2 ^ (aS a).1 - 1), μ) := m_everybody (S := nS a (fun _ => v)) hB
    have hnw : f_m_now μ = some (nI (aN a), μ) := m_now (a := aSetS a (nS a (fun _ => v))) hI.1 hI.2.1.2.1
    have hdy : f_m_dayOf (nI (2 ^ (aS a).1 - 1)) (nI (aN a)) (nI n) μ = some (oI (okL a n v), μ) := m_dayOf (S := nS a (fun _ => v)) hB (ev_lt _) hnow hn
    rw [f_m_level_b66, h1, if_pos ((i_leN (by omega) (by omega)).mpr (Nat.le_refl _)), hev, bd2_s, hnw, bd2_s, hdy, bd2_s]
    by_cases c : okL a n v = none
    · rw [c, if_pos (show oI none = -1 from rfl), if_pos rfl]
    · rw [if_neg (show ¬ oI (okL a n v) = -1 from fun q => c ((dyF_ne hn).mp q)), if_neg c]
  | succ m ih =>
    intro k g ne μ hk hg hne he h hw
    obtain ⟨g, rfl⟩ : ∃ z, g = z + 1 := ⟨g - 1, by omega⟩
    have hp := hW.1.1
    have h1 : μ.1 v_m_people 0 = nI (aS a).1 := h.2.1.1.1
    have hx := h.need1 hW hne (i := k) hv
    rw [f_m_level_b66, h1, if_neg (fun q => absurd ((i_leN (by omega) (by omega)).mp q) (by omega)), inb_n (by omega) (by omega), chk_t, cl_nI (by omega), bnd_s, show nI k + 1 = nI (k + 1) from i_add k 1]
    refine ih (k + 1) g (fnu ne k v) _ (by omega) (by omega) (fun i hi => ?_) (fun i hi => ?_) hx (fun i hi => by rw [sI_v _ _ _ (by decide)]; exact hw i hi)
    · by_cases e : i = k
      · subst e; rw [fnu_eq]; exact hv
      · rw [fnu_ne _ _ e]; exact hne i hi
    · by_cases e : i = k
      · subst e; rw [fnu_eq]
      · rw [fnu_ne _ _ e]; exact he i (by omega)
theorem m_lv_lp (hW : WF a) (hN : N < 600) {n : Nat} (hn : n < 19000) : ∀ k g x3 ne (μ : Mem), k ≤ 100 → k + 1 < g → tpL a n 100 ≤ k → (∀ i, i < (aS a).1 → ne i ≤ 99) → MI N Q (aSetS a (nS a ne)) μ0 μ → WasN a (aS a).1 μ → ∃ μ', f_m_level_b54 g (nI n) (-2) x3 (nI k + (-1 : Int32)) μ = some ((lvA a n).1, μ') ∧ MO N (lvA a n).2 μ0 μ' := by
  have hp := hW.1.1
  intro k
  induction k with
  | zero =>
    intro g x3 ne μ hk hg ht hne h hw
    obtain ⟨g, rfl⟩ : ∃ z, g = z + 1 := ⟨g - 1, by omega⟩
    have e : lvA a n = (-2, a) := by unfold lvA; rw [if_pos (by omega)]
    rw [f_m_level_b54, i_m1, if_pos (by decide)]
    exact m_lv_back hW hN (ans := lvA a n) (by rw [e, if_neg (by decide)]) (aS a).1 0 FU ne μ (by omega) (by unfold FU; omega) hne (fun i hi => absurd hi (by omega)) h hw
  | succ k ih =>
    intro g x3 ne μ hk hg ht hne h hw
    obtain ⟨g, rfl⟩ : ∃ z, g = z + 1 := ⟨g - 1, by omega⟩
    obtain ⟨ne', μ1, b1, b2, b3, b4⟩ := m_lv_set hW (f_m_level_b54 g) (n := n) (v := k) (x2 := -2) (x3 := x3) hn (by omega) (aS a).1 0 FU ne μ (by omega) (by unfold FU; omega) hne (fun i hi => absurd hi (by omega)) h hw
    have hiff := tpL_iff (a := a) n 100 k (by omega)
    rw [f_m_level_b54, i_dec (by omega), Nat.add_sub_cancel, if_neg (i_nlt0 (by omega)), if_neg (by decide), l_0, b4]
    by_cases c : okL a n k = none
    · rw [if_pos c]
      have : ¬ k < tpL a n 100 := fun q => hiff.mpr q c
      exact ih g x3 ne' μ1 (by omega) (by omega) (by omega) b1 b2 b3
    · have hlt := hiff.mp c
      have ht' : tpL a n 100 = k + 1 := by omega
      have e : lvA a n = (nI k, aSetR a [(oI (okL a n k)).toInt64]) := by unfold lvA; rw [if_neg (by omega), ht', Nat.add_sub_cancel]
      have h0 : (0 : Int32) ≤ nI k := (i_leN (a := 0) (by omega) (by omega)).mpr (by omega)
      rw [if_neg c]
      obtain ⟨g, rfl⟩ : ∃ z, g = z + 1 := ⟨g - 1, by omega⟩
      have fin := m_lv_back (Q := Q) (μ0 := μ0) hW hN (x2 := nI k) (x3 := oI (okL a n k)) (ans := lvA a n) (by rw [e, if_pos h0]) (aS a).1 0 FU ne' μ1 (by omega) (by unfold FU; omega) b1 (fun i hi => absurd hi (by omega)) b2 b3
      rw [f_m_level_b54]
      by_cases c2 : nI k + (-1 : Int32) < 0
      · rw [if_pos c2]; exact fin
      · rw [if_neg c2, if_pos h0]; exact fin
theorem m_lv_0 (hW : WF a) (hN : N < 600) {n : Nat} (hn : n < 19000) : ∀ m k g (μ : Mem), k + m = (aS a).1 → m < g → MI N Q a μ0 μ → WasN a k μ → ∃ μ', f_m_level_b19 g (nI n) (nI k) μ = some ((lvA a n).1, μ') ∧ MO N (lvA a n).2 μ0 μ' := by
  have hp := hW.1.1
  intro m
  induction m with
  | zero =>
    intro k g μ hk hg h hw
    obtain ⟨g, rfl⟩ : ∃ z, g = z + 1 := ⟨g - 1, by omega⟩
    obtain rfl : k = (aS a).1 := by omega
    have hT := tpL_le (a := a) n 100
    rw [f_m_level_b19, h.2.1.1.1, if_pos ((i_leN (by omega) (by omega)).mpr (Nat.le_refl _))]
    exact m_lv_lp hW hN hn 100 FU 0 (aS a).2.2.1 μ (by omega) (by unfold FU; omega) hT hW.1.2.2.1 h hw
  | succ m ih =>
    intro k g μ hk hg h hw
    obtain ⟨g, rfl⟩ : ∃ z, g = z + 1 := ⟨g - 1, by omega⟩
    have hx := h.put (v := v_m_needWas) k (nI ((aS a).2.2.1 k)) ⟨by unfold mIn; decide, by decide, by decide, by decide⟩
    rw [f_m_level_b19, h.2.1.1.1, if_neg (fun q => absurd ((i_leN (by omega) (by omega)).mp q) (by omega)), inb_n (by omega) (by omega), chk_t, chk_t, cl_nI (by omega), h.2.1.1.2.2.1 k (by omega), bnd_s, l_1, i_add]
    refine ih (k + 1) g _ (by omega) (by omega) hx (fun i hi => ?_)
    by_cases e : i = k
    · rw [e, sI_eq]
    · rw [sI_i _ _ _ e]; exact hw i (by omega)
theorem op_level (x : Int32) : OpI N a (f_x_level x) (f_m_level x) := by
  intro hW hN
  by_cases c : 0 ≤ x ∧ x ≤ 20
  · obtain ⟨n, hn, rfl⟩ := talk_n c
    refine ⟨(lvA a n).1, (lvA a n).2, fun μ h => ?_, fun ν h => m_start h fun Q ν1 hQ hI _ => ?_⟩
    · obtain ⟨μ', k1, k2⟩ := x_level hN (n := n) (by omega) h
      refine ⟨μ', ?_, k2⟩
      unfold f_x_level
      rw [x_talkDay, bd2_s, decide_eq_true c, if_neg (by decide), k1, bd2_s]
    · rw [m_in, if_pos c, bd2_s, if_neg (by decide)]
      exact m_lv_0 hW hN (by omega) (aS a).1 0 FU ν1 (by omega) (by have := hW.1.1; unfold FU; omega) hI (fun i hi => absurd hi (by omega))
  · refine ⟨-1, a, fun μ h => x_same h hN ?_, fun ν h => m_start h fun Q ν1 hQ hI _ => m_same hI hN ?_⟩
    · unfold f_x_level
      rw [x_talkDay, bd2_s, decide_eq_false c, if_pos (by decide)]
    · rw [m_in, if_neg c, bd2_s, if_pos (by decide)]
end OPS
