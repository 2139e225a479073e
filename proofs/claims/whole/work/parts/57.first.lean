/-! first. -/
def hitK (a : Ab) : Nat → Nat → Bool
  | 0, _ => false
  | k + 1, s => (fAs (aS a) k (aN a) && decide (nxt (aS a) k = s)) || hitK a k s
def pFi (a : Ab) (s : Nat) : Bool := fAs (aS a) s (aN a) && !hitK a (2 ^ (aS a).1) s
section OPS
variable {N : Nat} {a : Ab} {b : Nat × Nat} {μ0 μ : Mem} {Q : Nat} {S : SP}
theorem x_first_dn (hN : N < 600) {f : Nat → Nat → Option Nat} (hf : ∀ s, s < 2 ^ (aS a).1 → f 0 s = if hitK a (2 ^ (aS a).1) s then some 1 else none) (h : XI N b a μ0 μ) (hM : ME (aS a).1 f μ) : ∀ k m x g, k ≤ 2 ^ (aS a).1 → m + k < 2 ^ 30 → k < g → ∃ μ', f_ob_withoutPast_b80 g (nI (aN a)) (nI m) x (nI k + (-1 : Int32)) μ = some (nI (dn (pFi a) k m x).1, μ') ∧ XO N (aSetR a (rAns (dn (pFi a) k m x).1 (dn (pFi a) k m x).2)) μ0 μ' := by
  have hW := h.1
  have h14 := p2_14 hW.1.1
  have hnow := now_lt hW
  intro k
  induction k with
  | zero =>
    intro m x g hk hm hg
    obtain ⟨g, rfl⟩ : ∃ z, g = z + 1 := ⟨g - 1, by omega⟩
    obtain ⟨μ', k1, k2, _⟩ := ob_answer h hN (m := m) (by omega) x
    refine ⟨μ', ?_, k2⟩
    rw [f_ob_withoutPast_b80, i_m1, if_pos (by decide), k1, bd2_s]
    rfl
  | succ k ih =>
    intro m x g hk hm hg
    obtain ⟨g, rfl⟩ : ∃ z, g = z + 1 := ⟨g - 1, by omega⟩
    have hks : k < 2 ^ (aS a).1 := by omega
    rw [dn, f_ob_withoutPast_b80, i_dec (by omega), Nat.add_sub_cancel, if_neg (i_nlt0 (by omega)), ob_firmAs h.2.1.1 hks hnow, bd2_s]
    cases hfa : fAs (aS a) k (aN a) with
    | false =>
      rw [if_pos (show nI (bN false) = 0 by decide), if_neg (by unfold pFi; rw [hfa]; simp)]
      exact ih m x g (by omega) (by omega) (by omega)
    | true =>
      rw [if_neg (show ¬ nI (bN true) = 0 by decide), l_0, me_recall hW.1.1 hM (by omega) hks, bd2_s, hf k hks]
      cases hh : hitK a (2 ^ (aS a).1) k with
      | true =>
        rw [if_neg (show ¬ oI (if true = true then some 1 else none) = -1 by decide), if_neg (by unfold pFi; rw [hfa, hh]; simp)]
        exact ih m x g (by omega) (by omega) (by omega)
      | false =>
        rw [if_pos (show oI (if false = true then some 1 else none) = -1 from rfl), if_pos (by unfold pFi; rw [hfa, hh]; rfl), l_1, i_add]
        exact ih (m + 1) (nI k) g (by omega) (by omega) (by omega)
theorem x_first_up (hN : N < 600) : ∀ r s g f (μ : Mem), s + r = 2 ^ (aS a).1 → r < g → XI N b a μ0 μ → ME (aS a).1 f μ → (∀ s', s' < 2 ^ (aS a).1 → f 0 s' = if hitK a s s' then some 1 else none) → ∃ μ', f_ob_withoutPast_b24 g (nI (aN a)) (nI s) μ = some (nI (dn (pFi a) (2 ^ (aS a).1) 0 (nI 0)).1, μ') ∧ XO N (aSetR a (rAns (dn (pFi a) (2 ^ (aS a).1) 0 (nI 0)).1 (dn (pFi a) (2 ^ (aS a).1) 0 (nI 0)).2)) μ0 μ' := by
  intro r
  induction r with
  | zero =>
    intro s g f μ hs hg h hM hf
    obtain ⟨g, rfl⟩ : ∃ z, g = z + 1 := ⟨g - 1, by omega⟩
    have h14 := p2_14 h.1.1.1
    obtain rfl : s = 2 ^ (aS a).1 := by omega
    obtain ⟨μ', k1, k2⟩ := x_first_dn hN hf h hM (2 ^ (aS a).1) 0 (nI 0) FU (Nat.le_refl _) (by omega) (by unfold FU; omega)
    refine ⟨μ', ?_, k2⟩
    have h1 := Nat.one_le_two_pow (n := (aS a).1)
    rw [f_ob_withoutPast_b24, st_everybody h.2.1.1, bd2_s, if_pos ((i_ltN (by omega) (by omega)).mpr (by omega)), st_everybody h.2.1.1, bd2_s, ev_dec]
    exact k1
  | succ r ih =>
    intro s g f μ hs hg h hM hf
    obtain ⟨g, rfl⟩ : ∃ z, g = z + 1 := ⟨g - 1, by omega⟩
    have h14 := p2_14 h.1.1.1
    have hnow := now_lt h.1
    have hsl : s < 2 ^ (aS a).1 := by omega
    rw [f_ob_withoutPast_b24, st_everybody h.2.1.1, bd2_s, if_neg (fun q => absurd ((i_ltN (by omega) (by omega)).mp q) (by omega)), ob_firmAs h.2.1.1 hsl hnow, bd2_s]
    cases hfa : fAs (aS a) s (aN a) with
    | false =>
      rw [if_pos (show nI (bN false) = 0 by decide), l_1, i_add]
      refine ih (s + 1) g f μ (by omega) (by omega) h hM (fun s' hs' => ?_)
      rw [hf s' hs', hitK, hfa, Bool.false_and, Bool.false_or]
    | true =>
      obtain ⟨μ1, l1, l2, l3⟩ := h.after hsl
      have hM1 : ME (aS a).1 f μ1 := hM.fr (fun v h1 h2 => l3.1 v (by omega))
      obtain ⟨μ2, n1, n2, n3, _⟩ := me_note (u := 1) l2 hM1 (l := 0) (s := nxt (aS a) s) (by omega) (nxt_lt _ _) (by omega)
      rw [if_neg (show ¬ nI (bN true) = 0 by decide), l1, bd2_s, l_0, l_1, n1, bd1_s, i_add]
      refine ih (s + 1) g _ μ2 (by omega) (by omega) n2 n3 (fun s' hs' => ?_)
      unfold fup
      rw [hitK, hfa, Bool.true_and]
      by_cases e : s' = nxt (aS a) s
      · rw [if_pos ⟨rfl, e⟩, decide_eq_true e.symm, Bool.true_or, if_pos rfl]
      · rw [if_neg (fun q => e q.2), decide_eq_false (fun q => e q.symm), Bool.false_or, hf s' hs']
theorem m_first_dn (hN : N < 600) (h : MI N Q a μ0 μ) (hQ : Q < 2 ^ 31) (hf : ∀ s, s < 2 ^ (aS a).1 → (μ.1 v_m_cameIn s = nI Q ↔ hitK a (2 ^ (aS a).1) s = true)) : ∀ k m x g, k ≤ 2 ^ (aS a).1 → m + k < 2 ^ 30 → k < g → ∃ μ', f_m_first_b66 g (nI m) x (nI k + (-1 : Int32)) μ = some (nI (dn (pFi a) k m x).1, μ') ∧ MO N (aSetR a (rAns (dn (pFi a) k m x).1 (dn (pFi a) k m x).2)) μ0 μ' := by
  have hW := h.1
  have h14 := p2_14 hW.1.1
  have hnow := now_lt hW
  intro k
  induction k with
  | zero =>
    intro m x g hk hm hg
    obtain ⟨g, rfl⟩ : ∃ z, g = z + 1 := ⟨g - 1, by omega⟩
    obtain ⟨μ', k1, k2⟩ := m_answer h hN (m := m) (by omega) x
    refine ⟨μ', ?_, k2⟩
    rw [f_m_first_b66, i_m1, if_pos (by decide)]
    exact k1
  | succ k ih =>
    intro m x g hk hm hg
    obtain ⟨g, rfl⟩ : ∃ z, g = z + 1 := ⟨g - 1, by omega⟩
    have hks : k < 2 ^ (aS a).1 := by omega
    rw [dn, f_m_first_b66, i_dec (by omega), Nat.add_sub_cancel, if_neg (i_nlt0 (by omega)), m_now hW h.2.1.2.1, bd2_s, m_firmAs h.2.1.1 hks hnow, bd2_s]
    cases hfa : fAs (aS a) k (aN a) with
    | false =>
      rw [if_pos (show nI (bN false) = 0 by decide), if_neg (by unfold pFi; rw [hfa]; simp)]
      exact ih m x g (by omega) (by omega) (by omega)
    | true =>
      rw [if_neg (show ¬ nI (bN true) = 0 by decide), inb_n (by omega) (by omega), chk_t, cl_nI (by omega), h.2.2.1.1]
      cases hh : hitK a (2 ^ (aS a).1) k with
      | true =>
        rw [if_pos ((hf k hks).mpr hh), if_neg (by unfold pFi; rw [hfa, hh]; simp)]
        exact ih m x g (by omega) (by omega) (by omega)
      | false =>
        rw [if_neg (fun q => by rw [(hf k hks).mp q] at hh; exact absurd hh (by decide)), if_pos (by unfold pFi; rw [hfa, hh]; rfl), l_1, i_add]
        exact ih (m + 1) (nI k) g (by omega) (by omega) (by omega)
theorem MI.mark (h : MI N Q a μ0 μ) {s : Nat} : MI N Q a μ0 (setI μ v_m_cameIn s (nI Q)) := by
  obtain ⟨h1, h2, ⟨q1, q2, q3⟩, h4, h5⟩ := h
  have hm : mIn v_m_cameIn := by unfold mIn; decide
  refine ⟨h1, mIn.fr h2 (fun u hu => sI_v _ _ _ (fun q => hu (q ▸ hm))) rfl, ⟨?_, fun k hk => ?_, fun k hk => ?_⟩, h4, h5.tr (MFr.I _ _ _ (by decide))⟩
  · rw [sI_v _ _ _ (by decide)]; exact q1
  · by_cases e : k = s
    · subst e; exact ⟨Q, Nat.le_refl _, sI_eq _ _ _ _⟩
    · rw [sI_i _ _ _ e]; exact q2 k hk
  · rw [sI_v _ _ _ (by decide)]; exact q3 k hk
theorem m_first_up (hN : N < 600) (hQ : Q < 2 ^ 31) : ∀ r s g (μ : Mem), s + r = 2 ^ (aS a).1 → r < g → MI N Q a μ0 μ → (∀ s', s' < 2 ^ (aS a).1 → (μ.1 v_m_cameIn s' = nI Q ↔ hitK a s s' = true)) → ∃ μ', f_m_first_b17 g (nI s) μ = some (nI (dn (pFi a) (2 ^ (aS a).1) 0 (-1)).1, μ') ∧ MO N (aSetR a (rAns (dn (pFi a) (2 ^ (aS a).1) 0 (-1)).1 (dn (pFi a) (2 ^ (aS a).1) 0 (-1)).2)) μ0 μ' := by
  intro r
  induction r with
  | zero =>
    intro s g μ hs hg h hf
    obtain ⟨g, rfl⟩ : ∃ z, g = z + 1 := ⟨g - 1, by omega⟩
    have h14 := p2_14 h.1.1.1
    obtain rfl : s = 2 ^ (aS a).1 := by omega
    obtain ⟨μ', k1, k2⟩ := m_first_dn hN h hQ hf (2 ^ (aS a).1) 0 (-1) FU (Nat.le_refl _) (by omega) (by unfold FU; omega)
    refine ⟨μ', ?_, k2⟩
    have h1 := Nat.one_le_two_pow (n := (aS a).1)
    rw [f_m_first_b17, m_everybody h.2.1.1, bd2_s, if_pos ((i_ltN (by omega) (by omega)).mpr (by omega)), m_everybody h.2.1.1, bd2_s, ev_dec]
    exact k1
  | succ r ih =>
    intro s g μ hs hg h hf
    obtain ⟨g, rfl⟩ : ∃ z, g = z + 1 := ⟨g - 1, by omega⟩
    have h14 := p2_14 h.1.1.1
    have hnow := now_lt h.1
    have hsl : s < 2 ^ (aS a).1 := by omega
    have hnl := nxt_lt (aS a) s
    rw [f_m_first_b17, m_everybody h.2.1.1, bd2_s, if_neg (fun q => absurd ((i_ltN (by omega) (by omega)).mp q) (by omega)), m_now h.1 h.2.1.2.1, bd2_s, m_firmAs h.2.1.1 hsl hnow, bd2_s]
    cases hfa : fAs (aS a) s (aN a) with
    | false =>
      rw [if_pos (show nI (bN false) = 0 by decide), l_1, i_add]
      refine ih (s + 1) g μ (by omega) (by omega) h (fun s' hs' => ?_)
      rw [hf s' hs', hitK, hfa, Bool.false_and, Bool.false_or]
    | true =>
      rw [if_neg (show ¬ nI (bN true) = 0 by decide), m_next h.2.1.1 hsl, bd2_s, inb_n (by omega) (by omega), chk_t, cl_nI (by omega), h.2.2.1.1, bnd_s, l_1, i_add]
      refine ih (s + 1) g _ (by omega) (by omega) h.mark (fun s' hs' => ?_)
      rw [hitK, hfa, Bool.true_and]
      by_cases e : s' = nxt (aS a) s
      · rw [e, sI_eq, decide_eq_true rfl, Bool.true_or]; simp
      · rw [sI_i _ _ _ e, decide_eq_false (fun q => e q.symm), Bool.false_or, hf s' hs']
theorem op_first : OpI N a f_x_first f_m_first := by
  intro hW hN
  have h14 := p2_14 hW.1.1
  refine ⟨nI (dn (pFi a) (2 ^ (aS a).1) 0 (nI 0)).1, aSetR a (rAns (dn (pFi a) (2 ^ (aS a).1) 0 (nI 0)).1 (dn (pFi a) (2 ^ (aS a).1) 0 (nI 0)).2), fun μ h => ?_, fun ν h => m_start h fun Q ν1 hQ hI _ => ?_⟩
  · obtain ⟨μ1, b1, b2, b3, _⟩ := me_begin h.XI (by show 4 * N + 1 ≤ _; omega)
    obtain ⟨μ', k1, k2⟩ := x_first_up hN (2 ^ (aS a).1) 0 FU _ μ1 (by omega) (by unfold FU; omega) b2 b3 (fun s' _ => rfl)
    refine ⟨μ', ?_, k2⟩
    unfold f_x_first f_ob_withoutPast
    rw [st_now hW h.2.1, bd2_s, h.2.1.1.1, b1, bd1_s, l_0, k1, bd2_s]
  · have hN6 := hI.2.2.2.1.1
    obtain ⟨hA, hB⟩ := hI.ask (by omega)
    have hq := hI.2.2.1.1
    obtain ⟨μ', k1, k2⟩ := m_first_up hN (Q := Q + 1) (by omega) (2 ^ (aS a).1) 0 FU _ (by omega) (by unfold FU; omega) hA (fun s' hs' => by
      obtain ⟨w, w1, w2⟩ := hB s' (by omega)
      rw [w2, hitK, i_eqN (by omega) (by omega)]
      constructor
      · intro q; omega
      · intro q; exact absurd q (by decide))
    rw [rAns_x (pFi a) _ (-1) (nI 0)] at k2
    rw [(dn_x (pFi a) (2 ^ (aS a).1) 0 (-1) (nI 0)).1] at k1
    refine ⟨μ', ?_, k2⟩
    rw [hq, l_1, i_add, bnd_s]
    exact k1
end OPS
