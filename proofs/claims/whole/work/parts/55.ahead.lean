/-! ahead. -/
def fAs (S : SP) (s t : Nat) : Bool := decide ((s ^^^ t) &&& S.2.2.2 = 0)
/-- counting down: how many, and the last of them -/
def dn (P : Nat → Bool) : Nat → Nat → Int32 → Nat × Int32
  | 0, m, x => (m, x)
  | k + 1, m, x => if P k then dn P k (m + 1) (nI k) else dn P k m x
theorem dn_x (P : Nat → Bool) : ∀ k m x y, (dn P k m x).1 = (dn P k m y).1 ∧ m ≤ (dn P k m x).1 ∧ (dn P k m x).1 ≤ m + k ∧ ((dn P k m x).1 = m ∨ (dn P k m x).2 = (dn P k m y).2)
  | 0, m, x, y => ⟨rfl, Nat.le_refl _, Nat.le_refl _, Or.inl rfl⟩
  | k + 1, m, x, y => by
    rw [dn, dn]
    split
    · have := dn_x P k (m + 1) (nI k) (nI k)
      exact ⟨rfl, by omega, by omega, Or.inr rfl⟩
    · have := dn_x P k m x y
      exact ⟨this.1, this.2.1, by omega, this.2.2.2⟩
theorem i_m1 : nI 0 + (-1 : Int32) = -1 := rfl
section OPS
variable {N : Nat} {a : Ab} {b : Nat × Nat} {μ0 μ : Mem} {Q : Nat} {S : SP}
theorem ob_firmAs (h : XB S μ) {s t : Nat} (hs : s < 2 ^ S.1) (ht : t < 2 ^ S.1) : f_ob_isFirmAs (nI s) (nI t) μ = some (nI (bN (fAs S s t)), μ) := by
  have h1 := h.2.2.2.1
  have hx : (s ^^^ t) &&& S.2.2.2 < 2 ^ S.1 := and_lt (xor_lt hs ht)
  have hx' := p2_31 h.2.2.2.2.1 hx
  unfold f_ob_isFirmAs fAs
  rw [h1, i_xor, i_and, b_if, bnd_s, zb_b, chk_t]
  have e : decide (nI ((s ^^^ t) &&& S.2.2.2) = 0) = decide ((s ^^^ t) &&& S.2.2.2 = 0) := decide_eq_decide.mpr (i_eqN (b := 0) hx' (by omega))
  rw [e]
theorem m_firmAs (h : MB S μ) {s t : Nat} (hs : s < 2 ^ S.1) (ht : t < 2 ^ S.1) : f_m_isFirmAs (nI s) (nI t) μ = some (nI (bN (fAs S s t)), μ) := by
  have h1 := h.2.2.2.1
  have hx : (s ^^^ t) &&& S.2.2.2 < 2 ^ S.1 := and_lt (xor_lt hs ht)
  have hx' := p2_31 h.2.2.2.2.1 hx
  unfold f_m_isFirmAs fAs
  rw [h1, i_xor, i_and, b_if, bnd_s, zb_b, chk_t]
  have e : decide (nI ((s ^^^ t) &&& S.2.2.2) = 0) = decide ((s ^^^ t) &&& S.2.2.2 = 0) := decide_eq_decide.mpr (i_eqN (b := 0) hx' (by omega))
  rw [e]
/-- what is told of how many and the lowest -/
def rAns (m : Nat) (x : Int32) : List Int64 := if m = 0 then [] else [x.toInt64]
theorem ob_answer (h : XI N b a μ0 μ) (hN : N < 600) {m : Nat} (hm : m < 2 ^ 31) (x : Int32) : ∃ μ', f_ob_answer (nI m) x μ = some (nI m, μ') ∧ XO N (aSetR a (rAns m x)) μ0 μ' ∧ XW (rAns m x) μ' ∧ rFr μ μ' := by
  obtain ⟨μ1, a1, a2, a3⟩ := rw_clear μ
  unfold f_ob_answer rAns
  by_cases c : m = 0
  · subst c
    refine ⟨μ1, by rw [a1, bd1_s, if_pos (show nI 0 ≤ 0 by decide)], ?_⟩
    rw [if_pos rfl]
    exact ⟨h.told hN (by simp) a2 a3, a2, a3⟩
  · obtain ⟨μ2, b1, b2, b3⟩ := rw_add x.toInt64 a2 (by simp)
    refine ⟨μ2, by rw [a1, bd1_s, if_neg (fun q => c (by have := (i_leN (b := 0) hm (by omega)).mp q; omega)), b1, bd1_s], ?_⟩
    rw [if_neg c]
    exact ⟨h.told hN (by simp) b2 (a3.tr b3), b2, a3.tr b3⟩
theorem m_answer (h : MI N Q a μ0 μ) (hN : N < 600) {m : Nat} (hm : m < 2 ^ 31) (x : Int32) : ∃ μ', (bnd (setI μ v_m_rowMany 0 (0 : Int32)) fun μ11 => if nI m ≤ 0 then (some (nI m, μ11)) else (bd1 (f_m_tell x.toInt64 μ11) fun μ14 => some (nI m, μ14))) = some (nI m, μ') ∧ MO N (aSetR a (rAns m x)) μ0 μ' := by
  obtain ⟨a2, a3⟩ := m_clear μ
  unfold rAns
  by_cases c : m = 0
  · subst c
    refine ⟨_, by rw [bnd_s, if_pos (show nI 0 ≤ 0 by decide)], ?_⟩
    rw [if_pos rfl]
    exact h.told hN (by simp) a2 a3
  · obtain ⟨μ2, b1, b2, b3⟩ := m_tell x.toInt64 a2 (by simp)
    refine ⟨μ2, by rw [bnd_s, if_neg (fun q => c (by have := (i_leN (b := 0) hm (by omega)).mp q; omega)), b1, bd1_s], ?_⟩
    rw [if_neg c]
    exact h.told hN (by simp) b2 (a3.tr b3)
def pAh (a : Ab) (n s : Nat) : Bool := fAs (aS a) s (aN a) && decide (itr (aS a) n s = aN a)
theorem x_ahead_lp (hN : N < 600) {n : Nat} (hn : n < 19000) : ∀ k m x g (μ : Mem), k ≤ 2 ^ (aS a).1 → m + k < 2 ^ 30 → k < g → XI N b a μ0 μ → ∃ μ', f_ob_leadHere_b22 g (nI n) (nI (aN a)) (nI m) x (nI k + (-1 : Int32)) μ = some (nI (dn (pAh a n) k m x).1, μ') ∧ XO N (aSetR a (rAns (dn (pAh a n) k m x).1 (dn (pAh a n) k m x).2)) μ0 μ' := by
  intro k
  induction k with
  | zero =>
    intro m x g μ hk hm hg h
    obtain ⟨g, rfl⟩ : ∃ z, g = z + 1 := ⟨g - 1, by omega⟩
    obtain ⟨μ', k1, k2, _⟩ := ob_answer h hN (m := m) (by omega) x
    refine ⟨μ', ?_, k2⟩
    rw [f_ob_leadHere_b22, i_m1, if_pos (by decide), k1, bd2_s]
    rfl
  | succ k ih =>
    intro m x g μ hk hm hg h
    obtain ⟨g, rfl⟩ : ∃ z, g = z + 1 := ⟨g - 1, by omega⟩
    have hW := h.1
    have h14 := p2_14 hW.1.1
    have hnow := now_lt hW
    have hi := itr_lt (S := aS a) n (s := k) (by omega)
    rw [dn, f_ob_leadHere_b22, i_dec (by omega), Nat.add_sub_cancel, if_neg (i_nlt0 (by omega)), ob_firmAs h.2.1.1 (by omega) hnow, bd2_s]
    cases hf : fAs (aS a) k (aN a) with
    | false =>
      rw [if_pos (show nI (bN false) = 0 by decide), if_neg (by unfold pAh; rw [hf]; simp)]
      exact ih m x g μ (by omega) (by omega) (by omega) h
    | true =>
      obtain ⟨μ1, l1, l2, _⟩ := x_later h (s := k) (n := n) (by omega) hn
      rw [if_neg (show ¬ nI (bN true) = 0 by decide), l1, bd2_s]
      by_cases hq : itr (aS a) n k = aN a
      · rw [if_pos (by rw [hq]), if_pos (by unfold pAh; rw [hf, decide_eq_true hq]; rfl), l_1, i_add]
        exact ih (m + 1) (nI k) g μ1 (by omega) (by omega) (by omega) l2
      · rw [if_neg (fun q => hq (nI_inj (by omega) (by omega) q)), if_neg (by unfold pAh; rw [hf, decide_eq_false hq]; simp)]
        exact ih m x g μ1 (by omega) (by omega) (by omega) l2
theorem m_ahead_lp (hN : N < 600) {n : Nat} (hn : n < 19000) (h : MI N Q a μ0 μ) : ∀ k m x g, k ≤ 2 ^ (aS a).1 → m + k < 2 ^ 30 → k < g → ∃ μ', f_m_ahead_b26 g (nI n) (nI m) x (nI k + (-1 : Int32)) μ = some (nI (dn (pAh a n) k m x).1, μ') ∧ MO N (aSetR a (rAns (dn (pAh a n) k m x).1 (dn (pAh a n) k m x).2)) μ0 μ' := by
  have hW := h.1
  have h14 := p2_14 hW.1.1
  have hnow := now_lt hW
  intro k
  induction k with
  | zero =>
    intro m x g hk hm hg
    obtain ⟨g, rfl⟩ : ∃ z, g = z + 1 := ⟨g - 1, by omega⟩
    obtain ⟨μ', k1, k2⟩ := m_answer h hN (m := m) (by omega) x
    refine ⟨μ', ?_, k2⟩
    rw [f_m_ahead_b26, i_m1, if_pos (by decide)]
    exact k1
  | succ k ih =>
    intro m x g hk hm hg
    obtain ⟨g, rfl⟩ : ∃ z, g = z + 1 := ⟨g - 1, by omega⟩
    have hi := itr_lt (S := aS a) n (s := k) (by omega)
    rw [dn, f_m_ahead_b26, i_dec (by omega), Nat.add_sub_cancel, if_neg (i_nlt0 (by omega)), m_now hW h.2.1.2.1, bd2_s, m_firmAs h.2.1.1 (by omega) hnow, bd2_s]
    cases hf : fAs (aS a) k (aN a) with
    | false =>
      rw [if_pos (show nI (bN false) = 0 by decide), if_neg (by unfold pAh; rw [hf]; simp)]
      exact ih m x g (by omega) (by omega) (by omega)
    | true =>
      rw [if_neg (show ¬ nI (bN true) = 0 by decide), m_after h.2.1.1 (by omega) hn, bd2_s, m_now hW h.2.1.2.1, bd2_s]
      by_cases hq : itr (aS a) n k = aN a
      · rw [if_pos (by rw [hq]), if_pos (by unfold pAh; rw [hf, decide_eq_true hq]; rfl), l_1, i_add]
        exact ih (m + 1) (nI k) g (by omega) (by omega) (by omega)
      · rw [if_neg (fun q => hq (nI_inj (by omega) (by omega) q)), if_neg (by unfold pAh; rw [hf, decide_eq_false hq]; simp)]
        exact ih m x g (by omega) (by omega) (by omega)
theorem rAns_x (P : Nat → Bool) (k : Nat) (x y : Int32) : rAns (dn P k 0 x).1 (dn P k 0 x).2 = rAns (dn P k 0 y).1 (dn P k 0 y).2 := by
  obtain ⟨h1, _, _, h4⟩ := dn_x P k 0 x y
  unfold rAns
  rcases h4 with h4 | h4
  · rw [← h1, if_pos h4, if_pos h4]
  · rw [← h1, h4]
theorem ev_dec (p : Nat) : nI (2 ^ p - 1) = nI (2 ^ p) + (-1 : Int32) := (i_dec Nat.one_le_two_pow).symm
theorem op_ahead (x : Int32) : OpI N a (f_x_ahead x) (f_m_ahead x) := by
  intro hW hN
  have h14 := p2_14 hW.1.1
  rcases i_casesQ x with hx | ⟨n, hn, rfl⟩
  · refine ⟨-1, a, fun μ h => x_same h hN ?_, fun ν h => m_start h fun Q ν1 _ hI _ => m_same hI hN ?_⟩
    · unfold f_x_ahead f_x_ahead_b10
      rw [if_pos (show x < 1 by rw [i_lt] at hx ⊢; have : (nI 0).toInt = 0 := rfl; have : (1 : Int32).toInt = 1 := rfl; omega)]
    · rw [m_in, if_neg (fun q => absurd q.1 (by rw [i_le]; rw [i_lt] at hx; have : (nI 0).toInt = 0 := rfl; have : (1 : Int32).toInt = 1 := rfl; omega)), bd2_s, if_pos rfl]
  by_cases hc : 1 ≤ n ∧ n ≤ 3
  · refine ⟨nI (dn (pAh a n) (2 ^ (aS a).1) 0 0).1, aSetR a (rAns (dn (pAh a n) (2 ^ (aS a).1) 0 0).1 (dn (pAh a n) (2 ^ (aS a).1) 0 0).2), fun μ h => ?_, fun ν h => m_start h fun Q ν1 _ hI _ => ?_⟩
    · obtain ⟨μ', k1, k2⟩ := x_ahead_lp hN (n := n) (by omega) (2 ^ (aS a).1) 0 0 FU μ (Nat.le_refl _) (by omega) (by unfold FU; omega) h.XI
      refine ⟨μ', ?_, k2⟩
      rw [← ev_dec] at k1
      unfold f_x_ahead f_ob_leadHere
      rw [l_1, if_neg (fun q => absurd ((i_ltN hn (by omega)).mp q) (by omega)), l_3, if_pos ((i_leN hn (by omega)).mpr hc.2), st_now hW h.2.1, bd2_s, st_everybody h.2.1.1, bd2_s, show (0 : Int32) = nI 0 from rfl]
      rw [show (0 : Int32) = nI 0 from rfl] at k1
      rw [k1, bd2_s]
    · obtain ⟨μ', k1, k2⟩ := m_ahead_lp hN (n := n) (by omega) hI (2 ^ (aS a).1) 0 (-1) FU (Nat.le_refl _) (by omega) (by unfold FU; omega)
      rw [rAns_x (pAh a n) _ (-1) 0] at k2
      rw [(dn_x (pAh a n) (2 ^ (aS a).1) 0 (-1) 0).1, ← ev_dec] at k1
      refine ⟨μ', ?_, k2⟩
      rw [l_1, l_3, m_in1 hn (by omega), bd2_s, decide_eq_true hc, if_neg (by decide), m_everybody hI.2.1.1, bd2_s]
      exact k1
  · refine ⟨-1, a, fun μ h => x_same h hN ?_, fun ν h => m_start h fun Q ν1 _ hI _ => m_same hI hN ?_⟩
    · unfold f_x_ahead f_x_ahead_b10
      rw [l_1, l_3]
      by_cases q : 1 ≤ n
      · rw [if_neg (fun r => absurd ((i_ltN (by omega) (by omega)).mp r) (by omega)), if_neg (fun r => absurd ((i_leN (by omega) (by omega)).mp r) (by omega))]
      · rw [if_pos ((i_ltN (by omega) (by omega)).mpr (by omega))]
    · rw [l_1, l_3, m_in1 hn (by omega), bd2_s, decide_eq_false hc, if_pos (by decide)]
end OPS
