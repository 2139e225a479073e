/-! change: the reference, and both. -/
section OPS
variable {N : Nat} {a : Ab} {b : Nat × Nat} {μ0 μ : Mem} {Q : Nat} {S S1 : SP}
/-- a row of pairs, and those behind it -/
theorem row_split (P : Nat → Bool) {p i m : Nat} (hi : i < p) (hP : ∀ j, j ≤ i → P (i * p + j) = false) : fsI P ((m + 1) * p) (i * p) = (match fsI P (p - (i + 1)) (i * p + (i + 1)) with
  | none => fsI P (m * p) ((i + 1) * p)
  | some v => some v) := by
  have e1 : (m + 1) * p = (i + 1) + ((p - (i + 1)) + m * p) := by rw [Nat.add_mul, Nat.one_mul]; omega
  rw [e1, fsI_skip (fun j h1 h2 => by
    have := hP (j - i * p) (by omega)
    rw [show i * p + (j - i * p) = j by omega] at this
    exact this), fsI_split, show i * p + (i + 1) + (p - (i + 1)) = (i + 1) * p by rw [Nat.add_mul, Nat.one_mul]; omega]
  cases fsI P (p - (i + 1)) (i * p + (i + 1)) <;> rfl
theorem pP_row {n i j : Nat} (hj : j < (aS a).1) : pP a S1 n (i * (aS a).1 + j) = (decide (i < j) && soB a (trS S1 i j) n) := by
  obtain ⟨e1, e2⟩ := pr_dm (i := i) hj
  unfold pP ordK
  rw [e1, e2]
theorem pP_no {n i j : Nat} (hi : i < (aS a).1) (hj : j ≤ i) : pP a S1 n (i * (aS a).1 + j) = false := by
  rw [pP_row (by omega), decide_eq_false (by omega), Bool.false_and]
theorem m_ch1_in (hN : N < 600) (k33 : Int32 → Int32 → Mem → Option (Int32 × Mem)) {n i : Nat} (hn : n < 19000) (hi : i < (aS a).1) : ∀ m j g (μ : Mem), j + m = (aS a).1 → i < j → m < g → MI N Q a μ0 μ → (match fsI (pP a (aS a) n) m (i * (aS a).1 + j) with
    | some k => ∃ μ', f_m_change_b45 k33 g (nI n) (nI i) (nI j) μ = some (1, μ') ∧ MO N (aSetR a (tl1 (aS a).1 k)) μ0 μ'
    | none => ∃ μ', f_m_change_b45 k33 g (nI n) (nI i) (nI j) μ = k33 (nI n) (nI (i + 1)) μ' ∧ MI N Q a μ0 μ') := by
  intro m
  induction m with
  | zero =>
    intro j g μ hj hij hg h
    obtain ⟨g, rfl⟩ : ∃ z, g = z + 1 := ⟨g - 1, by omega⟩
    have hp := h.1.1.1
    refine ⟨μ, ?_, h⟩
    rw [f_m_change_b45, h.2.1.1.1, if_pos ((i_leN (by omega) (by omega)).mpr (by omega)), show nI i + 1 = nI (i + 1) from i_add i 1]
  | succ m ih =>
    intro j g μ hj hij hg h
    obtain ⟨g, rfl⟩ : ∃ z, g = z + 1 := ⟨g - 1, by omega⟩
    have hp := h.1.1.1
    obtain ⟨μ1, a1, a2, _⟩ := m_isSoBy (kp := 0) h hn (show i ≠ j by omega) hi (show j < (aS a).1 by omega) (by omega)
    rw [fsI, pP_row (by omega), decide_eq_true hij, Bool.true_and, f_m_change_b45, h.2.1.1.1, if_neg (fun q => absurd ((i_leN (by omega) (by omega)).mp q) (by omega)), show f_m_isSoBy (nI i) (nI j) (nI n) 0 μ = _ from a1, bd2_s]
    cases c : soB a (trS (aS a) i j) n with
    | false =>
      rw [if_neg (show ¬ false = true by decide), if_pos (show nI (bN false) = 0 by decide), show nI j + 1 = nI (j + 1) from i_add j 1, Nat.add_assoc]
      exact ih (j + 1) g μ1 (by omega) (by omega) (by omega) a2
    | true =>
      rw [if_pos rfl, if_neg (show ¬ nI (bN true) = 0 by decide)]
      obtain ⟨e1, e2⟩ := m_clear μ1
      obtain ⟨μ2, f1, f2, f3⟩ := m_tell (nI i).toInt64 e1 (by simp)
      obtain ⟨μ3, g1, g2, g3⟩ := m_tell (nI j).toInt64 f2 (by simp)
      obtain ⟨d1, d2⟩ := pr_dm (i := i) (show j < (aS a).1 by omega)
      refine ⟨μ3, by rw [bnd_s, f1, bd1_s, g1, bd1_s], ?_⟩
      have := a2.told hN (by simp) g2 ((e2.tr f3).tr g3)
      unfold tl1
      rw [d1, d2]
      exact this
theorem m_ch1_out (hN : N < 600) {n : Nat} (hn : n < 19000) : ∀ m i g (μ : Mem), i + m = (aS a).1 → m < g → MI N Q a μ0 μ → (match fsI (pP a (aS a) n) (m * (aS a).1) (i * (aS a).1) with
    | some k => ∃ μ', f_m_change_b33 g (nI n) (nI i) μ = some (1, μ') ∧ MO N (aSetR a (tl1 (aS a).1 k)) μ0 μ'
    | none => ∃ μ', f_m_change_b33 g (nI n) (nI i) μ = f_m_change_b100 FU (nI n) (nI 0) μ' ∧ MI N Q a μ0 μ') := by
  intro m
  induction m with
  | zero =>
    intro i g μ hi hg h
    obtain ⟨g, rfl⟩ : ∃ z, g = z + 1 := ⟨g - 1, by omega⟩
    have hp := h.1.1.1
    rw [Nat.zero_mul]
    refine ⟨μ, ?_, h⟩
    rw [f_m_change_b33, h.2.1.1.1, if_pos ((i_leN (by omega) (by omega)).mpr (by omega))]
    rfl
  | succ m ih =>
    intro i g μ hi hg h
    obtain ⟨g, rfl⟩ : ∃ z, g = z + 1 := ⟨g - 1, by omega⟩
    have hp := h.1.1.1
    have hin := m_ch1_in hN (f_m_change_b33 g) hn (show i < (aS a).1 by omega) ((aS a).1 - (i + 1)) (i + 1) FU μ (by omega) (by omega) (by unfold FU; omega) h
    rw [row_split _ (show i < (aS a).1 by omega) (fun j hj => pP_no (by omega) hj)]
    have e0 : f_m_change_b33 (g + 1) (nI n) (nI i) μ = f_m_change_b45 (f_m_change_b33 g) FU (nI n) (nI i) (nI (i + 1)) μ := by
      rw [f_m_change_b33, h.2.1.1.1, if_neg (fun q => absurd ((i_leN (by omega) (by omega)).mp q) (by omega)), show nI i + 1 = nI (i + 1) from i_add i 1]
    rw [e0]
    cases c : fsI (pP a (aS a) n) ((aS a).1 - (i + 1)) (i * (aS a).1 + (i + 1)) with
    | some k =>
      rw [c] at hin
      exact hin
    | none =>
      rw [c] at hin
      obtain ⟨μ1, a1, a2⟩ := hin
      rw [a1]
      exact ih (i + 1) g μ1 (by omega) (by omega) a2
/-- with one pair changed -/
abbrev aTr (a : Ab) (i j : Nat) : Ab := aSetS a (trS (aS a) i j)
def Was2 (a : Ab) (i j : Nat) (μ : Mem) : Prop := μ.1 v_m_loudWas 0 = nI ((aS a).2.1 i j) ∧ μ.1 v_m_loudWas 1 = nI ((aS a).2.1 j i)
def r4 (i j p k : Nat) : List Int64 := [(nI i).toInt64, (nI j).toInt64, (nI (k / p)).toInt64, (nI (k % p)).toInt64]
theorem m_ch2_in (k13 : Int32 → Int32 → Int32 → Int32 → Int32 → Mem → Option (Int32 × Mem)) {n i1 j1 c : Nat} (hn : n < 19000) (hc : c < (aS a).1) : ∀ m d g (μ : Mem), d + m = (aS a).1 → c < d → m < g → MI N Q (aTr a i1 j1) μ0 μ → Was2 a i1 j1 μ → (match fsI (pP a (trS (aS a) i1 j1) n) m (c * (aS a).1 + d) with
    | some k => ∃ μ', f_m_isSoWithTwo_b45 k13 g (nI i1) (nI j1) (nI n) 0 (nI c) (nI d) μ = k13 (nI i1) (nI j1) (nI n) (nI 1) (nI (c + 1)) μ' ∧ MI N Q (aSetR (aTr a i1 j1) (r4 i1 j1 (aS a).1 k)) μ0 μ' ∧ Was2 a i1 j1 μ'
    | none => ∃ μ', f_m_isSoWithTwo_b45 k13 g (nI i1) (nI j1) (nI n) 0 (nI c) (nI d) μ = k13 (nI i1) (nI j1) (nI n) (nI 0) (nI (c + 1)) μ' ∧ MI N Q (aTr a i1 j1) μ0 μ' ∧ Was2 a i1 j1 μ') := by
  intro m
  induction m with
  | zero =>
    intro d g μ hd hcd hg h hw
    obtain ⟨g, rfl⟩ : ∃ z, g = z + 1 := ⟨g - 1, by omega⟩
    have hp : (aS a).1 ≤ 14 := h.1.1.1
    have h1 : μ.1 v_m_people 0 = nI (aS a).1 := h.2.1.1.1
    refine ⟨μ, ?_, h, hw⟩
    rw [f_m_isSoWithTwo_b45, h1, if_pos ((i_leN (by omega) (by omega)).mpr (by omega)), show nI c + 1 = nI (c + 1) from i_add c 1]
    rfl
  | succ m ih =>
    intro d g μ hd hcd hg h hw
    obtain ⟨g, rfl⟩ : ∃ z, g = z + 1 := ⟨g - 1, by omega⟩
    have hp : (aS a).1 ≤ 14 := h.1.1.1
    have h1 : μ.1 v_m_people 0 = nI (aS a).1 := h.2.1.1.1
    obtain ⟨μ1, a1, a2, a3⟩ := m_isSoBy (a := aTr a i1 j1) (kp := 2) h hn (show c ≠ d by omega) hc (show d < (aS a).1 by omega) (by omega)
    have hw1 : Was2 a i1 j1 μ1 := ⟨by rw [a3 0 (by omega)]; exact hw.1, by rw [a3 1 (by omega)]; exact hw.2⟩
    have a1' : f_m_isSoBy (nI c) (nI d) (nI n) 2 μ = some (nI (bN (soB a (trS (trS (aS a) i1 j1) c d) n)), μ1) := a1
    rw [fsI, pP_row (by omega), decide_eq_true hcd, Bool.true_and, f_m_isSoWithTwo_b45, h1, if_neg (fun q => absurd ((i_leN (by omega) (by omega)).mp q) (by omega)), if_pos rfl, a1', bd2_s]
    cases q : soB a (trS (trS (aS a) i1 j1) c d) n with
    | false =>
      rw [if_neg (show ¬ false = true by decide), if_pos (show nI (bN false) = 0 by decide), show nI d + 1 = nI (d + 1) from i_add d 1, Nat.add_assoc]
      exact ih (d + 1) g μ1 (by omega) (by omega) (by omega) a2 hw1
    | true =>
      rw [if_pos rfl, if_neg (show ¬ nI (bN true) = 0 by decide)]
      obtain ⟨e1, e2⟩ := m_clear μ1
      obtain ⟨μ2, f1, f2, f3⟩ := m_tell (nI i1).toInt64 e1 (by simp)
      obtain ⟨μ3, g1, g2, g3⟩ := m_tell (nI j1).toInt64 f2 (by simp)
      obtain ⟨μ4, u1, u2, u3⟩ := m_tell (nI c).toInt64 g2 (by simp)
      obtain ⟨μ5, v1, v2, v3⟩ := m_tell (nI d).toInt64 u2 (by simp)
      obtain ⟨d1, d2⟩ := pr_dm (i := c) (show d < (aS a).1 by omega)
      have hfr := (((e2.tr f3).tr g3).tr u3).tr v3
      have hx := a2.row (r := r4 i1 j1 (aS a).1 (c * (aS a).1 + d)) (by simp [r4]) (by unfold r4; rw [d1, d2]; exact v2) hfr
      refine ⟨μ5, ?_, hx, by rw [hfr.1 _ (by decide)]; exact hw1.1, by rw [hfr.1 _ (by decide)]; exact hw1.2⟩
      rw [bnd_s, f1, bd1_s, g1, bd1_s, u1, bd1_s, v1, bd1_s]
      obtain ⟨g, rfl⟩ : ∃ z, g = z + 1 := ⟨g - 1, by omega⟩
      have h5 : μ5.1 v_m_people 0 = nI (aS a).1 := hx.2.1.1.1
      rw [f_m_isSoWithTwo_b45, h5, show nI c + 1 = nI (c + 1) from i_add c 1]
      split
      · rfl
      · rw [if_neg (show ¬ nI (bN true) = 0 by decide)]
        rfl
/-- the rest of the search for a second pair, from row c on -/
theorem m_ch2_rows {n i1 j1 : Nat} (hn : n < 19000) : ∀ m c g (μ : Mem), c + m = (aS a).1 → i1 < c → m < g → MI N Q (aTr a i1 j1) μ0 μ → Was2 a i1 j1 μ → (match fsI (pP a (trS (aS a) i1 j1) n) (m * (aS a).1) (c * (aS a).1) with
    | some k => ∃ μ', f_m_isSoWithTwo_b13 g (nI i1) (nI j1) (nI n) 0 (nI c) μ = f_m_isSoWithTwo_b122 (nI i1) (nI j1) (nI 1) μ' ∧ MI N Q (aSetR (aTr a i1 j1) (r4 i1 j1 (aS a).1 k)) μ0 μ' ∧ Was2 a i1 j1 μ'
    | none => ∃ μ', f_m_isSoWithTwo_b13 g (nI i1) (nI j1) (nI n) 0 (nI c) μ = f_m_isSoWithTwo_b122 (nI i1) (nI j1) (nI 0) μ' ∧ MI N Q (aTr a i1 j1) μ0 μ' ∧ Was2 a i1 j1 μ') := by
  intro m
  induction m with
  | zero =>
    intro c g μ hc hi hg h hw
    obtain ⟨g, rfl⟩ : ∃ z, g = z + 1 := ⟨g - 1, by omega⟩
    have hp : (aS a).1 ≤ 14 := h.1.1.1
    have h1 : μ.1 v_m_people 0 = nI (aS a).1 := h.2.1.1.1
    rw [Nat.zero_mul]
    refine ⟨μ, ?_, h, hw⟩
    rw [f_m_isSoWithTwo_b13, h1, if_pos ((i_leN (by omega) (by omega)).mpr (by omega))]
    rfl
  | succ m ih =>
    intro c g μ hc hi hg h hw
    obtain ⟨g, rfl⟩ : ∃ z, g = z + 1 := ⟨g - 1, by omega⟩
    have hp : (aS a).1 ≤ 14 := h.1.1.1
    have h1 : μ.1 v_m_people 0 = nI (aS a).1 := h.2.1.1.1
    have hin := m_ch2_in (f_m_isSoWithTwo_b13 g) hn (show c < (aS a).1 by omega) ((aS a).1 - (c + 1)) (c + 1) FU μ (by omega) (by omega) (by unfold FU; omega) h hw
    rw [row_split _ (show c < (aS a).1 by omega) (fun j hj => pP_no (by omega) hj)]
    have e0 : f_m_isSoWithTwo_b13 (g + 1) (nI i1) (nI j1) (nI n) 0 (nI c) μ = f_m_isSoWithTwo_b45 (f_m_isSoWithTwo_b13 g) FU (nI i1) (nI j1) (nI n) 0 (nI c) (nI (c + 1)) μ := by
      rw [f_m_isSoWithTwo_b13, h1, if_neg (fun q => absurd ((i_leN (by omega) (by omega)).mp q) (by omega)), if_pos rfl, if_neg (fun q => by have := nI_inj (by omega) (by omega) q; omega), bnd_s, show nI c + 1 = nI (c + 1) from i_add c 1]
    rw [e0]
    cases q : fsI (pP a (trS (aS a) i1 j1) n) ((aS a).1 - (c + 1)) (c * (aS a).1 + (c + 1)) with
    | none =>
      rw [q] at hin
      obtain ⟨μ1, a1, a2, a3⟩ := hin
      rw [a1]
      exact ih (c + 1) g μ1 (by omega) (by omega) (by omega) a2 a3
    | some k =>
      rw [q] at hin
      obtain ⟨μ1, a1, a2, a3⟩ := hin
      refine ⟨μ1, ?_, a2, a3⟩
      have h5 : μ1.1 v_m_people 0 = nI (aS a).1 := a2.2.1.1.1
      obtain ⟨g, rfl⟩ : ∃ z, g = z + 1 := ⟨g - 1, by omega⟩
      rw [a1, f_m_isSoWithTwo_b13, h5]
      split
      · rfl
      · rw [if_neg (show ¬ nI 1 = 0 by decide)]
theorem m_two {n i1 j1 : Nat} (hn : n < 19000) (hij : i1 < j1) (hj : j1 < (aS a).1) (h : MI N Q a μ0 μ) : (match fs2 a n (i1 * (aS a).1 + j1) with
    | some k => ∃ μ', f_m_isSoWithTwo (nI i1) (nI j1) (nI n) μ = some (nI 1, μ') ∧ MI N Q (aSetR a (r4 i1 j1 (aS a).1 k)) μ0 μ'
    | none => ∃ μ', f_m_isSoWithTwo (nI i1) (nI j1) (nI n) μ = some (nI 0, μ') ∧ MI N Q a μ0 μ') := by
  have hp := h.1.1.1
  have hW := h.1
  obtain ⟨d1, d2⟩ := pr_dm (i := i1) hj
  obtain ⟨μ1, a1, a2, a3, a4, _⟩ := m_chg (kp := 0) h (show i1 ≠ j1 by omega) (by omega) hj (by omega)
  have hw1 : Was2 a i1 j1 μ1 := ⟨a3, a4⟩
  have h1 : μ1.1 v_m_people 0 = nI (aS a).1 := a2.2.1.1.1
  have hin := m_ch2_in (f_m_isSoWithTwo_b13 (FU - 1)) hn (show i1 < (aS a).1 by omega) ((aS a).1 - (j1 + 1)) (j1 + 1) FU μ1 (by omega) (by omega) (by unfold FU; omega) a2 hw1
  have e0 : f_m_isSoWithTwo (nI i1) (nI j1) (nI n) μ = f_m_isSoWithTwo_b45 (f_m_isSoWithTwo_b13 (FU - 1)) FU (nI i1) (nI j1) (nI n) 0 (nI i1) (nI (j1 + 1)) μ1 := by
    unfold f_m_isSoWithTwo
    rw [show f_m_changePair (nI i1) (nI j1) 0 μ = _ from a1, bd1_s]
    conv => lhs; rw [show FU = (FU - 1) + 1 from rfl, f_m_isSoWithTwo_b13, h1, if_neg (fun q => absurd ((i_leN (by omega) (by omega)).mp q) (by omega)), if_pos rfl, if_pos rfl, bnd_s, show nI j1 + 1 = nI (j1 + 1) from i_add j1 1]
  have hle : i1 * (aS a).1 + (aS a).1 ≤ (aS a).1 * (aS a).1 := by
    have : (i1 + 1) * (aS a).1 ≤ (aS a).1 * (aS a).1 := Nat.mul_le_mul_right _ (by omega)
    rw [Nat.add_mul, Nat.one_mul] at this
    exact this
  have efs : fs2 a n (i1 * (aS a).1 + j1) = (match fsI (pP a (trS (aS a) i1 j1) n) ((aS a).1 - (j1 + 1)) (i1 * (aS a).1 + (j1 + 1)) with
      | none => fsI (pP a (trS (aS a) i1 j1) n) (((aS a).1 - (i1 + 1)) * (aS a).1) ((i1 + 1) * (aS a).1)
      | some v => some v) := by
    unfold fs2 prS2
    rw [d1, d2, show (aS a).1 * (aS a).1 - (i1 * (aS a).1 + j1 + 1) = ((aS a).1 - (j1 + 1)) + ((aS a).1 - (i1 + 1)) * (aS a).1 by rw [Nat.sub_mul, Nat.add_mul, Nat.one_mul]; omega, fsI_split, show i1 * (aS a).1 + j1 + 1 + ((aS a).1 - (j1 + 1)) = (i1 + 1) * (aS a).1 by rw [Nat.add_mul, Nat.one_mul]; omega]
    rfl
  have fin0 : ∀ μ2, MI N Q (aTr a i1 j1) μ0 μ2 → Was2 a i1 j1 μ2 → ∃ μ', f_m_isSoWithTwo_b122 (nI i1) (nI j1) (nI 0) μ2 = some (nI 0, μ') ∧ MI N Q a μ0 μ' := fun μ2 hm hw => by
    obtain ⟨μ3, b1, b2, _⟩ := m_bck (kp := 0) hW hm (show i1 ≠ j1 by omega) (by omega) hj (by omega) hw.1 hw.2
    refine ⟨μ3, ?_, b2⟩
    unfold f_m_isSoWithTwo_b122
    rw [show f_m_changeBack (nI i1) (nI j1) 0 μ2 = _ from b1, bd1_s, zb_q0, chk_t]
  have fin1 : ∀ k μ2, MI N Q (aSetR (aTr a i1 j1) (r4 i1 j1 (aS a).1 k)) μ0 μ2 → Was2 a i1 j1 μ2 → ∃ μ', f_m_isSoWithTwo_b122 (nI i1) (nI j1) (nI 1) μ2 = some (nI 1, μ') ∧ MI N Q (aSetR a (r4 i1 j1 (aS a).1 k)) μ0 μ' := fun k μ2 hm hw => by
    have hW2 : WF (aSetR a (r4 i1 j1 (aS a).1 k)) := ⟨hW.1, hW.2.1, hW.2.2.1, hW.2.2.2.1, hW.2.2.2.2.1, by show (r4 i1 j1 (aS a).1 k).length ≤ 16; simp [r4], hW.2.2.2.2.2.2⟩
    obtain ⟨μ3, b1, b2, _⟩ := m_bck (a := aSetR a (r4 i1 j1 (aS a).1 k)) (kp := 0) hW2 hm (show i1 ≠ j1 by omega) (show i1 < (aS a).1 by omega) hj (by omega) hw.1 hw.2
    refine ⟨μ3, ?_, b2⟩
    unfold f_m_isSoWithTwo_b122
    rw [show f_m_changeBack (nI i1) (nI j1) 0 μ2 = _ from b1, bd1_s, zb_q1, chk_t]
  rw [efs, e0]
  cases q : fsI (pP a (trS (aS a) i1 j1) n) ((aS a).1 - (j1 + 1)) (i1 * (aS a).1 + (j1 + 1)) with
  | some k =>
    rw [q] at hin
    obtain ⟨μ2, b1, b2, b3⟩ := hin
    obtain ⟨μ3, c1, c2⟩ := fin1 k μ2 b2 b3
    refine ⟨μ3, ?_, c2⟩
    have h5 : μ2.1 v_m_people 0 = nI (aS a).1 := b2.2.1.1.1
    rw [b1, ← c1, show FU - 1 = (FU - 2) + 1 from rfl, f_m_isSoWithTwo_b13, h5]
    split
    · rfl
    · rw [if_neg (show ¬ nI 1 = 0 by decide)]
  | none =>
    rw [q] at hin
    obtain ⟨μ2, b1, b2, b3⟩ := hin
    have hrows := m_ch2_rows hn ((aS a).1 - (i1 + 1)) (i1 + 1) (FU - 1) μ2 (by omega) (by omega) (by unfold FU; omega) b2 b3
    rw [b1]
    show (match fsI (pP a (trS (aS a) i1 j1) n) (((aS a).1 - (i1 + 1)) * (aS a).1) ((i1 + 1) * (aS a).1) with
      | some k => _
      | none => _)
    cases q2 : fsI (pP a (trS (aS a) i1 j1) n) (((aS a).1 - (i1 + 1)) * (aS a).1) ((i1 + 1) * (aS a).1) with
    | none =>
      rw [q2] at hrows
      obtain ⟨μ3, c1, c2, c3⟩ := hrows
      obtain ⟨μ4, e1, e2⟩ := fin0 μ3 c2 c3
      exact ⟨μ4, by rw [show f_m_isSoWithTwo_b13 (FU - 1) (nI i1) (nI j1) (nI n) (nI 0) (nI (i1 + 1)) μ2 = _ from c1]; exact e1, e2⟩
    | some k =>
      rw [q2] at hrows
      obtain ⟨μ3, c1, c2, c3⟩ := hrows
      obtain ⟨μ4, e1, e2⟩ := fin1 k μ3 c2 c3
      exact ⟨μ4, by rw [show f_m_isSoWithTwo_b13 (FU - 1) (nI i1) (nI j1) (nI n) (nI 0) (nI (i1 + 1)) μ2 = _ from c1]; exact e1, e2⟩
theorem pQ_row {n i j : Nat} (hj : j < (aS a).1) : pQ a n (i * (aS a).1 + j) = (decide (i < j) && (fs2 a n (i * (aS a).1 + j)).isSome) := by
  obtain ⟨e1, e2⟩ := pr_dm (i := i) hj
  unfold pQ ordK
  rw [e1, e2]
theorem m_ch3_in (hN : N < 600) (k100 : Int32 → Int32 → Mem → Option (Int32 × Mem)) {n i : Nat} (hn : n < 19000) (hi : i < (aS a).1) : ∀ m j g (μ : Mem), j + m = (aS a).1 → i < j → m < g → MI N Q a μ0 μ → (match fsI (pQ a n) m (i * (aS a).1 + j) with
    | some k => ∃ μ', f_m_change_b112 k100 g (nI n) (nI i) (nI j) μ = some (2, μ') ∧ MO N (aSetR a (tl1 (aS a).1 k ++ tl1 (aS a).1 ((fs2 a n k).getD 0))) μ0 μ'
    | none => ∃ μ', f_m_change_b112 k100 g (nI n) (nI i) (nI j) μ = k100 (nI n) (nI (i + 1)) μ' ∧ MI N Q a μ0 μ') := by
  intro m
  induction m with
  | zero =>
    intro j g μ hj hij hg h
    obtain ⟨g, rfl⟩ : ∃ z, g = z + 1 := ⟨g - 1, by omega⟩
    have hp := h.1.1.1
    refine ⟨μ, ?_, h⟩
    rw [f_m_change_b112, h.2.1.1.1, if_pos ((i_leN (by omega) (by omega)).mpr (by omega)), show nI i + 1 = nI (i + 1) from i_add i 1]
  | succ m ih =>
    intro j g μ hj hij hg h
    obtain ⟨g, rfl⟩ : ∃ z, g = z + 1 := ⟨g - 1, by omega⟩
    have hp := h.1.1.1
    have htw := m_two hn hij (show j < (aS a).1 by omega) h
    rw [fsI, pQ_row (by omega), decide_eq_true hij, Bool.true_and, f_m_change_b112, h.2.1.1.1, if_neg (fun q => absurd ((i_leN (by omega) (by omega)).mp q) (by omega))]
    cases c : fs2 a n (i * (aS a).1 + j) with
    | none =>
      rw [c] at htw
      obtain ⟨μ1, a1, a2⟩ := htw
      rw [if_neg (show ¬ (none : Option Nat).isSome = true by decide), a1, bd2_s, if_pos (show nI 0 = 0 from rfl), show nI j + 1 = nI (j + 1) from i_add j 1, Nat.add_assoc]
      exact ih (j + 1) g μ1 (by omega) (by omega) (by omega) a2
    | some k =>
      rw [c] at htw
      obtain ⟨μ1, a1, a2⟩ := htw
      obtain ⟨d1, d2⟩ := pr_dm (i := i) (show j < (aS a).1 by omega)
      rw [if_pos (show (some k).isSome = true from rfl), a1, bd2_s, if_neg (show ¬ nI 1 = 0 by decide)]
      refine ⟨μ1, rfl, ?_⟩
      rw [c]
      have := a2.done hN
      unfold tl1
      rw [d1, d2]
      exact this
theorem m_ch3_out (hN : N < 600) {n : Nat} (hn : n < 19000) : ∀ m i g (μ : Mem), i + m = (aS a).1 → m < g → MI N Q a μ0 μ → (match fsI (pQ a n) (m * (aS a).1) (i * (aS a).1) with
    | some k => ∃ μ', f_m_change_b100 g (nI n) (nI i) μ = some (2, μ') ∧ MO N (aSetR a (tl1 (aS a).1 k ++ tl1 (aS a).1 ((fs2 a n k).getD 0))) μ0 μ'
    | none => ∃ μ', f_m_change_b100 g (nI n) (nI i) μ = some (-2, μ') ∧ MO N a μ0 μ') := by
  intro m
  induction m with
  | zero =>
    intro i g μ hi hg h
    obtain ⟨g, rfl⟩ : ∃ z, g = z + 1 := ⟨g - 1, by omega⟩
    have hp := h.1.1.1
    rw [Nat.zero_mul]
    refine ⟨μ, ?_, h.done hN⟩
    rw [f_m_change_b100, h.2.1.1.1, if_pos ((i_leN (by omega) (by omega)).mpr (by omega))]
  | succ m ih =>
    intro i g μ hi hg h
    obtain ⟨g, rfl⟩ : ∃ z, g = z + 1 := ⟨g - 1, by omega⟩
    have hp := h.1.1.1
    have hin := m_ch3_in hN (f_m_change_b100 g) hn (show i < (aS a).1 by omega) ((aS a).1 - (i + 1)) (i + 1) FU μ (by omega) (by omega) (by unfold FU; omega) h
    rw [row_split _ (show i < (aS a).1 by omega) (fun j hj => by rw [pQ_row (by omega), decide_eq_false (by omega), Bool.false_and])]
    have e0 : f_m_change_b100 (g + 1) (nI n) (nI i) μ = f_m_change_b112 (f_m_change_b100 g) FU (nI n) (nI i) (nI (i + 1)) μ := by
      rw [f_m_change_b100, h.2.1.1.1, if_neg (fun q => absurd ((i_leN (by omega) (by omega)).mp q) (by omega)), show nI i + 1 = nI (i + 1) from i_add i 1]
    rw [e0]
    cases c : fsI (pQ a n) ((aS a).1 - (i + 1)) (i * (aS a).1 + (i + 1)) with
    | some k =>
      rw [c] at hin
      exact hin
    | none =>
      rw [c] at hin
      obtain ⟨μ1, a1, a2⟩ := hin
      rw [a1]
      exact ih (i + 1) g μ1 (by omega) (by omega) a2
theorem m_change (hN : N < 600) {n : Nat} (hn : n < 19000) (h : MI N Q a μ0 μ) : ∃ μ', (bd2 (f_m_isSo (nI n) μ) fun v9 μ7 => if v9 = 0 then (f_m_change_b33 FU (nI n) (0 : Int32) μ7) else (bnd (setI μ7 v_m_rowMany 0 (0 : Int32)) fun μ29 => some ((0 : Int32), μ29))) = some ((chA a n).1, μ') ∧ MO N (chA a n).2 μ0 μ' := by
  have hp := h.1.1.1
  unfold chA
  rw [m_isSo h hn, bd2_s]
  cases c : soB a (aS a) n with
  | true =>
    obtain ⟨e1, e2⟩ := m_clear μ
    rw [if_neg (show ¬ nI (bN true) = 0 by decide), if_pos rfl]
    exact ⟨_, rfl, h.told hN (by simp) e1 e2⟩
  | false =>
    rw [if_pos (show nI (bN false) = 0 by decide), if_neg (show ¬ false = true by decide)]
    have h1 := m_ch1_out hN hn (aS a).1 0 FU μ (by omega) (by unfold FU; omega) h
    rw [Nat.zero_mul] at h1
    cases c1 : fsI (pP a (aS a) n) ((aS a).1 * (aS a).1) 0 with
    | some k =>
      rw [c1] at h1
      exact h1
    | none =>
      rw [c1] at h1
      obtain ⟨μ1, a1, a2⟩ := h1
      rw [show f_m_change_b33 FU (nI n) 0 μ = _ from a1]
      have h2 := m_ch3_out hN hn (aS a).1 0 FU μ1 (by omega) (by unfold FU; omega) a2
      rw [Nat.zero_mul] at h2
      cases c2 : fsI (pQ a n) ((aS a).1 * (aS a).1) 0 with
      | some k =>
        rw [c2] at h2
        exact h2
      | none =>
        rw [c2] at h2
        exact h2
theorem op_change (x : Int32) : OpI N a (f_x_change x) (f_m_change x) := by
  intro hW hN
  by_cases c : 0 ≤ x ∧ x ≤ 20
  · obtain ⟨n, hn, rfl⟩ := talk_n c
    refine ⟨(chA a n).1, (chA a n).2, fun μ h => ?_, fun ν h => m_start h fun Q ν1 hQ hI _ => ?_⟩
    · obtain ⟨μ', k1, k2⟩ := x_change hN (n := n) (by omega) h
      refine ⟨μ', ?_, k2⟩
      unfold f_x_change
      rw [x_talkDay, bd2_s, decide_eq_true c, if_neg (by decide), k1, bd2_s]
    · rw [m_talkDay, bd2_s, decide_eq_true c, if_neg (by decide)]
      exact m_change hN (by omega) hI
  · refine ⟨-1, a, fun μ h => x_same h hN ?_, fun ν h => m_start h fun Q ν1 hQ hI _ => m_same hI hN ?_⟩
    · unfold f_x_change
      rw [x_talkDay, bd2_s, decide_eq_false c, if_pos (by decide)]
    · rw [m_talkDay, bd2_s, decide_eq_false c, if_pos (by decide)]
end OPS
