/-! Rows of one, two, three; falls. -/
section TELL
variable {N : Nat} {a : Ab} {b : Nat × Nat} {μ0 μ : Mem} {Q : Nat} {S : SP}
theorem x_tell1 (h : XI N b a μ0 μ) (hN : N < 600) (p : Int64) : ∃ μ', (∀ {β : Type} (K : Mem → Option β), (bd1 (f_rw_only p μ) fun μ2 => K μ2) = K μ') ∧ XO N (aSetR a [p]) μ0 μ' ∧ rFr μ μ' := by
  obtain ⟨μ1, a1, a2, a3⟩ := rw_only p μ
  exact ⟨μ1, fun K => by rw [a1, bd1_s], h.told hN (by simp) a2 a3, a3⟩
theorem x_tell2 (h : XI N b a μ0 μ) (hN : N < 600) (p q : Int64) : ∃ μ', (∀ {β : Type} (K : Mem → Option β), (bd1 (f_rw_only p μ) fun μ2 => bd1 (f_rw_add q μ2) fun μ4 => K μ4) = K μ') ∧ XO N (aSetR a [p, q]) μ0 μ' ∧ rFr μ μ' := by
  obtain ⟨μ1, a1, a2, a3⟩ := rw_only p μ
  obtain ⟨μ2, b1, b2, b3⟩ := rw_add q a2 (by simp)
  exact ⟨μ2, fun K => by rw [a1, bd1_s, b1, bd1_s], h.told hN (by simp) b2 (a3.tr b3), a3.tr b3⟩
theorem m_tell0 (h : MI N Q a μ0 μ) (hN : N < 600) : MO N (aSetR a []) μ0 (setI μ v_m_rowMany 0 (nI 0)) ∧ mrFr μ (setI μ v_m_rowMany 0 (nI 0)) :=
  ⟨h.told hN (by simp) (m_clear μ).1 (m_clear μ).2, (m_clear μ).2⟩
theorem m_tell1 (h : MI N Q a μ0 μ) (hN : N < 600) (p : Int64) : ∃ μ', (∀ {β : Type} (K : Mem → Option β), (bnd (setI μ v_m_rowMany 0 (0 : Int32)) fun μ1 => bd1 (f_m_tell p μ1) fun μ2 => K μ2) = K μ') ∧ MO N (aSetR a [p]) μ0 μ' ∧ mrFr μ μ' := by
  obtain ⟨a2, a3⟩ := m_clear μ
  obtain ⟨μ2, b1, b2, b3⟩ := m_tell p a2 (by simp)
  exact ⟨μ2, fun K => by rw [bnd_s, b1, bd1_s], h.told hN (by simp) b2 (a3.tr b3), a3.tr b3⟩
theorem m_tell2 (h : MI N Q a μ0 μ) (hN : N < 600) (p q : Int64) : ∃ μ', (∀ {β : Type} (K : Mem → Option β), (bnd (setI μ v_m_rowMany 0 (0 : Int32)) fun μ1 => bd1 (f_m_tell p μ1) fun μ2 => bd1 (f_m_tell q μ2) fun μ4 => K μ4) = K μ') ∧ MO N (aSetR a [p, q]) μ0 μ' ∧ mrFr μ μ' := by
  obtain ⟨a2, a3⟩ := m_clear μ
  obtain ⟨μ2, b1, b2, b3⟩ := m_tell p a2 (by simp)
  obtain ⟨μ3, c1, c2, c3⟩ := m_tell q b2 (by simp)
  exact ⟨μ3, fun K => by rw [bnd_s, b1, bd1_s, c1, bd1_s], h.told hN (by simp) c2 ((a3.tr b3).tr c3), (a3.tr b3).tr c3⟩
theorem m_tell3 (h : MI N Q a μ0 μ) (hN : N < 600) (p q r : Int64) : ∃ μ', (∀ {β : Type} (K : Mem → Option β), (bnd (setI μ v_m_rowMany 0 (0 : Int32)) fun μ1 => bd1 (f_m_tell p μ1) fun μ2 => bd1 (f_m_tell q μ2) fun μ4 => bd1 (f_m_tell r μ4) fun μ5 => K μ5) = K μ') ∧ MO N (aSetR a [p, q, r]) μ0 μ' ∧ mrFr μ μ' := by
  obtain ⟨a2, a3⟩ := m_clear μ
  obtain ⟨μ2, b1, b2, b3⟩ := m_tell p a2 (by simp)
  obtain ⟨μ3, c1, c2, c3⟩ := m_tell q b2 (by simp)
  obtain ⟨μ4, d1, d2, d3⟩ := m_tell r c2 (by simp)
  exact ⟨μ4, fun K => by rw [bnd_s, b1, bd1_s, c1, bd1_s, d1, bd1_s], h.told hN (by simp) d2 (((a3.tr b3).tr c3).tr d3), ((a3.tr b3).tr c3).tr d3⟩
end TELL
def fls (g : Nat → Int) : Nat → Int32 → Int32 → Int32 × Int32
  | 0, x, y => (x, y)
  | m + 1, x, y => fls g m (if g (m + 2) < g (m + 1) then x else nI (m + 2)) (if g (m + 2) ≤ g (m + 1) then y else nI (m + 2))
section OPS
variable {N : Nat} {a : Ab} {b : Nat × Nat} {μ0 μ : Mem} {Q : Nat} {S : SP}
def fg (a : Ab) (d : Nat) : Int := fal (aS a) (aZ a d) (aZ a (d - 1))
def flA (a : Ab) : Int64 := if 2 ≤ aD a then zL (fg a 1) - zL (fg a (aD a)) else 0
theorem fg_b (hW : WF a) (d : Nat) : -2000000 < fg a d ∧ fg a d < 2000000 := fal_b hW.1 _ _
theorem x_falls_end (h : XI N b a μ0 μ) (hN : N < 600) (x y : Int32) {d n : Nat} (hd : d < 2) : ∃ μ', f_x_falls_b12 (n + 1) x y (nI d) μ = some (flA a, μ') ∧ XO N (aSetR a [x.toInt64, y.toInt64]) μ0 μ' := by
  obtain ⟨μ', k1, k2, k3⟩ := x_tell2 h hN x.toInt64 y.toInt64
  refine ⟨μ', ?_, k2⟩
  rw [f_x_falls_b12, l_2, if_pos ((i_ltN (by omega) (by omega)).mpr hd)]
  refine (k1 _).trans ?_
  have hW' := k2.1.1
  have e1 : μ'.1 (vSt 0 2) 0 = nI (aD a) := k2.1.2.1.2.1.2.1
  have h200 := h.1.2.2.2.1.1
  unfold flA
  by_cases c : 2 ≤ aD a
  · have f1 := x_fallOf (a := aSetR a [x.toInt64, y.toInt64]) hW' k2.1.2.1 (d := 1) (by omega) (by show 1 ≤ aD a; omega)
    have f2 := x_fallOf (a := aSetR a [x.toInt64, y.toInt64]) hW' k2.1.2.1 (d := aD a) (by omega) (Nat.le_refl _)
    rw [e1, if_pos ((i_leN (by omega) (by omega)).mpr c), if_pos c, l_1, f1, bd2_s, e1, f2, bd2_s]
    rfl
  · rw [e1, if_neg (fun q => c ((i_leN (by omega) (by omega)).mp q)), if_neg c]
theorem m_falls_end (h : MI N Q a μ0 μ) (hN : N < 600) (x y : Int32) {d n : Nat} (hd : d < 2) : ∃ μ', f_m_falls_b14 (n + 1) x y (nI d) μ = some (flA a, μ') ∧ MO N (aSetR a [x.toInt64, y.toInt64]) μ0 μ' := by
  obtain ⟨μ', k1, k2, k3⟩ := m_tell2 h hN x.toInt64 y.toInt64
  refine ⟨μ', ?_, k2⟩
  rw [f_m_falls_b14, l_1, if_pos ((i_leN (by omega) (by omega)).mpr (by omega))]
  refine (k1 _).trans ?_
  have hW' := k2.1.1
  have e1 : μ'.1 v_m_days 0 = nI (aD a) := k2.1.2.1.2.1.2.1
  have h200 := h.1.2.2.2.1.1
  unfold flA
  by_cases c : 2 ≤ aD a
  · have f1 := m_fallOf (a := aSetR a [x.toInt64, y.toInt64]) hW' k2.1.2.1.1 k2.1.2.1.2.1 (d := 1) (by omega) (by show 1 ≤ aD a; omega)
    have f2 := m_fallOf (a := aSetR a [x.toInt64, y.toInt64]) hW' k2.1.2.1.1 k2.1.2.1.2.1 (d := aD a) (by omega) (Nat.le_refl _)
    rw [e1, l_2, if_pos ((i_leN (by omega) (by omega)).mpr c), if_pos c, f1, bd2_s, e1, f2, bd2_s]
    rfl
  · rw [e1, l_2, if_neg (fun q => c ((i_leN (by omega) (by omega)).mp q)), if_neg c]
theorem i_dec {n : Nat} (h : 1 ≤ n) : nI n + (-1 : Int32) = nI (n - 1) := by
  rw [show nI n = nI (n - 1) + 1 by rw [l_1, i_add]; congr 1; omega]
  apply Int32.toBitVec_inj.1
  show (nI (n - 1)).toBitVec + 1#32 + (-1#32) = (nI (n - 1)).toBitVec
  rw [BitVec.add_assoc, show (1#32 + -1#32) = 0#32 from rfl, BitVec.add_zero]
theorem x_falls_lp (h : XI N b a μ0 μ) (hN : N < 600) : ∀ m x y n, m + 1 ≤ aD a → m + 1 < n → ∃ μ', f_x_falls_b12 n x y (nI (m + 1)) μ = some (flA a, μ') ∧ XO N (aSetR a [(fls (fg a) m x y).1.toInt64, (fls (fg a) m x y).2.toInt64]) μ0 μ' := by
  have h200 := h.1.2.2.2.1.1
  intro m
  induction m with
  | zero =>
    intro x y n hm hn
    obtain ⟨n, rfl⟩ : ∃ z, n = z + 1 := ⟨n - 1, by omega⟩
    exact x_falls_end h hN x y (d := 1) (by omega)
  | succ m ih =>
    intro x y n hm hn
    obtain ⟨n, rfl⟩ : ∃ z, n = z + 1 := ⟨n - 1, by omega⟩
    have g1 := fg_b h.1 (m + 2)
    have g2 := fg_b h.1 (m + 1)
    obtain ⟨μ', k1, k2⟩ := ih (if fg a (m + 2) < fg a (m + 1) then x else nI (m + 2)) (if fg a (m + 2) ≤ fg a (m + 1) then y else nI (m + 2)) n (by omega) (by omega)
    refine ⟨μ', ?_, k2⟩
    rw [← k1]
    have f1 : f_st_fallOf (nI (m + 2)) μ = some (zL (fg a (m + 2)), μ) := x_fallOf h.1 h.2.1 (d := m + 2) (by omega) (by omega)
    have f2 : f_st_fallOf (nI (m + 1)) μ = some (zL (fg a (m + 1)), μ) := x_fallOf h.1 h.2.1 (d := m + 1) (by omega) (by omega)
    rw [f_x_falls_b12, l_2, if_neg (fun q => absurd ((i_ltN (by omega) (by omega)).mp q) (by omega)), f1, bd2_s, l_1, i_sub (by omega), show m + 1 + 1 - 1 = m + 1 by omega, f2, bd2_s, z_sub, z_0]
    have c1 : (lg_cmp (zL (fg a (m + 2) - fg a (m + 1))) (zL 0) < 0) ↔ fg a (m + 2) < fg a (m + 1) := by
      rw [lg_cmp_lt, Int64.lt_iff_toInt_lt, z_toInt (by omega) (by omega), z_toInt (by omega) (by omega)]; omega
    have c2 : (lg_cmp (zL (fg a (m + 2) - fg a (m + 1))) (zL 0) ≤ 0) ↔ fg a (m + 2) ≤ fg a (m + 1) := by
      rw [lg_cmp_le, Int64.le_iff_toInt_le, z_toInt (by omega) (by omega), z_toInt (by omega) (by omega)]; omega
    have e1 : (if lg_cmp (zL (fg a (m + 2) - fg a (m + 1))) (zL 0) < 0 then x else nI (m + 1 + 1)) = if fg a (m + 2) < fg a (m + 1) then x else nI (m + 2) := by
      by_cases c : fg a (m + 2) < fg a (m + 1)
      · rw [if_pos (c1.mpr c), if_pos c]
      · rw [if_neg (fun q => c (c1.mp q)), if_neg c]
    have e2 : (if lg_cmp (zL (fg a (m + 2) - fg a (m + 1))) (zL 0) ≤ 0 then y else nI (m + 1 + 1)) = if fg a (m + 2) ≤ fg a (m + 1) then y else nI (m + 2) := by
      by_cases c : fg a (m + 2) ≤ fg a (m + 1)
      · rw [if_pos (c2.mpr c), if_pos c]
      · rw [if_neg (fun q => c (c2.mp q)), if_neg c]
    rw [e1, bnd_s, e2, bnd_s, show (-nI 1 : Int32) = -1 from rfl, i_dec (by omega)]
    rfl
theorem m_falls_lp (h : MI N Q a μ0 μ) (hN : N < 600) : ∀ m x y n, m + 1 ≤ aD a → m + 1 < n → ∃ μ', f_m_falls_b14 n x y (nI (m + 1)) μ = some (flA a, μ') ∧ MO N (aSetR a [(fls (fg a) m x y).1.toInt64, (fls (fg a) m x y).2.toInt64]) μ0 μ' := by
  have h200 := h.1.2.2.2.1.1
  intro m
  induction m with
  | zero =>
    intro x y n hm hn
    obtain ⟨n, rfl⟩ : ∃ z, n = z + 1 := ⟨n - 1, by omega⟩
    exact m_falls_end h hN x y (d := 1) (by omega)
  | succ m ih =>
    intro x y n hm hn
    obtain ⟨n, rfl⟩ : ∃ z, n = z + 1 := ⟨n - 1, by omega⟩
    have g1 := fg_b h.1 (m + 2)
    have g2 := fg_b h.1 (m + 1)
    obtain ⟨μ', k1, k2⟩ := ih (if fg a (m + 2) < fg a (m + 1) then x else nI (m + 2)) (if fg a (m + 2) ≤ fg a (m + 1) then y else nI (m + 2)) n (by omega) (by omega)
    refine ⟨μ', ?_, k2⟩
    rw [← k1]
    have f1 : f_m_fallOf (nI (m + 2)) μ = some (zL (fg a (m + 2)), μ) := m_fallOf h.1 h.2.1.1 h.2.1.2.1 (d := m + 2) (by omega) (by omega)
    have f2 : f_m_fallOf (nI (m + 1)) μ = some (zL (fg a (m + 1)), μ) := m_fallOf h.1 h.2.1.1 h.2.1.2.1 (d := m + 1) (by omega) (by omega)
    rw [f_m_falls_b14, l_1, if_neg (fun q => absurd ((i_leN (by omega) (by omega)).mp q) (by omega)), f1, bd2_s, i_sub (by omega), show m + 1 + 1 - 1 = m + 1 by omega, f2, bd2_s]
    have c1 : (lg_cmp (zL (fg a (m + 2))) (zL (fg a (m + 1))) < 0) ↔ fg a (m + 2) < fg a (m + 1) := by
      rw [lg_cmp_lt, Int64.lt_iff_toInt_lt, z_toInt (by omega) (by omega), z_toInt (by omega) (by omega)]
    have c2 : (lg_cmp (zL (fg a (m + 2))) (zL (fg a (m + 1))) ≤ 0) ↔ fg a (m + 2) ≤ fg a (m + 1) := by
      rw [lg_cmp_le, Int64.le_iff_toInt_le, z_toInt (by omega) (by omega), z_toInt (by omega) (by omega)]
    have e1 : (if lg_cmp (zL (fg a (m + 2))) (zL (fg a (m + 1))) < 0 then x else nI (m + 1 + 1)) = if fg a (m + 2) < fg a (m + 1) then x else nI (m + 2) := by
      by_cases c : fg a (m + 2) < fg a (m + 1)
      · rw [if_pos (c1.mpr c), if_pos c]
      · rw [if_neg (fun q => c (c1.mp q)), if_neg c]
    have e2 : (if lg_cmp (zL (fg a (m + 2))) (zL (fg a (m + 1))) ≤ 0 then y else nI (m + 1 + 1)) = if fg a (m + 2) ≤ fg a (m + 1) then y else nI (m + 2) := by
      by_cases c : fg a (m + 2) ≤ fg a (m + 1)
      · rw [if_pos (c2.mpr c), if_pos c]
      · rw [if_neg (fun q => c (c2.mp q)), if_neg c]
    rw [e1, bnd_s, f1, bd2_s, f2, bd2_s, e2, bnd_s, show (-nI 1 : Int32) = -1 from rfl, i_dec (by omega)]
    rfl
theorem op_falls : OpL N a f_x_falls f_m_falls := by
  intro hW hN
  have h200 := hW.2.2.2.1.1
  by_cases h0 : aD a = 0
  · refine ⟨flA a, aSetR a [(-1 : Int32).toInt64, (-1 : Int32).toInt64], fun μ h => ?_, fun ν h => m_start h fun Q ν1 _ hI _ => ?_⟩
    · obtain ⟨μ', k1, k2⟩ := x_falls_end h.XI hN (-1) (-1) (d := 0) (n := 19999) (by omega)
      refine ⟨μ', ?_, k2⟩
      rw [← k1]
      unfold f_x_falls
      rw [h.2.1.2.1.2.1, h0]
      rfl
    · obtain ⟨μ', k1, k2⟩ := m_falls_end hI hN (-1) (-1) (d := 0) (n := 19999) (by omega)
      refine ⟨μ', ?_, k2⟩
      rw [← k1, hI.2.1.2.1.2.1, h0]
      rfl
  · obtain ⟨m, hm⟩ : ∃ m, aD a = m + 1 := ⟨aD a - 1, by omega⟩
    refine ⟨flA a, aSetR a [(fls (fg a) m (-1) (-1)).1.toInt64, (fls (fg a) m (-1) (-1)).2.toInt64], fun μ h => ?_, fun ν h => m_start h fun Q ν1 _ hI _ => ?_⟩
    · obtain ⟨μ', k1, k2⟩ := x_falls_lp h.XI hN m (-1) (-1) FU (by omega) (by unfold FU; omega)
      refine ⟨μ', ?_, k2⟩
      rw [← k1]
      unfold f_x_falls
      rw [h.2.1.2.1.2.1, hm]
    · obtain ⟨μ', k1, k2⟩ := m_falls_lp hI hN m (-1) (-1) FU (by omega) (by unfold FU; omega)
      refine ⟨μ', ?_, k2⟩
      rw [← k1, hI.2.1.2.1.2.1, hm]
end OPS
