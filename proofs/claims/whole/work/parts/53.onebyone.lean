/-! onebyone. -/
theorem and_p2 (x i : Nat) : x &&& 2 ^ i = if x.testBit i then 2 ^ i else 0 := by
  apply nat_ext
  intro j
  rw [Nat.testBit_and, tb_p2]
  by_cases e : i = j
  · subst e
    cases hb : x.testBit i
    · simp
    · simp
  · rw [decide_eq_false e, Bool.and_false]
    split
    · rw [tb_p2, decide_eq_false e]
    · simp
theorem xor_0 (s : Nat) : s ^^^ 0 = s := Nat.xor_zero s
/-- one goes round: the STATE and how many changed -/
def pas (S : SP) : Nat → Nat → Nat → Nat → Nat × Nat
  | 0, _, s, c => (s, c)
  | m + 1, i, s, c => if wld S i s = s.testBit i then pas S m (i + 1) s c else pas S m (i + 1) (s ^^^ 2 ^ i) (c + 1)
theorem pas_lt {S : SP} : ∀ m i s c, i + m = S.1 → s < 2 ^ S.1 → (pas S m i s c).1 < 2 ^ S.1
  | 0, _, _, _, _, h => h
  | m + 1, i, s, c, hi, h => by
    rw [pas]
    split
    · exact pas_lt m (i + 1) s c (by omega) h
    · exact pas_lt m (i + 1) _ _ (by omega) (xor_lt h (Nat.pow_lt_pow_right (by omega) (by omega)))
theorem pas_c {S : SP} : ∀ m i s c, c ≤ (pas S m i s c).2 ∧ (pas S m i s c).2 ≤ c + m
  | 0, _, _, _ => ⟨Nat.le_refl _, Nat.le_refl _⟩
  | m + 1, i, s, c => by
    rw [pas]
    split
    · have := pas_c (S := S) m (i + 1) s c; omega
    · have := pas_c (S := S) m (i + 1) (s ^^^ 2 ^ i) (c + 1); omega
def obr (S : SP) : Nat → Nat → Nat → Nat → Option (Nat × Nat × Nat)
  | 0, _, _, _ => none
  | k + 1, s, c, r => if (pas S S.1 0 s c).2 = c then some ((pas S S.1 0 s c).1, c, r) else obr S k (pas S S.1 0 s c).1 (pas S S.1 0 s c).2 (r + 1)
theorem nxt_tb {S : SP} {i : Nat} (hi : i < S.1) (s : Nat) : (nxt S s).testBit i = wld S i s := by
  unfold nxt
  rw [bs_tb, decide_eq_true hi, Bool.true_and]
section OPS
variable {N : Nat} {a : Ab} {b : Nat × Nat} {μ0 μ : Mem} {Q : Nat} {S : SP}
theorem x_obo_in (k12 : Int32 → Int32 → Int32 → Mem → Option (Int32 × Mem)) {r c0 : Nat} : ∀ m i s c n (μ : Mem), i + m = (aS a).1 → s < 2 ^ (aS a).1 → c + m < 2 ^ 30 → m < n → XI N b a μ0 μ → ∃ μ', f_x_onebyone_b24 k12 n (nI s) (nI c) (nI r) (nI c0) (nI i) μ = f_x_onebyone_b24 k12 1 (nI (pas (aS a) m i s c).1) (nI (pas (aS a) m i s c).2) (nI r) (nI c0) (nI (aS a).1) μ' ∧ XI N b a μ0 μ' := by
  intro m
  induction m with
  | zero =>
    intro i s c n μ hi hs hc hn h
    obtain ⟨n, rfl⟩ : ∃ z, n = z + 1 := ⟨n - 1, by omega⟩
    obtain rfl : i = (aS a).1 := by omega
    have hp := h.1.1.1
    have h0 := h.2.1.1.1
    refine ⟨μ, ?_, h⟩
    rw [f_x_onebyone_b24, f_x_onebyone_b24, h0, if_pos ((i_leN (by omega) (by omega)).mpr (Nat.le_refl _)), if_pos ((i_leN (by omega) (by omega)).mpr (Nat.le_refl _))]
    rfl
  | succ m ih =>
    intro i s c n μ hi hs hc hn h
    obtain ⟨n, rfl⟩ : ∃ z, n = z + 1 := ⟨n - 1, by omega⟩
    have hp := h.1.1.1
    have h0 := h.2.1.1.1
    have h14 := p2_14 hp
    have hpi : 2 ^ i < 2 ^ (aS a).1 := Nat.pow_lt_pow_right (by omega) (by omega)
    have hp0 : 0 < 2 ^ i := Nat.two_pow_pos i
    obtain ⟨μ1, k1, k2, k3⟩ := h.after hs
    have hx : (nxt (aS a) s ^^^ s).testBit i = (wld (aS a) i s != s.testBit i) := by rw [Nat.testBit_xor, nxt_tb (by omega)]
    have step : ∀ (f : Bool), (wld (aS a) i s != s.testBit i) = f → f_x_onebyone_b24 k12 (n + 1) (nI s) (nI c) (nI r) (nI c0) (nI i) μ = f_x_onebyone_b24 k12 n (nI (s ^^^ if f then 2 ^ i else 0)) (nI (c + bN f)) (nI r) (nI c0) (nI (i + 1)) μ1 := by
      intro f hf
      rw [f_x_onebyone_b24, h0, if_neg (fun q => absurd ((i_leN (by omega) (by omega)).mp q) (by omega)), k1, bd2_s, i_one (by omega), i_xor, i_and, and_p2, hx, hf, bnd_s, i_xor, l_1, i_add]
      have e : nI (if f then 2 ^ i else 0) >>> (nI i &&& 31) = nI (bN f) := by
        rw [i_shr (by split <;> omega) (by omega)]
        congr 1
        cases f
        · exact Nat.zero_div _
        · exact Nat.div_self hp0
      rw [e, i_add]
    rw [pas]
    by_cases hw : wld (aS a) i s = s.testBit i
    · rw [if_pos hw]
      obtain ⟨μ', l1, l2⟩ := ih (i + 1) s c n μ1 (by omega) hs (by omega) (by omega) k2
      refine ⟨μ', ?_, l2⟩
      rw [← l1, step false (by rw [hw]; simp), if_neg (by decide), xor_0]
      rfl
    · rw [if_neg hw]
      obtain ⟨μ', l1, l2⟩ := ih (i + 1) (s ^^^ 2 ^ i) (c + 1) n μ1 (by omega) (xor_lt hs hpi) (by omega) (by omega) k2
      refine ⟨μ', ?_, l2⟩
      rw [← l1, step true (by simpa using hw), if_pos rfl]
      rfl
theorem x_obo_lp (hN : N < 600) : ∀ k r s c n (μ : Mem), k + r = 101 → s < 2 ^ (aS a).1 → c ≤ 14 * r → k < n → XI N b a μ0 μ → match obr (aS a) k s c r with
    | none => ∃ μ', f_x_onebyone_b12 n (nI s) (nI c) (nI r) μ = some (-2, μ') ∧ XO N a μ0 μ'
    | some (s', c', r') => ∃ μ', f_x_onebyone_b12 n (nI s) (nI c) (nI r) μ = some (nI r', μ') ∧ XO N (aSetR a [(nI s').toInt64, (nI c').toInt64]) μ0 μ' := by
  intro k
  induction k with
  | zero =>
    intro r s c n μ hk hs hc hn h
    obtain ⟨n, rfl⟩ : ∃ z, n = z + 1 := ⟨n - 1, by omega⟩
    rw [obr]
    refine ⟨μ, ?_, h.done hN⟩
    rw [f_x_onebyone_b12, l_100, if_pos ((i_ltN (by omega) (by omega)).mpr (by omega))]
  | succ k ih =>
    intro r s c n μ hk hs hc hn h
    obtain ⟨n, rfl⟩ : ∃ z, n = z + 1 := ⟨n - 1, by omega⟩
    have hp := h.1.1.1
    obtain ⟨μ1, k1, k2⟩ := x_obo_in (f_x_onebyone_b12 n) (r := r) (c0 := c) (aS a).1 0 s c FU μ (by omega) hs (by omega) (by unfold FU; omega) h
    have hpc := pas_c (S := aS a) (aS a).1 0 s c
    have hpl := pas_lt (S := aS a) (aS a).1 0 s c (by omega) hs
    have h0 := k2.2.1.1.1
    have e0 : f_x_onebyone_b12 (n + 1) (nI s) (nI c) (nI r) μ = f_x_onebyone_b24 (f_x_onebyone_b12 n) 1 (nI (pas (aS a) (aS a).1 0 s c).1) (nI (pas (aS a) (aS a).1 0 s c).2) (nI r) (nI c) (nI (aS a).1) μ1 := by
      rw [f_x_onebyone_b12, l_100, if_neg (fun q => absurd ((i_ltN (by omega) (by omega)).mp q) (by omega)), ← k1]
      rfl
    rw [e0, f_x_onebyone_b24, h0, if_pos ((i_leN (by omega) (by omega)).mpr (Nat.le_refl _)), obr]
    by_cases hq : (pas (aS a) (aS a).1 0 s c).2 = c
    · rw [if_pos hq, if_pos (by rw [hq])]
      obtain ⟨μ', t1, t2, t3⟩ := x_tell2 k2 hN (nI (pas (aS a) (aS a).1 0 s c).1).toInt64 (nI (pas (aS a) (aS a).1 0 s c).2).toInt64
      refine ⟨μ', t1 _, ?_⟩
      rw [hq] at t2
      exact t2
    · rw [if_neg hq, if_neg (fun q => hq (nI_inj (by omega) (by omega) q)), l_1, i_add]
      exact ih (r + 1) _ _ n μ1 (by omega) hpl (by omega) (by omega) k2
theorem m_obo_in (h : MB S μ) (k17 : Int32 → Int32 → Int32 → Int32 → Mem → Option (Int32 × Mem)) {r c0 : Nat} : ∀ m i s c n, i + m = S.1 → s < 2 ^ S.1 → c + m < 2 ^ 30 → m < n → f_m_onebyone_b28 k17 n (nI s) (nI r) (nI c) (nI c0) (nI i) μ = f_m_onebyone_b28 k17 1 (nI (pas S m i s c).1) (nI r) (nI (pas S m i s c).2) (nI c0) (nI S.1) μ := by
  have hp := h.2.2.2.2.1
  have h0 := h.1
  have h14 := p2_14 hp
  intro m
  induction m with
  | zero =>
    intro i s c n hi hs hc hn
    obtain ⟨n, rfl⟩ : ∃ z, n = z + 1 := ⟨n - 1, by omega⟩
    obtain rfl : i = S.1 := by omega
    rw [f_m_onebyone_b28, f_m_onebyone_b28, h0, if_pos ((i_leN (by omega) (by omega)).mpr (Nat.le_refl _)), if_pos ((i_leN (by omega) (by omega)).mpr (Nat.le_refl _))]
    rfl
  | succ m ih =>
    intro i s c n hi hs hc hn
    obtain ⟨n, rfl⟩ : ∃ z, n = z + 1 := ⟨n - 1, by omega⟩
    have hpi : 2 ^ i < 2 ^ S.1 := Nat.pow_lt_pow_right (by omega) (by omega)
    rw [pas, f_m_onebyone_b28, h0, if_neg (fun q => absurd ((i_leN (by omega) (by omega)).mp q) (by omega)), m_would h (by omega) hs, bd2_s, m_has (by omega) (by omega), bd2_s]
    by_cases hw : wld S i s = s.testBit i
    · rw [if_pos hw, if_pos (by rw [hw]), l_1, i_add]
      exact ih (i + 1) s c n (by omega) hs (by omega) (by omega)
    · have hne : ¬ nI (bN (wld S i s)) = nI (bN (s.testBit i)) := by
        cases h1 : wld S i s <;> cases h2 : s.testBit i <;> first | exact absurd (h1.trans h2.symm) hw | decide
      rw [if_neg hw, if_neg hne, i_one (by omega), i_xor, bnd_s, l_1, i_add, i_add]
      exact ih (i + 1) (s ^^^ 2 ^ i) (c + 1) n (by omega) (xor_lt hs hpi) (by omega) (by omega)
theorem m_obo_lp (hN : N < 600) (h : MI N Q a μ0 μ) : ∀ k r s c n, k + r = 101 → 0 < k → s < 2 ^ (aS a).1 → c ≤ 14 * r → k + 1 < n → match obr (aS a) k s c r with
    | none => ∃ μ', f_m_onebyone_b17 n (nI s) (nI r) (nI c) (nI 1) μ = some (-2, μ') ∧ MO N a μ0 μ'
    | some (s', c', r') => ∃ μ', f_m_onebyone_b17 n (nI s) (nI r) (nI c) (nI 1) μ = some (nI r', μ') ∧ MO N (aSetR a [(nI s').toInt64, (nI c').toInt64]) μ0 μ' := by
  have hp := h.1.1.1
  have h0 := h.2.1.1.1
  intro k
  induction k with
  | zero => intro r s c n hk h0; omega
  | succ k ih =>
    intro r s c n hk _ hs hc hn
    obtain ⟨n, rfl⟩ : ∃ z, n = z + 1 := ⟨n - 1, by omega⟩
    have k1 := m_obo_in h.2.1.1 (f_m_onebyone_b17 n) (r := r) (c0 := c) (aS a).1 0 s c FU (by omega) hs (by omega) (by unfold FU; omega)
    have hpc := pas_c (S := aS a) (aS a).1 0 s c
    have hpl := pas_lt (S := aS a) (aS a).1 0 s c (by omega) hs
    have e0 : f_m_onebyone_b17 (n + 1) (nI s) (nI r) (nI c) (nI 1) μ = f_m_onebyone_b28 (f_m_onebyone_b17 n) 1 (nI (pas (aS a) (aS a).1 0 s c).1) (nI r) (nI (pas (aS a) (aS a).1 0 s c).2) (nI c) (nI (aS a).1) μ := by
      rw [f_m_onebyone_b17, if_neg (by decide), ← k1]
      rfl
    rw [e0, f_m_onebyone_b28, h0, if_pos ((i_leN (by omega) (by omega)).mpr (Nat.le_refl _)), obr]
    by_cases hq : (pas (aS a) (aS a).1 0 s c).2 = c
    · rw [if_pos hq, hq, if_pos ((i_leN (by omega) (by omega)).mpr (Nat.le_refl _)), bnd_s, if_pos rfl, bnd_s, l_0, i_add, Nat.add_zero, l_100, if_pos ((i_leN (by omega) (by omega)).mpr (by omega))]
      obtain ⟨n, rfl⟩ : ∃ z, n = z + 1 := ⟨n - 1, by omega⟩
      obtain ⟨μ', t1, t2, t3⟩ := m_tell2 h hN (nI (pas (aS a) (aS a).1 0 s c).1).toInt64 (nI c).toInt64
      refine ⟨μ', ?_, t2⟩
      rw [f_m_onebyone_b17, if_pos (show nI 0 = 0 from rfl)]
      exact t1 _
    · rw [if_neg hq, if_neg (fun q => absurd ((i_leN (by omega) (by omega)).mp q) (by omega)), bnd_s, if_neg (by decide), bnd_s, l_1, i_add, l_100]
      by_cases hr : r + 1 ≤ 100
      · rw [if_pos ((i_leN (by omega) (by omega)).mpr hr)]
        exact ih (r + 1) _ _ n (by omega) (by omega) hpl (by omega) (by omega)
      · rw [if_neg (fun q => hr ((i_leN (by omega) (by omega)).mp q))]
        obtain rfl : k = 0 := by omega
        rw [obr]
        exact ⟨μ, rfl, h.done hN⟩
theorem op_onebyone : OpI N a f_x_onebyone f_m_onebyone := by
  intro hW hN
  have hnow := now_lt hW
  cases ho : obr (aS a) 101 (aN a) 0 0 with
  | none =>
    refine ⟨-2, a, fun μ h => ?_, fun ν h => m_start h fun Q ν1 _ hI _ => ?_⟩
    · have l := x_obo_lp hN 101 0 (aN a) 0 FU μ (by omega) hnow (by omega) (by unfold FU; omega) h.XI
      rw [ho] at l
      obtain ⟨μ', k1, k2⟩ := l
      exact ⟨μ', by unfold f_x_onebyone; rw [st_now hW h.2.1, bd2_s]; exact k1, k2⟩
    · have l := m_obo_lp hN hI 101 0 (aN a) 0 FU (by omega) (by omega) hnow (by omega) (by unfold FU; omega)
      rw [ho] at l
      obtain ⟨μ', k1, k2⟩ := l
      exact ⟨μ', by rw [m_now hW hI.2.1.2.1, bd2_s]; exact k1, k2⟩
  | some t =>
    obtain ⟨s', c', r'⟩ := t
    refine ⟨nI r', aSetR a [(nI s').toInt64, (nI c').toInt64], fun μ h => ?_, fun ν h => m_start h fun Q ν1 _ hI _ => ?_⟩
    · have l := x_obo_lp hN 101 0 (aN a) 0 FU μ (by omega) hnow (by omega) (by unfold FU; omega) h.XI
      rw [ho] at l
      obtain ⟨μ', k1, k2⟩ := l
      exact ⟨μ', by unfold f_x_onebyone; rw [st_now hW h.2.1, bd2_s]; exact k1, k2⟩
    · have l := m_obo_lp hN hI 101 0 (aN a) 0 FU (by omega) (by omega) hnow (by omega) (by unfold FU; omega)
      rw [ho] at l
      obtain ⟨μ', k1, k2⟩ := l
      exact ⟨μ', by rw [m_now hW hI.2.1.2.1, bd2_s]; exact k1, k2⟩
end OPS
