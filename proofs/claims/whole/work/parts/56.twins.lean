/-! twins. -/
def tw (P : Nat → Bool) (d : Nat → Nat) : Nat → Nat → Nat → Nat → Nat → Nat × Nat × Nat
  | 0, _, m, x, y => (m, x, y)
  | r + 1, s, m, x, y => if P s then tw P d r (s + 1) (m + 1) (if y ≤ d s then x else s) (min y (d s)) else tw P d r (s + 1) m x y
def pTw (S : SP) (t s : Nat) : Bool := decide (s ≠ t) && fAs S s t && decide (nxt S s = nxt S t)
def dTw (t s : Nat) : Nat := pcN (s ^^^ t)
def rTw (m x y : Nat) : List Int64 := if m = 0 then [] else [(nI x).toInt64, (nI y).toInt64]
section OPS
variable {N : Nat} {a : Ab} {b : Nat × Nat} {μ0 μ : Mem} {Q : Nat} {S : SP}
theorem imin_n {p q : Nat} (hp : p < 2 ^ 31) (hq : q < 2 ^ 31) : imin (nI p) (nI q) = nI (min p q) := by
  unfold imin
  by_cases c : q < p
  · rw [if_pos ((i_ltN hq hp).mpr c), Nat.min_eq_right (by omega)]
  · rw [if_neg (fun h => c ((i_ltN hq hp).mp h)), Nat.min_eq_left (by omega)]
theorem x_twins_lp (hN : N < 600) {t : Nat} (ht : t < 2 ^ (aS a).1) : ∀ r s m x y g (μ : Mem), s + r = 2 ^ (aS a).1 → m ≤ s → x < 2 ^ (aS a).1 → y ≤ 15 → r < g → XI N b a μ0 μ → ∃ μ', f_ob_meetWith_b21 g (nI t) (nI (nxt (aS a) t)) (nI m) (nI x) (nI y) (nI s) μ = some (nI (tw (pTw (aS a) t) (dTw t) r s m x y).1, μ') ∧ XO N (aSetR a (rTw (tw (pTw (aS a) t) (dTw t) r s m x y).1 (tw (pTw (aS a) t) (dTw t) r s m x y).2.1 (tw (pTw (aS a) t) (dTw t) r s m x y).2.2)) μ0 μ' := by
  intro r
  induction r with
  | zero =>
    intro s m x y g μ hs hm hx hy hg h
    obtain ⟨g, rfl⟩ : ∃ z, g = z + 1 := ⟨g - 1, by omega⟩
    have h14 := p2_14 h.1.1.1
    obtain ⟨μ', k1, k2, k3, k4⟩ := ob_answer h hN (m := m) (by omega) (nI x)
    rw [f_ob_meetWith_b21, st_everybody h.2.1.1, bd2_s, if_pos ((i_ltN (by omega) (by omega)).mpr (by omega)), k1, bd2_s, tw]
    unfold rTw
    by_cases c : m = 0
    · subst c
      rw [if_pos (show nI 0 ≤ 0 by decide), if_pos rfl]
      exact ⟨μ', rfl, k2⟩
    · have k3' : XW [(nI x).toInt64] μ' := by
        have := k3
        unfold rAns at this
        rw [if_neg c] at this
        exact this
      obtain ⟨μ2, b1, b2, b3⟩ := rw_add (nI y).toInt64 k3' (by simp)
      rw [if_neg (fun q => c (by have := (i_leN (a := m) (b := 0) (by omega) (by omega)).mp q; omega)), b1, bd1_s, if_neg c]
      exact ⟨μ2, rfl, h.told hN (by simp) b2 (k4.tr b3)⟩
  | succ r ih =>
    intro s m x y g μ hs hm hx hy hg h
    obtain ⟨g, rfl⟩ : ∃ z, g = z + 1 := ⟨g - 1, by omega⟩
    have h14 := p2_14 h.1.1.1
    have hsl : s < 2 ^ (aS a).1 := by omega
    have hn1 := nxt_lt (aS a) s
    have hn2 := nxt_lt (aS a) t
    have hxl : s ^^^ t < 2 ^ (aS a).1 := xor_lt hsl ht
    have hpc := pcN_le (s ^^^ t)
    rw [tw, f_ob_meetWith_b21, st_everybody h.2.1.1, bd2_s, if_neg (fun q => absurd ((i_ltN (by omega) (by omega)).mp q) (by omega))]
    by_cases c1 : s = t
    · rw [if_pos (by rw [c1]), if_neg (by unfold pTw; simp [c1]), l_1, i_add]
      exact ih (s + 1) m x y g μ (by omega) (by omega) hx hy (by omega) h
    · rw [if_neg (fun q => c1 (nI_inj (by omega) (by omega) q)), ob_firmAs h.2.1.1 hsl ht, bd2_s]
      cases hf : fAs (aS a) s t with
      | false =>
        rw [if_pos (show nI (bN false) = 0 by decide), if_neg (by unfold pTw; simp [hf]), l_1, i_add]
        exact ih (s + 1) m x y g μ (by omega) (by omega) hx hy (by omega) h
      | true =>
        obtain ⟨μ1, l1, l2, _⟩ := h.after hsl
        rw [if_neg (show ¬ nI (bN true) = 0 by decide), l1, bd2_s]
        by_cases c2 : nxt (aS a) s = nxt (aS a) t
        · rw [if_pos (by rw [c2]), if_pos (by unfold pTw; simp [hf, c1, c2]), i_xor, jd_bc (by omega), bd2_s, imin_n (by omega) (by omega), l_1, i_add, i_add]
          have e : (if nI y ≤ nI (pcN (s ^^^ t)) then nI x else nI s) = nI (if y ≤ dTw t s then x else s) := by
            unfold dTw
            by_cases c : y ≤ pcN (s ^^^ t)
            · rw [if_pos ((i_leN (by omega) (by omega)).mpr c), if_pos c]
            · rw [if_neg (fun q => c ((i_leN (by omega) (by omega)).mp q)), if_neg c]
          rw [e, bnd_s]
          exact ih (s + 1) (m + 1) _ _ g μ1 (by omega) (by omega) (by split <;> omega) (by have := Nat.min_le_left y (dTw t s); omega) (by omega) l2
        · rw [if_neg (fun q => c2 (nI_inj (by omega) (by omega) q)), if_neg (by unfold pTw; simp [c2]), l_1, i_add]
          exact ih (s + 1) m x y g μ1 (by omega) (by omega) hx hy (by omega) l2
def rB (m x : Nat) : Int32 := if m = 0 then -1 else nI x
def rF (m y : Nat) : Int32 := if m = 0 then 0 else nI y
theorem m_twins_lp (hN : N < 600) {t : Nat} (h : MI N Q a μ0 μ) (ht : t < 2 ^ (aS a).1) : ∀ r s m x y g, s + r = 2 ^ (aS a).1 → m ≤ s → x < 2 ^ (aS a).1 → y ≤ 15 → (m = 0 → y = 15) → r < g → ∃ μ', f_m_twins_b32 g (nI t) (nI (nxt (aS a) t)) (nI m) (rB m x) (rF m y) (nI s) μ = some (nI (tw (pTw (aS a) t) (dTw t) r s m x y).1, μ') ∧ MO N (aSetR a (rTw (tw (pTw (aS a) t) (dTw t) r s m x y).1 (tw (pTw (aS a) t) (dTw t) r s m x y).2.1 (tw (pTw (aS a) t) (dTw t) r s m x y).2.2)) μ0 μ' := by
  have h14 := p2_14 h.1.1.1
  intro r
  induction r with
  | zero =>
    intro s m x y g hs hm hx hy hmy hg
    obtain ⟨g, rfl⟩ : ∃ z, g = z + 1 := ⟨g - 1, by omega⟩
    rw [f_m_twins_b32, m_everybody h.2.1.1, bd2_s, if_pos ((i_ltN (by omega) (by omega)).mpr (by omega)), tw]
    unfold rTw rB rF
    by_cases c : m = 0
    · subst c
      rw [bnd_s, if_pos (show nI 0 ≤ 0 by decide), if_pos rfl]
      exact ⟨_, rfl, (m_tell0 h hN).1⟩
    · obtain ⟨μ', k1, k2, _⟩ := m_tell2 h hN (nI x).toInt64 (nI y).toInt64
      rw [if_neg c, if_neg c, if_neg c]
      refine ⟨μ', ?_, k2⟩
      rw [← k1 (fun μ4 => some (nI m, μ4))]
      rw [bnd_s, bnd_s, if_neg (fun q => c (by have := (i_leN (a := m) (b := 0) (by omega) (by omega)).mp q; omega))]
  | succ r ih =>
    intro s m x y g hs hm hx hy hmy hg
    obtain ⟨g, rfl⟩ : ∃ z, g = z + 1 := ⟨g - 1, by omega⟩
    have hsl : s < 2 ^ (aS a).1 := by omega
    have hn1 := nxt_lt (aS a) s
    have hn2 := nxt_lt (aS a) t
    have hxl : s ^^^ t < 2 ^ (aS a).1 := xor_lt hsl ht
    have hpc := pcN_le (s ^^^ t)
    rw [tw, f_m_twins_b32, m_everybody h.2.1.1, bd2_s, if_neg (fun q => absurd ((i_ltN (by omega) (by omega)).mp q) (by omega))]
    by_cases c1 : s = t
    · rw [if_pos (by rw [c1]), if_neg (by unfold pTw; simp [c1]), l_1, i_add]
      exact ih (s + 1) m x y g (by omega) (by omega) hx hy hmy (by omega)
    · rw [if_neg (fun q => c1 (nI_inj (by omega) (by omega) q)), m_firmAs h.2.1.1 hsl ht, bd2_s]
      cases hf : fAs (aS a) s t with
      | false =>
        rw [if_pos (show nI (bN false) = 0 by decide), if_neg (by unfold pTw; simp [hf]), l_1, i_add]
        exact ih (s + 1) m x y g (by omega) (by omega) hx hy hmy (by omega)
      | true =>
        rw [if_neg (show ¬ nI (bN true) = 0 by decide), m_next h.2.1.1 hsl, bd2_s]
        by_cases c2 : nxt (aS a) s = nxt (aS a) t
        · rw [if_pos (by rw [c2]), if_pos (by unfold pTw; simp [hf, c1, c2]), i_xor, jd_bc (by omega), bd2_s, l_1, i_add]
          have goal := ih (s + 1) (m + 1) (if y ≤ dTw t s then x else s) (min y (dTw t s)) g (by omega) (by omega) (by split <;> omega) (by have := Nat.min_le_left y (dTw t s); omega) (fun q => absurd q (by omega)) (by omega)
          have eB : rB (m + 1) (if y ≤ dTw t s then x else s) = nI (if y ≤ dTw t s then x else s) := if_neg (by omega)
          have eF : rF (m + 1) (min y (dTw t s)) = nI (min y (dTw t s)) := if_neg (by omega)
          rw [eB, eF] at goal
          have hd : dTw t s = pcN (s ^^^ t) := rfl
          rw [← hd]
          by_cases cm : m = 0
          · have e1 : rB m x = -1 := if_pos cm
            have hy15 := hmy cm
            rw [e1, show (-1 : Int32) = (-nI 1) from rfl, if_pos rfl]
            unfold f_m_twins_b98
            have q1 : (if y ≤ dTw t s then x else s) = s := if_neg (by omega)
            have q2 : min y (dTw t s) = dTw t s := Nat.min_eq_right (by omega)
            rw [q1, q2] at goal ⊢
            rw [l_1, i_add]
            exact goal
          · have e1 : rB m x = nI x := if_neg cm
            have e2 : rF m y = nI y := if_neg cm
            have hne : ¬ nI x = (-nI 1) := fun q => absurd (show nI x < 0 by rw [q]; decide) (i_nlt0 (by omega))
            rw [e1, e2, if_neg hne]
            by_cases c3 : dTw t s < y
            · rw [if_pos ((i_ltN (by omega) (by omega)).mpr c3)]
              unfold f_m_twins_b98
              have q1 : (if y ≤ dTw t s then x else s) = s := if_neg (by omega)
              have q2 : min y (dTw t s) = dTw t s := Nat.min_eq_right (by omega)
              rw [q1, q2] at goal ⊢
              rw [l_1, i_add]
              exact goal
            · rw [if_neg (fun q => c3 ((i_ltN (by omega) (by omega)).mp q)), i_add]
              have q1 : (if y ≤ dTw t s then x else s) = x := if_pos (by omega)
              have q2 : min y (dTw t s) = y := Nat.min_eq_left (by omega)
              rw [q1, q2] at goal ⊢
              exact goal
        · rw [if_neg (fun q => c2 (nI_inj (by omega) (by omega) q)), if_neg (by unfold pTw; simp [c2]), l_1, i_add]
          exact ih (s + 1) m x y g (by omega) (by omega) hx hy hmy (by omega)
theorem op_twins (x : Int32) : OpI N a (f_x_twins x) (f_m_twins x) := by
  intro hW hN
  have h14 := p2_14 hW.1.1
  have h1 := Nat.one_le_two_pow (n := (aS a).1)
  rcases i_casesQ x with hx | ⟨n, hn, rfl⟩
  · refine ⟨-nI 1, a, fun μ h => x_same h hN (by simp (disch := omega) only [l_0, l_1, l_2, l_3, l_4, l_5, l_6, l_7, l_8, l_9, l_10, l_14, l_15, l_16, l_20, l_31, l_40, l_48, l_50, l_57, l_60, l_64, l_76, l_80, l_99, l_100, l_127, l_196, l_200, l_201, l_202, l_255, l_412, l_999, l_1000, l_16000, l_1000000, i_add, i_mul, i_sub, i_leN, i_ltN, i_eqN, i_nleG, i_nltG, inb_n, cl_nI, chk_q, bnd_q, bd1_q, bd2_q, i_bitQ, i_oneQ, i_woQ, i_or, i_and, i_xor, zb_q0, zb_q1, zb_b, b_0Q, if_true, if_false, reduceCtorEq, if_pos, if_neg, f_x_twins, st_hasAllG hx]), fun ν h => m_start h fun Q ν1 _ hI _ => m_same hI hN ?_⟩
    simp (disch := omega) only [l_0, l_1, l_2, l_3, l_4, l_5, l_6, l_7, l_8, l_9, l_10, l_14, l_15, l_16, l_20, l_31, l_40, l_48, l_50, l_57, l_60, l_64, l_76, l_80, l_99, l_100, l_127, l_196, l_200, l_201, l_202, l_255, l_412, l_999, l_1000, l_16000, l_1000000, i_add, i_mul, i_sub, i_leN, i_ltN, i_eqN, i_nleG, i_nltG, inb_n, cl_nI, chk_q, bnd_q, bd1_q, bd2_q, i_bitQ, i_oneQ, i_woQ, i_or, i_and, i_xor, zb_q0, zb_q1, zb_b, b_0Q, if_true, if_false, reduceCtorEq, if_pos, if_neg, m_areSomeG hI.2.1.1 hx]
  by_cases hd : n < 2 ^ (aS a).1
  · refine ⟨nI (tw (pTw (aS a) n) (dTw n) (2 ^ (aS a).1) 0 0 0 15).1, aSetR a (rTw (tw (pTw (aS a) n) (dTw n) (2 ^ (aS a).1) 0 0 0 15).1 (tw (pTw (aS a) n) (dTw n) (2 ^ (aS a).1) 0 0 0 15).2.1 (tw (pTw (aS a) n) (dTw n) (2 ^ (aS a).1) 0 0 0 15).2.2), fun μ h => ?_, fun ν h => m_start h fun Q ν1 _ hI _ => ?_⟩
    · obtain ⟨μ1, l1, l2, _⟩ := h.XI.after hd
      obtain ⟨μ', k1, k2⟩ := x_twins_lp hN hd (2 ^ (aS a).1) 0 0 0 15 FU μ1 (by omega) (by omega) (by omega) (by omega) (by unfold FU; omega) l2
      refine ⟨μ', ?_, k2⟩
      unfold f_x_twins f_ob_meetWith
      rw [st_hasAll h.2.1.1 hn, bd2_s, decide_eq_true hd, if_neg (by decide), l1, bd2_s]
      have k1' : f_ob_meetWith_b21 FU (nI n) (nI (nxt (aS a) n)) (0 : Int32) (0 : Int32) (15 : Int32) (0 : Int32) μ1 = some (nI (tw (pTw (aS a) n) (dTw n) (2 ^ (aS a).1) 0 0 0 15).1, μ') := k1
      rw [k1', bd2_s]
    · obtain ⟨μ', k1, k2⟩ := m_twins_lp hN hI hd (2 ^ (aS a).1) 0 0 0 15 FU (by omega) (by omega) (by omega) (by omega) (fun _ => rfl) (by unfold FU; omega)
      refine ⟨μ', ?_, k2⟩
      rw [m_areSome hI.2.1.1 hn, bd2_s, decide_eq_true hd, if_neg (by decide), m_next hI.2.1.1 hd, bd2_s]
      exact k1
  · refine ⟨-nI 1, a, fun μ h => x_same h hN ?_, fun ν h => m_start h fun Q ν1 _ hI _ => m_same hI hN ?_⟩
    · simp (disch := omega) only [l_0, l_1, l_2, l_3, l_4, l_5, l_6, l_7, l_8, l_9, l_10, l_14, l_15, l_16, l_20, l_31, l_40, l_48, l_50, l_57, l_60, l_64, l_76, l_80, l_99, l_100, l_127, l_196, l_200, l_201, l_202, l_255, l_412, l_999, l_1000, l_16000, l_1000000, i_add, i_mul, i_sub, i_leN, i_ltN, i_eqN, i_nleG, i_nltG, inb_n, cl_nI, chk_q, bnd_q, bd1_q, bd2_q, i_bitQ, i_oneQ, i_woQ, i_or, i_and, i_xor, zb_q0, zb_q1, zb_b, b_0Q, if_true, if_false, reduceCtorEq, if_pos, if_neg, f_x_twins, st_hasAll h.2.1.1, decide_eq_false hd]
    · simp (disch := omega) only [l_0, l_1, l_2, l_3, l_4, l_5, l_6, l_7, l_8, l_9, l_10, l_14, l_15, l_16, l_20, l_31, l_40, l_48, l_50, l_57, l_60, l_64, l_76, l_80, l_99, l_100, l_127, l_196, l_200, l_201, l_202, l_255, l_412, l_999, l_1000, l_16000, l_1000000, i_add, i_mul, i_sub, i_leN, i_ltN, i_eqN, i_nleG, i_nltG, inb_n, cl_nI, chk_q, bnd_q, bd1_q, bd2_q, i_bitQ, i_oneQ, i_woQ, i_or, i_and, i_xor, zb_q0, zb_q1, zb_b, b_0Q, if_true, if_false, reduceCtorEq, if_pos, if_neg, m_areSome hI.2.1.1, decide_eq_false hd]
end OPS
