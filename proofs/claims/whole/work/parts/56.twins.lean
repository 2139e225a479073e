/-! twins. -/
def tw (P : Nat → Bool) (d : Nat → Nat) : Nat → Nat → Nat → Nat → Nat → Nat × Nat × Nat
  | 0, _, m, x, y => (m, x, y)
  | r + 1, s, m, x, y => if P s then tw P d r (s + 1) (m + 1) (if y ≤ d s then x else s) (min y (d s)) else tw P d r (s + 1) m x y
def pTw (S : SP) (t s : Nat) : Bool := decide (s ≠ t) && fAs S s t && decide (nxt S s = nxt S t)
def dTw (t s : Nat) : Nat := pcN (s ^^^ t)
def rTw (m x y : Nat) : List Int64 := if m = 0 then [] else [(nI x).toInt64, (nI y).toInt64]
section OPS
variable {N : Nat} {a : Ab} {b : Nat × Nat} {μ0 μ : Mem} {Q : Nat} {S : SP}
theorem imin_n {p q : Nat} (hp : p < 2 ^ 31) (hq : q < 2 ^ 31) : imin (nI p) (nI q) = nI (min p q) := by
  unfold imin
  by_cases c : q < p
  · rw [if_pos ((i_ltN hq hp).mpr c), Nat.min_eq_right (by omega)]
  · rw [if_neg (fun h => c ((i_ltN hq hp).mp h)), Nat.min_eq_left (by omega)]
theorem x_twins_lp (hN : N < 600) {t : Nat} (ht : t < 2 ^ (aS a).1) : ∀ r s m x y g (μ : Mem), s + r = 2 ^ (aS a).1 → m ≤ s → x < 2 ^ (aS a).1 → y ≤ 15 → r < g → XI N b a μ0 μ → ∃ μ', f_ob_meetWith_b21 g (nI t) (nI (nxt (aS a) t)) (nI m) (nI x) (nI y) (nI s) μ = some (nI (tw (pTw (aS a) t) (dTw t) r s m x y).1, μ') ∧ XO N (aSetR a (rTw (tw (pTw (aS a) t) (dTw t) r s m x y).1 (tw (pTw (aS a) t) (dTw t) r s m x y).2.1 (tw (pTw (aS a) t) (dTw t) r s m x y).2.2)) μ0 μ' := by
  intro r
  induction r with
  | zero =>
    intro s m x y g μ hs hm hx hy hg h
    obtain ⟨g, rfl⟩ : ∃ z, g = z + 1 := ⟨g - 1, by omega⟩
    have h14 := p2_14 h.1.1.1
    obtain ⟨μ', k1, k2, k3, k4⟩ := ob_answer h hN (m := m) (by omega) (nI x)
    rw [f_ob_meetWith_b21, st_everybody h.2.1.1, bd2_s, if_pos ((i_ltN (by omega) (by omega)).mpr (by omega)), k1, bd2_s, tw]
    unfold rTw
    by_cases c : m = 0
    · subst c
      rw [if_pos (show nI 0 ≤ 0 by decide), if_pos rfl]
      exact ⟨μ', rfl, k2⟩
    · have k3' : XW [(nI x).toInt64] μ' := by
        have := k3
        unfold rAns at this
        rw [if_neg c] at this
        exact this
      obtain ⟨μ2, b1, b2, b3⟩ := rw_add (nI y).toInt64 k3' (by simp)
      rw [if_neg (fun q => c (by have := (i_leN (a := m) (b := 0) (by omega) (by omega)).mp q; omega)), b1, bd1_s, if_neg c]
      exact ⟨μ2, rfl, h.told hN (by simp) b2 (k4.tr b3)⟩
  | succ r ih =>
    intro s m x y g μ hs hm hx hy hg h
    obtain ⟨g, rfl⟩ : ∃ z, g = z + 1 := ⟨g - 1, by omega⟩
    have h14 := p2_14 h.1.1.1
    have hsl : s < 2 ^ (aS a).1 := by omega
    have hn1 := nxt_lt (aS a) s
    have hn2 := nxt_lt (aS a) t
    have hxl : s ^^^ t < 2 ^ (aS a).1 := xor_lt hsl ht
    have hpc := pcN_le (s ^^^ t)
    rw [tw, f_ob_meetWith_b21, st_everybody h.2.1.1, bd2_s, if_neg (fun q => absurd ((i_ltN (by omega) (by omega)).mp q) (by omega))]
    by_cases c1 : s = t
    · rw [if_pos (by rw [c1]), if_neg (by unfold pTw; simp [c1]), l_1, i_add]
      exact ih (s + 1) m x y g μ (by omega) (by omega) hx hy (by omega) h
    · rw [if_neg (fun q => c1 (nI_inj (by omega) (by omega) q)), ob_firmAs h.2.1.1 hsl ht, bd2_s]
      cases hf : fAs (aS a) s t with
      | false =>
        rw [if_pos (show nI (bN false) = 0 by decide), if_neg (by unfold pTw; simp [hf]), l_1, i_add]
        exact ih (s + 1) m x y g μ (by omega) (by omega) hx hy (by omega) h
      | true =>
        obtain ⟨μ1, l1, l2, _⟩ := h.after hsl
        rw [if_neg (show ¬ nI (bN true) = 0 by decide), l1, bd2_s]
        by_cases c2 : nxt (aS a) s = nxt (aS a) t
        · rw [if_pos (by rw [c2]), if_pos (by unfold pTw; simp [hf, c1, c2]), i_xor, jd_bc (by omega), bd2_s, imin_n (by omega) (by omega), l_1, i_add, i_add]
          have e : (if nI y ≤ nI (pcN (s ^^^ t)) then nI x else nI s) = nI (if y ≤ dTw t s then x else s) := by
            unfold dTw
            by_cases c : y ≤ pcN (s ^^^ t)
            · rw [if_pos ((i_leN (by omega) (by omega)).mpr c), if_pos c]
            · rw [if_neg (fun q => c ((i_leN (by omega) (by omega)).mp q)), if_neg c]
          rw [e, bnd_s]
          exact ih (s + 1) (m + 1) _ _ g μ1 (by omega) (by omega) (by split <;> omega) (by have := Nat.min_le_left y (dTw t s); omega) (by omega) l2
        · rw [if_neg (fun q => c2 (nI_inj (by omega) (by omega) q)), if_neg (by unfold pTw; simp [c2]), l_1, i_add]
          exact ih (s + 1) m x y g μ1 (by omega) (by omega) hx hy (by omega) l2
end OPS
