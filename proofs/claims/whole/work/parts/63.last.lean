/-! last: the reference. -/
section OPS
variable {N : Nat} {a : Ab} {b : Nat × Nat} {μ0 μ : Mem} {Q : Nat} {S : SP}
/-- comes again -/
def Rec (S : SP) (x : Nat) : Prop := ∃ n, 1 ≤ n ∧ itr S n x = x
theorem itr_com (S : SP) (i j s : Nat) : itr S i (itr S j s) = itr S j (itr S i s) := by rw [← itr_add, ← itr_add, Nat.add_comm]
theorem rho_rec {S : SP} {s t r : Nat} (h : Rho S s t r) (q : Nat) : Rec S (itr S q (itr S t s)) := ⟨r, h.1, by rw [itr_com, (rho_round h).1]⟩
theorem rec_in {S : SP} {s t r x j : Nat} (h : Rho S s t r) (hj : itr S j s = x) (hx : Rec S x) : ∃ q, q < r ∧ itr S q (itr S t s) = x := by
  obtain ⟨n, h1, h2⟩ := hx
  obtain ⟨q1, _⟩ := rho_round h
  have hr := h.1
  have hb : t ≤ j + n * t := by
    have : 1 * t ≤ n * t := Nat.mul_le_mul_right _ h1
    omega
  have e : itr S (j + n * t) s = x := by rw [itr_add, hj, itr_mul h2]
  refine ⟨(j + n * t - t) % r, Nat.mod_lt _ (by omega), ?_⟩
  rw [← itr_mod q1, ← itr_add, show t + (j + n * t - t) = j + n * t by omega, e]
def LsOk (S : SP) (w k : Nat) (μ : Mem) : Prop := ∀ x, x < 2 ^ S.1 → (μ.1 v_m_isLast x = 0 ∨ μ.1 v_m_isLast x = 1) ∧ (μ.1 v_m_isLast x = 1 ↔ Vis S w k x ∧ Rec S x)
theorem m_lastmark_lp (k37 : Int32 → Int32 → Int32 → Int32 → Mem → Option (Int32 × Mem)) (x1 x2 x3 x4 : Int32) {e r : Nat} (he : e < 2 ^ (aS a).1) (hr : r < 2 ^ 31) : ∀ m k g (μ : Mem), k + m = r → m < g → MI N Q a μ0 μ → μ.1 v_m_restRound 0 = nI r → ∃ μ', f_m_last_b124 k37 g x1 x2 x3 x4 (nI (itr (aS a) k e)) (nI k) μ = k37 x1 x2 x3 (x4 + 1) μ' ∧ MI N Q a μ0 μ' ∧ ∀ x, (μ'.1 v_m_isLast x = 1 ∧ ∃ j, k ≤ j ∧ j < r ∧ itr (aS a) j e = x) ∨ (μ'.1 v_m_isLast x = μ.1 v_m_isLast x ∧ ∀ j, k ≤ j → j < r → itr (aS a) j e ≠ x) := by
  intro m
  induction m with
  | zero =>
    intro k g μ hk hg h hq
    obtain ⟨g, rfl⟩ : ∃ z, g = z + 1 := ⟨g - 1, by omega⟩
    obtain rfl : k = r := by omega
    refine ⟨μ, ?_, h, fun x => Or.inr ⟨rfl, fun j q1 q2 => absurd q2 (by omega)⟩⟩
    rw [f_m_last_b124, hq, if_pos ((i_leN hr hr).mpr (Nat.le_refl _))]
  | succ m ih =>
    intro k g μ hk hg h hq
    obtain ⟨g, rfl⟩ : ∃ z, g = z + 1 := ⟨g - 1, by omega⟩
    have h14 := p2_14 h.1.1.1
    have hi := itr_lt (S := aS a) k he
    have hx := h.put (v := v_m_isLast) (itr (aS a) k e) 1 ⟨by unfold mIn; decide, by decide, by decide, by decide⟩
    obtain ⟨μ', k1, k2, k3⟩ := ih (k + 1) g _ (by omega) (by omega) hx (by rw [sI_v _ _ _ (by decide)]; exact hq)
    refine ⟨μ', ?_, k2, fun x => ?_⟩
    · rw [f_m_last_b124, hq, if_neg (fun q => absurd ((i_leN hr (by omega)).mp q) (by omega)), inb_n (by omega) (by omega), chk_t, cl_nI (by omega), show vp_nar .boolean (1 : Int32) = 1 from rfl, bnd_s, m_next hx.2.1.1 hi, bd2_s, ← itr_s, l_1, i_add]
      exact k1
    · rcases k3 x with ⟨q1, j, q2, q3⟩ | ⟨q1, q2⟩
      · exact Or.inl ⟨q1, j, by omega, q3⟩
      · by_cases c : x = itr (aS a) k e
        · left
          refine ⟨by rw [q1, c, sI_eq], k, Nat.le_refl _, by omega, c.symm⟩
        · right
          refine ⟨by rw [q1, sI_i _ _ _ c], fun j j1 j2 => ?_⟩
          by_cases d : j = k
          · subst d; exact fun q => c q.symm
          · exact q2 j (by omega) j2
theorem m_last_lp (hN : N < 600) : ∀ r k g Q (μ : Mem), k + r = 2 ^ (aS a).1 → r < g → Q + r ≤ 50000 * N + 50000 → MI N Q a μ0 μ → LsOk (aS a) (aN a) k μ → ∃ μ', f_m_last_b37 g (nI (lastF (aS a) (aN a) k).1) (nI (lastF (aS a) (aN a) k).2.1) (nI (lastF (aS a) (aN a) k).2.2) (nI k) μ = some (nI (lastF (aS a) (aN a) (2 ^ (aS a).1)).1, μ') ∧ MO N (aSetR a [(nI (lastF (aS a) (aN a) (2 ^ (aS a).1)).2.1).toInt64, (nI (lastF (aS a) (aN a) (2 ^ (aS a).1)).2.2).toInt64]) μ0 μ' := by
  intro r
  induction r with
  | zero =>
    intro k g Q μ hk hg hQ h hL
    obtain ⟨g, rfl⟩ : ∃ z, g = z + 1 := ⟨g - 1, by omega⟩
    have h14 := p2_14 h.1.1.1
    have h1p := Nat.one_le_two_pow (n := (aS a).1)
    obtain rfl : k = 2 ^ (aS a).1 := by omega
    obtain ⟨c1, c2⟩ := m_clear μ
    obtain ⟨μ1, a1, a2, a3⟩ := m_tell (nI (lastF (aS a) (aN a) (2 ^ (aS a).1)).2.1).toInt64 c1 (by simp)
    obtain ⟨μ2, b1, b2, b3⟩ := m_tell (nI (lastF (aS a) (aN a) (2 ^ (aS a).1)).2.2).toInt64 a2 (by simp)
    refine ⟨μ2, ?_, h.told hN (by simp) b2 ((c2.tr a3).tr b3)⟩
    rw [f_m_last_b37, m_everybody h.2.1.1, bd2_s, if_pos ((i_ltN (by omega) (by omega)).mpr (by omega)), bnd_s, a1, bd1_s, b1, bd1_s]
  | succ r ih =>
    intro k g Q μ hk hg hQ h hL
    obtain ⟨g, rfl⟩ : ∃ z, g = z + 1 := ⟨g - 1, by omega⟩
    have h14 := p2_14 h.1.1.1
    have hnow := now_lt h.1
    have hks : k < 2 ^ (aS a).1 := by omega
    obtain ⟨L1, L2, L3, L4⟩ := lastF_le (S := aS a) (w := aN a) h.1.1.1 (k + 1) (by omega)
    obtain ⟨K1, K2, K3, K4⟩ := lastF_le (S := aS a) (w := aN a) h.1.1.1 k (by omega)
    rw [f_m_last_b37, m_everybody h.2.1.1, bd2_s, if_neg (fun q => absurd ((i_ltN (by omega) (by omega)).mp q) (by omega)), m_now h.1 h.2.1.2.1, bd2_s, m_firmAs h.2.1.1 hks hnow, bd2_s]
    cases hfa : fAs (aS a) k (aN a) with
    | false =>
      rw [if_pos (show nI (bN false) = 0 by decide), l_1, i_add]
      have e : lastF (aS a) (aN a) (k + 1) = lastF (aS a) (aN a) k := by rw [lastF, hfa]; rfl
      rw [← e]
      refine ih (k + 1) g Q μ (by omega) (by omega) (by omega) h (fun x hx => ⟨(hL x hx).1, ?_⟩)
      rw [(hL x hx).2]
      constructor
      · rintro ⟨q1, q2⟩; exact ⟨q1.up, q2⟩
      · rintro ⟨q1, q2⟩
        rcases q1.cs with q | q
        · exact ⟨q, q2⟩
        · rw [hfa] at q; exact absurd q.1 (by decide)
    | true =>
      obtain ⟨t, p, hR⟩ := rho_ex hks
      have hp1 := hR.1
      have hp2 := hR.2.1
      have het := itr_lt (S := aS a) t hks
      obtain ⟨μ1, k1, k2, ⟨k3, k4, k5⟩, k6⟩ := m_find hks hR h (by omega)
      have hrec : Rec (aS a) (itr (aS a) t k) := rho_rec hR 0
      have hL1 : LsOk (aS a) (aN a) k μ1 := fun x hx => by rw [k6 _ (by decide)]; exact hL x hx
      rw [if_neg (show ¬ nI (bN true) = 0 by decide), k1, bd1_s, k4, k5, imax_n (by omega) (by omega), bnd_s, inb_n (by omega) (by omega), chk_t, cl_nI (by omega)]
      by_cases hv : Vis (aS a) (aN a) k (itr (aS a) t k)
      · have hnw : nwc (aS a) (aN a) k = false := nwc_f.mpr ⟨t, hv⟩
        have e : lastF (aS a) (aN a) (k + 1) = lastF (aS a) (aN a) k := by rw [lastF, hfa, hnw]; rfl
        have h4 := L4 k (by omega) hfa
        rw [rR_eq hR, e] at h4
        rw [(hL1 _ het).2.mpr ⟨hv, hrec⟩, if_neg (show ¬ (1 : Int32) = 0 by decide), Nat.max_eq_left h4, l_1, i_add, ← e]
        refine ih (k + 1) g (Q + 1) μ1 (by omega) (by omega) (by omega) k2 (fun x hx => ⟨(hL1 x hx).1, ?_⟩)
        rw [(hL1 x hx).2]
        constructor
        · rintro ⟨q1, q2⟩; exact ⟨q1.up, q2⟩
        · rintro ⟨q1, q2⟩
          rcases q1.cs with q | ⟨_, j, q⟩
          · exact ⟨q, q2⟩
          · obtain ⟨i, i1, i2⟩ := rec_in hR q q2
            rw [← i2]
            exact ⟨hv.nx i, by rw [i2]; exact q2⟩
      · have hnw : nwc (aS a) (aN a) k = true := nwc_t.mpr (by
          rintro ⟨i, hi⟩
          obtain ⟨m, hm⟩ := rho_back hR i
          exact hv (by rw [← hm]; exact hi.nx m))
        have e : lastF (aS a) (aN a) (k + 1) = ((lastF (aS a) (aN a) k).1 + p, (lastF (aS a) (aN a) k).2.1 + bN (decide (p = 1)), max (lastF (aS a) (aN a) k).2.2 p) := by
          rw [lastF, hfa, hnw, rR_eq hR]; rfl
        have h0 : μ1.1 v_m_isLast (itr (aS a) t k) = 0 := (hL1 _ het).1.resolve_right (fun q => hv ((hL1 _ het).2.mp q).1)
        have e2 : (if nI p = (1 : Int32) then (1 : Int32) else 0) = nI (bN (decide (p = 1))) := by
          rw [b_if]
          have : decide (nI p = (1 : Int32)) = decide (p = 1) := decide_eq_decide.mpr (i_eqN (b := 1) (by omega) (by omega))
          rw [this]
        obtain ⟨μ2, m1, m2, m3⟩ := m_lastmark_lp (f_m_last_b37 g) (nI ((lastF (aS a) (aN a) k).1 + p)) (nI ((lastF (aS a) (aN a) k).2.1 + bN (decide (p = 1)))) (nI (max (lastF (aS a) (aN a) k).2.2 p)) (nI k) het (r := p) (by omega) p 0 FU μ1 (by omega) (by unfold FU; omega) k2 k4
        rw [h0, if_pos rfl, e2, bnd_s, i_add, i_add, l_0]
        have m1' := m1
        rw [show itr (aS a) 0 (itr (aS a) t k) = itr (aS a) t k from rfl] at m1'
        rw [m1', l_1, i_add]
        have := ih (k + 1) g (Q + 1) μ2 (by omega) (by omega) (by omega) m2 (fun x hx => ?_)
        · rw [e] at this
          exact this
        · rcases m3 x with ⟨q1, j, q2, q3, q4⟩ | ⟨q1, q2⟩
          · rw [q1]
            refine ⟨Or.inr rfl, fun _ => ⟨⟨k, by omega, hfa, t + j, by rw [itr_add, q4]⟩, by rw [← q4]; exact rho_rec hR j⟩, fun _ => rfl⟩
          · rw [q1]
            refine ⟨(hL1 x hx).1, ?_⟩
            rw [(hL1 x hx).2]
            constructor
            · rintro ⟨q1, q2⟩; exact ⟨q1.up, q2⟩
            · rintro ⟨z1, z2⟩
              rcases z1.cs with q | ⟨_, j, q⟩
              · exact ⟨q, z2⟩
              · obtain ⟨i, i1, i2⟩ := rec_in hR q z2
                exact absurd i2 (q2 i (by omega) i1)
theorem m_last0_lp (hN : N < 600) (hQ : Q + 16384 ≤ 50000 * N + 50000) : ∀ r k g (μ : Mem), k + r = 2 ^ (aS a).1 → r < g → MI N Q a μ0 μ → (∀ x, x < k → μ.1 v_m_isLast x = 0) → ∃ μ', f_m_last_b7 g (nI k) μ = some (nI (lastF (aS a) (aN a) (2 ^ (aS a).1)).1, μ') ∧ MO N (aSetR a [(nI (lastF (aS a) (aN a) (2 ^ (aS a).1)).2.1).toInt64, (nI (lastF (aS a) (aN a) (2 ^ (aS a).1)).2.2).toInt64]) μ0 μ' := by
  intro r
  induction r with
  | zero =>
    intro k g μ hk hg h h0
    obtain ⟨g, rfl⟩ : ∃ z, g = z + 1 := ⟨g - 1, by omega⟩
    have h14 := p2_14 h.1.1.1
    have h1p := Nat.one_le_two_pow (n := (aS a).1)
    obtain rfl : k = 2 ^ (aS a).1 := by omega
    obtain ⟨μ', k1, k2⟩ := m_last_lp hN (2 ^ (aS a).1) 0 FU Q μ (by omega) (by unfold FU; omega) (by omega) h (fun x hx => ⟨Or.inl (h0 x hx), fun q => by rw [h0 x hx] at q; exact absurd q (by decide), fun q => by
      obtain ⟨⟨s, s1, _⟩, _⟩ := q
      exact absurd s1 (by omega)⟩)
    refine ⟨μ', ?_, k2⟩
    rw [f_m_last_b7, m_everybody h.2.1.1, bd2_s, if_pos ((i_ltN (by omega) (by omega)).mpr (by omega))]
    exact k1
  | succ r ih =>
    intro k g μ hk hg h h0
    obtain ⟨g, rfl⟩ : ∃ z, g = z + 1 := ⟨g - 1, by omega⟩
    have h14 := p2_14 h.1.1.1
    have hx := h.put (v := v_m_isLast) k 0 ⟨by unfold mIn; decide, by decide, by decide, by decide⟩
    rw [f_m_last_b7, m_everybody h.2.1.1, bd2_s, if_neg (fun q => absurd ((i_ltN (by omega) (by omega)).mp q) (by omega)), inb_n (by omega) (by omega), chk_t, cl_nI (by omega), show vp_nar .boolean (0 : Int32) = 0 from rfl, bnd_s, l_1, i_add]
    refine ih (k + 1) g _ (by omega) (by omega) hx (fun x hx' => ?_)
    by_cases e : x = k
    · rw [e, sI_eq]
    · rw [sI_i _ _ _ e]; exact h0 x (by omega)
theorem op_last : OpI N a f_x_last f_m_last := by
  intro hW hN
  have h14 := p2_14 hW.1.1
  refine ⟨nI (lastF (aS a) (aN a) (2 ^ (aS a).1)).1, aSetR a [(nI (lastF (aS a) (aN a) (2 ^ (aS a).1)).2.1).toInt64, (nI (lastF (aS a) (aN a) (2 ^ (aS a).1)).2.2).toInt64], fun μ h => ?_, fun ν h => m_start h fun Q ν1 hQ hI _ => ?_⟩
  · obtain ⟨μ1, b1, b2, b3, _⟩ := me_begin h.XI (by show 4 * N + 1 ≤ _; omega)
    obtain ⟨μ', k1, k2⟩ := x_last_lp hN (2 ^ (aS a).1) 0 FU _ μ1 (by omega) (by unfold FU; omega) b2 b3 (fun x hx => ⟨fun m q => absurd q (by simp), fun q => by
      obtain ⟨s, s1, _⟩ := q
      exact absurd s1 (by omega)⟩)
    refine ⟨μ', ?_, k2⟩
    unfold f_x_last f_ob_comeAgain
    rw [st_now hW h.2.1, bd2_s, h.2.1.1.1, b1, bd1_s]
    have k1' := k1
    rw [show (lastF (aS a) (aN a) 0) = (0, 0, 0) from rfl] at k1'
    rw [l_0, k1', bd2_s]
  · exact m_last0_lp hN (by omega) (2 ^ (aS a).1) 0 FU ν1 (by omega) (by unfold FU; omega) hI (fun x hx => absurd hx (by omega))
end OPS
