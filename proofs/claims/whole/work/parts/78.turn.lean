/-! acquaintances on trial. -/
def trV (lo : Nat → Nat → Nat) (i j : Nat) : Nat := if lo i j + lo j i = 0 then 1 else 0
/-- both hear each other so -/
def both (lo : Nat → Nat → Nat) (i j x y : Nat) : Nat → Nat → Nat := up2 (up2 lo i j x) j i y
def trS (S : SP) (i j : Nat) : SP := (S.1, both S.2.1 i j (trV S.2.1 i j) (trV S.2.1 i j), S.2.2.1, S.2.2.2)
theorem trV_le (lo : Nat → Nat → Nat) (i j : Nat) : trV lo i j ≤ 1 := by unfold trV; split <;> omega
theorem both_ok {S : SP} (h : SOk S) {i j x y : Nat} (hx : x ≤ 9) (hy : y ≤ 9) : SOk (S.1, both S.2.1 i j x y, S.2.2.1, S.2.2.2) := ⟨h.1, fun k l => by
  show both S.2.1 i j x y k l ≤ 9
  unfold both up2
  have := h.2.1 k l
  split
  · exact hy
  · split
    · exact hx
    · exact this, h.2.2.1, h.2.2.2⟩
theorem trS_ok {S : SP} (h : SOk S) (i j : Nat) : SOk (trS S i j) := by
  have := trV_le S.2.1 i j
  exact both_ok h (by omega) (by omega)
theorem both_back {lo : Nat → Nat → Nat} {i j x y : Nat} (hij : i ≠ j) : both (both lo i j x y) i j (lo i j) (lo j i) = lo := by
  funext k l
  unfold both up2
  by_cases h1 : k = j ∧ l = i
  · rw [if_pos h1, h1.1, h1.2]
  · rw [if_neg h1]
    by_cases h2 : k = i ∧ l = j
    · rw [if_pos h2, h2.1, h2.2]
    · rw [if_neg h2, if_neg h1, if_neg h2]
theorem both_1 (lo : Nat → Nat → Nat) {i j x y : Nat} (hij : i ≠ j) : both lo i j x y i j = x := by
  unfold both
  rw [up2_ne _ _ (fun q => hij q.1), up2_eq]
theorem both_2 (lo : Nat → Nat → Nat) (i j x y : Nat) : both lo i j x y j i = y := up2_eq _ _ _ _
theorem both_ne (lo : Nat → Nat → Nat) {i j x y k l : Nat} (h1 : ¬ (k = i ∧ l = j)) (h2 : ¬ (k = j ∧ l = i)) : both lo i j x y k l = lo k l := by
  unfold both
  rw [up2_ne _ _ h2, up2_ne _ _ h1]
theorem i_neg1 : ∀ v, v < 10 → ∀ o, o < 10 → (-1 : Int32) * (nI v - nI o) = nI o - nI v := by decide +kernel
section OPS
variable {N : Nat} {a : Ab} {b : Nat × Nat} {μ0 μ : Mem} {Q : Nat} {S S1 : SP}
theorem st_isPair (h : XB S μ) {i j : Nat} (hi : i < S.1) (hj : j < S.1) : f_st_isPair (nI i) (nI j) μ = some (nI (bN (decide (0 < S.2.1 i j + S.2.1 j i))), μ) := by
  have hp := h.2.2.2.2.1
  have h1 := h.2.2.2.2.2.1 i j
  have h2 := h.2.2.2.2.2.1 j i
  unfold f_st_isPair f_st_isPair_b22
  rw [inb_n (show i < 14 by omega) (by omega), chk_t, inb_n (show j < 14 by omega) (by omega), chk_t, cl_nI (by omega), cl_nI (by omega), h.2.1 i j (by omega) (by omega), h.2.1 j i (by omega) (by omega)]
  by_cases c1 : 0 < S.2.1 i j
  · rw [if_pos (show (0 : Int32) < nI (S.2.1 i j) from (i_ltN (a := 0) (by omega) (by omega)).mpr c1), zb_1, chk_t, decide_eq_true (by omega)]
    rfl
  · rw [if_neg (show ¬ (0 : Int32) < nI (S.2.1 i j) from fun q => c1 ((i_ltN (a := 0) (by omega) (by omega)).mp q)), chk_t, chk_t, b_ifn, bnd_s, zb_b, chk_t]
    have : decide (¬ nI (S.2.1 j i) ≤ 0) = decide (0 < S.2.1 i j + S.2.1 j i) := decide_eq_decide.mpr (by rw [show (0 : Int32) = nI 0 from rfl, i_leN (by omega) (by omega)]; omega)
    rw [this]
/-- two loudnesses added, two bars raised -/
theorem x_addT (h : XI N b a μ0 μ) (hS : Tr (aS a) S1) (hT : HT S1 1 μ) {i j n1 n2 : Nat} (hij : i ≠ j) (hi : i < (aS a).1) (hj : j < (aS a).1) (h1 : n1 ≤ 9) (h2 : n2 ≤ 9) {x3 : Int32} (hx : x3 * (nI (trV (aS a).2.1 i j) - nI ((aS a).2.1 i j)) = nI n1 - nI (S1.2.1 i j)) (hy : x3 * (nI (trV (aS a).2.1 i j) - nI ((aS a).2.1 j i)) = nI n2 - nI (S1.2.1 j i)) : ∃ μ', f_he_turnPair 1 (nI i) (nI j) x3 μ = some μ' ∧ XI N b a μ0 μ' ∧ HT (S1.1, both S1.2.1 i j n1 n2, S1.2.2.1, S1.2.2.2) 1 μ' := by
  have hp := h.1.1.1
  obtain ⟨s1, s2, s3⟩ := hS
  have hi1 : i < S1.1 := by rw [s1]; exact hi
  have hj1 : j < S1.1 := by rw [s1]; exact hj
  have hB := h.2.1.1
  have hm0 := hT.m (fun k => decide (k = i) || decide (k = j))
  have hm1 := HTm.add s3 hm0 hi1 hj1 h1 (by simp)
  have ok1 : SOk (S1.1, up2 S1.2.1 i j n1, S1.2.2.1, S1.2.2.2) := ⟨s3.1, fun k l => by
    show up2 S1.2.1 i j n1 k l ≤ 9
    unfold up2
    have := s3.2.1 k l
    split <;> omega, s3.2.2.1, s3.2.2.2⟩
  have hX1 := h.trial (addM_fr 1 i j (nI n1 - nI (S1.2.1 i j)) μ)
  have e2 : up2 S1.2.1 i j n1 j i = S1.2.1 j i := up2_ne _ _ (fun q => hij q.2)
  have hm2 := HTm.add (S := (S1.1, up2 S1.2.1 i j n1, S1.2.2.1, S1.2.2.2)) ok1 hm1 hj1 hi1 h2 (by simp)
  have hX2 := hX1.trial (addM_fr 1 j i (nI n2 - nI (S1.2.1 j i)) _)
  have ok2 : SOk (S1.1, both S1.2.1 i j n1 n2, S1.2.2.1, S1.2.2.2) := both_ok s3 h1 h2
  have hm2' : HTm (S1.1, both S1.2.1 i j n1 n2, S1.2.2.1, S1.2.2.2) 1 (fun k => decide (k = i) || decide (k = j)) (addM 1 j i (nI n2 - nI (S1.2.1 j i)) (addM 1 i j (nI n1 - nI (S1.2.1 i j)) μ)) := by
    have := hm2
    rw [show (S1.1, up2 S1.2.1 i j n1, S1.2.2.1, S1.2.2.2).2.1 j i = S1.2.1 j i from e2] at this
    exact this
  obtain ⟨μ3, c1, c2, c3⟩ := HTm.bar (S := (S1.1, both S1.2.1 i j n1 n2, S1.2.2.1, S1.2.2.2)) (i := i) hX2.2.1.1 s2.symm ok2 hm2' hi1
  have hX3 := hX2.trial c3
  obtain ⟨μ4, d1, d2, d3⟩ := HTm.bar (S := (S1.1, both S1.2.1 i j n1 n2, S1.2.2.1, S1.2.2.2)) (i := j) hX3.2.1.1 s2.symm ok2 c2 hj1
  have hX4 := hX3.trial d3
  refine ⟨μ4, ?_, hX4, d2.ok (fun k => ?_)⟩
  · have hv : (if nI (bN (decide (0 < (aS a).2.1 i j + (aS a).2.1 j i))) = 0 then (1 : Int32) else 0) = nI (trV (aS a).2.1 i j) := by
      unfold trV
      by_cases c : (aS a).2.1 i j + (aS a).2.1 j i = 0
      · rw [decide_eq_false (by omega), if_pos (by decide), if_pos c]; rfl
      · rw [decide_eq_true (by omega), if_neg (by decide), if_neg c]; rfl
    unfold f_he_turnPair
    rw [st_isPair hB hi hj, bd2_s, hv, bnd_s, inb_n (show i < 14 by omega) (by omega), chk_t, inb_n (show j < 14 by omega) (by omega), chk_t, cl_nI (show i < 2 ^ 31 by omega), cl_nI (show j < 2 ^ 31 by omega), hB.2.1 i j (by omega) (by omega), hx, he_addLoud 1 (by omega) (by omega), bd1_s, chk_t, chk_t, hX1.2.1.1.2.1 j i (by omega) (by omega), hy, he_addLoud 1 (by omega) (by omega), bd1_s, c1, bd1_s, d1, bd1_s]
  · by_cases e1 : k = i <;> by_cases e2 : k = j <;> simp [e1, e2]
theorem x_turn (h : XI N b a μ0 μ) (hS : Tr (aS a) S1) (hT : HT S1 1 μ) {i j : Nat} (hij : i ≠ j) (hi : i < (aS a).1) (hj : j < (aS a).1) (e1 : S1.2.1 i j = (aS a).2.1 i j) (e2 : S1.2.1 j i = (aS a).2.1 j i) : ∃ μ', f_he_turnPair 1 (nI i) (nI j) 1 μ = some μ' ∧ XI N b a μ0 μ' ∧ HT (trS S1 i j) 1 μ' := by
  have hv := trV_le (aS a).2.1 i j
  have e3 : trV S1.2.1 i j = trV (aS a).2.1 i j := by unfold trV; rw [e1, e2]
  obtain ⟨μ', k1, k2, k3⟩ := x_addT (x3 := 1) (n1 := trV S1.2.1 i j) (n2 := trV S1.2.1 i j) h hS hT hij hi hj (by omega) (by omega) (by rw [Int32.one_mul, e3, e1]) (by rw [Int32.one_mul, e3, e2])
  exact ⟨μ', k1, k2, k3⟩
theorem x_back (h : XI N b a μ0 μ) (hS : Tr (aS a) S1) {i j : Nat} (hT : HT (trS S1 i j) 1 μ) (hij : i ≠ j) (hi : i < (aS a).1) (hj : j < (aS a).1) (e1 : S1.2.1 i j = (aS a).2.1 i j) (e2 : S1.2.1 j i = (aS a).2.1 j i) : ∃ μ', f_he_turnPair 1 (nI i) (nI j) (-1) μ = some μ' ∧ XI N b a μ0 μ' ∧ HT S1 1 μ' := by
  have hv := trV_le (aS a).2.1 i j
  have h9a := hS.2.2.2.1 i j
  have h9b := hS.2.2.2.1 j i
  have e3 : trV S1.2.1 i j = trV (aS a).2.1 i j := by unfold trV; rw [e1, e2]
  have b1 : (trS S1 i j).2.1 i j = trV (aS a).2.1 i j := by rw [← e3]; exact both_1 _ hij
  have b2 : (trS S1 i j).2.1 j i = trV (aS a).2.1 i j := by rw [← e3]; exact both_2 _ _ _ _ _
  obtain ⟨μ', k1, k2, k3⟩ := x_addT (S1 := trS S1 i j) (x3 := -1) (n1 := S1.2.1 i j) (n2 := S1.2.1 j i) h ⟨hS.1, hS.2.1, trS_ok hS.2.2 i j⟩ hT hij hi hj h9a h9b (by rw [b1, e1]; exact i_neg1 _ (by omega) _ (by omega)) (by rw [b2, e2]; exact i_neg1 _ (by omega) _ (by omega))
  refine ⟨μ', k1, k2, ?_⟩
  · have e : both (trS S1 i j).2.1 i j (S1.2.1 i j) (S1.2.1 j i) = S1.2.1 := both_back hij
    have k3' : HT (S1.1, both (trS S1 i j).2.1 i j (S1.2.1 i j) (S1.2.1 j i), S1.2.2.1, S1.2.2.2) 1 μ' := k3
    rw [e] at k3'
    exact k3'
/-! the reference -/
theorem MI.loud2 (h : MI N Q a μ0 μ) {i j x y : Nat} (hij : i ≠ j) (hi : i < (aS a).1) (hj : j < (aS a).1) (hx : x ≤ 9) (hy : y ≤ 9) : MI N Q (aSetS a ((aS a).1, both (aS a).2.1 i j x y, (aS a).2.2.1, (aS a).2.2.2)) μ0 (setI (setI μ v_m_loud (14 * i + j) (nI x)) v_m_loud (14 * j + i) (nI y)) := by
  have hB := h.2.1.1
  have hp := h.1.1.1
  have hok := both_ok (i := i) (j := j) h.1.1 hx hy
  have e : ∀ v, v ≠ 137 → (setI (setI μ v_m_loud (14 * i + j) (nI x)) v_m_loud (14 * j + i) (nI y)).1 v = μ.1 v := fun v hv => by rw [sI_v _ _ _ hv, sI_v _ _ _ hv]
  refine h.street (S := ((aS a).1, both (aS a).2.1 i j x y, (aS a).2.2.1, (aS a).2.2.2)) rfl ⟨hok, fun k l hkl => ?_⟩ (fun v _ h2 => e v h2) rfl ⟨by rw [e _ (by decide)]; exact hB.1, fun k l hk hl => ?_, fun k hk => by rw [e _ (by decide)]; exact hB.2.2.1 k hk, by rw [e _ (by decide)]; exact hB.2.2.2.1, hok⟩
  · show both (aS a).2.1 i j x y k l = 0
    have hkl' : (aS a).1 ≤ k ∨ (aS a).1 ≤ l := hkl
    rw [both_ne _ (fun q => by omega) (fun q => by omega)]
    exact h.1.2.1 k l hkl
  · show _ = nI (both (aS a).2.1 i j x y k l)
    by_cases c2 : k = j ∧ l = i
    · rw [c2.1, c2.2, sI_eq, both_2]
    · rw [sI_i _ _ _ (show 14 * k + l ≠ 14 * j + i from fun q => c2 ⟨by omega, by omega⟩)]
      by_cases c1 : k = i ∧ l = j
      · rw [c1.1, c1.2, sI_eq, both_1 _ hij]
      · rw [sI_i _ _ _ (show 14 * k + l ≠ 14 * i + j from fun q => c1 ⟨by omega, by omega⟩), both_ne _ c1 c2]
        exact hB.2.1 k l hk hl
theorem m_chg (h : MI N Q a μ0 μ) {i j kp : Nat} (hij : i ≠ j) (hi : i < (aS a).1) (hj : j < (aS a).1) (hk : kp ≤ 2) : ∃ μ', f_m_changePair (nI i) (nI j) (nI kp) μ = some μ' ∧ MI N Q (aSetS a (trS (aS a) i j)) μ0 μ' ∧ μ'.1 v_m_loudWas kp = nI ((aS a).2.1 i j) ∧ μ'.1 v_m_loudWas (kp + 1) = nI ((aS a).2.1 j i) ∧ ∀ k, k < kp → μ'.1 v_m_loudWas k = μ.1 v_m_loudWas k := by
  have hp := h.1.1.1
  have h9a := h.1.1.2.1 i j
  have h9b := h.1.1.2.1 j i
  have hv := trV_le (aS a).2.1 i j
  have hB := h.2.1.1
  have hx1 := h.put (v := v_m_loudWas) kp (nI ((aS a).2.1 i j)) ⟨by unfold mIn; decide, by decide, by decide, by decide⟩
  have hx2 := hx1.put (v := v_m_loudWas) (kp + 1) (nI ((aS a).2.1 j i)) ⟨by unfold mIn; decide, by decide, by decide, by decide⟩
  have hx3 := hx2.loud2 (x := trV (aS a).2.1 i j) (y := trV (aS a).2.1 i j) hij hi hj (by omega) (by omega)
  have hne : kp ≠ kp + 1 := by omega
  refine ⟨_, ?_, hx3, ?_, ?_, fun k hk' => ?_⟩
  · have hvv : (if nI ((aS a).2.1 i j + (aS a).2.1 j i) = 0 then (1 : Int32) else 0) = nI (trV (aS a).2.1 i j) := by
      unfold trV
      by_cases c : (aS a).2.1 i j + (aS a).2.1 j i = 0
      · rw [if_pos (by rw [c]; rfl), if_pos c]; rfl
      · rw [if_neg (nI_nz (by omega) c), if_neg c]; rfl
    unfold f_m_changePair
    rw [l_14, i_mul, i_add, inb_n (show 14 * i + j < 196 by omega) (by omega), chk_t, inb_n (show kp < 4 by omega) (by omega), chk_t, cl_nI (show 14 * i + j < 2 ^ 31 by omega), cl_nI (show kp < 2 ^ 31 by omega), hB.2.1 i j (by omega) (by omega), bnd_s, i_mul, i_add, inb_n (show 14 * j + i < 196 by omega) (by omega), chk_t, show nI kp + 1 = nI (kp + 1) from i_add kp 1, inb_n (show kp + 1 < 4 by omega) (by omega), chk_t, cl_nI (show kp + 1 < 2 ^ 31 by omega), cl_nI (show 14 * j + i < 2 ^ 31 by omega), sI_v _ _ _ (by decide), hB.2.1 j i (by omega) (by omega), bnd_s, chk_t, chk_t, sI_i _ _ _ hne, sI_eq, sI_eq, i_add, hvv, bnd_s, chk_t, bnd_s, chk_t, bnd_s]
  · rw [sI_v _ _ _ (by decide), sI_v _ _ _ (by decide), sI_i _ _ _ hne, sI_eq]
  · rw [sI_v _ _ _ (by decide), sI_v _ _ _ (by decide), sI_eq]
  · rw [sI_v _ _ _ (by decide), sI_v _ _ _ (by decide), sI_i _ _ _ (by omega), sI_i _ _ _ (by omega)]
theorem m_bck (hW : WF a) {i j kp : Nat} (h : MI N Q (aSetS a (trS (aS a) i j)) μ0 μ) (hij : i ≠ j) (hi : i < (aS a).1) (hj : j < (aS a).1) (hk : kp ≤ 2) (w1 : μ.1 v_m_loudWas kp = nI ((aS a).2.1 i j)) (w2 : μ.1 v_m_loudWas (kp + 1) = nI ((aS a).2.1 j i)) : ∃ μ', f_m_changeBack (nI i) (nI j) (nI kp) μ = some μ' ∧ MI N Q a μ0 μ' ∧ μ'.1 v_m_loudWas = μ.1 v_m_loudWas := by
  have hp := hW.1.1
  have h9a := hW.1.2.1 i j
  have h9b := hW.1.2.1 j i
  have hx := h.loud2 (x := (aS a).2.1 i j) (y := (aS a).2.1 j i) hij hi hj h9a h9b
  have hfin : MI N Q a μ0 (setI (setI μ v_m_loud (14 * i + j) (nI ((aS a).2.1 i j))) v_m_loud (14 * j + i) (nI ((aS a).2.1 j i))) := by
    have e : both (trS (aS a) i j).2.1 i j ((aS a).2.1 i j) ((aS a).2.1 j i) = (aS a).2.1 := both_back hij
    have hx' : MI N Q (aSetS a ((aS a).1, both (trS (aS a) i j).2.1 i j ((aS a).2.1 i j) ((aS a).2.1 j i), (aS a).2.2.1, (aS a).2.2.2)) μ0 (setI (setI μ v_m_loud (14 * i + j) (nI ((aS a).2.1 i j))) v_m_loud (14 * j + i) (nI ((aS a).2.1 j i))) := hx
    rw [e] at hx'
    exact hx'
  refine ⟨_, ?_, hfin, by rw [sI_v _ _ _ (by decide), sI_v _ _ _ (by decide)]⟩
  · unfold f_m_changeBack
    rw [inb_n (show kp < 4 by omega) (by omega), chk_t, l_14, i_mul, i_add, inb_n (show 14 * i + j < 196 by omega) (by omega), chk_t, cl_nI (show 14 * i + j < 2 ^ 31 by omega), cl_nI (show kp < 2 ^ 31 by omega), w1, bnd_s, show nI kp + 1 = nI (kp + 1) from i_add kp 1, inb_n (show kp + 1 < 4 by omega) (by omega), chk_t, i_mul, i_add, inb_n (show 14 * j + i < 196 by omega) (by omega), chk_t, cl_nI (show 14 * j + i < 2 ^ 31 by omega), cl_nI (show kp + 1 < 2 ^ 31 by omega), sI_v _ _ _ (by decide), w2, bnd_s]
/-- whether all believe within n DAYS, in a street S -/
def soB (a : Ab) (S : SP) (n : Nat) : Bool := (dyF S (2 ^ (aS a).1 - 1) n (aN a)).isSome
theorem m_isSo (h : MI N Q a μ0 μ) {n : Nat} (hn : n < 19000) : f_m_isSo (nI n) μ = some (nI (bN (soB a (aS a) n)), μ) := by
  have hnow := now_lt h.1
  unfold f_m_isSo soB
  rw [m_everybody h.2.1.1, bd2_s, m_now h.1 h.2.1.2.1, bd2_s, m_dayOf h.2.1.1 (ev_lt _) hnow hn, bd2_s]
  by_cases c : dyF (aS a) (2 ^ (aS a).1 - 1) n (aN a) = none
  · rw [if_pos ((dyF_ne hn).mpr c), bnd_s, zb_0, chk_t, c]; rfl
  · rw [if_neg (fun q => c ((dyF_ne hn).mp q)), bnd_s, zb_1, chk_t, Option.isSome_iff_ne_none.mpr c]; rfl
theorem m_isSoBy (h : MI N Q a μ0 μ) {n i j kp : Nat} (hn : n < 19000) (hij : i ≠ j) (hi : i < (aS a).1) (hj : j < (aS a).1) (hk : kp ≤ 2) : ∃ μ', f_m_isSoBy (nI i) (nI j) (nI n) (nI kp) μ = some (nI (bN (soB a (trS (aS a) i j) n)), μ') ∧ MI N Q a μ0 μ' ∧ ∀ k, k < kp → μ'.1 v_m_loudWas k = μ.1 v_m_loudWas k := by
  obtain ⟨μ1, a1, a2, a3, a4, a5⟩ := m_chg h hij hi hj hk
  have hso : f_m_isSo (nI n) μ1 = some (nI (bN (soB a (trS (aS a) i j) n)), μ1) := m_isSo a2 hn
  obtain ⟨μ2, b1, b2, b3⟩ := m_bck h.1 a2 hij hi hj hk a3 a4
  refine ⟨μ2, ?_, b2, fun k hk' => by rw [b3]; exact a5 k hk'⟩
  unfold f_m_isSoBy
  rw [a1, bd1_s, hso, bd2_s, b1, bd1_s, zb_b, chk_t]
/-! the class: a pair's number -/
theorem ac_one (h : XB S μ) {i j : Nat} (hi : i < S.1) (hj : j < S.1) : f_ac_one (nI (i * S.1 + j)) μ = some (nI i, μ) ∧ f_ac_other (nI (i * S.1 + j)) μ = some (nI j, μ) := by
  have hp := h.2.2.2.2.1
  have hb : i * S.1 + j < 2 ^ 31 := by
    have : i * S.1 ≤ 14 * 14 := Nat.mul_le_mul (by omega) (by omega)
    omega
  have h0 : 0 < S.1 := by omega
  have e1 : (i * S.1 + j) / S.1 = i := by rw [Nat.mul_comm, Nat.mul_add_div h0, Nat.div_eq_of_lt hj, Nat.add_zero]
  have e2 : (i * S.1 + j) % S.1 = j := by rw [Nat.mul_comm, Nat.mul_add_mod, Nat.mod_eq_of_lt hj]
  have hne : ¬ nI S.1 = 0 := nI_nz (by omega) (by omega)
  unfold f_ac_one f_ac_other
  rw [h.1, if_neg (show ¬ nI S.1 ≤ 0 from fun q => absurd ((i_leN (b := 0) (by omega) (by omega)).mp q) (by omega)), if_neg (show ¬ nI S.1 ≤ 0 from fun q => absurd ((i_leN (b := 0) (by omega) (by omega)).mp q) (by omega)), decide_eq_true hne, chk_t, chk_t, pk_rem hb h0 (by omega), pk_div hb h0 (by omega), e1, e2]
  exact ⟨rfl, rfl⟩
theorem x_turnP (h : XI N b a μ0 μ) (hS : Tr (aS a) S1) (hT : HT S1 1 μ) {i j : Nat} (hij : i ≠ j) (hi : i < (aS a).1) (hj : j < (aS a).1) (e1 : S1.2.1 i j = (aS a).2.1 i j) (e2 : S1.2.1 j i = (aS a).2.1 j i) : ∃ μ', f_ac_turn (nI (i * (aS a).1 + j)) 1 μ = some μ' ∧ XI N b a μ0 μ' ∧ HT (trS S1 i j) 1 μ' := by
  obtain ⟨μ', k1, k2⟩ := x_turn h hS hT hij hi hj e1 e2
  refine ⟨μ', ?_, k2⟩
  unfold f_ac_turn
  rw [(ac_one h.2.1.1 hi hj).1, bd2_s, (ac_one h.2.1.1 hi hj).2, bd2_s, k1, bd1_s]
theorem x_backP (h : XI N b a μ0 μ) (hS : Tr (aS a) S1) {i j : Nat} (hT : HT (trS S1 i j) 1 μ) (hij : i ≠ j) (hi : i < (aS a).1) (hj : j < (aS a).1) (e1 : S1.2.1 i j = (aS a).2.1 i j) (e2 : S1.2.1 j i = (aS a).2.1 j i) : ∃ μ', f_ac_turn (nI (i * (aS a).1 + j)) (-1) μ = some μ' ∧ XI N b a μ0 μ' ∧ HT S1 1 μ' := by
  obtain ⟨μ', k1, k2⟩ := x_back h hS hT hij hi hj e1 e2
  refine ⟨μ', ?_, k2⟩
  unfold f_ac_turn
  rw [(ac_one h.2.1.1 hi hj).1, bd2_s, (ac_one h.2.1.1 hi hj).2, bd2_s, k1, bd1_s]
theorem x_does (h : XI N b a μ0 μ) (hS : Tr (aS a) S1) (hT : HT S1 1 μ) {n i j : Nat} (hn : n < 19000) (hij : i ≠ j) (hi : i < (aS a).1) (hj : j < (aS a).1) (e1 : S1.2.1 i j = (aS a).2.1 i j) (e2 : S1.2.1 j i = (aS a).2.1 j i) : ∃ μ', f_ac_doesIt (nI (i * (aS a).1 + j)) (nI n) μ = some (nI (bN (soB a (trS S1 i j) n)), μ') ∧ XI N b a μ0 μ' ∧ HT S1 1 μ' := by
  obtain ⟨μ1, k1, k2, k3⟩ := x_turnP h hS hT hij hi hj e1 e2
  have hd := x_dayT k2 (S1 := trS S1 i j) ⟨hS.1, hS.2.1, trS_ok hS.2.2 i j⟩ k3 hn
  obtain ⟨μ2, l1, l2, l3⟩ := x_backP k2 hS k3 hij hi hj e1 e2
  refine ⟨μ2, ?_, l2, l3⟩
  unfold f_ac_doesIt soB
  rw [k1, bd1_s, hd, bd2_s]
  by_cases c : dyF (trS S1 i j) (2 ^ (aS a).1 - 1) n (aN a) = none
  · rw [if_pos ((dyF_ne hn).mpr c), bnd_s, l1, bd1_s, zb_0, chk_t, c]; rfl
  · rw [if_neg (fun q => c ((dyF_ne hn).mp q)), bnd_s, l1, bd1_s, zb_1, chk_t, Option.isSome_iff_ne_none.mpr c]; rfl
end OPS
